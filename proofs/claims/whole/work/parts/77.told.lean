/-! THE MODEL: told deeds, days -/
section
variable {d : Nat} {h : PH} {Q : Option PV → PH → Prop}
variable {A : AS} {g : PG} {st : Nat → Int}
theorem m_whyNot (X : MG h g st) {v : Int} (hq : Q (some (vI (deedS g st v).1)) h) : C2 (d + 3) mX11_whyNot [vR 247, vJ v] h Q := by
  have ok1 := X.1.1
  unfold deedS at hq
  refine EX11_whyNot fun hv => BX11_whyNot_0 (m_within (fun _ => ⟨fun z1 => ?_, fun z1 => ?_⟩))
  · have h1 := if00 z1
    refine m_within (fun _ => ⟨fun z2 => ?_, fun z2 => ?_⟩)
    · have h2 := if00 z2
      refine m_within (fun _ => ⟨fun z3 => ?_, fun z3 => ?_⟩)
      · have h3 := if00 z3
        refine m_within (fun _ => ⟨fun z4 => ?_, fun z4 => ?_⟩)
        · have h4 := if00 z4
          refine m_within (fun _ => ⟨fun z5 => ?_, fun z5 => ?_⟩)
          · have h5 := if00 z5
            by_cases c : v < 10 ∨ 25999 < v
            · rw [if_pos c] at hq; exact hq
            · rw [if_neg c, if_neg (by omega), if_neg (by omega), if_neg (by omega), if_neg (by omega), if_neg (by omega)] at hq; exact hq
          · have h5 := if01 z5
            rw [if_neg (by omega), if_neg (by omega), if_neg (by omega), if_neg (by omega), if_neg (by omega), if_pos (by omega)] at hq
            rw [w64_of (x := v - 20000) (by omega) (by omega), Int.tdiv_eq_ediv_of_nonneg (by omega), Int.tmod_eq_emod_of_nonneg (by omega), w64_of (x := (v - 20000) / 1000) (by omega) (by omega), w64_of (by omega) (by omega)]
            exact m_whyMove X (fun _ => hq)
        · have h4 := if01 z4
          rw [if_neg (by omega), if_neg (by omega), if_neg (by omega), if_neg (by omega), if_pos (by omega)] at hq
          rw [w64_of (x := v - 10000) (by omega) (by omega), Int.tdiv_eq_ediv_of_nonneg (by omega), Int.tmod_eq_emod_of_nonneg (by omega), w64_of (x := (v - 10000) / 1000) (by omega) (by omega), w64_of (by omega) (by omega)]
          exact m_whyMove X (fun _ => hq)
      · have h3 := if01 z3
        rw [if_neg (by omega), if_neg (by omega), if_neg (by omega), if_pos (by omega)] at hq
        unfold bindS at hq
        rw [w64_of (x := v - 1000) (by omega) (by omega), Int.tdiv_eq_ediv_of_nonneg (by omega), Int.tmod_eq_emod_of_nonneg (by omega), w64_of (x := (v - 1000) / 100) (by omega) (by omega)]
        refine m_isShape (d := d + 1) X (fun _ => ⟨fun y => ?_, fun y => ⟨fun x => ?_, fun x => ⟨fun w => ?_, fun w => ?_⟩⟩⟩)
        · have := if00 y
          rw [if_pos (by omega)] at hq; exact hq
        · have := if01 y
          rw [if_pos x, if_neg (by omega)] at hq; exact hq
        · rw [if_neg x, if_pos (by omega)] at hq; exact hq
        · have := if01 y
          rw [if_neg x, if_neg (by omega)] at hq; exact hq
    · have h2 := if01 z2
      rw [if_neg (by omega), if_neg (by omega), if_pos (by omega)] at hq
      unfold flipS at hq
      rw [w64_of (x := v - 100) (by omega) (by omega)]
      refine m_isWord (d := d + 1) X (fun _ => ⟨fun y => ?_, fun y => ?_⟩)
      · have := if00 y
        rw [if_pos (by omega)] at hq; exact hq
      · have := if01 y
        rw [if_neg (by omega)] at hq; exact hq
  · have h1 := if01 z1
    rw [if_neg (by omega), if_pos (by omega)] at hq
    unfold dyeS at hq
    rw [if_neg (by omega)] at hq
    exact hq
def frSt2 : Nat → Nat → Prop := fun q k => q = 248 ∧ 91 ≤ k ∧ k < 111
theorem m_does (X : MG h g st) {v : Int} (hv : (deedS g st v).1 = 0) (hq : ∀ h', MSt h' (deedS g st v).2 → fr frSt2 h h' → Q none h') : C2 d mX11_does [vR 247, vI v] h Q := by
  have ok1 := X.1.1
  have hS := X.2.2.2
  have put : ∀ (k : Nat) (x : Int) (h' : PH), k < 20 → h' = si h 248 (91 + k) x → (deedS g st v).2 = upf st k x → Q none h' := fun k x h' hk e e2 => by
    subst e
    exact hq _ (by rw [e2]; exact hS.upd) (fr.rf.si (by unfold frSt2; omega))
  have lo : ¬ (v < 10 ∨ 25999 < v) := fun c => by
    unfold deedS at hv
    rw [if_pos c] at hv; exact absurd hv (show ¬ (1 : Int) = 0 by decide)
  have mv : ∀ (ax : Int) (K : Nat) (B : Int), (ax = 0 ∧ K = 0 ∧ B = 10000 ∨ ax = 1 ∧ K = 6 ∧ B = 20000) → B ≤ v → v ≤ B + 5999 → deedS g st v = shiftS g st ((v - B) / 1000) ax (v % 1000 - 100) → ∀ h', h' = si h 248 (w32 (91 + K + w32 (Int.tdiv (w32 (v - B)) 1000))).toNat (w32 (gi h 248 (w32 (91 + K + w32 (Int.tdiv (w32 (v - B)) 1000))).toNat + w32 (Int.tmod v 1000 - 100))) → (0 ≤ w32 (91 + K + w32 (Int.tdiv (w32 (v - B)) 1000)) ∧ w32 (91 + K + w32 (Int.tdiv (w32 (v - B)) 1000)) < 3639) ∧ Q none h' := by
    intro ax K B hc h1 h2 hd h' e
    rw [hd] at hv
    obtain ⟨⟨s1, s2, s3, s4, s5, s6⟩, s7⟩ := shiftS_0 hv
    obtain ⟨n, hn⟩ := ex_nat (show 0 ≤ (v - B) / 1000 by omega)
    rw [w32_r (x := v - B) (by omega) (by omega), Int.tdiv_eq_ediv_of_nonneg (by omega), Int.tmod_eq_emod_of_nonneg (by omega), hn, w32_r (x := (n : Int)) (by omega) (by omega), w32_r (x := v % 1000 - 100) (by omega) (by omega), w32_r (x := 91 + (K : Int) + (n : Int)) (by omega) (by omega), show (91 + (K : Int) + (n : Int)).toNat = 91 + (K + n) by omega] at e
    rw [w32_r (x := v - B) (by omega) (by omega), Int.tdiv_eq_ediv_of_nonneg (by omega), hn, w32_r (x := (n : Int)) (by omega) (by omega), w32_r (x := 91 + (K : Int) + (n : Int)) (by omega) (by omega)]
    refine ⟨⟨by omega, by omega⟩, ?_⟩
    have sr := X.2.1.1 n (by omega)
    rw [hS (K + n) (by omega), w32_r] at e
    · refine put (K + n) _ h' (by omega) e ?_
      rw [hd, s7, hn, Int.toNat_natCast]
      rcases hc with ⟨a, b, -⟩ | ⟨a, b, -⟩
      · rw [a, b, if_pos rfl]
      · rw [a, b, if_neg (by decide)]
    · rcases hc with ⟨a, b, -⟩ | ⟨a, b, -⟩
      · rw [b, Nat.zero_add]; omega
      · rw [b]; omega
    · rcases hc with ⟨a, b, -⟩ | ⟨a, b, -⟩
      · rw [b, Nat.zero_add]; omega
      · rw [b]; omega
  refine EX11_does fun _ => BX11_does_0 ⟨fun z1 => ⟨fun z2 => ⟨fun z3 => ⟨fun z4 => ?_, fun z4 => ?_⟩, fun z3 => ?_⟩, fun z2 h1 e1 => ?_⟩, fun z1 h1 e1 => ?_⟩
  · have b5 : 20000 ≤ v := by
      by_cases c : 20000 ≤ v
      · exact c
      · exfalso
        unfold deedS at hv
        rw [if_neg lo, if_neg (by omega), if_neg (by omega), if_neg (by omega), if_neg (by omega), if_neg c] at hv
        exact absurd hv (show ¬ (1 : Int) = 0 by decide)
    have hd : deedS g st v = shiftS g st ((v - 20000) / 1000) 1 (v % 1000 - 100) := by
      unfold deedS
      rw [if_neg lo, if_neg (by omega), if_neg (by omega), if_neg (by omega), if_neg (by omega), if_pos b5]
    have := mv 1 6 20000 (Or.inr ⟨rfl, rfl, rfl⟩) b5 (by omega) hd
    rw [show (91 : Int) + ((6 : Nat) : Int) = 97 from rfl] at this
    exact ⟨(this _ rfl).1, (this _ rfl).1, fun h1 e1 => (this h1 e1).2⟩
  · have b4 : 10000 ≤ v := by
      by_cases c : 10000 ≤ v
      · exact c
      · exfalso
        unfold deedS at hv
        rw [if_neg lo, if_neg (by omega), if_neg (by omega), if_neg (by omega), if_neg (by omega), if_neg (by omega)] at hv
        exact absurd hv (show ¬ (1 : Int) = 0 by decide)
    have hd : deedS g st v = shiftS g st ((v - 10000) / 1000) 0 (v % 1000 - 100) := by
      unfold deedS
      rw [if_neg lo, if_neg (by omega), if_neg (by omega), if_neg (by omega), if_pos (by omega)]
    have := mv 0 0 10000 (Or.inl ⟨rfl, rfl, rfl⟩) b4 (by omega) hd
    rw [show (91 : Int) + ((0 : Nat) : Int) = 91 from rfl] at this
    exact ⟨(this _ rfl).1, (this _ rfl).1, fun h1 e1 => (this h1 e1).2⟩
  · have b3 : 1000 ≤ v := by
      by_cases c : 1000 ≤ v
      · exact c
      · exfalso
        unfold deedS at hv
        rw [if_neg lo, if_neg (by omega), if_neg (by omega), if_neg (by omega), if_neg (by omega), if_neg (by omega)] at hv
        exact absurd hv (show ¬ (1 : Int) = 0 by decide)
    have hd : deedS g st v = bindS g st ((v - 1000) / 100) (if v % 100 = 99 then -1 else v % 100) := by
      unfold deedS
      rw [if_neg lo, if_neg (by omega), if_neg (by omega), if_pos (by omega)]
    rw [hd] at hv
    have hb := bindS_rg g st ((v - 1000) / 100) (if v % 100 = 99 then -1 else v % 100)
    have h2 : (bindS g st ((v - 1000) / 100) (if v % 100 = 99 then -1 else v % 100)).2 = upf st (12 + ((v - 1000) / 100).toNat) (if v % 100 = 99 then -1 else v % 100) := by
      unfold bindS at hv ⊢
      by_cases c : (v - 1000) / 100 < 0 ∨ g_S g ≤ (v - 1000) / 100 ∨ (if v % 100 = 99 then -1 else v % 100) < -1 ∨ 30 ≤ (if v % 100 = 99 then -1 else v % 100)
      · rw [if_pos c] at hv; exact absurd hv (show ¬ (1 : Int) = 0 by decide)
      · rw [if_neg c]
    obtain ⟨n, hn⟩ := ex_nat (show 0 ≤ (v - 1000) / 100 by omega)
    have hn2 := hb.2.2 hv
    rw [hn] at h2 hn2
    rw [w32_r (x := v - 1000) (by omega) (by omega), Int.tdiv_eq_ediv_of_nonneg (by omega), Int.tmod_eq_emod_of_nonneg (by omega), hn, w32_r (x := (n : Int)) (by omega) (by omega), w32_r (x := 103 + (n : Int)) (by omega) (by omega), show (103 + (n : Int)).toNat = 91 + (12 + n) by omega]
    rw [Int.toNat_natCast] at h2
    refine ⟨fun c => ⟨⟨by omega, by omega⟩, fun h1 e1 => ?_⟩, fun c => ⟨⟨by omega, by omega⟩, fun h1 e1 => ?_⟩⟩
    · refine put (12 + n) _ h1 (by omega) e1 ?_
      rw [hd, hn, h2, if_neg c]
    · refine put (12 + n) _ h1 (by omega) e1 ?_
      rw [hd, hn, h2, if_pos c]
  · have b2 : 100 ≤ v := by
      by_cases c : 100 ≤ v
      · exact c
      · exfalso
        unfold deedS at hv
        rw [if_neg lo, if_neg (by omega), if_neg (by omega), if_neg (by omega), if_neg (by omega), if_neg (by omega)] at hv
        exact absurd hv (show ¬ (1 : Int) = 0 by decide)
    have hd : deedS g st v = flipS g st (v - 100) := by
      unfold deedS
      rw [if_neg lo, if_neg (by omega), if_pos (by omega)]
    rw [hd] at hv
    have e18 : gi h 248 109 = st 18 := hS 18 (by omega)
    rw [e18, w32_r (x := v - 100) (by omega) (by omega)] at e1
    refine put 18 _ h1 (by omega) e1 ?_
    rw [hd]
    unfold flipS at hv ⊢
    by_cases c : v - 100 < 0 ∨ g_W g ≤ v - 100
    · rw [if_pos c] at hv; exact absurd hv (show ¬ (1 : Int) = 0 by decide)
    · rw [if_neg c]
  · have hd : deedS g st v = dyeS st (v - 10) := by
      unfold deedS
      rw [if_neg lo, if_pos (by omega)]
    rw [w32_r (x := v - 10) (by omega) (by omega)] at e1
    refine put 19 _ h1 (by omega) e1 ?_
    rw [hd]
    unfold dyeS
    rw [if_neg (by omega)]
theorem m_noTray (X : RM h A) {t : Int} (hq : Q (some (vI (noT A t))) h) : C2 (d + 1) mX11_noTray [vR 247, vI t] h Q := by
  unfold noT at hq
  refine EX11_noTray fun _ => BX11_noTray_0 (m_within (fun _ => ⟨fun z => ?_, fun z => ?_⟩))
  · have ht := if01 z
    have ht2 : jT t := by unfold jT; omega
    rw [if_pos ht2] at hq
    have e := (X.2.2.2.2.2.2.2.1.1 t.toNat (by omega)).1
    rw [e]
    refine ⟨⟨by omega, by omega⟩, fun y => ?_, fun y => ?_⟩
    · rw [if_neg y] at hq; exact hq
    · rw [if_pos y] at hq; exact hq
  · have ht := if00 z
    have ht2 : ¬ jT t := by unfold jT; omega
    rw [if_neg ht2] at hq; exact hq
end
