/-! THE MODEL: trays, drawer, images, feeding -/
section
variable {d : Nat} {h : PH} {Q : Option PV → PH → Prop}
variable {A : AS}
def frTd : Nat → Nat → Prop := fun q k => frMs q k ∨ (274 ≤ q ∧ q ≤ 278) ∨ (q = 247 ∧ (k = 52 ∨ k = 53))
theorem frTd_o {q k : Nat} (z : frTd q k) : frMo q k := by unfold frTd frMs at z; unfold frMo; omega
theorem RM.newTD {h h' : PH} {B : AS} (X : RM h A) (hF : fr frTd h h') (hok : AOK B) (e1 : B.1 = A.1) (e2 : B.2.1 = A.2.1) (e3 : B.2.2.1 = A.2.2.1) (e4 : B.2.2.2.1 = A.2.2.2.1) (e5 : B.2.2.2.2.1 = A.2.2.2.2.1) (hT : MTr h' B) (hD : MDr h' B) : RM h' B := by
  obtain ⟨ok, ⟨a1, a2⟩, ⟨b1, b2⟩, c1, d1, ⟨p1, p2⟩, f1, -, -⟩ := X
  have G : ∀ q k, ¬ frTd q k → gi h' q k = gi h q k := hF.1
  have g8 : ∀ k, gi h' 248 k = gi h 248 k := fun k => G _ _ (by unfold frTd frMs; omega)
  have n1 : A_n B = A_n A := by unfold A_n; rw [e1]
  have n2 : A_tp B = A_tp A := by unfold A_tp; rw [e1]
  have n3 : A_fa B = A_fa A := by unfold A_fa; rw [e2]
  have n4 : A_fp B = A_fp A := by unfold A_fp; rw [e2]
  have n5 : A_g B = A_g A := by unfold A_g; rw [e3]
  have n6 : A_st B = A_st A := by unfold A_st; rw [e3]
  have n7 : A_pa B = A_pa A := by unfold A_pa; rw [e4]
  have n8 : A_im B = A_im A := by unfold A_im; rw [e5]
  refine ⟨hok, ⟨by rw [n1, G _ _ (by unfold frTd frMs; omega)]; exact a1, fun i hi => by rw [n2, G _ _ (by unfold frTd frMs; omega)]; rw [n1] at hi; exact a2 i hi⟩, ⟨by rw [n3, G _ _ (by unfold frTd frMs; omega)]; exact b1, by rw [n4, G _ _ (by unfold frTd frMs; omega)]; exact b2⟩, by rw [n5]; exact c1.keep ok.1 (fun j _ _ => g8 _), fun k hk => by rw [n6, g8]; exact d1 k hk, by rw [n7]; exact ⟨by rw [g8]; exact p1, fun i hi k hk => by rw [g8]; exact p2 i hi k hk⟩, ?_, hT, hD⟩
  rw [n8]
  refine fun i hi => ⟨fun z => by rw [G _ _ (by unfold frTd frMs; omega)]; exact (f1 i hi).1 z, fun gs z => ?_⟩
  obtain ⟨z1, z2, z3⟩ := (f1 i hi).2 gs z
  exact ⟨by rw [G _ _ (by unfold frTd frMs; omega)]; exact z1, z2.keep (ok.im z) (fun j _ _ => g8 _), fun k hk => by rw [g8]; exact z3 k hk⟩
theorem n_drawer (X : RM h A) {k n : Int} (hq : ∀ h', RM h' (o_drawer A k n).2 → fr frMo h h' → Q (some (vI (o_drawer A k n).1)) h') : C2 (d + 1) mX11_drawer [vR 247, vI k, vI n] h Q := by
  unfold o_drawer at hq
  refine EX11_drawer fun _ _ => BX11_drawer_0 (fun h1 e1 => ?_)
  obtain ⟨X1, F1⟩ := X.z e1
  refine m_within (fun _ => ⟨fun z => ?_, fun z => ?_⟩)
  · have hk := if01 z
    refine m_within (fun _ => ⟨fun y h2 e2 h3 e3 => ?_, fun y => ?_⟩)
    · have hn := if01 y
      rw [if_neg (by omega), if_neg (by omega)] at hq
      obtain ⟨o1, o2, o3, o4, o5, o6, o7⟩ := X.1
      have F3 : fr frTd h1 h3 := by subst e3 e2; exact (fr.rf.si (by unfold frTd; omega)).si (by unfold frTd; omega)
      have loop : ∀ (m j : Nat) (h4 : PH), j + m = 9 → (∀ i, i < j → gi h4 274 i = -1) → fr (fun q _ => q = 274) h3 h4 → T2 (d + 1) mX11_drawer 47 [some (vR 247), none, none, some (vI (j : Int))] [] h4 Q := by
        intro m
        induction m with
        | zero =>
          intro j h4 hj h5 hF
          refine BX11_drawer_47 ⟨fun _ => ?_, fun z => by omega⟩
          have F4 : fr frTd h1 h4 := F3.tr (hF.mono (fun q k z => by unfold frTd; omega))
          obtain ⟨t1, t2⟩ := X1.2.2.2.2.2.2.2.1
          obtain ⟨u1, u2, u3⟩ := X1.2.2.2.2.2.2.2.2
          have g47 : ∀ q k, q ≠ 274 → gi h4 q k = gi h3 q k := fun q k z => hF.1 _ _ z
          refine hq h4 (X1.newTD F4 ⟨o1, o2, o3, o4, o5, o6, ?_⟩ rfl rfl rfl rfl rfl ⟨fun i hi => ?_, fun i hi => ?_⟩ ⟨?_, ?_, fun i hi => ⟨?_, ?_⟩⟩) (F1.tr (F4.mono (fun q k z => frTd_o z)))
          · show -1 ≤ k ∧ k ≤ 2 ∧ 0 ≤ n ∧ n ≤ 9 ∧ ∀ j, -1 ≤ (if j < 9 then -1 else A_kx A j)
            refine ⟨by omega, by omega, by omega, by omega, fun j => ?_⟩
            have := o7.2.2.2.2 j
            split <;> omega
          · rw [g47 _ _ (by omega), g47 _ _ (by omega)]; subst e3 e2; simp (disch := omega) only [gi_s0, gi_s1, gi_s2, gj_s0, gj_s1, gj_s2, gi_f0, gi_f1, gj_f0, gj_f1, gr_r0, gr_r1, gr_r2, gi_sj, gi_sr, gj_si, gj_sr, gr_si, gr_sj, gr_stI, gj_stI, gi_stJ, gr_stJ]; exact t1 i hi
          · rw [hF.2.1 _ _ (by omega)]; subst e3 e2; exact t2 i hi
          · rw [g47 _ _ (by omega)]; subst e3 e2; simp (disch := omega) only [gi_s0, gi_s1, gi_s2, gj_s0, gj_s1, gj_s2, gi_f0, gi_f1, gj_f0, gj_f1, gr_r0, gr_r1, gr_r2, gi_sj, gi_sr, gj_si, gj_sr, gr_si, gr_sj, gr_stI, gj_stI, gi_stJ, gr_stJ]; rfl
          · rw [g47 _ _ (by omega)]; subst e3; simp (disch := omega) only [gi_s0, gi_s1, gi_s2, gj_s0, gj_s1, gj_s2, gi_f0, gi_f1, gj_f0, gj_f1, gr_r0, gr_r1, gr_r2, gi_sj, gi_sr, gj_si, gj_sr, gr_si, gr_sj, gr_stI, gj_stI, gi_stJ, gr_stJ]; rfl
          · show gi h4 274 i = if i < 9 then -1 else A_kx A i
            rw [if_pos hi]; exact h5 i (by omega)
          · rw [g47 _ _ (by omega)]; subst e3 e2; simp (disch := omega) only [gi_s0, gi_s1, gi_s2, gj_s0, gj_s1, gj_s2, gi_f0, gi_f1, gj_f0, gj_f1, gr_r0, gr_r1, gr_r2, gi_sj, gi_sr, gj_si, gj_sr, gr_si, gr_sj, gr_stI, gj_stI, gi_stJ, gr_stJ]; exact (u3 i hi).2
        | succ m ih =>
          intro j h4 hj h5 hF
          refine BX11_drawer_47 ⟨fun z => by omega, fun _ => ⟨⟨by omega, by omega⟩, fun h6 e6 => ?_⟩⟩
          simp only [Int.toNat_natCast] at e6
          subst e6
          rw [w32_r (by omega) (by omega), show (j : Int) + 1 = ((j + 1 : Nat) : Int) by omega]
          refine ih (j + 1) _ (by omega) (fun i hi => ?_) (hF.si rfl)
          by_cases e : i = j
          · rw [e, gi_s0]
          · rw [gi_s2 (by omega)]; exact h5 i (by omega)
      exact loop 9 0 h3 (by omega) (fun i hi => absurd hi (Nat.not_lt_zero i)) fr.rf
    · have hn := if00 y
      rw [if_neg (by omega), if_pos (by omega)] at hq
      exact hq h1 X1 F1
  · have hk := if00 z
    rw [if_pos (by omega)] at hq
    exact hq h1 X1 F1
theorem n_keep (X : RM h A) {p s : Int} (hq : ∀ h', RM h' (o_keep A p s).2 → fr frMo h h' → Q (some (vI (o_keep A p s).1)) h') : C2 (d + 2) mX11_keep [vR 247, vI p, vI s] h Q := by
  unfold o_keep noD at hq
  have ok1 := X.1.1.1
  obtain ⟨o1, o2, o3, o4, o5, o6, o7⟩ := X.1
  refine EX11_keep fun _ _ => BX11_keep_0 (fun h1 e1 => ?_)
  obtain ⟨X1, F1⟩ := X.z e1
  obtain ⟨t1, t2⟩ := X1.2.2.2.2.2.2.2.1
  obtain ⟨u1, u2, u3⟩ := X1.2.2.2.2.2.2.2.2
  refine m_isShape X1.mg (fun _ => ⟨fun z => ?_, fun z => ?_⟩)
  · have hs : jS A s := if01 z
    rw [if_neg (fun e => e hs)] at hq
    rw [u1, u2, w32_r (x := A_dm A - 1) (by omega) (by omega)]
    refine ⟨fun y => ?_, fun y => ?_⟩
    · rw [if_neg y] at hq
      refine m_within (fun _ => ⟨fun x => ?_, fun x => ?_⟩)
      · have hp := if01 x
        rw [if_neg (show ¬ (p < 0 ∨ A_dm A ≤ p) by omega), if_neg (fun e => e rfl)] at hq
        obtain ⟨n, hn⟩ := ex_nat hs.1
        obtain ⟨m, hm⟩ := ex_nat hp.1
        subst hn hm
        simp only [Int.toNat_natCast] at hq
        have kd := (X1.mg.2.2.1.2.1 n (by omega)).1
        rw [Nat.zero_add] at kd
        rw [w32a (k := 13) (n := 13) (s := n) rfl (by omega), w32a (k := 91) (n := 91) (s := n) rfl (by omega), w32a (k := 97) (n := 97) (s := n) rfl (by omega)]
        try simp only [Int.toNat_natCast]
        rw [kd, u1, show 97 + n = 91 + (6 + n) by omega, X1.mg.2.2.2 n (by omega)]
        have st := X.1.2.1.1 n (by omega)
        refine ⟨⟨by omega, by omega⟩, fun w => ⟨⟨by omega, by omega⟩, ⟨by omega, by omega⟩, fun h2 e2 => ⟨⟨by omega, by omega⟩, ⟨by omega, by omega⟩, fun h3 e3 => ?_⟩⟩, fun w => ?_⟩
        · rw [if_neg (fun e => e w)] at hq
          have v2 : gi h2 248 (91 + (6 + n)) = A_st A (6 + n) := by subst e2; rw [gi_s1 (by omega)]; exact X1.mg.2.2.2 (6 + n) (by omega)
          rw [v2] at e3
          have F3 : fr frTd h1 h3 := by subst e3 e2; exact (fr.rf.si (by unfold frTd; omega)).si (by unfold frTd; omega)
          refine hq h3 (X1.newTD F3 ⟨o1, o2, o3, o4, o5, o6, ?_⟩ rfl rfl rfl rfl rfl ⟨fun i hi => ?_, fun i hi => ?_⟩ ⟨?_, ?_, fun i hi => ⟨?_, ?_⟩⟩) (F1.tr (F3.mono (fun q k z => frTd_o z)))
          · refine ⟨o7.1, o7.2.1, o7.2.2.1, o7.2.2.2.1, fun j => ?_⟩
            show -1 ≤ upf (A_kx A) m (A_st A n) j
            unfold upf
            have := o7.2.2.2.2 j
            split <;> omega
          · subst e3 e2; simp (disch := omega) only [gi_s0, gi_s1, gi_s2, gj_s0, gj_s1, gj_s2, gi_f0, gi_f1, gj_f0, gj_f1, gr_r0, gr_r1, gr_r2, gi_sj, gi_sr, gj_si, gj_sr, gr_si, gr_sj, gr_stI, gj_stI, gi_stJ, gr_stJ]; exact t1 i hi
          · subst e3 e2; exact t2 i hi
          · subst e3 e2; simp (disch := omega) only [gi_s0, gi_s1, gi_s2, gj_s0, gj_s1, gj_s2, gi_f0, gi_f1, gj_f0, gj_f1, gr_r0, gr_r1, gr_r2, gi_sj, gi_sr, gj_si, gj_sr, gr_si, gr_sj, gr_stI, gj_stI, gi_stJ, gr_stJ]; exact u1
          · subst e3 e2; simp (disch := omega) only [gi_s0, gi_s1, gi_s2, gj_s0, gj_s1, gj_s2, gi_f0, gi_f1, gj_f0, gj_f1, gr_r0, gr_r1, gr_r2, gi_sj, gi_sr, gj_si, gj_sr, gr_si, gr_sj, gr_stI, gj_stI, gi_stJ, gr_stJ]; exact u2
          · show gi h3 274 i = upf (A_kx A) m (A_st A n) i
            unfold upf
            subst e3 e2
            rw [gi_s1 (by omega)]
            by_cases e : i = m
            · rw [if_pos e, e, gi_s0]
            · rw [if_neg e, gi_s2 e]; exact (u3 i hi).1
          · show gi h3 275 i = upf (A_ky A) m (A_st A (6 + n)) i
            unfold upf
            subst e3 e2
            by_cases e : i = m
            · rw [if_pos e, e, gi_s0]
            · rw [if_neg e, gi_s2 e, gi_s1 (by omega)]; exact (u3 i hi).2
        · rw [if_pos w] at hq; exact hq h1 X1 F1
      · have hp := if00 x
        rw [if_pos (show p < 0 ∨ A_dm A ≤ p by omega), if_pos (show (-7 : Int) ≠ 0 by decide)] at hq
        exact hq h1 X1 F1
    · rw [if_pos y, if_pos (show (-6 : Int) ≠ 0 by decide)] at hq
      exact hq h1 X1 F1
  · have hs : ¬ jS A s := if00 z
    rw [if_pos hs] at hq
    exact hq h1 X1 F1
theorem n_kept (X : RM h A) {p w : Int} (hq : ∀ h', RM h' A → fr frMo h h' → Q (some (vI (r_kept A p w))) h') : C2 (d + 1) mX11_kept [vR 247, vI p, vI w] h Q := by
  unfold r_kept noD at hq
  have o7 := X.1.2.2.2.2.2.2
  refine EX11_kept fun _ _ => BX11_kept_0 (fun h1 e1 => ?_)
  obtain ⟨X1, F1⟩ := X.z e1
  have hq1 := hq h1 X1 F1
  obtain ⟨u1, u2, u3⟩ := X1.2.2.2.2.2.2.2.2
  refine m_within (fun _ => ⟨fun z => ?_, fun z => ?_⟩)
  · have hw := if01 z
    rw [if_neg (by omega)] at hq1
    rw [u1, u2, w32_r (x := A_dm A - 1) (by omega) (by omega)]
    refine ⟨fun y => ?_, fun y => ?_⟩
    · rw [if_neg y] at hq1
      refine m_within (fun _ => ⟨fun x => ?_, fun x => ?_⟩)
      · have hp := if01 x
        rw [if_neg (show ¬ (p < 0 ∨ A_dm A ≤ p) by omega), if_neg (fun e => e rfl)] at hq1
        have u := u3 p.toNat (by omega)
        have kx := o7.2.2.2.2 p.toNat
        rw [u.1, u.2]
        refine ⟨⟨by omega, by omega⟩, fun c => ?_, fun c => ?_⟩
        · rw [if_neg (by omega)] at hq1
          refine ⟨fun v => ⟨⟨by omega, by omega⟩, ?_⟩, fun v => ⟨⟨by omega, by omega⟩, ?_⟩⟩
          · rw [if_neg v] at hq1; exact hq1
          · rw [if_pos v] at hq1; exact hq1
        · rw [if_pos (by omega)] at hq1; exact hq1
      · have hp := if00 x
        rw [if_pos (show p < 0 ∨ A_dm A ≤ p by omega), if_pos (show (-7 : Int) ≠ 0 by decide)] at hq1
        exact hq1
    · rw [if_pos y, if_pos (show (-6 : Int) ≠ 0 by decide)] at hq1
      exact hq1
  · have hw := if00 z
    rw [if_pos (by omega)] at hq1
    exact hq1
/-- values of a tray change -/
theorem RM.newVl {h h' : PH} {vl : Nat → Int} (X : RM h A) (hF : fr (fun q _ => q = 278) h h') (hg : ∀ q k, gi h' q k = gi h q k) (hv : ∀ j, j < 160 → gj h' 278 j = vl j) : RM h' (uT A (A_so A) (A_sz A) vl) := by
  obtain ⟨o1, o2, o3, o4, o5, o6, o7⟩ := X.1
  obtain ⟨t1, t2⟩ := X.2.2.2.2.2.2.2.1
  obtain ⟨u1, u2, u3⟩ := X.2.2.2.2.2.2.2.2
  exact X.newTD (hF.mono (fun q k z => by unfold frTd; omega)) ⟨o1, o2, o3, o4, o5, o6, o7⟩ rfl rfl rfl rfl rfl ⟨fun i hi => by rw [hg, hg]; exact t1 i hi, hv⟩ ⟨by rw [hg]; exact u1, by rw [hg]; exact u2, fun j hj => by rw [hg, hg]; exact u3 j hj⟩
theorem n_write (X : RM h A) {t i v : Int} (hq : ∀ h', RM h' (o_write A t i v).2 → fr frMo h h' → Q (some (vJ (o_write A t i v).1)) h') : C2 (d + 2) mX11_write [vR 247, vI t, vI i, vJ v] h Q := by
  unfold o_write at hq
  refine EX11_write fun _ _ _ => BX11_write_0 (fun h1 e1 => ?_)
  obtain ⟨X1, F1⟩ := X.z e1
  obtain ⟨t1, t2⟩ := X1.2.2.2.2.2.2.2.1
  refine m_noTray X1 (fun _ => ⟨fun y => ?_, fun y => ?_⟩)
  · obtain ⟨ht, hso⟩ := noT_0 y
    rw [if_neg (fun e => e y)] at hq
    obtain ⟨n, hn⟩ := ex_nat ht.1
    subst hn
    simp only [Int.toNat_natCast] at hso hq
    have hsz := X.1.2.2.2.2.2.1 n
    try simp only [Int.toNat_natCast]
    rw [(t1 n (by omega)).2, w32_r (x := A_sz A n - 1) (by omega) (by omega)]
    refine ⟨⟨by omega, by omega⟩, m_within (fun _ => ⟨fun x => ?_, fun x => ?_⟩)⟩
    · have hi := if01 x
      rw [if_neg (by omega)] at hq
      obtain ⟨m, hm⟩ := ex_nat hi.1
      subst hm
      simp only [Int.toNat_natCast] at hq
      rw [(t1 n (by omega)).1]
      refine ⟨⟨by omega, by omega⟩, ?_⟩
      have fin : ∀ r, r = cutT (A_so A n) v → (fun x3443 h3442 => ((0 : Int) ≤ (w32 ((w32 (40 * (n : Int))) + (m : Int))) ∧ (w32 ((w32 (40 * (n : Int))) + (m : Int))) < 160) ∧ ∀ h3444, h3444 = sj h3442 278 (w32 ((w32 (40 * (n : Int))) + (m : Int))).toNat x3443 → (((0 : Int) ≤ (w32 ((w32 (40 * (n : Int))) + (m : Int))) ∧ (w32 ((w32 (40 * (n : Int))) + (m : Int))) < 160) ∧ (Q (some (vJ (gj h3444 278 (w32 ((w32 (40 * (n : Int))) + (m : Int))).toNat))) h3444))) r h1 := by
        intro r hr
        rw [w32_r (x := 40 * (n : Int)) (by omega) (by omega), w32_r (x := 40 * (n : Int) + (m : Int)) (by omega) (by omega), show 40 * (n : Int) + (m : Int) = ((40 * n + m : Nat) : Int) by omega]
        try simp only [Int.toNat_natCast]
        refine ⟨⟨by omega, by omega⟩, fun h2 e2 => ⟨⟨by omega, by omega⟩, ?_⟩⟩
        subst e2 hr
        rw [gj_s0]
        have F2 : fr (fun q _ => q = 278) h1 (sj h1 278 (40 * n + m) (cutT (A_so A n) v)) := fr.rf.sj rfl
        refine hq _ (X1.newVl F2 (fun q k => rfl) (fun j hj => ?_)) (F1.tr (F2.mono (fun q k z => by unfold frMo; omega)))
        unfold upf
        by_cases e : j = 40 * n + m
        · rw [if_pos e, e, gj_s0]
        · rw [if_neg e, gj_s2 e]; exact t2 j hj
      unfold cutT at fin
      refine EX11_cut fun _ _ => BX11_cut_0 ⟨fun c0 => ⟨fun c1 => ⟨fun c2 _ => ?_, fun c2 _ => ?_⟩, fun c1 _ => ?_⟩, fun c0 _ => ?_⟩
      · exact fin v (by rw [if_neg c0, if_neg c1, if_neg c2])
      · exact fin (w32 v) (by rw [if_neg c0, if_neg c1, if_pos c2])
      · exact fin (i2s (w32 v)) (by rw [if_neg c0, if_pos c1])
      · exact fin (i2b (w32 v)) (by rw [if_pos c0])
    · have hi := if00 x
      rw [if_pos (by omega)] at hq
      exact hq h1 X1 F1
  · rw [if_pos y] at hq
    exact hq h1 X1 F1
end
