/-! THE CLASS: tokens, one by one -/
theorem tokA_a {f : Nat → Int} {n a : Nat} : t_a (tokA f n a) = a := by
  unfold tokA
  split
  · rfl
  · split
    · rfl
    · split
      · split <;> rfl
      · rfl
theorem ktc_sg : (∀ a b : Fin 12, ktc (30 + (a.val : Int)) = ktc (30 + (b.val : Int)) → a = b) ∧ ∀ a : Fin 12, ktc (30 + (a.val : Int)) ≠ 97 ∧ ktc (30 + (a.val : Int)) ≠ 48 ∧ ktc (30 + (a.val : Int)) ≠ 0 ∧ ktc (30 + (a.val : Int)) ≠ 1 := by decide +kernel
theorem ktc_hi {k : Int} (h : 30 ≤ k ∧ k ≤ 41) : ktc k ≠ 97 ∧ ktc k ≠ 48 ∧ ktc k ≠ 0 ∧ ktc k ≠ 1 := by
  have := ktc_sg.2 ⟨(k - 30).toNat, by omega⟩
  have e : 30 + (((k - 30).toNat : Nat) : Int) = k := by omega
  dsimp only at this
  rw [e] at this
  exact this
theorem ktc_lo {k : Int} (h : k ≤ 24) : ktc k = 97 := by unfold ktc; rw [if_neg (by omega), if_pos h]
theorem ktc_25 : ktc 25 = 48 := by decide
theorem ktc_26 : ktc 26 = 0 := by decide
theorem GT.kd {f : Nat → Int} {n : Nat} {t : TK} (g : GT f n t) : (0 ≤ t_k t ∧ t_k t ≤ 24) ∨ t_k t = 25 ∨ t_k t = 26 ∨ (30 ≤ t_k t ∧ t_k t ≤ 41) := by
  obtain ⟨⟨-, -, -, g1, -⟩, g2, g3⟩ := g
  by_cases z : t_k t ≤ 24
  · exact Or.inl ⟨(g2 z).1, z⟩
  · by_cases y : 26 < t_k t
    · exact Or.inr (Or.inr (Or.inr (g3 y)))
    · omega
theorem ktc_eq {f : Nat → Int} {n : Nat} {t : TK} (g : GT f n t) {K : Int} (hK : 30 ≤ K ∧ K ≤ 41) : ktc (t_k t) = ktc K ↔ t_k t = K := by
  have a := ktc_hi hK
  refine ⟨fun e => ?_, fun e => by rw [e]⟩
  rcases g.kd with z | z | z | z
  · rw [ktc_lo z.2] at e; exact absurd e.symm a.1
  · rw [z, ktc_25] at e; exact absurd e.symm a.2.1
  · rw [z, ktc_26] at e; exact absurd e.symm a.2.2.1
  · have := ktc_sg.1 ⟨(t_k t - 30).toNat, by omega⟩ ⟨(K - 30).toNat, by omega⟩
    have e1 : 30 + (((t_k t - 30).toNat : Nat) : Int) = t_k t := by omega
    have e2 : 30 + (((K - 30).toNat : Nat) : Int) = K := by omega
    dsimp only at this
    rw [e1, e2] at this
    have := congrArg Fin.val (this e)
    dsimp only at this
    omega
theorem ktc_97 {f : Nat → Int} {n : Nat} {t : TK} (g : GT f n t) : ktc (t_k t) = 97 ↔ t_k t ≤ 24 := by
  refine ⟨fun e => ?_, ktc_lo⟩
  rcases g.kd with z | z | z | z
  · exact z.2
  · rw [z, ktc_25] at e; exact absurd e (by decide)
  · rw [z, ktc_26] at e; exact absurd e (by decide)
  · exact absurd e (ktc_hi z).1
theorem ktc_48 {f : Nat → Int} {n : Nat} {t : TK} (g : GT f n t) : ktc (t_k t) = 48 ↔ t_k t = 25 := by
  refine ⟨fun e => ?_, fun e => by rw [e]; decide⟩
  rcases g.kd with z | z | z | z
  · rw [ktc_lo z.2] at e; exact absurd e (by decide)
  · exact z
  · rw [z, ktc_26] at e; exact absurd e (by decide)
  · exact absurd e (ktc_hi z).2.1
theorem ktc_z {f : Nat → Int} {n : Nat} {t : TK} (g : GT f n t) : ktc (t_k t) = 0 ↔ t_k t = 26 := by
  refine ⟨fun e => ?_, fun e => by rw [e]; decide⟩
  rcases g.kd with z | z | z | z
  · rw [ktc_lo z.2] at e; exact absurd e (by decide)
  · rw [z, ktc_25] at e; exact absurd e (by decide)
  · exact z
  · exact absurd e (ktc_hi z).2.2.1
theorem key_all : ∀ K : Fin 24, keyOf (keyL.getD K.val []) keyL 0 = (K.val : Int) := by decide +kernel
theorem keyOf_at (w : List Int) : ∀ (l : List (List Int)) (i : Int) (j : Nat), j < l.length → keyOf w l i = i + j → i + l.length ≤ 24 → l.getD j [] = w := by
  intro l
  induction l with
  | nil => intro i j h; exact absurd h (Nat.not_lt_zero j)
  | cons k ks ih =>
    intro i j hj h h24
    unfold keyOf at h
    by_cases e : k = w
    · rw [if_pos e] at h
      have : j = 0 := by omega
      subst this
      exact e
    · rw [if_neg e] at h
      rw [List.length_cons] at hj h24
      cases j with
      | zero =>
        exfalso
        have := keyOf_rg w ks (i + 1)
        omega
      | succ j =>
        rw [List.getD_cons_succ]
        exact ih (i + 1) j (by omega) (by omega) (by omega)
theorem key_iff {w : List Int} {K : Nat} (hK : K < 24) : keyOf w keyL 0 = (K : Int) ↔ w = keyL.getD K [] := by
  refine ⟨fun e => ?_, fun e => ?_⟩
  · exact (keyOf_at w keyL 0 K hK (by omega) (by decide)).symm
  · rw [e]; exact key_all ⟨K, hK⟩
theorem cut_len (f : Nat → Int) : ∀ m i, (cutT2 f m i).length = m := by
  intro m
  induction m with
  | zero => intro i; rfl
  | succ m ih => intro i; show (cutT2 f m (i + 1)).length + 1 = m + 1; rw [ih]
theorem cut_at (f : Nat → Int) : ∀ m i j, j < m → (cutT2 f m i).getD j 0 = f (i + j) := by
  intro m
  induction m with
  | zero => intro i j h; exact absurd h (Nat.not_lt_zero j)
  | succ m ih =>
    intro i j h
    show (f i :: cutT2 f m (i + 1)).getD j 0 = _
    cases j with
    | zero => rfl
    | succ j => rw [List.getD_cons_succ, ih (i + 1) j (by omega), show i + 1 + j = i + (j + 1) by omega]
theorem list_ext0 : ∀ (a b : List Int), a.length = b.length → (∀ j, j < a.length → a.getD j 0 = b.getD j 0) → a = b := by
  intro a
  induction a with
  | nil => intro b h _; cases b with
    | nil => rfl
    | cons y ys => exact absurd h (by simp)
  | cons x xs ih =>
    intro b h hj
    cases b with
    | nil => exact absurd h (by simp)
    | cons y ys =>
      have h0 := hj 0 (by simp)
      rw [List.getD_cons_zero, List.getD_cons_zero] at h0
      rw [h0, ih ys (by simpa using h) (fun j h1 => by
        have := hj (j + 1) (by simpa using h1)
        rwa [List.getD_cons_succ, List.getD_cons_succ] at this)]
def isK (r : ER TK) (K : Int) : Prop := ∃ t, r = .ok t ∧ t_k t = K
theorem isK_err {e : Int × Nat} {K : Int} : ¬ isK (.error e) K := fun ⟨t, h, _⟩ => by cases h
theorem isK_ok {t : TK} {K : Int} : isK (.ok t) K ↔ t_k t = K := ⟨fun ⟨u, h, e⟩ => by cases h; exact e, fun e => ⟨t, rfl, e⟩⟩
section
variable {d : Nat} {h : PH} {Q : Option PV → PH → Prop}
variable {f : Nat → Int} {n : Nat}
theorem c_fail0 {k : Int} {a : Nat} (h8 : gi h 218 8 = 0) (h3 : gi h 218 3 = (a : Int)) (hq : ∀ h', gi h' 218 8 = k → gi h' 218 9 = (a : Int) → gi h' 218 2 = 1 → fr frTk h h' → Q none h') : C2 d mX5_fail [vR 218, vI k] h Q := by
  refine EX5_fail fun _ => BX5_fail_0 ⟨fun z => absurd h8 z, fun _ h1 e1 h2 e2 h3' e3 => ?_⟩
  subst e1 e2 e3
  refine hq _ ?_ ?_ ?_ (((fr.rf.si (by unfold frTk; omega)).si (by unfold frTk; omega)).si (by unfold frTk; omega))
  · simp (disch := omega) only [gi_s0, gi_s1, gi_s2, gj_s0, gj_s1, gj_s2, gi_f0, gi_f1, gj_f0, gj_f1, gr_r0, gr_r1, gr_r2, gi_sj, gi_sr, gj_si, gj_sr, gr_si, gr_sj, gr_stI, gj_stI, gi_stJ, gr_stJ]
  · simp (disch := omega) only [gi_s0, gi_s1, gi_s2, gj_s0, gj_s1, gj_s2, gi_f0, gi_f1, gj_f0, gj_f1, gr_r0, gr_r1, gr_r2, gi_sj, gi_sr, gj_si, gj_sr, gr_si, gr_sj, gr_stI, gj_stI, gi_stJ, gr_stJ]; exact h3
  · simp (disch := omega) only [gi_s0, gi_s1, gi_s2, gj_s0, gj_s1, gj_s2, gi_f0, gi_f1, gj_f0, gj_f1, gr_r0, gr_r1, gr_r2, gi_sj, gi_sr, gj_si, gj_sr, gr_si, gr_sj, gr_stI, gj_stI, gi_stJ, gr_stJ]
theorem c_next0 {t : TK} (hT : TPc h f n) (hb : t_b t ≤ n) (a1 : gi h 218 8 = 0) (a2 : gi h 218 9 = -1) (a3 : gi h 218 1 = n) (a5 : gi h 218 4 = t_b t) (hq : ∀ h', RT h' f n (bq (.ok t) (nxt f n)) → fr frTk h h' → Q none h') : C2 (d + 5) mX5_next [vR 218] h Q := by
  have hn := hT.1
  refine EX5_next (BX5_next_0 ⟨fun _ h1 e1 => ?_, fun z => absurd a1 z⟩)
  subst e1
  rw [a5]
  have hrun := run_rg isB f n (n - t_b t) (t_b t) hb
  have etok : tok f n (t_b t) = tokA f n (run isB f n (n - t_b t) (t_b t)) := rfl
  generalize hs : run isB f n (n - t_b t) (t_b t) = s at hrun etok
  have enx : bq (.ok t) (nxt f n) = if t_k (tokA f n s) = 27 then .error (1, s) else .ok (tokA f n s) := by
    show nxt f n t = _
    unfold nxt
    rw [etok, tokA_a]
  rw [enx] at hq
  have F1 : fr frTk h (si h 218 3 (t_b t : Int)) := fr.rf.si (by unfold frTk; omega)
  refine nx_skip (d := d + 4) (s := s) (si h 218 3 (t_b t : Int)) (hT.keep (fun k => gi_s1 (by omega))) (by rw [gi_s2 (by omega)]; exact a3) (fun h2 p3 pF => ?_) (n - t_b t) (t_b t) _ (by omega) hs gi_s0 fr.rf
  have F2 : fr frTk h h2 := F1.tr (pF.mono (fun q k z => by unfold frTk; omega))
  refine BX5_next_68 (fun h3 e3 => ?_)
  subst e3
  rw [p3]
  have F3 : fr frTk h (si h2 218 4 (s : Int)) := F2.si (by unfold frTk; omega)
  have k1 : gi (si h2 218 4 (s : Int)) 218 1 = n := by rw [F3.1 _ _ (by unfold frTk; omega)]; exact a3
  have k3 : gi (si h2 218 4 (s : Int)) 218 3 = s := by rw [gi_s2 (by omega)]; exact p3
  have k4 : gi (si h2 218 4 (s : Int)) 218 4 = s := gi_s0
  have k8 : gi (si h2 218 4 (s : Int)) 218 8 = 0 := by rw [gi_s2 (by omega), pF.1 _ _ (by omega), gi_s2 (by omega)]; exact a1
  have k9 : gi (si h2 218 4 (s : Int)) 218 9 = -1 := by rw [gi_s2 (by omega), pF.1 _ _ (by omega), gi_s2 (by omega)]; exact a2
  have kT : TPc (si h2 218 4 (s : Int)) f n := hT.keep (fun k => F3.1 _ _ (by unfold frTk; omega))
  generalize si h2 218 4 (s : Int) = H at *
  -- what is left: a good token, a bad one
  have good : ∀ h', t_k (tokA f n s) ≠ 27 → gi h' 218 8 = 0 → gi h' 218 9 = -1 → gi h' 218 1 = n → gi h' 218 3 = s → gi h' 218 4 = t_b (tokA f n s) → gi h' 218 2 = ktc (t_k (tokA f n s)) → (t_k (tokA f n s) = 25 → gi h' 218 5 = t_n (tokA f n s)) → fr frTk h h' → Q none h' := by
    intro h' z b1 b2 b3 b4 b5 b6 b7 bF
    refine hq h' ?_ bF
    rw [if_neg z]
    refine ⟨?_, b1, b2, b3, by rw [tokA_a]; exact b4, b5, b6, b7⟩
    rw [← etok] at z ⊢
    exact tok_GT f n (t_b t) hb z
  have badt : ∀ h', t_k (tokA f n s) = 27 → gi h' 218 8 = 1 → gi h' 218 9 = s → gi h' 218 2 = 1 → fr frTk h h' → Q none h' := by
    intro h' z b1 b2 b3 bF
    refine hq h' ?_ bF
    rw [if_pos z]
    exact ⟨b1, by show (1 : Int) ≠ 0; decide, b2, b3⟩
  rw [k1, k3]
  try simp only [Int.toNat_natCast]
  refine ⟨fun z => ?_, fun z h4 e4 => ?_⟩
  · have hs9 : s < n := by omega
    rw [kT.2.2 s hs9]
    have tk0 : tokA f n s = if isL (f s) then (keyOf (cutT2 f (run isL f n (n - s) s - s) s) keyL 0, s, run isL f n (n - s) s, 0) else if isD (f s) then (if run isD f n (n - s) s - s ≤ 3 then (25, s, run isD f n (n - s) s, numV f (run isD f n (n - s) s - s) s 0) else (27, s, run isD f n (n - s) s, 0)) else (sgnOf (f s) sgnL 30, s, s + 1, 0) := by
      unfold tokA; rw [if_neg (by omega)]
    refine ⟨⟨by omega, by omega⟩, c_isLetter (kT.2.1 s) (fun _ => ?_)⟩
    by_cases hL : isL (f s) = true
    · rw [if_pos hL]
      refine ⟨fun y => absurd y (by decide), fun _ h5 e5 => ?_⟩
      subst e5
      rw [if_pos hL] at tk0
      refine nx_let (d := d + 4) (s := run isL f n (n - s) s) (si H 218 2 97) (kT.keep (fun k => gi_s1 (by omega))) (by rw [gi_s2 (by omega)]; exact k1) (fun h6 r4 rF => ?_) (n - s) s _ (by omega) rfl (by rw [gi_s2 (by omega)]; exact k4) fr.rf
      have e24 : keyOf (cutT2 f (run isL f n (n - s) s - s) s) keyL 0 ≤ 24 := by
        have := keyOf_rg (cutT2 f (run isL f n (n - s) s - s) s) keyL 0
        have e : (keyL.length : Int) = 24 := rfl
        omega
      refine good h6 ?_ ?_ ?_ ?_ ?_ ?_ ?_ ?_ ((F3.si (by unfold frTk; omega)).tr (rF.mono (fun q k z => by unfold frTk; omega)))
      · rw [tk0]; exact keyOf_ne.2.2
      · rw [rF.1 _ _ (by omega), gi_s2 (by omega)]; exact k8
      · rw [rF.1 _ _ (by omega), gi_s2 (by omega)]; exact k9
      · rw [rF.1 _ _ (by omega), gi_s2 (by omega)]; exact k1
      · rw [rF.1 _ _ (by omega), gi_s2 (by omega)]; exact k3
      · rw [r4, tk0]; rfl
      · rw [rF.1 _ _ (by omega), gi_s0, tk0]; exact (ktc_lo e24).symm
      · intro w; rw [tk0] at w; exact absurd w keyOf_ne.1
    · rw [if_neg hL]
      rw [if_neg hL] at tk0
      refine ⟨fun _ => ?_, fun y => absurd rfl y⟩
      rw [k3]
      try simp only [Int.toNat_natCast]
      rw [kT.2.2 s hs9]
      refine ⟨⟨by omega, by omega⟩, c_isDigit (kT.2.1 s) (fun _ => ?_)⟩
      by_cases hD : isD (f s) = true
      · rw [if_pos hD]
        rw [if_pos hD] at tk0
        refine ⟨fun y => absurd y (by decide), fun _ h5 e5 h6 e6 => ?_⟩
        subst e5 e6
        have F6 : fr frTk h (si (si H 218 2 48) 218 5 0) := (F3.si (by unfold frTk; omega)).si (by unfold frTk; omega)
        have hr2 := run_rg isD f n (n - s) s (by omega)
        generalize hu : run isD f n (n - s) s = u at *
        refine nx_dig (d := d + 4) (s := u) (a := s) (si (si H 218 2 48) 218 5 0) (kT.keep (fun k => by simp (disch := omega) only [gi_s0, gi_s1, gi_s2, gj_s0, gj_s1, gj_s2, gi_f0, gi_f1, gj_f0, gj_f1, gr_r0, gr_r1, gr_r2, gi_sj, gi_sr, gj_si, gj_sr, gr_si, gr_sj, gr_stI, gj_stI, gi_stJ, gr_stJ])) (by simp (disch := omega) only [gi_s0, gi_s1, gi_s2, gj_s0, gj_s1, gj_s2, gi_f0, gi_f1, gj_f0, gj_f1, gr_r0, gr_r1, gr_r2, gi_sj, gi_sr, gj_si, gj_sr, gr_si, gr_sj, gr_stI, gj_stI, gi_stJ, gr_stJ]; exact k1) (fun h7 r4 r5 rF => ?_) (n - s) s _ (by omega) (Nat.le_refl _) (fun j j1 j2 => by omega) hu (by simp (disch := omega) only [gi_s0, gi_s1, gi_s2, gj_s0, gj_s1, gj_s2, gi_f0, gi_f1, gj_f0, gj_f1, gr_r0, gr_r1, gr_r2, gi_sj, gi_sr, gj_si, gj_sr, gr_si, gr_sj, gr_stI, gj_stI, gi_stJ, gr_stJ]; exact k4) (fun _ => by rw [gi_s0, Nat.sub_self]; rfl) fr.rf
        have F7 : fr frTk h h7 := F6.tr (rF.mono (fun q k z => by unfold frTk; omega))
        have m3 : gi h7 218 3 = s := by rw [rF.1 _ _ (by omega)]; simp (disch := omega) only [gi_s0, gi_s1, gi_s2, gj_s0, gj_s1, gj_s2, gi_f0, gi_f1, gj_f0, gj_f1, gr_r0, gr_r1, gr_r2, gi_sj, gi_sr, gj_si, gj_sr, gr_si, gr_sj, gr_stI, gj_stI, gi_stJ, gr_stJ]; exact k3
        have m8 : gi h7 218 8 = 0 := by rw [rF.1 _ _ (by omega)]; simp (disch := omega) only [gi_s0, gi_s1, gi_s2, gj_s0, gj_s1, gj_s2, gi_f0, gi_f1, gj_f0, gj_f1, gr_r0, gr_r1, gr_r2, gi_sj, gi_sr, gj_si, gj_sr, gr_si, gr_sj, gr_stI, gj_stI, gi_stJ, gr_stJ]; exact k8
        refine BX5_next_244 ?_
        rw [r4, m3, w32_r (by omega) (by omega)]
        refine ⟨fun y => ?_, fun y => ?_⟩
        · rw [if_pos (by omega)] at tk0
          refine good h7 ?_ m8 ?_ ?_ m3 ?_ ?_ ?_ F7
          · rw [tk0]; show (25 : Int) ≠ 27; decide
          · rw [rF.1 _ _ (by omega)]; simp (disch := omega) only [gi_s0, gi_s1, gi_s2, gj_s0, gj_s1, gj_s2, gi_f0, gi_f1, gj_f0, gj_f1, gr_r0, gr_r1, gr_r2, gi_sj, gi_sr, gj_si, gj_sr, gr_si, gr_sj, gr_stI, gj_stI, gi_stJ, gr_stJ]; exact k9
          · rw [rF.1 _ _ (by omega)]; simp (disch := omega) only [gi_s0, gi_s1, gi_s2, gj_s0, gj_s1, gj_s2, gi_f0, gi_f1, gj_f0, gj_f1, gr_r0, gr_r1, gr_r2, gi_sj, gi_sr, gj_si, gj_sr, gr_si, gr_sj, gr_stI, gj_stI, gi_stJ, gr_stJ]; exact k1
          · rw [r4, tk0]; rfl
          · rw [rF.1 _ _ (by omega), gi_s2 (by omega), gi_s0, tk0]; rfl
          · intro _; rw [r5 (by omega), tk0]; rfl
        · rw [if_neg (by omega)] at tk0
          refine c_fail0 (a := s) m8 m3 (fun h8 b1 b2 b3 bF => ⟨rfl, ?_⟩)
          exact badt h8 (by rw [tk0]; rfl) b1 b2 b3 (F7.tr bF)
      · rw [if_neg hD]
        rw [if_neg hD] at tk0
        refine ⟨fun _ => ?_, fun y => absurd rfl y⟩
        rw [k3]
        try simp only [Int.toNat_natCast]
        rw [kT.2.2 s hs9]
        refine ⟨⟨by omega, by omega⟩, fun h5 e5 h6 e6 => ?_⟩
        subst e5 e6
        have m3 : gi (si H 218 2 (sb (f s))) 218 3 = s := by rw [gi_s2 (by omega)]; exact k3
        rw [m3, w32_r (x := (s : Int) + 1) (by omega) (by omega)]
        have m2 : gi (si (si H 218 2 (sb (f s))) 218 4 ((s : Int) + 1)) 218 2 = sb (f s) := by simp (disch := omega) only [gi_s0, gi_s1, gi_s2, gj_s0, gj_s1, gj_s2, gi_f0, gi_f1, gj_f0, gj_f1, gr_r0, gr_r1, gr_r2, gi_sj, gi_sr, gj_si, gj_sr, gr_si, gr_sj, gr_stI, gj_stI, gi_stJ, gr_stJ]
        rw [m2]
        have sg := sgn_ok (kT.2.1 s)
        rw [sg.1]
        have F6 : fr frTk h (si (si H 218 2 (sb (f s))) 218 4 ((s : Int) + 1)) := (F3.si (by unfold frTk; omega)).si (by unfold frTk; omega)
        refine c_indexOf (d := d) (i := 0) (by omega) (kT.2.1 s).1 (by have := (kT.2.1 s).2; omega) (by decide) (fun _ => ?_)
        have e12 : sLen 0 = 12 := rfl
        rw [e12]
        refine ⟨fun y => ?_, fun y => ?_⟩
        · have h27 : sgnOf (f s) sgnL 30 ≠ 27 := fun w => by have := sg.2.1.mpr w; omega
          refine good _ ?_ ?_ ?_ ?_ ?_ ?_ ?_ ?_ F6
          · rw [tk0]; exact h27
          · simp (disch := omega) only [gi_s0, gi_s1, gi_s2, gj_s0, gj_s1, gj_s2, gi_f0, gi_f1, gj_f0, gj_f1, gr_r0, gr_r1, gr_r2, gi_sj, gi_sr, gj_si, gj_sr, gr_si, gr_sj, gr_stI, gj_stI, gi_stJ, gr_stJ]; exact k8
          · simp (disch := omega) only [gi_s0, gi_s1, gi_s2, gj_s0, gj_s1, gj_s2, gi_f0, gi_f1, gj_f0, gj_f1, gr_r0, gr_r1, gr_r2, gi_sj, gi_sr, gj_si, gj_sr, gr_si, gr_sj, gr_stI, gj_stI, gi_stJ, gr_stJ]; exact k9
          · simp (disch := omega) only [gi_s0, gi_s1, gi_s2, gj_s0, gj_s1, gj_s2, gi_f0, gi_f1, gj_f0, gj_f1, gr_r0, gr_r1, gr_r2, gi_sj, gi_sr, gj_si, gj_sr, gr_si, gr_sj, gr_stI, gj_stI, gi_stJ, gr_stJ]; exact k1
          · simp (disch := omega) only [gi_s0, gi_s1, gi_s2, gj_s0, gj_s1, gj_s2, gi_f0, gi_f1, gj_f0, gj_f1, gr_r0, gr_r1, gr_r2, gi_sj, gi_sr, gj_si, gj_sr, gr_si, gr_sj, gr_stI, gj_stI, gi_stJ, gr_stJ]; exact k3
          · rw [gi_s0, tk0]; show (s : Int) + 1 = ((s + 1 : Nat) : Int); omega
          · rw [m2, tk0]; exact sg.2.2 h27
          · intro w
            rw [tk0] at w
            exfalso
            have w2 : sgnOf (f s) sgnL 30 = 25 := w
            rcases sgnOf_hi (f s) sgnL 30 with z | z <;> omega
        · have h27 : sgnOf (f s) sgnL 30 = 27 := sg.2.1.mp y
          refine c_fail0 (a := s) (by simp (disch := omega) only [gi_s0, gi_s1, gi_s2, gj_s0, gj_s1, gj_s2, gi_f0, gi_f1, gj_f0, gj_f1, gr_r0, gr_r1, gr_r2, gi_sj, gi_sr, gj_si, gj_sr, gr_si, gr_sj, gr_stI, gj_stI, gi_stJ, gr_stJ]; exact k8) (by simp (disch := omega) only [gi_s0, gi_s1, gi_s2, gj_s0, gj_s1, gj_s2, gi_f0, gi_f1, gj_f0, gj_f1, gr_r0, gr_r1, gr_r2, gi_sj, gi_sr, gj_si, gj_sr, gr_si, gr_sj, gr_stI, gj_stI, gi_stJ, gr_stJ]; exact k3) (fun h7 b1 b2 b3 bF => ⟨rfl, ?_⟩)
          exact badt h7 (by rw [tk0]; exact h27) b1 b2 b3 (F6.tr bF)
  · subst e4
    have tk0 : tokA f n s = (26, s, s, 0) := by unfold tokA; rw [if_pos (by omega)]
    refine good _ ?_ ?_ ?_ ?_ ?_ ?_ ?_ ?_ (F3.si (by unfold frTk; omega))
    · rw [tk0]; show (26 : Int) ≠ 27; decide
    · simp (disch := omega) only [gi_s0, gi_s1, gi_s2, gj_s0, gj_s1, gj_s2, gi_f0, gi_f1, gj_f0, gj_f1, gr_r0, gr_r1, gr_r2, gi_sj, gi_sr, gj_si, gj_sr, gr_si, gr_sj, gr_stI, gj_stI, gi_stJ, gr_stJ]; exact k8
    · simp (disch := omega) only [gi_s0, gi_s1, gi_s2, gj_s0, gj_s1, gj_s2, gi_f0, gi_f1, gj_f0, gj_f1, gr_r0, gr_r1, gr_r2, gi_sj, gi_sr, gj_si, gj_sr, gr_si, gr_sj, gr_stI, gj_stI, gi_stJ, gr_stJ]; exact k9
    · simp (disch := omega) only [gi_s0, gi_s1, gi_s2, gj_s0, gj_s1, gj_s2, gi_f0, gi_f1, gj_f0, gj_f1, gr_r0, gr_r1, gr_r2, gi_sj, gi_sr, gj_si, gj_sr, gr_si, gr_sj, gr_stI, gj_stI, gi_stJ, gr_stJ]; exact k1
    · simp (disch := omega) only [gi_s0, gi_s1, gi_s2, gj_s0, gj_s1, gj_s2, gi_f0, gi_f1, gj_f0, gj_f1, gr_r0, gr_r1, gr_r2, gi_sj, gi_sr, gj_si, gj_sr, gr_si, gr_sj, gr_stI, gj_stI, gi_stJ, gr_stJ]; exact k3
    · simp (disch := omega) only [gi_s0, gi_s1, gi_s2, gj_s0, gj_s1, gj_s2, gi_f0, gi_f1, gj_f0, gj_f1, gr_r0, gr_r1, gr_r2, gi_sj, gi_sr, gj_si, gj_sr, gr_si, gr_sj, gr_stI, gj_stI, gi_stJ, gr_stJ]; rw [k4, tk0]; rfl
    · rw [gi_s0, tk0]; rfl
    · intro w; rw [tk0] at w; exact absurd w (by show ¬ (26 : Int) = 25; decide)
theorem c_next {r : ER TK} (hT : TPc h f n) (X : RT h f n r) (hq : ∀ h', RT h' f n (bq r (nxt f n)) → fr frTk h h' → Q none h') : C2 (d + 5) mX5_next [vR 218] h Q := by
  cases r with
  | error e => exact EX5_next (BX5_next_0 ⟨fun z => absurd (X.1.symm.trans z) X.2.1, fun _ => hq h X fr.rf⟩)
  | ok t =>
    obtain ⟨a0, a1, a2, a3, a4, a5, a6, a7⟩ := X
    exact c_next0 hT a0.1.2.2.1 a1 a2 a3 a5 hq
end
