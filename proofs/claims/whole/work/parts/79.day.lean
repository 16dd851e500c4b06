/-! THE MODEL: a day; trays, drawer, images -/
section
variable {d : Nat} {h : PH} {Q : Option PV → PH → Prop}
variable {A : AS}
theorem n_day_loop (X : RM h A) {t : Nat} (ht : t ≤ 40) {G : Nat × (Nat → Int)} (hq : ∀ h', MG h' (A_g A) G.2 → fr (fun q k => frSt2 q k ∨ fr40 q k) h h' → (G.1 = 0 → Q (some (vI 0)) h') ∧ (G.1 ≠ 0 → C2 (d + 3) mX11_notes [vR 247] h' (onV fun h2 => Q (some (vI (G.1 : Int))) h2))) :
    ∀ (m i n : Nat) (x : Int) (st : Nat → Int) (h1 : PH), i + m = t → n ≤ i → MG h1 (A_g A) st → gi h1 247 40 = x → dyS (A_g A) m x st n = G → fr (fun q k => frSt2 q k ∨ fr40 q k) h h1 → T2 (d + 4) mX11_day 34 [some (vR 247), none, some (vI (t : Int)), some (vI (n : Int)), some (vI (i : Int)), none] [] h1 Q := by
  intro m
  induction m with
  | zero =>
    intro i n x st h1 hi hn M1 h40 hG hF
    have eG : G = (n, st) := hG.symm
    subst eG
    have := hq h1 M1 hF
    refine BX11_day_34 ⟨fun _ => ⟨fun z => ?_, fun z => ?_⟩, fun z => by omega⟩
    · have n0 : n = 0 := by omega
      subst n0
      exact this.1 rfl
    · exact this.2 (by show n ≠ 0; omega)
  | succ m ih =>
    intro i n x st h1 hi hn M1 h40 hG hF
    refine BX11_day_34 ⟨fun z => by omega, fun _ => m_drawn (d := d + 2) h40 (fun h2 g40 F2 _ => ?_)⟩
    have M2 : MG h2 (A_g A) st := M1.keep (fun k => F2.1 _ _ (by unfold fr40; omega))
    have dd : dyS (A_g A) (m + 1) x st n = if (deedS (A_g A) st (drD x).1).1 ≠ 0 then dyS (A_g A) m (drD x).2 st n else dyS (A_g A) m (drD x).2 (deedS (A_g A) st (drD x).1).2 (n + 1) := rfl
    rw [dd] at hG
    have F12 : fr (fun q k => frSt2 q k ∨ fr40 q k) h h2 := hF.tr (F2.mono (fun q k z => Or.inr z))
    refine m_whyNot (d := d) M2 (fun _ => ⟨fun z => ?_, fun z => ?_⟩)
    · rw [if_neg (fun e => e z)] at hG
      refine m_does M2 z (fun h3 b1 b2 => ⟨rfl, ?_⟩)
      dsimp only
      rw [w32_r (x := (n : Int) + 1) (by omega) (by omega), w32_r (x := (i : Int) + 1) (by omega) (by omega), show (i : Int) + 1 = ((i + 1 : Nat) : Int) by omega, show (n : Int) + 1 = ((n + 1 : Nat) : Int) by omega]
      refine ih (i + 1) (n + 1) _ _ h3 (by omega) (by omega) (M2.newSt (b2.mono (fun q k z => Or.inl z)) (deedS_ok X.1.1 M1.2.1 _) b1) (by rw [b2.1 _ _ (by unfold frSt2; omega)]; exact g40) hG (F12.tr (b2.mono (fun q k z => Or.inl z)))
    · rw [if_pos z] at hG
      rw [w32_r (x := (i : Int) + 1) (by omega) (by omega), show (i : Int) + 1 = ((i + 1 : Nat) : Int) by omega]
      exact ih (i + 1) n _ _ h2 (by omega) (by omega) M2 g40 hG F12
theorem dyS_0 {g : PG} : ∀ (m : Nat) (x : Int) (st : Nat → Int) (n : Nat), n ≤ (dyS g m x st n).1 ∧ ((dyS g m x st n).1 = n → (dyS g m x st n).2 = st) := by
  intro m
  induction m with
  | zero => intro x st n; exact ⟨Nat.le_refl _, fun _ => rfl⟩
  | succ m ih =>
    intro x st n
    have dd : dyS g (m + 1) x st n = if (deedS g st (drD x).1).1 ≠ 0 then dyS g m (drD x).2 st n else dyS g m (drD x).2 (deedS g st (drD x).1).2 (n + 1) := rfl
    rw [dd]
    split
    · exact ih _ _ _
    · have := ih (drD x).2 (deedS g st (drD x).1).2 (n + 1)
      exact ⟨by omega, fun e => by omega⟩
theorem n_day (X : RM h A) {x t : Int} (hq : ∀ h', RM h' (o_day A x t).2 → fr frMo h h' → Q (some (vI (o_day A x t).1)) h') : C2 (d + 4) mX11_day [vR 247, vI x, vI t] h Q := by
  unfold o_day at hq
  refine EX11_day fun _ _ => BX11_day_0 (fun h1 e1 => ?_)
  obtain ⟨X1, F1⟩ := X.z e1
  refine m_within (fun _ => ⟨fun z => ?_, fun z => ?_⟩)
  · have ht := if01 z
    rw [if_neg (by omega)] at hq
    obtain ⟨n, hn⟩ := ex_nat (show 0 ≤ t by omega)
    subst hn
    simp only [Int.toNat_natCast] at hq
    have okd2 := dyS_ok X.1.1 n x (A_st A) 0 X.1.2.1
    have st00 := dyS_0 (g := A_g A) n x (A_st A) 0
    refine m_stores X1.mg.2.2.2 (fun h2 b1 b2 => ⟨rfl, fun h3 e3 => ?_⟩)
    have F13 : fr frMs h1 h3 := by subst e3; exact (b2.mono (fun q k z => by unfold frMs; omega)).si (by unfold frMs; omega)
    have X3 := X1.keep F13
    have g40 : gi h3 247 40 = x := by subst e3; exact gi_s0
    have w3 : ∀ k, k < 20 → gi h3 265 k = A_st A k := fun k hk => by subst e3; rw [gi_s1 (by omega)]; exact b1 k hk
    generalize hG : dyS (A_g A) n x (A_st A) 0 = G at *
    refine n_day_loop (d := d) X3 (t := n) (by omega) (G := G) (fun h4 M4 F4 => ⟨fun c => ?_, fun c => ?_⟩) n 0 0 x (A_st A) h3 (by omega) (by omega) X3.mg g40 hG fr.rf
    · rw [if_pos c] at hq
      have e := st00.2 c
      rw [e] at M4
      have F34 : fr frNs h3 h4 := F4.mono (fun q k z => by unfold frSt2 fr40 at z; unfold frNs frMs; omega)
      have p := X3.2.2.2.2.2.1
      have gP : ∀ k, 111 ≤ k → gi h4 248 k = gi h3 248 k := fun k hk => F4.1 _ _ (by unfold frSt2 fr40; omega)
      exact hq h4 (X3.newSt (st := A_st A) (pa := A_pa A) F34 X.1 M4.2.2.2 ⟨by rw [gP _ (by omega)]; exact p.1, fun i hi k hk => by rw [gP _ (by omega)]; exact p.2 i hi k hk⟩) ((F1.tr (F13.mono (fun q k z => frMs_o z))).tr (F34.mono (fun q k z => frNs_o z)))
    · rw [if_neg c] at hq
      have F34 : fr frNs h3 h4 := F4.mono (fun q k z => by unfold frSt2 fr40 at z; unfold frNs frMs; omega)
      exact n_note X3 F34 (fun k hk => by rw [F4.1 _ _ (by unfold frSt2 fr40; omega)]; exact w3 k hk) M4.2.2.2 (fun k k1 k2 => F4.1 _ _ (by unfold frSt2 fr40; omega)) okd2 (fun h5 X5 _ _ F5 => ⟨rfl, hq h5 X5 ((F1.tr (F13.mono (fun q k z => frMs_o z))).tr F5)⟩)
  · have ht := if00 z
    rw [if_pos (by omega)] at hq
    exact hq h1 X1 F1
end
