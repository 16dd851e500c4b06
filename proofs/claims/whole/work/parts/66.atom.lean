/-! THE CLASS: laws are read -/
section
variable {d : Nat} {h : PH} {Q : Option PV → PH → Prop}
variable {f : Nat → Int} {n p la : Nat} {W : Bool}
theorem c_about {r : ER TK} (En : ENV h f n p la W) (X : RT h f n r) (h1 : ∀ t, r = .ok t → wdOf W (t_k t) ≠ -1 → Q (some (vI (enc (1000 + wdOf W (t_k t))))) h) (h0 : (∀ t, r = .ok t → wdOf W (t_k t) = -1) → ∀ h', RT h' f n (bq r fun t => .error (2, t_a t)) → fr frTk h h' → Q (some (vI 0)) h') : C2 (d + 6) mX5_about [vR 218] h Q := by
  have hT := En.1
  have e6 := En.2.1
  have e7 := En.2.2.1
  have eL := En.2.2.2.2.2.2
  -- a word that is one of the law's
  have yes : ∀ K : Int, ∀ x : Int, isK r K → wdOf W K ≠ -1 → x = enc (1000 + wdOf W K) → Q (some (vI x)) h := fun K x z hw hx => by
    obtain ⟨t, rt, e⟩ := z
    rw [hx, ← e]
    exact h1 t rt (by rw [e]; exact hw)
  have no : (∀ K : Int, isK r K → wdOf W K = -1) → T2 (d + 6) mX5_about 111 [some (vR 218), none] [] h Q := fun hn => by
    refine BX5_about_111 (c_fail X (by decide) (fun h2 b1 b2 => ⟨rfl, h0 (fun t ht => hn _ ⟨t, ht, rfl⟩) h2 b1 b2⟩))
  refine EX5_about (BX5_about_0 ?_)
  rw [e6, e7, eL]
  cases W with
  | true =>
    rw [if_pos rfl]
    refine ⟨fun z => absurd rfl z, fun _ => BX5_about_19 (c_isWordK (i := 6) (K := 5) (by omega) hT X (by omega) rfl (fun z _ => ⟨fun y => absurd y (by decide), fun _ => yes 5 _ z (by decide) (by decide)⟩) (fun z _ => ⟨fun _ => ⟨fun y => absurd y (by decide), fun _ => ?_⟩, fun y => absurd rfl y⟩))⟩
    refine c_isWordK (i := 19) (K := 16) (by omega) hT X (by omega) rfl (fun z2 _ => ⟨fun y => absurd y (by decide), fun _ => yes 16 _ z2 (by decide) (by decide)⟩) (fun z2 _ => ⟨fun _ => ?_, fun y => absurd rfl y⟩)
    refine BX5_about_47 ⟨fun y => absurd y (by decide), fun _ => c_isWordK (i := 20) (K := 17) (by omega) hT X (by omega) rfl (fun z3 _ => ⟨fun y => absurd y (by decide), fun _ => yes 17 _ z3 (by decide) (by decide)⟩) (fun z3 _ => ⟨fun _ => ?_, fun y => absurd rfl y⟩)⟩
    refine BX5_about_63 ⟨fun y => absurd y (by decide), fun _ => c_isWordK (i := 21) (K := 18) (by omega) hT X (by omega) rfl (fun z4 _ => ⟨fun y => absurd y (by decide), fun _ => yes 18 _ z4 (by decide) (by decide)⟩) (fun z4 _ => ⟨fun _ => ?_, fun y => absurd rfl y⟩)⟩
    refine BX5_about_79 ⟨fun _ => BX5_about_95 ⟨fun _ => no (fun K hK => ?_), fun y => absurd y (by decide)⟩, fun y => absurd y (by decide)⟩
    have n1 : K ≠ 5 := fun e => z (by rw [e] at hK; exact hK)
    have n2 : K ≠ 16 := fun e => z2 (by rw [e] at hK; exact hK)
    have n3 : K ≠ 17 := fun e => z3 (by rw [e] at hK; exact hK)
    have n4 : K ≠ 18 := fun e => z4 (by rw [e] at hK; exact hK)
    unfold wdOf
    rw [if_neg n1, if_neg (by omega), if_neg (by simp)]
  | false =>
    rw [if_neg (by decide)]
    refine ⟨fun _ => BX5_about_19 (c_isWordK (i := 6) (K := 5) (by omega) hT X (by omega) rfl (fun z _ => ⟨fun y => absurd y (by decide), fun _ => yes 5 _ z (by decide) (by decide)⟩) (fun z _ => ⟨fun _ => ⟨fun _ => ?_, fun y => absurd rfl y⟩, fun y => absurd rfl y⟩)), fun z => by omega⟩
    refine BX5_about_47 ⟨fun _ => BX5_about_63 ⟨fun _ => BX5_about_79 ⟨fun y => absurd rfl y, fun _ => ?_⟩, fun y => absurd rfl y⟩, fun y => absurd rfl y⟩
    refine c_isWordK (i := 22) (K := 19) (by omega) hT X (by omega) rfl (fun z2 _ => ⟨fun y => absurd y (by decide), fun _ => yes 19 _ z2 (by decide) (by decide)⟩) (fun z2 _ => ⟨fun _ => ?_, fun y => absurd rfl y⟩)
    refine BX5_about_95 ⟨fun y => absurd rfl y, fun _ => c_isWordK (i := 23) (K := 20) (by omega) hT X (by omega) rfl (fun z3 _ => ⟨fun y => absurd y (by decide), fun _ => yes 20 _ z3 (by decide) (by decide)⟩) (fun z3 _ => ⟨fun _ => no (fun K hK => ?_), fun y => absurd rfl y⟩)⟩
    have n1 : K ≠ 5 := fun e => z (by rw [e] at hK; exact hK)
    have n2 : K ≠ 19 := fun e => z2 (by rw [e] at hK; exact hK)
    have n3 : K ≠ 20 := fun e => z3 (by rw [e] at hK; exact hK)
    unfold wdOf
    rw [if_neg n1, if_neg (by simp), if_neg (by omega)]
theorem L_goesIn {k : Int} {s : LSt} {r : Nat} (hr : r ≤ 6) (En : ENV h f n p la W) (X : RS h f n la k (.ok s)) (h26 : t_k s.1 ≠ 26) (h1 : 0 < r → ∀ h', RS h' f n la (k + 1) (lNx f n s) → fr (frLa la) h h' → Q (some (vI 1)) h') (h0 : r = 0 → ∀ h', RS h' f n la k (lEr 4 s) → fr (frLa la) h h' → Q (some (vI 0)) h') : C2 (d + 6) mX5_goesIn [vR 218, vI (6 - (r : Int))] h Q := by
  refine EX5_goesIn fun _ => BX5_goesIn_0 ⟨fun z => ?_, fun z => ?_⟩
  · exact L_next (j := k + 1) (by omega) En X (fun s' e => by cases e; exact h26) (fun h' b1 b2 => ⟨rfl, h1 (by omega) h' b1 b2⟩)
  · exact L_fail (by decide) En X (fun h' b1 b2 => ⟨rfl, h0 (by omega) h' b1 b2⟩)
/-- a level of the class -/
def INC (f : Nat → Int) (n p la : Nat) (W : Bool) (r : Nat) : Option (LPr × LPr × LPr) → Prop
  | none => r = 0
  | some g => 0 < r ∧ MCt f n p la W mX5_sum [vR 218, vI (6 - (r : Int) + 1)] (9 + 7 * (r - 1)) g.1 ∧ MCt f n p la W mX5_truth [vR 218, vI (6 - (r : Int) + 1)] (12 + 7 * (r - 1)) g.2.1 ∧ MCt f n p la W mX5_unit [vR 218, vI (6 - (r : Int) + 1)] (10 + 7 * (r - 1)) g.2.2
theorem l_choice {r : Nat} {g : LPr × LPr × LPr} {k : Int} {s : ER LSt} (hr : 0 < r) (hs : MCt f n p la W mX5_sum [vR 218, vI (6 - (r : Int) + 1)] (9 + 7 * (r - 1)) g.1) (ht : MCt f n p la W mX5_truth [vR 218, vI (6 - (r : Int) + 1)] (12 + 7 * (r - 1)) g.2.1) {D : Nat} (hD : 6 + 7 * r ≤ D) (hk : 0 ≤ k) (En : ENV h f n p la W) (X : RS h f n la (k + 1) s) (hq : ∀ h', RS h' f n la k (bdn s fun s1 => bdn (g.2.1 s1) fun s2 => bdn (eat f n 13 s2) fun s3 => bdn (g.1 s3) fun s4 => bdn (eat f n 14 s4) fun s5 => bdn (g.1 s5) fun s6 => bdn (eat f n 15 s6) fun s7 => .ok (lPu 3009 s7)) → fr (frLa la) h h' → Q none h') : C2 D mX5_choice [vR 218, vI (6 - (r : Int) + 1)] h Q := by
  obtain ⟨d, rfl⟩ : ∃ d, D = d + 7 := ⟨D - 7, by omega⟩
  refine EX5_choice fun _ => BX5_choice_0 ?_
  refine ht _ h _ (k + 1) s (by omega) (by omega) En X (fun h1 a1 a2 => ⟨rfl, ?_⟩)
  have E1 := En.keep a2
  refine L_name (i := 16) (K := 13) (by omega) E1 a1 (by omega) rfl (fun h2 b1 b2 => ⟨rfl, ?_⟩)
  have E2 := E1.keep b2
  refine hs _ h2 _ (k + 1) _ (by omega) (by omega) E2 b1 (fun h3 c1 c2 => ⟨rfl, ?_⟩)
  have E3 := E2.keep c2
  refine L_name (i := 17) (K := 14) (by omega) E3 c1 (by omega) rfl (fun h4 d1 d2 => ⟨rfl, ?_⟩)
  have E4 := E3.keep d2
  refine hs _ h4 _ (k + 1) _ (by omega) (by omega) E4 d1 (fun h5 e1 e2 => ⟨rfl, ?_⟩)
  have E5 := E4.keep e2
  refine L_name (i := 18) (K := 15) (by omega) E5 e1 (by omega) rfl (fun h6 f1 f2 => ⟨rfl, ?_⟩)
  have E6 := E5.keep f2
  dsimp only
  rw [E6.2.2.1]
  refine L_add (j := k) (c := 3009) (by omega) E6 f1 (fun s' e => RS.l9 E6 (by omega : (1 : Int) ≤ k + 1) (e ▸ f1)) (fun _ _ => by decide) (fun h7 g1 g2 => ⟨rfl, hq h7 ?_ ((((((a2.tr b2).tr c2).tr d2).tr e2).tr f2).tr g2)⟩)
  rw [bdn_as, bdn_as, bdn_as, bdn_as, bdn_as, bdn_as] at g1
  exact g1
theorem at12n {s : LSt} (k12 : t_k s.1 = 12) : atomP f n W none s = lEr 4 s := by
  unfold atomP
  rw [if_neg (by omega), if_neg (by rw [k12]; cases W <;> decide), if_neg (by omega), if_pos k12]
theorem at12s {s : LSt} {g : LPr × LPr × LPr} (k12 : t_k s.1 = 12) : atomP f n W (some g) s = bdn (lNx f n s) fun s1 => bdn (g.2.1 s1) fun s2 => bdn (eat f n 13 s2) fun s3 => bdn (g.1 s3) fun s4 => bdn (eat f n 14 s4) fun s5 => bdn (g.1 s5) fun s6 => bdn (eat f n 15 s6) fun s7 => .ok (lPu 3009 s7) := by
  unfold atomP
  rw [if_neg (by omega), if_neg (by rw [k12]; cases W <;> decide), if_neg (by omega), if_pos k12]
theorem at35n {s : LSt} (k35 : t_k s.1 = 35) : atomP f n W none s = lEr 4 s := by
  unfold atomP
  rw [if_neg (by omega), if_neg (by rw [k35]; cases W <;> decide), if_pos k35]
theorem at35s {s : LSt} {g : LPr × LPr × LPr} (k35 : t_k s.1 = 35) : atomP f n W (some g) s = bdn (lNx f n s) fun s1 => bdn (g.1 s1) (eat f n 36) := by
  unfold atomP
  rw [if_neg (by omega), if_neg (by rw [k35]; cases W <;> decide), if_pos k35]
theorem l_atom {r : Nat} (hr : r ≤ 6) {inn : Option (LPr × LPr × LPr)} (hI : INC f n p la W r inn) : MCt f n p la W mX5_atom [vR 218, vI (6 - (r : Int))] (7 + 7 * r) (atomP f n W inn) := by
  intro D h Q k r0 hD hk En X hq
  obtain ⟨d, rfl⟩ : ∃ d, D = d + 7 := ⟨D - 7, by omega⟩
  refine EX5_atom fun _ => BX5_atom_0 ?_
  -- what is no number, no sign, no choice
  have other : (∀ s, r0 = .ok s → t_k s.1 ≠ 25 ∧ t_k s.1 ≠ 35 ∧ t_k s.1 ≠ 12) → C2 (d + 6) mX5_about [vR 218] h (onI fun x674 h673 => C2 (d + 6) mX2_add [vR (gr h 218 7), vI x674] h673 (onV fun h675 => C2 (d + 6) mX5_next [vR 218] h675 (onV fun h677 => Q none h677))) := fun hn => by
    refine c_about En X.tk (fun t ht hw _ => ?_) (fun hw h1 b1 b2 _ => ?_)
    · cases r0 with
      | error e => cases ht
      | ok s =>
        cases ht
        have h26 : t_k s.1 ≠ 26 := fun e => hw (by unfold wdOf; rw [e]; cases W <;> decide)
        rw [En.2.2.1]
        refine L_add (j := k - 1) (c := 1000 + wdOf W (t_k s.1)) (by omega) En X (fun s' e => by cases e; exact X.l9' En hk h26) (fun _ _ => rfl) (fun h2 c1 c2 => ⟨rfl, ?_⟩)
        refine L_next (j := k) (by omega) (En.keep c2) c1 (fun s' e => by cases e; exact h26) (fun h3 d1 d2 => ⟨rfl, hq h3 ?_ (c2.tr d2)⟩)
        show RS h3 f n la k (atomP f n W inn s)
        unfold atomP
        rw [if_neg (hn s rfl).1, if_pos hw]
        exact d1
    · have Y : RS h1 f n la k (bdn r0 (lEr 2)) := X.step En (T := fun t => .error (2, t_a t)) (fun s => rfl) (fun s u _ hu => by cases hu) b1 b2
      have F := b2.mono (fun q k z => frTk_La (la := la) z)
      have E1 := En.keep F
      have nok : ∀ s, bdn r0 (lEr 2) ≠ .ok s := fun s e => by cases r0 <;> cases e
      rw [En.2.2.1]
      refine L_add (j := k - 1) (c := 0) (by omega) E1 Y (fun s' e => absurd e (nok s')) (fun s' e => absurd e (nok s')) (fun h2 c1 c2 => ⟨rfl, ?_⟩)
      refine L_next (j := k) (by omega) (E1.keep c2) c1 (fun s' e => by
        obtain ⟨x, hx, -⟩ := bdn_ok e
        exact absurd hx (nok x)) (fun h3 d1 d2 => ⟨rfl, hq h3 ?_ ((F.tr c2).tr d2)⟩)
      cases r0 with
      | error e => exact d1
      | ok s =>
        show RS h3 f n la k (atomP f n W inn s)
        unfold atomP
        have hw2 : wdOf W (t_k s.1) = -1 := hw s.1 rfl
        rw [if_neg (hn s rfl).1, if_neg (fun e => e hw2), if_neg (hn s rfl).2.1, if_neg (hn s rfl).2.2]
        exact d1
  cases r0 with
  | error e =>
    have t1 := X.1.2.2.2
    refine ⟨fun _ => ⟨fun _ => c_isWordK (i := 12) (K := 12) (by omega) En.1 X.tk (by omega) rfl (fun z => absurd z isK_err) (fun _ _ => ⟨fun _ => other (fun s e => by cases e), fun y => absurd rfl y⟩), fun z => by rw [t1] at z; exact absurd z (by decide)⟩, fun z => by rw [t1] at z; exact absurd z (by decide)⟩
  | ok s =>
    have g := X.1.1
    obtain ⟨a0, a1, a2, a3, a4, a5, a6, a7⟩ := X.1
    refine ⟨fun z => ⟨fun y => ?_, fun y => ?_⟩, fun z => ?_⟩
    · have n25 : t_k s.1 ≠ 25 := fun e => z (by rw [a6, e]; decide)
      have n35 : t_k s.1 ≠ 35 := fun e => y (by rw [a6, e]; decide)
      refine c_isWordK (i := 12) (K := 12) (by omega) En.1 X.tk (by omega) rfl (fun w _ => ⟨fun v => absurd v (by decide), fun _ => ?_⟩) (fun w _ => ⟨fun _ => other (fun s' e => ?_), fun v => absurd rfl v⟩)
      · have k12 : t_k s.1 = 12 := isK_ok.mp w
        refine L_goesIn hr En X (by omega) (fun hr0 h1 b1 b2 _ => ⟨fun v => absurd v (by decide), fun _ => ?_⟩) (fun hr0 h1 b1 b2 _ => ⟨fun _ => ?_, fun v => absurd rfl v⟩)
        · cases inn with
          | none => exact absurd hI (by show ¬ r = 0; omega)
          | some g =>
            rw [w32_r (by omega) (by omega)]
            exact l_choice hr0 hI.2.1 hI.2.2.1 (by omega) hk (En.keep b2) b1 (fun h2 c1 c2 => ⟨rfl, hq h2 (by show RS h2 f n la k (atomP f n W (some g) s); rw [at12s k12]; exact c1) (b2.tr c2)⟩)
        · cases inn with
          | none => exact hq h1 (by show RS h1 f n la k (atomP f n W none s); rw [at12n k12]; exact b1) b2
          | some g => exact absurd hI.1 (by omega)
      · cases e
        exact ⟨n25, n35, fun e => w (isK_ok.mpr e)⟩
    · rw [a6] at y
      have k35 : t_k s.1 = 35 := (ktc_eq a0 (K := 35) (by omega)).mp (by rw [y]; decide)
      refine L_goesIn hr En X (by omega) (fun hr0 h1 b1 b2 _ => ⟨fun v => absurd v (by decide), fun _ => ?_⟩) (fun hr0 h1 b1 b2 _ => ⟨fun _ => ?_, fun v => absurd rfl v⟩)
      · cases inn with
        | none => exact absurd hI (by show ¬ r = 0; omega)
        | some g =>
          rw [w32_r (by omega) (by omega)]
          have E1 := En.keep b2
          refine hI.2.1 _ h1 _ (k + 1) _ (by omega) (by omega) E1 b1 (fun h2 c1 c2 => ⟨rfl, ?_⟩)
          refine L_sign (K := 36) (by omega) (by decide) (E1.keep c2) (k := k) ?_ (fun h3 d1 d2 => ⟨rfl, hq h3 (by show RS h3 f n la k (atomP f n W (some g) s); rw [at35s k35]; rw [bdn_as] at d1; exact d1) ((b2.tr c2).tr d2)⟩)
          cases hx : bdn (lNx f n s) g.1 with
          | error e => rw [hx] at c1; exact c1
          | ok s2 => rw [hx] at c1; exact ⟨c1.1, c1.2.1, by have := c1.2.2; omega⟩
      · cases inn with
        | none => exact hq h1 (by show RS h1 f n la k (atomP f n W none s); rw [at35n k35]; exact b1) b2
        | some g => exact absurd hI.1 (by omega)
    · rw [a6] at z
      have k25 := (ktc_48 a0).mp z
      have v := g.1.2.2.2.2.2 k25
      rw [En.2.2.1]
      refine L_add (j := k - 1) (c := t_n s.1) (by omega) En X (fun s' e => by cases e; exact X.l9' En hk (by omega)) (fun _ _ => by rw [a7 k25]; unfold enc; rw [if_pos (by omega)]) (fun h2 c1 c2 => ⟨rfl, ?_⟩)
      refine L_next (j := k) (by omega) (En.keep c2) c1 (fun s' e => by cases e; show t_k s.1 ≠ 26; omega) (fun h3 d1 d2 => ⟨rfl, hq h3 ?_ (c2.tr d2)⟩)
      show RS h3 f n la k (atomP f n W inn s)
      unfold atomP
      rw [if_pos k25]
      exact d1
end
