/-! THE MODEL: words and laws of a page -/
section
variable {d : Nat} {h : PH} {Q : Option PV → PH → Prop}
variable {f : Nat → Int} {n : Nat}
theorem n_words_loop : ∀ (m : Nat) (h : PH) (r : ER QS), TPm h f n → MQr h f n r → (∀ s, r = .ok s → g_S s.2.1 ≤ 6 ∧ g_W s.2.1 ≤ 30 ∧ n ≤ t_a s.1 + m) → (∀ h', MQr h' f n (bq r (wordsL f n m)) → fr frRm h h' → Q none h') → T2 (d + 7) mX11_readWords 4 [some (vR 247), none] [] h Q := by
  have err : ∀ (m : Nat) (h : PH) (e : Int × Nat), MQr h f n (.error e) → (∀ h', MQr h' f n (.error e) → fr frRm h h' → Q none h') → T2 (d + 7) mX11_readWords 4 [some (vR 247), none] [] h Q := fun m h e X hq => by
    refine BX11_readWords_4 ⟨fun _ => hq h X fr.rf, fun z => ?_⟩
    rcases id (show MT h f n (.error e) from X) with ⟨a, b, -⟩ | ⟨a, b, -⟩
    · exact absurd (a.symm.trans z) b
    · rw [b]
      exact ⟨fun w => absurd w (by decide), fun _ => ⟨fun _ => hq h X fr.rf, fun w => absurd w (by decide)⟩⟩
  intro m
  induction m with
  | zero =>
    intro h r T X hI hq
    cases r with
    | error e => exact err 0 h e X hq
    | ok s =>
      obtain ⟨x0, xs⟩ := id X
      have hl := (hI s rfl).2.2
      have k26 : t_k s.1 = 26 := by
        apply Classical.byContradiction
        intro k
        have := x0.1.1.2.2.2.2.1 k
        have := x0.1.1.2.2.1
        omega
      refine BX11_readWords_4 ⟨fun w => absurd x0.2.1 w, fun z => ?_⟩
      rw [x0.2.2.1, k26]
      exact ⟨fun w => absurd w (by decide), fun _ => ⟨fun _ => hq h X fr.rf, fun w => absurd w (by decide)⟩⟩
  | succ m ih =>
    intro h r T X hI hq
    cases r with
    | error e => exact err 0 h e X hq
    | ok s =>
      obtain ⟨x0, c, xc, xc2, xP, xS, xN⟩ := id X
      obtain ⟨hS, hW, hl⟩ := hI s rfl
      have hn := T.1
      have b1 := x0.1.1.2.1
      have b2 := x0.1.1.2.2.1
      have e6 : gi h 251 6 = g_W s.2.1 := xP.1.2.2.2.2.2.2
      have unf : (0 ≤ t_k s.1 ∧ t_k s.1 ≤ 24) → wordsL f n (m + 1) s = if 12 < t_b s.1 - t_a s.1 then .error (3, t_a s.1) else if g_W s.2.1 = 30 then .error (4, t_a s.1) else bq (nxt f n s.1) fun t => wordsL f n m (t, ((g_wi s.2.1, g_ln s.2.1, g_hi s.2.1, g_le s.2.1, g_to s.2.1, g_S s.2.1, g_W s.2.1 + 1), g_kd s.2.1, g_ac s.2.1, g_tl s.2.1, upf (g_lt s.2.1) (g_W s.2.1) ((t_b s.1 : Int) - t_a s.1), upf (g_fi s.2.1) (g_W s.2.1) (f (t_a s.1) - 97 + 1), g_wl s.2.1, g_gl s.2.1), s.2.2) := fun c1 => by
        show (if t_k s.1 < 0 ∨ 24 < t_k s.1 then _ else _) = _
        rw [if_neg (by omega)]
      have stop : (t_k s.1 < 0 ∨ 24 < t_k s.1) → Q none h := fun z => by
        refine hq h ?_ fr.rf
        show MQr h f n (if t_k s.1 < 0 ∨ 24 < t_k s.1 then .ok s else _)
        rw [if_pos z]; exact X
      have hq' : ∀ h', MQr h' f n (wordsL f n (m + 1) s) → fr frRm h h' → Q none h' := hq
      have dead : ∀ (k : Int), k ≠ 0 → wordsL f n (m + 1) s = .error (k, t_a s.1) → C2 (d + 6) mX11_fails [vR 247, vI k] h (onV fun h1 => T2 (d + 6 + 1) mX11_readWords 68 [some (vR 247), some (vI (g_W s.2.1 : Int))] [] h1 Q) := fun k hk he => by
        refine m_fails hk x0 (fun h1 y1 y2 f1 => ⟨rfl, BX11_readWords_68 ⟨fun w => absurd w y2, fun _ => hq' h1 ?_ (kFm f1)⟩⟩)
        rw [he]; exact y1
      refine BX11_readWords_4 (d := d + 6) ⟨fun w => absurd x0.2.1 w, fun z => ?_⟩
      rw [x0.2.2.1, x0.2.2.2.1, x0.2.2.2.2.1, e6, w32_r (x := (t_b s.1 : Int) - t_a s.1) (by omega) (by omega)]
      refine ⟨fun w => stop (Or.inl w), fun w0 => ⟨fun w => stop (Or.inr w), fun w24 => ?_⟩⟩
      have un := unf ⟨w0, w24⟩
      refine ⟨fun y => ⟨fun w => ?_, fun w => dead 4 (by decide) (by rw [un, if_neg (by omega), if_pos (by omega)])⟩, fun y => dead 3 (by decide) (by rw [un, if_pos (by omega)])⟩
      rw [if_neg (by omega), if_neg (by omega)] at un
      have hta := x0.1.1.2.2.2.2.1 (by omega)
      have hf := T.2.1 (t_a s.1)
      refine BX11_readWords_68 (d := d + 6) ⟨fun _ => ?_, fun w => absurd x0.2.1 w⟩
      rw [w32a (k := 31) (n := 31) (s := g_W s.2.1) rfl (by omega), w32a (k := 61) (n := 61) (s := g_W s.2.1) rfl (by omega), x0.2.2.2.1, x0.2.2.2.2.1, w32_r (x := (t_b s.1 : Int) - t_a s.1) (by omega) (by omega)]
      try simp only [Int.toNat_natCast]
      refine ⟨⟨by omega, by omega⟩, fun h1 e1 => ?_⟩
      have g16 : gi h1 247 6 = t_a s.1 := by subst e1; rw [gi_s1 (by omega)]; exact x0.2.2.2.1
      have g1t : gi h1 250 (t_a s.1) = f (t_a s.1) := by subst e1; rw [gi_s1 (by omega)]; exact T.2.2.1 _ (by omega)
      rw [g16]
      try simp only [Int.toNat_natCast]
      rw [g1t, w32_r (x := f (t_a s.1) - 97) (by omega) (by omega), w32_r (by omega) (by omega)]
      refine ⟨⟨by omega, by omega⟩, ⟨by omega, by omega⟩, fun h2 e2 h3 e3 => ?_⟩
      have g26 : gi h2 251 6 = g_W s.2.1 := by subst e2 e1; rw [gi_s2 (by omega), gi_s2 (by omega)]; exact e6
      rw [g26, w32_r (by omega) (by omega)] at e3
      have F3 : fr frRm h h3 := by subst e3 e2 e1; exact ((fr.rf.si (by unfold frRm; omega)).si (by unfold frRm; omega)).si (by unfold frRm; omega)
      have x3 : MT h3 f n (.ok s.1) := by subst e3 e2 e1; exact x0.s1.s1.s1
      refine m_nextT (d := d) (T.rd F3) x3 (fun h4 y4 _ f4' => ⟨rfl, ?_⟩)
      have f4 : fr frMt h3 h4 := f4'.mono (fun q k z => frNx_t z)
      have F4 := F3.tr (kFm f4)
      have G : ∀ k, k ≠ 6 → k ≠ 31 + g_W s.2.1 → k ≠ 61 + g_W s.2.1 → gi h4 251 k = gi h 251 k := by
        intro k c1 c2 c3
        rw [gFm f4 _ _ (by omega)]
        subst e3 e2 e1
        rw [gi_s2 c1, gi_s2 c3, gi_s2 c2]
      have kk : gi h4 251 (31 + g_W s.2.1) = (t_b s.1 : Int) - t_a s.1 ∧ gi h4 251 (61 + g_W s.2.1) = f (t_a s.1) - 97 + 1 ∧ gi h4 251 6 = (g_W s.2.1 : Int) + 1 := by
        rw [gFm f4 _ _ (by omega), gFm f4 _ _ (by omega), gFm f4 _ _ (by omega)]
        subst e3 e2 e1
        refine ⟨?_, ?_, ?_⟩
        · rw [gi_s2 (by omega), gi_s2 (by omega), gi_s0]
        · rw [gi_s2 (by omega), gi_s0]
        · exact gi_s0
      refine ih h4 (bq (nxt f n s.1) fun t => .ok (t, ((g_wi s.2.1, g_ln s.2.1, g_hi s.2.1, g_le s.2.1, g_to s.2.1, g_S s.2.1, g_W s.2.1 + 1), g_kd s.2.1, g_ac s.2.1, g_tl s.2.1, upf (g_lt s.2.1) (g_W s.2.1) ((t_b s.1 : Int) - t_a s.1), upf (g_fi s.2.1) (g_W s.2.1) (f (t_a s.1) - 97 + 1), g_wl s.2.1, g_gl s.2.1), s.2.2)) (T.rd F4) ?_ (fun s' e => ?_) (fun h5 y5 f5 => hq' h5 ?_ (F4.tr f5))
      · cases hx : nxt f n s.1 with
        | error e => rw [hx] at y4; exact y4
        | ok t =>
          rw [hx] at y4
          have adv := (nxt_okV hx x0.1.1).2
          obtain ⟨⟨a0, a1, a2, a3, a4, a5, a6⟩, bb, cc, l1, l2⟩ := xP
          refine ⟨y4, c, by rw [G _ (by omega) (by omega) (by omega)]; exact xc, by show c ≤ t_a t; omega, ⟨⟨by rw [G _ (by omega) (by omega) (by omega)]; exact a0, by rw [G _ (by omega) (by omega) (by omega)]; exact a1, by rw [G _ (by omega) (by omega) (by omega)]; exact a2, by rw [G _ (by omega) (by omega) (by omega)]; exact a3, by rw [G _ (by omega) (by omega) (by omega)]; exact a4, by rw [G _ (by omega) (by omega) (by omega)]; exact a5, ?_⟩, fun i hi => ?_, fun w hw => ?_, ?_, ?_⟩, fun k hk => ?_, by rw [G _ (by omega) (by omega) (by omega)]; exact xN⟩
          · rw [kk.2.2]; show (g_W s.2.1 : Int) + 1 = ((g_W s.2.1 + 1 : Nat) : Int); omega
          · have hi' : i < g_S s.2.1 := hi
            rw [G _ (by omega) (by omega) (by omega), G _ (by omega) (by omega) (by omega), G _ (by omega) (by omega) (by omega)]; exact bb i hi
          · have hw' : w < g_W s.2.1 + 1 := hw
            show gi h4 251 (31 + w) = upf (g_lt s.2.1) (g_W s.2.1) ((t_b s.1 : Int) - t_a s.1) w ∧ gi h4 251 (61 + w) = upf (g_fi s.2.1) (g_W s.2.1) (f (t_a s.1) - 97 + 1) w
            unfold upf
            by_cases ew : w = g_W s.2.1
            · rw [if_pos ew, if_pos ew, ew]; exact ⟨kk.1, kk.2.1⟩
            · rw [if_neg ew, if_neg ew, G _ (by omega) (by omega) (by omega), G _ (by omega) (by omega) (by omega)]
              exact cc w (by omega)
          · exact l1.keep (by omega) (Nat.le_refl _) (fun j hj => G _ (by omega) (by omega) (by omega))
          · exact l2.keep (by omega) (Nat.le_refl _) (fun j hj => G _ (by omega) (by omega) (by omega))
          · rw [G _ (by omega) (by omega) (by omega)]; exact xS k hk
      · obtain ⟨t, ht, e⟩ := bq_ok e
        cases e
        have adv := (nxT_ok (by omega) ht x0.1.1).2
        exact ⟨hS, by show g_W s.2.1 + 1 ≤ 30; omega, by show n ≤ t_a t + m; omega⟩
      · rw [un]
        rw [bq_as] at y5
        exact y5
theorem n_wordsL {s : QS} (T : TPm h f n) (X : MQr h f n (.ok s)) (hS : g_S s.2.1 ≤ 6) (hW : g_W s.2.1 ≤ 30) (hq : ∀ h', MQr h' f n (wordsP f n s) → fr frRm h h' → Q none h') : C2 (d + 7) mX11_readWords [vR 247] h Q := by
  have hn := T.1
  obtain ⟨x0, c, xc, xc2, xP, xS, xN⟩ := id X
  refine EX11_readWords (BX11_readWords_0 (d := d + 6) (m_nextT (d := d) T x0 (fun h1 x1 _ f1' => ⟨rfl, ?_⟩)))
  have f1 : fr frMt h h1 := f1'.mono (fun q k z => frNx_t z)
  have G : ∀ k, gi h1 251 k = gi h 251 k := fun k => gFm f1 _ _ (by omega)
  refine n_words_loop (d := d) 900 h1 (bq (nxt f n s.1) fun t => .ok (t, s.2)) (T.mt f1) ?_ (fun s' e => ?_) (fun h2 y2 f2 => hq h2 ?_ ((kFm f1).tr f2))
  · cases hx : nxt f n s.1 with
    | error e => rw [hx] at x1; exact x1
    | ok t =>
      rw [hx] at x1
      have adv := (nxt_okV hx x0.1.1).2
      have b1 := x0.1.1.2.1
      obtain ⟨⟨a0, a1, a2, a3, a4, a5, a6⟩, bb, cc, l1, l2⟩ := xP
      refine ⟨x1, c, by rw [G]; exact xc, by show c ≤ t_a t; omega, ⟨⟨by rw [G]; exact a0, by rw [G]; exact a1, by rw [G]; exact a2, by rw [G]; exact a3, by rw [G]; exact a4, by rw [G]; exact a5, by rw [G]; exact a6⟩, fun i hi => by rw [G, G, G]; exact bb i hi, fun w hw => by rw [G, G]; exact cc w hw, l1.keep (by omega) (Nat.le_refl _) (fun j _ => G _), l2.keep (by omega) (Nat.le_refl _) (fun j _ => G _)⟩, fun k hk => by rw [G]; exact xS k hk, by rw [G]; exact xN⟩
  · obtain ⟨t, -, e⟩ := bq_ok e
    cases e
    exact ⟨hS, hW, by omega⟩
  · rw [bq_as] at y2
    exact y2
theorem WT_ne {W b : Bool} {cs : List Int} {m : Nat} (hm : m ≤ 64) (h : WT W cs b m) : cs ≠ [] := fun e => by
  obtain ⟨x, -, -, z⟩ := h.2 (fun _ => 0) (fun _ => ⟨by show (-1000000 : Int) ≤ 0; omega, by show (0 : Int) ≤ 1000000; omega⟩)
  have := z [] (by show 0 + m ≤ 64; omega)
  rw [e] at this
  have t : (some ([] : List Int)) = some [x] := this
  cases t
theorem n_lawL {s : QS} {W : Bool} {l1 : Int} (hl1 : l1 = (if W then 0 else 1)) (k26 : t_k s.1 ≠ 26) (T : TPm h f n) (X : MQr h f n (.ok s)) (hS : g_S s.2.1 ≤ 6) (hW : g_W s.2.1 ≤ 30) (hq : ∀ h', MQr h' f n (lawP f n W s) → fr frRm h h' → Q none h') : C2 (d + 54) mX11_readLaw [vR 247, vI l1] h Q := by
  obtain ⟨x0, c, xc, xc2, xP, xS, xN⟩ := id X
  obtain ⟨k, hk, hk2⟩ : ∃ k : Nat, l1 = (k : Int) ∧ k = (if W then 0 else 1) := ⟨if W then 0 else 1, by rw [hl1]; cases W <;> rfl, rfl⟩
  have k2 : k < 2 := by rw [hk2]; split <;> omega
  refine EX11_readLaw fun _ => BX11_readLaw_0 (d := d + 53) (m_nextT (d := d + 47) T x0 (fun h1 x1 z1 f1' => ⟨rfl, ?_⟩))
  have f1 : fr frMt h h1 := f1'.mono (fun q k z => frNx_t z)
  have T1 := T.mt f1
  refine m_eatF (d := d + 46) (K := 31) (by decide) T1 x1 (fun h2 x2 z2 f2 => BX11_readLaw_18 (d := d + 53) (fun h3 e3 => ?_))
  have T2' := T1.mt f2
  have g12 : ∀ j, gi h2 251 j = gi h 251 j := fun j => by rw [gFm f2 _ _ (by omega), gFm f1 _ _ (by omega)]
  have F3 : fr frRm h h3 := by subst e3; exact ((kFm f1).tr (kFm f2)).si (by unfold frRm; omega)
  have g3 : ∀ j, gi h3 251 j = gi h 251 j := fun j => by subst e3; rw [gi_s1 (by omega)]; exact g12 j
  have En : ENm h3 f n W := ⟨T.rd F3, by subst e3; rw [gi_s0]; exact hl1⟩
  generalize hr4 : bq (nxt f n s.1) (eatT f n 31) = r4 at *
  have x3 : MT h3 f n r4 := by subst e3; exact x2.keep (fun j z _ => gi_s2 z)
  have e311 : gi h3 247 11 = gi h2 247 11 := by subst e3; exact gi_s2 (by omega)
  have XS : MS h3 f n c 0 (bq r4 fun t => .ok (t, [])) := by
    cases r4 with
    | error e =>
      refine ⟨x3, fun w => ?_⟩
      rw [e311] at w
      obtain ⟨t, ht, hb⟩ := z2 e rfl w
      have o1 := nxt_okV ht x0.1.1
      have o2 := x0.1.1.2.1
      have o3 := o1.1.2.1
      rw [g3, xc]
      omega
    | ok t =>
      obtain ⟨t1, ht, hb⟩ := bq_ok hr4
      have o1 := nxT_ok k26 ht x0.1.1
      have o2 := eatT_ok (by decide) hb o1.1
      refine ⟨x3, by rw [g3, xc]; rfl, fun i hi => absurd hi (Nat.not_lt_zero i), ?_⟩
      show ((c + 0 : Nat) : Int) + 0 ≤ (t_a t : Int)
      omega
  have MM := n_sum (f := f) (n := n) (b := c) (W := W) (r := 6) (by omega) (n_lvl 6 (by omega)) (lvl_ty (f := f) (n := n) (MkW W) 6)
  have e6 : (6 : Int) - ((6 : Nat) : Int) = 0 := by decide
  rw [e6] at MM
  refine MM (d + 53) h3 _ 0 _ (by omega) (by omega) En XS (fun h5 x5 f5 => ⟨rfl, ?_⟩)
  have F5 : fr frRm h h5 := F3.tr (f5.mono (fun q j z => by unfold frLm frMt at z; unfold frRm frMt; omega))
  have el : lawP f n W s = bq (bdn (bq r4 fun t => .ok (t, [])) (sumP f n W (lvl f n W 6))) fun l => .ok (l.1, (s.2.1.1, g_kd s.2.1, g_ac s.2.1, g_tl s.2.1, g_lt s.2.1, g_fi s.2.1, (if W then l.2 else g_wl s.2.1), (if W then g_gl s.2.1 else l.2)), s.2.2) := by
    unfold lawP
    subst hr4
    generalize nxt f n s.1 = q1
    cases q1 with
    | error e => rfl
    | ok t1 =>
      simp only [bq_o]
      generalize eatT f n 31 t1 = q2
      cases q2 with
      | error e => rfl
      | ok t2 => rfl
  rw [el] at hq
  have hty : ∀ l, bdn (bq r4 fun t => .ok (t, [])) (sumP f n W (lvl f n W 6)) = .ok l → l.2 ≠ [] := fun l hl => by
    obtain ⟨s1, q1, q2⟩ := bdn_ok hl
    obtain ⟨t, q3, q4⟩ := bq_ok q1
    cases q4
    subst q3
    obtain ⟨o3, cs, e3', w3, p3⟩ := sum_ty (MkW W) (lvl_ty (MkW W) 6) (t, []) l q2 x3.1.1
    have : l.2 = cs := e3'
    rw [this]
    exact WT_ne (by omega) w3
  generalize bdn (bq r4 fun t => .ok (t, [])) (sumP f n W (lvl f n W 6)) = rr at *
  rw [hk, g12, xc, w32a (k := 7) (n := 7) (s := k) rfl (by omega), w32a (k := 9) (n := 9) (s := k) rfl (by omega), w32a (k := 11) (n := 11) (s := k) rfl (by omega)]
  try simp only [Int.toNat_natCast]
  cases rr with
  | error e =>
    have x5' : MT h5 f n (.error e) := x5.1
    refine ⟨fun _ => ⟨⟨by omega, by omega⟩, fun h6 e6 => ⟨⟨by omega, by omega⟩, fun h7 e7 => ⟨⟨by omega, by omega⟩, fun h8 e8 => ?_⟩⟩⟩, fun _ => hq h5 x5' F5⟩
    refine hq h8 ?_ ?_
    · subst e8 e7 e6; exact x5'.s1.s1.s1
    · subst e8 e7 e6; exact ((F5.si (by unfold frRm; omega)).si (by unfold frRm; omega)).si (by unfold frRm; omega)
  | ok l =>
    obtain ⟨y1, y2, y3, y4⟩ := x5
    refine ⟨fun _ => ⟨⟨by omega, by omega⟩, fun h6 e6 => ⟨⟨by omega, by omega⟩, fun h7 e7 => ⟨⟨by omega, by omega⟩, fun h8 e8 => ?_⟩⟩⟩, fun w => absurd y1.2.1 w⟩
    have g7 : gi h7 251 312 = ((c + l.2.length : Nat) : Int) := by subst e7 e6; rw [gi_s2 (by omega), gi_s2 (by omega)]; exact y2
    have tb := y1.1.1.2.1
    have tc := y1.1.1.2.2.1
    have hn := T.1
    rw [g7, w32_r (by omega) (by omega), show ((c + l.2.length : Nat) : Int) - (c : Int) = (l.2.length : Int) by omega] at e8
    have F8 : fr frRm h h8 := by subst e8 e7 e6; exact ((F5.si (by unfold frRm; omega)).si (by unfold frRm; omega)).si (by unfold frRm; omega)
    have G : ∀ j, j ≠ 7 + k → j ≠ 9 + k → j ≠ 11 + k → j ≠ 312 → j < 313 + c → gi h8 251 j = gi h 251 j := by
      intro j c1 c2 c3 c4 c5
      subst e8 e7 e6
      rw [gi_s2 c3, gi_s2 c2, gi_s2 c1, f5.1 _ _ (by unfold frLm frMt; omega), g3]
    have G5 : ∀ j, j ≠ 7 + k → j ≠ 9 + k → j ≠ 11 + k → gi h8 251 j = gi h5 251 j := by
      intro j c1 c2 c3
      subst e8 e7 e6
      rw [gi_s2 c3, gi_s2 c2, gi_s2 c1]
    have kk : gi h8 251 (7 + k) = 1 ∧ gi h8 251 (9 + k) = c ∧ gi h8 251 (11 + k) = l.2.length := by
      subst e8 e7 e6
      refine ⟨?_, ?_, ?_⟩
      · rw [gi_s2 (by omega), gi_s2 (by omega), gi_s0]
      · rw [gi_s2 (by omega), gi_s0]
      · exact gi_s0
    have y8 : MT h8 f n (.ok l.1) := by subst e8 e7 e6; exact y1.s1.s1.s1
    have own : LawF h8 k l.2 (c + l.2.length) := ⟨fun z => absurd z (hty l rfl), fun _ => ⟨kk.1, c, kk.2.1, kk.2.2, Nat.le_refl _, fun i hi => by rw [G5 _ (by omega) (by omega) (by omega)]; exact y3 i hi⟩⟩
    refine hq h8 ?_ F8
    obtain ⟨⟨a0, a1, a2, a3, a4, a5, a6⟩, bb, cc, w1, w2⟩ := xP
    refine ⟨y8, c + l.2.length, by rw [G5 _ (by omega) (by omega) (by omega)]; exact y2, by show c + l.2.length ≤ t_a l.1; omega, ⟨⟨by rw [G _ (by omega) (by omega) (by omega) (by omega) (by omega)]; exact a0, by rw [G _ (by omega) (by omega) (by omega) (by omega) (by omega)]; exact a1, by rw [G _ (by omega) (by omega) (by omega) (by omega) (by omega)]; exact a2, by rw [G _ (by omega) (by omega) (by omega) (by omega) (by omega)]; exact a3, by rw [G _ (by omega) (by omega) (by omega) (by omega) (by omega)]; exact a4, by rw [G _ (by omega) (by omega) (by omega) (by omega) (by omega)]; exact a5, by rw [G _ (by omega) (by omega) (by omega) (by omega) (by omega)]; exact a6⟩, fun i hi => ?_, fun w hw => ?_, ?_, ?_⟩, fun j hj => ?_, by rw [G _ (by omega) (by omega) (by omega) (by omega) (by omega)]; exact xN⟩
    · have hi' : i < g_S s.2.1 := hi
      rw [G _ (by omega) (by omega) (by omega) (by omega) (by omega), G _ (by omega) (by omega) (by omega) (by omega) (by omega), G _ (by omega) (by omega) (by omega) (by omega) (by omega)]; exact bb i hi
    · have hw' : w < g_W s.2.1 := hw
      rw [G _ (by omega) (by omega) (by omega) (by omega) (by omega), G _ (by omega) (by omega) (by omega) (by omega) (by omega)]; exact cc w hw
    · cases W with
      | true =>
        rw [if_pos rfl] at hk2; subst hk2
        exact own
      | false =>
        rw [if_neg (by decide)] at hk2; subst hk2
        exact w1.keep1 (by omega) (by omega) (fun j hj => G _ (by omega) (by omega) (by omega) (by omega) (by omega))
    · cases W with
      | true =>
        rw [if_pos rfl] at hk2; subst hk2
        exact w2.keep1 (by omega) (by omega) (fun j hj => G _ (by omega) (by omega) (by omega) (by omega) (by omega))
      | false =>
        rw [if_neg (by decide)] at hk2; subst hk2
        exact own
    · rw [G _ (by omega) (by omega) (by omega) (by omega) (by omega)]; exact xS j hj
end
