/-! THE CLASS: words, signs, numbers -/
section
variable {d : Nat} {h : PH} {Q : Option PV → PH → Prop}
variable {f : Nat → Int} {n : Nat}
theorem sb_L {x : Int} (h : isL x = true) : sb x = x := by
  unfold isL at h
  have := of_decide_eq_true h
  unfold sb; rw [if_pos (by omega)]
theorem wd_loop {i K : Nat} (hi : i < 27) {t : TK} (hT : TPc h f n) (g : GT f n t) (h3 : gi h 218 3 = t_a t) (hK : K < 24) (hk : t_k t ≤ 24) (hs : sByt.getD i [] = keyL.getD K []) (hl : t_b t = t_a t + sLen i) (h1 : t_k t = K → Q (some (vI 1)) h) (h0 : t_k t ≠ K → Q (some (vI 0)) h) :
    ∀ (m j : Nat), j + m = sLen i → (∀ j', j' < j → f (t_a t + j') = sChr i j') → T2 (d + 5) mX5_isWord 29 [some (vR 218), some (vR (1 + i)), some (vI (j : Int))] [] h Q := by
  have hn := hT.1
  have hb := g.1.2.2.1
  obtain ⟨-, ek, eL⟩ := g.2.1 hk
  have eK : t_k t = K ↔ cutT2 f (t_b t - t_a t) (t_a t) = keyL.getD K [] := by rw [ek]; exact key_iff hK
  have e0 : t_b t - t_a t = sLen i := by omega
  rw [e0] at eK
  intro m
  induction m with
  | zero =>
    intro j hj hp
    refine BX5_isWord_29 hi (c_length (d := d + 3) hi (fun _ => ⟨fun _ => ?_, fun z => by omega⟩))
    refine h1 (eK.mpr ?_)
    rw [← hs]
    refine list_ext0 _ _ (by rw [cut_len]; rfl) (fun j' h' => ?_)
    rw [cut_len] at h'
    rw [cut_at _ _ _ _ h', hp j' (by omega)]
    rfl
  | succ m ih =>
    intro j hj hp
    refine BX5_isWord_29 hi (c_length (d := d + 3) hi (fun _ => ⟨fun z => by omega, fun _ => ?_⟩))
    rw [h3, w32_r (x := (t_a t : Int) + (j : Int)) (by omega) (by omega), show (t_a t : Int) + (j : Int) = ((t_a t + j : Nat) : Int) by omega]
    try simp only [Int.toNat_natCast]
    rw [hT.2.2 _ (by omega), sb_L (eL (t_a t + j) (by omega) (by omega))]
    refine ⟨⟨by omega, by omega⟩, c_charAt hi (by omega) (by omega) (fun _ => ?_)⟩
    try simp only [Int.toNat_natCast]
    refine ⟨fun z => ?_, fun z => ?_⟩
    · rw [w32_r (by omega) (by omega), show (j : Int) + 1 = ((j + 1 : Nat) : Int) by omega]
      refine ih (j + 1) (by omega) (fun j' h' => ?_)
      by_cases e : j' = j
      · rw [e]; exact z
      · exact hp j' (by omega)
    · refine h0 (fun w => z ?_)
      have := congrArg (fun l => l.getD j 0) (eK.mp w)
      rw [cut_at _ _ _ _ (by omega), ← hs] at this
      exact this
theorem c_isWordK {i K : Nat} (hi : i < 27) {r : ER TK} (hT : TPc h f n) (X : RT h f n r) (hK : K < 24) (hs : sByt.getD i [] = keyL.getD K []) (h1 : isK r K → Q (some (vI 1)) h) (h0 : ¬ isK r K → Q (some (vI 0)) h) : C2 (d + 5) mX5_isWord [vR 218, vR (1 + i)] h Q := by
  have hn := hT.1
  refine EX5_isWord (BX5_isWord_0 hi ?_)
  cases r with
  | error e => exact ⟨fun _ => h0 isK_err, fun z => by rw [X.2.2.2] at z; exact absurd z (by decide)⟩
  | ok t =>
    obtain ⟨a0, a1, a2, a3, a4, a5, a6, a7⟩ := X
    have hb := a0.1.2.2.1
    have hab := a0.1.2.1
    rw [isK_ok] at h1 h0
    rw [a6, a4, a5, w32_r (by omega) (by omega)]
    refine ⟨fun z => h0 (fun w => z (ktc_lo (by omega))), fun z => c_length (d := d + 3) hi (fun _ => ⟨fun y => ?_, fun y => h0 (fun w => y ?_)⟩)⟩
    · have hk := (ktc_97 a0).mp z
      exact wd_loop hi hT a0 a4 hK hk hs (by omega) h1 h0 (sLen i) 0 (by omega) (fun j' h' => by omega)
    · obtain ⟨-, ek, -⟩ := a0.2.1 (by omega)
      have := (key_iff hK).mp (ek.symm.trans w)
      have := congrArg List.length this
      rw [cut_len, ← hs] at this
      show (t_b t : Int) - t_a t = ((sByt.getD i []).length : Nat)
      omega
theorem c_sign {K : Int} (hK : 30 ≤ K ∧ K ≤ 41) {r : ER TK} {c : Int} (hc : c = ktc K) (hT : TPc h f n) (X : RT h f n r) (hq : ∀ h', RT h' f n (bq r (eatT f n K)) → fr frTk h h' → Q none h') : C2 (d + 6) mX5_sign [vR 218, vI c] h Q := by
  subst hc
  have bad : ¬ isK r K → C2 (d + 5) mX5_fail [vR 218, vI 2] h (onV fun h423 => T2 (d + 6) mX5_sign 13 [some (vR 218), none] [] h423 Q) := fun hn => by
    refine c_fail X (by decide) (fun h1 b1 b2 => ⟨rfl, BX5_sign_13 (c_next (hT.keep (fun k => b2.1 _ _ (by unfold frTk; omega))) b1 (fun h2 c1 c2 => ⟨rfl, hq h2 ?_ (b2.tr c2)⟩))⟩)
    cases r with
    | error e => exact c1
    | ok t =>
      rw [isK_ok] at hn
      show RT h2 f n (eatT f n K t)
      unfold eatT
      rw [if_neg hn]
      exact c1
  refine EX5_sign fun _ => BX5_sign_0 ⟨fun z => ?_, fun z => bad (fun w => ?_)⟩
  · refine BX5_sign_13 (c_next hT X (fun h2 c1 c2 => ⟨rfl, hq h2 ?_ c2⟩))
    cases r with
    | error e => exact c1
    | ok t =>
      obtain ⟨a0, a1, a2, a3, a4, a5, a6, a7⟩ := X
      rw [a6] at z
      show RT h2 f n (eatT f n K t)
      unfold eatT
      rw [if_pos ((ktc_eq a0 hK).mp z)]
      exact c1
  · obtain ⟨t, rfl, e⟩ := w
    obtain ⟨a0, a1, a2, a3, a4, a5, a6, a7⟩ := X
    exact z (by rw [a6, e])
theorem c_name {i K : Nat} (hi : i < 27) {r : ER TK} (hT : TPc h f n) (X : RT h f n r) (hK : K < 24) (hs : sByt.getD i [] = keyL.getD K []) (hq : ∀ h', RT h' f n (bq r (eatT f n K)) → fr frTk h h' → Q none h') : C2 (d + 6) mX5_name [vR 218, vR (1 + i)] h Q := by
  refine EX5_name (BX5_name_0 hi (c_isWordK hi hT X hK hs (fun z _ => ⟨fun _ => ?_, fun y => absurd y (by decide)⟩) (fun z _ => ⟨fun y => absurd rfl y, fun _ => ?_⟩)))
  · refine BX5_name_13 (c_next hT X (fun h2 c1 c2 => ⟨rfl, hq h2 ?_ c2⟩))
    obtain ⟨t, rfl, e⟩ := z
    show RT h2 f n (eatT f n K t)
    unfold eatT
    rw [if_pos e]
    exact c1
  · refine c_fail X (by decide) (fun h1 b1 b2 => ⟨rfl, BX5_name_13 (c_next (hT.keep (fun k => b2.1 _ _ (by unfold frTk; omega))) b1 (fun h2 c1 c2 => ⟨rfl, hq h2 ?_ (b2.tr c2)⟩))⟩)
    cases r with
    | error e => exact c1
    | ok t =>
      rw [isK_ok] at z
      show RT h2 f n (eatT f n K t)
      unfold eatT
      rw [if_neg z]
      exact c1
def RTn (h : PH) (f : Nat → Int) (n : Nat) (x : Int) : ER (Int × TK) → Prop
  | .ok a => x = a.1 ∧ RT h f n (.ok a.2)
  | .error e => RT h f n (.error e)
theorem c_number {lo up : Int} {r : ER TK} (hT : TPc h f n) (X : RT h f n r) (hq : ∀ h' x, RTn h' f n x (bq r (numT f n lo up)) → fr frTk h h' → Q (some (vI x)) h') : C2 (d + 6) mX5_number [vR 218, vI lo, vI up] h Q := by
  have bad : ∀ k : Int, k ≠ 0 → (∀ t, r = .ok t → numT f n lo up t = .error (k, t_a t)) → C2 (d + 5) mX5_fail [vR 218, vI k] h (onV fun h1 => T2 (d + 6) mX5_number 38 [some (vR 218), none, none, none] [] h1 Q) := fun k hk hn => by
    refine c_fail X hk (fun h1 b1 b2 => ⟨rfl, BX5_number_38 (c_next (hT.keep (fun k => b2.1 _ _ (by unfold frTk; omega))) b1 (fun h2 c1 c2 => ⟨rfl, hq h2 _ ?_ (b2.tr c2)⟩))⟩)
    cases r with
    | error e => exact c1
    | ok t =>
      show RTn h2 f n _ (numT f n lo up t)
      rw [hn t rfl]
      exact c1
  refine EX5_number fun _ _ => BX5_number_0 ?_
  cases r with
  | error e =>
    refine ⟨fun z => by rw [X.2.2.2] at z; exact absurd z (by decide), fun _ => bad 2 (by decide) (fun t ht => by cases ht)⟩
  | ok t =>
    obtain ⟨a0, a1, a2, a3, a4, a5, a6, a7⟩ := id X
    refine ⟨fun z => ?_, fun z => bad 2 (by decide) (fun t' ht => ?_)⟩
    · rw [a6] at z
      have h25 := (ktc_48 a0).mp z
      rw [a7 h25]
      have b3 : t_n t < lo ∨ up < t_n t → T2 (d + 6) mX5_number 33 [some (vR 218), none, none, none] [] h Q := fun y => BX5_number_33 (bad 3 (by decide) (fun t' ht => by
        cases ht
        unfold numT
        rw [if_neg (fun w => w h25), if_pos y]))
      refine ⟨fun y => b3 (Or.inl y), fun y => ⟨fun x => ?_, fun x => b3 (Or.inr x)⟩⟩
      refine BX5_number_38 (c_next hT X (fun h2 c1 c2 => ⟨rfl, ?_⟩))
      refine hq h2 _ ?_ c2
      show RTn h2 f n _ (numT f n lo up t)
      unfold numT
      rw [if_neg (fun w => w h25), if_neg (by omega)]
      have c1' : RT h2 f n (nxt f n t) := c1
      cases hx : nxt f n t with
      | ok u => rw [hx] at c1'; exact ⟨a7 h25, c1'⟩
      | error e => rw [hx] at c1'; exact c1'
    · cases ht
      unfold numT
      rw [if_pos (fun w => z (by rw [a6, w]; decide))]
end
