/-! THE MODEL: tokens -/
def TPm (h : PH) (f : Nat → Int) (n : Nat) : Prop := n ≤ 900 ∧ (∀ i, 0 ≤ f i ∧ f i ≤ 255) ∧ (∀ i, i < n → gi h 250 i = f i) ∧ gi h 247 8 = n
def frNx : Nat → Nat → Prop := fun q k => q = 247 ∧ (k = 6 ∨ k = 7 ∨ k = 9 ∨ k = 10)
theorem TPm.keep {h h' : PH} {f : Nat → Int} {n : Nat} (a : TPm h f n) (e0 : ∀ k, gi h' 250 k = gi h 250 k) (e8 : gi h' 247 8 = gi h 247 8) : TPm h' f n := ⟨a.1, a.2.1, fun i hi => by rw [e0]; exact a.2.2.1 i hi, by rw [e8]; exact a.2.2.2⟩
theorem TPm.nx {h h' : PH} {f : Nat → Int} {n : Nat} (a : TPm h f n) (F : fr frNx h h') : TPm h' f n := a.keep (fun k => F.1 _ _ (by unfold frNx; omega)) (F.1 _ _ (by unfold frNx; omega))
/-- where the key words begin -/
def kP : Nat → Nat
  | 0 => 1
  | K + 1 => kP K + (keyL.getD K []).length + 1
theorem kP_all : ∀ K : Fin 24, (keyL.getD K.val []).length ≤ 6 ∧ kP K.val + (keyL.getD K.val []).length < sLen 25 ∧ sChr 25 (kP K.val + (keyL.getD K.val []).length) = 32 ∧ ∀ j : Fin 6, j.val < (keyL.getD K.val []).length → sChr 25 (kP K.val + j.val) = (keyL.getD K.val []).getD j.val 0 ∧ (keyL.getD K.val []).getD j.val 0 ≠ 32 := by decide +kernel
theorem kP_24 : kP 24 = sLen 25 := by decide +kernel
theorem kP_ok {K : Nat} (hK : K < 24) : (keyL.getD K []).length ≤ 6 ∧ kP K + (keyL.getD K []).length < sLen 25 ∧ sChr 25 (kP K + (keyL.getD K []).length) = 32 ∧ ∀ j, j < (keyL.getD K []).length → sChr 25 (kP K + j) = (keyL.getD K []).getD j 0 ∧ (keyL.getD K []).getD j 0 ≠ 32 := by
  obtain ⟨a, b, c, d⟩ := kP_all ⟨K, hK⟩
  exact ⟨a, b, c, fun j hj => d ⟨j, by have a' : (keyL.getD K []).length ≤ 6 := a; omega⟩ hj⟩
theorem sL25 : sLen 25 ≤ 200 := by decide +kernel
def sgR (c : Int) : Nat → Int
  | 0 => 27
  | k + 1 => if c = sChr 26 k then 30 + (k : Int) else sgR c k
theorem sgR_all : ∀ c : Fin 256, sgR (c.val : Int) 12 = sgnOf (c.val : Int) sgnL 30 := by decide +kernel
theorem sgR_ok {c : Int} (h : 0 ≤ c ∧ c ≤ 255) : sgR c 12 = sgnOf c sgnL 30 := by
  obtain ⟨m, hm⟩ := ex_nat h.1
  subst hm
  exact sgR_all ⟨m, by omega⟩
theorem sL26 : sLen 26 = 12 := by decide +kernel
section
variable {d : Nat} {h : PH} {Q : Option PV → PH → Prop}
variable {f : Nat → Int} {n : Nat}
theorem m_see (T : TPm h f n) {i : Nat} (hq : Q (some (vI (if i < n then f i else -1))) h) : C2 d mX11_see [vR 247, vI (i : Int)] h Q := by
  have hn := T.1
  refine EX11_see fun _ => BX11_see_0 ⟨fun z => ?_, fun z => ?_⟩
  · rw [T.2.2.2] at z
    rw [if_neg (by omega)] at hq; exact hq
  · rw [T.2.2.2] at z
    rw [if_pos (by omega)] at hq
    rw [Int.toNat_natCast, T.2.2.1 i (by omega)]
    exact ⟨⟨by omega, by omega⟩, hq⟩
theorem m_isSmall {x : Int} (hq : Q (some (vI (if isL x then 1 else 0))) h) : C2 d mX11_isSmall [vI x] h Q := by
  refine EX11_isSmall fun _ => BX11_isSmall_0 ⟨fun z => ?_, fun z => ⟨fun y => ?_, fun y => ?_⟩⟩
  · rw [show isL x = false from decide_eq_false (by omega)] at hq; exact hq
  · rw [show isL x = false from decide_eq_false (by omega)] at hq; exact hq
  · rw [show isL x = true from decide_eq_true (by omega)] at hq; exact hq
theorem m_isDigit {x : Int} (hq : Q (some (vI (if isD x then 1 else 0))) h) : C2 d mX11_isDigit [vI x] h Q := by
  refine EX11_isDigit fun _ => BX11_isDigit_0 ⟨fun z => ?_, fun z => ⟨fun y => ?_, fun y => ?_⟩⟩
  · rw [show isD x = false from decide_eq_false (by omega)] at hq; exact hq
  · rw [show isD x = false from decide_eq_false (by omega)] at hq; exact hq
  · rw [show isD x = true from decide_eq_true (by omega)] at hq; exact hq
theorem m_keyAt (T : TPm h f n) {a e : Nat} (hae : a ≤ e) (hen : e ≤ n) (h6 : gi h 247 6 = a) (h7 : gi h 247 7 = e) (hq : Q (some (vI (keyOf (cutT2 f (e - a) a) keyL 0))) h) : C2 (d + 5) mX11_keyAt [vR 247] h Q := by
  have hn := T.1
  have sl := sL25
  have outer : ∀ (m K : Nat), K + m = 24 → (∀ j, j < K → cutT2 f (e - a) a ≠ keyL.getD j []) → T2 (d + 5) mX11_keyAt 4 [some (vR 247), some (vI (K : Int)), some (vI (kP K : Int)), none] [] h Q := by
    intro m
    induction m with
    | zero =>
      intro K hK hne
      obtain rfl : K = 24 := by omega
      refine BX11_keyAt_4 (d := d + 4) (c_length (d := d + 3) (by omega) (fun _ => ⟨fun _ => ?_, fun z => by rw [kP_24] at z; omega⟩))
      have e24 : keyOf (cutT2 f (e - a) a) keyL 0 = 24 := by
        rcases keyOf_rg (cutT2 f (e - a) a) keyL 0 with z | z
        · exact z
        · exfalso
          have l24 : keyL.length = 24 := by decide
          obtain ⟨c, hc⟩ := ex_nat z.1
          have c24 : c < 24 := by omega
          exact hne c c24 ((key_iff c24).mp hc)
      rw [e24] at hq; exact hq
    | succ m ih =>
      intro K hK hne
      obtain ⟨k1, k2, k3, k4⟩ := kP_ok (K := K) (by omega)
      have nextK : cutT2 f (e - a) a ≠ keyL.getD K [] → T2 (d + 5) mX11_keyAt 97 [some (vR 247), some (vI (K : Int)), some (vI (kP K : Int)), none] [] h Q := fun hK2 => by
        have skip : ∀ (m2 j : Nat), j + m2 = (keyL.getD K []).length → T2 (d + 5) mX11_keyAt 97 [some (vR 247), some (vI (K : Int)), some (vI ((kP K + j : Nat) : Int)), none] [] h Q := by
          intro m2
          induction m2 with
          | zero =>
            intro j hj
            refine BX11_keyAt_97 (d := d + 4) (c_charAt (d := d) (by omega) (by omega) (by omega) (fun _ => ?_))
            rw [Int.toNat_natCast, show j = (keyL.getD K []).length by omega, k3]
            refine ⟨fun _ => ?_, fun z => absurd rfl z⟩
            rw [w32_r (by omega) (by omega), w32_r (by omega) (by omega)]
            have := ih (K + 1) (by omega) (fun i hi => by
              by_cases c : i = K
              · rw [c]; exact hK2
              · exact hne i (by omega))
            rw [show ((K : Int) + 1) = ((K + 1 : Nat) : Int) by omega, show (((kP K + (keyL.getD K []).length : Nat) : Int) + 1) = ((kP (K + 1) : Nat) : Int) by show _ = ((kP K + (keyL.getD K []).length + 1 : Nat) : Int); omega]
            exact this
          | succ m2 ih2 =>
            intro j hj
            obtain ⟨c1, c2⟩ := k4 j (by omega)
            refine BX11_keyAt_97 (d := d + 4) (c_charAt (d := d) (by omega) (by omega) (by omega) (fun _ => ?_))
            rw [Int.toNat_natCast, c1]
            refine ⟨fun z => absurd z c2, fun _ => ?_⟩
            rw [w32_r (by omega) (by omega), show (((kP K + j : Nat) : Int) + 1) = ((kP K + (j + 1) : Nat) : Int) by omega]
            exact ih2 (j + 1) (by omega)
        exact skip (keyL.getD K []).length 0 (by omega)
      have test : ∀ i, i ≤ (keyL.getD K []).length → a + i ≤ e → (∀ j, j < i → f (a + j) = (keyL.getD K []).getD j 0) → (i = (keyL.getD K []).length ∨ a + i = e ∨ f (a + i) ≠ (keyL.getD K []).getD i 0) → T2 (d + 5) mX11_keyAt 69 [some (vR 247), some (vI (K : Int)), some (vI (kP K : Int)), some (vI (i : Int))] [] h Q := by
        intro i hi hie hm hend
        refine BX11_keyAt_69 (d := d + 4) ?_
        rw [w32_r (x := (kP K : Int) + i) (by omega) (by omega), show ((kP K : Int) + i) = ((kP K + i : Nat) : Int) by omega]
        refine c_charAt (d := d) (by omega) (by omega) (by omega) (fun _ => ?_)
        dsimp only
        rw [Int.toNat_natCast, h6, h7, w32_r (x := (a : Int) + i) (by omega) (by omega)]
        by_cases c : i = (keyL.getD K []).length
        · rw [c, k3]
          refine ⟨fun z => absurd rfl z, fun _ => ⟨fun z => nextK (fun w => ?_), fun z => ?_⟩⟩
          · have := cut_len f (e - a) a
            rw [w] at this; omega
          · have w : cutT2 f (e - a) a = keyL.getD K [] := by
              have l := cut_len f (e - a) a
              refine list_ext0 _ _ (by omega) (fun j hj => ?_)
              rw [cut_at f (e - a) a j (by omega)]; exact hm j (by omega)
            have := (key_iff (K := K) (by omega)).mpr w
            rw [this] at hq; exact hq
        · obtain ⟨c1, c2⟩ := k4 i (by omega)
          rw [c1]
          refine ⟨fun _ => nextK (fun w => ?_), fun z => absurd z c2⟩
          have l := cut_len f (e - a) a
          rcases hend with z | z | z
          · exact c z
          · rw [w] at l; omega
          · apply z
            have := cut_at f (e - a) a i (by rw [w] at l; omega)
            rw [w] at this; exact this.symm
      have inner : ∀ (m2 i : Nat), i + m2 = (keyL.getD K []).length → a + i ≤ e → (∀ j, j < i → f (a + j) = (keyL.getD K []).getD j 0) → T2 (d + 5) mX11_keyAt 15 [some (vR 247), some (vI (K : Int)), some (vI (kP K : Int)), some (vI (i : Int))] [] h Q := by
        intro m2
        induction m2 with
        | zero =>
          intro i hi hie hm
          refine BX11_keyAt_15 (d := d + 4) ?_
          rw [w32_r (x := (kP K : Int) + i) (by omega) (by omega), show ((kP K : Int) + i) = ((kP K + i : Nat) : Int) by omega]
          refine c_charAt (d := d) (by omega) (by omega) (by omega) (fun _ => ?_)
          rw [Int.toNat_natCast, show i = (keyL.getD K []).length by omega, k3]
          exact ⟨fun _ => test _ (by omega) (by omega) (by rw [show (keyL.getD K []).length = i by omega]; exact hm) (Or.inl rfl), fun z => absurd rfl z⟩
        | succ m2 ih2 =>
          intro i hi hie hm
          obtain ⟨c1, c2⟩ := k4 i (by omega)
          refine BX11_keyAt_15 (d := d + 4) ?_
          rw [w32_r (x := (kP K : Int) + i) (by omega) (by omega), show ((kP K : Int) + i) = ((kP K + i : Nat) : Int) by omega]
          refine c_charAt (d := d) (by omega) (by omega) (by omega) (fun _ => ?_)
          dsimp only
          rw [Int.toNat_natCast, c1, h6, h7, w32_r (x := (a : Int) + i) (by omega) (by omega), show ((a : Int) + i) = ((a + i : Nat) : Int) by omega, w32_r (x := (i : Int) + 1) (by omega) (by omega), show ((i : Int) + 1) = ((i + 1 : Nat) : Int) by omega]
          refine ⟨fun z => absurd z c2, fun _ => ⟨fun z => test i (by omega) hie hm (Or.inr (Or.inl (by omega))), fun z => ⟨⟨by omega, by omega⟩, ?_⟩⟩⟩
          rw [Int.toNat_natCast, T.2.2.1 (a + i) (by omega)]
          refine c_charAt (d := d) (by omega) (by omega) (by omega) (fun _ => ?_)
          rw [Int.toNat_natCast, c1]
          refine ⟨fun y => test i (by omega) hie hm (Or.inr (Or.inr y)), fun y => ih2 (i + 1) (by omega) (by omega) (fun j hj => ?_)⟩
          by_cases c : j = i
          · rw [c]; exact y
          · exact hm j (by omega)
      refine BX11_keyAt_4 (d := d + 4) (c_length (d := d + 3) (by omega) (fun _ => ⟨fun z => by omega, fun _ => ?_⟩))
      exact inner (keyL.getD K []).length 0 (by omega) (by omega) (fun j hj => absurd hj (Nat.not_lt_zero j))
  exact EX11_keyAt (BX11_keyAt_0 (outer 24 0 (by omega) (fun j hj => absurd hj (Nat.not_lt_zero j))))
theorem nx8 (T : TPm h f n) {i : Nat} (h6 : gi h 247 6 = i) (h34 : i < n → isB (f i) = true → T2 (d + 6) mX11_next 34 [some (vR 247), none] [] h Q) (hend : n ≤ i → Q none (si (si h 247 7 (i : Int)) 247 9 26)) (hlet : i < n → isB (f i) = false → isL (f i) = true → T2 (d + 6) mX11_next 89 [some (vR 247), none] [] (si h 247 7 (i : Int)) Q) (hdig : i < n → isB (f i) = false → isL (f i) = false → isD (f i) = true → T2 (d + 6) mX11_next 146 [some (vR 247), none] [] (si (si h 247 7 (i : Int)) 247 10 0) Q) (hsgn : i < n → isB (f i) = false → isL (f i) = false → isD (f i) = false → T2 (d + 6) mX11_next 254 [some (vR 247), some (vI 0)] [] (si (si (si h 247 7 (i : Int)) 247 7 ((i + 1 : Nat) : Int)) 247 9 27) Q) : T2 (d + 6) mX11_next 8 [some (vR 247), none] [] h Q := by
  have hn := T.1
  refine BX11_next_8 (d := d + 5) ?_
  rw [h6]
  refine m_see T (fun _ => ?_)
  dsimp only
  rw [h6]
  by_cases c : i < n
  · rw [if_pos c]
    refine ⟨fun z => h34 c (decide_eq_true (Or.inl z)), fun z => m_see T (fun _ => ?_)⟩
    rw [if_pos c]
    refine ⟨fun y h2 e2 => ?_, fun y => h34 c (decide_eq_true (Or.inr y))⟩
    rw [h6] at e2
    subst e2
    have hB : isB (f i) = false := decide_eq_false (by omega)
    have T2' : TPm (si h 247 7 (i : Int)) f n := T.keep (fun k => gi_s1 (by omega)) (gi_s2 (by omega))
    have g6 : gi (si h 247 7 (i : Int)) 247 6 = i := by rw [gi_s2 (by omega)]; exact h6
    have g8 : gi (si h 247 7 (i : Int)) 247 8 = n := T2'.2.2.2
    rw [g6, g8]
    refine ⟨fun _ => m_see T2' (fun _ => ?_), fun w => by omega⟩
    rw [if_pos c]
    refine m_isSmall (fun _ => ?_)
    dsimp only
    rw [g6]
    cases hL : isL (f i) with
    | true => exact ⟨fun w => absurd w (by decide), fun _ => hlet c hB hL⟩
    | false =>
      refine ⟨fun _ => m_see T2' (fun _ => ?_), fun w => absurd rfl w⟩
      rw [if_pos c]
      refine m_isDigit (fun _ => ?_)
      dsimp only
      cases hD : isD (f i) with
      | true => exact ⟨fun w => absurd w (by decide), fun _ h3 e3 => by subst e3; exact hdig c hB hL hD⟩
      | false =>
        refine ⟨fun _ h3 e3 h4 e4 => ?_, fun w => absurd rfl w⟩
        rw [gi_s0, w32_r (by omega) (by omega), show (i : Int) + 1 = ((i + 1 : Nat) : Int) by omega] at e3
        subst e4 e3
        exact hsgn c hB hL hD
  · rw [if_neg c]
    refine ⟨fun z => absurd z (by decide), fun _ => m_see T (fun _ => ?_)⟩
    rw [if_neg c]
    refine ⟨fun _ h2 e2 => ?_, fun y => absurd y (by decide)⟩
    rw [h6] at e2
    subst e2
    have g6 : gi (si h 247 7 (i : Int)) 247 6 = i := by rw [gi_s2 (by omega)]; exact h6
    have g8 : gi (si h 247 7 (i : Int)) 247 8 = n := by rw [gi_s2 (by omega)]; exact T.2.2.2
    rw [g6, g8]
    exact ⟨fun w => by omega, fun _ h3 e3 => by subst e3; exact hend (by omega)⟩
theorem mnx_let (h0 : PH) (T : TPm h0 f n) {a e : Nat} (h6 : gi h0 247 6 = a) (hae : a ≤ e) (hen : e ≤ n) (hq : ∀ h', gi h' 247 7 = e → gi h' 247 9 = keyOf (cutT2 f (e - a) a) keyL 0 → fr (fun q k => q = 247 ∧ (k = 7 ∨ k = 9)) h0 h' → Q none h') :
    ∀ (m j : Nat) (h : PH), j + m = n → run isL f n m j = e → gi h 247 7 = (j : Int) → fr (fun q k => q = 247 ∧ (k = 7 ∨ k = 9)) h0 h → T2 (d + 6) mX11_next 89 [some (vR 247), none] [] h Q := by
  have hn := T.1
  intro m
  induction m with
  | zero =>
    intro j h hj hr h7 F
    have T1 : TPm h f n := T.keep (fun k => F.1 _ _ (by omega)) (F.1 _ _ (by omega))
    have hr' : j = e := hr
    subst hr'
    refine BX11_next_89 (d := d + 5) ?_
    rw [h7]
    refine m_see T1 (fun _ => m_isSmall (fun _ => ?_))
    dsimp only
    rw [if_neg (show ¬ j < n by omega), show isL (-1) = false by decide]
    refine ⟨fun _ => m_keyAt (d := d) T1 hae hen (by rw [F.1 _ _ (by omega)]; exact h6) h7 (fun _ h2 e2 => ?_), fun w => absurd rfl w⟩
    subst e2
    exact hq _ (by rw [gi_s2 (by omega)]; exact h7) gi_s0 (F.si (by omega))
  | succ m ih =>
    intro j h hj hr h7 F
    have T1 : TPm h f n := T.keep (fun k => F.1 _ _ (by omega)) (F.1 _ _ (by omega))
    refine BX11_next_89 (d := d + 5) ?_
    rw [h7]
    refine m_see T1 (fun _ => m_isSmall (fun _ => ?_))
    dsimp only
    rw [if_pos (show j < n by omega)]
    unfold run at hr
    cases hL : isL (f j) with
    | true =>
      rw [if_pos ⟨by omega, hL⟩] at hr
      refine ⟨fun w => absurd w (by decide), fun _ h2 e2 => ?_⟩
      rw [h7, w32_r (by omega) (by omega), show (j : Int) + 1 = ((j + 1 : Nat) : Int) by omega] at e2
      subst e2
      exact ih (j + 1) _ (by omega) hr gi_s0 (F.si (by omega))
    | false =>
      rw [if_neg (fun w => by rw [hL] at w; exact absurd w.2 (by decide))] at hr
      subst hr
      refine ⟨fun _ => m_keyAt (d := d) T1 hae hen (by rw [F.1 _ _ (by omega)]; exact h6) h7 (fun _ h2 e2 => ?_), fun w => absurd rfl w⟩
      subst e2
      exact hq _ (by rw [gi_s2 (by omega)]; exact h7) gi_s0 (F.si (by omega))
theorem mnx_dig (h0 : PH) (T : TPm h0 f n) {a e : Nat} (h6 : gi h0 247 6 = a) (hae : a ≤ e) (hen : e ≤ n) (hq : ∀ h', gi h' 247 7 = e → gi h' 247 9 = (if e - a ≤ 3 then 25 else 27) → (e - a ≤ 3 → gi h' 247 10 = numV f (e - a) a 0) → fr (fun q k => q = 247 ∧ (k = 7 ∨ k = 9 ∨ k = 10)) h0 h' → Q none h') :
    ∀ (m j : Nat) (h : PH), j + m = n → a ≤ j → (∀ c, a ≤ c → c < j → isD (f c) = true) → run isD f n m j = e → gi h 247 7 = (j : Int) → (j - a ≤ 3 → gi h 247 10 = numV f (j - a) a 0) → fr (fun q k => q = 247 ∧ (k = 7 ∨ k = 9 ∨ k = 10)) h0 h → T2 (d + 6) mX11_next 146 [some (vR 247), none] [] h Q := by
  have hn := T.1
  have fin : ∀ (h : PH), gi h 247 7 = (e : Int) → (e - a ≤ 3 → gi h 247 10 = numV f (e - a) a 0) → fr (fun q k => q = 247 ∧ (k = 7 ∨ k = 9 ∨ k = 10)) h0 h → ((w32 ((e : Int) - a) ≤ 3 → ∀ h', h' = si h 247 9 25 → Q none h') ∧ (3 < w32 ((e : Int) - a) → ∀ h', h' = si h 247 9 27 → Q none h')) := by
    intro h h7 h10 F
    rw [w32_r (by omega) (by omega)]
    refine ⟨fun z h2 e2 => ?_, fun z h2 e2 => ?_⟩
    · subst e2
      exact hq _ (by rw [gi_s2 (by omega)]; exact h7) (by rw [gi_s0, if_pos (by omega)]) (fun c => by rw [gi_s2 (by omega)]; exact h10 c) (F.si (by omega))
    · subst e2
      exact hq _ (by rw [gi_s2 (by omega)]; exact h7) (by rw [gi_s0, if_neg (by omega)]) (fun c => by omega) (F.si (by omega))
  intro m
  induction m with
  | zero =>
    intro j h hj haj hd hr h7 h10 F
    have T1 : TPm h f n := T.keep (fun k => F.1 _ _ (by omega)) (F.1 _ _ (by omega))
    have g6 : gi h 247 6 = a := by rw [F.1 _ _ (by omega)]; exact h6
    have hr' : j = e := hr
    subst hr'
    refine BX11_next_146 (d := d + 5) ?_
    rw [h7]
    refine m_see T1 (fun _ => m_isDigit (fun _ => ?_))
    dsimp only
    rw [if_neg (show ¬ j < n by omega), show isD (-1) = false by decide]
    rw [h7, g6]
    exact ⟨fun _ => fin h h7 h10 F, fun w => absurd rfl w⟩
  | succ m ih =>
    intro j h hj haj hd hr h7 h10 F
    have T1 : TPm h f n := T.keep (fun k => F.1 _ _ (by omega)) (F.1 _ _ (by omega))
    have g6 : gi h 247 6 = a := by rw [F.1 _ _ (by omega)]; exact h6
    refine BX11_next_146 (d := d + 5) ?_
    rw [h7]
    refine m_see T1 (fun _ => m_isDigit (fun _ => ?_))
    dsimp only
    rw [if_pos (show j < n by omega)]
    rw [h7, g6]
    unfold run at hr
    cases hD : isD (f j) with
    | true =>
      rw [if_pos ⟨by omega, hD⟩] at hr
      have hd' : ∀ c, a ≤ c → c < j + 1 → isD (f c) = true := fun c h1 h2 => by
        by_cases e : c = j
        · rw [e]; exact hD
        · exact hd c h1 (by omega)
      rw [w32_r (x := (j : Int) - a) (by omega) (by omega)]
      refine ⟨fun w => absurd w (by decide), fun _ => ⟨fun z => BX11_next_196 (fun h2 e2 => ?_), fun z => m_see T1 (fun _ h2 e2 => BX11_next_196 (fun h3 e3 => ?_))⟩⟩
      · rw [h7, w32_r (by omega) (by omega), show (j : Int) + 1 = ((j + 1 : Nat) : Int) by omega] at e2
        subst e2
        exact ih (j + 1) _ (by omega) (by omega) hd' hr gi_s0 (fun c => by omega) (F.si (by omega))
      · rw [if_pos (by omega), h10 (by omega)] at e2
        have nr := numV_rg f (j - a) a 0 (fun c h1 h2 => hd c h1 (by omega)) (by omega)
        have nr' : numV f (j - a) a 0 < 1000 := by
          have : j - a = 0 ∨ j - a = 1 ∨ j - a = 2 := by omega
          rcases this with c | c | c <;> rw [c] at nr ⊢ <;> omega
        have fr' := T.2.1 j
        rw [w32_r (x := 10 * numV f (j - a) a 0) (by omega) (by omega), w32_r (x := 10 * numV f (j - a) a 0 + f j) (by omega) (by omega), w32_r (by omega) (by omega)] at e2
        have g7 : gi h2 247 7 = j := by subst e2; rw [gi_s2 (by omega)]; exact h7
        rw [g7, w32_r (by omega) (by omega), show (j : Int) + 1 = ((j + 1 : Nat) : Int) by omega] at e3
        subst e3 e2
        refine ih (j + 1) _ (by omega) (by omega) hd' hr gi_s0 (fun c => ?_) ((F.si (by omega)).si (by omega))
        rw [gi_s2 (by omega), gi_s0, show j + 1 - a = (j - a) + 1 by omega, numV_snoc, show a + (j - a) = j by omega]
    | false =>
      rw [if_neg (fun w => by rw [hD] at w; exact absurd w.2 (by decide))] at hr
      subst hr
      exact ⟨fun _ => fin h h7 h10 F, fun w => absurd rfl w⟩
theorem mnx_sgn (h0 : PH) (T : TPm h0 f n) {a : Nat} (ha : a < n) (h6 : gi h0 247 6 = a) (hq : ∀ h', gi h' 247 9 = sgnOf (f a) sgnL 30 → fr (fun q k => q = 247 ∧ k = 9) h0 h' → Q none h') :
    ∀ (m k : Nat) (h : PH), k + m = 12 → gi h 247 9 = sgR (f a) k → fr (fun q k => q = 247 ∧ k = 9) h0 h → T2 (d + 6) mX11_next 254 [some (vR 247), some (vI (k : Int))] [] h Q := by
  have l := sL26
  intro m
  induction m with
  | zero =>
    intro k h hk h9 F
    obtain rfl : k = 12 := by omega
    refine BX11_next_254 (d := d + 5) (c_length (d := d + 4) (by omega) (fun _ => ⟨fun _ => hq h (by rw [h9, sgR_ok (T.2.1 a)]) F, fun z => by rw [l] at z; omega⟩))
  | succ m ih =>
    intro k h hk h9 F
    have T1 : TPm h f n := T.keep (fun k => F.1 _ _ (by omega)) (F.1 _ _ (by omega))
    have g6 : gi h 247 6 = a := by rw [F.1 _ _ (by omega)]; exact h6
    refine BX11_next_254 (d := d + 5) (c_length (d := d + 4) (by omega) (fun _ => ⟨fun z => by rw [l] at z; omega, fun _ => ?_⟩))
    rw [g6]
    refine m_see T1 (fun _ => c_charAt (d := d + 1) (by omega) (by omega) (by rw [l]; omega) (fun _ => ?_))
    rw [if_pos ha, Int.toNat_natCast, w32_r (x := (k : Int) + 1) (by omega) (by omega), show (k : Int) + 1 = ((k + 1 : Nat) : Int) by omega, w32_r (x := 30 + (k : Int)) (by omega) (by omega)]
    have es : sgR (f a) (k + 1) = if f a = sChr 26 k then 30 + (k : Int) else sgR (f a) k := rfl
    refine ⟨fun z => ih (k + 1) h (by omega) (by rw [es, if_neg z]; exact h9) F, fun z h2 e2 => ?_⟩
    subst e2
    exact ih (k + 1) _ (by omega) (by rw [es, if_pos z]; exact gi_s0) (F.si ⟨rfl, rfl⟩)
theorem m_next0 (T : TPm h f n) {b : Nat} (hb : b ≤ n) (h7 : gi h 247 7 = b) (hq : ∀ h', gi h' 247 9 = t_k (tok f n b) → gi h' 247 6 = t_a (tok f n b) → gi h' 247 7 = t_b (tok f n b) → (t_k (tok f n b) = 25 → gi h' 247 10 = t_n (tok f n b)) → fr frNx h h' → Q none h') : C2 (d + 6) mX11_next [vR 247] h Q := by
  have hn := T.1
  refine EX11_next (BX11_next_0 (d := d + 5) (fun h1 e1 => ?_))
  rw [h7] at e1
  have skip : ∀ (m i : Nat) (h1 : PH), i + m = n → tokA f n (run isB f n m i) = tok f n b → gi h1 247 6 = i → fr frNx h h1 → T2 (d + 6) mX11_next 8 [some (vR 247), none] [] h1 Q := by
    intro m
    induction m with
    | zero =>
      intro i h1 hi ht h6 F
      have T1 := T.nx F
      have ht' : tokA f n i = tok f n b := ht
      have et : tokA f n i = (26, i, i, 0) := by unfold tokA; rw [if_pos (by omega)]
      refine nx8 T1 h6 (fun z => by omega) (fun _ => ?_) (fun z => by omega) (fun z => by omega) (fun z => by omega)
      rw [← ht', et] at hq
      exact hq _ gi_s0 (by rw [gi_s2 (by omega), gi_s2 (by omega)]; exact h6) (by rw [gi_s2 (by omega), gi_s0]; rfl) (fun z => absurd (show (26 : Int) = 25 from z) (by decide)) ((F.si (by unfold frNx; omega)).si (by unfold frNx; omega))
    | succ m ih =>
      intro i h1 hi ht h6 F
      have T1 := T.nx F
      have et : isB (f i) = false → tokA f n i = tok f n b := fun hB => by
        unfold run at ht
        rw [if_neg (fun w => by rw [hB] at w; exact absurd w.2 (by decide))] at ht
        exact ht
      refine nx8 T1 h6 (fun c hB => ?_) (fun z => by omega) (fun c hB hL => ?_) (fun c hB hL hD => ?_) (fun c hB hL hD => ?_)
      · refine BX11_next_34 (fun h2 e2 => ?_)
        rw [h6, w32_r (by omega) (by omega), show (i : Int) + 1 = ((i + 1 : Nat) : Int) by omega] at e2
        subst e2
        unfold run at ht
        rw [if_pos ⟨c, hB⟩] at ht
        exact ih (i + 1) _ (by omega) ht gi_s0 (F.si (by unfold frNx; omega))
      · have rr := run_rg isL f n (n - i) i (by omega)
        have ek : tokA f n i = (keyOf (cutT2 f (run isL f n (n - i) i - i) i) keyL 0, i, run isL f n (n - i) i, 0) := by unfold tokA; rw [if_neg (by omega), if_pos hL]
        rw [← et hB, ek] at hq
        have F2 : fr frNx h (si h1 247 7 (i : Int)) := F.si (by unfold frNx; omega)
        refine mnx_let (e := run isL f n (n - i) i) (si h1 247 7 (i : Int)) (T.nx F2) (a := i) (by rw [gi_s2 (by omega)]; exact h6) rr.1 rr.2 (fun h3 c7 c9 F3 => ?_) (n - i) i _ (by omega) rfl gi_s0 fr.rf
        have ne := keyOf_ne (w := cutT2 f (run isL f n (n - i) i - i) i)
        exact hq h3 c9 (by rw [F3.1 _ _ (by omega), gi_s2 (by omega)]; exact h6) c7 (fun z => absurd z ne.1) (F2.tr (F3.mono (fun q k z => by unfold frNx; omega)))
      · have rr := run_rg isD f n (n - i) i (by omega)
        have ek : tokA f n i = (if run isD f n (n - i) i - i ≤ 3 then (25, i, run isD f n (n - i) i, numV f (run isD f n (n - i) i - i) i 0) else (27, i, run isD f n (n - i) i, 0)) := by unfold tokA; rw [if_neg (by omega), if_neg (by rw [hL]; decide), if_pos hD]
        rw [← et hB, ek] at hq
        have F2 : fr frNx h (si (si h1 247 7 (i : Int)) 247 10 0) := (F.si (by unfold frNx; omega)).si (by unfold frNx; omega)
        refine mnx_dig (e := run isD f n (n - i) i) (si (si h1 247 7 (i : Int)) 247 10 0) (T.nx F2) (a := i) (by rw [gi_s2 (by omega), gi_s2 (by omega)]; exact h6) rr.1 rr.2 (fun h3 c7 c9 c10 F3 => ?_) (n - i) i _ (by omega) (Nat.le_refl i) (fun c h1 h2 => by omega) rfl (by rw [gi_s2 (by omega), gi_s0]) (fun _ => by rw [gi_s0, Nat.sub_self]; rfl) fr.rf
        have g6 : gi h3 247 6 = i := by rw [F3.1 _ _ (by omega), gi_s2 (by omega), gi_s2 (by omega)]; exact h6
        have F9 := F2.tr (F3.mono (B := frNx) (fun q k z => by unfold frNx; omega))
        by_cases c3 : run isD f n (n - i) i - i ≤ 3
        · rw [if_pos c3] at hq c9
          exact hq h3 c9 g6 c7 (fun _ => c10 c3) F9
        · rw [if_neg c3] at hq c9
          exact hq h3 c9 g6 c7 (fun z => absurd (show (27 : Int) = 25 from z) (by decide)) F9
      · have ek : tokA f n i = (sgnOf (f i) sgnL 30, i, i + 1, 0) := by unfold tokA; rw [if_neg (by omega), if_neg (by rw [hL]; decide), if_neg (by rw [hD]; decide)]
        rw [← et hB, ek] at hq
        have F2 : fr frNx h (si (si (si h1 247 7 (i : Int)) 247 7 ((i + 1 : Nat) : Int)) 247 9 27) := ((F.si (by unfold frNx; omega)).si (by unfold frNx; omega)).si (by unfold frNx; omega)
        refine mnx_sgn (si (si (si h1 247 7 (i : Int)) 247 7 ((i + 1 : Nat) : Int)) 247 9 27) (T.nx F2) (a := i) c (by rw [gi_s2 (by omega), gi_s2 (by omega), gi_s2 (by omega)]; exact h6) (fun h3 c9 F3 => ?_) 12 0 _ (by omega) gi_s0 fr.rf
        refine hq h3 c9 (by rw [F3.1 _ _ (by omega), gi_s2 (by omega), gi_s2 (by omega), gi_s2 (by omega)]; exact h6) (by rw [F3.1 _ _ (by omega), gi_s2 (by omega), gi_s0]; rfl) (fun z => ?_) (F2.tr (F3.mono (fun q k z => by unfold frNx; omega)))
        have := sgnOf_rg (f i) sgnL 30 (by omega)
        have z' : sgnOf (f i) sgnL 30 = 25 := z
        omega
  refine skip (n - b) b h1 (by omega) rfl (by subst e1; exact gi_s0) (by subst e1; exact fr.rf.si (by unfold frNx; omega))
end
