/-! HAND LAYER: heap laws, the library's methods -/
theorem gi_si (h : PH) (p k : Nat) (v : Int) (q j : Nat) : gi (si h p k v) q j = if q = p ∧ j = k then v else gi h q j := rfl
theorem gj_si (h : PH) (p k : Nat) (v : Int) : gj (si h p k v) = gj h := rfl
theorem gr_si (h : PH) (p k : Nat) (v : Int) : gr (si h p k v) = gr h := rfl
theorem gj_sj (h : PH) (p k : Nat) (v : Int) (q j : Nat) : gj (sj h p k v) q j = if q = p ∧ j = k then v else gj h q j := rfl
theorem gi_sj (h : PH) (p k : Nat) (v : Int) : gi (sj h p k v) = gi h := rfl
theorem gr_sj (h : PH) (p k : Nat) (v : Int) : gr (sj h p k v) = gr h := rfl
theorem gi_sr (h : PH) (p k v : Nat) : gi (sr h p k v) = gi h := rfl
theorem gj_sr (h : PH) (p k v : Nat) : gj (sr h p k v) = gj h := rfl
/-- a whole row of ints, of longs -/
def stI (h : PH) (a : Nat) (f : Nat → Int) : PH := (h.1, h.2.1, h.2.2.1, up1 h.2.2.2.1 a f, h.2.2.2.2.1, h.2.2.2.2.2)
def stJ (h : PH) (a : Nat) (f : Nat → Int) : PH := (h.1, h.2.1, h.2.2.1, h.2.2.2.1, up1 h.2.2.2.2.1 a f, h.2.2.2.2.2)
theorem gi_stI (h : PH) (a : Nat) (f : Nat → Int) (q j : Nat) : gi (stI h a f) q j = if q = a then f j else gi h q j := by
  show (up1 (gi h) a f) q j = _
  unfold up1; split <;> rfl
theorem gj_stI (h : PH) (a : Nat) (f : Nat → Int) : gj (stI h a f) = gj h := rfl
theorem gr_stI (h : PH) (a : Nat) (f : Nat → Int) : gr (stI h a f) = gr h := rfl
theorem gj_stJ (h : PH) (a : Nat) (f : Nat → Int) (q j : Nat) : gj (stJ h a f) q j = if q = a then f j else gj h q j := by
  show (up1 (gj h) a f) q j = _
  unfold up1; split <;> rfl
theorem gi_stJ (h : PH) (a : Nat) (f : Nat → Int) : gi (stJ h a f) = gi h := rfl
theorem gr_stJ (h : PH) (a : Nat) (f : Nat → Int) : gr (stJ h a f) = gr h := rfl
theorem PH_ext {h h' : PH} (h1 : nx h = nx h') (h2 : ∀ q, cl h q = cl h' q) (h3 : ∀ q, ln h q = ln h' q) (h4 : ∀ q k, gi h q k = gi h' q k) (h5 : ∀ q k, gj h q k = gj h' q k) (h6 : ∀ q k, gr h q k = gr h' q k) : h = h' := by
  obtain ⟨a1, a2, a3, a4, a5, a6⟩ := h
  obtain ⟨b1, b2, b3, b4, b5, b6⟩ := h'
  have e1 : a1 = b1 := h1
  have e2 : a2 = b2 := funext h2
  have e3 : a3 = b3 := funext h3
  have e4 : a4 = b4 := funext fun q => funext (h4 q)
  have e5 : a5 = b5 := funext fun q => funext (h5 q)
  have e6 : a6 = b6 := funext fun q => funext (h6 q)
  rw [e1, e2, e3, e4, e5, e6]
theorem si_stI (h : PH) (a k : Nat) (f : Nat → Int) (v : Int) : si (stI h a f) a k v = stI h a (fun j => if j = k then v else f j) := by
  refine PH_ext rfl (fun _ => rfl) (fun _ => rfl) (fun q j => ?_) (fun _ _ => rfl) (fun _ _ => rfl)
  rw [gi_si, gi_stI, gi_stI]
  by_cases e : q = a <;> simp [e]
theorem sj_stJ (h : PH) (a k : Nat) (f : Nat → Int) (v : Int) : sj (stJ h a f) a k v = stJ h a (fun j => if j = k then v else f j) := by
  refine PH_ext rfl (fun _ => rfl) (fun _ => rfl) (fun _ _ => rfl) (fun q j => ?_) (fun _ _ => rfl)
  rw [gj_sj, gj_stJ, gj_stJ]
  by_cases e : q = a <;> simp [e]
theorem stI_self (h : PH) (a : Nat) : stI h a (gi h a) = h := by
  refine PH_ext rfl (fun _ => rfl) (fun _ => rfl) (fun q j => ?_) (fun _ _ => rfl) (fun _ _ => rfl)
  rw [gi_stI]; split
  · rename_i e; rw [e]
  · rfl
theorem stJ_self (h : PH) (a : Nat) : stJ h a (gj h a) = h := by
  refine PH_ext rfl (fun _ => rfl) (fun _ => rfl) (fun _ _ => rfl) (fun q j => ?_) (fun _ _ => rfl)
  rw [gj_stJ]; split
  · rename_i e; rw [e]
  · rfl
theorem stI_si (h : PH) (a k : Nat) (v : Int) : si h a k v = stI h a (fun j => if j = k then v else gi h a j) := by
  have := si_stI h a k (gi h a) v
  rwa [stI_self] at this
theorem stJ_sj (h : PH) (a k : Nat) (v : Int) : sj h a k v = stJ h a (fun j => if j = k then v else gj h a j) := by
  have := sj_stJ h a k (gj h a) v
  rwa [stJ_self] at this
theorem w32_of {x : Int} (h1 : -2147483648 ≤ x) (h2 : x < 2147483648) : w32 x = x := w32_id ⟨h1, h2⟩
theorem w64_of {x : Int} (h1 : -9223372036854775808 ≤ x) (h2 : x < 9223372036854775808) : w64 x = x := w64_id ⟨h1, h2⟩
section
variable {d : Nat} {h : PH} {Q : Option PV → PH → Prop}
theorem c_max {a b : Int} (hq : Q (some (vI (max a b))) h) : C2 d mJ9_max_7cf53 [vI a, vI b] h Q :=
  EJ9_max_7cf53 fun _ _ => BJ9_max_7cf53_0 ⟨fun z => by rwa [Int.max_eq_right (by omega)] at hq, fun z => by rwa [Int.max_eq_left (by omega)] at hq⟩
theorem c_min {a b : Int} (hq : Q (some (vI (min a b))) h) : C2 d mJ9_min_7cf53 [vI a, vI b] h Q :=
  EJ9_min_7cf53 fun _ _ => BJ9_min_7cf53_0 ⟨fun z => by rwa [Int.min_eq_right (by omega)] at hq, fun z => by rwa [Int.min_eq_left (by omega)] at hq⟩
theorem c_maxJ {a b : Int} (hq : Q (some (vJ (max a b))) h) : C2 d mJ9_max_f86c9 [vJ a, vJ b] h Q :=
  EJ9_max_f86c9 fun _ _ => BJ9_max_f86c9_0 ⟨fun z => by rwa [Int.max_eq_right (by omega)] at hq, fun z => by rwa [Int.max_eq_left (by omega)] at hq⟩
theorem c_minJ {a b : Int} (hq : Q (some (vJ (min a b))) h) : C2 d mJ9_min_f86c9 [vJ a, vJ b] h Q :=
  EJ9_min_f86c9 fun _ _ => BJ9_min_f86c9_0 ⟨fun z => by rwa [Int.min_eq_right (by omega)] at hq, fun z => by rwa [Int.min_eq_left (by omega)] at hq⟩
theorem fillI_loop {a : Nat} {v : Int} (ha : CLf a = 20) : ∀ (n k : Nat) (f : Nat → Int), k + n = LNf a → Q none (stI h a (fun j => if k ≤ j ∧ j < LNf a then v else f j)) → T2 d mJ7_fill_53178 5 [some (vR a), some (vI v), some (vI k), some (vI ((LNf a) : Int))] [] (stI h a f) Q := by
  have hl := LNf_lt a
  intro n
  induction n with
  | zero =>
    intro k f hk hq
    refine BJ7_fill_53178_5 ha ⟨fun _ => ?_, fun z => by omega⟩
    have e : (fun j => if k ≤ j ∧ j < LNf a then v else f j) = f := by
      funext j; rw [if_neg (by omega)]
    rwa [e] at hq
  | succ n ih =>
    intro k f hk hq
    refine BJ7_fill_53178_5 ha ⟨fun z => by omega, fun _ => ⟨⟨by omega, by omega⟩, fun h1 e1 => ?_⟩⟩
    subst e1
    rw [w32_of (by omega) (by omega), si_stI, show ((k : Int) + 1) = ((k + 1 : Nat) : Int) by omega]
    refine ih (k + 1) _ (by omega) ?_
    have e : (fun j => if k + 1 ≤ j ∧ j < LNf a then v else if j = (k : Int).toNat then v else f j) = (fun j => if k ≤ j ∧ j < LNf a then v else f j) := by
      funext j
      by_cases h1 : j = k
      · subst h1; rw [if_neg (by omega), if_pos (by omega), if_pos (by omega)]
      · by_cases h2 : k + 1 ≤ j ∧ j < LNf a
        · rw [if_pos h2, if_pos (by omega)]
        · rw [if_neg h2, if_neg (by omega), if_neg (by omega)]
    rwa [e]
theorem c_fillI {a : Nat} {v : Int} (ha : CLf a = 20) (hq : Q none (stI h a (fun j => if j < LNf a then v else gi h a j))) : C2 d mJ7_fill_53178 [vR a, vI v] h Q := by
  refine EJ7_fill_53178 fun _ => BJ7_fill_53178_0 ha ?_
  have := fillI_loop (d := d) (h := h) (Q := Q) (v := v) ha (LNf a) 0 (gi h a) (by omega) (by simpa using hq)
  rwa [stI_self] at this
theorem fillJ_loop {a : Nat} {v : Int} (ha : CLf a = 22) : ∀ (n k : Nat) (f : Nat → Int), k + n = LNf a → Q none (stJ h a (fun j => if k ≤ j ∧ j < LNf a then v else f j)) → T2 d mJ7_fill_d0a16 6 [some (vR a), some (vJ v), none, some (vI k), some (vI ((LNf a) : Int))] [] (stJ h a f) Q := by
  have hl := LNf_lt a
  intro n
  induction n with
  | zero =>
    intro k f hk hq
    refine BJ7_fill_d0a16_6 ha ⟨fun _ => ?_, fun z => by omega⟩
    have e : (fun j => if k ≤ j ∧ j < LNf a then v else f j) = f := by
      funext j; rw [if_neg (by omega)]
    rwa [e] at hq
  | succ n ih =>
    intro k f hk hq
    refine BJ7_fill_d0a16_6 ha ⟨fun z => by omega, fun _ => ⟨⟨by omega, by omega⟩, fun h1 e1 => ?_⟩⟩
    subst e1
    rw [w32_of (by omega) (by omega), sj_stJ, show ((k : Int) + 1) = ((k + 1 : Nat) : Int) by omega]
    refine ih (k + 1) _ (by omega) ?_
    have e : (fun j => if k + 1 ≤ j ∧ j < LNf a then v else if j = (k : Int).toNat then v else f j) = (fun j => if k ≤ j ∧ j < LNf a then v else f j) := by
      funext j
      by_cases h1 : j = k
      · subst h1; rw [if_neg (by omega), if_pos (by omega), if_pos (by omega)]
      · by_cases h2 : k + 1 ≤ j ∧ j < LNf a
        · rw [if_pos h2, if_pos (by omega)]
        · rw [if_neg h2, if_neg (by omega), if_neg (by omega)]
    rwa [e]
theorem c_fillJ {a : Nat} {v : Int} (ha : CLf a = 22) (hq : Q none (stJ h a (fun j => if j < LNf a then v else gj h a j))) : C2 d mJ7_fill_d0a16 [vR a, vJ v] h Q := by
  refine EJ7_fill_d0a16 fun _ => BJ7_fill_d0a16_0 ha ?_
  have := fillJ_loop (d := d) (h := h) (Q := Q) (v := v) ha (LNf a) 0 (gj h a) (by omega) (by simpa using hq)
  rwa [stJ_self] at this
-- texts
theorem c_coder {i : Nat} (hi : i < 27) (hq : Q (some (vI 0)) h) : C2 d mJ0_coder_7d493 [vR (1 + i)] h Q :=
  EJ0_coder_7d493 (BJ0_coder_7d493_0 hi ⟨fun z => by omega, fun _ => ⟨by decide, hq⟩⟩)
theorem c_isLatin1 {i : Nat} (hi : i < 27) (hq : Q (some (vI 1)) h) : C2 d mJ0_isLatin1_aae02 [vR (1 + i)] h Q :=
  EJ0_isLatin1_aae02 (BJ0_isLatin1_aae02_0 hi ⟨fun z => by omega, fun _ => ⟨fun z => by omega, fun _ => hq⟩⟩)
theorem ishr0 {a : Int} (h0 : R32 a) : ishr a 0 = a := by
  unfold ishr
  rw [show (Int32.ofInt 0 &&& 31) = 0 by decide]
  rw [show Int32.ofInt a >>> (0 : Int32) = Int32.ofInt a from ?_]
  · exact tr32 h0
  · apply Int32.toBitVec_inj.mp
    rw [Int32.toBitVec_shiftRight]
    simp
theorem c_length {i : Nat} (hi : i < 27) (hq : Q (some (vI (sLen i))) h) : C2 (d + 1) mJ0_length_8abf5 [vR (1 + i)] h Q := by
  refine EJ0_length_8abf5 (BJ0_length_8abf5_0 hi (c_coder hi fun _ => ?_))
  have := sLen_lt i
  dsimp only
  rw [ishr0 ⟨by omega, by omega⟩]
  exact hq
theorem c_checkIndex {i n : Int} (h0 : 0 ≤ i) (h1 : i < n) (hq : Q none h) : C2 (d + 2) mJ0_checkIndex_df160 [vI i, vI n] h Q := by
  refine EJ0_checkIndex_df160 fun _ _ => BJ0_checkIndex_df160_0 fun a => ?_
  refine EJ3_checkIndex_8e157 fun _ _ => BJ3_checkIndex_8e157_0 ⟨fun z => by omega, fun _ => ⟨fun _ _ => hq, fun z => by omega⟩⟩
theorem chr_all : ∀ c : Fin 128, i2c (iand (c.val : Int) 255) = (c.val : Int) ∧ narrow .char (.int (Int32.ofInt (c.val : Int))) = .int (Int32.ofInt (c.val : Int)) ∧ i2b (c.val : Int) = (c.val : Int) := by decide +kernel
theorem chr_ok {c : Int} (h0 : 0 ≤ c) (h1 : c < 128) : i2c (iand c 255) = c ∧ narrow .char (.int (Int32.ofInt c)) = .int (Int32.ofInt c) ∧ i2b c = c := by
  have := chr_all ⟨c.toNat, by omega⟩
  rwa [show ((⟨c.toNat, by omega⟩ : Fin 128).val : Int) = c by simp; omega] at this
theorem sChr_rg (i j : Nat) : 0 ≤ sChr i j ∧ sChr i j < 128 := by
  unfold sChr
  rw [List.getD_eq_getElem?_getD, List.getD_eq_getElem?_getD]
  cases hq : sByt[i]? with
  | none => simp
  | some v =>
    have h1 := List.all_eq_true.mp (show sByt.all (fun v => v.all (fun c => decide (0 ≤ c) && decide (c < 128))) = true by decide +kernel) v (List.mem_of_getElem? hq)
    show 0 ≤ ((v[j]?).getD 0) ∧ ((v[j]?).getD 0) < 128
    cases hj : v[j]? with
    | none => simp
    | some c =>
      have h2 := List.all_eq_true.mp h1 c (List.mem_of_getElem? hj)
      simp only [Bool.and_eq_true, decide_eq_true_eq] at h2
      exact h2
theorem c_charAt {i : Nat} {j : Int} (hi : i < 27) (h0 : 0 ≤ j) (h1 : j < sLen i) (hq : Q (some (vI (sChr i j.toNat))) h) : C2 (d + 4) mJ0_charAt_5068e [vR (1 + i), vI j] h Q := by
  obtain ⟨a, b⟩ := sChr_rg i j.toNat
  obtain ⟨e1, e2, -⟩ := chr_ok a b
  refine EJ0_charAt_5068e fun _ => BJ0_charAt_5068e_0 hi (c_isLatin1 hi fun _ => ⟨fun z => by omega, fun _ => ?_⟩)
  refine EJ1_charAt_3b067 fun _ => BJ1_charAt_3b067_0 hi (c_checkIndex h0 h1 ⟨rfl, ⟨h0, h1⟩, ?_⟩)
  rw [e1]
  exact ⟨e2, fun _ => ⟨e2, hq⟩⟩
/-- the place of a sign in a text, from a place on; -1 -/
def ixF (i : Nat) (c : Int) : Nat → Nat → Int
  | 0, _ => -1
  | n + 1, k => if sChr i k = c then k else ixF i c n (k + 1)
theorem ixOf_loop {i : Nat} {c : Int} (hi : i < 27) : ∀ n k : Nat, k + n = sLen i → Q (some (vI (ixF i c n k))) h → T2 d mJ1_indexOfChar_4cfef 7 [some (vR (33 + i)), none, none, some (vI (sLen i : Int)), some (vI c), some (vI k)] [] h Q := by
  have hl := sLen_lt i
  intro n
  induction n with
  | zero =>
    intro k hk hq
    exact BJ1_indexOfChar_4cfef_7 hi ⟨fun _ => hq, fun z => by omega⟩
  | succ n ih =>
    intro k hk hq
    refine BJ1_indexOfChar_4cfef_7 hi ⟨fun z => by omega, fun _ => ⟨⟨by omega, by omega⟩, fun z => ?_, fun z => ?_⟩⟩
    · rw [w32_of (by omega) (by omega), show ((k : Int) + 1) = ((k + 1 : Nat) : Int) by omega]
      refine ih (k + 1) (by omega) ?_
      unfold ixF at hq
      rwa [if_neg (by simpa using z)] at hq
    · unfold ixF at hq
      rwa [if_pos (by simpa using z)] at hq
theorem c_indexOf {i : Nat} {c : Int} (hi : i < 27) (h0 : 0 ≤ c) (h1 : c < 256) (hl : 0 < sLen i) (hq : Q (some (vI (ixF i (i2b c) (sLen i) 0))) h) : C2 (d + 4) mJ0_indexOf_0f7a4 [vR (1 + i), vI c] h Q := by
  refine EJ0_indexOf_0f7a4 fun _ => BJ0_indexOf_0f7a4_0 hi ?_
  refine EJ0_indexOf_7cf53 fun _ _ => BJ0_indexOf_7cf53_0 hi (c_isLatin1 hi fun _ => ⟨fun z => by omega, fun _ => c_length hi fun _ => ?_⟩)
  refine EJ1_indexOf_4cfef fun _ _ _ => BJ1_indexOf_4cfef_0 hi ?_
  refine EJ1_canEncode_9a6ad fun _ => BJ1_canEncode_9a6ad_0 ⟨fun z => by omega, fun _ => ⟨fun z => by omega, fun _ _ => ⟨fun _ => ?_, fun z => by omega⟩⟩⟩
  refine c_max fun _ => c_min fun _ => ?_
  dsimp only
  rw [show max (0 : Int) 0 = 0 from rfl, Int.min_self]
  refine ⟨fun _ => ?_, fun z => by omega⟩
  refine EJ1_indexOfChar_4cfef fun _ _ _ => BJ1_indexOfChar_4cfef_0 hi ?_
  exact ixOf_loop hi (sLen i) 0 (by omega) (fun _ _ _ => hq)
end
