/-! THE START OF ALL -/
def kE : List Ce := [(11, 0, [0, 0, 0, 0, 0, 0, 0, 0, 0, 0, 0, 0, 0, 0, 0, 0, 0, 0, 0], [65, 0, 218, 66, 0, 67, 71, 75, 117, 118, 219, 233, 0, 119, 123, 127]), (21, 900, [], []), (24, 4, [], [130, 150, 170, 190]), (9, 0, [0, 0, 0, 0, 0], [68, 69, 70]), (20, 6, [], []), (20, 6, [], []), (20, 6, [-1, -1, -1, -1, -1, -1], []), (9, 0, [0, 0, 0, 0, 0], [72, 73, 74]), (20, 6, [], []), (20, 6, [], []), (20, 6, [-1, -1, -1, -1, -1, -1], []), (5, 0, [0, 0, 0], [76]), (25, 10, [], [77, 81, 85, 89, 93, 97, 101, 105, 109, 113]), (9, 0, [0, 0, 0, 0, 0], [78, 79, 80]), (20, 6, [], []), (20, 6, [], []), (20, 6, [-1, -1, -1, -1, -1, -1], []), (9, 0, [0, 0, 0, 0, 0], [82, 83, 84]), (20, 6, [], []), (20, 6, [], []), (20, 6, [-1, -1, -1, -1, -1, -1], []), (9, 0, [0, 0, 0, 0, 0], [86, 87, 88]), (20, 6, [], []), (20, 6, [], []), (20, 6, [-1, -1, -1, -1, -1, -1], []), (9, 0, [0, 0, 0, 0, 0], [90, 91, 92]), (20, 6, [], []), (20, 6, [], []), (20, 6, [-1, -1, -1, -1, -1, -1], []), (9, 0, [0, 0, 0, 0, 0], [94, 95, 96]), (20, 6, [], []), (20, 6, [], []), (20, 6, [-1, -1, -1, -1, -1, -1], []), (9, 0, [0, 0, 0, 0, 0], [98, 99, 100]), (20, 6, [], []), (20, 6, [], []), (20, 6, [-1, -1, -1, -1, -1, -1], []), (9, 0, [0, 0, 0, 0, 0], [102, 103, 104]), (20, 6, [], []), (20, 6, [], []), (20, 6, [-1, -1, -1, -1, -1, -1], []), (9, 0, [0, 0, 0, 0, 0], [106, 107, 108]), (20, 6, [], []), (20, 6, [], []), (20, 6, [-1, -1, -1, -1, -1, -1], []), (9, 0, [0, 0, 0, 0, 0], [110, 111, 112]), (20, 6, [], []), (20, 6, [], []), (20, 6, [-1, -1, -1, -1, -1, -1], []), (9, 0, [0, 0, 0, 0, 0], [114, 115, 116]), (20, 6, [], []), (20, 6, [], []), (20, 6, [-1, -1, -1, -1, -1, -1], []), (20, 2, [-1, -1], []), (25, 2, [], [210, 214]), (1, 0, [0, 0, 0, 0], [120, 121, 122]), (20, 30, [], []), (20, 31, [], []), (22, 31, [], []), (10, 0, [], [124, 125, 126]), (22, 160, [], []), (20, 4, [], []), (20, 4, [-1, -1, -1, -1], []), (2, 0, [-1, -1], [0, 0, 128, 129]), (20, 9, [], []), (20, 9, [], []), (4, 0, [40, 10, 5, 4, 0, 0, 0, 0, 0, 0, 0, 0, 0, 0, 0, 0, 0, 0, 0], [0, 0, 0, 0, 0, 0, 131, 132, 133, 0, 134, 135, 136, 140, 144, 148, 149]), (20, 6, [], []), (20, 6, [], []), (20, 6, [], []), (20, 30, [], []), (20, 30, [], []), (9, 0, [0, 0, 0, 0, 0], [137, 138, 139]), (20, 6, [0, 0, 0, 0, 0, 0], []), (20, 6, [0, 0, 0, 0, 0, 0], []), (20, 6, [-1, -1, -1, -1, -1, -1], []), (3, 0, [0, 0, 0, 0], [141, 142, 143]), (20, 900, [], []), (20, 4, [], []), (20, 64, [], []), (3, 0, [0, 0, 0, 0], [145, 146, 147]), (20, 900, [], []), (20, 4, [], []), (20, 64, [], []), (20, 300, [], []), (20, 1200, [], []), (4, 0, [40, 10, 5, 4, 0, 0, 0, 0, 0, 0, 0, 0, 0, 0, 0, 0, 0, 0, 0], [0, 0, 0, 0, 0, 0, 151, 152, 153, 0, 154, 155, 156, 160, 164, 168, 169]), (20, 6, [], []), (20, 6, [], []), (20, 6, [], []), (20, 30, [], []), (20, 30, [], []), (9, 0, [0, 0, 0, 0, 0], [157, 158, 159]), (20, 6, [0, 0, 0, 0, 0, 0], []), (20, 6, [0, 0, 0, 0, 0, 0], []), (20, 6, [-1, -1, -1, -1, -1, -1], []), (3, 0, [0, 0, 0, 0], [161, 162, 163]), (20, 900, [], []), (20, 4, [], []), (20, 64, [], []), (3, 0, [0, 0, 0, 0], [165, 166, 167]), (20, 900, [], []), (20, 4, [], []), (20, 64, [], []), (20, 300, [], []), (20, 1200, [], []), (4, 0, [40, 10, 5, 4, 0, 0, 0, 0, 0, 0, 0, 0, 0, 0, 0, 0, 0, 0, 0], [0, 0, 0, 0, 0, 0, 171, 172, 173, 0, 174, 175, 176, 180, 184, 188, 189]), (20, 6, [], []), (20, 6, [], []), (20, 6, [], []), (20, 30, [], []), (20, 30, [], []), (9, 0, [0, 0, 0, 0, 0], [177, 178, 179]), (20, 6, [0, 0, 0, 0, 0, 0], []), (20, 6, [0, 0, 0, 0, 0, 0], []), (20, 6, [-1, -1, -1, -1, -1, -1], []), (3, 0, [0, 0, 0, 0], [181, 182, 183]), (20, 900, [], []), (20, 4, [], []), (20, 64, [], []), (3, 0, [0, 0, 0, 0], [185, 186, 187]), (20, 900, [], []), (20, 4, [], []), (20, 64, [], []), (20, 300, [], []), (20, 1200, [], []), (4, 0, [40, 10, 5, 4, 0, 0, 0, 0, 0, 0, 0, 0, 0, 0, 0, 0, 0, 0, 0], [0, 0, 0, 0, 0, 0, 191, 192, 193, 0, 194, 195, 196, 200, 204, 208, 209]), (20, 6, [], []), (20, 6, [], []), (20, 6, [], []), (20, 30, [], []), (20, 30, [], []), (9, 0, [0, 0, 0, 0, 0], [197, 198, 199]), (20, 6, [0, 0, 0, 0, 0, 0], []), (20, 6, [0, 0, 0, 0, 0, 0], []), (20, 6, [-1, -1, -1, -1, -1, -1], []), (3, 0, [0, 0, 0, 0], [201, 202, 203]), (20, 900, [], []), (20, 4, [], []), (20, 64, [], []), (3, 0, [0, 0, 0, 0], [205, 206, 207]), (20, 900, [], []), (20, 4, [], []), (20, 64, [], []), (20, 300, [], []), (20, 1200, [], []), (9, 0, [0, 0, 0, 0, 0], [211, 212, 213]), (20, 6, [], []), (20, 6, [], []), (20, 6, [-1, -1, -1, -1, -1, -1], []), (9, 0, [0, 0, 0, 0, 0], [215, 216, 217]), (20, 6, [], []), (20, 6, [], []), (20, 6, [-1, -1, -1, -1, -1, -1], []), (6, 0, [0, 0, 0, 0, 0, 0, 0, 0, 0, -1], [65, 0, 0, 0, 0, 0, 130, 140]), (7, 0, [0, 0, 0, 0, 0, 0, 0, 0, 0, 0, 0, 0, -1], [130, 67, 0, 220, 228, 229, 230, 231, 232]), (8, 0, [0, 0, 0, 0, 0, 0, 0, 0, 0, 0], [221, 222, 223, 224, 0, 225, 0, 226, 227]), (20, 140, [], []), (20, 140, [], []), (20, 140, [], []), (20, 140, [], []), (20, 21, [], []), (20, 6, [], []), (20, 6, [], []), (20, 30, [], []), (20, 30, [], []), (20, 6, [], []), (20, 6, [], []), (20, 366, [], []), (7, 0, [0, 0, 0, 0, 0, 0, 0, 0, 0, 0, 0, 0, -1], [130, 71, 0, 234, 242, 243, 244, 245, 246]), (8, 0, [0, 0, 0, 0, 0, 0, 0, 0, 0, 0], [235, 236, 237, 238, 0, 239, 0, 240, 241]), (20, 140, [], []), (20, 140, [], []), (20, 140, [], []), (20, 140, [], []), (20, 21, [], []), (20, 6, [], []), (20, 6, [], []), (20, 30, [], []), (20, 30, [], []), (20, 6, [], []), (20, 6, [], []), (20, 366, [], []), (12, 0, [0, 0, 0, 0, 0, 0, 0, 0, 0, 0, 0, 0, 0, 0, -1, 0, 0, 0, 0, 0, 0, 0, 0, 0, 0, 0, 0, 0, 0, 0, 0, 0, 0, 0, 0, 0, 0, 0, 0, 0, 0, 0, 0, 0, 0, 0, 0, 0, 0, 0, 0, 0, -1], [0, 248, 249, 250, 251, 0, 0, 0, 0, 0, 0, 0, 0, 0, 0, 0, 252, 253, 0, 0, 0, 0, 0, 254, 255, 256, 257, 258, 259, 260, 261, 0, 262, 263, 264, 0, 0, 0, 265, 0, 0, 266, 0, 267, 268, 269, 270, 271, 272, 273, 0, 0, 0, 0, 274, 275, 276, 277, 278]), (20, 3639, [], []), (23, 2, [], []), (20, 900, [], []), (20, 1213, [], []), (20, 900, [], []), (20, 6, [], []), (20, 6, [], []), (20, 140, [], []), (20, 140, [], []), (20, 140, [], []), (20, 140, [], []), (20, 30, [], []), (20, 30, [], []), (20, 30, [], []), (20, 6, [], []), (20, 6, [], []), (20, 366, [], []), (20, 20, [], []), (20, 30, [], []), (20, 31, [], []), (20, 31, [], []), (22, 31, [], []), (22, 31, [], []), (20, 30, [], []), (20, 30, [], []), (20, 10, [], []), (20, 9, [], []), (20, 9, [], []), (20, 4, [-1, -1, -1, -1], []), (20, 4, [], []), (22, 160, [], [])]
set_option maxRecDepth 100000 in
theorem kE_ok : kc189 = kE := by decide +kernel
theorem kE_cl : kE.map (fun e => e.1) = CLl := by decide +kernel
theorem kE_ln : kE.map (fun e => e.2.1) = LNl := by decide +kernel
theorem kE_rf : (RFl.all fun r => decide (r.1 < 26) && (List.range 215).all fun i => decide (CLl.getD i 0 = r.1 + 1 → (kE.getD i ce0).2.2.2.getD r.2.1 0 = 64 + i + r.2.2.1)) = true := by decide +kernel
theorem kE_st : ((List.range 215).all fun i => decide (CLl.getD i 0 = 7 → CLf ((kE.getD i ce0).2.2.2.getD 0 0) = 4 ∧ CLf ((kE.getD i ce0).2.2.2.getD 1 0) = 9)) = true := by decide +kernel
theorem getD_map {α β : Type} (f : α → β) (d : α) : ∀ (l : List α) (i : Nat), (l.map f).getD i (f d) = f (l.getD i d) := by
  intro l
  induction l with
  | nil => intro i; rfl
  | cons a l ih => intro i; cases i with
    | zero => rfl
    | succ i => rw [List.map_cons, List.getD_cons_succ, List.getD_cons_succ]; exact ih i
theorem CLf_hi {i : Nat} : CLf (64 + i) = CLl.getD i 0 := by
  unfold CLf
  rw [if_neg (by omega), show 64 + i - 64 = i by omega]
theorem shp_E (L : Nat) (xs : Nat → Int32) : shp (den L xs kE) := by
  refine ⟨(show 64 + kE.length = 279 by decide +kernel), fun q => ?_, fun q hq => ?_, fun r hr q hq => ?_, (den_gr kE 154 0).trans (by decide +kernel), fun i hi => ?_, fun i hi => ?_, fun i hi => ?_, fun q hq => ?_, ?_, ?_⟩
  · show (if q < 64 then CLf q else (kE.getD (q - 64) ce0).1) = CLf q
    by_cases c : q < 64
    · rw [if_pos c]
    · rw [if_neg c]
      unfold CLf
      rw [if_neg c, ← kE_cl]
      exact (getD_map (fun e : Ce => e.1) ce0 kE (q - 64)).symm
  · show (if q < 64 then (if q = 62 then L else 0) else (kE.getD (q - 64) ce0).2.1) = LNf q
    unfold LNf
    by_cases c : q < 64
    · rw [if_pos c, if_pos c, if_neg hq]
    · rw [if_neg c, if_neg c, ← kE_ln]
      exact (getD_map (fun e : Ce => e.2.1) ce0 kE (q - 64)).symm
  · have h1 := List.all_eq_true.mp kE_rf r hr
    rw [Bool.and_eq_true] at h1
    have h2 := CLf_lt hq (of_decide_eq_true h1.1)
    obtain ⟨i, rfl⟩ : ∃ i, q = 64 + i := ⟨q - 64, by omega⟩
    have h3 := of_decide_eq_true (List.all_eq_true.mp h1.2 i (List.mem_range.mpr (by omega)))
    rw [CLf_hi] at hq
    rw [den_gr]
    exact h3 hq
  · have : i = 0 ∨ i = 1 ∨ i = 2 ∨ i = 3 := by omega
    rcases this with rfl | rfl | rfl | rfl <;> exact (den_gr kE 2 _).trans (by decide +kernel)
  · have : i = 0 ∨ i = 1 ∨ i = 2 ∨ i = 3 ∨ i = 4 ∨ i = 5 ∨ i = 6 ∨ i = 7 ∨ i = 8 ∨ i = 9 := by omega
    rcases this with rfl | rfl | rfl | rfl | rfl | rfl | rfl | rfl | rfl | rfl <;> exact (den_gr kE 12 _).trans (by decide +kernel)
  · have : i = 0 ∨ i = 1 := by omega
    rcases this with rfl | rfl <;> exact (den_gr kE 54 _).trans (by decide +kernel)
  · have h2 := CLf_lt hq (by decide)
    obtain ⟨i, rfl⟩ : ∃ i, q = 64 + i := ⟨q - 64, by omega⟩
    have h3 := of_decide_eq_true (List.all_eq_true.mp kE_st i (List.mem_range.mpr (by omega)))
    rw [CLf_hi] at hq
    rw [den_gr, den_gr]
    exact h3 hq
  · rw [show gr (den L xs kE) 218 6 = 130 from (den_gr kE 154 6).trans (by decide +kernel)]; decide
  · rw [show gr (den L xs kE) 218 7 = 140 from (den_gr kE 154 7).trans (by decide +kernel)]; decide
def gP : PG := ((40, 10, 5, 4, 0, 0, 0), g0.2)
def A0 : AS := ((0, fun _ => 0), (0, -1), (gP, st0), [], (fun _ => none), ((fun _ => -1), (fun _ => 0), (fun _ => 0)), (-1, 0, (fun _ => 0), (fun _ => 0)))
theorem A0_ok : AOK A0 := by
  refine ⟨⟨⟨by decide, by decide, by decide, by decide, by decide, by decide, by decide, by decide, by decide, by decide, by decide, by decide⟩, fun s hs => absurd hs (Nat.not_lt_zero s), fun w hw => absurd hw (Nat.not_lt_zero w), Or.inl rfl, Or.inl rfl⟩, ⟨fun s hs => ?_, fun s _ hs => ?_, fun w _ => ?_, ?_, by decide, by decide⟩, ⟨fun s hs => absurd hs (by intro z; cases z), Nat.zero_le _⟩, (fun i gs e => by cases e), ⟨Nat.zero_le _, fun i => ⟨by show (0 : Int) ≤ 0; omega, by show (0 : Int) ≤ 255; omega⟩⟩, fun i => ⟨by show (-1 : Int) ≤ -1; omega, by show (-1 : Int) ≤ 3; omega, by show (0 : Int) ≤ 0; omega, by show (0 : Int) ≤ 40; omega⟩, by decide, by decide, by decide, by decide, fun j => by show (-1 : Int) ≤ 0; omega⟩
  · show 0 ≤ st0 s ∧ st0 s ≤ 200 ∧ 0 ≤ st0 (6 + s) ∧ st0 (6 + s) ≤ 400 ∧ -1 ≤ st0 (12 + s) ∧ st0 (12 + s) ≤ 29
    unfold st0
    rw [if_neg (by omega), if_neg (by omega), if_pos (by omega)]
    omega
  · show st0 (12 + s) = -1
    unfold st0
    rw [if_pos (by omega)]
  · show bit (st0 18) w = false
    have e : st0 18 = 0 := by decide
    rw [e]; exact bit_0 w
  · show R32 (st0 18)
    have e : st0 18 = 0 := by decide
    rw [e]; exact R32_0
section
variable {L : Nat} {xs : Nat → Int32} {h : PH}
theorem E_gi (F : fr (fun q k => q = 248 ∧ k < 1213) (den L xs kE) h) {i k : Nat} (hi : i ≠ 184) : gi h (64 + i) k = (kE.getD i ce0).2.2.1.getD k 0 := by
  rw [F.1 _ _ (by omega), den_gi]
theorem start_RC (F : fr (fun q k => q = 248 ∧ k < 1213) (den L xs kE) h) : RC h A0 := by
  refine ⟨0, fun _ => gP, A0_ok, ⟨by decide, (E_gi F (i := 0) (k := 4) (by decide)).trans (by decide +kernel), rfl⟩, ⟨(E_gi F (i := 0) (k := 1) (by decide)).trans (by decide +kernel), fun i hi => absurd hi (Nat.not_lt_zero i)⟩, ⟨(E_gi F (i := 154) (k := 8) (by decide)).trans (by decide +kernel), (E_gi F (i := 154) (k := 9) (by decide)).trans (by decide +kernel)⟩, RPg.RCp ⟨⟨(E_gi F (i := 66) (k := 0) (by decide)).trans (by decide +kernel), (E_gi F (i := 66) (k := 1) (by decide)).trans (by decide +kernel), (E_gi F (i := 66) (k := 2) (by decide)).trans (by decide +kernel), (E_gi F (i := 66) (k := 3) (by decide)).trans (by decide +kernel), (E_gi F (i := 66) (k := 4) (by decide)).trans (by decide +kernel), (E_gi F (i := 66) (k := 5) (by decide)).trans (by decide +kernel), (E_gi F (i := 66) (k := 9) (by decide)).trans (by decide +kernel)⟩, fun i hi => absurd hi (Nat.not_lt_zero i), fun w hw => absurd hw (Nat.not_lt_zero w), ⟨(E_gi F (i := 76) (k := 3) (by decide)).trans (by decide +kernel), Nat.zero_le _, fun i hi => absurd hi (Nat.not_lt_zero i)⟩, ⟨(E_gi F (i := 80) (k := 3) (by decide)).trans (by decide +kernel), Nat.zero_le _, fun i hi => absurd hi (Nat.not_lt_zero i)⟩, (E_gi F (i := 66) (k := 17) (by decide)).trans (by decide +kernel), (E_gi F (i := 66) (k := 18) (by decide)).trans (by decide +kernel)⟩, ?_, ⟨0, by decide, (E_gi F (i := 11) (k := 1) (by decide)).trans (by decide +kernel), (E_gi F (i := 11) (k := 2) (by decide)).trans (by decide +kernel), fun i hi => absurd hi (Nat.not_lt_zero i)⟩, fun i hi => ⟨fun _ => ?_, fun gs e => by cases e⟩, Or.inl ((E_gi F (i := 0) (k := 12) (by decide)).trans (by decide +kernel)), ⟨fun i hi => ⟨fun _ => ?_, fun z => absurd rfl z⟩, fun j hj => ?_⟩, ⟨fun _ => (E_gi F (i := 63) (k := 1) (by decide)).trans (by decide +kernel), fun z => absurd rfl z, fun j hj => ⟨(E_gi F (i := 64) (k := j) (by decide)).trans rfl, (E_gi F (i := 65) (k := j) (by decide)).trans rfl⟩⟩⟩
  · refine SV_all (F := st0) (fun j hj => ?_) (fun j hj => ?_) (fun j hj => ?_) ?_ ?_
    · have : j = 0 ∨ j = 1 ∨ j = 2 ∨ j = 3 ∨ j = 4 ∨ j = 5 := by omega
      rcases this with rfl | rfl | rfl | rfl | rfl | rfl <;> exact (E_gi F (i := 4) (by decide)).trans (by decide +kernel)
    · have : j = 0 ∨ j = 1 ∨ j = 2 ∨ j = 3 ∨ j = 4 ∨ j = 5 := by omega
      rcases this with rfl | rfl | rfl | rfl | rfl | rfl <;> exact (E_gi F (i := 5) (by decide)).trans (by decide +kernel)
    · have : j = 0 ∨ j = 1 ∨ j = 2 ∨ j = 3 ∨ j = 4 ∨ j = 5 := by omega
      rcases this with rfl | rfl | rfl | rfl | rfl | rfl <;> exact (E_gi F (i := 6) (by decide)).trans (by decide +kernel)
    · exact (E_gi F (i := 3) (k := 3) (by decide)).trans (by decide +kernel)
    · exact (E_gi F (i := 3) (k := 4) (by decide)).trans (by decide +kernel)
  · have : i = 0 ∨ i = 1 := by omega
    rcases this with rfl | rfl <;> exact (E_gi F (i := 53) (by decide)).trans (by decide +kernel)
  · have : i = 0 ∨ i = 1 ∨ i = 2 ∨ i = 3 := by omega
    rcases this with rfl | rfl | rfl | rfl <;> exact (E_gi F (i := 62) (by decide)).trans (by decide +kernel)
  · rw [F.2.1 _ _ (by omega)]; rfl
theorem start_RM (F : fr (fun q k => q = 248 ∧ k < 1213) (den L xs kE) h) (p : ∀ k, k < 1213 → gi h 248 k = plnV k) : RM h A0 := by
  refine ⟨A0_ok, ⟨(E_gi F (i := 183) (k := 5) (by decide)).trans (by decide +kernel), fun i hi => absurd hi (Nat.not_lt_zero i)⟩, ⟨(E_gi F (i := 183) (k := 13) (by decide)).trans (by decide +kernel), (E_gi F (i := 183) (k := 14) (by decide)).trans (by decide +kernel)⟩, ⟨⟨(p 0 (by decide)).trans (by decide), (p 1 (by decide)).trans (by decide), (p 2 (by decide)).trans (by decide), (p 3 (by decide)).trans (by decide), (p 4 (by decide)).trans (by decide), (p 5 (by decide)).trans (by decide), (p 6 (by decide)).trans (by decide)⟩, fun i hi => absurd hi (Nat.not_lt_zero i), fun w hw => absurd hw (Nat.not_lt_zero w), ⟨fun _ => (p 7 (by decide)).trans (by decide), fun z => absurd rfl z⟩, ⟨fun _ => (p 8 (by decide)).trans (by decide), fun z => absurd rfl z⟩⟩, fun k hk => ?_, ⟨(p 111 (by decide)).trans (by decide), fun i hi => absurd hi (Nat.not_lt_zero i)⟩, fun i hi => ⟨fun _ => (E_gi F (i := 185) (k := i) (by decide)).trans rfl, fun gs e => by cases e⟩, ⟨fun i hi => ⟨?_, (E_gi F (i := 213) (k := i) (by decide)).trans rfl⟩, fun j hj => ?_⟩, ⟨(E_gi F (i := 183) (k := 52) (by decide)).trans (by decide +kernel), (E_gi F (i := 183) (k := 53) (by decide)).trans (by decide +kernel), fun j hj => ⟨(E_gi F (i := 210) (k := j) (by decide)).trans rfl, (E_gi F (i := 211) (k := j) (by decide)).trans rfl⟩⟩⟩
  · rw [p _ (by omega)]
    show plnV (91 + k) = st0 k
    unfold plnV st0
    rw [if_neg (by omega), if_neg (by omega), if_neg (by omega), if_neg (by omega)]
    by_cases c : 12 ≤ k ∧ k < 18
    · rw [if_pos (by omega), if_pos c]
    · rw [if_neg (by omega), if_neg c]
  · have : i = 0 ∨ i = 1 ∨ i = 2 ∨ i = 3 := by omega
    rcases this with rfl | rfl | rfl | rfl <;> exact (E_gi F (i := 212) (by decide)).trans (by decide +kernel)
  · rw [F.2.1 _ _ (by omega)]; rfl
end
section
variable {u : Bu} {h : PH} {Q : Option PV → PH → Prop} {L i : Nat} {sv : Nat → Int} {A : AS}
theorem law_disp {x : Int} (hs : shp h) (S : SC L sv h) (XC : RC h A) (XM : RM h A) (hi : i + 6 ≤ L) (hk : ∀ h2 A2, shp h2 → SC L sv h2 → RC h2 A2 → RM h2 A2 → T 60 u mL_law 1445 [some (vR 62), some (vR 64), some (vR 247), some (vI (i : Int))] [] h2 Q) : T 60 u mL_law 33 [some (vR 62), some (vR 64), some (vR 247), some (vI (i : Int))] [vI x] h Q :=
  T_table (n := 45) (tg := fun j => ([228, 291, 314, 337, 360, 393, 426, 469, 492, 535, 568, 611, 644, 667, 690, 713, 746, 769, 802, 815, 828, 851, 874, 887, 900, 914, 927, 940, 953, 966, 989, 1002, 1025, 1048, 1071, 1104, 1137, 1170, 1203, 1236, 1279, 1353, 1376, 1399, 1422] : List Nat).getD j 0) (dt := 1445) (tDI kL_law_0 21 rfl) rfl rfl (by decide) (by decide) rfl (fun j hj hx => match j, hj, hx with | 0, _, _ => lc_0 hs S XC XM hi hk | 1, _, _ => lc_1 hs S XC XM hi hk | 2, _, _ => lc_2 hs S XC XM hi hk | 3, _, _ => lc_3 hs S XC XM hi hk | 4, _, _ => lc_4 hs S XC XM hi hk | 5, _, _ => lc_5 hs S XC XM hi hk | 6, _, _ => lc_6 hs S XC XM hi hk | 7, _, _ => lc_7 hs S XC XM hi hk | 8, _, _ => lc_8 hs S XC XM hi hk | 9, _, _ => lc_9 hs S XC XM hi hk | 10, _, _ => lc_10 hs S XC XM hi hk | 11, _, _ => lc_11 hs S XC XM hi hk | 12, _, _ => lc_12 hs S XC XM hi hk | 13, _, _ => lc_13 hs S XC XM hi hk | 14, _, _ => lc_14 hs S XC XM hi hk | 15, _, _ => lc_15 hs S XC XM hi hk | 16, _, _ => lc_16 hs S XC XM hi hk | 17, _, _ => lc_17 hs S XC XM hi hk | 18, _, _ => lc_18 hs S XC XM hi hk | 19, _, _ => lc_19 hs S XC XM hi hk | 20, _, _ => lc_20 hs S XC XM hi hk | 21, _, _ => lc_21 hs S XC XM hi hk | 22, _, _ => lc_22 hs S XC XM hi hk | 23, _, _ => lc_23 hs S XC XM hi hk | 24, _, _ => lc_24 hs S XC XM hi hk | 25, _, _ => lc_25 hs S XC XM hi hk | 26, _, _ => lc_26 hs S XC XM hi hk | 27, _, _ => lc_27 hs S XC XM hi hk | 28, _, _ => lc_28 hs S XC XM hi hk | 29, _, _ => lc_29 hs S XC XM hi hk | 30, _, _ => lc_30 hs S XC XM hi hk | 31, _, _ => lc_31 hs S XC XM hi hk | 32, _, _ => lc_32 hs S XC XM hi hk | 33, _, _ => lc_33 hs S XC XM hi hk | 34, _, _ => lc_34 hs S XC XM hi hk | 35, _, _ => lc_35 hs S XC XM hi hk | 36, _, _ => lc_36 hs S XC XM hi hk | 37, _, _ => lc_37 hs S XC XM hi hk | 38, _, _ => lc_38 hs S XC XM hi hk | 39, _, _ => lc_39 hs S XC XM hi hk | 40, _, _ => lc_40 hs S XC XM hi hk | 41, _, _ => lc_41 hs S XC XM hi hk | 42, _, _ => lc_42 hs S XC XM hi hk | 43, _, _ => lc_43 hs S XC XM hi hk | 44, _, _ => lc_44 hs S XC XM hi hk | j + 45, hj, _ => absurd hj (by omega)) (fun _ => hk h A hs S XC XM)
theorem law_loop : ∀ (m i : Nat) (h : PH) (A : AS), L ≤ i + 6 * m + 5 → i ≤ L + 6 → shp h → SC L sv h → RC h A → RM h A → T 60 u mL_law 18 [some (vR 62), some (vR 64), some (vR 247), some (vI (i : Int))] [] h (fun r _ => r = some (vI 1)) := by
  intro m
  induction m with
  | zero =>
    intro i h A hm hi6 hs S XC XM
    have l := S.2.2.1
    refine T_iload_n (tDI kL_law_0 10 rfl) rfl (T_aload_n (tDI kL_law_0 11 rfl) rfl (T_slen (tDI kL_law_0 12 rfl) S.1 (fun _ => T_bipush (tDI kL_law_0 13 rfl) ⟨by decide, by decide⟩ (T_isub (tDI kL_law_0 14 rfl) ?_))))
    rw [S.2.1, w32_r (by omega) (by omega)]
    refine T_icmp_gt (tgt := 1451) (tDI kL_law_0 15 rfl) rfl (fun _ => T_iconst (tDI kL_law_8 5 rfl) (r32 rfl) (T_zret (tDI kL_law_8 6 rfl) rfl (Or.inr rfl) rfl)) (fun z => ?_)
    exfalso; omega
  | succ m ih =>
    intro i h A hm hi6 hs S XC XM
    have l := S.2.2.1
    refine T_iload_n (tDI kL_law_0 10 rfl) rfl (T_aload_n (tDI kL_law_0 11 rfl) rfl (T_slen (tDI kL_law_0 12 rfl) S.1 (fun _ => T_bipush (tDI kL_law_0 13 rfl) ⟨by decide, by decide⟩ (T_isub (tDI kL_law_0 14 rfl) ?_))))
    rw [S.2.1, w32_r (by omega) (by omega)]
    refine T_icmp_gt (tgt := 1451) (tDI kL_law_0 15 rfl) rfl (fun _ => T_iconst (tDI kL_law_8 5 rfl) (r32 rfl) (T_zret (tDI kL_law_8 6 rfl) rfl (Or.inr rfl) rfl)) (fun z => ?_)
    refine T_aload_n (tDI kL_law_0 16 rfl) rfl (T_iload_n (tDI kL_law_0 17 rfl) rfl (T_sld (tDI kL_law_0 18 rfl) S.1 (by omega) (by rw [S.2.1]; omega) (T_bipush (tDI kL_law_0 19 rfl) ⟨by decide, by decide⟩ (T_iand (tDI kL_law_0 20 rfl) ?_))))
    refine law_disp hs S XC XM (by omega) (fun h2 A2 s2 S2 XC2 XM2 => T_iinc (tDI kL_law_8 3 rfl) rfl rfl (T_goto (tgt := 18) (tDI kL_law_8 4 rfl) rfl ?_))
    rw [w32_r (by omega) (by omega), show (i : Int) + 6 = ((i + 6 : Nat) : Int) by omega]
    exact ih (i + 6) h2 A2 (by omega) (by omega) s2 S2 XC2 XM2
end
