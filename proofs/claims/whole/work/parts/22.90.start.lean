/-! THE START: what the Statement gives, as a picture of the pure machine -/
def tmS (i : Nat) : Term := .string (sOwn i) (sIdx.getD i 0)
def chkL (base : List Cond) (n : Nat) (f : Nat → Cond) (is : List Nat) : Bool := decide (is.map (fun i => base[i]?) = (List.range n).map (fun j => some (f j)))
theorem chkL_ok {base : List Cond} {n : Nat} {f : Nat → Cond} {is : List Nat} (h : chkL base n f is = true) : ∀ j, j < n → f j ∈ base := by
  intro j hj
  have h1 := of_decide_eq_true h
  have h2 : (is.map (fun i => base[i]?))[j]? = some (some (f j)) := by rw [h1, List.getElem?_map, List.getElem?_range hj]; rfl
  rw [List.getElem?_map] at h2
  cases hi : is[j]? with
  | none => rw [hi] at h2; cases h2
  | some i => rw [hi] at h2; exact List.mem_of_getElem? (Option.some.inj h2)
theorem st_ex : ∀ i, i < 27 → Cond.exactly (tmS i) "java/lang/String" ∈ flatC narrow_1 := chkL_ok (is := [7, 23, 31, 39, 48, 56, 65, 72, 79, 89, 98, 105, 114, 120, 127, 134, 140, 148, 156, 163, 171, 179, 188, 197, 205, 212, 334]) (by decide +kernel)
theorem st_co : ∀ i, i < 27 → Cond.eq (.field (tmS i) "java/lang/String" "coder" "B") (.int 0) ∈ flatC narrow_1 := chkL_ok (is := [8, 24, 32, 40, 49, 57, 66, 73, 80, 90, 99, 106, 115, 121, 128, 135, 141, 149, 157, 164, 172, 180, 189, 198, 206, 213, 335]) (by decide +kernel)
theorem st_ar : ∀ i, i < 27 → Cond.arrayOf (.field (tmS i) "java/lang/String" "value" "[B") .byte ∈ flatC narrow_1 := chkL_ok (is := [9, 25, 33, 41, 50, 58, 67, 74, 81, 91, 100, 107, 116, 122, 129, 136, 142, 150, 158, 165, 173, 181, 190, 199, 207, 214, 336]) (by decide +kernel)
theorem st_le : ∀ i, i < 27 → Cond.eq (.length (.field (tmS i) "java/lang/String" "value" "[B")) (.int (Int32.ofNat (sLen i))) ∈ flatC narrow_1 := chkL_ok (is := [10, 26, 34, 42, 51, 59, 68, 75, 82, 92, 101, 108, 117, 123, 130, 137, 143, 151, 159, 166, 174, 182, 191, 200, 208, 215, 337]) (by decide +kernel)
theorem st_el_0 : ∀ j, j < 12 → Cond.eq (.elem (.field (tmS 0) "java/lang/String" "value" "[B") (.int (Int32.ofNat j))) (.int (Int32.ofInt (sChr 0 j))) ∈ flatC narrow_1 := chkL_ok (is := [11, 12, 13, 14, 15, 16, 17, 18, 19, 20, 21, 22]) (by decide +kernel)
theorem st_el_1 : ∀ j, j < 4 → Cond.eq (.elem (.field (tmS 1) "java/lang/String" "value" "[B") (.int (Int32.ofNat j))) (.int (Int32.ofInt (sChr 1 j))) ∈ flatC narrow_1 := chkL_ok (is := [27, 28, 29, 30]) (by decide +kernel)
theorem st_el_2 : ∀ j, j < 4 → Cond.eq (.elem (.field (tmS 2) "java/lang/String" "value" "[B") (.int (Int32.ofNat j))) (.int (Int32.ofInt (sChr 2 j))) ∈ flatC narrow_1 := chkL_ok (is := [35, 36, 37, 38]) (by decide +kernel)
theorem st_el_3 : ∀ j, j < 5 → Cond.eq (.elem (.field (tmS 3) "java/lang/String" "value" "[B") (.int (Int32.ofNat j))) (.int (Int32.ofInt (sChr 3 j))) ∈ flatC narrow_1 := chkL_ok (is := [43, 44, 45, 46, 47]) (by decide +kernel)
theorem st_el_4 : ∀ j, j < 4 → Cond.eq (.elem (.field (tmS 4) "java/lang/String" "value" "[B") (.int (Int32.ofNat j))) (.int (Int32.ofInt (sChr 4 j))) ∈ flatC narrow_1 := chkL_ok (is := [52, 53, 54, 55]) (by decide +kernel)
theorem st_el_5 : ∀ j, j < 5 → Cond.eq (.elem (.field (tmS 5) "java/lang/String" "value" "[B") (.int (Int32.ofNat j))) (.int (Int32.ofInt (sChr 5 j))) ∈ flatC narrow_1 := chkL_ok (is := [60, 61, 62, 63, 64]) (by decide +kernel)
theorem st_el_6 : ∀ j, j < 3 → Cond.eq (.elem (.field (tmS 6) "java/lang/String" "value" "[B") (.int (Int32.ofNat j))) (.int (Int32.ofInt (sChr 6 j))) ∈ flatC narrow_1 := chkL_ok (is := [69, 70, 71]) (by decide +kernel)
theorem st_el_7 : ∀ j, j < 3 → Cond.eq (.elem (.field (tmS 7) "java/lang/String" "value" "[B") (.int (Int32.ofNat j))) (.int (Int32.ofInt (sChr 7 j))) ∈ flatC narrow_1 := chkL_ok (is := [76, 77, 78]) (by decide +kernel)
theorem st_el_8 : ∀ j, j < 6 → Cond.eq (.elem (.field (tmS 8) "java/lang/String" "value" "[B") (.int (Int32.ofNat j))) (.int (Int32.ofInt (sChr 8 j))) ∈ flatC narrow_1 := chkL_ok (is := [83, 84, 85, 86, 87, 88]) (by decide +kernel)
theorem st_el_9 : ∀ j, j < 5 → Cond.eq (.elem (.field (tmS 9) "java/lang/String" "value" "[B") (.int (Int32.ofNat j))) (.int (Int32.ofInt (sChr 9 j))) ∈ flatC narrow_1 := chkL_ok (is := [93, 94, 95, 96, 97]) (by decide +kernel)
theorem st_el_10 : ∀ j, j < 3 → Cond.eq (.elem (.field (tmS 10) "java/lang/String" "value" "[B") (.int (Int32.ofNat j))) (.int (Int32.ofInt (sChr 10 j))) ∈ flatC narrow_1 := chkL_ok (is := [102, 103, 104]) (by decide +kernel)
theorem st_el_11 : ∀ j, j < 5 → Cond.eq (.elem (.field (tmS 11) "java/lang/String" "value" "[B") (.int (Int32.ofNat j))) (.int (Int32.ofInt (sChr 11 j))) ∈ flatC narrow_1 := chkL_ok (is := [109, 110, 111, 112, 113]) (by decide +kernel)
theorem st_el_12 : ∀ j, j < 2 → Cond.eq (.elem (.field (tmS 12) "java/lang/String" "value" "[B") (.int (Int32.ofNat j))) (.int (Int32.ofInt (sChr 12 j))) ∈ flatC narrow_1 := chkL_ok (is := [118, 119]) (by decide +kernel)
theorem st_el_13 : ∀ j, j < 3 → Cond.eq (.elem (.field (tmS 13) "java/lang/String" "value" "[B") (.int (Int32.ofNat j))) (.int (Int32.ofInt (sChr 13 j))) ∈ flatC narrow_1 := chkL_ok (is := [124, 125, 126]) (by decide +kernel)
theorem st_el_14 : ∀ j, j < 3 → Cond.eq (.elem (.field (tmS 14) "java/lang/String" "value" "[B") (.int (Int32.ofNat j))) (.int (Int32.ofInt (sChr 14 j))) ∈ flatC narrow_1 := chkL_ok (is := [131, 132, 133]) (by decide +kernel)
theorem st_el_15 : ∀ j, j < 2 → Cond.eq (.elem (.field (tmS 15) "java/lang/String" "value" "[B") (.int (Int32.ofNat j))) (.int (Int32.ofInt (sChr 15 j))) ∈ flatC narrow_1 := chkL_ok (is := [138, 139]) (by decide +kernel)
theorem st_el_16 : ∀ j, j < 4 → Cond.eq (.elem (.field (tmS 16) "java/lang/String" "value" "[B") (.int (Int32.ofNat j))) (.int (Int32.ofInt (sChr 16 j))) ∈ flatC narrow_1 := chkL_ok (is := [144, 145, 146, 147]) (by decide +kernel)
theorem st_el_17 : ∀ j, j < 4 → Cond.eq (.elem (.field (tmS 17) "java/lang/String" "value" "[B") (.int (Int32.ofNat j))) (.int (Int32.ofInt (sChr 17 j))) ∈ flatC narrow_1 := chkL_ok (is := [152, 153, 154, 155]) (by decide +kernel)
theorem st_el_18 : ∀ j, j < 3 → Cond.eq (.elem (.field (tmS 18) "java/lang/String" "value" "[B") (.int (Int32.ofNat j))) (.int (Int32.ofInt (sChr 18 j))) ∈ flatC narrow_1 := chkL_ok (is := [160, 161, 162]) (by decide +kernel)
theorem st_el_19 : ∀ j, j < 4 → Cond.eq (.elem (.field (tmS 19) "java/lang/String" "value" "[B") (.int (Int32.ofNat j))) (.int (Int32.ofInt (sChr 19 j))) ∈ flatC narrow_1 := chkL_ok (is := [167, 168, 169, 170]) (by decide +kernel)
theorem st_el_20 : ∀ j, j < 4 → Cond.eq (.elem (.field (tmS 20) "java/lang/String" "value" "[B") (.int (Int32.ofNat j))) (.int (Int32.ofInt (sChr 20 j))) ∈ flatC narrow_1 := chkL_ok (is := [175, 176, 177, 178]) (by decide +kernel)
theorem st_el_21 : ∀ j, j < 5 → Cond.eq (.elem (.field (tmS 21) "java/lang/String" "value" "[B") (.int (Int32.ofNat j))) (.int (Int32.ofInt (sChr 21 j))) ∈ flatC narrow_1 := chkL_ok (is := [183, 184, 185, 186, 187]) (by decide +kernel)
theorem st_el_22 : ∀ j, j < 5 → Cond.eq (.elem (.field (tmS 22) "java/lang/String" "value" "[B") (.int (Int32.ofNat j))) (.int (Int32.ofInt (sChr 22 j))) ∈ flatC narrow_1 := chkL_ok (is := [192, 193, 194, 195, 196]) (by decide +kernel)
theorem st_el_23 : ∀ j, j < 4 → Cond.eq (.elem (.field (tmS 23) "java/lang/String" "value" "[B") (.int (Int32.ofNat j))) (.int (Int32.ofInt (sChr 23 j))) ∈ flatC narrow_1 := chkL_ok (is := [201, 202, 203, 204]) (by decide +kernel)
theorem st_el_24 : ∀ j, j < 3 → Cond.eq (.elem (.field (tmS 24) "java/lang/String" "value" "[B") (.int (Int32.ofNat j))) (.int (Int32.ofInt (sChr 24 j))) ∈ flatC narrow_1 := chkL_ok (is := [209, 210, 211]) (by decide +kernel)
theorem st_el_25 : ∀ j, j < 118 → Cond.eq (.elem (.field (tmS 25) "java/lang/String" "value" "[B") (.int (Int32.ofNat j))) (.int (Int32.ofInt (sChr 25 j))) ∈ flatC narrow_1 := chkL_ok (is := [216, 217, 218, 219, 220, 221, 222, 223, 224, 225, 226, 227, 228, 229, 230, 231, 232, 233, 234, 235, 236, 237, 238, 239, 240, 241, 242, 243, 244, 245, 246, 247, 248, 249, 250, 251, 252, 253, 254, 255, 256, 257, 258, 259, 260, 261, 262, 263, 264, 265, 266, 267, 268, 269, 270, 271, 272, 273, 274, 275, 276, 277, 278, 279, 280, 281, 282, 283, 284, 285, 286, 287, 288, 289, 290, 291, 292, 293, 294, 295, 296, 297, 298, 299, 300, 301, 302, 303, 304, 305, 306, 307, 308, 309, 310, 311, 312, 313, 314, 315, 316, 317, 318, 319, 320, 321, 322, 323, 324, 325, 326, 327, 328, 329, 330, 331, 332, 333]) (by decide +kernel)
theorem st_el_26 : ∀ j, j < 12 → Cond.eq (.elem (.field (tmS 26) "java/lang/String" "value" "[B") (.int (Int32.ofNat j))) (.int (Int32.ofInt (sChr 26 j))) ∈ flatC narrow_1 := chkL_ok (is := [338, 339, 340, 341, 342, 343, 344, 345, 346, 347, 348, 349]) (by decide +kernel)
theorem st_el : ∀ i, i < 27 → ∀ j, j < sLen i → Cond.eq (.elem (.field (tmS i) "java/lang/String" "value" "[B") (.int (Int32.ofNat j))) (.int (Int32.ofInt (sChr i j))) ∈ flatC narrow_1 := by
  intro i hi j hj
  match i, hi, hj with
  | 0, _, hj => exact st_el_0 j hj
  | 1, _, hj => exact st_el_1 j hj
  | 2, _, hj => exact st_el_2 j hj
  | 3, _, hj => exact st_el_3 j hj
  | 4, _, hj => exact st_el_4 j hj
  | 5, _, hj => exact st_el_5 j hj
  | 6, _, hj => exact st_el_6 j hj
  | 7, _, hj => exact st_el_7 j hj
  | 8, _, hj => exact st_el_8 j hj
  | 9, _, hj => exact st_el_9 j hj
  | 10, _, hj => exact st_el_10 j hj
  | 11, _, hj => exact st_el_11 j hj
  | 12, _, hj => exact st_el_12 j hj
  | 13, _, hj => exact st_el_13 j hj
  | 14, _, hj => exact st_el_14 j hj
  | 15, _, hj => exact st_el_15 j hj
  | 16, _, hj => exact st_el_16 j hj
  | 17, _, hj => exact st_el_17 j hj
  | 18, _, hj => exact st_el_18 j hj
  | 19, _, hj => exact st_el_19 j hj
  | 20, _, hj => exact st_el_20 j hj
  | 21, _, hj => exact st_el_21 j hj
  | 22, _, hj => exact st_el_22 j hj
  | 23, _, hj => exact st_el_23 j hj
  | 24, _, hj => exact st_el_24 j hj
  | 25, _, hj => exact st_el_25 j hj
  | 26, _, hj => exact st_el_26 j hj
  | i + 27, hi, _ => exact absurd hi (by omega)
theorem st_rf : ∀ i, i < 27 → Cond.stringRef (sOwn i) (sIdx.getD i 0) (sTxt.getD i "") ∈ tables_1 := chkL_ok (is := [520, 611, 641, 646, 647, 648, 649, 658, 663, 664, 665, 670, 699, 716, 717, 718, 719, 720, 721, 726, 727, 728, 729, 730, 731, 1474, 1480]) (by decide +kernel)
theorem st_cs : Cond.eq (.static "java/lang/String" "COMPACT_STRINGS" "Z") (.int 1) ∈ flatC narrow_1 := by decide +kernel
theorem st_si : Cond.isRef (.static "jdk/internal/util/Preconditions" "SIOOBE_FORMATTER" "Ljava/util/function/BiFunction;") ∈ flatC narrow_1 := by decide +kernel
theorem st_ls1 : Cond.laysStatic "java/lang/String" "COMPACT_STRINGS" "Z" ∈ tables_1 := by decide +kernel
theorem st_ls2 : Cond.laysStatic "jdk/internal/util/Preconditions" "SIOOBE_FORMATTER" "Ljava/util/function/BiFunction;" ∈ tables_1 := by decide +kernel
theorem st_in1 : Cond.initialized "java/lang/String" ∈ tables_1 := by decide +kernel
theorem st_in2 : Cond.initialized "jdk/internal/util/Preconditions" ∈ tables_1 := by decide +kernel
theorem st_a0 : Cond.arrayClass .int ∈ tables_1 ∧ Cond.arrayClass .byte ∈ tables_1 ∧ Cond.arrayClass .long ∈ tables_1 ∧ Cond.arrayClass .boolean ∈ tables_1 := by decide +kernel
theorem st_a1 : Cond.arrayOver (.object RX3) ∈ tables_1 ∧ Cond.arrayOver (.object RX8) ∈ tables_1 := by decide +kernel
theorem st_ne : ∀ w ∈ nestL, w ∈ tables_1 := by decide +kernel
theorem st_ins : ∀ c, c < 12 → ∃ r, vwCl[c]? = some r ∧ Cond.instantiable r.1 r.2.2 ∈ tables_1 := by
  intro c hc
  match c, hc with
  | 0, _ => exact ⟨_, rfl, List.mem_of_getElem? (i := 92) (by decide +kernel)⟩
  | 1, _ => exact ⟨_, rfl, List.mem_of_getElem? (i := 135) (by decide +kernel)⟩
  | 2, _ => exact ⟨_, rfl, List.mem_of_getElem? (i := 164) (by decide +kernel)⟩
  | 3, _ => exact ⟨_, rfl, List.mem_of_getElem? (i := 156) (by decide +kernel)⟩
  | 4, _ => exact ⟨_, rfl, List.mem_of_getElem? (i := 72) (by decide +kernel)⟩
  | 5, _ => exact ⟨_, rfl, List.mem_of_getElem? (i := 284) (by decide +kernel)⟩
  | 6, _ => exact ⟨_, rfl, List.mem_of_getElem? (i := 323) (by decide +kernel)⟩
  | 7, _ => exact ⟨_, rfl, List.mem_of_getElem? (i := 329) (by decide +kernel)⟩
  | 8, _ => exact ⟨_, rfl, List.mem_of_getElem? (i := 32) (by decide +kernel)⟩
  | 9, _ => exact ⟨_, rfl, List.mem_of_getElem? (i := 117) (by decide +kernel)⟩
  | 10, _ => exact ⟨_, rfl, List.mem_of_getElem? (i := 22) (by decide +kernel)⟩
  | 11, _ => exact ⟨_, rfl, List.mem_of_getElem? (i := 1261) (by decide +kernel)⟩
  | c + 12, h => exact absurd h (by omega)
theorem ar_prim {args : Array Value} {s : State} {ty : FieldType} (h : (Cond.arrayClass ty).before args s = true) (ht : ∀ C, ty ≠ .object C) : ∃ cA, ArrOfT s cA ty ∧ va_RA s cA ty := by
  obtain ⟨cA, k, comp, h1, h2, h3⟩ := Cond.arrayClass_spec h
  refine ⟨cA, fun n z => ⟨fun k h => (by cases h), k, h2, comp, h3⟩, ?_⟩
  cases ty with
  | object C => exact absurd rfl (ht C)
  | _ => exact h1
theorem ar_obj {args : Array Value} {s : State} {C : String} (h : (Cond.arrayOver (.object C)).before args s = true) : ∃ cA, ArrOfT s cA (.object C) ∧ va_RA s cA (.object C) := by
  obtain ⟨comp, c, k, h1, h2, h3, h4, h5⟩ := Cond.arrayOver_spec h
  exact ⟨c, fun n z => ⟨fun k h => (by cases h), k, h3, comp, h4⟩, k, comp, h3, h4, h1, h5⟩
theorem str_at {args : Array Value} {s : State} {A : Nat → Prop} (hs : ∀ c ∈ flatC narrow_1, c.before args s = true) (hA : ∀ a : Nat, a < s.heap.size → ¬ A a) (i : Nat) : ∃ q : Nat × Nat, i < 27 → (tmS i).eval args s none [] s = some (.ref q.1) ∧ va_O "java/lang/String" q.1 A s s.heap ∧ va_OF "java/lang/String" "coder" "B" (.int 0) q.1 A s s.heap ∧ va_OF "java/lang/String" "value" "[B" (.ref q.2) q.1 A s s.heap ∧ va_T .byte q.2 (sLen i) (fun j => .int (Int32.ofInt (sChr i j))) A s s.heap := by
  by_cases hi : i < 27
  · have hl := sLen_lt i
    obtain ⟨a, c, cA, kA, q1, q2, q3, q4, q5, q6, -⟩ := Cond.exactly_spec (args := args) (first := s) (o := none) (s := s) (idx := []) (t := tmS i) (cls := "java/lang/String") (hs _ (st_ex i hi))
    obtain ⟨t, ht, hT⟩ := va_Tof (f := fun j => .int (Int32.ofInt (sChr i j))) (A := A) (by omega) (hs _ (st_ar i hi)) (va_eqt (hs _ (st_le i hi))) (fun j hj => va_eqt (hs _ (st_el i hi j hj))) hA
    exact ⟨(a, t), fun _ => ⟨q1, ⟨cA, q3, q5, by rw [q6]; exact q2, hA a (Array.getElem?_eq_some_iff.mp q3).1⟩, vk_OFof q1 (va_eqt (hs _ (st_co i hi))) hA, vk_OFof q1 ht hA, hT⟩⟩
  · exact ⟨(0, 0), fun h => absurd h hi⟩
/-- the pure heap at the start -/
def h_0 (L : Nat) (xs : Nat → Int32) : PH := (64, fun q => if q < 64 then CLf q else 0, fun q => if q = 62 then L else 0, fun q j => if q = 62 ∧ j < L then (xs j).toInt else 0, fun _ _ => 0, fun _ _ => 0)
theorem start_rel {args : Array Value} {s : State} {b L : Nat} {xs : Nat → Int32} (hL : L ≤ 3072) (hts : ∀ w ∈ lw_tbl, w.before args s = true) (hg : (Jvm.Cond.and given_1 narrow_1).before args s = true) (hX : va_X b L xs s s.heap) (hb : b < s.heap.size) :
    ∃ g : Gx, bs g = s.heap.size ∧ h00 g = s.heap ∧ ad g 62 = b ∧ KK g s ∧ Rel g (h_0 L xs) s.heap := by
  have htt : ∀ w ∈ tables_1, w.before args s = true := fun w hw => hts w (List.mem_append_right _ hw)
  have hs : ∀ c ∈ flatC narrow_1, c.before args s = true := fun c hc => flat_of_before _ hg c (by
    show c ∈ flatC given_1 ++ flatC narrow_1
    exact List.mem_append_right _ hc)
  have hgT : ∀ w ∈ gT, w.before args s = true := fun w hw => hts w (List.mem_filter.mp hw).1
  have hK0 : ∀ c : Nat, ∃ q : ClassId × (Nat → Nat), ∀ r : vw_C, vwCl[c]? = some r → u_Kn s r.1 r.2.1 r.2.2 q.1 q.2 := by
    intro c
    by_cases hc : c < 12
    · obtain ⟨r, h1, h2⟩ := st_ins c hc
      obtain ⟨cC, iS, h3⟩ := u_known hgT ((clsOK_all c) r h1).1 (htt _ h2)
      exact ⟨(cC, iS), fun r' h' => by cases h1.symm.trans h'; exact h3⟩
    · exact ⟨(0, fun _ => 0), fun r h => absurd (List.getElem?_eq_some_iff.mp h).1 hc⟩
  obtain ⟨dK, hdK⟩ := Classical.axiomOfChoice hK0
  obtain ⟨a0, ha0⟩ := ar_prim (htt _ st_a0.1) (by intro C h; cases h)
  obtain ⟨a1, ha1⟩ := ar_prim (htt _ st_a0.2.1) (by intro C h; cases h)
  obtain ⟨a2, ha2⟩ := ar_prim (htt _ st_a0.2.2.1) (by intro C h; cases h)
  obtain ⟨a3, ha3⟩ := ar_prim (htt _ st_a0.2.2.2) (by intro C h; cases h)
  obtain ⟨a4, ha4⟩ := ar_obj (htt _ st_a1.1)
  obtain ⟨a5, ha5⟩ := ar_obj (htt _ st_a1.2)
  have hA : ∀ a : Nat, a < s.heap.size → ¬ (fun q : Nat => s.heap.size ≤ q) a := fun a h => Nat.not_le.mpr h
  obtain ⟨sa, hsa⟩ := Classical.axiomOfChoice (str_at (A := fun q : Nat => s.heap.size ≤ q) hs hA)
  have hZ1 := va_Zof (htt _ st_ls1) (htt _ st_in1) (va_eqi (hs _ st_cs)) hA
  have hZ2 := va_Zqof (htt _ st_ls2) (htt _ st_in2) (hs _ st_si) hA
  obtain ⟨t61, h61⟩ : ∃ t : Nat, va_Z "jdk/internal/util/Preconditions" "SIOOBE_FORMATTER" "Ljava/util/function/BiFunction;" .null (fun q : Nat => s.heap.size ≤ q) s s.heap ∨ va_Z "jdk/internal/util/Preconditions" "SIOOBE_FORMATTER" "Ljava/util/function/BiFunction;" (.ref t) (fun q : Nat => s.heap.size ≤ q) s s.heap := by
    rcases hZ2 with h | ⟨t, h⟩
    · exact ⟨0, Or.inl h⟩
    · exact ⟨t, Or.inr h⟩
  refine ⟨(fun c => (dK c).1, fun c => (dK c).2, fun k => match k with | 0 => a0 | 1 => a1 | 2 => a2 | 3 => a3 | 4 => a4 | _ => a5, s.heap.size, s.heap, fun a => if a ≤ 27 then (sa (a - 1)).1 else if a ≤ 59 then (sa (a - 33)).2 else if a = 61 then t61 else b), rfl, rfl, rfl, ⟨⟨fun c r hr => hdK c r hr, ?_⟩, fun w hw => ?_, fun i hi => ?_, hZ1, htt _ st_a1.1, htt _ st_a1.2, ?_, ?_⟩, ?_⟩
  · intro k q hk
    match k, hk with
    | 0, hk => cases hk; exact ha0
    | 1, hk => cases hk; exact ha1
    | 2, hk => cases hk; exact ha2
    | 3, hk => cases hk; exact ha3
    | 4, hk => cases hk; exact ha4
    | 5, hk => cases hk; exact ha5
    | k + 6, hk => simp [tysG] at hk
  · have h1 := htt _ (st_ne w hw)
    simp only [nestL, List.mem_cons, List.not_mem_nil, or_false] at hw
    rcases hw with rfl | rfl | rfl | rfl <;> exact va_Nw.of rfl h1
  · obtain ⟨e1, e2, e3, e4, e5⟩ := hsa i hi
    have k1 : ∀ g : Gx, ad g (1 + i) = g.2.2.2.2.2 (1 + i) := fun g => ad_str g (by omega)
    have k2 : ∀ g : Gx, ad g (33 + i) = g.2.2.2.2.2 (33 + i) := fun g => ad_str g (by omega)
    rw [k1, k2]
    dsimp only
    rw [if_pos (by omega), if_neg (by omega), if_pos (by omega), show 1 + i - 1 = i by omega, show 33 + i - 33 = i by omega]
    refine ⟨?_, e2, e3, e4, e5⟩
    have h1 := htt _ (st_rf i hi)
    refine vk_R.of (A := args) h1 e1 |> fun z => ?_
    exact z
  · rcases h61 with h | h
    · exact ⟨0, Or.inl rfl, h⟩
    · exact ⟨61, Or.inr rfl, h⟩
  · intro scr hscr
    obtain ⟨c2, z1, z2, z3, z4, z5⟩ := hX
    have : s.heap[b]? = some scr := hscr
    cases this.symm.trans z1
    exact z2
  · refine ⟨rfl, Nat.le_refl _, fun q h1 h2 => ?_, fun q k => ?_, fun q k => R64_0, fun a _ => rfl, fun q h1 h2 => ?_, fun q h1 => ?_, fun q h1 => ?_, fun q h1 => ?_, fun _ => ?_⟩
    · exact absurd h2 (Nat.not_lt.mpr h1)
    · show R32 (if q = 62 ∧ k < L then (xs k).toInt else 0)
      split
      · exact R32_i _
      · exact R32_0
    · exfalso
      change (if q < 64 then CLf q else 0) ≠ 0 at h1
      change (if q < 64 then CLf q else 0) < 26 at h2
      split at h1
      · rename_i z
        rw [if_pos z] at h2
        unfold CLf at h1 h2
        rw [if_pos z] at h1 h2
        split at h1
        · rename_i z1; rw [if_pos z1] at h2; omega
        · rename_i z1; rw [if_neg z1] at h2
          split at h1
          · rename_i z2; rw [if_pos z2] at h2; omega
          · rename_i z2; rw [if_neg z2] at h2
            split at h1
            · rename_i z3; rw [if_pos z3] at h2; omega
            · exact h1 rfl
      · exact h1 rfl
    · change (if q < 64 then CLf q else 0) = 31 at h1
      split at h1
      · rename_i z
        unfold CLf at h1
        rw [if_pos z] at h1
        split at h1
        · rename_i z1; exact z1
        · split at h1
          · omega
          · split at h1 <;> omega
      · omega
    · change (if q < 64 then CLf q else 0) = 32 at h1
      split at h1
      · rename_i z
        unfold CLf at h1
        rw [if_pos z] at h1
        split at h1
        · omega
        · split at h1
          · rename_i z1; exact z1
          · split at h1 <;> omega
      · omega
    · change (if q < 64 then CLf q else 0) = 30 at h1
      split at h1
      · rename_i z
        unfold CLf at h1
        rw [if_pos z] at h1
        split at h1
        · omega
        · split at h1
          · omega
          · split at h1
            · assumption
            · omega
      · omega
    · obtain ⟨scr, z1, z2, z3, z4, z5⟩ := hX
      refine ⟨hL, hb, scr, z1, z3, z4, fun j hj => ?_⟩
      have hj' : j < L := hj
      rw [z5 j hj']
      show _ = some (Value.int (Int32.ofInt (if (62 : Nat) = 62 ∧ j < L then (xs j).toInt else 0)))
      rw [if_pos ⟨rfl, hj'⟩, oi32]
