/-! THE CLASS: a line is cut -/
section
variable {d : Nat} {h : PH} {Q : Option PV → PH → Prop} {u : Nat}
def frC (u n : Nat) : Nat → Nat → Prop := fun q k => (q = u ∧ (k = 4 ∨ k = 6 ∨ k = 9)) ∨ (u + 1 ≤ q ∧ q ≤ u + 4) ∨ (q = u + 5 ∧ (k = n ∨ k = n + 1))
def mkL (n : Nat) (l : List (Int × Int)) : SL := l.map (fun a => (n, a.1, a.2))
theorem mkL_app (n : Nat) (a b : List (Int × Int)) : mkL n (a ++ b) = mkL n a ++ mkL n b := List.map_append
theorem mkL_len (n : Nat) (a : List (Int × Int)) : (mkL n a).length = a.length := List.length_map _
theorem drop_cons {L : List (Int × Int)} {i : Nat} (hi : i < L.length) : L.drop i = L.getD i (0, 0) :: L.drop (i + 1) := by
  rw [List.getD_eq_getElem?_getD, List.getElem?_eq_getElem hi]
  exact List.drop_eq_getElem_cons hi
theorem cutLine_loop {wi le : Int} {n : Nat} (cu : CLf u = 8) (hn : n < 20) (hw : 0 ≤ wi ∧ wi ≤ 1000) {P : List (Int × Int)} (hP6 : P.length ≤ 6) (hPb : ∀ b ∈ P, -1000 ≤ b.1 ∧ b.1 < b.2 ∧ b.2 ≤ 1000) {L : SL} (hL : L.length + 7 ≤ 140)
    (hq : ∀ h', SR h' u (L ++ mkL n (swp wi le 0 P)) → SP h' u [] → gi h' u 6 = (n : Int) + 1 → gi h' (u + 5) n = gi h (u + 5) n → gi h' (u + 5) (n + 1) = (L ++ mkL n (swp wi le 0 P)).length → (∀ k, k < L.length → gi h' (u + 4) k = gi h (u + 4) k) → (∀ k, L.length ≤ k → k < (L ++ mkL n (swp wi le 0 P)).length → gi h' (u + 4) k = 0) → fr (frC u n) h h' → Q none h') :
    ∀ (m i : Nat) (fe : Int) (X : List (Int × Int)) (h1 : PH), i + m = P.length → swp wi le 0 P = X ++ swp wi le fe (P.drop i) → X.length ≤ i → -1000 ≤ fe ∧ fe ≤ 1000 → SP h1 u P → SR h1 u (L ++ mkL n X) → gi h1 u 6 = n →
    (∀ k, k < L.length → gi h1 (u + 4) k = gi h (u + 4) k) → (∀ k, L.length ≤ k → k < (L ++ mkL n X).length → gi h1 (u + 4) k = 0) → fr (frC u n) h h1 → gi h1 (u + 5) n = gi h (u + 5) n → T2 (d + 1) mX7_cutLine 28 [some (vR u), some (vI wi), some (vI le), some (vI fe), some (vI (i : Int))] [] h1 Q := by
  have hfs : ∀ q k, frS u q k → frC u n q k := fun q k z => by unfold frS at z; unfold frC; omega
  intro m
  induction m with
  | zero =>
    intro i fe X h1 hi hX hXl hfe hP hS g6 hc1 hc2 hF g5
    have ei : i = P.length := by omega
    subst ei
    rw [List.drop_length] at hX
    refine BX7_cutLine_28 cu ⟨fun _ => ?_, fun z => by rw [hP.1] at z; omega⟩
    have hln : (L ++ mkL n X).length < 140 := by rw [List.length_append, mkL_len]; omega
    refine c_addSlot cu hS hln g6 (by omega) (fun h2 b1 b2 b3 b4 => ⟨rfl, ?_⟩)
    have eL : L ++ mkL n X ++ (if le ≤ wi - fe then [(n, fe, wi)] else []) = L ++ mkL n (swp wi le 0 P) := by
      rw [hX, mkL_app, List.append_assoc]
      unfold swp
      split <;> rfl
    rw [eL] at b1 b3
    have hl2 : (L ++ mkL n (swp wi le 0 P)).length ≤ 140 := by
      rw [List.length_append, mkL_len]
      have := swp_len wi le P 0
      omega
    have g6' : gi h2 u 6 = n := by rw [b4.1 u 6 (by unfold frS; omega)]; exact g6
    refine fun h3 e3 h4 e4 => ?_
    subst e3 e4
    rw [gi_s0, gi_s2 (by omega), g6', w32_r (by omega) (by omega)]
    refine ⟨⟨by omega, by omega⟩, fun h5 e5 => ?_⟩
    subst e5
    rw [gi_s2 (by omega), gi_s2 (by omega), b1.1, show ((n : Int) + 1).toNat = n + 1 by omega]
    refine hq _ ⟨?_, fun k hk => ?_⟩ ⟨?_, by simp, fun i hi => by simp at hi⟩ ?_ ?_ ?_ (fun k hk => ?_) (fun k hk1 hk2 => ?_) ?_
    · rw [gi_s1 (by omega), gi_s2 (by omega), gi_s2 (by omega)]; exact b1.1
    · have := b1.2 k hk
      rw [gi_s1 (by omega), gi_s1 (by omega), gi_s1 (by omega), gi_s1 (by omega), gi_s1 (by omega), gi_s1 (by omega), gi_s1 (by omega), gi_s1 (by omega), gi_s1 (by omega)]
      exact this
    · rw [gi_s1 (by omega), gi_s2 (by omega), gi_s0]; rfl
    · rw [gi_s1 (by omega), gi_s0]
    · rw [gi_s2 (by omega), gi_s1 (by omega), gi_s1 (by omega), b4.1 (u + 5) n (by unfold frS; omega)]; exact g5
    · rw [gi_s0]
    · rw [gi_s1 (by omega), gi_s1 (by omega), gi_s1 (by omega), b2 k (by rw [List.length_append]; omega)]; exact hc1 k hk
    · rw [gi_s1 (by omega), gi_s1 (by omega), gi_s1 (by omega)]
      by_cases z : k < (L ++ mkL n X).length
      · rw [b2 k z]; exact hc2 k hk1 z
      · exact b3 k (by omega) hk2
    · refine (((hF.tr (b4.mono hfs)).si ?_).si ?_).si ?_ <;> (unfold frC; omega)
  | succ m ih =>
    intro i fe X h1 hi hX hXl hfe hP hS g6 hc1 hc2 hF g5
    have hip : i < P.length := by omega
    refine BX7_cutLine_28 cu ⟨fun z => by rw [hP.1] at z; omega, fun _ => ⟨⟨by omega, by omega⟩, ?_⟩⟩
    obtain ⟨q1, q2⟩ := hP.2.2 i hip
    have hb := hPb _ (show P.getD i (0, 0) ∈ P by rw [List.getD_eq_getElem?_getD, List.getElem?_eq_getElem hip]; exact List.getElem_mem hip)
    simp only [Int.toNat_natCast]
    rw [q1]
    refine c_min fun _ => ?_
    have hln : (L ++ mkL n X).length < 140 := by rw [List.length_append, mkL_len]; omega
    refine c_addSlot cu hS hln g6 (by omega) (fun h2 b1 b2 b3 b4 => ⟨rfl, ⟨by omega, by omega⟩, ?_⟩)
    rw [b4.1 (u + 7) i (by unfold frS; omega), q2]
    refine c_max fun _ => ?_
    rw [w32_r (by omega) (by omega), show ((i : Int) + 1) = ((i + 1 : Nat) : Int) by omega]
    have hX' : swp wi le 0 P = (X ++ (if le ≤ min (P.getD i (0, 0)).1 wi - fe then [(fe, min (P.getD i (0, 0)).1 wi)] else [])) ++ swp wi le (max fe (P.getD i (0, 0)).2) (P.drop (i + 1)) := by
      rw [hX, drop_cons hip, List.append_assoc]; rfl
    have eL : L ++ mkL n X ++ (if le ≤ min (P.getD i (0, 0)).1 wi - fe then [(n, fe, min (P.getD i (0, 0)).1 wi)] else []) = L ++ mkL n (X ++ (if le ≤ min (P.getD i (0, 0)).1 wi - fe then [(fe, min (P.getD i (0, 0)).1 wi)] else [])) := by
      rw [mkL_app, List.append_assoc]
      split <;> rfl
    rw [eL] at b1 b3
    refine ih (i + 1) _ _ h2 (by omega) hX' (by split <;> simp <;> omega) (by omega) ⟨?_, hP6, fun j hj => ?_⟩ b1 ?_ (fun k hk => ?_) (fun k hk1 hk2 => ?_) (hF.tr (b4.mono hfs)) ?_
    · rw [b4.1 u 9 (by unfold frS; omega)]; exact hP.1
    · rw [b4.1 (u + 6) j (by unfold frS; omega), b4.1 (u + 7) j (by unfold frS; omega)]; exact hP.2.2 j hj
    · rw [b4.1 u 6 (by unfold frS; omega)]; exact g6
    · rw [b2 k (by rw [List.length_append]; omega)]; exact hc1 k hk
    · by_cases z : k < (L ++ mkL n X).length
      · rw [b2 k z]; exact hc2 k hk1 z
      · exact b3 k (by omega) hk2
    · rw [b4.1 (u + 5) n (by unfold frS; omega)]; exact g5
theorem c_cutLine {wi le : Int} {n : Nat} (cu : CLf u = 8) (hn : n < 20) (hw : 0 ≤ wi ∧ wi ≤ 1000) {P : List (Int × Int)} (hP : SP h u P) (hPb : ∀ b ∈ P, -1000 ≤ b.1 ∧ b.1 < b.2 ∧ b.2 ≤ 1000) {L : SL} (hL : L.length + 7 ≤ 140) (hS : SR h u L) (g6 : gi h u 6 = n)
    (hq : ∀ h', SR h' u (L ++ mkL n (swp wi le 0 P)) → SP h' u [] → gi h' u 6 = (n : Int) + 1 → gi h' (u + 5) n = L.length → gi h' (u + 5) (n + 1) = (L ++ mkL n (swp wi le 0 P)).length → (∀ k, k < L.length → gi h' (u + 4) k = gi h (u + 4) k) → (∀ k, L.length ≤ k → k < (L ++ mkL n (swp wi le 0 P)).length → gi h' (u + 4) k = 0) → fr (frC u n) h h' → Q none h') : C2 (d + 1) mX7_cutLine [vR u, vI wi, vI le] h Q := by
  refine EX7_cutLine fun _ _ => BX7_cutLine_0 cu ?_
  rw [g6]
  refine ⟨fun _ => ⟨⟨by omega, by omega⟩, fun h1 e1 => ?_⟩, fun z => by omega⟩
  subst e1
  simp only [Int.toNat_natCast]
  rw [hS.1]
  have hF : fr (frC u n) h (si h (u + 5) n L.length) := fr.rf.si (by unfold frC; omega)
  refine cutLine_loop (h := si h (u + 5) n L.length) cu hn hw hP.2.1 hPb hL (fun h' a1 a2 a3 a4 a5 a6 a7 a8 => hq h' a1 a2 a3 ?_ a5 (fun k hk => ?_) a7 (hF.tr a8)) P.length 0 0 [] _ (by omega) (by simp) (by simp) (by omega) ⟨?_, hP.2.1, fun i hi => ?_⟩ ?_ ?_ (fun k _ => rfl) (fun k h1 h2 => by simp [mkL] at h2; omega) fr.rf rfl
  · rw [a4, gi_s0]
  · rw [a6 k hk, gi_s1 (by omega)]
  · rw [gi_s1 (by omega)]; exact hP.1
  · rw [gi_s1 (by omega), gi_s1 (by omega)]; exact hP.2.2 i hi
  · show SR _ u (L ++ [])
    rw [List.append_nil]
    refine ⟨by rw [gi_s1 (by omega)]; exact hS.1, fun k hk => ?_⟩
    rw [gi_s1 (by omega), gi_s1 (by omega), gi_s1 (by omega)]; exact hS.2 k hk
  · rw [gi_s1 (by omega)]; exact g6
end
