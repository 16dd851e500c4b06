/-! THE CLASS: how far a shape reaches, a line's cut, a slot's fill -/
theorem scn_rg {cov : Int → Bool} {le lo : Int} : ∀ (f : Nat) (p : Int) (o : Option Int), lo ≤ p → (∀ s, o = some s → lo ≤ s ∧ s ≤ p) → ∀ x ∈ scn cov le f p o, lo ≤ x.1 ∧ x.1 ≤ x.2 ∧ x.2 ≤ p + f ∧ le ≤ x.2 - x.1 := by
  intro f
  induction f with
  | zero =>
    intro p o hp ho x hx
    cases o with
    | none => simp [scn] at hx
    | some s =>
      obtain ⟨a, b⟩ := ho s rfl
      unfold scn at hx
      split at hx
      · rw [List.mem_singleton.mp hx]; exact ⟨a, b, by simp, by assumption⟩
      · simp at hx
  | succ f ih =>
    intro p o hp ho x hx
    have key : ∀ o', (∀ s, o' = some s → lo ≤ s ∧ s ≤ p + 1) → x ∈ scn cov le f (p + 1) o' → lo ≤ x.1 ∧ x.1 ≤ x.2 ∧ x.2 ≤ p + (f + 1 : Nat) ∧ le ≤ x.2 - x.1 := fun o' h1 h2 => by
      obtain ⟨a, b, c, e⟩ := ih (p + 1) o' (by omega) h1 x h2
      exact ⟨a, b, by omega, e⟩
    cases o with
    | none =>
      rw [scn_n] at hx
      split at hx
      · exact key none (fun s h => by cases h) hx
      · exact key (some p) (fun s h => by cases h; omega) hx
    | some s =>
      obtain ⟨a, b⟩ := ho s rfl
      rw [scn_s] at hx
      split at hx
      · split at hx
        · rcases List.mem_cons.mp hx with z | z
          · rw [z]; exact ⟨a, b, by show p ≤ _; omega, by assumption⟩
          · exact key none (fun s h => by cases h) z
        · exact key none (fun s h => by cases h) hx
      · exact key (some s) (fun s' h => by cases h; omega) hx
theorem cutS_rg {wi le : Int} (hw : 0 ≤ wi) {M : List (Int × Int)} : ∀ x ∈ cutS wi le M, 0 ≤ x.1 ∧ x.1 ≤ x.2 ∧ x.2 ≤ wi ∧ le ≤ x.2 - x.1 := fun x hx => by
  obtain ⟨a, b, c, e⟩ := scn_rg (lo := 0) wi.toNat 0 none (by omega) (fun s h => by cases h) x hx
  exact ⟨a, b, by omega, e⟩
theorem slt_mem {v : VW} {wi : Int} {ht : Nat → Int} (hw : 0 ≤ wi) : ∀ (n : Nat), ∀ x ∈ slt v wi ht n, x.1 < n ∧ 0 ≤ x.2.1 ∧ x.2.1 ≤ x.2.2 ∧ x.2.2 ≤ wi ∧ v_le v ≤ x.2.2 - x.2.1 := by
  intro n
  induction n with
  | zero => intro x hx; simp [slt] at hx
  | succ n ih =>
    intro x hx
    rcases List.mem_append.mp (show x ∈ slt v wi ht n ++ (cutS wi (v_le v) (spl v ht n (v_S v))).map (fun a => (n, a.1, a.2)) from hx) with z | z
    · obtain ⟨a, b⟩ := ih x z; exact ⟨by omega, b⟩
    · obtain ⟨y, hy, rfl⟩ := List.mem_map.mp z
      exact ⟨Nat.lt_succ_self n, cutS_rg hw y hy⟩
theorem getD_mem {α : Type} {L : List α} {k : Nat} {dd : α} (h : k < L.length) : L.getD k dd ∈ L := by
  rw [List.getD_eq_getElem?_getD, List.getElem?_eq_getElem h]; exact List.getElem_mem h
theorem slt_rg {v : VW} {wi : Int} {ht : Nat → Int} (hw : 0 ≤ wi) {n k : Nat} (hk : k < (slt v wi ht n).length) : s_li (slt v wi ht n) k < n ∧ 0 ≤ s_le (slt v wi ht n) k ∧ s_le (slt v wi ht n) k ≤ s_ri (slt v wi ht n) k ∧ s_ri (slt v wi ht n) k ≤ wi := by
  obtain ⟨a, b, c, e, -⟩ := slt_mem hw n _ (getD_mem (dd := (0, 0, 0)) hk)
  exact ⟨a, b, c, e⟩
/-- page p, state s of the class are seen so, by this ink -/
def vcl (h : PH) (p s ink : Nat) (v : VW) : Prop :=
  (gi h p 1 = v_ln v ∧ gi h p 2 = v_hi v ∧ gi h p 3 = v_le v ∧ gi h p 5 = v_S v ∧ gi h p 9 = v_W v ∧ gi h s 4 = ink ∧ ink ≤ 9) ∧
  (∀ i, i < v_S v → gi h (p + 1) i = v_kd v i ∧ gi h (p + 2) i = v_ac v i ∧ gi h (p + 3) i = v_tl v i ∧ gi h (s + 1) i = v_x v i ∧ gi h (s + 2) i = v_y v i ∧ gi h (s + 3) i = v_ti v i) ∧
  (∀ w, w < v_W v → bit (gi h s 3) w = v_hd v w) ∧
  (∀ w, w < v_W v → gi h (p + 18) (ink * 30 + w) = v_wd v w) ∧ (∀ i l, i < v_S v → l < v_ln v → gi h (p + 19) ((ink * 6 + i) * 20 + l) = v_gp v i l)
theorem vcl.keep {h h' : PH} {p s ink : Nat} {v : VW} (a : vcl h p s ink v) (e : ∀ q k, (p ≤ q ∧ q ≤ p + 19) ∨ (s ≤ q ∧ q ≤ s + 3) → gi h' q k = gi h q k) : vcl h' p s ink v := by
  obtain ⟨⟨a1, a2, a3, a4, a5, a6, a7⟩, b, c, e1, e2⟩ := a
  have ep : ∀ j k, j ≤ 19 → gi h' (p + j) k = gi h (p + j) k := fun j k hj => e _ _ (Or.inl ⟨by omega, by omega⟩)
  have es : ∀ j k, j ≤ 3 → gi h' (s + j) k = gi h (s + j) k := fun j k hj => e _ _ (Or.inr ⟨by omega, by omega⟩)
  have ep0 : ∀ k, gi h' p k = gi h p k := fun k => ep 0 k (by omega)
  have es0 : ∀ k, gi h' s k = gi h s k := fun k => es 0 k (by omega)
  refine ⟨⟨by rw [ep0]; exact a1, by rw [ep0]; exact a2, by rw [ep0]; exact a3, by rw [ep0]; exact a4, by rw [ep0]; exact a5, by rw [es0]; exact a6, a7⟩, fun i hi => ?_, fun w hw => ?_, fun w hw => ?_, fun i l hi hl => ?_⟩
  · rw [ep 1 i (by omega), ep 2 i (by omega), ep 3 i (by omega), es 1 i (by omega), es 2 i (by omega), es 3 i (by omega)]; exact b i hi
  · rw [es0]; exact c w hw
  · rw [ep 18 _ (by omega)]; exact e1 w hw
  · rw [ep 19 _ (by omega)]; exact e2 i l hi hl
section
variable {d : Nat} {h : PH} {Q : Option PV → PH → Prop}
theorem rootUp_loop {n : Int} (h1 : 1 ≤ n) (h2 : n ≤ 10000) (hq : Q (some (vI (rtU n))) h) : ∀ (j : Nat) (lo up : Int), j ≤ 7 → 0 ≤ lo → lo ≤ rtU n → rtU n ≤ up → up ≤ 100 → up - lo < (2 ^ j : Nat) → T2 d mX3_rootUp 7 [some (vI n), some (vI lo), some (vI up), some (vI ((7 - j : Nat) : Int)), none] [] h Q := by
  obtain ⟨c1, c2, c3, c4⟩ := rtU_spec h1 h2
  intro j
  induction j with
  | zero =>
    intro lo up hj a1 a2 a3 a4 a5
    have e : up = rtU n := by simp at a5; omega
    exact BX3_rootUp_7 ⟨fun _ => by rw [e]; exact hq, fun z => by omega⟩
  | succ j ih =>
    intro lo up hj a1 a2 a3 a4 a5
    have e2 : (2 ^ (j + 1) : Nat) = 2 * 2 ^ j := by rw [Nat.pow_succ]; omega
    refine BX3_rootUp_7 ⟨fun z => by omega, fun _ => ⟨fun z => ?_, fun z => ?_⟩⟩
    · have e : up = rtU n := by omega
      rw [e]; exact hq
    · rw [w32_r (x := lo + up) (by omega) (by omega), Int.tdiv_eq_ediv_of_nonneg (by omega), w32_r (x := (lo + up) / 2) (by omega) (by omega)]
      have hm1 : 0 ≤ (lo + up) / 2 := by omega
      have hm2 : (lo + up) / 2 ≤ 100 := by omega
      generalize hm : (lo + up) / 2 = m at *
      have hmm : m * m ≤ 100 * 100 := Int.mul_le_mul hm2 hm2 hm1 (by omega)
      have hmm0 : 0 ≤ m * m := Int.mul_nonneg hm1 hm1
      rw [w32_r (x := m * m) (by omega) (by omega), w32_r (x := m + 1) (by omega) (by omega), w32_r (x := ((7 - (j + 1) : Nat) : Int) + 1) (by omega) (by omega), show ((7 - (j + 1) : Nat) : Int) + 1 = ((7 - j : Nat) : Int) by omega]
      refine ⟨fun y => ih _ _ (by omega) (by omega) ?_ a3 a4 (by omega), fun y => ih _ _ (by omega) a1 a2 ?_ (by omega) (by omega)⟩
      · rcases Int.lt_or_le m (rtU n) with z2 | z2
        · omega
        · have := Int.mul_le_mul z2 z2 (by omega) hm1; omega
      · rcases Int.lt_or_le m (rtU n) with z2 | z2
        · have := Int.mul_le_mul (show m ≤ rtU n - 1 by omega) (show m ≤ rtU n - 1 by omega) hm1 (by omega); omega
        · exact z2
theorem c_rootUp {n : Int} (h1 : 1 ≤ n) (h2 : n ≤ 10000) (hq : Q (some (vI (rtU n))) h) : C2 d mX3_rootUp [vI n] h Q := by
  obtain ⟨c1, c2, c3, c4⟩ := rtU_spec h1 h2
  exact EX3_rootUp fun _ => BX3_rootUp_0 (rootUp_loop h1 h2 hq 7 0 100 (by omega) (by omega) (by omega) (by omega) (by omega) (by omega))
theorem mul_rg {a b A B : Int} (h1 : 0 ≤ a) (h2 : a ≤ A) (h3 : 0 ≤ b) (h4 : b ≤ B) : 0 ≤ a * b ∧ a * b ≤ A * B := ⟨Int.mul_nonneg h1 h3, Int.mul_le_mul h2 h4 h3 (by omega)⟩
theorem c_reach {p st ink s l : Nat} {v : VW} {y : Int} (cp : CLf p = 4) (hv : vcl h p st ink v) (ok : VOK v) (hs : s < v_S v) (hl : l ≤ 20) (hy : -1 ≤ y ∧ y ≤ 1000) (hq : Q (some (vI (rch v s y l))) h) : C2 (d + 1) mX3_reach [vR p, vI (s : Int), vI y, vI (l : Int)] h Q := by
  obtain ⟨⟨o1, o2, o3, o4, o5, o6, o7, o8⟩, ok2, -, -⟩ := ok
  obtain ⟨k1, k2, k3, k4, k5, k6, k6a, k6b, k7, k8, k9, k10, k11, k12⟩ := ok2 s hs
  obtain ⟨⟨a1, a2, a3, a4, a5, a6, a7⟩, b, -, -, -⟩ := hv
  obtain ⟨b1, b2, b3, b4, b5, b6⟩ := b s hs
  have hT := mul_rg (a := (l : Int)) (A := 20) (b := v_hi v) (B := 20) (by omega) (by omega) (by omega) (by omega)
  refine EX3_reach fun _ _ _ => BX3_reach_0 cp ?_
  unfold rch offS at hq
  simp only [Int.toNat_natCast]
  rw [a2, b1, b3, b2]
  generalize hTT : (l : Int) * v_hi v = T at *
  rw [w32_r (x := T) (by omega) (by omega), w32_r (x := T + v_hi v) (by omega) (by omega)]
  refine ⟨fun y0 => ⟨⟨by omega, by omega⟩, fun z => ?_, fun z => ?_⟩, fun y0 => by rw [if_pos y0] at hq; exact hq⟩
  · rw [if_neg (by omega), if_neg z] at hq
    refine ⟨fun z1 => by rw [if_pos z1] at hq; exact hq, fun z1 => ⟨⟨by omega, by omega⟩, ?_⟩⟩
    rw [if_neg (by omega)] at hq
    have k6' := k6 z
    rw [w32_r (x := y + v_tl v s) (by omega) (by omega)]
    refine ⟨fun z2 => by rw [if_pos z2] at hq; exact hq, fun z2 => ⟨⟨by omega, by omega⟩, fun _ => ⟨⟨by omega, by omega⟩, fun z3 => ⟨⟨by omega, by omega⟩, ?_⟩, fun z3 => ⟨⟨by omega, by omega⟩, ?_⟩⟩, fun z4 => by omega⟩⟩
    · rw [if_neg (by omega), if_neg z3] at hq
      have k5' := k5 z3
      rw [w32_r (x := T + v_hi v - y) (by omega) (by omega)]
      refine c_min fun _ => ⟨⟨by omega, by omega⟩, ⟨by omega, by omega⟩, ⟨by omega, by omega⟩, by rw [b3]; omega, ?_⟩
      rw [b2, b3]
      have hm := mul_rg (a := v_ac v s) (A := 100) (b := min (T + v_hi v - y) (v_tl v s)) (B := 200) (by omega) (by omega) (by omega) (by omega)
      generalize v_ac v s * min (T + v_hi v - y) (v_tl v s) = M at *
      rw [w32_r (x := M) (by omega) (by omega), w32_r (x := M + v_tl v s) (by omega) (by omega), w32_r (x := M + v_tl v s - 1) (by omega) (by omega), Int.tdiv_eq_ediv_of_nonneg (by omega)]
      have hd1 : 0 ≤ (M + v_tl v s - 1) / v_tl v s := Int.ediv_nonneg (by omega) (by omega)
      have hd2 : (M + v_tl v s - 1) / v_tl v s ≤ M + v_tl v s - 1 := Int.ediv_le_self _ (by omega)
      rw [w32_r (by omega) (by omega)]
      exact hq
    · rw [if_neg (by omega), if_pos z3] at hq; exact hq
  · rw [if_neg (by omega), if_pos z] at hq
    have k5' := k5 (by omega)
    have fin : ∀ o : Int, 0 ≤ o → o ≤ 2000 → Q (some (vI (if o < v_ac v s then rtU (v_ac v s * v_ac v s - o * o) else -1))) h → T2 (d + 1) mX3_reach 60 [some (vR p), some (vI (s : Int)), none, none, none, none, none, none] [vI o] h Q := by
      intro o ho ho2 hqo
      refine BX3_reach_60 cp ⟨⟨by omega, by omega⟩, ?_⟩
      simp only [Int.toNat_natCast]
      rw [b2]
      refine ⟨fun z1 => by rw [if_neg (by omega)] at hqo; exact hqo, fun z1 => ?_⟩
      rw [if_pos z1] at hqo
      have m1 := mul_rg (a := v_ac v s) (A := 100) (b := v_ac v s) (B := 100) (by omega) (by omega) (by omega) (by omega)
      have m2 : o * o ≤ (v_ac v s - 1) * (v_ac v s - 1) := Int.mul_le_mul (by omega) (by omega) ho (by omega)
      have m3 : 0 ≤ o * o := Int.mul_nonneg ho ho
      have m4 : (v_ac v s - 1) * (v_ac v s - 1) = v_ac v s * v_ac v s - 2 * v_ac v s + 1 := by rw [Int.sub_mul, Int.mul_sub]; omega
      rw [w32_r (x := v_ac v s * v_ac v s) (by omega) (by omega), w32_r (x := o * o) (by omega) (by omega), w32_r (by omega) (by omega)]
      exact c_rootUp (by omega) (by omega) (fun _ => hqo)
    refine ⟨fun z1 => ⟨fun z2 => ?_, fun z2 => ?_⟩, fun z1 => ?_⟩
    · rw [if_neg (show ¬ y < T by omega), if_neg (show ¬ T + v_hi v < y by omega)] at hq
      exact fin 0 (by omega) (by omega) hq
    · rw [if_neg (show ¬ y < T by omega), if_pos (show T + v_hi v < y by omega)] at hq
      rw [w32_r (by omega) (by omega)]
      exact fin _ (by omega) (by omega) hq
    · rw [if_pos (show y < T by omega)] at hq
      rw [w32_r (by omega) (by omega)]
      exact fin _ (by omega) (by omega) hq
theorem c_wideOf {p w ink : Nat} (cp : CLf p = 4) (hw : w < 30) (hi : ink ≤ 9) (hq : Q (some (vI (gi h (p + 18) (ink * 30 + w)))) h) : C2 d mX3_wideOf [vR p, vI (w : Int), vI (ink : Int)] h Q := by
  refine EX3_wideOf fun _ _ => BX3_wideOf_0 cp ?_
  rw [w32_r (x := (ink : Int) * 30) (by omega) (by omega), w32_r (by omega) (by omega), show ((ink : Int) * 30 + (w : Int)).toNat = ink * 30 + w by omega]
  exact ⟨⟨by omega, by omega⟩, hq⟩
theorem c_gapOf {p s l ink : Nat} (cp : CLf p = 4) (hs : s < 6) (hl : l < 20) (hi : ink ≤ 9) (hq : Q (some (vI (gi h (p + 19) ((ink * 6 + s) * 20 + l)))) h) : C2 d mX3_gapOf [vR p, vI (s : Int), vI (l : Int), vI (ink : Int)] h Q := by
  refine EX3_gapOf fun _ _ _ => BX3_gapOf_0 cp ?_
  rw [w32_r (x := (ink : Int) * 6) (by omega) (by omega), w32_r (x := (ink : Int) * 6 + s) (by omega) (by omega), w32_r (x := ((ink : Int) * 6 + s) * 20) (by omega) (by omega), w32_r (by omega) (by omega), show (((ink : Int) * 6 + s) * 20 + (l : Int)).toNat = (ink * 6 + s) * 20 + l by omega]
  exact ⟨⟨by omega, by omega⟩, hq⟩
/-- a setting t on its page and state -/
def StC (h : PH) (t p s ink : Nat) (v : VW) (wi : Int) : Prop := (CLf t = 7 ∧ CLf p = 4 ∧ CLf s = 9 ∧ CLf (t + 1) = 8 ∧ 219 ≤ t ∧ p ≤ 190 ∧ s ≤ 214) ∧ (gr h t 0 = p ∧ gr h t 1 = s ∧ gi h t 2 = wi) ∧ vcl h p s ink v ∧ VOK v ∧ 0 ≤ wi ∧ wi ≤ 200
def frT (t : Nat) : Nat → Nat → Prop := fun q k => (t + 1 ≤ q ∧ q ≤ t + 13) ∨ (q = t ∧ 9 ≤ k ∧ k ≤ 12)
theorem StC.keep {h h' : PH} {t p s ink : Nat} {v : VW} {wi : Int} (a : StC h t p s ink v wi) (hF : fr (frT t) h h') : StC h' t p s ink v wi := by
  obtain ⟨⟨a1, a2, a3, a3', a4, a5, a6⟩, ⟨b1, b2, b3⟩, c, e⟩ := a
  refine ⟨⟨a1, a2, a3, a3', a4, a5, a6⟩, ⟨?_, ?_, ?_⟩, c.keep (fun q k hq => hF.1 q k (by unfold frT; omega)), e⟩
  · rw [hF.2.2 t 0 (by unfold frT; omega)]; exact b1
  · rw [hF.2.2 t 1 (by unfold frT; omega)]; exact b2
  · rw [hF.1 t 2 (by unfold frT; omega)]; exact b3
theorem rch_rg {v : VW} (ok : VOK v) {s l : Nat} (hs : s < v_S v) {y : Int} : -1 ≤ rch v s y l ∧ rch v s y l ≤ 200 ∧ (0 ≤ rch v s y l → 1 ≤ rch v s y l) := by
  obtain ⟨⟨o1, o2, o3, o4, o5, o6, o7, o8⟩, ok2, -, -⟩ := ok
  obtain ⟨k1, k2, k3, k4, k5, k6, k6a, k6b, k7, k8, k9, k10, k11, k12⟩ := ok2 s hs
  unfold rch
  split
  · omega
  · rename_i hy
    split
    · rename_i hk
      have k5' := k5 (by omega)
      split
      · rename_i ho
        have ho0 : 0 ≤ offS v y l := by unfold offS; split <;> (try split) <;> omega
        have m1 := mul_rg (a := v_ac v s) (A := 100) (b := v_ac v s) (B := 100) (by omega) (by omega) (by omega) (by omega)
        have m2 : offS v y l * offS v y l ≤ (v_ac v s - 1) * (v_ac v s - 1) := Int.mul_le_mul (by omega) (by omega) ho0 (by omega)
        have m3 : 0 ≤ offS v y l * offS v y l := Int.mul_nonneg ho0 ho0
        have m4 : (v_ac v s - 1) * (v_ac v s - 1) = v_ac v s * v_ac v s - 2 * v_ac v s + 1 := by rw [Int.sub_mul, Int.mul_sub]; omega
        obtain ⟨c1, c2, c3, c4⟩ := rtU_spec (n := v_ac v s * v_ac v s - offS v y l * offS v y l) (by omega) (by omega)
        omega
      · omega
    · rename_i hk
      have k6' := k6 hk
      split
      · omega
      · split
        · omega
        · split
          · omega
          · rename_i g1 g2 g3
            have k5' := k5 g3
            have hm1 : v_ac v s * min (l * v_hi v + v_hi v - y) (v_tl v s) ≤ v_ac v s * v_tl v s := Int.mul_le_mul_of_nonneg_left (by omega) (by omega)
            have hm2 : 1 ≤ v_ac v s * min (l * v_hi v + v_hi v - y) (v_tl v s) := by
              have := Int.mul_le_mul (show (1 : Int) ≤ v_ac v s by omega) (show (1 : Int) ≤ min (l * v_hi v + v_hi v - y) (v_tl v s) by omega) (by omega) (by omega)
              omega
            have hd1 : 1 ≤ (v_ac v s * min (l * v_hi v + v_hi v - y) (v_tl v s) + v_tl v s - 1) / v_tl v s := (Int.le_ediv_iff_mul_le (by omega)).mpr (by omega)
            have hd2 : (v_ac v s * min (l * v_hi v + v_hi v - y) (v_tl v s) + v_tl v s - 1) / v_tl v s < v_ac v s + 1 := (Int.ediv_lt_iff_lt_mul (by omega)).mpr (by rw [Int.add_mul]; omega)
            omega
end
