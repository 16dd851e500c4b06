/-! THE CLASS: clashing -/
def aR (A : AS) : Nat := fR (A_v A) (A_w A) (-1)
def aBk (A : AS) : Int := (setR (A_v A) (A_w A) (-1)).2.2
def crow (A : AS) (a s : Nat) : Int := trl (A_v A) (A_w A) (-1) a s
def clsh (A : AS) (s : Nat) : Bool := anyF (fun j => decide (crow A ((aBk A).toNat + 1 + j) s ≠ crow A (aBk A).toNat s)) (aR A - ((aBk A).toNat + 1))
def r_clash (A : AS) : Int := if aBk A < 0 then 0 else bitsF (clsh A) (g_S (A_g A))
theorem ior_tw (b x : Int) : ior (ior b x) x = ior b x := by
  refine bit_ext (R32_ior _ _) (R32_ior _ _) (fun i hi => ?_)
  rw [bit_ior, bit_ior]
  cases bit b i <;> cases bit x i <;> rfl
theorem resS_bk (v : VW) (wi asd : Int) (k : Nat) : (resS v wi asd k).2 = -1 ∨ (0 ≤ (resS v wi asd k).2 ∧ (resS v wi asd k).2 < k) := by
  unfold resS
  split
  · exact Or.inl rfl
  · split
    · exact Or.inl rfl
    · rcases fst_rg (alk v wi asd k) (k - 1) 0 with z | z
      · exact Or.inl z
      · exact Or.inr ⟨z.1, by have := z.2; show fst _ _ _ < _; omega⟩
theorem srS_bk (v : VW) (wi asd : Int) : ∀ n k : Nat, (srS v wi asd n k).2.2 = -1 ∨ (0 ≤ (srS v wi asd n k).2.2 ∧ (srS v wi asd n k).2.2 < (srS v wi asd n k).1) := by
  intro n
  induction n with
  | zero => intro k; exact resS_bk v wi asd k
  | succ n ih =>
    intro k
    unfold srS
    split
    · exact ih (k + 1)
    · exact resS_bk v wi asd k
theorem aBk_rg (A : AS) : aBk A = -1 ∨ (0 ≤ aBk A ∧ aBk A < aR A) := by
  unfold aBk aR fR setR
  split
  · exact srS_bk _ _ _ _ _
  · exact Or.inl rfl
theorem ix6 {k s : Nat} (hk : k ≤ 1000) (hs : s ≤ 1000) : w32 (w32 ((k : Int) * 6) + (s : Int)) = ((6 * k + s : Nat) : Int) := by
  rw [w32_r (x := (k : Int) * 6) (by omega) (by omega), w32_r (by omega) (by omega)]; omega
section
variable {d : Nat} {h : PH} {Q : Option PV → PH → Prop}
variable {A : AS} {a : Nat} {pt : Nat → PG}
theorem cl_in (N : NW h A a) (hb : 0 ≤ aBk A) {s : Nat} (hs : s < g_S (A_g A)) (hs6 : s < 6) {B : Int} (hq : ∀ x, x = (if clsh A s then ior B (ishl 1 (s : Int)) else B) → T2 d mX6_clashing 13 [some (vR 219), some (vI x), some (vI ((s + 1 : Nat) : Int)), none] [] h Q) :
    ∀ m j : Nat, j + m = aR A - ((aBk A).toNat + 1) → T2 d mX6_clashing 31 [some (vR 219), some (vI (if anyF (fun j => decide (crow A ((aBk A).toNat + 1 + j) s ≠ crow A (aBk A).toNat s)) j then ior B (ishl 1 (s : Int)) else B)), some (vI (s : Int)), some (vI (((aBk A).toNat + 1 + j : Nat) : Int))] [] h Q := by
  obtain ⟨S, ⟨⟨r1, -, r3, r4⟩, -, r6⟩, -⟩ := N
  have rb := aBk_rg A
  have r60 : aR A ≤ 60 := fR_le _ _ _
  have e10 : gi h 219 10 = (aR A : Int) := r4
  have e12 : gi h 219 12 = aBk A := r6
  have e13 : ∀ k, k ≤ aR A → gi h 232 (6 * k + s) = crow A k s := fun k hk => r3 k hk s hs
  intro m
  induction m with
  | zero =>
    intro j hj
    refine BX6_clashing_31 cl219 ?_
    rw [e10]
    refine ⟨fun _ => ?_, fun z => by omega⟩
    rw [w32_r (by omega) (by omega), show ((s : Int) + 1) = ((s + 1 : Nat) : Int) by omega]
    refine hq _ ?_
    unfold clsh
    rw [show j = aR A - ((aBk A).toNat + 1) by omega]
  | succ m ih =>
    intro j hj
    have hj2 := ih (j + 1) (by omega)
    refine BX6_clashing_31 cl219 ?_
    rw [e10, e12]
    have eb : aBk A = (((aBk A).toNat : Nat) : Int) := by omega
    rw [ix6 (k := (aBk A).toNat + 1 + j) (by omega) (by omega), show w32 (w32 (aBk A * 6) + (s : Int)) = ((6 * (aBk A).toNat + s : Nat) : Int) from by rw [eb, Int.toNat_natCast]; exact ix6 (by omega) (by omega)]
    refine ⟨fun z => by omega, fun _ => ⟨⟨by omega, by omega⟩, ⟨by omega, by omega⟩, ?_⟩⟩
    try simp only [Int.toNat_natCast]
    rw [e13 _ (by omega), e13 _ (by omega), w32_r (by omega) (by omega), show (((aBk A).toNat + 1 + j : Nat) : Int) + 1 = (((aBk A).toNat + 1 + (j + 1) : Nat) : Int) by omega]
    unfold anyF at hj2
    refine ⟨fun z => ?_, fun z => ?_⟩
    · rw [show decide (crow A ((aBk A).toNat + 1 + j) s ≠ crow A (aBk A).toNat s) = false from decide_eq_false (fun w => w z), Bool.or_false] at hj2
      exact hj2
    · rw [show decide (crow A ((aBk A).toNat + 1 + j) s ≠ crow A (aBk A).toNat s) = true from decide_eq_true z, Bool.or_true, if_pos rfl] at hj2
      have e : ior (if anyF (fun j => decide (crow A ((aBk A).toNat + 1 + j) s ≠ crow A (aBk A).toNat s)) j then ior B (ishl 1 (s : Int)) else B) (ishl 1 (s : Int)) = ior B (ishl 1 (s : Int)) := by
        split
        · exact ior_tw _ _
        · rfl
      rw [e]; exact hj2
theorem cl_out (X : RCa h A a pt) (N : NW h A a) (hb : 0 ≤ aBk A) (hq : Q (some (vI (bitsF (clsh A) (g_S (A_g A))))) h) :
    ∀ m s : Nat, s + m = g_S (A_g A) → T2 d mX6_clashing 13 [some (vR 219), some (vI (bitsF (clsh A) s)), some (vI (s : Int)), none] [] h Q := by
  obtain ⟨okg, oks, hR, hS, pc, pu, pl⟩ := X.okg
  have o1 := okg.1
  have g0 : gr h 219 0 = pg a := N.1.2.1.1
  have e12 : gi h 219 12 = aBk A := N.2.1.2.2
  have rb := aBk_rg A
  have r60 : aR A ≤ 60 := fR_le _ _ _
  intro m
  induction m with
  | zero =>
    intro s hs
    refine BX6_clashing_13 cl219 ?_
    rw [g0, hR.1.2.2.2.2.2.1]
    refine ⟨fun _ => ?_, fun z => by omega⟩
    rw [show s = g_S (A_g A) by omega]; exact hq
  | succ m ih =>
    intro s hs
    refine BX6_clashing_13 cl219 ?_
    rw [g0, hR.1.2.2.2.2.2.1, e12]
    refine ⟨fun z => by omega, fun _ => ?_⟩
    rw [w32_r (by omega) (by omega), show aBk A + 1 = (((aBk A).toNat + 1 + 0 : Nat) : Int) by omega]
    refine cl_in N hb (s := s) (by omega) (by omega) (B := bitsF (clsh A) s) (fun x hx => ?_) (aR A - ((aBk A).toNat + 1)) 0 (by omega)
    have := ih (s + 1) (by omega)
    unfold bitsF at this
    rw [hx]; exact this
theorem k_clash (X : RC h A) (hq : ∀ h', RC h' A → fr frCl h h' → Q (some (vI (r_clash A))) h') : C2 (d + 6) mX10_clash [vR 64] h Q := by
  obtain ⟨a, pt, X⟩ := X
  refine EX10_clash (BX10_clash_0 (c_setting X (fun h1 X1 N1 F1 => ⟨cl219, ?_⟩)))
  have h2 := hq h1 ⟨a, pt, X1⟩ F1
  have e12 : gi h1 219 12 = aBk A := N1.2.1.2.2
  unfold r_clash at h2
  refine EX6_clashing (BX6_clashing_0 cl219 ?_)
  rw [e12]
  refine ⟨fun z => ?_, fun z => ?_⟩
  · rw [if_neg (by omega)] at h2
    exact cl_out X1 N1 z (fun _ => h2) (g_S (A_g A)) 0 (by omega)
  · rw [if_pos z] at h2
    exact fun _ => h2
end
