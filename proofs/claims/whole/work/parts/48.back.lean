/-! THE CLASS: going on from a state; counting bits -/
def frBk : Nat → Nat → Prop := fun q k => (67 ≤ q ∧ q ≤ 70) ∨ (q = 75 ∧ k = 2) ∨ (q = 64 ∧ (k = 4 ∨ k = 12))
section
variable {d : Nat} {h : PH} {Q : Option PV → PH → Prop}
variable {A : AS} {a : Nat} {pt : Nat → PG}
theorem c_goOn {g : PG} {st : Nat → Int} {b s : Nat} {pa : List (Nat → Int)} (hok : AOK (uP A g st)) (hb : b < 4) (hpt : pt b = g) (hT : gi h 64 1 = A_n A ∧ ∀ i, i < A_n A → gi h 65 i = sb (A_tp A i)) (hf : gi h 218 8 = A_fa A ∧ gi h 218 9 = A_fp A) (hR : RCp h (pg b) g) (cs : CLf s = 9) (hs : 130 ≤ s) (hS : StV h s st) (hP : CPa h pa) (hI : CIm h pt (A_im A)) (ht : CTr h A) (hD : CDr h A) (hq : ∀ h', RCa h' (uP A g st) b pt → fr frBk h h' → Q none h') : C2 (d + 1) mX10_goOnFrom [vR 64, vI (b : Int), vR s] h Q := by
  refine EX10_goOnFrom fun _ => BX10_goOnFrom_0 cs (fun h1 e1 => ?_)
  subst e1
  refine c_copy cl67 cs (by omega) (fun h2 b1 b2 => ⟨rfl, EX4_forget (BX4_forget_0 (fun h3 e3 => ⟨rfl, fun h4 e4 => ?_⟩))⟩)
  subst e3 e4
  have F : fr frBk h (si (si h2 75 2 0) 64 12 0) := by
    refine (((fr.rf.si ?_).tr (b2.fr.mono (fun q k z => ?_))).si ?_).si ?_
    · unfold frBk; omega
    · unfold inS at z; unfold frBk; omega
    · unfold frBk; omega
    · unfold frBk; omega
  obtain ⟨pc, pu, pl⟩ := pg_cl hb
  have G : ∀ q k, 117 ≤ q → gi (si (si h2 75 2 0) 64 12 0) q k = gi h q k := fun q k z => F.1 _ _ (by unfold frBk; omega)
  refine hq _ ⟨hok, ⟨hb, ?_, hpt⟩, ⟨?_, fun i hi => ?_⟩, ⟨?_, ?_⟩, ?_, fun k hk => ?_, ?_, fun i hi => ⟨fun z => ?_, fun gs z => ?_⟩, Or.inl gi_s0, ⟨fun i hi => ?_, fun j hj => ?_⟩, ⟨fun z => ?_, fun z => ?_, fun j hj => ?_⟩⟩ F
  · rw [gi_s2 (by omega), gi_s1 (by omega), b2.1 64 (by unfold inS; omega) 4, gi_s0]
  · rw [F.1 _ _ (by unfold frBk; omega)]; exact hT.1
  · rw [F.1 _ _ (by unfold frBk; omega)]; exact hT.2 i hi
  · rw [G _ _ (by omega)]; exact hf.1
  · rw [G _ _ (by omega)]; exact hf.2
  · rw [hpt]; exact hR.keep (fun q k z1 z2 => G _ _ (by omega))
  · rw [SV_eq (h := h2) (fun q hq2 j => ?_) k, b1 k hk, SV_eq (h := h) (fun q hq2 j => ?_) k]
    · exact hS k hk
    · unfold inS at hq2; exact gi_s1 (by omega)
    · unfold inS at hq2; rw [gi_s1 (by omega), gi_s1 (by omega)]
  · obtain ⟨n, n1, n2, n3, n4⟩ := hP
    refine ⟨n, n1, ?_, ?_, fun i hi => absurd hi (Nat.not_lt_zero i)⟩
    · rw [F.1 _ _ (by unfold frBk; omega)]; exact n2
    · rw [gi_s1 (by omega), gi_s0]; rfl
  · rw [G _ _ (by omega)]; exact (hI i hi).1 z
  · obtain ⟨c, q1, q2, q3, q4, q5⟩ := (hI i hi).2 gs z
    obtain ⟨pc', pu', pl'⟩ := pg_cl q1
    exact ⟨c, q1, by rw [G _ _ (by omega)]; exact q2, q3, q4.keep (fun q k z1 z2 => G _ _ (by omega)), q5.keep (fun q k z1 z2 => G _ _ (by omega))⟩
  · rw [G _ _ (by omega), G _ _ (by omega)]; exact ht.1 i hi
  · rw [F.2.1 _ _ (by unfold frBk; omega)]; exact ht.2 j hj
  · rw [G _ _ (by omega)]; exact hD.1 z
  · rw [G _ _ (by omega), G _ _ (by omega)]; exact hD.2.1 z
  · rw [G _ _ (by omega), G _ _ (by omega)]; exact hD.2.2 j hj
def o_restore (A : AS) (i : Int) : Int × AS := if i < 0 ∨ 2 ≤ i then (-2, A) else match A_im A i.toNat with
  | none => (-5, A)
  | some gs => (0, uP A gs.1 gs.2)
theorem AOK.uP (ok : AOK A) {g : PG} {st : Nat → Int} (h1 : POK g) (h2 : SOK g st) : AOK (uP A g st) := ⟨h1, h2, ⟨fun s hs => absurd hs (by intro z; cases z), Nat.zero_le _⟩, ok.2.2.2.1, ok.2.2.2.2.1, ok.2.2.2.2.2.1, ok.2.2.2.2.2.2⟩
theorem k_restore (X : RC h A) {i : Int} (hq : ∀ h', RC h' (o_restore A i).2 → fr frCl h h' → Q (some (vI (o_restore A i).1)) h') : C2 (d + 2) mX10_restore [vR 64, vI i] h Q := by
  have hX := X
  obtain ⟨a, pt, X⟩ := X
  have no2 : (i < 0 ∨ 2 ≤ i) → Q (some (vI (-2))) h := fun w => by
    have e : o_restore A i = (-2, A) := by unfold o_restore; rw [if_pos w]
    rw [e] at hq; exact hq h hX fr.rf
  refine EX10_restore fun _ => BX10_restore_0 ⟨fun z => no2 (by omega), fun z => ⟨fun y => ⟨⟨z, y⟩, ?_⟩, fun y => no2 (by omega)⟩⟩
  obtain ⟨ok, ⟨a1, a2, a3⟩, c1, d1, e1, f1, g1, im1, s1, t1, u1⟩ := X
  obtain ⟨i1, i2⟩ := im1 i.toNat (by omega)
  cases hI : A_im A i.toNat with
  | none =>
    have e : o_restore A i = (-5, A) := by unfold o_restore; rw [if_neg (by omega), hI]
    rw [e] at hq
    have := i1 hI
    exact ⟨fun w => by omega, fun _ => hq h hX fr.rf⟩
  | some gs =>
    have e : o_restore A i = (0, uP A gs.1 gs.2) := by unfold o_restore; rw [if_neg (by omega), hI]
    rw [e] at hq
    obtain ⟨b, q1, q2, q3, q4, q5⟩ := i2 gs hI
    rw [q2]
    refine ⟨fun _ => ⟨⟨z, y⟩, ⟨z, y⟩, ?_⟩, fun w => by omega⟩
    obtain ⟨o1, o2⟩ := ok.2.2.2.1 _ gs hI
    rw [q3] at q4
    exact c_goOn (pt := pt) (ok.uP o1 o2) q1 q3 c1 d1 q4 (im_cl (by omega)) (by omega) q5 g1 im1 t1 u1 (fun h' X' F' => ⟨rfl, hq h' ⟨b, pt, X'⟩ (F'.mono (fun q k w => by unfold frBk at w; unfold frCl; omega))⟩)
end
