/-! HAND LAYER: states -/
/-- what a state holds, in twenty numbers: x, y, tie of six shapes, the hidden words, the ink -/
def SV (h : PH) (s k : Nat) : Int := if k < 6 then gi h (s + 1) k else if k < 12 then gi h (s + 2) (k - 6) else if k < 18 then gi h (s + 3) (k - 12) else if k = 18 then gi h s 3 else gi h s 4
/-- all outside A is as it was -/
def eqX (A : Nat → Prop) (h h' : PH) : Prop := (∀ q, ¬ A q → ∀ k, gi h' q k = gi h q k) ∧ (∀ q, ¬ A q → ∀ k, gj h' q k = gj h q k) ∧ (∀ q, ¬ A q → ∀ k, gr h' q k = gr h q k)
def inS (s : Nat) : Nat → Prop := fun q => s ≤ q ∧ q ≤ s + 3
theorem eqX.rf {A : Nat → Prop} {h : PH} : eqX A h h := ⟨fun _ _ _ => rfl, fun _ _ _ => rfl, fun _ _ _ => rfl⟩
theorem eqX.tr {A : Nat → Prop} {h1 h2 h3 : PH} (a : eqX A h1 h2) (b : eqX A h2 h3) : eqX A h1 h3 :=
  ⟨fun q z k => (b.1 q z k).trans (a.1 q z k), fun q z k => (b.2.1 q z k).trans (a.2.1 q z k), fun q z k => (b.2.2 q z k).trans (a.2.2 q z k)⟩
theorem eqX.mono {A B : Nat → Prop} {h h' : PH} (a : eqX A h h') (hAB : ∀ q, A q → B q) : eqX B h h' :=
  ⟨fun q z k => a.1 q (fun w => z (hAB q w)) k, fun q z k => a.2.1 q (fun w => z (hAB q w)) k, fun q z k => a.2.2 q (fun w => z (hAB q w)) k⟩
theorem ne_of {A : Nat → Prop} {q p : Nat} (z : ¬ A q) (hp : A p) : ¬ q = p := fun e => z (e ▸ hp)
theorem ne_and {A : Nat → Prop} {q p : Nat} {r : Prop} (z : ¬ A q) (hp : A p) : ¬ (q = p ∧ r) := fun e => z (e.1 ▸ hp)
theorem eqX.si {A : Nat → Prop} {h h' : PH} (a : eqX A h h') {p k : Nat} {v : Int} (hp : A p) : eqX A h (si h' p k v) :=
  ⟨fun q z j => by rw [gi_si, if_neg (ne_and z hp)]; exact a.1 q z j, a.2.1, a.2.2⟩
theorem eqX.sj {A : Nat → Prop} {h h' : PH} (a : eqX A h h') {p k : Nat} {v : Int} (hp : A p) : eqX A h (sj h' p k v) :=
  ⟨a.1, fun q z j => by rw [gj_sj, if_neg (ne_and z hp)]; exact a.2.1 q z j, a.2.2⟩
theorem eqX.sr {A : Nat → Prop} {h h' : PH} (a : eqX A h h') {p k v : Nat} (hp : A p) : eqX A h (sr h' p k v) :=
  ⟨a.1, a.2.1, fun q z j => by rw [sr_gr, if_neg (ne_and z hp)]; exact a.2.2 q z j⟩
theorem eqX.stI {A : Nat → Prop} {h h' : PH} (a : eqX A h h') {p : Nat} {f : Nat → Int} (hp : A p) : eqX A h (stI h' p f) :=
  ⟨fun q z j => by rw [gi_stI, if_neg (ne_of z hp)]; exact a.1 q z j, a.2.1, a.2.2⟩
theorem eqX.stJ {A : Nat → Prop} {h h' : PH} (a : eqX A h h') {p : Nat} {f : Nat → Int} (hp : A p) : eqX A h (stJ h' p f) :=
  ⟨a.1, fun q z j => by rw [gj_stJ, if_neg (ne_of z hp)]; exact a.2.1 q z j, a.2.2⟩
theorem SV_1 {h : PH} {s j : Nat} (hj : j < 6) : SV h s j = gi h (s + 1) j := by unfold SV; rw [if_pos hj]
theorem SV_2 {h : PH} {s j : Nat} (hj : j < 6) : SV h s (6 + j) = gi h (s + 2) j := by unfold SV; rw [if_neg (by omega), if_pos (by omega), show 6 + j - 6 = j by omega]
theorem SV_3 {h : PH} {s j : Nat} (hj : j < 6) : SV h s (12 + j) = gi h (s + 3) j := by unfold SV; rw [if_neg (by omega), if_neg (by omega), if_pos (by omega), show 12 + j - 12 = j by omega]
theorem SV_18 {h : PH} {s : Nat} : SV h s 18 = gi h s 3 := rfl
theorem SV_19 {h : PH} {s : Nat} : SV h s 19 = gi h s 4 := rfl
theorem SV_all {h : PH} {s : Nat} {F : Nat → Int} (h1 : ∀ j, j < 6 → gi h (s + 1) j = F j) (h2 : ∀ j, j < 6 → gi h (s + 2) j = F (6 + j)) (h3 : ∀ j, j < 6 → gi h (s + 3) j = F (12 + j)) (h4 : gi h s 3 = F 18) (h5 : gi h s 4 = F 19) : ∀ k, k < 20 → SV h s k = F k := by
  intro k hk
  by_cases a : k < 6
  · rw [SV_1 a]; exact h1 k a
  · by_cases b : k < 12
    · obtain ⟨j, rfl⟩ : ∃ j, k = 6 + j := ⟨k - 6, by omega⟩
      rw [SV_2 (by omega)]; exact h2 j (by omega)
    · by_cases c : k < 18
      · obtain ⟨j, rfl⟩ : ∃ j, k = 12 + j := ⟨k - 12, by omega⟩
        rw [SV_3 (by omega)]; exact h3 j (by omega)
      · by_cases e : k = 18
        · subst e; exact h4
        · have : k = 19 := by omega
          subst this; exact h5
theorem SV_eq {h h' : PH} {s : Nat} (e : ∀ q, inS s q → ∀ k, gi h' q k = gi h q k) (k : Nat) : SV h' s k = SV h s k := by
  unfold SV
  rw [e (s + 1) ⟨by omega, by omega⟩, e (s + 2) ⟨by omega, by omega⟩, e (s + 3) ⟨by omega, by omega⟩, e s ⟨by omega, by omega⟩, e s ⟨by omega, by omega⟩]
theorem eqX.SV {A : Nat → Prop} {h h' : PH} (a : eqX A h h') {s : Nat} (hs : ∀ q, inS s q → ¬ A q) (k : Nat) : SV h' s k = SV h s k := SV_eq (fun q hq j => a.1 q (hs q hq) j) k
section
variable {d : Nat} {h : PH} {Q : Option PV → PH → Prop}
theorem copy_loop {s t : Nat} (cs : CLf s = 9) (ct : CLf t = 9) (hd : s + 4 ≤ t ∨ t + 4 ≤ s) (hq : ∀ h', (∀ k, k < 20 → SV h' s k = SV h t k) → eqX (inS s) h h' → Q none h') :
    ∀ (n k : Nat) (h1 : PH), k + n = 6 → eqX (inS s) h h1 → (∀ j, j < k → gi h1 (s + 1) j = gi h (t + 1) j ∧ gi h1 (s + 2) j = gi h (t + 2) j ∧ gi h1 (s + 3) j = gi h (t + 3) j) → T2 d mX8_copyFrom 2 [some (vR s), some (vR t), some (vI k)] [] h1 Q := by
  intro n
  induction n with
  | zero =>
    intro k h1 hk hX hj
    refine BX8_copyFrom_2 cs ct ⟨fun _ h2 e2 h3 e3 => ?_, fun z => by omega⟩
    subst e2 e3
    have hk6 : k = 6 := by omega
    subst hk6
    have o3 := hX.1 t (by unfold inS; omega)
    refine hq _ (SV_all (fun j hj6 => ?_) (fun j hj6 => ?_) (fun j hj6 => ?_) ?_ ?_) ((hX.si ⟨by omega, by omega⟩).si ⟨by omega, by omega⟩)
    · rw [gi_si, if_neg (by omega), gi_si, if_neg (by omega), SV_1 hj6]; exact (hj j hj6).1
    · rw [gi_si, if_neg (by omega), gi_si, if_neg (by omega), SV_2 hj6]; exact (hj j hj6).2.1
    · rw [gi_si, if_neg (by omega), gi_si, if_neg (by omega), SV_3 hj6]; exact (hj j hj6).2.2
    · rw [gi_si, if_neg (by omega), gi_si, if_pos ⟨rfl, rfl⟩, SV_18]; exact o3 3
    · rw [gi_si, if_pos ⟨rfl, rfl⟩, gi_si, if_neg (by omega), SV_19]; exact o3 4
  | succ n ih =>
    intro k h1 hk hX hj
    refine BX8_copyFrom_2 cs ct ⟨fun z => by omega, fun _ => ⟨⟨by omega, by omega⟩, ⟨by omega, by omega⟩, fun h2 e2 => ⟨⟨by omega, by omega⟩, ⟨by omega, by omega⟩, fun h3 e3 => ⟨⟨by omega, by omega⟩, ⟨by omega, by omega⟩, fun h4 e4 => ?_⟩⟩⟩⟩
    subst e2 e3 e4
    rw [w32_of (by omega) (by omega), show ((k : Int) + 1) = ((k + 1 : Nat) : Int) by omega]
    refine ih (k + 1) _ (by omega) (((hX.si ⟨by omega, by omega⟩).si ⟨by omega, by omega⟩).si ⟨by omega, by omega⟩) (fun j hjk => ?_)
    have o1 := hX.1 (t + 1) (by unfold inS; omega)
    have o2 := hX.1 (t + 2) (by unfold inS; omega)
    have o3 := hX.1 (t + 3) (by unfold inS; omega)
    simp only [Int.toNat_natCast]
    by_cases e : j = k
    · subst e
      refine ⟨?_, ?_, ?_⟩
      · rw [gi_si, if_neg (by omega), gi_si, if_neg (by omega), gi_si, if_pos ⟨rfl, rfl⟩]; exact o1 j
      · rw [gi_si, if_neg (by omega), gi_si, if_pos ⟨rfl, rfl⟩, gi_si, if_neg (by omega)]; exact o2 j
      · rw [gi_si, if_pos ⟨rfl, rfl⟩, gi_si, if_neg (by omega), gi_si, if_neg (by omega)]; exact o3 j
    · obtain ⟨a1, a2, a3⟩ := hj j (by omega)
      refine ⟨?_, ?_, ?_⟩ <;> (rw [gi_si, if_neg (by omega), gi_si, if_neg (by omega), gi_si, if_neg (by omega)]; assumption)
theorem c_copy {s t : Nat} (cs : CLf s = 9) (ct : CLf t = 9) (hd : s + 4 ≤ t ∨ t + 4 ≤ s) (hq : ∀ h', (∀ k, k < 20 → SV h' s k = SV h t k) → eqX (inS s) h h' → Q none h') : C2 d mX8_copyFrom [vR s, vR t] h Q :=
  EX8_copyFrom (BX8_copyFrom_0 cs ct (copy_loop cs ct hd hq 6 0 h (by omega) eqX.rf (fun j hj => by omega)))
theorem c_clearS {s : Nat} (cs : CLf s = 9) (hq : ∀ h', (∀ k, k < 20 → SV h' s k = if 12 ≤ k ∧ k < 18 then -1 else 0) → eqX (inS s) h h' → Q none h') : C2 (d + 1) mX8_clear [vR s] h Q := by
  refine EX8_clear (BX8_clear_0 cs ?_)
  refine c_fillI (rf_8_0 cs) ⟨rfl, c_fillI (rf_8_1 cs) ⟨rfl, c_fillI (rf_8_2 cs) ⟨rfl, fun h1 e1 h2 e2 => ?_⟩⟩⟩
  subst e1 e2
  rw [rl_8_0 cs, rl_8_1 cs, rl_8_2 cs]
  refine hq _ (SV_all (fun j hj => ?_) (fun j hj => ?_) (fun j hj => ?_) ?_ ?_) (((((eqX.rf.stI ⟨by omega, by omega⟩).stI ⟨by omega, by omega⟩).stI ⟨by omega, by omega⟩).si ⟨by omega, by omega⟩).si ⟨by omega, by omega⟩)
  · rw [gi_si, if_neg (by omega), gi_si, if_neg (by omega), gi_stI, if_neg (by omega), gi_stI, if_neg (by omega), gi_stI, if_pos rfl, if_pos hj, if_neg (by omega)]
  · rw [gi_si, if_neg (by omega), gi_si, if_neg (by omega), gi_stI, if_neg (by omega), gi_stI, if_pos rfl, if_pos hj, if_neg (by omega)]
  · rw [gi_si, if_neg (by omega), gi_si, if_neg (by omega), gi_stI, if_pos rfl, if_pos hj, if_pos (by omega)]
  · rw [gi_si, if_neg (by omega), gi_si, if_pos ⟨rfl, rfl⟩, if_neg (by omega)]
  · rw [gi_si, if_pos ⟨rfl, rfl⟩, if_neg (by omega)]
theorem c_hides {s w : Nat} (cs : CLf s = 9) (hw : w < 32) (hq : Q (some (vI (if bit (gi h s 3) w then 1 else 0))) h) : C2 d mX8_hides [vR s, vI w] h Q := by
  refine EX8_hides fun _ => BX8_hides_0 cs ?_
  rw [bit_ask hw]
  cases hb : bit (gi h s 3) w
  · rw [hb] at hq; exact ⟨fun _ => hq, fun z => by simp at z⟩
  · rw [hb] at hq; exact ⟨fun z => by simp at z, fun _ => hq⟩
end
