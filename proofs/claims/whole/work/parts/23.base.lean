/-! BASE of the hand layer: reads behind writes, frames of places, bounded loops -/
section
variable {h : PH} {p k q j : Nat} {v : Int}
theorem gi_s0 : gi (si h p k v) p k = v := by rw [gi_si, if_pos ⟨rfl, rfl⟩]
theorem gi_s1 (n : q ≠ p) : gi (si h p k v) q j = gi h q j := by rw [gi_si, if_neg (fun e => n e.1)]
theorem gi_s2 (n : j ≠ k) : gi (si h p k v) q j = gi h q j := by rw [gi_si, if_neg (fun e => n e.2)]
theorem gj_s0 : gj (sj h p k v) p k = v := by rw [gj_sj, if_pos ⟨rfl, rfl⟩]
theorem gj_s1 (n : q ≠ p) : gj (sj h p k v) q j = gj h q j := by rw [gj_sj, if_neg (fun e => n e.1)]
theorem gj_s2 (n : j ≠ k) : gj (sj h p k v) q j = gj h q j := by rw [gj_sj, if_neg (fun e => n e.2)]
theorem gi_f1 {f : Nat → Int} (n : q ≠ p) : gi (stI h p f) q j = gi h q j := by rw [gi_stI, if_neg n]
theorem gi_f0 {f : Nat → Int} : gi (stI h p f) p j = f j := by rw [gi_stI, if_pos rfl]
theorem gj_f1 {f : Nat → Int} (n : q ≠ p) : gj (stJ h p f) q j = gj h q j := by rw [gj_stJ, if_neg n]
theorem gj_f0 {f : Nat → Int} : gj (stJ h p f) p j = f j := by rw [gj_stJ, if_pos rfl]
theorem gr_r0 {v : Nat} : gr (sr h p k v) p k = v := by rw [sr_gr, if_pos ⟨rfl, rfl⟩]
theorem gr_r1 {v : Nat} (n : q ≠ p) : gr (sr h p k v) q j = gr h q j := by rw [sr_gr, if_neg (fun e => n e.1)]
theorem gr_r2 {v : Nat} (n : j ≠ k) : gr (sr h p k v) q j = gr h q j := by rw [sr_gr, if_neg (fun e => n e.2)]
end
/-- all is as it was but at the places of A -/
def fr (A : Nat → Nat → Prop) (h h' : PH) : Prop := (∀ q k, ¬ A q k → gi h' q k = gi h q k) ∧ (∀ q k, ¬ A q k → gj h' q k = gj h q k) ∧ (∀ q k, ¬ A q k → gr h' q k = gr h q k)
theorem fr.rf {A : Nat → Nat → Prop} {h : PH} : fr A h h := ⟨fun _ _ _ => rfl, fun _ _ _ => rfl, fun _ _ _ => rfl⟩
theorem fr.tr {A : Nat → Nat → Prop} {h1 h2 h3 : PH} (a : fr A h1 h2) (b : fr A h2 h3) : fr A h1 h3 :=
  ⟨fun q k z => (b.1 q k z).trans (a.1 q k z), fun q k z => (b.2.1 q k z).trans (a.2.1 q k z), fun q k z => (b.2.2 q k z).trans (a.2.2 q k z)⟩
theorem fr.mono {A B : Nat → Nat → Prop} {h h' : PH} (a : fr A h h') (hAB : ∀ q k, A q k → B q k) : fr B h h' :=
  ⟨fun q k z => a.1 q k (fun w => z (hAB q k w)), fun q k z => a.2.1 q k (fun w => z (hAB q k w)), fun q k z => a.2.2 q k (fun w => z (hAB q k w))⟩
theorem fr_ne {A : Nat → Nat → Prop} {q j p k : Nat} (z : ¬ A q j) (hp : A p k) : ¬ (q = p ∧ j = k) := fun e => z (by rw [e.1, e.2]; exact hp)
theorem fr_ne1 {A : Nat → Nat → Prop} {q j p : Nat} (z : ¬ A q j) (hp : ∀ k, A p k) : ¬ q = p := fun e => z (by rw [e]; exact hp j)
theorem fr.si {A : Nat → Nat → Prop} {h h' : PH} (a : fr A h h') {p k : Nat} {v : Int} (hp : A p k) : fr A h (si h' p k v) :=
  ⟨fun q j z => by rw [gi_si, if_neg (fr_ne z hp)]; exact a.1 q j z, a.2.1, a.2.2⟩
theorem fr.sj {A : Nat → Nat → Prop} {h h' : PH} (a : fr A h h') {p k : Nat} {v : Int} (hp : A p k) : fr A h (sj h' p k v) :=
  ⟨a.1, fun q j z => by rw [gj_sj, if_neg (fr_ne z hp)]; exact a.2.1 q j z, a.2.2⟩
theorem fr.sr {A : Nat → Nat → Prop} {h h' : PH} (a : fr A h h') {p k v : Nat} (hp : A p k) : fr A h (sr h' p k v) :=
  ⟨a.1, a.2.1, fun q j z => by rw [sr_gr, if_neg (fr_ne z hp)]; exact a.2.2 q j z⟩
theorem fr.stI {A : Nat → Nat → Prop} {h h' : PH} (a : fr A h h') {p : Nat} {f : Nat → Int} (hp : ∀ k, A p k) : fr A h (stI h' p f) :=
  ⟨fun q j z => by rw [gi_stI, if_neg (fr_ne1 z hp)]; exact a.1 q j z, a.2.1, a.2.2⟩
theorem fr.stJ {A : Nat → Nat → Prop} {h h' : PH} (a : fr A h h') {p : Nat} {f : Nat → Int} (hp : ∀ k, A p k) : fr A h (stJ h' p f) :=
  ⟨a.1, fun q j z => by rw [gj_stJ, if_neg (fr_ne1 z hp)]; exact a.2.1 q j z, a.2.2⟩
theorem eqX.fr {A : Nat → Prop} {h h' : PH} (a : eqX A h h') : fr (fun q _ => A q) h h' := ⟨fun q k z => a.1 q z k, fun q k z => a.2.1 q z k, fun q k z => a.2.2 q z k⟩
/-! the ranges that come up -/
theorem w32_r {x : Int} (h1 : -2147483648 ≤ x) (h2 : x ≤ 2147483647) : w32 x = x := w32_of h1 (by omega)
theorem toNat_cast (n : Nat) : (n : Int).toNat = n := Int.toNat_natCast n
theorem ex_nat {x : Int} (h : 0 ≤ x) : ∃ n : Nat, x = (n : Int) := ⟨x.toNat, by omega⟩
/-! THE VIEW of a page with a state, as a setting sees it -/
abbrev VW : Type := (Nat × Int × Int × Nat × Nat) × (Nat → Int) × (Nat → Int) × (Nat → Int) × (Nat → Int) × (Nat → Int) × (Nat → Int) × (Nat → Bool) × (Nat → Int) × (Nat → Nat → Int)
def v_ln (v : VW) : Nat := v.1.1
def v_hi (v : VW) : Int := v.1.2.1
def v_le (v : VW) : Int := v.1.2.2.1
def v_S (v : VW) : Nat := v.1.2.2.2.1
def v_W (v : VW) : Nat := v.1.2.2.2.2
def v_kd (v : VW) : Nat → Int := v.2.1
def v_ac (v : VW) : Nat → Int := v.2.2.1
def v_tl (v : VW) : Nat → Int := v.2.2.2.1
def v_x (v : VW) : Nat → Int := v.2.2.2.2.1
def v_y (v : VW) : Nat → Int := v.2.2.2.2.2.1
def v_ti (v : VW) : Nat → Int := v.2.2.2.2.2.2.1
def v_hd (v : VW) : Nat → Bool := v.2.2.2.2.2.2.2.1
def v_wd (v : VW) : Nat → Int := v.2.2.2.2.2.2.2.2.1
def v_gp (v : VW) : Nat → Nat → Int := v.2.2.2.2.2.2.2.2.2
/-- what holds of each view -/
def VOK (v : VW) : Prop := (1 ≤ v_ln v ∧ v_ln v ≤ 20 ∧ 1 ≤ v_hi v ∧ v_hi v ≤ 20 ∧ 1 ≤ v_le v ∧ v_le v ≤ 50 ∧ v_S v ≤ 6 ∧ v_W v ≤ 30) ∧
  (∀ s, s < v_S v → 0 ≤ v_kd v s ∧ v_kd v s ≤ 2 ∧ 1 ≤ v_ac v s ∧ v_ac v s ≤ 200 ∧ (v_kd v s ≠ 0 → v_ac v s ≤ 100) ∧ (v_kd v s ≠ 1 → 1 ≤ v_tl v s ∧ v_tl v s ≤ 200) ∧ 0 ≤ v_tl v s ∧ v_tl v s ≤ 200 ∧ 0 ≤ v_x v s ∧ v_x v s ≤ 200 ∧ 0 ≤ v_y v s ∧ v_y v s ≤ 400 ∧ -1 ≤ v_ti v s ∧ v_ti v s ≤ 29) ∧
  (∀ w, w < v_W v → 1 ≤ v_wd v w ∧ v_wd v w ≤ 200) ∧ (∀ s l, s < v_S v → l < v_ln v → 0 ≤ v_gp v s l ∧ v_gp v s l ≤ 20)
/-- the least number up to k whose square is n or more -/
def rtR (n : Int) : Nat → Nat
  | 0 => 0
  | k + 1 => if n ≤ (k : Int) * k then rtR n k else k + 1
theorem rtR_spec {n : Int} : ∀ k : Nat, n ≤ (k : Int) * k → n ≤ (rtR n k : Int) * (rtR n k : Int) ∧ rtR n k ≤ k ∧ ∀ j : Nat, j < rtR n k → (j : Int) * j < n := by
  intro k
  induction k with
  | zero => intro h; exact ⟨h, Nat.le_refl _, fun j hj => absurd hj (Nat.not_lt_zero j)⟩
  | succ k ih =>
    intro h
    unfold rtR
    split
    · rename_i hk
      obtain ⟨a, b, c⟩ := ih hk
      exact ⟨a, by omega, c⟩
    · rename_i hk
      refine ⟨h, Nat.le_refl _, fun j hj => ?_⟩
      have h1 : (j : Int) ≤ k := by omega
      have h2 : (j : Int) * j ≤ (k : Int) * k := Int.mul_le_mul h1 h1 (by omega) (by omega)
      omega
def rtU (n : Int) : Int := (rtR n 100 : Nat)
theorem rtU_spec {n : Int} (h1 : 1 ≤ n) (h2 : n ≤ 10000) : n ≤ rtU n * rtU n ∧ 1 ≤ rtU n ∧ rtU n ≤ 100 ∧ (rtU n - 1) * (rtU n - 1) < n := by
  obtain ⟨a, b, c⟩ := rtR_spec (n := n) 100 (by omega)
  unfold rtU
  have h3 : rtR n 100 ≠ 0 := by
    intro e; rw [e] at a; omega
  obtain ⟨m, hm⟩ : ∃ m, rtR n 100 = m + 1 := ⟨rtR n 100 - 1, by omega⟩
  have h4 := c m (by omega)
  rw [hm] at a ⊢
  refine ⟨a, by omega, by omega, ?_⟩
  rw [show ((m + 1 : Nat) : Int) - 1 = (m : Int) by omega]
  exact h4
theorem rtU_uniq {n m : Int} (h1 : 1 ≤ n) (h2 : n ≤ 10000) (h3 : 1 ≤ m) (a : n ≤ m * m) (b : (m - 1) * (m - 1) < n) : rtU n = m := by
  obtain ⟨c1, c2, c3, c4⟩ := rtU_spec h1 h2
  rcases Int.lt_trichotomy (rtU n) m with h | h | h
  · exfalso
    have : rtU n * rtU n ≤ (m - 1) * (m - 1) := Int.mul_le_mul (by omega) (by omega) (by omega) (by omega)
    omega
  · exact h
  · exfalso
    have : m * m ≤ (rtU n - 1) * (rtU n - 1) := Int.mul_le_mul (by omega) (by omega) (by omega) (by omega)
    omega
/-- how far a shape reaches in a line -/
def offS (v : VW) (y : Int) (l : Nat) : Int := if y < l * v_hi v then l * v_hi v - y else if l * v_hi v + v_hi v < y then y - (l * v_hi v + v_hi v) else 0
def rch (v : VW) (s : Nat) (y : Int) (l : Nat) : Int :=
  if y < 0 then -1 else if v_kd v s = 1 then (if offS v y l < v_ac v s then rtU (v_ac v s * v_ac v s - offS v y l * offS v y l) else -1)
  else if l * v_hi v + v_hi v ≤ y then -1 else if y + v_tl v s ≤ l * v_hi v then -1 else if v_kd v s = 0 then v_ac v s
  else (v_ac v s * min (l * v_hi v + v_hi v - y) (v_tl v s) + v_tl v s - 1) / v_tl v s
def spL (v : VW) (s l : Nat) (r : Int) : Int := (if v_kd v s = 0 then v_x v s else v_x v s - r) - v_gp v s l
def spR (v : VW) (s l : Nat) (r : Int) : Int := v_x v s + r + v_gp v s l
/-- the spans of the first n shapes, at these heights, in a line -/
def spl (v : VW) (ht : Nat → Int) (l : Nat) : Nat → List (Int × Int)
  | 0 => []
  | n + 1 => spl v ht l n ++ (if rch v n (ht n) l < 0 then [] else [(spL v n l (rch v n (ht n) l), spR v n l (rch v n (ht n) l))])
theorem spl_len (v : VW) (ht : Nat → Int) (l n : Nat) : (spl v ht l n).length ≤ n := by
  induction n with
  | zero => exact Nat.le_refl _
  | succ n ih => unfold spl; split <;> simp <;> omega
def covB (bs : List (Int × Int)) (p : Int) : Bool := bs.any (fun b => decide (b.1 ≤ p) && decide (p < b.2))
/-- the free stretches, from point p on, for f points; s: where the stretch began that is open -/
def scn (cov : Int → Bool) (le : Int) : Nat → Int → Option Int → List (Int × Int)
  | 0, _, none => []
  | 0, p, some s => if le ≤ p - s then [(s, p)] else []
  | f + 1, p, none => if cov p then scn cov le f (p + 1) none else scn cov le f (p + 1) (some p)
  | f + 1, p, some s => if cov p then (if le ≤ p - s then (s, p) :: scn cov le f (p + 1) none else scn cov le f (p + 1) none) else scn cov le f (p + 1) (some s)
theorem scn_n (cov : Int → Bool) (le : Int) (f : Nat) (p : Int) : scn cov le (f + 1) p none = if cov p then scn cov le f (p + 1) none else scn cov le f (p + 1) (some p) := rfl
theorem scn_s (cov : Int → Bool) (le : Int) (f : Nat) (p s : Int) : scn cov le (f + 1) p (some s) = if cov p then (if le ≤ p - s then (s, p) :: scn cov le f (p + 1) none else scn cov le f (p + 1) none) else scn cov le f (p + 1) (some s) := rfl
theorem scn_free {cov : Int → Bool} {le : Int} (f : Nat) : ∀ (k : Nat) (p s : Int), (∀ q, p ≤ q → q < p + k → cov q = false) → scn cov le (k + f) p (some s) = scn cov le f (p + k) (some s) := by
  intro k
  induction k with
  | zero => intro p s _; simp
  | succ k ih =>
    intro p s h
    rw [show k + 1 + f = (k + f) + 1 by omega]
    rw [scn_s]
    rw [h p (by omega) (by omega)]
    have := ih (p + 1) s (fun q h1 h2 => h q (by omega) (by omega))
    rw [show p + ((k + 1 : Nat) : Int) = p + 1 + (k : Int) by omega]
    simpa using this
theorem scn_free0 {cov : Int → Bool} {le : Int} (f k : Nat) (p : Int) (h : ∀ q, p ≤ q → q < p + (k + 1 : Nat) → cov q = false) : scn cov le (k + 1 + f) p none = scn cov le f (p + (k + 1 : Nat)) (some p) := by
  rw [show k + 1 + f = (k + f) + 1 by omega]
  rw [scn_n]
  rw [h p (by omega) (by omega), scn_free f k (p + 1) p (fun q h1 h2 => h q (by omega) (by omega))]
  rw [show p + ((k + 1 : Nat) : Int) = p + 1 + (k : Int) by omega]
  simp
theorem scn_cov {cov : Int → Bool} {le : Int} (f : Nat) : ∀ (k : Nat) (p : Int), (∀ q, p ≤ q → q < p + k → cov q = true) → scn cov le (k + f) p none = scn cov le f (p + k) none := by
  intro k
  induction k with
  | zero => intro p _; simp
  | succ k ih =>
    intro p h
    rw [show k + 1 + f = (k + f) + 1 by omega]
    rw [scn_n]
    rw [h p (by omega) (by omega)]
    have := ih (p + 1) (fun q h1 h2 => h q (by omega) (by omega))
    rw [show p + ((k + 1 : Nat) : Int) = p + 1 + (k : Int) by omega]
    simpa using this
theorem scn_cov1 {cov : Int → Bool} {le : Int} (f k : Nat) (p s : Int) (h : ∀ q, p ≤ q → q < p + (k + 1 : Nat) → cov q = true) : scn cov le (k + 1 + f) p (some s) = (if le ≤ p - s then [(s, p)] else []) ++ scn cov le f (p + (k + 1 : Nat)) none := by
  rw [show k + 1 + f = (k + f) + 1 by omega]
  rw [scn_s]
  rw [h p (by omega) (by omega), scn_cov f k (p + 1) (fun q h1 h2 => h q (by omega) (by omega))]
  rw [show p + ((k + 1 : Nat) : Int) = p + 1 + (k : Int) by omega, if_pos rfl]
  split <;> rfl
/-- a step: free from a to b, covered from b to c; in points that count up to w -/
theorem scn_step {cov : Int → Bool} {le : Int} (hle : 1 ≤ le) {a b c w : Int} (hab : a ≤ b) (hbc : b ≤ c) (hbw : b ≤ w) (h1 : ∀ q, a ≤ q → q < b → cov q = false) (h2 : ∀ q, b ≤ q → q < c → q < w → cov q = true) (hcb : b < c ∨ w ≤ b) :
    scn cov le (w - a).toNat a none = (if le ≤ b - a then [(a, b)] else []) ++ scn cov le (w - c).toNat (min c w) none := by
  obtain ⟨k1, hk1⟩ := ex_nat (x := b - a) (by omega)
  rcases Int.lt_or_le b w with hw | hw
  · obtain ⟨k2, hk2⟩ := ex_nat (x := min c w - b) (by omega)
    have hk2p : k2 ≠ 0 := by omega
    obtain ⟨k3, rfl⟩ : ∃ k3, k2 = k3 + 1 := ⟨k2 - 1, by omega⟩
    have e1 : (w - a).toNat = k1 + ((k3 + 1) + (w - c).toNat) := by omega
    rcases Nat.eq_zero_or_pos k1 with z | z
    · subst z
      rw [e1, Nat.zero_add, if_neg (by omega), List.nil_append, scn_cov _ (k3 + 1) a (fun q q1 q2 => h2 q (by omega) (by omega) (by omega))]
      rw [show a + ((k3 + 1 : Nat) : Int) = min c w by omega]
    · obtain ⟨k4, rfl⟩ : ∃ k4, k1 = k4 + 1 := ⟨k1 - 1, by omega⟩
      rw [e1, scn_free0 _ k4 a (fun q q1 q2 => h1 q (by omega) (by omega)), show a + ((k4 + 1 : Nat) : Int) = b by omega, scn_cov1 _ k3 b a (fun q q1 q2 => h2 q (by omega) (by omega) (by omega))]
      rw [show b + ((k3 + 1 : Nat) : Int) = min c w by omega]
  · have e1 : (w - a).toNat = k1 + 0 := by omega
    have e2 : (w - c).toNat = 0 := by omega
    rw [e2, e1]
    rcases Nat.eq_zero_or_pos k1 with z | z
    · subst z
      rw [if_neg (by omega)]; simp [scn]
    · obtain ⟨k4, rfl⟩ : ∃ k4, k1 = k4 + 1 := ⟨k1 - 1, by omega⟩
      rw [scn_free0 _ k4 a (fun q q1 q2 => h1 q (by omega) (by omega)), show a + ((k4 + 1 : Nat) : Int) = b by omega]
      simp [scn]
/-- the slots of a line of this width, by its spans -/
def cutS (wi le : Int) (bs : List (Int × Int)) : List (Int × Int) := scn (covB bs) le wi.toNat 0 none
