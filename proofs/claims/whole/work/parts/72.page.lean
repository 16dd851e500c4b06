/-! THE CLASS: page -/
def uF (A : AS) (k : Int) (p : Int) : AS := ((0, A_tp A), (k, p), A.2.2)
def o_page (A : AS) (n : Int) : Int × AS := if n < 0 ∨ (A_n A : Int) < n then (-3, A) else match parse (A_tp A) n.toNat with
  | .ok r => (g_to r.1, uP (uF A 0 (-1)) r.1 r.2)
  | .error e => (w32 (-30 - e.1), uF A e.1 e.2)
section
variable {d : Nat} {h : PH} {Q : Option PV → PH → Prop}
variable {A : AS} {a : Nat} {pt : Nat → PG}
theorem spare_loop {x0 x1 : Int} (hx0 : gi h 117 0 = x0) (hx1 : gi h 117 1 = x1) (ha : gi h 64 4 = (a : Int)) (hq : ∀ b : Nat, b < 4 → b ≠ a → (b : Int) ≠ x0 → (b : Int) ≠ x1 → Q (some (vI (b : Int))) h) : ∀ (m j c : Nat), j + m = 4 → ((c < 4 ∧ c ≠ a ∧ (c : Int) ≠ x0 ∧ (c : Int) ≠ x1) ∨ (∀ i : Nat, i < j → i = a ∨ (i : Int) = x0 ∨ (i : Int) = x1)) → T2 d mX10_sparePage 4 [some (vR 64), some (vI (c : Int)), some (vI (j : Int))] [] h Q := by
  intro m
  induction m with
  | zero =>
    intro j c hj hc
    refine BX10_sparePage_4 ⟨fun _ => ?_, fun z => by omega⟩
    rcases hc with z | z
    · exact hq c z.1 z.2.1 z.2.2.1 z.2.2.2
    · exfalso
      have z0 := z 0 (by omega)
      have z1 := z 1 (by omega)
      have z2 := z 2 (by omega)
      have z3 := z 3 (by omega)
      omega
  | succ m ih =>
    intro j c hj hc
    refine BX10_sparePage_4 ⟨fun z => by omega, fun _ => ?_⟩
    rw [ha, hx0, hx1, w32_r (by omega) (by omega), show (j : Int) + 1 = ((j + 1 : Nat) : Int) by omega]
    have no : (j : Int) = a ∨ (j : Int) = x0 ∨ (j : Int) = x1 → T2 d mX10_sparePage 4 [some (vR 64), some (vI (c : Int)), some (vI ((j + 1 : Nat) : Int))] [] h Q := fun z => ih (j + 1) c (by omega) (by
      rcases hc with y | y
      · exact Or.inl y
      · refine Or.inr (fun i hi => ?_)
        by_cases e : i = j
        · subst e; omega
        · exact y i (by omega))
    refine ⟨fun z => no (Or.inl z), fun z => ⟨fun y => no (Or.inr (Or.inl y)), fun y => ⟨fun w => no (Or.inr (Or.inr w)), fun w => ?_⟩⟩⟩
    exact ih (j + 1) j (by omega) (Or.inl ⟨by omega, by omega, y, w⟩)
theorem c_sparePage (ha : gi h 64 4 = (a : Int)) (hq : ∀ b : Nat, b < 4 → b ≠ a → (b : Int) ≠ gi h 117 0 → (b : Int) ≠ gi h 117 1 → Q (some (vI (b : Int))) h) : C2 d mX10_sparePage [vR 64] h Q :=
  EX10_sparePage (BX10_sparePage_0 (spare_loop rfl rfl ha hq 4 0 0 (by omega) (Or.inr (fun i hi => absurd hi (Nat.not_lt_zero i)))))
theorem pg_all {b : Nat} (h : b < 4) : (CLf (pg b) = 4 ∧ CLf (pg b + 6) = 9) ∧ CLf (pg b + 10) = 3 ∧ CLf (pg b + 14) = 3 ∧ (CLf (pg b + 2) = 20 ∧ LNf (pg b + 2) = 6) ∧ CLf (pg b + 3) = 20 ∧ LNf (pg b + 3) = 6 := by
  have : b = 0 ∨ b = 1 ∨ b = 2 ∨ b = 3 := by omega
  rcases this with rfl | rfl | rfl | rfl <;> exact ⟨⟨by decide, by decide⟩, by decide, by decide, ⟨by decide, by decide⟩, by decide, by decide⟩
/-- the spare page was read into, and no more -/
theorem RCa.spare {h h' : PH} {b : Nat} {k : Int} {p : Int} (x : RCa h A a pt) (hb : b < 4) (hba : b ≠ a) (hb0 : (b : Int) ≠ gi h 117 0) (hb1 : (b : Int) ≠ gi h 117 1) (hF : fr (fun q i => frPg (pg b) q i ∨ (q = 64 ∧ i = 1)) h h') (h1 : gi h' 64 1 = 0) (h8 : gi h' 218 8 = k) (h9 : gi h' 218 9 = p) : AOK (uF A k p) ∧ RCa h' (uF A k p) a pt ∧ CIm h' (fun i => pt i) (A_im A) ∧ ∀ g, CIm h' (fun i => if i = b then g else pt i) (A_im A) := by
  obtain ⟨ok, ⟨a1, a2, a3⟩, ⟨b1, b2⟩, ⟨c1, c2⟩, d1, e1', f1, g1, s1, t1, u1⟩ := x
  obtain ⟨pc, pu, pl⟩ := pg_cl a1
  obtain ⟨pc2, pu2, pl2⟩ := pg_cl hb
  have pga : pg a = 130 + 20 * a := rfl
  have pgb : pg b = 130 + 20 * b := rfl
  have okU : AOK (uF A k p) := ⟨ok.1, ok.2.1, ok.2.2.1, ok.2.2.2.1, ⟨Nat.zero_le _, ok.2.2.2.2.1.2⟩, ok.2.2.2.2.2⟩
  have N : ∀ q i, q ≠ 218 → ¬ (pg b ≤ q ∧ q ≤ pg b + 19) → ¬ (q = 64 ∧ i = 1) → ¬ (frPg (pg b) q i ∨ (q = 64 ∧ i = 1)) := fun q i z1 z2 z3 z => by unfold frPg at z; omega
  have G : ∀ q i, q ≠ 218 → ¬ (pg b ≤ q ∧ q ≤ pg b + 19) → ¬ (q = 64 ∧ i = 1) → gi h' q i = gi h q i := fun q i z1 z2 z3 => hF.1 _ _ (N q i z1 z2 z3)
  have cim : ∀ g, CIm h' (fun i => if i = b then g else pt i) (A_im A) := by
    intro g i hi
    refine ⟨fun z => ?_, fun gs z => ?_⟩
    · rw [G _ _ (by omega) (by omega) (by omega)]; exact (g1 i hi).1 z
    · obtain ⟨b', q1, q2, q3, q4, q5⟩ := (g1 i hi).2 gs z
      have ne : b' ≠ b := fun e => by
        subst e
        have : i = 0 ∨ i = 1 := by omega
        rcases this with rfl | rfl
        · exact hb0 q2.symm
        · exact hb1 q2.symm
      have pgb' : pg b' = 130 + 20 * b' := rfl
      refine ⟨b', q1, by rw [G _ _ (by omega) (by omega) (by omega)]; exact q2, ?_, ?_, q5.keep (fun q k z1 z2 => G _ _ (by omega) (by omega) (by omega))⟩
      · dsimp only
        rw [if_neg ne]; exact q3
      · dsimp only
        rw [if_neg ne]; exact q4.keep (fun q k z1 z2 => G _ _ (by omega) (by omega) (by omega))
  have cim0 : CIm h' pt (A_im A) := by
    have := cim (pt b)
    have e : (fun i => if i = b then pt b else pt i) = pt := by
      funext i
      split
      · rename_i z; rw [z]
      · rfl
    rw [e] at this
    exact this
  refine ⟨okU, ⟨okU, ⟨a1, by rw [G _ _ (by omega) (by omega) (by omega)]; exact a2, a3⟩, ⟨h1, fun i hi => absurd hi (Nat.not_lt_zero i)⟩, ⟨h8, h9⟩, d1.keep (fun q k z1 z2 => G _ _ (by omega) (by omega) (by omega)), e1'.keep (fun q k z1 z2 => G _ _ (by omega) (by omega) (by omega)), ?_, cim0, ?_, ⟨fun i hi => ⟨fun z => ?_, fun z => ?_⟩, fun j hj => ?_⟩, ⟨fun z => ?_, fun z => ?_, fun j hj => ?_⟩⟩, cim0, cim⟩
  · obtain ⟨n, m1, m2, m3, m4⟩ := f1
    exact ⟨n, m1, by rw [G _ _ (by omega) (by omega) (by omega)]; exact m2, by rw [G _ _ (by omega) (by omega) (by omega)]; exact m3, fun i hi => (m4 i hi).keep (fun q k z1 z2 => G _ _ (by omega) (by omega) (by omega))⟩
  · rcases s1 with z | ⟨z0, z1, z2, z3, z4, z5⟩
    · left; rw [G _ _ (by omega) (by omega) (by omega)]; exact z
    · right
      have e219 : ∀ q k, 219 ≤ q → gi h' q k = gi h q k := fun q k y1 => G _ _ (by omega) (by omega) (by omega)
      obtain ⟨x1, ⟨x2, x3, x4⟩, x5, x6, x7⟩ := z1
      have k1 : bit (gi h' (pg a) 17) (A_st A 19).toNat = true := by rw [G _ _ (by omega) (by omega) (by omega)]; exact z4
      have k2 : bit (gi h' (pg a) 18) (A_st A 19).toNat = true := by rw [G _ _ (by omega) (by omega) (by omega)]; exact z5
      refine ⟨by rw [G _ _ (by omega) (by omega) (by omega)]; exact z0, ⟨x1, ⟨?_, ?_, ?_⟩, vcl_of (by show RCp h' (pg a) (A_g A); rw [← a3]; exact d1.keep (fun q k z1 z2 => G _ _ (by omega) (by omega) (by omega))) (e1'.keep (fun q k z1 z2 => G _ _ (by omega) (by omega) (by omega))) ok.2.1 ok.1 k1 k2, x6, x7⟩, z2.keep (fun q k y1 y2 => e219 q k y1), z3.keep (fun q k y => e219 q k (by omega)), k1, k2⟩
      · rw [hF.2.2 _ _ (N _ _ (by omega) (by omega) (by omega))]; exact x2
      · rw [hF.2.2 _ _ (N _ _ (by omega) (by omega) (by omega))]; exact x3
      · rw [e219 _ _ (by omega)]; exact x4
  · rw [G _ _ (by omega) (by omega) (by omega)]; exact (t1.1 i hi).1 z
  · rw [G _ _ (by omega) (by omega) (by omega), G _ _ (by omega) (by omega) (by omega)]; exact (t1.1 i hi).2 z
  · rw [hF.2.1 _ _ (N _ _ (by omega) (by omega) (by omega))]; exact t1.2 j hj
  · rw [G _ _ (by omega) (by omega) (by omega)]; exact u1.1 z
  · rw [G _ _ (by omega) (by omega) (by omega), G _ _ (by omega) (by omega) (by omega)]; exact u1.2.1 z
  · rw [G _ _ (by omega) (by omega) (by omega), G _ _ (by omega) (by omega) (by omega)]; exact u1.2.2 j hj
theorem k_page (X : RC h A) {x : Int} (hq : ∀ h', RC h' (o_page A x).2 → fr frCl h h' → Q (some (vI (o_page A x).1)) h') : C2 (d + 55) mX10_page [vR 64, vI x] h Q := by
  have hX := X
  obtain ⟨a, pt, X⟩ := X
  obtain ⟨b1, b2⟩ := X.2.2.1
  have o5 := X.1.2.2.2.2.1
  unfold o_page at hq
  refine EX10_page fun _ => BX10_page_0 ⟨fun z => ?_, fun z => ?_⟩
  · rw [if_pos (Or.inl z)] at hq; exact hq h hX fr.rf
  rw [b1]
  refine And.symm ⟨fun y => ?_, fun y => ?_⟩
  · rw [if_pos (Or.inr y)] at hq; exact hq h hX fr.rf
  rw [if_neg (by omega)] at hq
  obtain ⟨n, hn⟩ := ex_nat z
  subst hn
  try simp only [Int.toNat_natCast]
  simp only [Int.toNat_natCast] at hq
  refine c_sparePage X.2.1.2.1 (fun b hb hba hb0 hb1 _ => ?_)
  obtain ⟨pc2, pu2, pl2⟩ := pg_cl hb
  obtain ⟨q1, q2⟩ := pg_all hb
  have pgb : pg b = 130 + 20 * b := rfl
  refine ⟨⟨by omega, by omega⟩, ?_⟩
  try simp only [Int.toNat_natCast]
  rw [← pgb]
  have TP : TPc h (A_tp A) n := ⟨by omega, o5.2, fun i hi => b2 i (by omega)⟩
  refine g_read (d := d) TP q1 ⟨pl2, pu2⟩ q2 (fun h1 y1 f1 => ⟨rfl, fun h2 e2 => ?_⟩)
  have F2 : fr (fun q i => frPg (pg b) q i ∨ (q = 64 ∧ i = 1)) h h2 := by subst e2; exact (f1.mono (fun q k z => Or.inl z)).si (Or.inr ⟨rfl, rfl⟩)
  have m1 : gi h2 64 1 = 0 := by subst e2; exact gi_s0
  have m2 : ∀ k, gi h2 218 k = gi h1 218 k := fun k => by subst e2; exact gi_s1 (by omega)
  have m3 : ∀ q k, q ≠ 64 → gi h2 q k = gi h1 q k := fun q k z => by subst e2; exact gi_s1 z
  have FC : fr frCl h h2 := F2.mono (fun q k z => by unfold frPg at z; unfold frCl; omega)
  generalize hr : bq (bq (nxt (A_tp A) n (26, 0, 0, 0)) (headP (A_tp A) n)) (linesP (A_tp A) n 900) = r at y1
  have ep : parse (A_tp A) n = bq r fun s => .ok s.2 := by
    subst hr
    unfold parse
    generalize nxt (A_tp A) n (26, 0, 0, 0) = r1
    cases r1 with
    | error e => rfl
    | ok t =>
      simp only [bq_o]
      exact (bq_as _ _ _).symm
  rw [ep] at hq
  cases r with
  | error e =>
    have y1' : RT h1 (A_tp A) n (.error e) := y1
    obtain ⟨-, s2, -, -⟩ := X.spare (k := e.1) (p := e.2) hb hba hb0 hb1 F2 m1 (by rw [m2]; exact y1'.1) (by rw [m2]; exact y1'.2.2.1)
    have e8 : gi h2 218 8 = e.1 := by rw [m2]; exact y1'.1
    refine ⟨fun w => absurd (e8.symm.trans w) y1'.2.1, fun _ => ?_⟩
    rw [e8]
    exact hq h2 ⟨a, pt, s2⟩ FC
  | ok s =>
    obtain ⟨x0, xP, xS⟩ := y1
    have e8 : gi h2 218 8 = 0 := by rw [m2]; exact x0.2.1
    obtain ⟨s1, s2, s3, s4⟩ := X.spare (k := 0) (p := -1) hb hba hb0 hb1 F2 m1 e8 (by rw [m2]; exact x0.2.2.1)
    obtain ⟨p1, p2⟩ := parse_POK (f := A_tp A) (n := n) (r := s.2) (by omega) (by rw [ep]; rfl)
    refine ⟨fun _ => ?_, fun w => absurd e8 w⟩
    refine c_goOn (A := uF A 0 (-1)) (g := s.2.1) (st := s.2.2) (b := b) (pt := fun i => if i = b then s.2.1 else pt i) (pa := A_pa A) (s1.uP p1 p2) hb (if_pos rfl) ⟨m1, fun i hi => absurd hi (Nat.not_lt_zero i)⟩ ⟨e8, by rw [m2]; exact x0.2.2.1⟩ (xP.RCp.keep (fun q k z1 z2 => m3 _ _ (by omega))) q1.2 (by omega) (xS.keepP (fun q k z1 z2 => m3 _ _ (by omega))) s2.2.2.2.2.2.2.1 (s4 s.2.1) s2.2.2.2.2.2.2.2.2.2.1 s2.2.2.2.2.2.2.2.2.2.2 (fun h3 y3 f3 => ⟨rfl, ?_⟩)
    have e4 : gi h3 (pg b) 4 = g_to s.2.1 := by
      have := y3.2.2.2.2.1.1.2.2.2.2.1
      dsimp only at this
      rw [if_pos rfl] at this
      exact this
    dsimp only
    rw [e4]
    exact hq h3 ⟨b, _, y3⟩ (FC.tr (f3.mono (fun q k z => by unfold frBk at z; unfold frCl; omega)))
end
