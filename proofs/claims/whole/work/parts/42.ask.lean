/-! THE CLASS: the setting of now, trials; calls that ask -/
def frY (p : Nat) : Nat → Nat → Prop := fun q k => frZ p q k ∨ (219 ≤ q ∧ q ≤ 232) ∨ (q = 64 ∧ k = 12)
theorem RCa.keepW {h h' : PH} {A : AS} {a : Nat} {pt : Nat → PG} (x : RCa h A a pt) (hF : fr (frY (pg a)) h h') (hR : RCp h' (pg a) (pt a)) (hS : CSe h' a (A_g A) (A_st A)) : RCa h' A a pt := by
  obtain ⟨ok, ⟨a1, a2, a3⟩, ⟨b1, b2⟩, ⟨c1, c2⟩, d1, e1, f1, g1, s1, t1, u1⟩ := x
  obtain ⟨pc, pu, pl⟩ := pg_cl a1
  have G : ∀ q k, ¬ frY (pg a) q k → gi h' q k = gi h q k := hF.1
  have es : ∀ q k, q < 71 → q ≠ 64 → gi h' q k = gi h q k := fun q k z z2 => G _ _ (by unfold frY frZ; omega)
  refine ⟨ok, ⟨a1, by rw [G _ _ (by unfold frY frZ; omega)]; exact a2, a3⟩, ⟨by rw [G _ _ (by unfold frY frZ; omega)]; exact b1, fun i hi => by rw [es _ _ (by omega) (by omega)]; exact b2 i hi⟩, ⟨by rw [G _ _ (by unfold frY frZ; omega)]; exact c1, by rw [G _ _ (by unfold frY frZ; omega)]; exact c2⟩, hR, e1.keep (fun q k z1 z2 => es _ _ (by omega) (by omega)), ?_, fun i hi => ⟨fun z => ?_, fun gs z => ?_⟩, hS, ⟨fun i hi => ⟨fun z => ?_, fun z => ?_⟩, fun j hj => ?_⟩, ⟨fun z => ?_, fun z => ?_, fun j hj => ?_⟩⟩
  · obtain ⟨n, n1, n2, n3, n4⟩ := f1
    refine ⟨n, n1, by rw [G _ _ (by unfold frY frZ; omega)]; exact n2, by rw [G _ _ (by unfold frY frZ; omega)]; exact n3, fun i hi => (n4 i hi).keep (fun q k z1 z2 => G _ _ (by unfold frY frZ; omega))⟩
  · rw [G _ _ (by unfold frY frZ; omega)]; exact (g1 i hi).1 z
  · obtain ⟨b, q1, q2, q3, q4, q5⟩ := (g1 i hi).2 gs z
    refine ⟨b, q1, by rw [G _ _ (by unfold frY frZ; omega)]; exact q2, q3, ?_, q5.keep (fun q k z1 z2 => G _ _ (by unfold frY frZ; omega))⟩
    by_cases eb : b = a
    · subst eb; exact hR
    · refine q4.keep (fun q k z1 z2 => G _ _ ?_)
      unfold frY frZ; unfold pg at *; omega
  · rw [G _ _ (by unfold frY frZ; omega)]; exact (t1.1 i hi).1 z
  · rw [G _ _ (by unfold frY frZ; omega), G _ _ (by unfold frY frZ; omega)]; exact (t1.1 i hi).2 z
  · rw [hF.2.1 _ _ (by unfold frY frZ; omega)]; exact t1.2 j hj
  · rw [G _ _ (by unfold frY frZ; omega)]; exact u1.1 z
  · rw [G _ _ (by unfold frY frZ; omega), G _ _ (by unfold frY frZ; omega)]; exact u1.2.1 z
  · rw [G _ _ (by unfold frY frZ; omega), G _ _ (by unfold frY frZ; omega)]; exact u1.2.2 j hj
theorem frY_C {p q k : Nat} (hp : p ≤ 190) (z : frY p q k) : frCl q k := by unfold frY frZ at z; unfold frCl; omega
theorem frZ_C {p q k : Nat} (hp : p ≤ 190) (z : frZ p q k) : frCl q k := by unfold frZ at z; unfold frCl; omega
/-- the setting of now stands -/
def NW (h : PH) (A : AS) (a : Nat) : Prop := StC h 219 (pg a) 67 (A_st A 19).toNat (vw (A_g A) (A_st A)) (g_wi (A_g A)) ∧ DN h 219 (vw (A_g A) (A_st A)) (g_wi (A_g A)) (-1) ∧ PO h 219 (vw (A_g A) (A_st A)) (g_wi (A_g A)) (fH (vw (A_g A) (A_st A)) (g_wi (A_g A)) (-1)) (g_ln (A_g A))
section
variable {d : Nat} {h : PH} {Q : Option PV → PH → Prop}
variable {A : AS} {a : Nat} {pt : Nat → PG}
theorem RCa.okg (X : RCa h A a pt) : POK (A_g A) ∧ SOK (A_g A) (A_st A) ∧ RCp h (pg a) (A_g A) ∧ StV h 67 (A_st A) ∧ CLf (pg a) = 4 ∧ pg a ≤ 190 ∧ 130 ≤ pg a := by
  refine ⟨X.1.1, X.1.2.1, ?_, X.2.2.2.2.2.1, (pg_cl X.2.1.1).1, (pg_cl X.2.1.1).2.1, (pg_cl X.2.1.1).2.2⟩
  rw [← X.2.1.2.2]; exact X.2.2.2.2.1
theorem c_isWord (X : RCa h A a pt) {s : Int} (hq : Q (some (vI (if 0 ≤ s ∧ s < g_W (A_g A) then 1 else 0))) h) : C2 (d + 1) mX10_isWord [vR 64, vI s] h Q := by
  obtain ⟨-, -, hR, -, pc, -⟩ := X.okg
  refine EX10_isWord fun _ => BX10_isWord_0 ⟨fun z => by rw [if_neg (by omega)] at hq; exact hq, fun z => c_current X ⟨pc, ?_⟩⟩
  rw [hR.1.2.2.2.2.2.2]
  exact ⟨fun y => by rw [if_neg (by omega)] at hq; exact hq, fun y => by rw [if_pos ⟨z, y⟩] at hq; exact hq⟩
theorem c_isLine (X : RCa h A a pt) {s : Int} (hq : Q (some (vI (if 0 ≤ s ∧ s < g_ln (A_g A) then 1 else 0))) h) : C2 (d + 1) mX10_isLine [vR 64, vI s] h Q := by
  obtain ⟨-, -, hR, -, pc, -⟩ := X.okg
  refine EX10_isLine fun _ => BX10_isLine_0 ⟨fun z => by rw [if_neg (by omega)] at hq; exact hq, fun z => c_current X ⟨pc, ?_⟩⟩
  rw [hR.1.2.1]
  exact ⟨fun y => by rw [if_neg (by omega)] at hq; exact hq, fun y => by rw [if_pos ⟨z, y⟩] at hq; exact hq⟩
theorem c_setting (X : RCa h A a pt) (hq : ∀ h', RCa h' A a pt → NW h' A a → fr frCl h h' → Q (some (vR 219)) h') : C2 (d + 5) mX10_setting [vR 64] h Q := by
  obtain ⟨okg, oks, hR, hS, pc, pu, pl⟩ := X.okg
  refine EX10_setting (BX10_setting_0 ⟨fun z => ?_, fun z => ?_⟩)
  · rcases X.2.2.2.2.2.2.2.2.1 with y | ⟨y0, y1, y2, y3, -⟩
    · exact absurd y z
    · exact hq h X ⟨y1, y2, y3⟩ fr.rf
  · refine c_current X ⟨pc, c_current X ⟨pc, ?_⟩⟩
    rw [hR.1.1]
    have okg1 := okg.1
    refine c_settle2 cl219 cl220 pc cl67 (by omega) pu (by omega) (by omega) hR okg hS oks (by omega) (fun h1 b1 b2 b3 b4 b5 b6 b7 => ⟨rfl, ?_⟩)
    refine c_cutRest b1 b2 (fun h2 c1 c2 c3 => ⟨rfl, fun h3 e3 => ?_⟩)
    subst e3
    have F2 : fr (frY (pg a)) h h2 := (b7.mono (fun q k z => by unfold frSt at z; unfold frY frZ; omega)).tr (c3.mono (fun q k z => by unfold frU at z; unfold frY; omega))
    have F3 : fr (frY (pg a)) h (si h2 64 12 1) := F2.si (by unfold frY; omega)
    have k3 : ∀ q k, q ≠ 64 → gi (si h2 64 12 1) q k = gi h2 q k := fun q k z => gi_s1 z
    have kp : ∀ q k, q < 219 → gi h2 q k = gi h1 q k := fun q k z => c3.1 _ _ (by unfold frU; omega)
    have S2 : StC (si h2 64 12 1) 219 (pg a) 67 (A_st A 19).toNat (vw (A_g A) (A_st A)) (g_wi (A_g A)) := by
      have S1 := b1.keep (c3.mono (fun q k z => frU_T z))
      obtain ⟨x1, ⟨x2, x3, x4⟩, x5, x6⟩ := S1
      exact ⟨x1, ⟨x2, x3, by rw [k3 _ _ (by omega)]; exact x4⟩, x5.keep (fun q k z => k3 _ _ (by omega)), x6⟩
    have D2 : DN (si h2 64 12 1) 219 (vw (A_g A) (A_st A)) (g_wi (A_g A)) (-1) := c1.keep (fun q k z1 z2 => k3 _ _ (by omega))
    have P2 : PO (si h2 64 12 1) 219 (vw (A_g A) (A_st A)) (g_wi (A_g A)) (fH (vw (A_g A) (A_st A)) (g_wi (A_g A)) (-1)) (g_ln (A_g A)) := c2.keep (fun q k z => k3 _ _ (by omega))
    have R2 : RCp (si h2 64 12 1) (pg a) (pt a) := by
      rw [X.2.1.2.2]
      exact b3.keep (fun q k z1 z2 => by rw [k3 _ _ (by omega), kp _ _ (by omega)])
    refine hq _ (X.keepW F3 R2 (Or.inr ⟨gi_s0, S2, D2, P2, ?_, ?_⟩)) ⟨S2, D2, P2⟩ (F3.mono (fun q k z => frY_C pu z))
    · rw [k3 _ _ (by omega), kp _ _ (by omega)]; exact b5
    · rw [k3 _ _ (by omega), kp _ _ (by omega)]; exact b6
/-- a trial on the draft -/
theorem c_try (X : RCa h A a pt) {st : Nat → Int} (hd : StV h 71 st) (oks : SOK (A_g A) st) {asd : Int} (hq : ∀ h', RCa h' A a pt → StC h' 233 (pg a) 71 (st 19).toNat (vw (A_g A) st) (g_wi (A_g A)) → DN h' 233 (vw (A_g A) st) (g_wi (A_g A)) asd → StV h' 71 st → (∀ q k, 219 ≤ q → q ≤ 232 → gi h' q k = gi h q k) → (∀ k, gi h' 64 k = gi h 64 k) → fr (frZ (pg a)) h h' → Q none h') : C2 (d + 5) mX10_tryDraft [vR 64, vI asd] h Q := by
  obtain ⟨okg, -, hR, hS, pc, pu, pl⟩ := X.okg
  refine EX10_tryDraft fun _ => BX10_tryDraft_0 (c_current X ⟨pc, c_current X ⟨pc, ?_⟩⟩)
  rw [hR.1.1]
  have okg1 := okg.1
  refine c_settle2 cl233 cl234 pc cl71 (by omega) pu (by omega) (by omega) hR okg hd oks (by omega) (fun h1 b1 b2 b3 b4 b5 b6 b7 => ⟨rfl, ?_⟩)
  have F : fr (frZ (pg a)) h h1 := b7.mono (fun q k z => by unfold frSt at z; unfold frZ; omega)
  exact hq h1 (X.keepZ F (by rw [X.2.1.2.2]; exact b3) b4) b1 b2 (hd.keep (fun q k z1 z2 => b7.1 _ _ (by unfold frSt; omega))) (fun q k z1 z2 => b7.1 _ _ (by unfold frSt; omega)) (fun k => b7.1 _ _ (by unfold frSt; omega)) F
/-- the last line that is used -/
def lastF (f : Nat → Int) : Nat → Int
  | 0 => -1
  | n + 1 => max (lastF f n) (f n)
theorem lastF_rg {f : Nat → Int} {N : Int} (h0 : 0 ≤ N) (hf : ∀ n, -1 ≤ f n ∧ f n ≤ N) : ∀ n, -1 ≤ lastF f n ∧ lastF f n ≤ N := by
  intro n
  induction n with
  | zero => exact ⟨Int.le_refl _, by show (-1 : Int) ≤ N; omega⟩
  | succ n ih => have := hf n; unfold lastF; omega
def lstL (v : VW) (wi asd : Int) : Int := lastF (fun w => fL v wi asd w) (v_W v)
theorem lstL_rg {v : VW} (ok : VOK v) {wi asd : Int} (hw : 0 ≤ wi) : -1 ≤ lstL v wi asd ∧ lstL v wi asd ≤ 20 := by
  have ok1 := ok.1
  exact lastF_rg (by omega) (fun n => by have := lnW_rg (v := v) hw (ht := fH v wi asd) n; unfold fL; omega) _
theorem last_loop {t p s ink : Nat} {v : VW} {wi : Int} {ht : Nat → Int} {n : Nat} (X : StC h t p s ink v wi) (hP : PO h t v wi ht n) (hq : Q (some (vI (lastF (fun w => lnW v wi ht w) (v_W v)))) h) : ∀ m w : Nat, w + m = v_W v → T2 (d + 1) mX6_lastLine 4 [some (vR t), some (vI (lastF (fun w => lnW v wi ht w) w)), some (vI (w : Int))] [] h Q := by
  obtain ⟨⟨x1, -⟩, ⟨y1, y2, y3⟩, ⟨⟨a1, a2, a3, a4, a5, a6, a7⟩, -⟩, ok, -⟩ := id X
  have ok1 := ok.1
  intro m
  induction m with
  | zero =>
    intro w hw
    refine BX6_lastLine_4 x1 ⟨fun _ => ?_, fun z => by rw [y1, a5] at z; omega⟩
    rw [show w = v_W v by omega]; exact hq
  | succ m ih =>
    intro w hw
    refine BX6_lastLine_4 x1 ⟨fun z => by rw [y1, a5] at z; omega, fun _ => ?_⟩
    refine c_lineOf X hP (by omega) (fun _ => c_max fun _ => ?_)
    rw [w32_r (by omega) (by omega), show ((w : Int) + 1) = ((w + 1 : Nat) : Int) by omega]
    exact ih (w + 1) (by omega)
theorem c_lastLine {t p s ink : Nat} {v : VW} {wi asd : Int} (X : StC h t p s ink v wi) (hD : DN h t v wi asd) (hq : Q (some (vI (lstL v wi asd))) h) : C2 (d + 1) mX6_lastLine [vR t] h Q := by
  obtain ⟨⟨-, ⟨n, r2⟩, -, -⟩, -, -⟩ := hD
  exact EX6_lastLine (BX6_lastLine_0 X.1.1 (last_loop X r2 hq (v_W v) 0 (by omega)))
/-! the answers -/
def A_v (A : AS) : VW := vw (A_g A) (A_st A)
def r_fault (A : AS) (w : Int) : Int := if w = 0 then A_fa A else if w = 1 then A_fp A else -1
def r_set (A : AS) (w : Int) : Int := if w = 0 then g_wi (A_g A) else if w = 1 then g_ln (A_g A) else if w = 2 then g_hi (A_g A) else if w = 3 then g_le (A_g A) else -2
def iS (A : AS) (s : Int) : Prop := 0 ≤ s ∧ s < g_S (A_g A)
def iW (A : AS) (w : Int) : Prop := 0 ≤ w ∧ w < g_W (A_g A)
def iL (A : AS) (l : Int) : Prop := 0 ≤ l ∧ l < g_ln (A_g A)
theorem k_fault (X : RC h A) {w : Int} (hq : ∀ h', RC h' A → fr frCl h h' → Q (some (vI (r_fault A w))) h') : C2 d mX10_fault [vR 64, vI w] h Q := by
  have hq := hq h X fr.rf
  obtain ⟨a, pt, X⟩ := X
  obtain ⟨c1, c2⟩ := X.2.2.2.1
  unfold r_fault at hq
  refine EX10_fault fun _ => BX10_fault_0 ⟨fun z => ⟨fun y => ?_, fun y => ?_⟩, fun z => ?_⟩
  · rw [if_neg z, if_neg y] at hq; exact hq
  · rw [if_neg z, if_pos y] at hq; rw [c2]; exact hq
  · rw [if_pos z] at hq; rw [c1]; exact hq
theorem k_set (X : RC h A) {w : Int} (hq : ∀ h', RC h' A → fr frCl h h' → Q (some (vI (r_set A w))) h') : C2 (d + 1) mX10_set [vR 64, vI w] h Q := by
  have hq := hq h X fr.rf
  obtain ⟨a, pt, X⟩ := X
  obtain ⟨-, -, hR, -, pc, -⟩ := X.okg
  obtain ⟨⟨a1, a2, a3, a4, a5, a6, a7⟩, -⟩ := hR
  unfold r_set at hq
  refine EX10_set fun _ => BX10_set_0 (c_current X ⟨pc, ?_⟩)
  rw [a1, a2, a3, a4]
  refine ⟨fun z => ?_, fun z => ?_, fun z => ?_, fun z => ?_, fun z => ?_⟩
  · rw [if_pos z] at hq; exact hq
  · rw [if_neg (by omega), if_pos z] at hq; exact hq
  · rw [if_neg (by omega), if_neg (by omega), if_pos z] at hq; exact hq
  · rw [if_neg (by omega), if_neg (by omega), if_neg (by omega), if_pos z] at hq; exact hq
  · rw [if_neg (by omega), if_neg (by omega), if_neg (by omega), if_neg (by omega)] at hq; exact hq
noncomputable def r_shape (A : AS) (s w : Int) : Int := by
  classical exact if iS A s then (if w = 0 then g_kd (A_g A) s.toNat else if w = 1 then A_st A s.toNat else if w = 2 then A_st A (6 + s.toNat) else if w = 3 then A_st A (12 + s.toNat) else if w = 4 then fH (A_v A) (g_wi (A_g A)) (-1) s.toNat else -2) else -2
theorem k_shape (X : RC h A) {s w : Int} (hq : ∀ h', RC h' A → fr frCl h h' → Q (some (vI (r_shape A s w))) h') : C2 (d + 6) mX10_shape [vR 64, vI s, vI w] h Q := by
  have hq0 := hq h X fr.rf
  obtain ⟨a, pt, X⟩ := X
  obtain ⟨okg, oks, hR, hS, pc, pu, pl⟩ := X.okg
  have okg1 := okg.1
  unfold r_shape at hq hq0
  refine EX10_shape fun _ _ => BX10_shape_0 (c_isShape X (fun _ => ⟨fun z => ?_, fun z => ?_⟩))
  · have hi : iS A s := by
      by_cases e : 0 ≤ s ∧ s < g_S (A_g A)
      · exact e
      · rw [if_neg e] at z; exact absurd rfl z
    have h6 : 0 ≤ s ∧ s < 6 := by unfold iS at hi; omega
    have hs : s.toNat < g_S (A_g A) := by unfold iS at hi; omega
    rw [if_pos hi] at hq0
    obtain ⟨n, hn⟩ := ex_nat h6.1
    subst hn
    simp only [Int.toNat_natCast] at hq hq0 hs ⊢
    refine ⟨fun y => c_current X ⟨pc, h6, ?_⟩, fun y => ⟨h6, ?_⟩, fun y => ⟨h6, ?_⟩, fun y => ⟨h6, ?_⟩, fun y => c_setting X (fun h1 X1 N1 F1 => ⟨cl219, h6, ?_⟩), fun y => ?_⟩
    · rw [if_pos y] at hq0; rw [(hR.2.1 n hs).1]; exact hq0
    · rw [if_neg (by omega), if_pos y] at hq0
      have := hS n (by omega); rw [SV_1 (by omega)] at this; rw [this]; exact hq0
    · rw [if_neg (by omega), if_neg (by omega), if_pos y] at hq0
      have := hS (6 + n) (by omega); rw [SV_2 (by omega)] at this; rw [this]; exact hq0
    · rw [if_neg (by omega), if_neg (by omega), if_neg (by omega), if_pos y] at hq0
      have := hS (12 + n) (by omega); rw [SV_3 (by omega)] at this; rw [this]; exact hq0
    · have := hq h1 ⟨a, pt, X1⟩ F1
      rw [if_pos hi, if_neg (by omega), if_neg (by omega), if_neg (by omega), if_neg (by omega), if_pos y] at this
      rw [(N1.2.1.1.1 n hs).1]; exact this
    · rw [if_neg (by omega), if_neg (by omega), if_neg (by omega), if_neg (by omega), if_neg (by omega)] at hq0; exact hq0
  · have hi : ¬ iS A s := fun e => by unfold iS at e; rw [if_pos e] at z; exact absurd z (by decide)
    rw [if_neg hi] at hq0; exact hq0
end
