/-! THE CLASS: more calls that ask -/
abbrev jS (A : AS) (s : Int) : Prop := 0 ≤ s ∧ s < g_S (A_g A)
abbrev jW (A : AS) (w : Int) : Prop := 0 ≤ w ∧ w < g_W (A_g A)
abbrev jL (A : AS) (l : Int) : Prop := 0 ≤ l ∧ l < g_ln (A_g A)
theorem if01 {P : Prop} [Decidable P] (h : (if P then (1 : Int) else 0) ≠ 0) : P := by
  by_cases e : P
  · exact e
  · rw [if_neg e] at h; exact absurd rfl h
theorem if00 {P : Prop} [Decidable P] (h : (if P then (1 : Int) else 0) = 0) : ¬ P := fun e => by rw [if_pos e] at h; exact absurd h (by decide)
abbrev A_w (A : AS) : Int := g_wi (A_g A)
/-- the setting that is asked of A: its heights, slots, words -/
def aH (A : AS) : Nat → Int := fH (A_v A) (A_w A) (-1)
def aS (A : AS) : SL := fS (A_v A) (A_w A) (-1)
def aC (A : AS) : CF := fC (A_v A) (A_w A) (-1)
def aL (A : AS) (w : Int) : Int := fL (A_v A) (A_w A) (-1) w
def aB (A : AS) (l : Nat) : Nat := (slt (A_v A) (A_w A) (aH A) l).length
def r_word (A : AS) (w what : Int) : Int := if jW A w then (if what = 0 then g_lt (A_g A) w.toNat else if what = 1 then widA (A_g A) (A_st A 19).toNat w.toNat else if what = 2 then (if bit (A_st A 18) w.toNat then 1 else 0) else -2) else -2
def r_span (A : AS) (s l what : Int) : Int := if jS A s ∧ jL A l ∧ 0 ≤ what ∧ what ≤ 1 then (if rch (A_v A) s.toNat (aH A s.toNat) l.toNat < 0 then -99000001 else if what = 0 then spL (A_v A) s.toNat l.toNat (rch (A_v A) s.toNat (aH A s.toNat) l.toNat) else spR (A_v A) s.toNat l.toNat (rch (A_v A) s.toNat (aH A s.toNat) l.toNat)) else -99000002
def r_slots (A : AS) (l : Int) : Int := if jL A l then (aB A (l.toNat + 1) : Int) - aB A l.toNat else -2
def r_slot (A : AS) (l i what : Int) : Int := if jL A l ∧ 0 ≤ what ∧ what ≤ 2 then (if i < 0 then -3 else if i < (aB A (l.toNat + 1) : Int) - aB A l.toNat then (if what = 0 then s_le (aS A) (aB A l.toNat + i.toNat) else if what = 1 then s_ri (aS A) (aB A l.toNat + i.toNat) else c_ct (aC A) (aB A l.toNat + i.toNat)) else -1) else -2
def r_lies (A : AS) (w what : Int) : Int := if jW A w ∧ 0 ≤ what ∧ what ≤ 2 then (if c_sl (aC A) w.toNat < 0 then -1 else if what = 0 then s_li (aS A) (c_sl (aC A) w.toNat).toNat else if what = 1 then c_lf (aC A) w.toNat else c_sl (aC A) w.toNat - aB A (s_li (aS A) (c_sl (aC A) w.toNat).toNat)) else -2
def r_placed (A : AS) : Int := c_n (aC A)
def r_last (A : AS) : Int := lstL (A_v A) (A_w A) (-1)
def r_rounds (A : AS) : Int := (setR (A_v A) (A_w A) (-1)).1
def r_still (A : AS) : Int := (setR (A_v A) (A_w A) (-1)).2.1
def bitsF (P : Nat → Bool) : Nat → Int
  | 0 => 0
  | n + 1 => if P n then ior (bitsF P n) (ishl 1 (n : Int)) else bitsF P n
def r_inLine (A : AS) (l : Int) : Int := if jL A l then bitsF (fun w => decide (aL A w = l)) (g_W (A_g A)) else -2
def sumF (f : Nat → Int) : Nat → Int
  | 0 => 0
  | n + 1 => sumF f n + f n
theorem sumF_rg {f : Nat → Int} {M : Int} (hf : ∀ n, 0 ≤ f n ∧ f n ≤ M) : ∀ n : Nat, 0 ≤ sumF f n ∧ sumF f n ≤ M * n := by
  intro n
  induction n with
  | zero => exact ⟨Int.le_refl _, by show (0 : Int) ≤ M * 0; omega⟩
  | succ n ih =>
    have := hf n
    unfold sumF
    rw [show ((n + 1 : Nat) : Int) = (n : Int) + 1 by omega, Int.mul_add]
    omega
def r_full (A : AS) (l : Int) : Int := if jL A l then (sumF (fun w => if aL A w = l then widA (A_g A) (A_st A 19).toNat w else 0) (g_W (A_g A)) * 1000) / A_w A else -2
def r_count (A : AS) (w : Int) : Int := if w = 0 then g_S (A_g A) else if w = 1 then g_W (A_g A) else if w = 2 then A_st A 19 else if w = 3 then A_st A 18 else if w = 4 then bitsF (fun s => decide (A_st A (12 + s) ≠ -1)) 6 else if w = 5 then (aS A).length else if w = 6 then (A_pa A).length else if w = 7 then A_n A else if w = 8 then g_to (A_g A) else -1
section
variable {d : Nat} {h : PH} {Q : Option PV → PH → Prop}
variable {A : AS} {a : Nat} {pt : Nat → PG}
theorem NW.po (N : NW h A a) : StC h 219 (pg a) 67 (A_st A 19).toNat (A_v A) (A_w A) ∧ PO h 219 (A_v A) (A_w A) (aH A) (g_ln (A_g A)) ∧ SR h 220 (aS A) ∧ (∀ l, l < g_ln (A_g A) → gi h 225 l = aB A l ∧ gi h 225 (l + 1) = aB A (l + 1)) ∧ CFm h 219 (aS A).length (g_W (A_g A)) (aC A).2.2.2 := ⟨N.1, N.2.2, N.2.2.2.1, N.2.2.2.2.2.2.1, N.2.2.2.2.2.2.2⟩
theorem aS_len (X : RCa h A a pt) : (aS A).length ≤ 140 := by
  have okg1 := X.1.1.1
  have := slt_len (vw_ok X.1.1 X.1.2.1) (wi := A_w A) (by show 0 ≤ g_wi (A_g A); omega) (ht := aH A) (g_ln (A_g A)) (Nat.le_refl _)
  have e : (aS A).length = (slt (A_v A) (A_w A) (aH A) (g_ln (A_g A))).length := rfl
  have e2 : (slt (A_v A) (A_w A) (aH A) (g_ln (A_g A))).length = (slt (vw (A_g A) (A_st A)) (A_w A) (aH A) (g_ln (A_g A))).length := rfl
  omega
theorem k_word (X : RC h A) {w what : Int} (hq : ∀ h', RC h' A → fr frCl h h' → Q (some (vI (r_word A w what))) h') : C2 (d + 5) mX10_word [vR 64, vI w, vI what] h Q := by
  have hq0 := hq h X fr.rf
  obtain ⟨a, pt, X⟩ := X
  obtain ⟨okg, oks, hR, hS, pc, pu, pl⟩ := X.okg
  have okg1 := okg.1
  unfold r_word at hq hq0
  refine EX10_word fun _ _ => BX10_word_0 (c_isWord X (fun _ => ⟨fun z => ?_, fun z => by rw [if_neg (if00 z)] at hq0; exact hq0⟩))
  have hi := if01 z
  rw [if_pos hi] at hq0
  obtain ⟨n, hn⟩ := ex_nat hi.1
  subst hn
  have hn30 : (0 : Int) ≤ (n : Int) ∧ (n : Int) < 30 := by omega
  have hnW : n < g_W (A_g A) := by omega
  simp only [Int.toNat_natCast] at hq hq0 ⊢
  have hI := hS.inkv
  have o5 := oks.2.2.2.2
  refine ⟨fun y => c_current X ⟨pc, hn30, ?_⟩, fun y => ?_, fun y => c_hides cl67 (by omega) (fun _ => ?_), fun y => ?_⟩
  · rw [if_pos y] at hq0; rw [(hR.2.2.1 n hnW).1]; exact hq0
  · refine EX10_wideNow fun _ => BX10_wideNow_0 (c_current X ⟨pc, ?_⟩)
    rw [hI, show A_st A 19 = ((A_st A 19).toNat : Int) by omega]
    refine c_learnWides pc hR okg (by omega) (fun h1 b1 b2 b3 b4 => ⟨rfl, ?_⟩)
    have F1 : fr (frZ (pg a)) h h1 := b4.mono (fun q k z => by unfold frLW at z; unfold frZ; omega)
    have X1 := X.keepZ F1 (by rw [X.2.1.2.2]; exact b1) ⟨b3, fun j hj hb => by rw [b4.1 _ _ (by unfold frLW; omega)]; exact hb⟩
    refine c_current X1 ⟨pc, ?_⟩
    rw [b4.1 67 4 (by unfold frLW; omega), hI, show A_st A 19 = ((A_st A 19).toNat : Int) by omega]
    refine c_wideOf pc (by omega) (by omega) (fun _ => ?_)
    rw [b1.2.2.2.2.2.1 _ (by omega) b2 n hnW]
    have := hq h1 ⟨a, pt, X1⟩ (F1.mono (fun q k z => frZ_C pu z))
    rw [if_pos hi, if_neg (by omega), if_pos y] at this
    exact fun _ => this
  · rw [if_neg (by omega), if_neg (by omega), if_pos y] at hq0
    have : gi h 67 3 = A_st A 18 := hS 18 (by omega)
    rw [this]
    exact ⟨fun u => by rw [if_neg (if00 u)] at hq0; exact hq0, fun u => by rw [if_pos (if01 u)] at hq0; exact hq0⟩
  · rw [if_neg (by omega), if_neg (by omega), if_neg (by omega)] at hq0; exact hq0
theorem k_span (X : RC h A) {s l what : Int} (hq : ∀ h', RC h' A → fr frCl h h' → Q (some (vI (r_span A s l what))) h') : C2 (d + 6) mX10_span [vR 64, vI s, vI l, vI what] h Q := by
  have hq0 := hq h X fr.rf
  obtain ⟨a, pt, X⟩ := X
  obtain ⟨okg, oks, hR, hS, pc, pu, pl⟩ := X.okg
  have okg1 := okg.1
  unfold r_span at hq hq0
  refine EX10_span fun _ _ _ => BX10_span_0 (c_isShape X (fun _ => ⟨fun z => by rw [if_neg (fun e => if00 z e.1)] at hq0; exact hq0, fun z => ?_⟩))
  have hi := if01 z
  refine c_isLine X (fun _ => ⟨fun z2 => by rw [if_neg (fun e => if00 z2 e.2.1)] at hq0; exact hq0, fun z2 => ?_⟩)
  have hl := if01 z2
  refine ⟨fun y => by rw [if_neg (by omega)] at hq0; exact hq0, fun y => ⟨fun y2 => ?_, fun y2 => by rw [if_neg (by omega)] at hq0; exact hq0⟩⟩
  refine c_setting X (fun h1 X1 N1 F1 => ⟨cl219, c_current X1 ⟨pc, ⟨by omega, by omega⟩, ?_⟩⟩)
  have hq1 := hq h1 ⟨a, pt, X1⟩ F1
  rw [if_pos ⟨hi, hl, y, y2⟩] at hq1
  obtain ⟨n, hn⟩ := ex_nat hi.1
  obtain ⟨m, hm⟩ := ex_nat hl.1
  subst hn hm
  simp only [Int.toNat_natCast] at hq1 ⊢
  have hn : n < g_S (A_g A) := by omega
  have hm : m < g_ln (A_g A) := by omega
  have okv := vw_ok okg oks
  obtain ⟨h1r, h2r⟩ := hts_rg okv (wi := A_w A) (asd := -1) (by show 0 ≤ g_wi (A_g A); omega) (fR (A_v A) (A_w A) (-1)) (i := n) hn
  rw [(N1.2.1.1.1 n hn).1]
  obtain ⟨r1, r2, r3⟩ := rch_rg okv (l := m) (s := n) hn (y := aH A n)
  refine c_reach pc N1.1.2.2.1 okv hn (by omega) ⟨h1r, h2r⟩ (fun _ => ⟨fun u => ⟨fun w => ?_, fun w => ?_⟩, fun u => ?_⟩)
  · have u' : ¬ rch (A_v A) n (aH A n) m < 0 := by have : 0 ≤ rch (A_v A) n (aH A n) m := u; omega
    rw [if_neg u', if_neg w] at hq1
    exact c_spanRight N1.1 hn hm ⟨r1, r2⟩ (fun _ => hq1)
  · have u' : ¬ rch (A_v A) n (aH A n) m < 0 := by have : 0 ≤ rch (A_v A) n (aH A n) m := u; omega
    rw [if_neg u', if_pos w] at hq1
    exact c_spanLeft N1.1 hn hm ⟨r1, r2⟩ (fun _ => hq1)
  · have u' : rch (A_v A) n (aH A n) m < 0 := u
    rw [if_pos u'] at hq1; exact hq1
theorem c_inOne (X : RCa h A a pt) (N : NW h A a) {l : Nat} (hl : l < g_ln (A_g A)) (hq : Q (some (vI ((aB A (l + 1) : Int) - aB A l))) h) : C2 d mX7_inOne [vR 220, vI (l : Int)] h Q := by
  obtain ⟨okg, oks, -⟩ := X.okg
  have okg1 := okg.1
  obtain ⟨e1, e2⟩ := N.po.2.2.2.1 l hl
  have hb := aS_len X
  have h1 : aB A (l + 1) ≤ (aS A).length := slt_le (A_v A) (A_w A) (aH A) (show l + 1 ≤ v_ln (A_v A) from hl)
  have h2 : aB A l ≤ aB A (l + 1) := slt_le (A_v A) (A_w A) (aH A) (Nat.le_succ l)
  refine EX7_inOne fun _ => BX7_inOne_0 cl220 ?_
  rw [w32_r (x := (l : Int) + 1) (by omega) (by omega), show ((l : Int) + 1).toNat = l + 1 by omega]
  try simp only [Int.toNat_natCast]
  rw [e1, e2, w32_r (by omega) (by omega)]
  exact ⟨⟨by omega, by omega⟩, ⟨by omega, by omega⟩, hq⟩
theorem k_slots (X : RC h A) {l : Int} (hq : ∀ h', RC h' A → fr frCl h h' → Q (some (vI (r_slots A l))) h') : C2 (d + 6) mX10_slots [vR 64, vI l] h Q := by
  have hq0 := hq h X fr.rf
  obtain ⟨a, pt, X⟩ := X
  unfold r_slots at hq hq0
  refine EX10_slots fun _ => BX10_slots_0 (c_isLine X (fun _ => ⟨fun z => by rw [if_neg (if00 z)] at hq0; exact hq0, fun z => ?_⟩))
  have hl := if01 z
  refine c_setting X (fun h1 X1 N1 F1 => ⟨cl219, ?_⟩)
  have hq1 := hq h1 ⟨a, pt, X1⟩ F1
  rw [if_pos hl] at hq1
  obtain ⟨m, hm⟩ := ex_nat hl.1
  subst hm
  exact c_inOne X1 N1 (by omega) (fun _ => hq1)
theorem k_slot (X : RC h A) {l i what : Int} (hq : ∀ h', RC h' A → fr frCl h h' → Q (some (vI (r_slot A l i what))) h') : C2 (d + 6) mX10_slot [vR 64, vI l, vI i, vI what] h Q := by
  have hq0 := hq h X fr.rf
  obtain ⟨a, pt, X⟩ := X
  obtain ⟨okg, oks, hR, hS, pc, pu, pl⟩ := X.okg
  have okg1 := okg.1
  unfold r_slot at hq hq0
  refine EX10_slot fun _ _ _ => BX10_slot_0 (c_isLine X (fun _ => ⟨fun z => by rw [if_neg (fun e => if00 z e.1)] at hq0; exact hq0, fun z => ?_⟩))
  have hl := if01 z
  refine ⟨fun y => by rw [if_neg (by omega)] at hq0; exact hq0, fun y => ⟨fun y2 => ⟨fun y3 => ?_, fun y3 => by rw [if_pos ⟨hl, y, y2⟩, if_pos y3] at hq0; exact hq0⟩, fun y2 => by rw [if_neg (by omega)] at hq0; exact hq0⟩⟩
  refine c_setting X (fun h1 X1 N1 F1 => ⟨cl219, ?_⟩)
  have hq1 := hq h1 ⟨a, pt, X1⟩ F1
  rw [if_pos ⟨hl, y, y2⟩, if_neg (by omega)] at hq1
  obtain ⟨m, hm⟩ := ex_nat hl.1
  obtain ⟨j, hj⟩ := ex_nat y3
  subst hm hj
  simp only [Int.toNat_natCast] at hq1
  have hm : m < g_ln (A_g A) := by omega
  have hb := aS_len X
  obtain ⟨e1, e2⟩ := N1.po.2.2.2.1 m hm
  have hle1 : aB A (m + 1) ≤ (aS A).length := slt_le (A_v A) (A_w A) (aH A) (show m + 1 ≤ v_ln (A_v A) from hm)
  refine c_inOne X1 N1 hm (fun _ => ⟨fun u => ⟨⟨by omega, by omega⟩, ?_⟩, fun u => by rw [if_neg (by omega)] at hq1; exact hq1⟩)
  rw [if_pos u] at hq1
  try simp only [Int.toNat_natCast]
  rw [e1, w32_r (by omega) (by omega), show ((aB A m : Int) + (j : Int)).toNat = aB A m + j by omega]
  have hk : aB A m + j < (aS A).length := by omega
  obtain ⟨s1, s2, s3⟩ := N1.po.2.2.1.2 _ hk
  have c5 := (N1.po.2.2.2.2.2.1 _ hk).1
  refine ⟨fun w0 => ⟨fun w1 => ⟨⟨by omega, by omega⟩, ?_⟩, fun w1 => ⟨⟨by omega, by omega⟩, ?_⟩⟩, fun w0 => ⟨⟨by omega, by omega⟩, ?_⟩⟩
  · rw [if_neg w0, if_neg w1] at hq1; rw [c5]; exact hq1
  · rw [if_neg w0, if_pos w1] at hq1; rw [s3]; exact hq1
  · rw [if_pos w0] at hq1; rw [s2]; exact hq1
theorem k_lies (X : RC h A) {w what : Int} (hq : ∀ h', RC h' A → fr frCl h h' → Q (some (vI (r_lies A w what))) h') : C2 (d + 6) mX10_lies [vR 64, vI w, vI what] h Q := by
  have hq0 := hq h X fr.rf
  obtain ⟨a, pt, X⟩ := X
  obtain ⟨okg, oks, hR, hS, pc, pu, pl⟩ := X.okg
  have okg1 := okg.1
  unfold r_lies at hq hq0
  refine EX10_lies fun _ _ => BX10_lies_0 (c_isWord X (fun _ => ⟨fun z => by rw [if_neg (fun e => if00 z e.1)] at hq0; exact hq0, fun z => ?_⟩))
  have hi := if01 z
  refine ⟨fun y => by rw [if_neg (by omega)] at hq0; exact hq0, fun y => ⟨fun y2 => ?_, fun y2 => by rw [if_neg (by omega)] at hq0; exact hq0⟩⟩
  refine c_setting X (fun h1 X1 N1 F1 => ⟨cl219, ⟨by omega, by omega⟩, ?_⟩)
  have hq1 := hq h1 ⟨a, pt, X1⟩ F1
  rw [if_pos ⟨hi, y, y2⟩] at hq1
  obtain ⟨n, hn⟩ := ex_nat hi.1
  subst hn
  simp only [Int.toNat_natCast] at hq1 ⊢
  have hb := aS_len X
  obtain ⟨C1, C2, C3, C4, C5, C6, C7, C8⟩ := N1.po.2.2.2.2
  obtain ⟨c1, c2⟩ := C1 n (by omega)
  obtain ⟨c7, c8⟩ := C7 n
  have ec : c_sl (aC A) n = (aC A).2.2.2.1 n := rfl
  rw [c1]
  rw [ec] at hq1
  refine ⟨fun u => ⟨⟨by omega, by omega⟩, ?_⟩, fun u => by rw [if_pos u] at hq1; exact hq1⟩
  rw [if_neg (by omega)] at hq1
  have hk : ((aC A).2.2.2.1 n).toNat < (aS A).length := by omega
  obtain ⟨s1, s2, s3⟩ := N1.po.2.2.1.2 _ hk
  have hw0 : 0 ≤ A_w A := by show 0 ≤ g_wi (A_g A); omega
  have hli : s_li (aS A) ((aC A).2.2.2.1 n).toNat < g_ln (A_g A) := (slt_rg (v := A_v A) hw0 (ht := aH A) (n := v_ln (A_v A)) hk).1
  rw [s1]
  obtain ⟨e1, e2⟩ := N1.po.2.2.2.1 _ hli
  have hle : aB A (s_li (aS A) ((aC A).2.2.2.1 n).toNat) ≤ (aS A).length := slt_le (A_v A) (A_w A) (aH A) (Nat.le_of_lt (show s_li (aS A) ((aC A).2.2.2.1 n).toNat < v_ln (A_v A) from hli))
  refine ⟨fun w0 => ⟨fun w1 => ⟨⟨by omega, by omega⟩, ?_⟩, fun w1 => ⟨⟨by omega, by omega⟩, ?_⟩⟩, fun w0 => ?_⟩
  · rw [if_neg w0, if_neg w1] at hq1
    try simp only [Int.toNat_natCast]
    rw [e1, w32_r (by omega) (by omega)]
    exact hq1
  · rw [if_neg w0, if_pos w1] at hq1; rw [c2]; exact hq1
  · rw [if_pos w0] at hq1; exact hq1
theorem k_placed (X : RC h A) (hq : ∀ h', RC h' A → fr frCl h h' → Q (some (vI (r_placed A))) h') : C2 (d + 6) mX10_placed [vR 64] h Q := by
  obtain ⟨a, pt, X⟩ := X
  refine EX10_placed (BX10_placed_0 (c_setting X (fun h1 X1 N1 F1 => ⟨cl219, ?_⟩)))
  rw [N1.po.2.2.2.2.2.2.2.2.1]
  exact hq h1 ⟨a, pt, X1⟩ F1
theorem k_last (X : RC h A) (hq : ∀ h', RC h' A → fr frCl h h' → Q (some (vI (r_last A))) h') : C2 (d + 6) mX10_last [vR 64] h Q := by
  obtain ⟨a, pt, X⟩ := X
  refine EX10_last (BX10_last_0 (c_setting X (fun h1 X1 N1 F1 => ⟨cl219, ?_⟩)))
  exact c_lastLine N1.1 N1.2.1 (fun _ => hq h1 ⟨a, pt, X1⟩ F1)
theorem k_rounds (X : RC h A) (hq : ∀ h', RC h' A → fr frCl h h' → Q (some (vI (r_rounds A))) h') : C2 (d + 6) mX10_rounds [vR 64] h Q := by
  obtain ⟨a, pt, X⟩ := X
  refine EX10_rounds (BX10_rounds_0 (c_setting X (fun h1 X1 N1 F1 => ⟨cl219, ?_⟩)))
  rw [N1.2.1.1.2.2.2]
  exact hq h1 ⟨a, pt, X1⟩ F1
theorem k_still (X : RC h A) (hq : ∀ h', RC h' A → fr frCl h h' → Q (some (vI (r_still A))) h') : C2 (d + 6) mX10_still [vR 64] h Q := by
  obtain ⟨a, pt, X⟩ := X
  refine EX10_still (BX10_still_0 (c_setting X (fun h1 X1 N1 F1 => ⟨cl219, ?_⟩)))
  rw [N1.2.1.2.1]
  exact hq h1 ⟨a, pt, X1⟩ F1
theorem inLine_loop (X : RCa h A a pt) (N : NW h A a) {l : Int} (hq : Q (some (vI (bitsF (fun w => decide (aL A w = l)) (g_W (A_g A))))) h) : ∀ m w : Nat, w + m = g_W (A_g A) → T2 (d + 1) mX10_inLine 21 [some (vR 64), some (vI l), some (vR 219), some (vI (bitsF (fun w => decide (aL A w = l)) w)), some (vI (w : Int))] [] h Q := by
  obtain ⟨okg, oks, hR, hS, pc, pu, pl⟩ := X.okg
  have okg1 := okg.1
  intro m
  induction m with
  | zero =>
    intro w hw
    refine BX10_inLine_21 cl219 (c_current X ⟨pc, ?_⟩)
    rw [hR.1.2.2.2.2.2.2]
    refine ⟨fun _ => ?_, fun z => by omega⟩
    rw [show w = g_W (A_g A) by omega]; exact hq
  | succ m ih =>
    intro w hw
    refine BX10_inLine_21 cl219 (c_current X ⟨pc, ?_⟩)
    rw [hR.1.2.2.2.2.2.2]
    refine ⟨fun z => by omega, fun _ => c_lineOf N.1 N.2.2 (by omega) (fun _ => ?_)⟩
    rw [w32_r (by omega) (by omega), show ((w : Int) + 1) = ((w + 1 : Nat) : Int) by omega]
    have := ih (w + 1) (by omega)
    unfold bitsF at this
    refine ⟨fun z => ?_, fun z => ?_⟩
    · have e : decide (aL A (w : Int) = l) = false := decide_eq_false z
      rw [e] at this; exact this
    · have e : decide (aL A (w : Int) = l) = true := decide_eq_true z
      rw [e] at this; exact this
theorem k_inLine (X : RC h A) {l : Int} (hq : ∀ h', RC h' A → fr frCl h h' → Q (some (vI (r_inLine A l))) h') : C2 (d + 6) mX10_inLine [vR 64, vI l] h Q := by
  have hq0 := hq h X fr.rf
  obtain ⟨a, pt, X⟩ := X
  unfold r_inLine at hq hq0
  refine EX10_inLine fun _ => BX10_inLine_0 (c_isLine X (fun _ => ⟨fun z => ?_, fun z => by rw [if_neg (if00 z)] at hq0; exact hq0⟩))
  have hl := if01 z
  refine c_setting X (fun h1 X1 N1 F1 => ⟨cl219, ?_⟩)
  have hq1 := hq h1 ⟨a, pt, X1⟩ F1
  rw [if_pos hl] at hq1
  exact inLine_loop X1 N1 hq1 (g_W (A_g A)) 0 (by omega)
theorem full_loop (X : RCa h A a pt) (N : NW h A a) {l : Int} (hq : Q (some (vI ((sumF (fun w => if aL A w = l then widA (A_g A) (A_st A 19).toNat w else 0) (g_W (A_g A)) * 1000) / A_w A))) h) : ∀ m w : Nat, w + m = g_W (A_g A) → T2 (d + 1) mX10_full 27 [some (vR 64), some (vI l), some (vR (pg a)), some (vR 219), some (vI (sumF (fun w => if aL A w = l then widA (A_g A) (A_st A 19).toNat w else 0) w)), some (vI (w : Int))] [] h Q := by
  obtain ⟨okg, oks, hR, hS, pc, pu, pl⟩ := X.okg
  have okg1 := okg.1
  have hrg : ∀ n : Nat, 0 ≤ (if aL A n = l then widA (A_g A) (A_st A 19).toNat n else 0) ∧ (if aL A n = l then widA (A_g A) (A_st A 19).toNat n else 0) ≤ 200 := fun n => by
    split
    · unfold widA; omega
    · omega
  have hw0 : A_w A = g_wi (A_g A) := rfl
  intro m
  induction m with
  | zero =>
    intro w hw
    have hs := sumF_rg hrg w
    refine BX10_full_27 pc cl219 ⟨fun _ => ?_, fun z => by rw [hR.1.2.2.2.2.2.2] at z; omega⟩
    rw [hR.1.1]
    refine ⟨fun z => by omega, fun _ => ⟨by omega, ?_⟩⟩
    rw [show w = g_W (A_g A) by omega] at hs ⊢
    rw [w32_r (x := _ * 1000) (by omega) (by omega), Int.tdiv_eq_ediv_of_nonneg (by omega)]
    have hd1 : 0 ≤ sumF (fun w => if aL A w = l then widA (A_g A) (A_st A 19).toNat w else 0) (g_W (A_g A)) * 1000 / g_wi (A_g A) := Int.ediv_nonneg (by omega) (by omega)
    have hd2 := Int.ediv_le_self (a := sumF (fun w => if aL A w = l then widA (A_g A) (A_st A 19).toNat w else 0) (g_W (A_g A)) * 1000) (g_wi (A_g A)) (by omega)
    rw [w32_r (by omega) (by omega)]
    exact hq
  | succ m ih =>
    intro w hw
    have hs := sumF_rg hrg w
    have hs1 := hrg w
    refine BX10_full_27 pc cl219 ⟨fun z => by rw [hR.1.2.2.2.2.2.2] at z; omega, fun _ => ?_⟩
    refine c_lineOf N.1 N.2.2 (by omega) (fun _ => ?_)
    rw [w32_r (x := (w : Int) + 1) (by omega) (by omega), show ((w : Int) + 1) = ((w + 1 : Nat) : Int) by omega]
    have := ih (w + 1) (by omega)
    unfold sumF at this
    refine ⟨fun z => ?_, fun z => ?_⟩
    · have e : ¬ aL A (w : Int) = l := z
      rw [if_neg e, Int.add_zero] at this; exact this
    · have e : aL A (w : Int) = l := z
      rw [if_pos e] at this
      have o5 := oks.2.2.2.2
      have hI : gi h 67 4 = ((A_st A 19).toNat : Int) := by rw [hS.inkv]; omega
      rw [hI]
      refine c_wideOf pc (by omega) (by omega) (fun _ => ?_)
      have ewd : gi h (pg a + 18) ((A_st A 19).toNat * 30 + w) = widA (A_g A) (A_st A 19).toNat w := N.1.2.2.1.2.2.2.1 w (by show w < g_W (A_g A); omega)
      rw [ewd]
      rw [if_pos e] at hs1
      dsimp only
      rw [w32_r (by omega) (by omega)]
      exact this
theorem k_full (X : RC h A) {l : Int} (hq : ∀ h', RC h' A → fr frCl h h' → Q (some (vI (r_full A l))) h') : C2 (d + 6) mX10_full [vR 64, vI l] h Q := by
  have hq0 := hq h X fr.rf
  obtain ⟨a, pt, X⟩ := X
  obtain ⟨okg, oks, hR, hS, pc, pu, pl⟩ := X.okg
  unfold r_full at hq hq0
  refine EX10_full fun _ => BX10_full_0 (c_isLine X (fun _ => ⟨fun z => ?_, fun z => by rw [if_neg (if00 z)] at hq0; exact hq0⟩))
  have hl := if01 z
  refine c_current X ⟨pc, c_setting X (fun h1 X1 N1 F1 => ⟨cl219, ?_⟩)⟩
  have hq1 := hq h1 ⟨a, pt, X1⟩ F1
  rw [if_pos hl] at hq1
  exact full_loop X1 N1 hq1 (g_W (A_g A)) 0 (by omega)
theorem tiedSh_loop {s : Nat} (cs : CLf s = 9) {f : Nat → Int} (hf : ∀ i, i < 6 → gi h (s + 3) i = f i) (hq : Q (some (vI (bitsF (fun i => decide (f i ≠ -1)) 6))) h) : ∀ m i : Nat, i + m = 6 → T2 d mX8_tiedShapes 4 [some (vR s), some (vI (bitsF (fun i => decide (f i ≠ -1)) i)), some (vI (i : Int))] [] h Q := by
  intro m
  induction m with
  | zero =>
    intro i hi
    refine BX8_tiedShapes_4 cs ⟨fun _ => ?_, fun z => by omega⟩
    rw [show i = 6 by omega]; exact hq
  | succ m ih =>
    intro i hi
    refine BX8_tiedShapes_4 cs ⟨fun z => by omega, fun _ => ⟨⟨by omega, by omega⟩, ?_⟩⟩
    try simp only [Int.toNat_natCast]
    rw [hf i (by omega), w32_r (by omega) (by omega), show ((i : Int) + 1) = ((i + 1 : Nat) : Int) by omega]
    have := ih (i + 1) (by omega)
    unfold bitsF at this
    refine ⟨fun z => ?_, fun z => ?_⟩
    · have e : decide (f i ≠ -1) = false := decide_eq_false (fun e => e z)
      rw [e] at this; exact this
    · have e : decide (f i ≠ -1) = true := decide_eq_true z
      rw [e] at this; exact this
theorem k_count (X : RC h A) {w : Int} (hq : ∀ h', RC h' A → fr frCl h h' → Q (some (vI (r_count A w))) h') : C2 (d + 6) mX10_count [vR 64, vI w] h Q := by
  have hq0 := hq h X fr.rf
  obtain ⟨a, pt, X⟩ := X
  obtain ⟨okg, oks, hR, hS, pc, pu, pl⟩ := X.okg
  obtain ⟨⟨a1, a2, a3, a4, a5, a6, a7⟩, -⟩ := hR
  unfold r_count at hq hq0
  refine EX10_count fun _ => BX10_count_0 ⟨fun z => c_current X ⟨pc, ?_⟩, fun z => c_current X ⟨pc, ?_⟩, fun z => ?_, fun z => ?_, fun z => ?_, fun z => c_setting X (fun h1 X1 N1 F1 => ⟨cl219, ?_⟩), fun z => ?_, fun z => ?_, fun z => c_current X ⟨pc, ?_⟩, fun z => ?_⟩
  · rw [a6]; rw [if_pos z] at hq0; exact hq0
  · rw [a7]; rw [if_neg (by omega), if_pos z] at hq0; exact hq0
  · rw [hS.inkv]; rw [if_neg (by omega), if_neg (by omega), if_pos z] at hq0; exact hq0
  · rw [show gi h 67 3 = A_st A 18 from hS 18 (by omega)]; rw [if_neg (by omega), if_neg (by omega), if_neg (by omega), if_pos z] at hq0; exact hq0
  · rw [if_neg (by omega), if_neg (by omega), if_neg (by omega), if_neg (by omega), if_pos z] at hq0
    refine EX8_tiedShapes (BX8_tiedShapes_0 cl67 (tiedSh_loop cl67 (f := fun i => A_st A (12 + i)) (fun i hi => ?_) (fun _ => hq0) 6 0 (by omega)))
    have := hS (12 + i) (by omega); rw [SV_3 hi] at this; exact this
  · have hq1 := hq h1 ⟨a, pt, X1⟩ F1
    rw [if_neg (by omega), if_neg (by omega), if_neg (by omega), if_neg (by omega), if_neg (by omega), if_pos z] at hq1
    rw [show gi h1 (219 + 1) 4 = (aS A).length from N1.po.2.2.1.1]; exact hq1
  · obtain ⟨n, n1, n2, n3, n4⟩ := X.2.2.2.2.2.2.1
    rw [n3]; rw [if_neg (by omega), if_neg (by omega), if_neg (by omega), if_neg (by omega), if_neg (by omega), if_neg (by omega), if_pos z] at hq0; exact hq0
  · rw [X.2.2.1.1]; rw [if_neg (by omega), if_neg (by omega), if_neg (by omega), if_neg (by omega), if_neg (by omega), if_neg (by omega), if_neg (by omega), if_pos z] at hq0; exact hq0
  · rw [a5]; rw [if_neg (by omega), if_neg (by omega), if_neg (by omega), if_neg (by omega), if_neg (by omega), if_neg (by omega), if_neg (by omega), if_neg (by omega), if_pos z] at hq0; exact hq0
  · rw [if_neg (by omega), if_neg (by omega), if_neg (by omega), if_neg (by omega), if_neg (by omega), if_neg (by omega), if_neg (by omega), if_neg (by omega), if_neg (by omega)] at hq0; exact hq0
end
