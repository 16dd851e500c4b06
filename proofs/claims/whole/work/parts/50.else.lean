/-! THE CLASS: otherwise -/
theorem itr_inv {v : VW} {L : SL} {P : CF → Prop} (hs : ∀ c, P c → P (stp v L c)) : ∀ (n : Nat) (c : CF), P c → P (itr v L n c) := by
  intro n
  induction n with
  | zero => intro c hc; exact hc
  | succ n ih => intro c hc; exact ih _ (hs c hc)
theorem prd_lf (v : VW) (wi : Int) (ht : Nat → Int) (j : Nat) : c_sl (prd v wi ht) j < 0 → c_lf (prd v wi ht) j = -1 := by
  refine itr_inv (P := fun c => c_sl c j < 0 → c_lf c j = -1) (fun c hc => ?_) _ (cf0 (slA v wi ht)) (fun _ => rfl)
  unfold stp
  split
  · split
    · exact hc
    · split
      · show upf (c_sl c) (c_w c) (c_k c) j < 0 → upf (c_lf c) (c_w c) (c_a c) j = -1
        unfold upf
        split
        · intro z; omega
        · exact hc
      · exact hc
  · exact hc
def shn (A : AS) : Int := sumF (fun w => if bit (A_st A 18) w then 0 else 1) (g_W (A_g A))
def lwF (A : AS) : Nat → Nat → Int
  | 0, _ => -1
  | m + 1, w => if plcd (A_v A) (w : Int) (-1) = shn A then (w : Int) else lwF A m (w + 1)
def r_leastWide (A : AS) : Int := lwF A 191 10
/-- the best of m, from i on -/
def bst (f : Nat → Int × Int) : Nat → Nat → Int × Int × Int → Int
  | 0, _, r => r.1
  | m + 1, i, r => if r.2.1 < (f i).1 ∨ ((f i).1 = r.2.1 ∧ (f i).2 < r.2.2) then bst f m (i + 1) ((i : Int), f i) else bst f m (i + 1) r
theorem bst_no {f : Nat → Int × Int} {m i : Nat} {r : Int × Int × Int} (h : ¬ (r.2.1 < (f i).1 ∨ ((f i).1 = r.2.1 ∧ (f i).2 < r.2.2))) : bst f (m + 1) i r = bst f m (i + 1) r := by
  show (if r.2.1 < (f i).1 ∨ ((f i).1 = r.2.1 ∧ (f i).2 < r.2.2) then _ else _) = _
  rw [if_neg h]
theorem bst_ye {f : Nat → Int × Int} {m i : Nat} {r : Int × Int × Int} (h : r.2.1 < (f i).1 ∨ ((f i).1 = r.2.1 ∧ (f i).2 < r.2.2)) : bst f (m + 1) i r = bst f m (i + 1) ((i : Int), f i) := by
  show (if r.2.1 < (f i).1 ∨ ((f i).1 = r.2.1 ∧ (f i).2 < r.2.2) then _ else _) = _
  rw [if_pos h]
def trF (A : AS) (st : Nat → Int) (asd : Int) : Int × Int := (plcd (vw (A_g A) st) (A_w A) asd, lstL (vw (A_g A) st) (A_w A) asd)
def r_bestX (A : AS) (s : Int) : Int := if jS A s then bst (fun x => trF A (upf (A_st A) s.toNat (x : Int)) (-1)) 201 0 (0, -1, -1) else -2
def r_costs (A : AS) : Int := bst (fun s => trF A (A_st A) (s : Int)) (g_S (A_g A)) 0 (-1, -1, -1)
def pshd (A : AS) (s : Int) (w : Nat) : Bool := decide (aL A w ≠ fL (A_v A) (A_w A) s w ∨ (aL A w ≠ -1 ∧ c_lf (aC A) w ≠ c_lf (fC (A_v A) (A_w A) s) w))
def r_pushes (A : AS) (s : Int) : Int := if jS A s then bitsF (pshd A s) (g_W (A_g A)) else -2
section
variable {d : Nat} {h : PH} {Q : Option PV → PH → Prop}
variable {A : AS} {a : Nat} {pt : Nat → PG}
theorem lw_loop (X0 : RCa h A a pt) (hq : ∀ h', RCa h' A a pt → fr (frZ (pg a)) h h' → Q (some (vI (r_leastWide A))) h') :
    ∀ (m w : Nat) (h1 : PH), w + m = 201 → lwF A m w = r_leastWide A → RCa h1 A a pt → fr (frZ (pg a)) h h1 → T2 (d + 5) mX10_leastWide 24 [some (vR 64), some (vR (pg a)), some (vI (shn A)), some (vI (w : Int))] [] h1 Q := by
  obtain ⟨-, -, -, -, pc, pu, pl⟩ := X0.okg
  intro m
  induction m with
  | zero =>
    intro w h1 hw e X F
    refine BX10_leastWide_24 pc ⟨fun _ => ?_, fun z => by omega⟩
    have := hq h1 X F
    rw [← e] at this; exact this
  | succ m ih =>
    intro w h1 hw e X F
    obtain ⟨okg, oks, hR, hS, -⟩ := X.okg
    refine BX10_leastWide_24 pc ⟨fun z => by omega, fun _ => ?_⟩
    refine c_settle2 cl233 cl234 pc cl67 (by omega) pu (by omega) (by omega) hR okg hS oks (by omega) (fun h2 b1 b2 b3 b4 b5 b6 b7 => ⟨rfl, ?_⟩)
    have F2 : fr (frZ (pg a)) h1 h2 := b7.mono (fun q k z => by unfold frSt at z; unfold frZ; omega)
    have X2 := X.keepZ F2 (by rw [X.2.1.2.2]; exact b3) b4
    dsimp only
    rw [b2.placed]
    unfold lwF at e
    refine ⟨fun z => ?_, fun z => ?_⟩
    · rw [if_neg (show ¬ plcd (A_v A) (w : Int) (-1) = shn A from z)] at e
      rw [w32_r (by omega) (by omega), show ((w : Int) + 1) = ((w + 1 : Nat) : Int) by omega]
      exact ih (w + 1) h2 (by omega) e X2 (F.tr F2)
    · rw [if_pos (show plcd (A_v A) (w : Int) (-1) = shn A from z)] at e
      rw [e]
      exact hq h2 X2 (F.tr F2)
theorem shn_eq {A : AS} (okg : POK (A_g A)) (oks : SOK (A_g A) (A_st A)) : (g_W (A_g A) : Int) - pcF (A_st A 18) = shn A ∧ 0 ≤ A_st A 18 ∧ A_st A 18 < 1073741824 ∧ 0 ≤ shn A ∧ shn A ≤ 30 := by
  have o1 := okg.1
  have b1 := bits_rg oks.2.2.2.1 (n := g_W (A_g A)) (by omega) oks.2.2.1
  have b2 := pcF_cut (n := g_W (A_g A)) (by omega) oks.2.2.1
  have b3 := sum_flip (fun w => bit (A_st A 18) w) (g_W (A_g A))
  have b4 := sumF_rg (f := fun w => if bit (A_st A 18) w then 0 else 1) (M := 1) (fun n => by split <;> omega) (g_W (A_g A))
  refine ⟨by rw [b2]; exact b3, b1.1, b1.2, b4.1, ?_⟩
  unfold shn; omega
theorem k_leastWide (X : RC h A) (hq : ∀ h', RC h' A → fr frCl h h' → Q (some (vI (r_leastWide A))) h') : C2 (d + 5) mX10_leastWide [vR 64] h Q := by
  obtain ⟨a, pt, X⟩ := X
  obtain ⟨okg, oks, hR, hS, pc, pu, pl⟩ := X.okg
  obtain ⟨e1, e2, e3, e4, e5⟩ := shn_eq okg oks
  refine EX10_leastWide (BX10_leastWide_0 (c_current X ⟨pc, ?_⟩))
  rw [show gi h 67 3 = A_st A 18 from hS 18 (by omega), hR.1.2.2.2.2.2.2]
  refine c_bitCount e2 e3 (fun _ => ?_)
  dsimp only
  rw [e1, w32_r (by omega) (by omega)]
  exact lw_loop X (fun h' X' F' => hq h' ⟨a, pt, X'⟩ (fr_C1 pu F')) 191 10 h (by omega) rfl X fr.rf
theorem c_isBetter {t p s ink : Nat} {v : VW} {wi asd m l : Int} (ct : CLf t = 7) (X : StC h t p s ink v wi) (D : DN h t v wi asd) (hq : Q (some (vI (if m < plcd v wi asd ∨ (plcd v wi asd = m ∧ lstL v wi asd < l) then 1 else 0))) h) : C2 (d + 2) mX6_isBetter [vR t, vI m, vI l] h Q := by
  refine EX6_isBetter fun _ _ => BX6_isBetter_0 ct ?_
  rw [D.placed]
  refine ⟨fun z => ?_, fun z => ⟨fun y => ?_, fun y => c_lastLine X D (fun _ => ⟨fun u => ?_, fun u => ?_⟩)⟩⟩
  · rw [if_pos (Or.inl z)] at hq; exact hq
  · rw [if_neg (by omega)] at hq; exact hq
  · rw [if_neg (by omega)] at hq; exact hq
  · rw [if_pos (Or.inr ⟨y, u⟩)] at hq; exact hq
theorem SOK_x {g : PG} {st : Nat → Int} (h : SOK g st) {s : Nat} (hs : s < 6) {x : Int} (hx : 0 ≤ x ∧ x ≤ 200) : SOK g (upf st s x) := by
  obtain ⟨h1, h2, h3, h4, h5⟩ := h
  refine ⟨fun i hi => ?_, fun i hi hi2 => ?_, fun w hw => ?_, ?_, ?_⟩
  · have := h1 i hi
    unfold upf
    rw [if_neg (show ¬ 6 + i = s by omega), if_neg (show ¬ 12 + i = s by omega)]
    split <;> omega
  · unfold upf; rw [if_neg (by omega)]; exact h2 i hi hi2
  · unfold upf; rw [if_neg (by omega)]; exact h3 w hw
  · unfold upf; rw [if_neg (by omega)]; exact h4
  · unfold upf; rw [if_neg (by omega)]; exact h5
theorem bx_loop (X0 : RCa h A a pt) {s : Nat} (hs : s < g_S (A_g A)) {G : Int} (hq : ∀ h', RCa h' A a pt → fr (frZ (pg a)) h h' → Q (some (vI G)) h') :
    ∀ (m x : Nat) (r : Int × Int × Int) (st : Nat → Int) (h1 : PH), x + m = 201 → bst (fun x => trF A (upf (A_st A) s (x : Int)) (-1)) m x r = G → RCa h1 A a pt → StV h1 71 st → (∀ j, j ≠ s → st j = A_st A j) → fr (frZ (pg a)) h h1 → T2 (d + 6) mX10_bestX 32 [some (vR 64), some (vI (s : Int)), some (vI r.1), some (vI r.2.1), some (vI r.2.2), some (vI (x : Int))] [] h1 Q := by
  obtain ⟨okg, oks, -, -, pc, pu, pl⟩ := X0.okg
  have o1 := okg.1
  intro m
  induction m with
  | zero =>
    intro x r st h1 hx e X D hst F
    refine BX10_bestX_32 ⟨fun _ => ?_, fun z => by omega⟩
    have := hq h1 X F
    rw [← e] at this; exact this
  | succ m ih =>
    intro x r st h1 hx e X D hst F
    refine BX10_bestX_32 ⟨fun z => by omega, fun _ => ⟨⟨by omega, by omega⟩, fun h2 e2 => ?_⟩⟩
    subst e2
    try simp only [Int.toNat_natCast]
    have D2 : StV (si h1 72 s (x : Int)) 71 (upf (A_st A) s (x : Int)) := by
      have := D.upd (k := s) (v := (x : Int)) (by omega)
      rw [show svc 71 s = (72, s) by unfold svc; rw [if_pos (by omega)]] at this
      intro k hk
      rw [this k hk]
      unfold upf
      split
      · rfl
      · exact hst k (by assumption)
    obtain ⟨X2, F2⟩ := X.draft (h' := si h1 72 s (x : Int)) (fr.rf.si (by unfold frD; omega))
    refine c_try X2 D2 (SOK_x oks (by omega) (by omega)) (fun h3 X3 S3 N3 D3 K3 G3 F3 => ⟨rfl, ?_⟩)
    have F9 := (F.tr F2).tr F3
    rw [w32_r (x := (x : Int) + 1) (by omega) (by omega), show ((x : Int) + 1) = ((x + 1 : Nat) : Int) by omega]
    refine c_isBetter cl233 S3 N3 (fun _ => ⟨fun z => ?_, fun z => ?_⟩)
    · have e := (bst_no (if00 z)).symm.trans e
      exact ih (x + 1) r _ h3 (by omega) e X3 D3 (fun j hj => by unfold upf; rw [if_neg hj]) F9
    · have e := (bst_ye (if01 z)).symm.trans e
      refine c_lastLine S3 N3 (fun _ => ?_)
      rw [N3.placed]
      exact ih (x + 1) ((x : Int), trF A (upf (A_st A) s (x : Int)) (-1)) _ h3 (by omega) e X3 D3 (fun j hj => by unfold upf; rw [if_neg hj]) F9
theorem k_bestX (X : RC h A) {s : Int} (hq : ∀ h', RC h' A → fr frCl h h' → Q (some (vI (r_bestX A s))) h') : C2 (d + 6) mX10_bestX [vR 64, vI s] h Q := by
  have hX := X
  obtain ⟨a, pt, X⟩ := X
  obtain ⟨-, -, -, -, pc, pu, pl⟩ := X.okg
  unfold r_bestX at hq
  refine EX10_bestX fun _ => BX10_bestX_0 (c_isShape X (fun _ => ⟨fun z => ?_, fun z => ?_⟩))
  · have hs := if01 z
    have hs' : jS A s := hs
    rw [if_pos hs'] at hq
    obtain ⟨n, hn⟩ := ex_nat hs.1
    subst hn
    rw [Int.toNat_natCast] at hq
    refine c_draft X (fun h1 X1 D1 F1 E1 => ⟨rfl, ?_⟩)
    exact bx_loop X (by omega) (fun h' X' F' => hq h' ⟨a, pt, X'⟩ (fr_C1 pu F')) 201 0 (0, -1, -1) (A_st A) h1 (by omega) rfl X1 D1 (fun j _ => rfl) F1
  · have := hq h hX fr.rf
    rw [if_neg (show ¬ jS A s from if00 z)] at this; exact this
theorem co_loop (X0 : RCa h A a pt) {G : Int} (hq : ∀ h', RCa h' A a pt → fr (frZ (pg a)) h h' → Q (some (vI G)) h') :
    ∀ (m s : Nat) (r : Int × Int × Int) (h1 : PH), s + m = g_S (A_g A) → bst (fun s => trF A (A_st A) (s : Int)) m s r = G → RCa h1 A a pt → StV h1 71 (A_st A) → fr (frZ (pg a)) h h1 → T2 (d + 6) mX10_costs 20 [some (vR 64), some (vI r.1), some (vI r.2.1), some (vI r.2.2), some (vI (s : Int))] [] h1 Q := by
  obtain ⟨okg, oks, -, -, pc, pu, pl⟩ := X0.okg
  have o1 := okg.1
  intro m
  induction m with
  | zero =>
    intro s r h1 hx e X D F
    obtain ⟨-, -, hR, -⟩ := X.okg
    refine BX10_costs_20 (c_current X ⟨pc, ?_⟩)
    rw [hR.1.2.2.2.2.2.1]
    refine ⟨fun _ => ?_, fun z => by omega⟩
    have := hq h1 X F
    rw [← e] at this; exact this
  | succ m ih =>
    intro s r h1 hx e X D F
    obtain ⟨-, -, hR, -⟩ := X.okg
    refine BX10_costs_20 (c_current X ⟨pc, ?_⟩)
    rw [hR.1.2.2.2.2.2.1]
    refine ⟨fun z => by omega, fun _ => ?_⟩
    refine c_try X D oks (fun h3 X3 S3 N3 D3 K3 G3 F3 => ⟨rfl, ?_⟩)
    have F9 := F.tr F3
    rw [w32_r (x := (s : Int) + 1) (by omega) (by omega), show ((s : Int) + 1) = ((s + 1 : Nat) : Int) by omega]
    refine c_isBetter cl233 S3 N3 (fun _ => ⟨fun z => ?_, fun z => ?_⟩)
    · have e := (bst_no (if00 z)).symm.trans e
      exact ih (s + 1) r h3 (by omega) e X3 D3 F9
    · have e := (bst_ye (if01 z)).symm.trans e
      refine c_lastLine S3 N3 (fun _ => ?_)
      rw [N3.placed]
      exact ih (s + 1) ((s : Int), trF A (A_st A) (s : Int)) h3 (by omega) e X3 D3 F9
theorem k_costs (X : RC h A) (hq : ∀ h', RC h' A → fr frCl h h' → Q (some (vI (r_costs A))) h') : C2 (d + 6) mX10_costs [vR 64] h Q := by
  obtain ⟨a, pt, X⟩ := X
  obtain ⟨-, -, -, -, pc, pu, pl⟩ := X.okg
  refine EX10_costs (BX10_costs_0 (c_draft X (fun h1 X1 D1 F1 E1 => ⟨rfl, ?_⟩)))
  exact co_loop X (fun h' X' F' => hq h' ⟨a, pt, X'⟩ (fr_C1 pu F')) (g_S (A_g A)) 0 (-1, -1, -1) h1 (by omega) rfl X1 D1 F1
theorem c_setting2 (X : RCa h A a pt) (hq : ∀ h', RCa h' A a pt → NW h' A a → gi h' 64 12 = 1 → fr frCl h h' → Q (some (vR 219)) h') : C2 (d + 5) mX10_setting [vR 64] h Q := by
  obtain ⟨okg, oks, hR, hS, pc, pu, pl⟩ := X.okg
  refine EX10_setting (BX10_setting_0 ⟨fun z => ?_, fun z => ?_⟩)
  · rcases X.2.2.2.2.2.2.2.2.1 with y | ⟨y0, y1, y2, y3, -⟩
    · exact absurd y z
    · exact hq h X ⟨y1, y2, y3⟩ y0 fr.rf
  · refine c_current X ⟨pc, c_current X ⟨pc, ?_⟩⟩
    rw [hR.1.1]
    have okg1 := okg.1
    refine c_settle2 cl219 cl220 pc cl67 (by omega) pu (by omega) (by omega) hR okg hS oks (by omega) (fun h1 b1 b2 b3 b4 b5 b6 b7 => ⟨rfl, ?_⟩)
    refine c_cutRest b1 b2 (fun h2 c1 c2 c3 => ⟨rfl, fun h3 e3 => ?_⟩)
    subst e3
    have F2 : fr (frY (pg a)) h h2 := (b7.mono (fun q k z => by unfold frSt at z; unfold frY frZ; omega)).tr (c3.mono (fun q k z => by unfold frU at z; unfold frY; omega))
    have F3 : fr (frY (pg a)) h (si h2 64 12 1) := F2.si (by unfold frY; omega)
    have k3 : ∀ q k, q ≠ 64 → gi (si h2 64 12 1) q k = gi h2 q k := fun q k z => gi_s1 z
    have kp : ∀ q k, q < 219 → gi h2 q k = gi h1 q k := fun q k z => c3.1 _ _ (by unfold frU; omega)
    have S2 : StC (si h2 64 12 1) 219 (pg a) 67 (A_st A 19).toNat (vw (A_g A) (A_st A)) (g_wi (A_g A)) := by
      have S1 := b1.keep (c3.mono (fun q k z => frU_T z))
      obtain ⟨x1, ⟨x2, x3, x4⟩, x5, x6⟩ := S1
      exact ⟨x1, ⟨x2, x3, by rw [k3 _ _ (by omega)]; exact x4⟩, x5.keep (fun q k z => k3 _ _ (by omega)), x6⟩
    have D2 : DN (si h2 64 12 1) 219 (vw (A_g A) (A_st A)) (g_wi (A_g A)) (-1) := c1.keep (fun q k z1 z2 => k3 _ _ (by omega))
    have P2 : PO (si h2 64 12 1) 219 (vw (A_g A) (A_st A)) (g_wi (A_g A)) (fH (vw (A_g A) (A_st A)) (g_wi (A_g A)) (-1)) (g_ln (A_g A)) := c2.keep (fun q k z => k3 _ _ (by omega))
    have R2 : RCp (si h2 64 12 1) (pg a) (pt a) := by
      rw [X.2.1.2.2]
      exact b3.keep (fun q k z1 z2 => by rw [k3 _ _ (by omega), kp _ _ (by omega)])
    refine hq _ (X.keepW F3 R2 (Or.inr ⟨gi_s0, S2, D2, P2, ?_, ?_⟩)) ⟨S2, D2, P2⟩ gi_s0 (F3.mono (fun q k z => frY_C pu z))
    · rw [k3 _ _ (by omega), kp _ _ (by omega)]; exact b5
    · rw [k3 _ _ (by omega), kp _ _ (by omega)]; exact b6
theorem pu_loop (X : RCa h A a pt) (N : NW h A a) {s : Int} (S : StC h 233 (pg a) 71 (A_st A 19).toNat (A_v A) (A_w A)) (D : DN h 233 (A_v A) (A_w A) s) (hq : Q (some (vI (bitsF (pshd A s) (g_W (A_g A))))) h) : ∀ m w : Nat, w + m = g_W (A_g A) → T2 (d + 1) mX10_pushes 37 [some (vR 64), none, some (vR 219), some (vI (bitsF (pshd A s) w)), some (vI (w : Int))] [] h Q := by
  obtain ⟨okg, oks, hR, hS, pc, pu, pl⟩ := X.okg
  have okg1 := okg.1
  obtain ⟨⟨-, ⟨n, P⟩, -, -⟩, -, -⟩ := D
  obtain ⟨m1, m2, m3, m4, m5⟩ := N.po
  have q5 := P.2.2.2.2.2.1
  intro m
  induction m with
  | zero =>
    intro w hw
    refine BX10_pushes_37 cl219 (c_current X ⟨pc, ?_⟩)
    rw [hR.1.2.2.2.2.2.2]
    refine ⟨fun _ => ?_, fun z => by omega⟩
    rw [show w = g_W (A_g A) by omega]; exact hq
  | succ m ih =>
    intro w hw
    have := ih (w + 1) (by omega)
    unfold bitsF at this
    refine BX10_pushes_37 cl219 (c_current X ⟨pc, ?_⟩)
    rw [hR.1.2.2.2.2.2.2]
    refine ⟨fun z => by omega, fun _ => c_lineOf N.1 N.2.2 (by omega) (fun _ => c_lineOf S P (by omega) (fun _ => ?_))⟩
    rw [w32_r (by omega) (by omega), show ((w : Int) + 1) = ((w + 1 : Nat) : Int) by omega]
    have go : pshd A s w = true → T2 (d + 1) mX10_pushes 87 [some (vR 64), none, some (vR 219), some (vI (bitsF (pshd A s) w)), some (vI (w : Int))] [] h Q := fun e => by
      refine BX10_pushes_87 cl219 ?_
      rw [w32_r (by omega) (by omega), show ((w : Int) + 1) = ((w + 1 : Nat) : Int) by omega]
      rw [if_pos e] at this; exact this
    refine ⟨fun z => go (decide_eq_true (Or.inl z)), fun z => ⟨⟨by omega, by omega⟩, ⟨by omega, by omega⟩, ?_⟩⟩
    try simp only [Int.toNat_natCast]
    rw [(m5.1 w (by omega)).2, (q5 w (by omega)).2]
    refine ⟨fun y => ?_, fun y => go (decide_eq_true (Or.inr ⟨fun u => y ?_, y⟩))⟩
    · have e : pshd A s w = false := decide_eq_false (fun u => by
        rcases u with u | u
        · exact u z
        · exact u.2 y)
      rw [e] at this; exact this
    · have k1 : c_sl (prd (A_v A) (A_w A) (fH (A_v A) (A_w A) (-1))) w < 0 := by
        by_cases g : 0 ≤ c_sl (prd (A_v A) (A_w A) (fH (A_v A) (A_w A) (-1))) w
        · unfold aL fL lnW at u
          rw [if_pos ⟨by omega, by show (w : Int) < g_W (A_g A); omega, by rw [Int.toNat_natCast]; exact g⟩] at u
          omega
        · omega
      have u2 : lnW (A_v A) (A_w A) (fH (A_v A) (A_w A) s) (w : Int) = -1 := z.symm.trans u
      have k2 : c_sl (prd (A_v A) (A_w A) (fH (A_v A) (A_w A) s)) w < 0 := by
        by_cases g : 0 ≤ c_sl (prd (A_v A) (A_w A) (fH (A_v A) (A_w A) s)) w
        · unfold lnW at u2
          rw [if_pos ⟨by omega, by show (w : Int) < g_W (A_g A); omega, by rw [Int.toNat_natCast]; exact g⟩] at u2
          omega
        · omega
      exact (prd_lf _ _ _ _ k1).trans (prd_lf _ _ _ _ k2).symm
theorem k_pushes (X : RC h A) {s : Int} (hq : ∀ h', RC h' A → fr frCl h h' → Q (some (vI (r_pushes A s))) h') : C2 (d + 6) mX10_pushes [vR 64, vI s] h Q := by
  have hX := X
  obtain ⟨a, pt, X⟩ := X
  obtain ⟨okg, oks, -, -, pc, pu, pl⟩ := X.okg
  unfold r_pushes at hq
  refine EX10_pushes fun _ => BX10_pushes_0 (c_isShape X (fun _ => ⟨fun z => ?_, fun z => ?_⟩))
  · have hs' : jS A s := if01 z
    rw [if_pos hs'] at hq
    refine c_setting2 X (fun h1 X1 N1 G1 F1 => ⟨cl219, ?_⟩)
    refine c_draft X1 (fun h2 X2 D2 F2 E2 => ⟨rfl, ?_⟩)
    refine c_try X2 D2 oks (fun h3 X3 S3 N3 D3 K3 G3 F3 => ⟨rfl, ?_⟩)
    have FF := (fr_C1 pu F2).tr (fr_C1 pu F3)
    have N9 : NW h3 A a := by
      have e12 : gi h3 64 12 = 1 := by rw [G3 12, E2 64 12 (by unfold inS; omega)]; exact G1
      rcases X3.2.2.2.2.2.2.2.2.1 with y | ⟨y0, y1, y2, y3, -⟩
      · omega
      · exact ⟨y1, y2, y3⟩
    exact pu_loop X3 N9 S3 N3 (hq h3 ⟨a, pt, X3⟩ (F1.tr FF)) (g_W (A_g A)) 0 (by omega)
  · have := hq h hX fr.rf
    rw [if_neg (show ¬ jS A s from if00 z)] at this; exact this
end
