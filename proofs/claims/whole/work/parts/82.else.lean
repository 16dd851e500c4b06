/-! THE MODEL: otherwise -/
theorem MC.setW {h : PH} {g : PG} {st : Nat → Int} {wi asd : Int} (a : MC h g st wi asd) {w : Int} (hw : 0 ≤ w ∧ w ≤ 200) : MC (si h 247 20 w) g st w asd := by
  obtain ⟨a1, a2, a3, a4, a5, a6, a7, a8⟩ := a
  exact ⟨a1, a2, a3.keep a1 (fun j _ _ => gi_s1 (by omega)), fun k h1 h2 => by rw [gi_s1 (by omega)]; exact a4 k h1 h2, by rw [gi_s2 (by omega)]; exact a5, gi_s0, fun s hs => by rw [gi_s2 (by omega)]; exact a7 s hs, hw.1, hw.2⟩
theorem MC.setA {h : PH} {g : PG} {st : Nat → Int} {wi asd : Int} (a : MC h g st wi asd) {s : Nat} (hs : s < 32) : MC (si h 247 22 (ishl 1 (s : Int))) g st wi (s : Int) := by
  obtain ⟨a1, a2, a3, a4, a5, a6, a7, a8⟩ := a
  exact ⟨a1, a2, a3.keep a1 (fun j _ _ => gi_s1 (by omega)), fun k h1 h2 => by rw [gi_s1 (by omega)]; exact a4 k h1 h2, by rw [gi_s2 (by omega)]; exact a5, by rw [gi_s2 (by omega)]; exact a6, fun i hi => by rw [gi_s0, bit_shl1 hs hi]; exact decide_eq_decide.mpr (by omega), a8⟩
theorem bn1 {p l m q : Int} (z : p < m) : ¬ (m < p ∨ (p = m ∧ l < q)) := by omega
theorem bn2 {p l m q : Int} (y : p = m) (u : q ≤ l) : ¬ (m < p ∨ (p = m ∧ l < q)) := by omega
theorem by1 {p l m q : Int} (z : m ≤ p) (y : p ≠ m) : m < p ∨ (p = m ∧ l < q) := by omega
theorem bst_first {f : Nat → Int × Int} (hf : ∀ i, 0 ≤ (f i).1) {m i : Nat} {a b u v : Int} (h : m = 0 → a = b) : bst f m i (a, -1, u) = bst f m i (b, -1, v) := by
  cases m with
  | zero => exact h rfl
  | succ m =>
    have h1 := hf i
    rw [bst_ye (r := (a, -1, u)) (Or.inl (by show -1 < (f i).1; omega)), bst_ye (r := (b, -1, v)) (Or.inl (by show -1 < (f i).1; omega))]
theorem trF_0 (A : AS) (st : Nat → Int) (asd : Int) : 0 ≤ (trF A st asd).1 := Int.natCast_nonneg _
theorem lnW_pl {v : VW} {wi : Int} {ht : Nat → Int} {w : Nat} (h : lnW v wi ht (w : Int) ≠ -1) : 0 ≤ c_sl (prd v wi ht) w := by
  unfold lnW at h
  by_cases c : 0 ≤ (w : Int) ∧ (w : Int) < v_W v ∧ 0 ≤ c_sl (prd v wi ht) ((w : Int)).toNat
  · have := c.2.2
    rw [Int.toNat_natCast] at this; exact this
  · rw [if_neg c] at h; exact absurd rfl h
section
variable {d : Nat} {h : PH} {Q : Option PV → PH → Prop}
variable {g : PG} {st : Nat → Int} {wi asd : Int}
theorem m_shown_loop (X : MC h g st wi asd) (hq : Q (some (vI (sumF (fun w => if bit (st 18) w then 0 else 1) (g_W g)))) h) : ∀ m w : Nat, w + m = g_W g → T2 (d + 2) mX11_shownNow 4 [some (vR 247), some (vI (sumF (fun w => if bit (st 18) w then 0 else 1) w)), some (vI (w : Int))] [] h Q := by
  obtain ⟨ok, ⟨a1, a2, a3, a4, a5, a6, a7⟩, b⟩ := X.vw
  have ok1 := X.1.1
  have a5' : gi h 248 6 = g_W g := a5
  intro m
  induction m with
  | zero =>
    intro w hw
    refine BX11_shownNow_4 ⟨fun _ => ?_, fun z => by rw [a5'] at z; omega⟩
    rw [show w = g_W g by omega]; exact hq
  | succ m ih =>
    intro w hw
    have hr := sumF_rg (f := fun w => if bit (st 18) w then (0 : Int) else 1) (M := 1) (fun n => by split <;> omega) w
    refine BX11_shownNow_4 ⟨fun z => by rw [a5'] at z; omega, fun _ => ?_⟩
    have su : sumF (fun w => if bit (st 18) w then (0 : Int) else 1) (w + 1) = sumF (fun w => if bit (st 18) w then (0 : Int) else 1) w + (if bit (st 18) w then 0 else 1) := rfl
    have := ih (w + 1) (by omega)
    rw [su] at this
    rw [w32_r (x := (w : Int) + 1) (by omega) (by omega), show (w : Int) + 1 = ((w + 1 : Nat) : Int) by omega, w32_r (x := sumF (fun w => if bit (st 18) w then (0 : Int) else 1) w + 0) (by omega) (by omega), w32_r (x := sumF (fun w => if bit (st 18) w then (0 : Int) else 1) w + 1) (by omega) (by omega)]
    refine c_isShown X (by omega) (fun _ => ?_)
    have hv : v_hd (vw g st) w = bit (st 18) w := rfl
    rw [hv]
    cases hb : bit (st 18) w with
    | true => rw [hb] at this; exact ⟨fun _ => this, fun z => by simp at z⟩
    | false => rw [hb] at this; exact ⟨fun z => by simp at z, fun _ => this⟩
theorem m_shownNow (X : MC h g st wi asd) (hq : Q (some (vI (sumF (fun w => if bit (st 18) w then 0 else 1) (g_W g)))) h) : C2 (d + 2) mX11_shownNow [vR 247] h Q :=
  EX11_shownNow (BX11_shownNow_0 (m_shown_loop X hq (g_W g) 0 (by omega)))
end
section
variable {d : Nat} {h : PH} {Q : Option PV → PH → Prop}
variable {A : AS}
theorem nl_loop (X0 : RM h A) (hq : ∀ h', RM h' A → fr frMo h h' → Q (some (vI (r_leastWide A))) h') :
    ∀ (m w : Nat) (wi : Int) (h1 : PH), w + m = 201 → lwF A m w = r_leastWide A → RM h1 A → MC h1 (A_g A) (A_st A) wi (-1) → fr frMo h h1 → T2 (d + 9) mX11_leastWide 12 [some (vR 247), some (vI (w : Int))] [] h1 Q := by
  intro m
  induction m with
  | zero =>
    intro w wi h1 hw e X M F
    refine BX11_leastWide_12 ⟨fun _ => ?_, fun z => by omega⟩
    have := hq h1 X F
    rw [← e] at this; exact this
  | succ m ih =>
    intro w wi h1 hw e X M F
    refine BX11_leastWide_12 ⟨fun z => by omega, fun _ h2 e2 => ?_⟩
    subst e2
    have M2 := M.setW (w := (w : Int)) ⟨by omega, by omega⟩
    refine c_sets (d := d) M2 (fun h3 D3 F3 => ⟨rfl, ?_⟩)
    have M3 := M2.keep F3
    have F13 : fr frMs h1 h3 := (fr.rf.si (by unfold frMs; omega)).tr (F3.mono (fun q k z => frN_Ms z))
    have X3 := X.keep F13
    have F9 := F.tr (F13.mono (fun q k z => frMs_o z))
    refine m_placedNow M3 D3 (fun _ => m_shownNow (d := d + 6) M3 (fun _ => ?_))
    rw [w32_r (by omega) (by omega), show ((w : Int) + 1) = ((w + 1 : Nat) : Int) by omega]
    unfold lwF at e
    refine ⟨fun z => ?_, fun z => ?_⟩
    · rw [if_neg (show ¬ plcd (A_v A) (w : Int) (-1) = shn A from z)] at e
      exact ih (w + 1) w h3 (by omega) e X3 M3 F9
    · rw [if_pos (show plcd (A_v A) (w : Int) (-1) = shn A from z)] at e
      rw [e]
      exact hq h3 X3 F9
theorem n_leastWide (X : RM h A) (hq : ∀ h', RM h' A → fr frMo h h' → Q (some (vI (r_leastWide A))) h') : C2 (d + 9) mX11_leastWide [vR 247] h Q := by
  refine EX11_leastWide (BX11_leastWide_0 (fun h1 e1 => ?_))
  obtain ⟨X1, F1⟩ := X.z e1
  refine m_asks X1.mg (fun h2 M2 F2 => ⟨rfl, ?_⟩)
  have F2' : fr frMs h1 h2 := F2.mono (fun q k z => by unfold frAs at z; unfold frMs; omega)
  exact nl_loop X hq 191 10 _ h2 (by omega) rfl (X1.keep F2') M2 (F1.tr (F2'.mono (fun q k z => frMs_o z)))
def frBx (s : Nat) : Nat → Nat → Prop := fun q k => frMs q k ∨ (q = 248 ∧ k = 91 + s)
theorem nb_mg (X : RM h A) {s : Nat} (hs : s < 6) {h1 : PH} (F : fr (frBx s) h h1) {x : Int} (hx : 0 ≤ x ∧ x ≤ 200) : MG (si h1 248 (91 + s) x) (A_g A) (upf (A_st A) s x) := by
  refine ⟨X.1.1, SOK_x X.1.2.1 hs hx, X.mg.2.2.1.keep X.1.1 (fun j hj hj2 => by rw [gi_s2 (by omega), F.1 _ _ (by unfold frBx frMs; omega)]), fun k hk => ?_⟩
  unfold upf
  by_cases e : k = s
  · subst e; rw [if_pos rfl, gi_s0]
  · rw [if_neg e, gi_s2 (by omega), F.1 _ _ (by unfold frBx frMs; omega)]; exact X.mg.2.2.2 k hk
theorem nb_loop (X : RM h A) {s : Nat} (hs : s < g_S (A_g A)) {G : Int} (hq : ∀ h', RM h' A → fr frMo h h' → Q (some (vI G)) h') :
    ∀ (m x : Nat) (r : Int × Int × Int) (h1 : PH), x + m = 201 → bst (fun x => trF A (upf (A_st A) s (x : Int)) (-1)) m x r = G → fr (frBx s) h h1 → T2 (d + 10) mX11_bestX 40 [some (vR 247), some (vI (s : Int)), some (vI (A_st A s)), some (vI r.1), some (vI r.2.1), some (vI r.2.2), some (vI (x : Int))] [] h1 Q := by
  have ok1 := X.1.1.1
  intro m
  induction m with
  | zero =>
    intro x r h1 hx e F
    refine BX11_bestX_40 ⟨fun _ => ?_, fun z => by omega⟩
    rw [w32a (k := 91) (n := 91) (s := s) rfl (by omega), Int.toNat_natCast]
    refine ⟨⟨by omega, by omega⟩, fun h2 e2 => ?_⟩
    have e' : r.1 = G := e
    rw [e']
    have F2 : fr (frBx s) h h2 := by subst e2; exact F.si (by unfold frBx; omega)
    have F3 : fr frNs h h2 := F2.mono (fun q k z => z.elim Or.inl (fun z => Or.inr (by omega)))
    have p := X.2.2.2.2.2.1
    have gP : ∀ k, 111 ≤ k → gi h2 248 k = gi h 248 k := fun k hk => F2.1 _ _ (by unfold frBx frMs; omega)
    have := X.newSt (st := A_st A) (pa := A_pa A) F3 X.1 (fun k hk => by
      subst e2
      by_cases c : k = s
      · subst c; exact gi_s0
      · rw [gi_s2 (by omega), F.1 _ _ (by unfold frBx frMs; omega)]; exact X.mg.2.2.2 k hk) ⟨by rw [gP _ (by omega)]; exact p.1, fun i hi k hk => by rw [gP _ (by omega)]; exact p.2 i hi k hk⟩
    exact hq h2 this (F3.mono (fun q k z => frNs_o z))
  | succ m ih =>
    intro x r h1 hx e F
    refine BX11_bestX_40 ⟨fun z => by omega, fun _ => ?_⟩
    rw [w32a (k := 91) (n := 91) (s := s) rfl (by omega), Int.toNat_natCast]
    refine ⟨⟨by omega, by omega⟩, fun h2 e2 => ?_⟩
    have M2 : MG h2 (A_g A) (upf (A_st A) s (x : Int)) := by subst e2; exact nb_mg X (by omega) F ⟨by omega, by omega⟩
    have F2 : fr (frBx s) h h2 := by subst e2; exact F.si (by unfold frBx; omega)
    refine m_setsNow2 (d := d) M2 (fun h3 M3 D3 F3 => ⟨rfl, ?_⟩)
    have F9 : fr (frBx s) h h3 := F2.tr (F3.mono (fun q k z => by unfold frA2 at z; unfold frBx frMs; omega))
    rw [w32_r (x := (x : Int) + 1) (by omega) (by omega), show ((x : Int) + 1) = ((x + 1 : Nat) : Int) by omega]
    have go : (r.2.1 < plcd (vw (A_g A) (upf (A_st A) s (x : Int))) (A_w A) (-1) ∨ (plcd (vw (A_g A) (upf (A_st A) s (x : Int))) (A_w A) (-1) = r.2.1 ∧ lstL (vw (A_g A) (upf (A_st A) s (x : Int))) (A_w A) (-1) < r.2.2)) → T2 (d + 9 + 1) mX11_bestX 93 [some (vR 247), some (vI (s : Int)), some (vI (A_st A s)), none, none, none, some (vI (x : Int))] [] h3 Q := fun c => by
      refine BX11_bestX_93 (m_placedNow M3 D3 (fun _ => m_lastNow (d := d + 8) M3 D3 (fun _ => ?_)))
      rw [w32_r (x := (x : Int) + 1) (by omega) (by omega), show ((x : Int) + 1) = ((x + 1 : Nat) : Int) by omega]
      exact ih (x + 1) ((x : Int), trF A (upf (A_st A) s (x : Int)) (-1)) h3 (by omega) ((bst_ye c).symm.trans e) F9
    refine m_placedNow M3 D3 (fun _ => ⟨fun z => ?_, fun z => m_placedNow M3 D3 (fun _ => ⟨fun y => go (by1 z y), fun y => m_lastNow (d := d + 8) M3 D3 (fun _ => ⟨fun u => go (Or.inr ⟨y, u⟩), fun u => ?_⟩)⟩)⟩)
    · exact ih (x + 1) r h3 (by omega) ((bst_no (bn1 z)).symm.trans e) F9
    · exact ih (x + 1) r h3 (by omega) ((bst_no (bn2 y u)).symm.trans e) F9
theorem n_bestX (X : RM h A) {s : Int} (hq : ∀ h', RM h' A → fr frMo h h' → Q (some (vI (r_bestX A s))) h') : C2 (d + 10) mX11_bestX [vR 247, vI s] h Q := by
  unfold r_bestX at hq
  have ok1 := X.1.1.1
  refine EX11_bestX fun _ => BX11_bestX_0 (fun h1 e1 => ?_)
  obtain ⟨X1, F1⟩ := X.z e1
  refine m_isShape (d := d + 8) X1.mg (fun _ => ⟨fun z => ?_, fun z => ?_⟩)
  · have hs := if01 z
    have hs' : jS A s := hs
    rw [if_pos hs'] at hq
    obtain ⟨n, hn⟩ := ex_nat hs.1
    subst hn
    rw [Int.toNat_natCast] at hq
    rw [w32a (k := 91) (n := 91) (s := n) rfl (by omega), Int.toNat_natCast, X1.mg.2.2.2 n (by omega)]
    refine ⟨⟨by omega, by omega⟩, ?_⟩
    exact nb_loop X1 (by omega) (fun h' X' F' => hq h' X' (F1.tr F')) 201 0 (-1, -1, 268435456) h1 (by omega) (bst_first (fun i => trF_0 _ _ _) (fun z => by omega)) fr.rf
  · have := hq h1 X1 F1
    rw [if_neg (show ¬ jS A s from if00 z)] at this; exact this
theorem nc_loop {G : Int} (hq : ∀ h', RM h' A → fr frMo h h' → Q (some (vI G)) h') :
    ∀ (m s : Nat) (r : Int × Int × Int) (h1 : PH), s + m = g_S (A_g A) → bst (fun s => trF A (A_st A) (s : Int)) m s r = G → RM h1 A → fr frMo h h1 → T2 (d + 9) mX11_costs 16 [some (vR 247), some (vI r.1), some (vI r.2.1), some (vI r.2.2), some (vI (s : Int))] [] h1 Q := by
  intro m
  induction m with
  | zero =>
    intro s r h1 hx e X F
    have e5 := X.mg.fl.2.2.2.2.2.1
    refine BX11_costs_16 ⟨fun _ => ?_, fun z => by rw [e5] at z; omega⟩
    have e' : r.1 = G := e
    rw [e']
    exact hq h1 X F
  | succ m ih =>
    intro s r h1 hx e X F
    have ok1 := X.1.1.1
    have e5 := X.mg.fl.2.2.2.2.2.1
    refine BX11_costs_16 ⟨fun z => by rw [e5] at z; omega, fun _ => ?_⟩
    refine m_asks X.mg (fun h2 M2 F2 => ⟨rfl, fun h3 e3 => ?_⟩)
    subst e3
    refine c_sets (d := d) (M2.setA (s := s) (by omega)) (fun h4 D4 F4 => ⟨rfl, ?_⟩)
    have M4 := (M2.setA (s := s) (by omega)).keep F4
    have F14 : fr frMs h1 h4 := ((F2.mono (fun q k z => by unfold frAs at z; unfold frMs; omega)).si (by unfold frMs; omega)).tr (F4.mono (fun q k z => frN_Ms z))
    have X4 := X.keep F14
    have F9 := F.tr (F14.mono (fun q k z => frMs_o z))
    rw [w32_r (x := (s : Int) + 1) (by omega) (by omega), show ((s : Int) + 1) = ((s + 1 : Nat) : Int) by omega]
    have go : (r.2.1 < plcd (A_v A) (A_w A) (s : Int) ∨ (plcd (A_v A) (A_w A) (s : Int) = r.2.1 ∧ lstL (A_v A) (A_w A) (s : Int) < r.2.2)) → T2 (d + 8 + 1) mX11_costs 70 [some (vR 247), none, none, none, some (vI (s : Int))] [] h4 Q := fun c => by
      refine BX11_costs_70 (m_placedNow M4 D4 (fun _ => m_lastNow (d := d + 7) M4 D4 (fun _ => ?_)))
      rw [w32_r (x := (s : Int) + 1) (by omega) (by omega), show ((s : Int) + 1) = ((s + 1 : Nat) : Int) by omega]
      exact ih (s + 1) ((s : Int), trF A (A_st A) (s : Int)) h4 (by omega) ((bst_ye c).symm.trans e) X4 F9
    refine m_placedNow M4 D4 (fun _ => ⟨fun z => ?_, fun z => m_placedNow M4 D4 (fun _ => ⟨fun y => go (by1 z y), fun y => m_lastNow (d := d + 7) M4 D4 (fun _ => ⟨fun u => go (Or.inr ⟨y, u⟩), fun u => ?_⟩)⟩)⟩)
    · exact ih (s + 1) r h4 (by omega) ((bst_no (bn1 z)).symm.trans e) X4 F9
    · exact ih (s + 1) r h4 (by omega) ((bst_no (bn2 y u)).symm.trans e) X4 F9
theorem n_costs (X : RM h A) (hq : ∀ h', RM h' A → fr frMo h h' → Q (some (vI (r_costs A))) h') : C2 (d + 9) mX11_costs [vR 247] h Q := by
  refine EX11_costs (BX11_costs_0 (fun h1 e1 => ?_))
  obtain ⟨X1, F1⟩ := X.z e1
  exact nc_loop hq (g_S (A_g A)) 0 (-1, -1, 268435456) h1 (by omega) (bst_first (fun i => trF_0 _ _ _) (fun _ => rfl)) X1 F1
theorem np_in (X : RM h A) (M : MC h (A_g A) (A_st A) (A_w A) (-1)) (D : DM h (A_v A) (A_w A) (-1)) {s : Nat} (hq : ∀ h', (∀ j, j < g_W (A_g A) → gi h' 271 j = aL A j ∧ (0 ≤ c_sl (aC A) j → gi h' 272 j = c_lf (aC A) j)) → fr (fun q _ => q = 271 ∨ q = 272) h h' → T2 (d + 1) mX11_pushes 23 [some (vR 247), some (vI (s : Int)), some (vI (g_W (A_g A) : Int)), none] [] h' Q) :
    ∀ (m w : Nat) (h1 : PH), w + m = g_W (A_g A) → (∀ j, j < w → gi h1 271 j = aL A j ∧ (0 ≤ c_sl (aC A) j → gi h1 272 j = c_lf (aC A) j)) → fr (fun q _ => q = 271 ∨ q = 272) h h1 → T2 (d + 1) mX11_pushes 23 [some (vR 247), some (vI (s : Int)), some (vI (w : Int)), none] [] h1 Q := by
  have ok1 := X.1.1.1
  have e6 := X.mg.fl.2.2.2.2.2.2
  intro m
  induction m with
  | zero =>
    intro w h1 hw hj F
    rw [show w = g_W (A_g A) by omega]
    exact hq h1 (fun j h => hj j (by omega)) F
  | succ m ih =>
    intro w h1 hw hj F
    have g6 : gi h1 248 6 = g_W (A_g A) := by rw [F.1 _ _ (by omega)]; exact e6
    have M1 : MC h1 (A_g A) (A_st A) (A_w A) (-1) := M.keepF (fun k => F.1 _ _ (by omega)) ⟨F.1 _ _ (by omega), F.1 _ _ (by omega), F.1 _ _ (by omega)⟩
    have P1 : PM h1 (A_v A) (A_w A) (aH A) := D.1.2.1.keep (fun q k z => F.1 _ _ (by omega))
    refine BX11_pushes_23 ⟨fun z => by rw [g6] at z; omega, fun _ => ?_⟩
    refine c_lineM M1 P1 (by omega) (by omega) (fun _ => ⟨⟨by omega, by omega⟩, fun h2 e2 => ⟨⟨by omega, by omega⟩, ⟨by omega, by omega⟩, fun h3 e3 => ?_⟩⟩)
    rw [w32_r (x := (w : Int) + 1) (by omega) (by omega), show (w : Int) + 1 = ((w + 1 : Nat) : Int) by omega]
    simp only [Int.toNat_natCast] at e2 e3
    subst e2
    rw [gi_s1 (by omega)] at e3
    subst e3
    refine ih (w + 1) _ (by omega) (fun j hj2 => ?_) ((F.si (by omega)).si (by omega))
    by_cases c : j = w
    · subst c
      refine ⟨by rw [gi_s1 (by omega), gi_s0]; rfl, fun z => ?_⟩
      rw [gi_s0]
      exact (P1.2.1 j (by show j < g_W (A_g A); omega)).2.1 z
    · rw [gi_s1 (by omega), gi_s2 c, gi_s2 c, gi_s1 (by omega)]
      exact hj j (by omega)
theorem np_out (X : RM h A) {s : Int} (M : MC h (A_g A) (A_st A) (A_w A) s) (D : DM h (A_v A) (A_w A) s) (hj : ∀ j, j < g_W (A_g A) → gi h 271 j = aL A j ∧ (0 ≤ c_sl (aC A) j → gi h 272 j = c_lf (aC A) j)) (hq : Q (some (vI (bitsF (pshd A s) (g_W (A_g A))))) h) :
    ∀ m w : Nat, w + m = g_W (A_g A) → T2 (d + 1) mX11_pushes 78 [some (vR 247), none, some (vI (bitsF (pshd A s) w)), some (vI (w : Int))] [] h Q := by
  have ok1 := X.1.1.1
  have e6 := X.mg.fl.2.2.2.2.2.2
  have P : PM h (A_v A) (A_w A) (fH (A_v A) (A_w A) s) := D.1.2.1
  intro m
  induction m with
  | zero =>
    intro w hw
    refine BX11_pushes_78 ⟨fun _ => ?_, fun z => by rw [e6] at z; omega⟩
    rw [show w = g_W (A_g A) by omega]; exact hq
  | succ m ih =>
    intro w hw
    have := ih (w + 1) (by omega)
    unfold bitsF at this
    obtain ⟨j1, j2⟩ := hj w (by omega)
    have pw := (P.2.1 w (by show w < g_W (A_g A); omega)).2.1
    refine BX11_pushes_78 ⟨fun z => by rw [e6] at z; omega, fun _ => ?_⟩
    have ye : pshd A s w = true → T2 (d + 1) mX11_pushes 128 [some (vR 247), none, none, some (vI (w : Int))] [vI (bitsF (pshd A s) w)] h Q := fun e => by
      refine BX11_pushes_128 ?_
      rw [w32_r (by omega) (by omega), show ((w : Int) + 1) = ((w + 1 : Nat) : Int) by omega]
      rw [if_pos e] at this; exact this
    have no : pshd A s w = false → T2 (d + 1) mX11_pushes 78 [some (vR 247), none, some (vI (ior (bitsF (pshd A s) w) 0)), some (vI ((w + 1 : Nat) : Int))] [] h Q := fun e => by
      rw [e] at this; rw [ior0 (R32_bitsF _ _)]; exact this
    rw [w32_r (by omega) (by omega), show ((w : Int) + 1) = ((w + 1 : Nat) : Int) by omega]
    try simp only [Int.toNat_natCast]
    refine c_lineM M P (by omega) (by omega) (fun _ => ⟨⟨by omega, by omega⟩, ?_⟩)
    rw [j1]
    refine ⟨fun z => ye (decide_eq_true (Or.inl (fun e => z e.symm))), fun z => c_lineM M P (by omega) (by omega) (fun _ => ⟨fun y => no (decide_eq_false (fun u => ?_)), fun y => ⟨⟨by omega, by omega⟩, ⟨by omega, by omega⟩, ?_⟩⟩)⟩
    · rcases u with u | u
      · exact u z.symm
      · exact u.1 (z.symm.trans y)
    · have k1 := lnW_pl y
      have k2 : 0 ≤ c_sl (aC A) w := lnW_pl (v := A_v A) (wi := A_w A) (ht := aH A) (fun e => y (z.trans e))
      rw [j2 k2, pw k1]
      refine ⟨fun x => no (decide_eq_false (fun u => ?_)), fun x => ye (decide_eq_true (Or.inr ⟨fun e => y (z.trans e), fun e => x e.symm⟩))⟩
      rcases u with u | u
      · exact u z.symm
      · exact u.2 x.symm
theorem n_pushes (X : RM h A) {s : Int} (hq : ∀ h', RM h' A → fr frMo h h' → Q (some (vI (r_pushes A s))) h') : C2 (d + 10) mX11_pushes [vR 247, vI s] h Q := by
  unfold r_pushes at hq
  have ok1 := X.1.1.1
  refine EX11_pushes fun _ => BX11_pushes_0 (fun h1 e1 => ?_)
  obtain ⟨X1, F1⟩ := X.z e1
  refine m_isShape (d := d + 8) X1.mg (fun _ => ⟨fun z => ?_, fun z => ?_⟩)
  · have hs := if01 z
    have hs' : jS A s := hs
    rw [if_pos hs'] at hq
    obtain ⟨n, hn⟩ := ex_nat hs.1
    subst hn
    refine n_now (d := d) X1 (fun h2 X2 M2 D2 F2 => ⟨rfl, ?_⟩)
    refine np_in X2 M2 D2 (s := n) (fun h3 J3 F3 => ?_) (g_W (A_g A)) 0 h2 (by omega) (fun j hj => absurd hj (Nat.not_lt_zero j)) fr.rf
    have F23 : fr frMs h2 h3 := F3.mono (fun q k z => by unfold frMs; omega)
    have X3 := X2.keep F23
    have M3 : MC h3 (A_g A) (A_st A) (A_w A) (-1) := M2.keepF (fun k => F3.1 _ _ (by omega)) ⟨F3.1 _ _ (by omega), F3.1 _ _ (by omega), F3.1 _ _ (by omega)⟩
    have e6 := X3.mg.fl.2.2.2.2.2.2
    refine BX11_pushes_23 ⟨fun _ h4 e4 => ?_, fun z => by rw [e6] at z; omega⟩
    subst e4
    refine c_sets (d := d + 1) (M3.setA (s := n) (by omega)) (fun h5 D5 F5 => ⟨rfl, ?_⟩)
    have M5 := (M3.setA (s := n) (by omega)).keep F5
    have F35 : fr frMs h3 h5 := (fr.rf.si (by unfold frMs; omega)).tr (F5.mono (fun q k z => frN_Ms z))
    have X5 := X3.keep F35
    refine np_out X5 M5 D5 (fun j hj => ?_) (hq h5 X5 (((F1.tr F2).tr (F23.mono (fun q k z => frMs_o z))).tr (F35.mono (fun q k z => frMs_o z)))) (g_W (A_g A)) 0 (by omega)
    rw [F5.1 271 _ (by unfold frN; omega), F5.1 272 _ (by unfold frN; omega), gi_s1 (by omega), gi_s1 (by omega)]
    exact J3 j hj
  · have := hq h1 X1 F1
    rw [if_neg (show ¬ jS A s from if00 z)] at this; exact this
end
