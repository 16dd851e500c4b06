/-! THE MODEL: laws are read, level by level -/
section
variable {d : Nat} {h : PH} {Q : Option PV → PH → Prop}
variable {f : Nat → Int} {n b : Nat} {W : Bool}
theorem opT_26 (K : Int) (h : opT K ≠ -1) : K ≠ 26 := by have := opT_k h; omega
theorem opA_26 (K : Int) (h : opA K ≠ -1) : K ≠ 26 := by have := opA_k h; omega
theorem opB_26 (K : Int) (h : opB K ≠ -1) : K ≠ 26 := by have := opB_k h; omega
theorem opO_26 (K : Int) (h : opO K ≠ -1) : K ≠ 26 := by have := opO_k h; omega
theorem n_term {r : Nat} (hr : r ≤ 6) {inn : Option (LPr × LPr × LPr)} (hI : INM f n b W r inn) (hL : LV f n (WT W) r inn) : MCm f n b W mX11_readTerm (6 - (r : Int)) (10 + 7 * r) (termP f n W inn) := by
  intro D h Q k r0 hD hk En X hq
  obtain ⟨d, rfl⟩ : ∃ d, D = d + 10 := ⟨D - 10, by omega⟩
  have hn := En.1.1
  refine EX11_readTerm fun _ => BX11_readTerm_0 (d := d + 9) (n_atom hr hI _ h _ k r0 (by omega) hk En X (fun h1 b1 b2 => ⟨rfl, ?_⟩))
  refine n_many (Q := Q) (W := W) (Tm := fun h => T2 (d + 10) mX11_readTerm 5 [some (vR 247), some (vI (6 - (r : Int)))] [] h Q) (op := opT) (g := atomP f n W inn) opT_26 (atom_ty (f := f) (n := n) (MkW W) hL).prg (k := k) (fun h r En X stop go => ?_) 900 h1 _ (En.keep b2) b1 (fun s _ => by omega) (fun h2 c1 c2 => hq h2 ?_ (b2.tr c2))
  · refine BX11_readTerm_5 (d := d + 9) (N_eats (d := d + 2) (K := 34) (by decide) En X (fun s hs kk h1 b1 b2 _ => ⟨fun w => absurd w (by decide), fun _ => ?_⟩) (fun hn _ => ⟨fun _ => stop (fun s hs => ?_), fun w => absurd rfl w⟩))
    · have ho : opT (t_k s.1) = 3002 := by rw [kk]; decide
      refine n_atom (by assumption) hI _ h1 _ (k + 1) _ (by omega) (by omega) (En.keep b2) b1 (fun h2 c1 c2 => ⟨rfl, ?_⟩)
      refine N_add (c := 3002) hk ((En.keep b2).keep c2) c1 (fun h3 d1 d2 => ⟨rfl, go s hs (by rw [ho]; decide) h3 (by rw [ho]; exact d1) ((b2.tr c2).tr d2)⟩)
    · unfold opT; rw [if_neg (hn s hs)]
  · rw [bdn_as] at c1
    exact c1
theorem n_sum {r : Nat} (hr : r ≤ 6) {inn : Option (LPr × LPr × LPr)} (hI : INM f n b W r inn) (hL : LV f n (WT W) r inn) : MCm f n b W mX11_readSum (6 - (r : Int)) (11 + 7 * r) (sumP f n W inn) := by
  intro D h Q k r0 hD hk En X hq
  obtain ⟨d, rfl⟩ : ∃ d, D = d + 11 := ⟨D - 11, by omega⟩
  have hn := En.1.1
  have tt : PRG f n (termP f n W inn) := (chain_ty (f := f) (n := n) (fun k h => by have := opT_k h; omega) (atom_ty (f := f) (n := n) (MkW W) hL) (fun c h => (MkW W).mono c false (5 * r + 1) (5 * r + 2) h (by omega)) (fun k x y h hx hy => by
    have := opT_k h
    exact (MkW W).bin x y false false (opT k) (5 * r + 2) (5 * r + 1) (5 * r + 2) hx hy (by omega) (fun z => by omega) (fun z => by cases z) (by omega) (by omega)) 900).prg
  refine EX11_readSum fun _ => BX11_readSum_0 (d := d + 10) (n_term hr hI hL _ h _ k r0 (by omega) hk En X (fun h1 b1 b2 => ⟨rfl, ?_⟩))
  refine n_many (Q := Q) (W := W) (Tm := fun h => T2 (d + 11) mX11_readSum 5 [some (vR 247), some (vI (6 - (r : Int))), none] [] h Q) (op := opA) (g := termP f n W inn) opA_26 tt (k := k) (fun h r0 En X stop go => ?_) 900 h1 _ (En.keep b2) b1 (fun s _ => by omega) (fun h2 c1 c2 => hq h2 ?_ (b2.tr c2))
  · have gg : ∀ (s : LSt) (c : Int), r0 = .ok s → opA (t_k s.1) = c → c ≠ -1 → T2 (d + 11) mX11_readSum 41 [some (vR 247), some (vI (6 - (r : Int))), none] [vI c] h Q := fun s c hs ho hc => by
      subst hs
      refine BX11_readSum_41 (d := d + 10) (N_next (d := d + 4) (j := k + 1) (by omega) En X (opA_26 _ (by rw [ho]; exact hc)) (fun h1 b1 b2 => ⟨rfl, ?_⟩))
      refine n_term hr hI hL _ h1 _ (k + 1) _ (by omega) (by omega) (En.keep b2) b1 (fun h2 c1 c2 => ⟨rfl, ?_⟩)
      refine N_add (c := c) hk ((En.keep b2).keep c2) c1 (fun h3 d1 d2 => ⟨rfl, go s rfl (by rw [ho]; exact hc) h3 (by rw [ho]; exact d1) ((b2.tr c2).tr d2)⟩)
    refine BX11_readSum_5 (d := d + 10) (N_is (K := 32) (by decide) X (fun s hs kk _ => ⟨fun _ => ?_, fun w => absurd w (by decide)⟩) (fun h32 _ => ⟨fun w => absurd rfl w, fun _ => N_is (K := 33) (by decide) X (fun s hs kk _ => ⟨fun w => absurd w (by decide), fun _ => ?_⟩) (fun h33 _ => ⟨fun _ => stop (fun s hs => ?_), fun w => absurd rfl w⟩)⟩))
    · have e9 : gi h 247 9 = t_k s.1 := by subst hs; exact X.1.2.2.1
      refine BX11_readSum_23 ⟨fun w => absurd (e9.trans kk) w, fun _ => gg s 3000 hs (by rw [kk]; decide) (by decide)⟩
    · have e9 : gi h 247 9 = t_k s.1 := by subst hs; exact X.1.2.2.1
      refine BX11_readSum_23 ⟨fun _ => gg s 3001 hs (by rw [kk]; decide) (by decide), fun w => by omega⟩
    · unfold opA; rw [if_neg (h32 s hs), if_neg (h33 s hs)]
  · rw [bdn_as] at c1
    exact c1
theorem n_unit {r : Nat} (hr : r ≤ 6) {inn : Option (LPr × LPr × LPr)} (hI : INM f n b W r inn) (hL : LV f n (WT W) r inn) : MCm f n b W mX11_readUnit (6 - (r : Int)) (12 + 7 * r) (unitP f n W inn) := by
  intro D h Q k r0 hD hk En X hq
  obtain ⟨d, rfl⟩ : ∃ d, D = d + 12 := ⟨D - 12, by omega⟩
  refine EX11_readUnit fun _ => BX11_readUnit_0 (d := d + 11) (N_is (K := 23) (by decide) X (fun s hs k23 _ => ⟨fun w => absurd w (by decide), fun _ => ?_⟩) (fun h23 _ => ⟨fun _ => N_is (K := 37) (by decide) X (fun s hs k37 _ => ⟨fun w => absurd w (by decide), fun _ => ?_⟩) (fun h37 _ => ⟨fun _ => ?_, fun w => absurd rfl w⟩), fun w => absurd rfl w⟩))
  · subst hs
    refine N_goesIn (d := d + 4) hr En X (by omega) (fun hr0 h1 b1 b2 _ => ⟨fun _ => ?_, fun v => absurd v (by decide)⟩) (fun hr0 h1 b1 b2 _ => ⟨fun v => absurd rfl v, fun _ => ?_⟩)
    · cases inn with
      | none => exact absurd hI (by show ¬ r = 0; omega)
      | some g =>
        rw [w32_r (by omega) (by omega)]
        have E1 := En.keep b2
        refine hI.2.2.2 _ h1 _ (k + 1) _ (by omega) (by omega) E1 b1 (fun h2 c1 c2 => ⟨rfl, ?_⟩)
        refine N_add (c := 3006) hk (E1.keep c2) c1 (fun h3 d1 d2 => ⟨rfl, hq h3 ?_ ((b2.tr c2).tr d2)⟩)
        show MS h3 f n b k (unitP f n W (some g) s)
        rw [un23s k23]
        rw [bdn_as] at d1
        exact d1
    · cases inn with
      | none => exact hq h1 (by show MS h1 f n b k (unitP f n W none s); rw [un23n k23]; exact b1) b2
      | some g => exact absurd hI.1 (by omega)
  · subst hs
    refine N_goesIn (d := d + 4) hr En X (by omega) (fun hr0 h1 b1 b2 _ => ⟨fun _ => ?_, fun v => absurd v (by decide)⟩) (fun hr0 h1 b1 b2 _ => ⟨fun v => absurd rfl v, fun _ => ?_⟩)
    · cases inn with
      | none => exact absurd hI (by show ¬ r = 0; omega)
      | some g =>
        rw [w32_r (by omega) (by omega)]
        have E1 := En.keep b2
        refine hI.2.2.1 _ h1 _ (k + 1) _ (by omega) (by omega) E1 b1 (fun h2 c1 c2 => ⟨rfl, ?_⟩)
        refine N_eat (K := 38) (P := fun h => Q none h) (d := d + 4) (by decide) (E1.keep c2) c1 (fun h3 d1 d2 => hq h3 ?_ ((b2.tr c2).tr d2))
        show MS h3 f n b k (unitP f n W (some g) s)
        rw [un37s k37]
        rw [bdn_as] at d1
        exact d1.le (by omega)
    · cases inn with
      | none => exact hq h1 (by show MS h1 f n b k (unitP f n W none s); rw [un37n k37]; exact b1) b2
      | some g => exact absurd hI.1 (by omega)
  · have efin : ∀ h', MS h' f n b k (bdn (bdn r0 (sumP f n W inn)) fun s1 => if opC (t_k s1.1) = -1 then lEr 2 s1 else bdn (lNx f n s1) fun s2 => bdn (sumP f n W inn s2) fun s3 => .ok (lPu (opC (t_k s1.1)) s3)) → MS h' f n b k (bdn r0 (unitP f n W inn)) := fun h' y => by
      cases r0 with
      | error e => exact y
      | ok s =>
        show MS h' f n b k (unitP f n W inn s)
        unfold unitP
        rw [if_neg (h23 s rfl), if_neg (h37 s rfl)]
        exact y
    refine n_sum hr hI hL _ h _ k r0 (by omega) hk En X (fun h1 b1 b2 => ⟨rfl, ?_⟩)
    have E1 := En.keep b2
    generalize hrs : bdn r0 (sumP f n W inn) = rs at b1 efin
    have go : ∀ (s : LSt) (c : Int), rs = .ok s → opC (t_k s.1) = c → c ≠ -1 → T2 (d + 12) mX11_readUnit 139 [some (vR 247), some (vI (6 - (r : Int))), some (vI c)] [] h1 Q := fun s c hs ho hc => by
      subst hs
      have o := opC_k (k := t_k s.1) (by rw [ho]; exact hc)
      refine BX11_readUnit_139 (d := d + 11) (N_next (d := d + 5) (j := k + 1) (by omega) E1 b1 (by omega) (fun h2 c1 c2 => ⟨rfl, ?_⟩))
      have E2 := E1.keep c2
      refine BX11_readUnit_151 (d := d + 11) (n_sum hr hI hL _ h2 _ (k + 1) _ (by omega) (by omega) E2 c1 (fun h3 d1 d2 => ⟨rfl, ?_⟩))
      refine N_add (c := c) hk (E2.keep d2) d1 (fun h4 e1 e2 => ⟨rfl, hq h4 (efin h4 ?_) (((b2.tr c2).tr d2).tr e2)⟩)
      show MS h4 f n b k (if opC (t_k s.1) = -1 then lEr 2 s else bdn (lNx f n s) fun s2 => bdn (sumP f n W inn s2) fun s3 => .ok (lPu (opC (t_k s.1)) s3))
      rw [ho, if_neg hc]
      rw [bdn_as] at e1
      exact e1
    have stop : ∀ c : Int, (∀ s, rs = .ok s → opC (t_k s.1) = -1) → C2 (d + 11) mX11_fails [vR 247, vI 2] h1 (onV fun h2 => T2 (d + 11 + 1) mX11_readUnit 151 [some (vR 247), some (vI (6 - (r : Int))), some (vI c)] [] h2 Q) := fun c hs => by
      refine N_fail' (j := k + 1) (by decide) b1 (fun h2 c1 c2 => ⟨rfl, ?_⟩)
      have E2 := E1.keep c2
      refine BX11_readUnit_151 (d := d + 11) (n_sum hr hI hL _ h2 _ (k + 1) _ (by omega) (by omega) E2 c1 (fun h3 d1 d2 => ⟨rfl, ?_⟩))
      refine N_add (c := c) hk (E2.keep d2) d1 (fun h4 e1 e2 => ⟨rfl, hq h4 (efin h4 ?_) (((b2.tr c2).tr d2).tr e2)⟩)
      cases rs with
      | error e => exact e1
      | ok s =>
        show MS h4 f n b k (if opC (t_k s.1) = -1 then lEr 2 s else _)
        rw [if_pos (hs s rfl)]
        exact e1
    have at111 : ∀ c : Int, (∀ s, rs = .ok s → opC (t_k s.1) ≠ -1 → opC (t_k s.1) = c) → T2 (d + 12) mX11_readUnit 111 [some (vR 247), some (vI (6 - (r : Int))), none] [vI c] h1 Q := fun c hc => by
      refine BX11_readUnit_111 (d := d + 11) (N_is (K := 39) (by decide) b1 (fun s hs kk _ => ⟨fun _ => ?_, fun w => absurd w (by decide)⟩) (fun h39 _ => ⟨fun w => absurd rfl w, fun _ => N_is (K := 40) (by decide) b1 (fun s hs kk _ => ⟨fun _ => ?_, fun w => absurd w (by decide)⟩) (fun h40 _ => ⟨fun w => absurd rfl w, fun _ => N_is (K := 41) (by decide) b1 (fun s hs kk _ => ⟨fun w => absurd w (by decide), fun _ => ?_⟩) (fun h41 _ => ⟨fun _ => stop c (fun s hs => ?_), fun w => absurd rfl w⟩)⟩)⟩))
      · have e : opC (t_k s.1) ≠ -1 := by rw [kk]; decide
        exact go s c hs (hc s hs e) (by rw [← hc s hs e]; exact e)
      · have e : opC (t_k s.1) ≠ -1 := by rw [kk]; decide
        exact go s c hs (hc s hs e) (by rw [← hc s hs e]; exact e)
      · have e : opC (t_k s.1) ≠ -1 := by rw [kk]; decide
        exact go s c hs (hc s hs e) (by rw [← hc s hs e]; exact e)
      · unfold opC
        rw [if_neg (h39 s hs), if_neg (h40 s hs), if_neg (h41 s hs)]
    refine N_is (K := 39) (by decide) b1 (fun s hs kk _ => ⟨fun w => absurd w (by decide), fun _ => at111 3003 (fun s' hs' _ => ?_)⟩) (fun h39 _ => ⟨fun _ => N_is (K := 40) (by decide) b1 (fun s hs kk _ => ⟨fun w => absurd w (by decide), fun _ => at111 3004 (fun s' hs' _ => ?_)⟩) (fun h40 _ => ⟨fun _ => at111 3005 (fun s' hs' ho => ?_), fun w => absurd rfl w⟩), fun w => absurd rfl w⟩)
    · rw [hs] at hs'; cases hs'; rw [kk]; decide
    · rw [hs] at hs'; cases hs'; rw [kk]; decide
    · unfold opC at ho ⊢
      rw [if_neg (h39 s' hs'), if_neg (h40 s' hs')] at ho ⊢
      split at ho
      · rename_i e; rw [if_pos e]
      · exact absurd rfl ho
theorem n_both {r : Nat} (hr : r ≤ 6) {inn : Option (LPr × LPr × LPr)} (hI : INM f n b W r inn) (hL : LV f n (WT W) r inn) : MCm f n b W mX11_readBoth (6 - (r : Int)) (13 + 7 * r) (bothP f n W inn) := by
  intro D h Q k r0 hD hk En X hq
  obtain ⟨d, rfl⟩ : ∃ d, D = d + 13 := ⟨D - 13, by omega⟩
  have hn := En.1.1
  refine EX11_readBoth fun _ => BX11_readBoth_0 (d := d + 12) (n_unit hr hI hL _ h _ k r0 (by omega) hk En X (fun h1 b1 b2 => ⟨rfl, ?_⟩))
  refine n_many (Q := Q) (W := W) (Tm := fun h => T2 (d + 13) mX11_readBoth 5 [some (vR 247), some (vI (6 - (r : Int)))] [] h Q) (op := opB) (g := unitP f n W inn) opB_26 (unit_ty (f := f) (n := n) (MkW W) hL).prg (k := k) (fun h r En X stop go => ?_) 900 h1 _ (En.keep b2) b1 (fun s _ => by omega) (fun h2 c1 c2 => hq h2 ?_ (b2.tr c2))
  · refine BX11_readBoth_5 (d := d + 12) (N_eats (d := d + 5) (K := 21) (by decide) En X (fun s hs kk h1 b1 b2 _ => ⟨fun w => absurd w (by decide), fun _ => ?_⟩) (fun hn _ => ⟨fun _ => stop (fun s hs => ?_), fun w => absurd rfl w⟩))
    · have ho : opB (t_k s.1) = 3007 := by rw [kk]; decide
      refine n_unit (by assumption) hI hL _ h1 _ (k + 1) _ (by omega) (by omega) (En.keep b2) b1 (fun h2 c1 c2 => ⟨rfl, ?_⟩)
      refine N_add (c := 3007) hk ((En.keep b2).keep c2) c1 (fun h3 d1 d2 => ⟨rfl, go s hs (by rw [ho]; decide) h3 (by rw [ho]; exact d1) ((b2.tr c2).tr d2)⟩)
    · unfold opB; rw [if_neg (hn s hs)]
  · rw [bdn_as] at c1
    exact c1
theorem n_truth {r : Nat} (hr : r ≤ 6) {inn : Option (LPr × LPr × LPr)} (hI : INM f n b W r inn) (hL : LV f n (WT W) r inn) : MCm f n b W mX11_readTruth (6 - (r : Int)) (14 + 7 * r) (truthP f n W inn) := by
  intro D h Q k r0 hD hk En X hq
  obtain ⟨d, rfl⟩ : ∃ d, D = d + 14 := ⟨D - 14, by omega⟩
  have hn := En.1.1
  have tt : PRG f n (bothP f n W inn) := (chain_ty (f := f) (n := n) (fun k h => by have := opB_k h; omega) (unit_ty (f := f) (n := n) (MkW W) hL) (fun c h => (MkW W).mono c true (5 * r + 4) (5 * r + 5) h (by omega)) (fun k x y h hx hy => by
    have := opB_k h
    exact (MkW W).bin x y true true (opB k) (5 * r + 5) (5 * r + 4) (5 * r + 5) hx hy (by omega) (fun _ => rfl) (fun _ => by omega) (by omega) (by omega)) 900).prg
  refine EX11_readTruth fun _ => BX11_readTruth_0 (d := d + 13) (n_both hr hI hL _ h _ k r0 (by omega) hk En X (fun h1 b1 b2 => ⟨rfl, ?_⟩))
  refine n_many (Q := Q) (W := W) (Tm := fun h => T2 (d + 14) mX11_readTruth 5 [some (vR 247), some (vI (6 - (r : Int)))] [] h Q) (op := opO) (g := bothP f n W inn) opO_26 tt (k := k) (fun h r En X stop go => ?_) 900 h1 _ (En.keep b2) b1 (fun s _ => by omega) (fun h2 c1 c2 => hq h2 ?_ (b2.tr c2))
  · refine BX11_readTruth_5 (d := d + 13) (N_eats (d := d + 6) (K := 22) (by decide) En X (fun s hs kk h1 b1 b2 _ => ⟨fun w => absurd w (by decide), fun _ => ?_⟩) (fun hn _ => ⟨fun _ => stop (fun s hs => ?_), fun w => absurd rfl w⟩))
    · have ho : opO (t_k s.1) = 3008 := by rw [kk]; decide
      refine n_both (by assumption) hI hL _ h1 _ (k + 1) _ (by omega) (by omega) (En.keep b2) b1 (fun h2 c1 c2 => ⟨rfl, ?_⟩)
      refine N_add (c := 3008) hk ((En.keep b2).keep c2) c1 (fun h3 d1 d2 => ⟨rfl, go s hs (by rw [ho]; decide) h3 (by rw [ho]; exact d1) ((b2.tr c2).tr d2)⟩)
    · unfold opO; rw [if_neg (hn s hs)]
  · rw [bdn_as] at c1
    exact c1
theorem n_lvl : ∀ r, r ≤ 6 → INM f n b W r (lvl f n W r) := by
  intro r
  induction r with
  | zero => intro _; exact rfl
  | succ r ih =>
    intro hr
    have hI := ih (by omega)
    have hL := lvl_ty (f := f) (n := n) (MkW W) r
    have e : 6 - ((r + 1 : Nat) : Int) + 1 = 6 - (r : Int) := by omega
    refine ⟨by omega, ?_, ?_, ?_⟩
    · rw [e]; exact n_sum (by omega) hI hL
    · rw [e]; exact n_truth (by omega) hI hL
    · rw [e]; exact n_unit (by omega) hI hL
end
