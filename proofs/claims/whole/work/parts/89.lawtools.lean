/-! THE MODEL: what is read, its tools -/
def MT (h : PH) (f : Nat → Int) (n : Nat) : ER TK → Prop
  | .ok t => GT f n t ∧ gi h 247 11 = 0 ∧ gi h 247 9 = t_k t ∧ gi h 247 6 = t_a t ∧ gi h 247 7 = t_b t ∧ (t_k t = 25 → gi h 247 10 = t_n t)
  | .error e => (gi h 247 11 = e.1 ∧ e.1 ≠ 0 ∧ gi h 247 12 = e.2) ∨ (gi h 247 11 = 0 ∧ gi h 247 9 = 27 ∧ e.1 = 1 ∧ gi h 247 6 = e.2 ∧ e.2 < n)
def frMt : Nat → Nat → Prop := fun q k => q = 247 ∧ (k = 6 ∨ k = 7 ∨ k = 9 ∨ k = 10 ∨ k = 11 ∨ k = 12)
theorem TPm.mt {h h' : PH} {f : Nat → Int} {n : Nat} (a : TPm h f n) (F : fr frMt h h') : TPm h' f n := a.keep (fun k => F.1 _ _ (by unfold frMt; omega)) (F.1 _ _ (by unfold frMt; omega))
theorem frNx_t {q k : Nat} (z : frNx q k) : frMt q k := by unfold frNx at z; unfold frMt; omega
theorem MT.keep {h h' : PH} {f : Nat → Int} {n : Nat} {r : ER TK} (X : MT h f n r) (e : ∀ k, k ≠ 15 → k < 20 → gi h' 247 k = gi h 247 k) : MT h' f n r := by
  cases r with
  | ok t => obtain ⟨a, b, c, d, g, i⟩ := X; exact ⟨a, by rw [e _ (by omega) (by omega)]; exact b, by rw [e _ (by omega) (by omega)]; exact c, by rw [e _ (by omega) (by omega)]; exact d, by rw [e _ (by omega) (by omega)]; exact g, fun z => by rw [e _ (by omega) (by omega)]; exact i z⟩
  | error x =>
    rcases X with ⟨a, b, c⟩ | ⟨a, b, c, d, g⟩
    · exact Or.inl ⟨by rw [e _ (by omega) (by omega)]; exact a, b, by rw [e _ (by omega) (by omega)]; exact c⟩
    · exact Or.inr ⟨by rw [e _ (by omega) (by omega)]; exact a, by rw [e _ (by omega) (by omega)]; exact b, c, by rw [e _ (by omega) (by omega)]; exact d, g⟩
theorem tok27 {f : Nat → Int} {n i : Nat} (h : t_k (tok f n i) = 27) : t_a (tok f n i) < n := by
  unfold tok at *
  rw [tokA_a]
  by_cases c : n ≤ run isB f n (n - i) i
  · unfold tokA at h
    rw [if_pos c] at h
    exact absurd (show (26 : Int) = 27 from h) (by decide)
  · omega
section
variable {d : Nat} {h : PH} {Q : Option PV → PH → Prop}
variable {f : Nat → Int} {n : Nat}
theorem m_nextT {t : TK} (T : TPm h f n) (X : MT h f n (.ok t)) (hq : ∀ h', MT h' f n (nxt f n t) → (∀ e, nxt f n t = .error e → t_b t ≤ e.2) → fr frNx h h' → Q none h') : C2 (d + 6) mX11_next [vR 247] h Q := by
  obtain ⟨a, b, c, e, g, i⟩ := X
  have hb := a.1.2.2.1
  refine m_next0 T hb g (fun h' z9 z6 z7 z10 F => hq h' ?_ (fun e he => ?_) F)
  · unfold nxt
    have e11 : gi h' 247 11 = 0 := by rw [F.1 _ _ (by unfold frNx; omega)]; exact b
    by_cases c27 : t_k (tok f n (t_b t)) = 27
    · rw [if_pos c27]
      exact Or.inr ⟨e11, by rw [z9, c27], rfl, z6, tok27 c27⟩
    · rw [if_neg c27]
      exact ⟨tok_GT f n (t_b t) hb c27, e11, z9, z6, z7, z10⟩
  · have fw := tok_fwd f n (t_b t) hb
    unfold nxt at he
    split at he
    · cases he; exact fw.1
    · cases he
theorem m_is {r : ER TK} {K : Int} (hK : K ≠ 27) (X : MT h f n r) (h1 : isK r K → Q (some (vI 1)) h) (h0 : ¬ isK r K → Q (some (vI 0)) h) : C2 d mX11_is [vR 247, vI K] h Q := by
  refine EX11_is fun _ => BX11_is_0 ⟨fun z => h0 (fun w => ?_), fun z => ⟨fun y => h0 (fun w => ?_), fun y => h1 ?_⟩⟩
  · obtain ⟨t, ht, -⟩ := w
    subst ht
    exact z X.2.1
  · obtain ⟨t, ht, hk⟩ := w
    subst ht
    exact y (by rw [X.2.2.1, hk])
  · cases r with
    | ok t => exact isK_ok.mpr (by rw [← X.2.2.1]; exact y)
    | error e =>
      rcases X with ⟨a, b, c⟩ | ⟨a, b, c⟩
      · exact absurd (a.symm.trans z) b
      · exact absurd (y.symm.trans b) hK
theorem m_fails {r : ER TK} {K : Int} (hK : K ≠ 0) (X : MT h f n r) (hq : ∀ h', MT h' f n (bq r fun t => .error (K, t_a t)) → gi h' 247 11 ≠ 0 → fr frMt h h' → Q none h') : C2 d mX11_fails [vR 247, vI K] h Q := by
  refine EX11_fails fun _ => BX11_fails_0 ⟨fun z => ⟨fun y h1 e1 h2 e2 => ?_, fun y h1 e1 h2 e2 => ?_⟩, fun z => ?_⟩
  · have g6 : gi h1 247 6 = gi h 247 6 := by subst e1; exact gi_s2 (by omega)
    rw [g6] at e2
    have F : fr frMt h h2 := by subst e2 e1; exact (fr.rf.si (by unfold frMt; omega)).si (by unfold frMt; omega)
    have k11 : gi h2 247 11 = K := by subst e2 e1; rw [gi_s2 (by omega), gi_s0]
    have k12 : gi h2 247 12 = gi h 247 6 := by subst e2; exact gi_s0
    refine hq h2 ?_ (by rw [k11]; exact hK) F
    cases r with
    | ok t => exact Or.inl ⟨k11, hK, by rw [k12, X.2.2.2.1]⟩
    | error e =>
      rcases X with ⟨a, b, c⟩ | ⟨a, b, c⟩
      · exact absurd (a.symm.trans z) b
      · exact absurd b y
  · have g6 : gi h1 247 6 = gi h 247 6 := by subst e1; exact gi_s2 (by omega)
    rw [g6] at e2
    have F : fr frMt h h2 := by subst e2 e1; exact (fr.rf.si (by unfold frMt; omega)).si (by unfold frMt; omega)
    have k11 : gi h2 247 11 = 1 := by subst e2 e1; rw [gi_s2 (by omega), gi_s0]
    have k12 : gi h2 247 12 = gi h 247 6 := by subst e2; exact gi_s0
    refine hq h2 ?_ (by rw [k11]; decide) F
    cases r with
    | ok t => exact absurd (X.2.2.1.symm.trans y) X.1.1.2.2.2.1
    | error e =>
      rcases X with ⟨a, b, c⟩ | ⟨a, b, c, dd, g⟩
      · exact absurd (a.symm.trans z) b
      · exact Or.inl ⟨by rw [k11, c], by rw [c]; decide, by rw [k12, dd]⟩
  · refine hq h ?_ z fr.rf
    cases r with
    | ok t => exact absurd X.2.1 z
    | error e => exact X
theorem m_eats {r : ER TK} {K : Int} (hK : K ≠ 27) (T : TPm h f n) (X : MT h f n r) (h1 : ∀ t, r = .ok t → t_k t = K → ∀ h', MT h' f n (nxt f n t) → (∀ e, nxt f n t = .error e → t_b t ≤ e.2) → fr frMt h h' → Q (some (vI 1)) h') (h0 : ¬ isK r K → Q (some (vI 0)) h) : C2 (d + 7) mX11_eats [vR 247, vI K] h Q := by
  refine EX11_eats fun _ => BX11_eats_0 (d := d + 6) (m_is hK X (fun z _ => ⟨fun _ => ?_, fun w => absurd w (by decide)⟩) (fun z _ => ⟨fun w => absurd rfl w, fun _ => h0 z⟩))
  obtain ⟨t, ht, hk⟩ := z
  subst ht
  exact m_nextT (d := d) T X (fun h' a b c => ⟨rfl, h1 t rfl hk h' a b (c.mono (fun q k z => frNx_t z))⟩)
theorem m_eatF {r : ER TK} {K : Int} {P : PH → Prop} (hK : K ≠ 27) (T : TPm h f n) (X : MT h f n r) (hq : ∀ h', MT h' f n (bq r (eatT f n K)) → (∀ e, bq r (eatT f n K) = .error e → gi h' 247 11 = 0 → ∃ t, r = .ok t ∧ t_b t ≤ e.2) → fr frMt h h' → P h') : C2 (d + 7) mX11_eats [vR 247, vI K] h (onI fun x h1 => (x ≠ 0 → P h1) ∧ (x = 0 → C2 (d + 7) mX11_fails [vR 247, vI 2] h1 (onV fun h2 => P h2))) := by
  refine m_eats hK T X (fun t ht hk h' a b c _ => ⟨fun _ => ?_, fun w => absurd w (by decide)⟩) (fun z _ => ⟨fun w => absurd rfl w, fun _ => ?_⟩)
  · subst ht
    have e : bq (.ok t) (eatT f n K) = nxt f n t := by show eatT f n K t = _; unfold eatT; rw [if_pos hk]
    rw [e] at hq
    exact hq h' a (fun e he _ => ⟨t, rfl, b e he⟩) c
  · refine m_fails (by decide) X (fun h' a b c => ⟨rfl, hq h' ?_ (fun e he w => absurd w b) c⟩)
    cases r with
    | error e => exact a
    | ok t =>
      have e : bq (.ok t) (eatT f n K) = .error (2, t_a t) := by show eatT f n K t = _; unfold eatT; rw [if_neg (fun w => z (isK_ok.mpr w))]
      rw [e]; exact a
def MTn (h : PH) (f : Nat → Int) (n : Nat) (x : Int) : ER (Int × TK) → Prop
  | .ok a => x = a.1 ∧ MT h f n (.ok a.2)
  | .error e => MT h f n (.error e)
theorem MTn.tk {x : Int} {r : ER (Int × TK)} (X : MTn h f n x r) : MT h f n (tk2 r) := by
  cases r with
  | ok a => exact X.2
  | error e => exact X
theorem m_takes {r : ER TK} {lo up : Int} (T : TPm h f n) (X : MT h f n r) (hq : ∀ h' x, MTn h' f n x (bq r (numT f n lo up)) → fr frMt h h' → Q (some (vI x)) h') : C2 (d + 7) mX11_takes [vR 247, vI lo, vI up] h Q := by
  have dead : ∀ (K : Int), K ≠ 0 → (∀ e, (bq r fun t => (Except.error (K, t_a t) : ER TK)) = .error e → bq r (numT f n lo up) = .error e) → C2 (d + 6) mX11_fails [vR 247, vI K] h (onV fun h1 => T2 (d + 6 + 1) mX11_takes 37 [some (vR 247), none, none, none] [] h1 Q) := fun K hK hb => by
    refine m_fails hK X (fun h1 a b c => ⟨rfl, BX11_takes_37 ⟨fun _ => hq h1 _ ?_ c, fun w => absurd w b⟩⟩)
    cases hr : (bq r fun t => (Except.error (K, t_a t) : ER TK)) with
    | ok t => cases r <;> cases hr
    | error e =>
      rw [hr] at a
      rw [hb e hr]; exact a
  refine EX11_takes fun _ _ => BX11_takes_0 (d := d + 6) (m_is (by decide) X (fun z _ => ⟨fun _ => ?_, fun w => absurd w (by decide)⟩) (fun z _ => ⟨fun w => absurd rfl w, fun _ => dead 2 (by decide) (fun e he => ?_)⟩))
  · obtain ⟨t, ht, hk⟩ := z
    subst ht
    have X' := X
    obtain ⟨a, b, c, e, g, i⟩ := X
    rw [i hk]
    refine m_within (fun _ => ⟨fun z => ?_, fun z => dead 3 (by decide) (fun e he => ?_)⟩)
    · have hz := if01 z
      refine BX11_takes_37 ⟨fun w => absurd b w, fun _ => m_nextT (d := d) T X' (fun h' u1 u2 u3 => ⟨rfl, ?_⟩)⟩
      refine hq h' _ ?_ (u3.mono (fun q k z => frNx_t z))
      have en : bq (.ok t) (numT f n lo up) = bq (nxt f n t) fun u => .ok (t_n t, u) := by
        show numT f n lo up t = _
        unfold numT
        rw [if_neg (fun w => w hk), if_neg (by omega)]
      rw [en, i hk]
      cases hx : nxt f n t with
      | ok u => rw [hx] at u1; exact ⟨rfl, u1⟩
      | error e => rw [hx] at u1; exact u1
    · have hz := if00 z
      have he' : (Except.error (3, t_a t) : ER TK) = .error e := he
      cases he'
      show numT f n lo up t = .error (3, t_a t)
      unfold numT
      rw [if_neg (fun w => w hk), if_pos (by omega)]
  · cases r with
    | error e' =>
      have he' : (Except.error e' : ER TK) = .error e := he
      cases he'
      rfl
    | ok t =>
      have he' : (Except.error (2, t_a t) : ER TK) = .error e := he
      cases he'
      show numT f n lo up t = .error (2, t_a t)
      unfold numT
      rw [if_pos (fun w => z (isK_ok.mpr w))]
/-- laws -/
def MS (h : PH) (f : Nat → Int) (n b : Nat) (k : Int) : ER LSt → Prop
  | .ok s => MT h f n (.ok s.1) ∧ gi h 251 312 = ((b + s.2.length : Nat) : Int) ∧ (∀ i, i < s.2.length → gi h 251 (313 + (b + i)) = s.2.getD i 0) ∧ ((b + s.2.length : Nat) : Int) + k ≤ t_a s.1
  | .error e => MT h f n (.error e) ∧ (gi h 247 11 = 0 → (b : Int) ≤ gi h 251 312 ∧ gi h 251 312 + k ≤ e.2)
def ENm (h : PH) (f : Nat → Int) (n : Nat) (W : Bool) : Prop := TPm h f n ∧ gi h 247 15 = (if W then 0 else 1)
def frLm (b : Nat) : Nat → Nat → Prop := fun q k => frMt q k ∨ (q = 251 ∧ (k = 312 ∨ 313 + b ≤ k))
theorem frMt_L {b q k : Nat} (z : frMt q k) : frLm b q k := Or.inl z
theorem ENm.keep {h h' : PH} {W : Bool} {b : Nat} (E : ENm h f n W) (F : fr (frLm b) h h') : ENm h' f n W := ⟨E.1.keep (fun k => F.1 _ _ (by unfold frLm frMt; omega)) (F.1 _ _ (by unfold frLm frMt; omega)), by rw [F.1 _ _ (by unfold frLm frMt; omega)]; exact E.2⟩
theorem MS.tk {b : Nat} {k : Int} {r : ER LSt} (X : MS h f n b k r) : MT h f n (tkr r) := by
  cases r with
  | ok s => exact X.1
  | error e => exact X.1
theorem MS.le {b : Nat} {k j : Int} {r : ER LSt} (X : MS h f n b k r) (hj : j ≤ k) : MS h f n b j r := by
  cases r with
  | ok s => exact ⟨X.1, X.2.1, X.2.2.1, by have := X.2.2.2; omega⟩
  | error e => exact ⟨X.1, fun z => by have := X.2 z; omega⟩
variable {W : Bool} {b : Nat}
/-- the next token, behind a good one -/
theorem MS.nx {h' : PH} {k j : Int} {s : LSt} (X : MS h f n b k (.ok s)) (hj : j ≤ k + 1) (h26 : t_k s.1 ≠ 26) (hR : MT h' f n (nxt f n s.1)) (hE : ∀ e, nxt f n s.1 = .error e → t_b s.1 ≤ e.2) (F : fr frMt h h') : MS h' f n b j (lNx f n s) := by
  obtain ⟨x1, x2, x3, x4⟩ := X
  have fw := x1.1.1.2.2.2.2.1 h26
  have g : ∀ i, gi h' 251 i = gi h 251 i := fun i => F.1 _ _ (by unfold frMt; omega)
  unfold lNx
  cases hx : nxt f n s.1 with
  | ok u =>
    rw [hx] at hR
    have := (nxt_GT hx x1.1.1).2
    exact ⟨hR, by rw [g]; exact x2, fun i hi => by rw [g]; exact x3 i hi, by show ((b + s.2.length : Nat) : Int) + j ≤ t_a u; omega⟩
  | error e =>
    rw [hx] at hR
    have := hE e hx
    exact ⟨hR, fun _ => by rw [g, x2]; omega⟩
theorem N_next {k j : Int} {s : LSt} (hj : j ≤ k + 1) (En : ENm h f n W) (X : MS h f n b k (.ok s)) (h26 : t_k s.1 ≠ 26) (hq : ∀ h', MS h' f n b j (lNx f n s) → fr (frLm b) h h' → Q none h') : C2 (d + 6) mX11_next [vR 247] h Q :=
  m_nextT En.1 X.1 (fun h' a1 a2 a3 => hq h' (X.nx hj h26 a1 a2 (a3.mono (fun q k z => frNx_t z))) (a3.mono (fun q k z => frMt_L (frNx_t z))))
theorem N_is {k K : Int} {r : ER LSt} (hK : K ≠ 27) (X : MS h f n b k r) (h1 : ∀ s, r = .ok s → t_k s.1 = K → Q (some (vI 1)) h) (h0 : (∀ s, r = .ok s → t_k s.1 ≠ K) → Q (some (vI 0)) h) : C2 d mX11_is [vR 247, vI K] h Q := by
  refine m_is hK X.tk (fun z => ?_) (fun z => h0 (fun s hs hk => z (by subst hs; exact isK_ok.mpr hk)))
  cases r with
  | error e => exact absurd z isK_err
  | ok s => exact h1 s rfl (isK_ok.mp z)
theorem N_eats {k K : Int} {r : ER LSt} (hK : K ≠ 27 ∧ K ≠ 26) (En : ENm h f n W) (X : MS h f n b k r) (h1 : ∀ s, r = .ok s → t_k s.1 = K → ∀ h', MS h' f n b (k + 1) (lNx f n s) → fr (frLm b) h h' → Q (some (vI 1)) h') (h0 : (∀ s, r = .ok s → t_k s.1 ≠ K) → Q (some (vI 0)) h) : C2 (d + 7) mX11_eats [vR 247, vI K] h Q := by
  refine m_eats hK.1 En.1 X.tk (fun t ht hk h' a1 a2 a3 => ?_) (fun z => h0 (fun s hs hk => z (by subst hs; exact isK_ok.mpr hk)))
  cases r with
  | error e => cases ht
  | ok s =>
    cases ht
    exact h1 s rfl hk h' (X.nx (by omega) (by rw [hk]; exact hK.2) a1 a2 a3) (a3.mono (fun q k z => frMt_L z))
theorem N_fail {k K : Int} {r : ER LSt} (hK : K ≠ 0) (X : MS h f n b k r) (hq : ∀ h' j, MS h' f n b j (bdn r (lEr K)) → fr (frLm b) h h' → Q none h') : C2 d mX11_fails [vR 247, vI K] h Q := by
  refine m_fails hK X.tk (fun h' a1 a2 a3 => hq h' k ?_ (a3.mono (fun q k z => frMt_L z)))
  cases r with
  | error e => exact ⟨a1, fun z => absurd z a2⟩
  | ok s => exact ⟨a1, fun z => absurd z a2⟩
theorem N_fail' {k j K : Int} {r : ER LSt} (hK : K ≠ 0) (X : MS h f n b k r) (hq : ∀ h', MS h' f n b j (bdn r (lEr K)) → fr (frLm b) h h' → Q none h') : C2 d mX11_fails [vR 247, vI K] h Q := by
  refine m_fails hK X.tk (fun h' a1 a2 a3 => hq h' ?_ (a3.mono (fun q k z => frMt_L z)))
  cases r with
  | error e => exact ⟨a1, fun z => absurd z a2⟩
  | ok s => exact ⟨a1, fun z => absurd z a2⟩
theorem N_eat {k K : Int} {r : ER LSt} {P : PH → Prop} (hK : K ≠ 27 ∧ K ≠ 26) (En : ENm h f n W) (X : MS h f n b k r) (hq : ∀ h', MS h' f n b k (bdn r (eat f n K)) → fr (frLm b) h h' → P h') : C2 (d + 7) mX11_eats [vR 247, vI K] h (onI fun x h1 => (x ≠ 0 → P h1) ∧ (x = 0 → C2 (d + 7) mX11_fails [vR 247, vI 2] h1 (onV fun h2 => P h2))) := by
  refine N_eats hK En X (fun s hs hk h' a1 a2 _ => ⟨fun _ => hq h' ?_ a2, fun w => absurd w (by decide)⟩) (fun hn _ => ⟨fun w => absurd rfl w, fun _ => N_fail' (j := k) (by decide) X (fun h' a1 a2 => ⟨rfl, hq h' ?_ a2⟩)⟩)
  · subst hs
    show MS h' f n b k (eat f n K s)
    unfold eat
    rw [if_pos hk]
    exact a1.le (by omega)
  · cases r with
    | error e => exact a1
    | ok s =>
      show MS h' f n b k (eat f n K s)
      unfold eat
      rw [if_neg (hn s rfl)]
      exact a1
theorem N_code {k j c : Int} {r : ER LSt} (hj : j + 1 ≤ k) (hk : 0 ≤ k ∨ ∃ s, r = .ok s) (En : ENm h f n W) (X : MS h f n b k r) (hl9 : ∀ s, r = .ok s → b + s.2.length < 900) (hk1 : (∀ s, r ≠ .ok s) → 1 ≤ k) (hq : ∀ h', MS h' f n b j (bdn r (fun s => .ok (lPu c s))) → fr (frLm b) h h' → Q none h') : C2 d mX11_codes [vR 247, vI c] h Q := by
  have hn := En.1.1
  refine EX11_codes fun _ => BX11_codes_0 ⟨fun z => ?_, fun z => ?_⟩
  · cases r with
    | error e =>
      obtain ⟨x1, x2⟩ := X
      obtain ⟨y1, y2⟩ := x2 z
      have k1 := hk1 (fun s w => by cases w)
      rcases x1 with ⟨a, a2, a3⟩ | ⟨a1, a2, a3, a4, a5⟩
      · exact absurd (a.symm.trans z) a2
      · rw [w32_r (x := 313 + gi h 251 312) (by omega) (by omega)]
        refine ⟨⟨by omega, by omega⟩, fun h1 e1 h2 e2 => ?_⟩
        have g312 : gi h1 251 312 = gi h 251 312 := by subst e1; exact gi_s2 (by omega)
        rw [g312, w32_r (by omega) (by omega)] at e2
        have F : fr (frLm b) h h2 := by subst e2 e1; exact (fr.rf.si (by unfold frLm; omega)).si (by unfold frLm; omega)
        have k312 : gi h2 251 312 = gi h 251 312 + 1 := by subst e2; exact gi_s0
        have kk : ∀ i, gi h2 247 i = gi h 247 i := fun i => by subst e2 e1; rw [gi_s1 (by omega), gi_s1 (by omega)]
        exact hq h2 ⟨(Or.inr ⟨by rw [kk]; exact a1, by rw [kk]; exact a2, a3, by rw [kk]; exact a4, a5⟩ : MT h2 f n (.error e)), fun _ => by rw [k312]; omega⟩ F
    | ok s =>
      obtain ⟨x1, x2, x3, x4⟩ := X
      have l9 := hl9 s rfl
      rw [x2, w32_r (x := 313 + ((b + s.2.length : Nat) : Int)) (by omega) (by omega), show (313 + ((b + s.2.length : Nat) : Int)).toNat = 313 + (b + s.2.length) by omega]
      refine ⟨⟨by omega, by omega⟩, fun h1 e1 h2 e2 => ?_⟩
      have g312 : gi h1 251 312 = ((b + s.2.length : Nat) : Int) := by subst e1; rw [gi_s2 (by omega)]; exact x2
      rw [g312, w32_r (by omega) (by omega)] at e2
      have F : fr (frLm b) h h2 := by subst e2 e1; exact (fr.rf.si (by unfold frLm; omega)).si (by unfold frLm; omega)
      have len : (s.2 ++ [c]).length = s.2.length + 1 := by rw [List.length_append]; rfl
      refine hq h2 ⟨x1.keep (fun i _ _ => by subst e2 e1; rw [gi_s1 (by omega), gi_s1 (by omega)]), ?_, fun i hi => ?_, ?_⟩ F
      · show gi h2 251 312 = ((b + (s.2 ++ [c]).length : Nat) : Int)
        subst e2; rw [gi_s0, len]; omega
      · have hi' : i < (s.2 ++ [c]).length := hi
        rw [len] at hi'
        show gi h2 251 (313 + (b + i)) = (s.2 ++ [c]).getD i 0
        subst e2 e1
        rw [gi_s2 (by omega)]
        by_cases e : i = s.2.length
        · rw [e, gi_s0]
          have := getD_app2 s.2 [c] 0 0
          rw [Nat.add_zero] at this
          rw [this]; rfl
        · rw [gi_s2 (by omega), getD_app _ _ _ (by omega)]; exact x3 i (by omega)
      · show ((b + (s.2 ++ [c]).length : Nat) : Int) + j ≤ t_a s.1
        rw [len]; omega
  · cases r with
    | ok s => exact absurd X.1.2.1 z
    | error e => exact hq h ⟨X.1, fun w => absurd w z⟩ fr.rf
theorem MS.l9 {k : Int} {s : LSt} (En : ENm h f n W) (hk : 1 ≤ k) (X : MS h f n b k (.ok s)) : b + s.2.length < 900 := by
  have a1 := X.1.1.1.2.1
  have a2 := X.1.1.1.2.2.1
  have a3 := En.1.1
  have a4 := X.2.2.2
  omega
theorem MS.l9' {k : Int} {s : LSt} (En : ENm h f n W) (hk : 0 ≤ k) (X : MS h f n b k (.ok s)) (h26 : t_k s.1 ≠ 26) : b + s.2.length < 900 := by
  have a1 := X.1.1.1.2.2.2.2.1 h26
  have a2 := X.1.1.1.2.2.1
  have a3 := En.1.1
  have a4 := X.2.2.2
  omega
theorem N_add {k c : Int} {r : ER LSt} (hk : 0 ≤ k) (En : ENm h f n W) (X : MS h f n b (k + 1) r) (hq : ∀ h', MS h' f n b k (bdn r (fun s => .ok (lPu c s))) → fr (frLm b) h h' → Q none h') : C2 d mX11_codes [vR 247, vI c] h Q :=
  N_code (j := k) (by omega) (Or.inl (by omega)) En X (fun s hs => (hs ▸ X : MS h f n b (k + 1) (.ok s)).l9 En (by omega)) (fun _ => by omega) hq
theorem N_goesIn {k : Int} {s : LSt} {r : Nat} (hr : r ≤ 6) (En : ENm h f n W) (X : MS h f n b k (.ok s)) (h26 : t_k s.1 ≠ 26) (h1 : 0 < r → ∀ h', MS h' f n b (k + 1) (lNx f n s) → fr (frLm b) h h' → Q (some (vI 1)) h') (h0 : r = 0 → ∀ h', MS h' f n b k (lEr 4 s) → fr (frLm b) h h' → Q (some (vI 0)) h') : C2 (d + 7) mX11_goesIn [vR 247, vI (6 - (r : Int))] h Q := by
  refine EX11_goesIn fun _ => BX11_goesIn_0 (d := d + 6) ⟨fun z => ?_, fun z => ?_⟩
  · refine BX11_goesIn_11 ⟨fun w => absurd X.1.2.1 w, fun _ => m_nextT (d := d) En.1 X.1 (fun h' a1 a2 a3 => ⟨rfl, ?_⟩)⟩
    have e11 : gi h' 247 11 = 0 := by rw [a3.1 _ _ (by unfold frNx; omega)]; exact X.1.2.1
    exact BX11_goesIn_22 ⟨fun w => absurd e11 w, fun _ => h1 (by omega) h' (X.nx (by omega) h26 a1 a2 (a3.mono (fun q k z => frNx_t z))) (a3.mono (fun q k z => frMt_L (frNx_t z)))⟩
  · refine m_fails (by decide) X.1 (fun h' a1 a2 a3 => ⟨rfl, ?_⟩)
    have a1' : MS h' f n b k (lEr 4 s) := ⟨a1, fun w => absurd w a2⟩
    exact BX11_goesIn_11 ⟨fun _ => BX11_goesIn_22 ⟨fun _ => h0 (by omega) h' a1' (a3.mono (fun q k z => frMt_L z)), fun w => absurd w a2⟩, fun w => absurd w a2⟩
end
