/-! THE CLASS: laws are read, the tools -/
def tkr : ER LSt → ER TK
  | .ok s => .ok s.1
  | .error e => .error e
/-- the reader within a law; k codes are owed -/
def RS (h : PH) (f : Nat → Int) (n la : Nat) (k : Int) : ER LSt → Prop
  | .ok s => RT h f n (.ok s.1) ∧ LawC h la s.2 ∧ (s.2.length : Int) + k ≤ t_a s.1
  | .error e => RT h f n (.error e) ∧ 0 ≤ gi h la 3 ∧ gi h la 3 ≤ 900
def ENV (h : PH) (f : Nat → Int) (n p la : Nat) (W : Bool) : Prop := TPc h f n ∧ gr h 218 6 = p ∧ gr h 218 7 = la ∧ CLf la = 3 ∧ 130 ≤ p ∧ p ≤ 190 ∧ la = (if W then p + 10 else p + 14)
def frLa (la : Nat) : Nat → Nat → Prop := fun q k => frTk q k ∨ (q = la ∧ k = 3) ∨ q = la + 1
theorem RS.tk {h : PH} {f : Nat → Int} {n la : Nat} {k : Int} {r : ER LSt} (X : RS h f n la k r) : RT h f n (tkr r) := by
  cases r with
  | ok s => exact X.1
  | error e => exact X.1
theorem ENV.la {h : PH} {f : Nat → Int} {n p la : Nat} {W : Bool} (E : ENV h f n p la W) : 140 ≤ la ∧ la ≤ 204 := by
  obtain ⟨-, -, -, -, h1, h2, h3⟩ := E
  rw [h3]; split <;> omega
theorem ENV.keep {h h' : PH} {f : Nat → Int} {n p la : Nat} {W : Bool} (E : ENV h f n p la W) (hF : fr (frLa la) h h') : ENV h' f n p la W := by
  have hl := E.la
  obtain ⟨e1, e2, e3, e4⟩ := E
  exact ⟨e1.keep (fun k => hF.1 _ _ (by unfold frLa frTk; omega)), by rw [hF.2.2 _ _ (by unfold frLa frTk; omega)]; exact e2, by rw [hF.2.2 _ _ (by unfold frLa frTk; omega)]; exact e3, e4⟩
theorem frTk_La {la q k : Nat} (z : frTk q k) : frLa la q k := Or.inl z
theorem bdn_as (r : ER LSt) (P R : LPr) : bdn (bdn r P) R = bdn r (fun s => bdn (P s) R) := by cases r <;> rfl
theorem RS.step {h h' : PH} {f : Nat → Int} {n p la : Nat} {k j : Int} {W : Bool} {r : ER LSt} {T : TK → ER TK} {P : LPr} (En : ENV h f n p la W) (X : RS h f n la k r) (hP : ∀ s, P s = match T s.1 with
    | .ok t => .ok (t, s.2)
    | .error e => .error e) (hT : ∀ s u, r = .ok s → T s.1 = .ok u → (t_a s.1 : Int) + j ≤ t_a u + k) (hR : RT h' f n (bq (tkr r) T)) (hF : fr frTk h h') : RS h' f n la j (bdn r P) := by
  have hl := En.la
  have g : ∀ q i, q ≠ 218 → gi h' q i = gi h q i := fun q i z => hF.1 _ _ (by unfold frTk; omega)
  cases r with
  | error e => exact ⟨hR, by rw [g _ _ (by omega)]; exact X.2⟩
  | ok s =>
    have hR' : RT h' f n (T s.1) := hR
    show RS h' f n la j (P s)
    rw [hP s]
    cases hx : T s.1 with
    | ok t =>
      rw [hx] at hR'
      have := hT s t rfl hx
      have x3 := X.2.2
      exact ⟨hR', X.2.1.keep (g _ _ (by omega)) (fun i => g _ _ (by omega)), by show (s.2.length : Int) + j ≤ t_a t; omega⟩
    | error e =>
      rw [hx] at hR'
      have x2 := X.2.1.1
      have x3 := X.2.1.2.1
      exact ⟨hR', by rw [g _ _ (by omega), x2]; omega, by rw [g _ _ (by omega), x2]; omega⟩
theorem RS.l9 {h : PH} {f : Nat → Int} {n p la : Nat} {W : Bool} {k : Int} {s : LSt} (En : ENV h f n p la W) (hk : 1 ≤ k) (X : RS h f n la k (.ok s)) : s.2.length < 900 := by
  obtain ⟨x1, x2, x3⟩ := X
  have a1 := x1.1.1.2.1
  have a2 := x1.1.1.2.2.1
  have a3 := En.1.1
  omega
theorem RS.l9' {h : PH} {f : Nat → Int} {n p la : Nat} {W : Bool} {k : Int} {s : LSt} (En : ENV h f n p la W) (hk : 0 ≤ k) (X : RS h f n la k (.ok s)) (h26 : t_k s.1 ≠ 26) : s.2.length < 900 := by
  obtain ⟨x1, x2, x3⟩ := X
  have a1 := x1.1.1.2.2.2.2.1 h26
  have a2 := x1.1.1.2.2.1
  have a3 := En.1.1
  omega
theorem lNx_eq {f : Nat → Int} {n : Nat} (s : LSt) : lNx f n s = match nxt f n s.1 with
    | .ok t => .ok (t, s.2)
    | .error e => .error e := rfl
theorem eat_eq {f : Nat → Int} {n : Nat} {K : Int} (s : LSt) : eat f n K s = match eatT f n K s.1 with
    | .ok t => .ok (t, s.2)
    | .error e => .error e := by
  unfold eat eatT lNx lEr
  split <;> rfl
section
variable {d : Nat} {h : PH} {Q : Option PV → PH → Prop}
variable {f : Nat → Int} {n p la : Nat} {W : Bool}
theorem L_next {k j : Int} {r : ER LSt} (hj : j ≤ k + 1) (En : ENV h f n p la W) (X : RS h f n la k r) (hk : ∀ s, r = .ok s → t_k s.1 ≠ 26) (hq : ∀ h', RS h' f n la j (bdn r (lNx f n)) → fr (frLa la) h h' → Q none h') : C2 (d + 5) mX5_next [vR 218] h Q := by
  refine c_next En.1 X.tk (fun h' b1 b2 => hq h' (X.step En lNx_eq (fun s u hr hu => ?_) b1 b2) (b2.mono (fun q k z => frTk_La z)))
  subst hr
  have := nxt_GT hu X.1.1.1
  have := X.1.1.1.2.2.2.2.1 (hk s rfl)
  omega
theorem L_next0 {k : Int} {r : ER LSt} (En : ENV h f n p la W) (X : RS h f n la k r) (hq : ∀ h', RS h' f n la k (bdn r (lNx f n)) → fr (frLa la) h h' → Q none h') : C2 (d + 5) mX5_next [vR 218] h Q := by
  refine c_next En.1 X.tk (fun h' b1 b2 => hq h' (X.step En lNx_eq (fun s u hr hu => ?_) b1 b2) (b2.mono (fun q k z => frTk_La z)))
  subst hr
  have := nxt_GT hu X.1.1.1
  have := X.1.1.1.2.1
  omega
theorem eatT_fwd {K : Int} {t u : TK} (h : eatT f n K t = .ok u) (ht : okU f n t) : t_a t ≤ t_a u := by
  unfold eatT at h
  split at h
  · have := nxt_okU h ht
    have := ht.2.1
    omega
  · cases h
theorem L_name {i K : Nat} {k : Int} {r : ER LSt} (hi : i < 27) (En : ENV h f n p la W) (X : RS h f n la k r) (hK : K < 24) (hs : sByt.getD i [] = keyL.getD K []) (hq : ∀ h', RS h' f n la k (bdn r (eat f n K)) → fr (frLa la) h h' → Q none h') : C2 (d + 6) mX5_name [vR 218, vR (1 + i)] h Q := by
  refine c_name hi En.1 X.tk hK hs (fun h' b1 b2 => hq h' (X.step En eat_eq (fun s u hr hu => ?_) b1 b2) (b2.mono (fun q k z => frTk_La z)))
  subst hr
  have := eatT_fwd hu X.1.1.1
  omega
theorem L_sign {k K c : Int} {r : ER LSt} (hK : 30 ≤ K ∧ K ≤ 41) (hc : c = ktc K) (En : ENV h f n p la W) (X : RS h f n la k r) (hq : ∀ h', RS h' f n la k (bdn r (eat f n K)) → fr (frLa la) h h' → Q none h') : C2 (d + 6) mX5_sign [vR 218, vI c] h Q := by
  refine c_sign hK hc En.1 X.tk (fun h' b1 b2 => hq h' (X.step En eat_eq (fun s u hr hu => ?_) b1 b2) (b2.mono (fun q k z => frTk_La z)))
  subst hr
  have := eatT_fwd hu X.1.1.1
  omega
theorem L_fail {k K : Int} {r : ER LSt} (hK : K ≠ 0) (En : ENV h f n p la W) (X : RS h f n la k r) (hq : ∀ h', RS h' f n la k (bdn r (lEr K)) → fr (frLa la) h h' → Q none h') : C2 d mX5_fail [vR 218, vI K] h Q := by
  refine c_fail X.tk hK (fun h' b1 b2 => hq h' (X.step En (T := fun t => .error (K, t_a t)) (fun s => rfl) (fun s u hr hu => by cases hu) b1 b2) (b2.mono (fun q k z => frTk_La z)))
/-- a code is added -/
theorem L_add {k j : Int} {c x : Int} {r : ER LSt} (hj : j + 1 ≤ k) (En : ENV h f n p la W) (X : RS h f n la k r) (hl9 : ∀ s, r = .ok s → s.2.length < 900) (hx : ∀ s, r = .ok s → x = enc c) (hq : ∀ h', RS h' f n la j (bdn r (fun s => .ok (lPu c s))) → fr (frLa la) h h' → Q none h') : C2 d mX2_add [vR la, vI x] h Q := by
  have hl := En.la
  refine EX2_add fun _ => BX2_add_0 En.2.2.2.1 ⟨fun z => ?_, fun z => ⟨?_, fun h1 e1 h2 e2 => ?_⟩⟩
  · cases r with
    | error e => exact hq h X fr.rf
    | ok s =>
      exfalso
      obtain ⟨x1, x2, x3⟩ := X
      have a1 := hl9 s rfl
      rw [x2.1] at z
      omega
  · cases r with
    | error e => exact ⟨X.2.1, z⟩
    | ok s => exact ⟨by rw [X.2.1.1]; omega, z⟩
  · subst e1 e2
    have F : fr (frLa la) h (si (si h (la + 1) (gi h la 3).toNat x) la 3 (w32 (gi (si h (la + 1) (gi h la 3).toNat x) la 3 + 1))) := (fr.rf.si (by unfold frLa; omega)).si (by unfold frLa; omega)
    refine hq _ ?_ F
    have g : ∀ i, gi (si (si h (la + 1) (gi h la 3).toNat x) la 3 (w32 (gi (si h (la + 1) (gi h la 3).toNat x) la 3 + 1))) 218 i = gi h 218 i := fun i => by simp (disch := omega) only [gi_s0, gi_s1, gi_s2, gj_s0, gj_s1, gj_s2, gi_f0, gi_f1, gj_f0, gj_f1, gr_r0, gr_r1, gr_r2, gi_sj, gi_sr, gj_si, gj_sr, gr_si, gr_sj, gr_stI, gj_stI, gi_stJ, gr_stJ]
    cases r with
    | error e =>
      obtain ⟨x1, x2, x3⟩ := X
      refine ⟨x1.keep g, ?_, ?_⟩
      · rw [gi_s0, gi_s1 (by omega), w32_r (by omega) (by omega)]; omega
      · rw [gi_s0, gi_s1 (by omega), w32_r (by omega) (by omega)]; omega
    | ok s =>
      obtain ⟨x1, ⟨y1, y2, y3⟩, x3⟩ := X
      have a1 := hl9 s rfl
      rw [hx s rfl]
      refine ⟨x1.keep (fun i => by simp (disch := omega) only [gi_s0, gi_s1, gi_s2, gj_s0, gj_s1, gj_s2, gi_f0, gi_f1, gj_f0, gj_f1, gr_r0, gr_r1, gr_r2, gi_sj, gi_sr, gj_si, gj_sr, gr_si, gr_sj, gr_stI, gj_stI, gi_stJ, gr_stJ]), ⟨?_, ?_, fun i hi => ?_⟩, ?_⟩
      · rw [gi_s0, gi_s1 (by omega), y1, w32_r (by omega) (by omega)]
        show (s.2.length : Int) + 1 = ((s.2 ++ [c]).length : Nat)
        rw [List.length_append]; rfl
      · show (s.2 ++ [c]).length ≤ 900
        rw [List.length_append]; show s.2.length + 1 ≤ 900; omega
      · have hi' : i < s.2.length + 1 := by
          have : i < (s.2 ++ [c]).length := hi
          rw [List.length_append] at this; exact this
        show gi _ (la + 1) i = enc ((s.2 ++ [c]).getD i 0)
        rw [gi_s1 (by omega), y1]
        try simp only [Int.toNat_natCast]
        by_cases e : i = s.2.length
        · subst e
          rw [gi_s0, List.getD_eq_getElem?_getD, List.getElem?_append_right (Nat.le_refl _), Nat.sub_self]; rfl
        · rw [gi_s2 (by omega), List.getD_eq_getElem?_getD, List.getElem?_append_left (by omega), ← List.getD_eq_getElem?_getD]
          exact y3 i (by omega)
      · show ((s.2 ++ [c]).length : Int) + j ≤ t_a s.1
        rw [List.length_append]; show ((s.2.length + 1 : Nat) : Int) + j ≤ t_a s.1; omega
/-- a reader's contract -/
def MCt (f : Nat → Int) (n p la : Nat) (W : Bool) (m : MD) (as : List PV) (D0 : Nat) (P : LPr) : Prop := ∀ (D : Nat) (h : PH) (Q : Option PV → PH → Prop) (k : Int) (r : ER LSt), D0 ≤ D → 0 ≤ k → ENV h f n p la W → RS h f n la k r → (∀ h', RS h' f n la k (bdn r P) → fr (frLa la) h h' → Q none h') → C2 D m as h Q
theorem many_step {op : Int → Int} {g : LPr} {s : LSt} {m : Nat} {c : Int} (hc : op (t_k s.1) = c) (hn : c ≠ -1) : bdn (bdn (bdn (lNx f n s) g) (fun s2 => .ok (lPu c s2))) (manyP f n op g m) = manyP f n op g (m + 1) s := by
  show _ = if op (t_k s.1) = -1 then .ok s else bdn (lNx f n s) fun s1 => bdn (g s1) fun s2 => manyP f n op g m (lPu (op (t_k s.1)) s2)
  rw [hc, if_neg hn]
  cases lNx f n s with
  | error e => rfl
  | ok s1 =>
    show bdn (bdn (g s1) (fun s2 => .ok (lPu c s2))) (manyP f n op g m) = bdn (g s1) fun s2 => manyP f n op g m (lPu c s2)
    cases g s1 with
    | error e => rfl
    | ok s2 => rfl
theorem many_stop {op : Int → Int} {g : LPr} {s : LSt} {m : Nat} (hc : op (t_k s.1) = -1) : manyP f n op g m s = .ok s := by
  cases m with
  | zero => rfl
  | succ m => show (if op (t_k s.1) = -1 then _ else _) = _; rw [if_pos hc]
theorem many_end {op : Int → Int} {g : LPr} {k : Int} {m : Nat} {r : ER LSt} (X : RS h f n la k r) (hs : ∀ s, r = .ok s → op (t_k s.1) = -1 ∨ m = 0) : RS h f n la k (bdn r (manyP f n op g m)) := by
  cases r with
  | error e => exact X
  | ok s =>
    show RS h f n la k (manyP f n op g m s)
    rcases hs s rfl with z | z
    · rw [many_stop z]; exact X
    · subst z; exact X
/-- op, one more, its code: what all four loops do -/
theorem many_core {op : Int → Int} {g : LPr} {mm : MD} {as : List PV} {D0 m : Nat} {s : LSt} {k c x : Int} (hk : 0 ≤ k) (hM : MCt f n p la W mm as D0 g) (hd : D0 ≤ d + 5) (En : ENV h f n p la W) (X : RS h f n la k (.ok s)) (hc : op (t_k s.1) = c) (hn : c ≠ -1) (h26 : t_k s.1 ≠ 26) (hx : x = enc c) {T : PH → Prop} (hq : ∀ h', (∀ h'' : PH, RS h'' f n la k (bdn (bdn (bdn (lNx f n s) g) (fun s2 => .ok (lPu c s2))) (manyP f n op g m)) → RS h'' f n la k (bdn (.ok s) (manyP f n op g (m + 1)))) → RS h' f n la k (bdn (bdn (lNx f n s) g) (fun s2 => .ok (lPu c s2))) → fr (frLa la) h h' → T h') : C2 (d + 5) mX5_next [vR 218] h (onV fun h1 => C2 (d + 5) mm as h1 (onV fun h2 => C2 (d + 5) mX2_add [vR (gr h2 218 7), vI x] h2 (onV fun h3 => T h3))) := by
  refine L_next (j := k + 1) (by omega) En X (fun s' e => by cases e; exact h26) (fun h1 b1 b2 => ⟨rfl, ?_⟩)
  refine hM _ h1 _ (k + 1) (lNx f n s) hd (by omega) (En.keep b2) b1 (fun h2 c1 c2 => ⟨rfl, ?_⟩)
  have E2 := (En.keep b2).keep c2
  dsimp only
  rw [E2.2.2.1]
  refine L_add (j := k) (c := c) (by omega) E2 c1 (fun s' e => RS.l9 E2 (by omega : (1 : Int) ≤ k + 1) (e ▸ c1)) (fun _ _ => hx) (fun h3 d1 d2 => ⟨rfl, hq h3 (fun h'' y => ?_) d1 ((b2.tr c2).tr d2)⟩)
  rw [many_step hc hn] at y
  exact y
end
