/-! THE MODEL: a page is read: its head -/
def LawF (h : PH) (k : Nat) (cs : List Int) (c : Nat) : Prop := (cs = [] → gi h 251 (7 + k) = 0) ∧ (cs ≠ [] → gi h 251 (7 + k) = 1 ∧ ∃ f : Nat, gi h 251 (9 + k) = f ∧ gi h 251 (11 + k) = cs.length ∧ f + cs.length ≤ c ∧ ∀ i, i < cs.length → gi h 251 (313 + (f + i)) = cs.getD i 0)
theorem LawF.keep {h h' : PH} {k c c' : Nat} {cs : List Int} (a : LawF h k cs c) (hk : k < 2) (hc : c ≤ c') (e : ∀ j, (7 ≤ j ∧ j < 13) ∨ (313 ≤ j ∧ j < 313 + c) → gi h' 251 j = gi h 251 j) : LawF h' k cs c' := by
  refine ⟨fun z => by rw [e _ (by omega)]; exact a.1 z, fun z => ?_⟩
  obtain ⟨a1, f, a2, a3, a4, a5⟩ := a.2 z
  exact ⟨by rw [e _ (by omega)]; exact a1, f, by rw [e _ (by omega)]; exact a2, by rw [e _ (by omega)]; exact a3, by omega, fun i hi => by rw [e _ (by omega)]; exact a5 i hi⟩
theorem LawF.keep1 {h h' : PH} {k c c' : Nat} {cs : List Int} (a : LawF h k cs c) (hk : k < 2) (hc : c ≤ c') (e : ∀ j, j = 7 + k ∨ j = 9 + k ∨ j = 11 + k ∨ (313 ≤ j ∧ j < 313 + c) → gi h' 251 j = gi h 251 j) : LawF h' k cs c' := by
  refine ⟨fun z => by rw [e _ (by omega)]; exact a.1 z, fun z => ?_⟩
  obtain ⟨a1, f, a2, a3, a4, a5⟩ := a.2 z
  exact ⟨by rw [e _ (by omega)]; exact a1, f, by rw [e _ (by omega)]; exact a2, by rw [e _ (by omega)]; exact a3, by omega, fun i hi => by rw [e _ (by omega)]; exact a5 i hi⟩
def PGf (h : PH) (g : PG) (c : Nat) : Prop :=
  (gi h 251 0 = g_to g ∧ gi h 251 1 = g_wi g ∧ gi h 251 2 = g_ln g ∧ gi h 251 3 = g_hi g ∧ gi h 251 4 = g_le g ∧ gi h 251 5 = g_S g ∧ gi h 251 6 = g_W g) ∧
  (∀ i, i < g_S g → gi h 251 (13 + i) = g_kd g i ∧ gi h 251 (19 + i) = g_ac g i ∧ gi h 251 (25 + i) = g_tl g i) ∧ (∀ w, w < g_W g → gi h 251 (31 + w) = g_lt g w ∧ gi h 251 (61 + w) = g_fi g w) ∧
  LawF h 0 (g_wl g) c ∧ LawF h 1 (g_gl g) c
def STf (h : PH) (st : Nat → Int) : Prop := ∀ k, k < 20 → gi h 251 (91 + k) = st k
/-- the page so far, in the model -/
def PQm (h : PH) (s : QS) : Prop := ∃ c : Nat, gi h 251 312 = c ∧ c ≤ t_a s.1 ∧ PGf h s.2.1 c ∧ STf h s.2.2 ∧ gi h 251 111 = 0
def MQr (h : PH) (f : Nat → Int) (n : Nat) : ER QS → Prop
  | .ok s => MT h f n (.ok s.1) ∧ PQm h s
  | .error e => MT h f n (.error e)
def frRm : Nat → Nat → Prop := fun q k => frMt q k ∨ (q = 247 ∧ k = 15) ∨ q = 251
theorem frMt_R {q k : Nat} (z : frMt q k) : frRm q k := Or.inl z
theorem kFm {h h' : PH} (a : fr frMt h h') : fr frRm h h' := a.mono (fun q k z => frMt_R z)
theorem TPm.rd {h h' : PH} {f : Nat → Int} {n : Nat} (a : TPm h f n) (F : fr frRm h h') : TPm h' f n := a.keep (fun k => F.1 _ _ (by unfold frRm frMt; omega)) (F.1 _ _ (by unfold frRm frMt; omega))
theorem gFm {h h' : PH} (a : fr frMt h h') (q k : Nat) (z : q ≠ 247) : gi h' q k = gi h q k := a.1 _ _ (by unfold frMt; omega)
theorem MT.s1 {h : PH} {f : Nat → Int} {n k : Nat} {v : Int} {r : ER TK} (X : MT h f n r) : MT (si h 251 k v) f n r := X.keep (fun j _ _ => gi_s1 (by omega))
theorem MQr.tk {h : PH} {f : Nat → Int} {n : Nat} {r : ER QS} (X : MQr h f n r) : MT h f n (tkq r) := by
  cases r with
  | ok s => exact X.1
  | error e => exact X
section
variable {f : Nat → Int} {n : Nat}
theorem head_dec {r : ER TK} {A1 A2 A3 A4 A5 : ER (Int × TK)} (hA1 : bq (bq (bq r (eatT f n 0)) (eatT f n 1)) (numT f n 10 200) = A1) (hA2 : bq (bq (tk2 A1) (eatT f n 2)) (numT f n 1 20) = A2) (hA3 : bq (bq (tk2 A2) (eatT f n 3)) (numT f n 1 20) = A3) (hA4 : bq (bq (tk2 A3) (eatT f n 4)) (numT f n 1 50) = A4) (hA5 : bq (bq (tk2 A4) (eatT f n 5)) (numT f n 0 9) = A5) :
    (∀ e, bq (tk2 A5) (eatT f n 30) = .error e → bq r (headP f n) = .error e) ∧ (∀ t, bq (tk2 A5) (eatT f n 30) = .ok t → ∃ a1 a2 a3 a4 a5, A1 = .ok a1 ∧ A2 = .ok a2 ∧ A3 = .ok a3 ∧ A4 = .ok a4 ∧ A5 = .ok a5 ∧ 1 ≤ a2.1 ∧ bq r (headP f n) = .ok (t, ((a1.1, a2.1.toNat, a3.1, a4.1, 1, 0, 0), g0.2), upf st0 19 a5.1)) := by
  refine ⟨fun e hR => ?_, fun t hR => ?_⟩
  · subst hA5 hA4 hA3 hA2 hA1
    simp only [tk2_bq, bq_as] at hR
    refine bq_er (fun t ht => ?_) hR
    unfold headP
    refine bq_er (fun t1 ht => ?_) ht
    refine bq_er (fun t2 ht => ?_) ht
    refine bq_er (fun t3 ht => ?_) ht
    refine bq_er (fun t4 ht => ?_) ht
    refine bq_er (fun t5 ht => ?_) ht
    refine bq_er (fun t6 ht => ?_) ht
    refine bq_er (fun t7 ht => ?_) ht
    refine bq_er (fun t8 ht => ?_) ht
    refine bq_er (fun t9 ht => ?_) ht
    refine bq_er (fun t10 ht => ?_) ht
    refine bq_er (fun t11 ht => ?_) ht
    rw [ht]; rfl
  · obtain ⟨u5, q5, r5⟩ := bq_ok hR
    obtain ⟨a5, q5, s5⟩ := tk2_ok q5
    rw [q5] at hA5
    obtain ⟨u4, q4, r4⟩ := bq_ok hA5
    obtain ⟨u4', q4, r4'⟩ := bq_ok q4
    obtain ⟨a4, q4, s4⟩ := tk2_ok q4
    rw [q4] at hA4
    obtain ⟨u3, q3, r3⟩ := bq_ok hA4
    obtain ⟨u3', q3, r3'⟩ := bq_ok q3
    obtain ⟨a3, q3, s3⟩ := tk2_ok q3
    rw [q3] at hA3
    obtain ⟨u2, q2, r2⟩ := bq_ok hA3
    obtain ⟨u2', q2, r2'⟩ := bq_ok q2
    obtain ⟨a2, q2, s2⟩ := tk2_ok q2
    rw [q2] at hA2
    obtain ⟨u1, q1, r1⟩ := bq_ok hA2
    obtain ⟨u1', q1, r1'⟩ := bq_ok q1
    obtain ⟨a1, q1, s1⟩ := tk2_ok q1
    rw [q1] at hA1
    obtain ⟨u0, q0, r0⟩ := bq_ok hA1
    obtain ⟨u0', q0, r0'⟩ := bq_ok q0
    obtain ⟨t0, q0, r0''⟩ := bq_ok q0
    subst q0
    refine ⟨a1, a2, a3, a4, a5, q1, q2, q3, q4, q5, (numT_vl r1).1, ?_⟩
    show headP f n t0 = _
    unfold headP
    rw [r0'']
    show bq (eatT f n 1 u0') _ = _
    rw [r0']
    show bq (numT f n 10 200 u0) _ = _
    rw [r0]
    show bq (eatT f n 2 a1.2) _ = _
    rw [s1, r1']
    show bq (numT f n 1 20 u1) _ = _
    rw [r1]
    show bq (eatT f n 3 a2.2) _ = _
    rw [s2, r2']
    show bq (numT f n 1 20 u2) _ = _
    rw [r2]
    show bq (eatT f n 4 a3.2) _ = _
    rw [s3, r3']
    show bq (numT f n 1 50 u3) _ = _
    rw [r3]
    show bq (eatT f n 5 a4.2) _ = _
    rw [s4, r4']
    show bq (numT f n 0 9 u4) _ = _
    rw [r4]
    show bq (eatT f n 30 a5.2) _ = _
    rw [s5, r5]
    rfl
end
section
variable {d : Nat} {h : PH} {Q : Option PV → PH → Prop}
variable {f : Nat → Int} {n : Nat}
theorem m_takes2 {r : ER TK} {lo up : Int} (T : TPm h f n) (X : MT h f n r) (hq : ∀ h' x, MTn h' f n x (bq r (numT f n lo up)) → (gi h' 247 11 = 0 → (∃ t, r = .ok t) ∧ lo ≤ x ∧ x ≤ up) → fr frMt h h' → Q (some (vI x)) h') : C2 (d + 7) mX11_takes [vR 247, vI lo, vI up] h Q := by
  have dead : ∀ (K : Int), K ≠ 0 → (∀ e, (bq r fun t => (Except.error (K, t_a t) : ER TK)) = .error e → bq r (numT f n lo up) = .error e) → C2 (d + 6) mX11_fails [vR 247, vI K] h (onV fun h1 => T2 (d + 6 + 1) mX11_takes 37 [some (vR 247), none, none, none] [] h1 Q) := fun K hK hb => by
    refine m_fails hK X (fun h1 a b c => ⟨rfl, BX11_takes_37 ⟨fun _ => hq h1 _ ?_ (fun w => absurd w b) c, fun w => absurd w b⟩⟩)
    cases hr : (bq r fun t => (Except.error (K, t_a t) : ER TK)) with
    | ok t => cases r <;> cases hr
    | error e =>
      rw [hr] at a
      rw [hb e hr]; exact a
  refine EX11_takes fun _ _ => BX11_takes_0 (d := d + 6) (m_is (by decide) X (fun z _ => ⟨fun _ => ?_, fun w => absurd w (by decide)⟩) (fun z _ => ⟨fun w => absurd rfl w, fun _ => dead 2 (by decide) (fun e he => ?_)⟩))
  · obtain ⟨t, ht, hk⟩ := z
    subst ht
    have X' := X
    obtain ⟨a, b, c, e, g, i⟩ := X
    rw [i hk]
    refine m_within (fun _ => ⟨fun z => ?_, fun z => dead 3 (by decide) (fun e he => ?_)⟩)
    · have hz := if01 z
      refine BX11_takes_37 ⟨fun w => absurd b w, fun _ => m_nextT (d := d) T X' (fun h' u1 u2 u3 => ⟨rfl, ?_⟩)⟩
      refine hq h' _ ?_ (fun _ => ⟨⟨t, rfl⟩, by rw [i hk]; exact hz.1, by rw [i hk]; exact hz.2⟩) (u3.mono (fun q k z => frNx_t z))
      have en : bq (.ok t) (numT f n lo up) = bq (nxt f n t) fun u => .ok (t_n t, u) := by
        show numT f n lo up t = _
        unfold numT
        rw [if_neg (fun w => w hk), if_neg (by omega)]
      rw [en, i hk]
      cases hx : nxt f n t with
      | ok u => rw [hx] at u1; exact ⟨rfl, u1⟩
      | error e => rw [hx] at u1; exact u1
    · have hz := if00 z
      have he' : (Except.error (3, t_a t) : ER TK) = .error e := he
      cases he'
      show numT f n lo up t = .error (3, t_a t)
      unfold numT
      rw [if_neg (fun w => w hk), if_pos (by omega)]
  · cases r with
    | error e' =>
      have he' : (Except.error e' : ER TK) = .error e := he
      cases he'
      rfl
    | ok t =>
      have he' : (Except.error (2, t_a t) : ER TK) = .error e := he
      cases he'
      show numT f n lo up t = .error (2, t_a t)
      unfold numT
      rw [if_pos (fun w => z (isK_ok.mpr w))]
theorem h_turn {k ix : Nat} {r : ER TK} {K lo up : Int} (hk : k < 5) (hK : K = 1 + (k : Int)) (hlo : (k = 0 → lo = 10) ∧ (k = 4 → lo = 0) ∧ (k ≠ 0 → k ≠ 4 → lo = 1)) (hup : (k = 0 → up = 200) ∧ (k = 3 → up = 50) ∧ (k = 4 → up = 9) ∧ (k ≠ 0 → k ≠ 3 → k ≠ 4 → up = 20)) (hix : (k = 4 → ix = 110) ∧ (k ≠ 4 → ix = 1 + k)) (T : TPm h f n) (X : MT h f n r)
    (hq : ∀ h1 x h2, MTn h1 f n x (bq (bq r (eatT f n K)) (numT f n lo up)) → h2 = si h1 251 ix x → fr frMt h h1 → T2 (d + 8) mX11_readPage 15 [some (vR 247), some (vI ((k + 1 : Nat) : Int)), none, none, none] [] h2 Q) : T2 (d + 8) mX11_readPage 15 [some (vR 247), some (vI (k : Int)), none, none, none] [] h Q := by
  refine BX11_readPage_15 (d := d + 7) ⟨fun z => by omega, fun _ => ?_⟩
  rw [w32_r (by omega) (by omega), ← hK]
  refine m_eatF (by omega) T X (fun h1 x1 _ f1 => ?_)
  have T1 := T.mt f1
  have at87 : T2 (d + 7 + 1) mX11_readPage 87 [some (vR 247), some (vI (k : Int)), some (vI lo), none, none] [vI up] h1 Q := by
    refine BX11_readPage_87 (m_takes (d := d) T1 x1 (fun h2 x x2 f2 _ => ?_))
    rw [w32_r (x := 1 + (k : Int)) (by omega) (by omega), w32_r (x := (k : Int) + 1) (by omega) (by omega), show (k : Int) + 1 = ((k + 1 : Nat) : Int) by omega, show (1 + (k : Int)).toNat = 1 + k by omega]
    refine ⟨fun z => ⟨⟨by omega, by omega⟩, fun h3 e3 => ?_⟩, fun z h3 e3 => ?_⟩
    · rw [← hix.2 (by omega)] at e3
      exact hq h2 x h3 x2 e3 (f1.tr f2)
    · rw [← hix.1 (by omega)] at e3
      exact hq h2 x h3 x2 e3 (f1.tr f2)
  have at54 : T2 (d + 7 + 1) mX11_readPage 54 [some (vR 247), some (vI (k : Int)), none, none, none] [vI lo] h1 Q := by
    refine BX11_readPage_54 ⟨fun z => ⟨fun y => ⟨fun w => ?_, fun w => ?_⟩, fun y => ?_⟩, fun z => ?_⟩
    · have e : up = 20 := hup.2.2.2 (by omega) (by omega) (by omega)
      rw [e] at at87; exact at87
    · have e : up = 9 := hup.2.2.1 (by omega)
      rw [e] at at87; exact at87
    · have e : up = 50 := hup.2.1 (by omega)
      rw [e] at at87; exact at87
    · have e : up = 200 := hup.1 (by omega)
      rw [e] at at87; exact at87
  refine BX11_readPage_35 ⟨fun z => ⟨fun y => ?_, fun y => ?_⟩, fun z => ?_⟩
  · have e : lo = 1 := hlo.2.2 (by omega) (by omega)
    rw [e] at at54; exact at54
  · have e : lo = 0 := hlo.2.1 (by omega)
    rw [e] at at54; exact at54
  · have e : lo = 10 := hlo.1 (by omega)
    rw [e] at at54; exact at54
theorem n_head {r : ER TK} {P : PH → Prop} (T : TPm h f n) (X : MT h f n r) (h0 : gi h 251 0 = 0 ∧ gi h 251 5 = 0 ∧ gi h 251 6 = 0 ∧ gi h 251 7 = 0 ∧ gi h 251 8 = 0 ∧ gi h 251 111 = 0 ∧ gi h 251 312 = 0) (hS : STf h st0) (hq : ∀ h', MQr h' f n (bq r (headP f n)) → (∀ e, bq r (headP f n) = .error e → gi h' 247 11 = 0 → e.1 = 1) → fr frRm h h' → P h') : C2 (d + 8) mX11_readPage [vR 247] h (onV fun h1 => C2 (d + 8) mX11_closes [vR 247] h1 (onV fun h2 => P h2)) := by
  refine EX11_readPage (BX11_readPage_0 (d := d + 7) (m_eatF (K := 0) (by decide) T X (fun h1 x1 _ f1 => ?_)))
  have T1 := T.mt f1
  refine h_turn (k := 0) (ix := 1) (K := 1) (lo := 10) (up := 200) (by omega) (by decide) (by decide) (by decide) (by decide) T1 x1 (fun h2 v1 h3 x2 e3 f2 => ?_)
  generalize hA1 : bq (bq (bq r (eatT f n 0)) (eatT f n 1)) (numT f n 10 200) = A1 at *
  have F3 : fr frRm h h3 := by subst e3; exact ((kFm f1).tr (kFm f2)).si (by unfold frRm; omega)
  have y3 : MT h3 f n (tk2 A1) := by subst e3; exact x2.tk.s1
  have w3 : gi h3 251 1 = v1 := by subst e3; exact gi_s0
  have G3 : ∀ k, k ≠ 1 → gi h3 251 k = gi h 251 k := fun k z => by subst e3; rw [gi_s2 z, gFm f2 _ _ (by omega), gFm f1 _ _ (by omega)]
  refine h_turn (k := 1) (ix := 2) (K := 2) (lo := 1) (up := 20) (by omega) (by decide) (by decide) (by decide) (by decide) (T.rd F3) y3 (fun h4 v2 h5 x4 e5 f4 => ?_)
  generalize hA2 : bq (bq (tk2 A1) (eatT f n 2)) (numT f n 1 20) = A2 at *
  have F5 : fr frRm h h5 := by subst e5; exact (F3.tr (kFm f4)).si (by unfold frRm; omega)
  have y5 : MT h5 f n (tk2 A2) := by subst e5; exact x4.tk.s1
  have w5 : gi h5 251 2 = v2 := by subst e5; exact gi_s0
  have G5 : ∀ k, k ≠ 2 → gi h5 251 k = gi h3 251 k := fun k z => by subst e5; rw [gi_s2 z, gFm f4 _ _ (by omega)]
  refine h_turn (k := 2) (ix := 3) (K := 3) (lo := 1) (up := 20) (by omega) (by decide) (by decide) (by decide) (by decide) (T.rd F5) y5 (fun h6 v3 h7 x6 e7 f6 => ?_)
  generalize hA3 : bq (bq (tk2 A2) (eatT f n 3)) (numT f n 1 20) = A3 at *
  have F7 : fr frRm h h7 := by subst e7; exact (F5.tr (kFm f6)).si (by unfold frRm; omega)
  have y7 : MT h7 f n (tk2 A3) := by subst e7; exact x6.tk.s1
  have w7 : gi h7 251 3 = v3 := by subst e7; exact gi_s0
  have G7 : ∀ k, k ≠ 3 → gi h7 251 k = gi h5 251 k := fun k z => by subst e7; rw [gi_s2 z, gFm f6 _ _ (by omega)]
  refine h_turn (k := 3) (ix := 4) (K := 4) (lo := 1) (up := 50) (by omega) (by decide) (by decide) (by decide) (by decide) (T.rd F7) y7 (fun h8 v4 h9 x8 e9 f8 => ?_)
  generalize hA4 : bq (bq (tk2 A3) (eatT f n 4)) (numT f n 1 50) = A4 at *
  have F9 : fr frRm h h9 := by subst e9; exact (F7.tr (kFm f8)).si (by unfold frRm; omega)
  have y9 : MT h9 f n (tk2 A4) := by subst e9; exact x8.tk.s1
  have w9 : gi h9 251 4 = v4 := by subst e9; exact gi_s0
  have G9 : ∀ k, k ≠ 4 → gi h9 251 k = gi h7 251 k := fun k z => by subst e9; rw [gi_s2 z, gFm f8 _ _ (by omega)]
  refine h_turn (k := 4) (ix := 110) (K := 5) (lo := 0) (up := 9) (by omega) (by decide) (by decide) (by decide) (by decide) (T.rd F9) y9 (fun h10 v5 h11 x10 e11 f10 => ?_)
  generalize hA5 : bq (bq (tk2 A4) (eatT f n 5)) (numT f n 0 9) = A5 at *
  have F11 : fr frRm h h11 := by subst e11; exact (F9.tr (kFm f10)).si (by unfold frRm; omega)
  have y11 : MT h11 f n (tk2 A5) := by subst e11; exact x10.tk.s1
  have w11 : gi h11 251 110 = v5 := by subst e11; exact gi_s0
  have G11 : ∀ k, k ≠ 110 → gi h11 251 k = gi h9 251 k := fun k z => by subst e11; rw [gi_s2 z, gFm f10 _ _ (by omega)]
  refine BX11_readPage_15 ⟨fun _ => ⟨rfl, ?_⟩, fun z => absurd z (by decide)⟩
  refine EX11_closes (BX11_closes_0 (d := d + 7) (m_eatF (K := 30) (by decide) (T.rd F11) y11 (fun h12 x12 z12 f12 => BX11_closes_14 (fun h13 e13 => ⟨rfl, ?_⟩))))
  have F13 : fr frRm h h13 := by subst e13; exact (F11.tr (kFm f12)).si (by unfold frRm; omega)
  have x13 : MT h13 f n (bq (tk2 A5) (eatT f n 30)) := by subst e13; exact x12.s1
  have g13 : ∀ k, gi h13 247 k = gi h12 247 k := fun k => by subst e13; exact gi_s1 (by omega)
  obtain ⟨D1, D2⟩ := head_dec hA1 hA2 hA3 hA4 hA5
  cases hR : bq (tk2 A5) (eatT f n 30) with
  | error e =>
    rw [hR] at x13 x12
    refine hq h13 ?_ (fun e' he' w => ?_) F13
    · rw [D1 e hR]; exact x13
    · rw [D1 e hR] at he'
      cases he'
      rw [g13] at w
      rcases x12 with ⟨a, b, -⟩ | ⟨-, -, a, -⟩
      · exact absurd (a.symm.trans w) b
      · exact a
  | ok t =>
    rw [hR] at x13
    obtain ⟨a1, a2, a3, a4, a5, q1, q2, q3, q4, q5, q6, q7⟩ := D2 t hR
    refine hq h13 ?_ (fun e' he' w => by rw [q7] at he'; cases he') F13
    rw [q1] at x2; rw [q2] at x4; rw [q3] at x6; rw [q4] at x8; rw [q5] at x10
    have u1 : v1 = a1.1 := x2.1
    have u2 : v2 = a2.1 := x4.1
    have u3 : v3 = a3.1 := x6.1
    have u4 : v4 = a4.1 := x8.1
    have u5 : v5 = a5.1 := x10.1
    have G13 : ∀ k, k ≠ 0 → gi h13 251 k = gi h11 251 k := fun k z => by subst e13; rw [gi_s2 z, gFm f12 _ _ (by omega)]
    have G : ∀ k, k ≠ 0 → k ≠ 1 → k ≠ 2 → k ≠ 3 → k ≠ 4 → k ≠ 110 → gi h13 251 k = gi h 251 k := fun k z0 z1 z2 z3 z4 z5 => by rw [G13 k z0, G11 k z5, G9 k z4, G7 k z3, G5 k z2, G3 k z1]
    have z0 : gi h13 251 0 = 1 := by
      have : gi h12 251 0 = 0 := by rw [gFm f12 _ _ (by omega), G11 _ (by omega), G9 _ (by omega), G7 _ (by omega), G5 _ (by omega), G3 _ (by omega)]; exact h0.1
      subst e13; rw [gi_s0, this]; decide
    rw [q7]
    obtain ⟨-, k5, k6, k7, k8, k111, k312⟩ := h0
    refine ⟨x13, 0, by rw [G _ (by omega) (by omega) (by omega) (by omega) (by omega) (by omega), k312]; rfl, Nat.zero_le _, ⟨⟨z0, ?_, ?_, ?_, ?_, ?_, ?_⟩, fun i hi => absurd hi (Nat.not_lt_zero i), fun w hw => absurd hw (Nat.not_lt_zero w), ⟨fun _ => ?_, fun z => absurd rfl z⟩, ⟨fun _ => ?_, fun z => absurd rfl z⟩⟩, fun k hk => ?_, ?_⟩
    · rw [G13 _ (by omega), G11 _ (by omega), G9 _ (by omega), G7 _ (by omega), G5 _ (by omega), w3]; exact u1
    · rw [G13 _ (by omega), G11 _ (by omega), G9 _ (by omega), G7 _ (by omega), w5, u2]
      show a2.1 = ((a2.1.toNat : Nat) : Int)
      omega
    · rw [G13 _ (by omega), G11 _ (by omega), G9 _ (by omega), w7]; exact u3
    · rw [G13 _ (by omega), G11 _ (by omega), w9]; exact u4
    · rw [G _ (by omega) (by omega) (by omega) (by omega) (by omega) (by omega)]; exact k5
    · rw [G _ (by omega) (by omega) (by omega) (by omega) (by omega) (by omega)]; exact k6
    · rw [G _ (by omega) (by omega) (by omega) (by omega) (by omega) (by omega)]; exact k7
    · rw [G _ (by omega) (by omega) (by omega) (by omega) (by omega) (by omega)]; exact k8
    · show gi h13 251 (91 + k) = upf st0 19 a5.1 k
      unfold upf
      by_cases e : k = 19
      · rw [if_pos e, e, G13 _ (by omega)]; exact w11.trans u5
      · rw [if_neg e, G _ (by omega) (by omega) (by omega) (by omega) (by omega) (by omega)]; exact hS k hk
    · rw [G _ (by omega) (by omega) (by omega) (by omega) (by omega) (by omega)]; exact k111
end
