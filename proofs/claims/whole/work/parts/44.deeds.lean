/-! DEEDS -/
def shiftS (g : PG) (st : Nat → Int) (s ax b : Int) : Int × (Nat → Int) :=
  if s < 0 ∨ g_S g ≤ s ∨ ax < 0 ∨ 1 < ax ∨ b < -100 ∨ 100 < b then (1, st)
  else if st ((if ax = 0 then 0 else 6) + s.toNat) + b < 0 ∨ (if ax = 0 then 200 else 400) < st ((if ax = 0 then 0 else 6) + s.toNat) + b then (2, st)
  else (0, upf st ((if ax = 0 then 0 else 6) + s.toNat) (st ((if ax = 0 then 0 else 6) + s.toNat) + b))
def bindS (g : PG) (st : Nat → Int) (s w : Int) : Int × (Nat → Int) := if s < 0 ∨ g_S g ≤ s ∨ w < -1 ∨ 30 ≤ w then (1, st) else (0, upf st (12 + s.toNat) w)
def flipS (g : PG) (st : Nat → Int) (w : Int) : Int × (Nat → Int) := if w < 0 ∨ g_W g ≤ w then (1, st) else (0, upf st 18 (ixor (st 18) (ishl 1 w)))
def dyeS (st : Nat → Int) (n : Int) : Int × (Nat → Int) := if n < 0 ∨ 10 ≤ n then (1, st) else (0, upf st 19 n)
def deedS (g : PG) (st : Nat → Int) (v : Int) : Int × (Nat → Int) :=
  if v < 10 ∨ 25999 < v then (1, st) else if v ≤ 19 then dyeS st (v - 10) else if 100 ≤ v ∧ v ≤ 129 then flipS g st (v - 100)
  else if 1000 ≤ v ∧ v ≤ 1599 then bindS g st ((v - 1000) / 100) (if v % 100 = 99 then -1 else v % 100)
  else if 10000 ≤ v ∧ v ≤ 15999 then shiftS g st ((v - 10000) / 1000) 0 (v % 1000 - 100)
  else if 20000 ≤ v then shiftS g st ((v - 20000) / 1000) 1 (v % 1000 - 100) else (1, st)
theorem shiftS_ok {g : PG} (okg : POK g) {st : Nat → Int} (h : SOK g st) (s ax b : Int) : SOK g (shiftS g st s ax b).2 := by
  have ok1 := okg.1
  by_cases z : s < 0 ∨ g_S g ≤ s ∨ ax < 0 ∨ 1 < ax ∨ b < -100 ∨ 100 < b
  · unfold shiftS; rw [if_pos z]; exact h
  · have hs : s.toNat < 6 := by omega
    by_cases e : ax = 0
    · by_cases z2 : st (0 + s.toNat) + b < 0 ∨ 200 < st (0 + s.toNat) + b
      · have e2 : shiftS g st s ax b = (2, st) := by
          unfold shiftS; rw [if_neg z]; simp only [if_pos e]; rw [if_pos z2]
        rw [e2]; exact h
      · have e2 : shiftS g st s ax b = (0, upf st (0 + s.toNat) (st (0 + s.toNat) + b)) := by
          unfold shiftS; rw [if_neg z]; simp only [if_pos e]; rw [if_neg z2]
        rw [e2]
        obtain ⟨h1, h2, h3, h4, h5⟩ := h
        dsimp only
        refine ⟨fun i hi => ?_, fun i hi hi2 => ?_, fun w hw => ?_, ?_, ?_⟩
        · have := h1 i hi
          unfold upf
          rw [if_neg (show ¬ 6 + i = 0 + s.toNat by omega), if_neg (show ¬ 12 + i = 0 + s.toNat by omega)]
          split <;> omega
        · unfold upf; rw [if_neg (by omega)]; exact h2 i hi hi2
        · unfold upf; rw [if_neg (by omega)]; exact h3 w hw
        · unfold upf; rw [if_neg (by omega)]; exact h4
        · unfold upf; rw [if_neg (by omega)]; exact h5
    · by_cases z2 : st (6 + s.toNat) + b < 0 ∨ 400 < st (6 + s.toNat) + b
      · have e2 : shiftS g st s ax b = (2, st) := by
          unfold shiftS; rw [if_neg z]; simp only [if_neg e]; rw [if_pos z2]
        rw [e2]; exact h
      · have e2 : shiftS g st s ax b = (0, upf st (6 + s.toNat) (st (6 + s.toNat) + b)) := by
          unfold shiftS; rw [if_neg z]; simp only [if_neg e]; rw [if_neg z2]
        rw [e2]
        obtain ⟨h1, h2, h3, h4, h5⟩ := h
        dsimp only
        refine ⟨fun i hi => ?_, fun i hi hi2 => ?_, fun w hw => ?_, ?_, ?_⟩
        · have := h1 i hi
          unfold upf
          rw [if_neg (show ¬ i = 6 + s.toNat by omega), if_neg (show ¬ 12 + i = 6 + s.toNat by omega)]
          split <;> omega
        · unfold upf; rw [if_neg (by omega)]; exact h2 i hi hi2
        · unfold upf; rw [if_neg (by omega)]; exact h3 w hw
        · unfold upf; rw [if_neg (by omega)]; exact h4
        · unfold upf; rw [if_neg (by omega)]; exact h5
theorem bindS_ok {g : PG} (okg : POK g) {st : Nat → Int} (h : SOK g st) (s w : Int) : SOK g (bindS g st s w).2 := by
  have ok1 := okg.1
  unfold bindS
  split
  · exact h
  · rename_i z
    obtain ⟨h1, h2, h3, h4, h5⟩ := h
    dsimp only
    refine ⟨fun i hi => ?_, fun i hi hi2 => ?_, fun w hw => ?_, ?_, ?_⟩
    · have := h1 i hi
      unfold upf
      rw [if_neg (show ¬ i = 12 + s.toNat by omega), if_neg (show ¬ 6 + i = 12 + s.toNat by omega)]
      split <;> omega
    · unfold upf; rw [if_neg (by omega)]; exact h2 i hi hi2
    · unfold upf; rw [if_neg (by omega)]; exact h3 w hw
    · unfold upf; rw [if_neg (by omega)]; exact h4
    · unfold upf; rw [if_neg (by omega)]; exact h5
theorem flipS_ok {g : PG} (okg : POK g) {st : Nat → Int} (h : SOK g st) (w : Int) : SOK g (flipS g st w).2 := by
  have ok1 := okg.1
  unfold flipS
  split
  · exact h
  · rename_i z
    obtain ⟨h1, h2, h3, h4, h5⟩ := h
    obtain ⟨n, hn⟩ := ex_nat (x := w) (by omega)
    subst hn
    dsimp only
    refine ⟨fun i hi => ?_, fun i hi hi2 => ?_, fun w hw => ?_, ?_, ?_⟩
    · have := h1 i hi
      unfold upf
      rw [if_neg (by omega), if_neg (by omega), if_neg (by omega)]; exact this
    · unfold upf; rw [if_neg (by omega)]; exact h2 i hi hi2
    · unfold upf; rw [if_pos rfl]
      by_cases hw32 : w < 32
      · rw [bit_ixor, bit_shl1 (by omega) hw32, h3 w hw, decide_eq_false (by omega)]; rfl
      · exact bit_big (by omega)
    · unfold upf; rw [if_pos rfl]; exact R32_ixor _ _
    · unfold upf; rw [if_neg (by omega)]; exact h5
theorem dyeS_ok {g : PG} {st : Nat → Int} (h : SOK g st) (n : Int) : SOK g (dyeS st n).2 := by
  unfold dyeS
  split
  · exact h
  · rename_i z
    obtain ⟨h1, h2, h3, h4, h5⟩ := h
    dsimp only
    refine ⟨fun i hi => ?_, fun i hi hi2 => ?_, fun w hw => ?_, ?_, ?_⟩
    · have := h1 i hi
      unfold upf
      rw [if_neg (by omega), if_neg (by omega), if_neg (by omega)]; exact this
    · unfold upf; rw [if_neg (by omega)]; exact h2 i hi hi2
    · unfold upf; rw [if_neg (by omega)]; exact h3 w hw
    · unfold upf; rw [if_neg (by omega)]; exact h4
    · unfold upf; rw [if_pos rfl]; omega
theorem deedS_ok {g : PG} (okg : POK g) {st : Nat → Int} (h : SOK g st) (v : Int) : SOK g (deedS g st v).2 := by
  unfold deedS
  split
  · exact h
  · split
    · exact dyeS_ok h _
    · split
      · exact flipS_ok okg h _
      · split
        · exact bindS_ok okg h _ _
        · split
          · exact shiftS_ok okg h _ _ _
          · split
            · exact shiftS_ok okg h _ _ _
            · exact h
/-- a place of a state -/
def svc (s k : Nat) : Nat × Nat := if k < 6 then (s + 1, k) else if k < 12 then (s + 2, k - 6) else if k < 18 then (s + 3, k - 12) else if k = 18 then (s, 3) else (s, 4)
theorem SV_svc {h : PH} {s k : Nat} : SV h s k = gi h (svc s k).1 (svc s k).2 := by
  unfold SV svc
  split
  · rfl
  · split
    · rfl
    · split
      · rfl
      · split <;> rfl
def dsv (s c i : Nat) : Nat := if c = s + 1 then i else if c = s + 2 then 6 + i else if c = s + 3 then 12 + i else if i = 3 then 18 else 19
theorem svc_inv {s k : Nat} (hk : k < 20) : dsv s (svc s k).1 (svc s k).2 = k := by
  unfold svc dsv
  split
  · rw [if_pos rfl]
  · split
    · rw [if_neg (by simp), if_pos rfl]; dsimp only; omega
    · split
      · rw [if_neg (by simp), if_neg (by simp), if_pos rfl]; dsimp only; omega
      · split
        · rw [if_neg (by simp), if_neg (by simp), if_neg (by simp), if_pos rfl]; omega
        · rw [if_neg (by simp), if_neg (by simp), if_neg (by simp), if_neg (by simp)]; omega
theorem svc_inj {s j k : Nat} (hj : j < 20) (hk : k < 20) (h1 : (svc s j).1 = (svc s k).1) (h2 : (svc s j).2 = (svc s k).2) : j = k := by
  rw [← svc_inv (s := s) hj, ← svc_inv (s := s) hk, h1, h2]
theorem StV.upd {h : PH} {s k : Nat} {st : Nat → Int} {v : Int} (a : StV h s st) (hk : k < 20) : StV (si h (svc s k).1 (svc s k).2 v) s (upf st k v) := fun j hj => by
  rw [SV_svc, gi_si]
  unfold upf
  by_cases e : j = k
  · subst e; rw [if_pos ⟨rfl, rfl⟩, if_pos rfl]
  · rw [if_neg (fun z => e (svc_inj hj hk z.1 z.2)), if_neg e, ← SV_svc]; exact a j hj
theorem svc_in {s k : Nat} : s ≤ (svc s k).1 ∧ (svc s k).1 ≤ s + 3 := by
  unfold svc
  split
  · simp
  · split
    · simp
    · split
      · simp
      · split <;> simp
section
variable {d : Nat} {h : PH} {Q : Option PV → PH → Prop}
variable {p s : Nat} {g : PG} {st : Nat → Int}
def frD (s : Nat) : Nat → Nat → Prop := fun q _ => s ≤ q ∧ q ≤ s + 3
theorem c_shift (cp : CLf p = 4) (cs : CLf s = 9) (hR : RCp h p g) (ok : POK g) (hS : StV h s st) (oks : SOK g st) {i ax b : Int} (hq : ∀ h', StV h' s (shiftS g st i ax b).2 → fr (frD s) h h' → Q (some (vI (shiftS g st i ax b).1)) h') : C2 d mX8_shift [vR s, vR p, vI i, vI ax, vI b] h Q := by
  have ok1 := ok.1
  have e5 : gi h p 5 = g_S g := hR.1.2.2.2.2.2.1
  have no : (i < 0 ∨ g_S g ≤ i ∨ ax < 0 ∨ 1 < ax ∨ b < -100 ∨ 100 < b) → Q (some (vI 1)) h := fun z => by
    have e : shiftS g st i ax b = (1, st) := by unfold shiftS; rw [if_pos z]
    rw [e] at hq; exact hq h hS fr.rf
  have go : ∀ (row o lim : Nat), 0 ≤ i → i < g_S g → ¬ (i < 0 ∨ g_S g ≤ i ∨ ax < 0 ∨ 1 < ax ∨ b < -100 ∨ 100 < b) → CLf row = 20 → LNf row = 6 → svc s (o + i.toNat) = (row, i.toNat) → o + i.toNat < 18 → (if ax = 0 then 0 else 6) = o → (if ax = 0 then (200 : Int) else 400) = lim → (ax = 0 → lim = 200) ∧ (ax ≠ 0 → lim = 400) → T2 d mX8_shift 52 [none, none, some (vI i), some (vI ax), some (vI b), none, none] [vR row] h Q := by
    intro row o lim i0 i1 hno hrow hlen hsv ho18 ho hlim hl2
    have hval : gi h row i.toNat = st (o + i.toNat) := by
      have := hS (o + i.toNat) (by omega)
      rw [SV_svc, hsv] at this; exact this
    have hst : 0 ≤ st (o + i.toNat) ∧ st (o + i.toNat) ≤ 400 := by
      have := oks.1 i.toNat (by omega)
      by_cases ea : ax = 0
      · rw [if_pos ea] at ho; subst ho; rw [Nat.zero_add]; omega
      · rw [if_neg ea] at ho; subst ho; omega
    have hs : shiftS g st i ax b = if st (o + i.toNat) + b < 0 ∨ (lim : Int) < st (o + i.toNat) + b then (2, st) else (0, upf st (o + i.toNat) (st (o + i.toNat) + b)) := by
      unfold shiftS; rw [if_neg hno, ho, hlim]
    refine BX8_shift_52 hrow ?_
    rw [hlen, hval, w32_r (by omega) (by omega)]
    have fin83 : 0 ≤ st (o + i.toNat) + b → T2 d mX8_shift 83 [none, none, some (vI i), none, none, some (vR row), some (vI (st (o + i.toNat) + b))] [vI (lim : Int), vI (st (o + i.toNat) + b)] h Q := by
      intro hpos
      refine BX8_shift_83 hrow ⟨fun z => ?_, fun z => ?_⟩
      · rw [hlen]
        refine ⟨⟨by omega, by omega⟩, fun h2 e2 => ?_⟩
        subst e2
        rw [hs, if_neg (by omega)] at hq
        have hu := hS.upd (v := st (o + i.toNat) + b) (show o + i.toNat < 20 by omega)
        rw [hsv] at hu
        refine hq _ hu (fr.rf.si ?_)
        have := svc_in (s := s) (k := o + i.toNat)
        rw [hsv] at this
        exact this
      · rw [hs, if_pos (by omega)] at hq
        exact hq h hS fr.rf
    refine ⟨⟨by omega, by omega⟩, fun z => ?_, fun z => ⟨fun y => ?_, fun y => ?_⟩⟩
    · rw [hs, if_pos (Or.inl z)] at hq
      exact hq h hS fr.rf
    · have := fin83 z; rw [hl2.2 y] at this; exact this
    · have := fin83 z; rw [hl2.1 y] at this; exact this
  refine EX8_shift fun _ _ _ => BX8_shift_0 cs cp ?_
  rw [e5]
  refine ⟨fun z => no (by omega), fun z => ⟨fun y => no (by omega), fun y => ⟨fun w => no (by omega), fun w => ⟨fun u => no (by omega), fun u => ⟨fun t => no (by omega), fun t => ⟨fun r => ⟨fun q => ?_, fun q => ?_⟩, fun r => no (by omega)⟩⟩⟩⟩⟩⟩
  · refine go (s + 2) 6 400 z y (by omega) (rf_8_1 cs) (rl_8_1 cs) ?_ (by omega) (by rw [if_neg q]) (by rw [if_neg q]; rfl) ⟨fun e => absurd e q, fun _ => rfl⟩
    unfold svc; rw [if_neg (by omega), if_pos (by omega), show 6 + i.toNat - 6 = i.toNat by omega]
  · refine go (s + 1) 0 200 z y (by omega) (rf_8_0 cs) (rl_8_0 cs) ?_ (by omega) (by rw [if_pos q]) (by rw [if_pos q]; rfl) ⟨fun _ => rfl, fun e => absurd q e⟩
    unfold svc; rw [if_pos (by omega), Nat.zero_add]
theorem c_bind (cp : CLf p = 4) (cs : CLf s = 9) (hR : RCp h p g) (ok : POK g) (hS : StV h s st) {i w : Int} (hq : ∀ h', StV h' s (bindS g st i w).2 → fr (frD s) h h' → Q (some (vI (bindS g st i w).1)) h') : C2 d mX8_bind [vR s, vR p, vI i, vI w] h Q := by
  have ok1 := ok.1
  have no : (i < 0 ∨ g_S g ≤ i ∨ w < -1 ∨ 30 ≤ w) → Q (some (vI 1)) h := fun z => by
    have e : bindS g st i w = (1, st) := by unfold bindS; rw [if_pos z]
    rw [e] at hq; exact hq h hS fr.rf
  refine EX8_bind fun _ _ => BX8_bind_0 cs cp ?_
  rw [hR.1.2.2.2.2.2.1]
  refine ⟨fun z => no (by omega), fun z => ⟨fun y => no (by omega), fun y => ⟨fun u => no (by omega), fun u => ⟨fun t => ⟨⟨by omega, by omega⟩, fun h2 e2 => ?_⟩, fun t => no (by omega)⟩⟩⟩⟩
  subst e2
  have e : bindS g st i w = (0, upf st (12 + i.toNat) w) := by unfold bindS; rw [if_neg (by omega)]
  rw [e] at hq
  have hsv : svc s (12 + i.toNat) = (s + 3, i.toNat) := by unfold svc; rw [if_neg (by omega), if_neg (by omega), if_pos (by omega), show 12 + i.toNat - 12 = i.toNat by omega]
  have hu := hS.upd (v := w) (show 12 + i.toNat < 20 by omega)
  rw [hsv] at hu
  exact hq _ hu (fr.rf.si (by unfold frD; omega))
theorem c_flip (cp : CLf p = 4) (cs : CLf s = 9) (hR : RCp h p g) (hS : StV h s st) {w : Int} (hq : ∀ h', StV h' s (flipS g st w).2 → fr (frD s) h h' → Q (some (vI (flipS g st w).1)) h') : C2 d mX8_flip [vR s, vR p, vI w] h Q := by
  have no : (w < 0 ∨ g_W g ≤ w) → Q (some (vI 1)) h := fun z => by
    have e : flipS g st w = (1, st) := by unfold flipS; rw [if_pos z]
    rw [e] at hq; exact hq h hS fr.rf
  refine EX8_flip fun _ => BX8_flip_0 cs cp ?_
  rw [hR.1.2.2.2.2.2.2]
  refine ⟨fun z => no (by omega), fun z => ⟨fun y h2 e2 => ?_, fun y => no (by omega)⟩⟩
  subst e2
  have e : flipS g st w = (0, upf st 18 (ixor (st 18) (ishl 1 w))) := by unfold flipS; rw [if_neg (by omega)]
  rw [e] at hq
  rw [show gi h s 3 = st 18 from hS 18 (by omega)]
  exact hq _ (hS.upd (k := 18) (by omega)) (fr.rf.si (by unfold frD; omega))
theorem c_dye (cs : CLf s = 9) (hS : StV h s st) {n : Int} (hq : ∀ h', StV h' s (dyeS st n).2 → fr (frD s) h h' → Q (some (vI (dyeS st n).1)) h') : C2 d mX8_dye [vR s, vI n] h Q := by
  have no : (n < 0 ∨ 10 ≤ n) → Q (some (vI 1)) h := fun z => by
    have e : dyeS st n = (1, st) := by unfold dyeS; rw [if_pos z]
    rw [e] at hq; exact hq h hS fr.rf
  refine EX8_dye fun _ => BX8_dye_0 cs ⟨fun z => no (by omega), fun z => ⟨fun y h2 e2 => ?_, fun y => no (by omega)⟩⟩
  subst e2
  have e : dyeS st n = (0, upf st 19 n) := by unfold dyeS; rw [if_neg (by omega)]
  rw [e] at hq
  exact hq _ (hS.upd (k := 19) (by omega)) (fr.rf.si (by unfold frD; omega))
theorem c_deed (cp : CLf p = 4) (cs : CLf s = 9) (hR : RCp h p g) (ok : POK g) (hS : StV h s st) (oks : SOK g st) {v : Int} (hq : ∀ h', StV h' s (deedS g st v).2 → fr (frD s) h h' → Q (some (vI (deedS g st v).1)) h') : C2 (d + 1) mX8_deed [vR s, vR p, vJ v] h Q := by
  refine EX8_deed fun _ => BX8_deed_0 cs cp ⟨fun z => ?_, fun z => ⟨fun y => ?_, fun y => ?_⟩⟩
  · have e : deedS g st v = (1, st) := by unfold deedS; rw [if_pos (Or.inl z)]
    rw [e] at hq; exact hq h hS fr.rf
  · rw [w32_r (by omega) (by omega)]
    have e0 : deedS g st v = if v ≤ 19 then dyeS st (v - 10) else if 100 ≤ v ∧ v ≤ 129 then flipS g st (v - 100) else if 1000 ≤ v ∧ v ≤ 1599 then bindS g st ((v - 1000) / 100) (if v % 100 = 99 then -1 else v % 100) else if 10000 ≤ v ∧ v ≤ 15999 then shiftS g st ((v - 10000) / 1000) 0 (v % 1000 - 100) else if 20000 ≤ v then shiftS g st ((v - 20000) / 1000) 1 (v % 1000 - 100) else (1, st) := by unfold deedS; rw [if_neg (by omega)]
    have no : deedS g st v = (1, st) → Q (some (vI 1)) h := fun e => by rw [e] at hq; exact hq h hS fr.rf
    have b65 : 19 < v → ¬ (100 ≤ v ∧ v ≤ 129) → T2 (d + 1) mX8_deed 65 [some (vR s), some (vR p), none, none, some (vI v), none] [] h Q := by
      intro v1 v2
      rw [if_neg (by omega), if_neg v2] at e0
      have b130 : ¬ (1000 ≤ v ∧ v ≤ 1599) → T2 (d + 1) mX8_deed 130 [some (vR s), some (vR p), none, none, some (vI v), none] [] h Q := by
        intro v3
        rw [if_neg v3] at e0
        have b172 : ¬ (10000 ≤ v ∧ v ≤ 15999) → T2 (d + 1) mX8_deed 172 [some (vR s), some (vR p), none, none, some (vI v), none] [] h Q := by
          intro v4
          rw [if_neg v4] at e0
          refine BX8_deed_172 cs cp ⟨fun u => ?_, fun u => ?_⟩
          · rw [if_neg (by omega)] at e0; exact no e0
          · rw [if_pos u] at e0
            rw [w32_r (x := v - 20000) (by omega) (by omega), Int.tdiv_eq_ediv_of_nonneg (by omega), w32_r (x := (v - 20000) / 1000) (by omega) (by omega), Int.tmod_eq_emod_of_nonneg (by omega), w32_r (by omega) (by omega)]
            rw [e0] at hq
            exact c_shift cp cs hR ok hS oks (fun h' b1 b2 _ => hq h' b1 b2)
        refine BX8_deed_130 cs cp ⟨fun u => b172 (by omega), fun u => ⟨fun t => b172 (by omega), fun t => ?_⟩⟩
        rw [if_pos ⟨u, t⟩] at e0
        rw [w32_r (x := v - 10000) (by omega) (by omega), Int.tdiv_eq_ediv_of_nonneg (by omega), w32_r (x := (v - 10000) / 1000) (by omega) (by omega), Int.tmod_eq_emod_of_nonneg (by omega), w32_r (by omega) (by omega)]
        rw [e0] at hq
        exact c_shift cp cs hR ok hS oks (fun h' b1 b2 _ => hq h' b1 b2)
      refine BX8_deed_65 cs cp ⟨fun u => b130 (by omega), fun u => ⟨fun t => b130 (by omega), fun t => ?_⟩⟩
      rw [if_pos ⟨u, t⟩] at e0
      rw [w32_r (x := v - 1000) (by omega) (by omega), Int.tdiv_eq_ediv_of_nonneg (by omega), w32_r (x := (v - 1000) / 100) (by omega) (by omega), Int.tmod_eq_emod_of_nonneg (by omega)]
      refine ⟨fun r => ?_, fun r => ?_⟩
      · rw [if_neg r] at e0; rw [e0] at hq
        exact c_bind cp cs hR ok hS (fun h' b1 b2 _ => hq h' b1 b2)
      · rw [if_pos r] at e0; rw [e0] at hq
        exact c_bind cp cs hR ok hS (fun h' b1 b2 _ => hq h' b1 b2)
    refine ⟨fun u => ⟨fun t => b65 u (by omega), fun t => ⟨fun r => b65 u (by omega), fun r => ?_⟩⟩, fun u => ?_⟩
    · rw [if_neg (by omega), if_pos ⟨t, r⟩] at e0
      rw [w32_r (by omega) (by omega)]
      rw [e0] at hq
      exact c_flip cp cs hR hS (fun h' b1 b2 _ => hq h' b1 b2)
    · rw [if_pos u] at e0
      rw [w32_r (by omega) (by omega)]
      rw [e0] at hq
      exact c_dye cs hS (fun h' b1 b2 _ => hq h' b1 b2)
  · have e : deedS g st v = (1, st) := by unfold deedS; rw [if_pos (Or.inr y)]
    rw [e] at hq; exact hq h hS fr.rf
end
