/-! THE CLASS: cutting and pouring -/
theorem spl_lr {v : VW} (ok : VOK v) {ht : Nat → Int} {l : Nat} (hl : l < v_ln v) : ∀ n, n ≤ v_S v → ∀ b ∈ spl v ht l n, -1000 ≤ b.1 ∧ b.1 < b.2 ∧ b.2 ≤ 1000 := by
  intro n
  induction n with
  | zero => intro _ b hb; simp [spl] at hb
  | succ n ih =>
    intro hn b hb
    obtain ⟨k1, k2, k3⟩ := rch_rg ok (l := l) (show n < v_S v by omega) (y := ht n)
    obtain ⟨-, ok2, -, ok4⟩ := ok
    obtain ⟨-, -, -, -, -, -, -, -, k7, k8, -⟩ := ok2 n (by omega)
    obtain ⟨g1, g2⟩ := ok4 n l (by omega) hl
    rcases List.mem_append.mp (show b ∈ spl v ht l n ++ _ from hb) with z | z
    · exact ih (by omega) b z
    · split at z
      · simp at z
      · rw [List.mem_singleton.mp z]
        unfold spL spR
        show -1000 ≤ (if v_kd v n = 0 then v_x v n else v_x v n - rch v n (ht n) l) - v_gp v n l ∧ _ ∧ _
        split <;> (dsimp only; omega)
theorem slt_len {v : VW} (ok : VOK v) {wi : Int} (hw : 0 ≤ wi) {ht : Nat → Int} : ∀ n, n ≤ v_ln v → (slt v wi ht n).length ≤ 7 * n := by
  intro n
  induction n with
  | zero => intro _; exact Nat.le_refl _
  | succ n ih =>
    intro hn
    have h1 := ih (by omega)
    have h2 := cutS_len (wi := wi) (le := v_le v) (M := spl v ht n (v_S v)) (by have := ok.1; omega) hw (fun b hb => (spl_lr ok (by omega) _ (Nat.le_refl _) b hb).2.1)
    have h3 := spl_len v ht n (v_S v)
    have h4 := ok.1
    show (slt v wi ht n ++ _).length ≤ _
    rw [List.length_append, List.length_map]
    omega
theorem slt_app {v : VW} {wi : Int} {ht : Nat → Int} (n : Nat) : slt v wi ht (n + 1) = slt v wi ht n ++ mkL n (cutS wi (v_le v) (spl v ht n (v_S v))) := rfl
section
variable {d : Nat} {h : PH} {Q : Option PV → PH → Prop}
variable {t p s ink : Nat} {v : VW} {wi : Int}
theorem c_spanLeft (X : StC h t p s ink v wi) {i l : Nat} {r : Int} (hi : i < v_S v) (hl : l < v_ln v) (hr : -1 ≤ r ∧ r ≤ 200) (hq : Q (some (vI (spL v i l r))) h) : C2 (d + 1) mX6_spanLeft [vR t, vI (i : Int), vI (l : Int), vI r] h Q := by
  obtain ⟨⟨x1, x2, x3, x3', x4, x5, x6⟩, ⟨y1, y2, y3⟩, hv, ok, w1, w2⟩ := X
  obtain ⟨⟨o1, o2, o3, o4, o5, o6, o7, o8⟩, ok2, -, ok4⟩ := ok
  obtain ⟨k1, k2, k3, k4, k5, k6, k6a, k6b, k7, k8, -⟩ := ok2 i hi
  obtain ⟨g1, g2⟩ := ok4 i l hi hl
  obtain ⟨⟨a1, a2, a3, a4, a5, a6, a7⟩, b, -, -, hg⟩ := hv
  obtain ⟨b1, b2, b3, b4, b5, b6⟩ := b i hi
  have hg' := hg i l hi hl
  have fin : ∀ x : Int, -1000 ≤ x → x ≤ 1000 → Q (some (vI (x - v_gp v i l))) h → T2 (d + 1) mX6_spanLeft 35 [some (vR t), some (vI (i : Int)), some (vI (l : Int)), none, none] [vI x] h Q := by
    intro x e1 e2 e3
    refine BX6_spanLeft_35 x1 ?_
    rw [y1, y2, a6]
    refine c_gapOf x2 (by omega) (by omega) a7 (fun _ => ?_)
    rw [hg']
    dsimp only
    rw [w32_r (by omega) (by omega)]
    exact e3
  refine EX6_spanLeft fun _ _ _ => BX6_spanLeft_0 x1 ⟨⟨by omega, by omega⟩, ?_⟩
  simp only [Int.toNat_natCast]
  rw [y1, y2, b1, b4]
  unfold spL at hq
  refine ⟨fun z => ⟨⟨by omega, by omega⟩, ?_⟩, fun z => ⟨⟨by omega, by omega⟩, ?_⟩⟩
  · rw [if_neg z] at hq
    rw [w32_r (by omega) (by omega)]
    exact fin _ (by omega) (by omega) hq
  · rw [if_pos z] at hq
    exact fin _ (by omega) (by omega) hq
theorem c_spanRight (X : StC h t p s ink v wi) {i l : Nat} {r : Int} (hi : i < v_S v) (hl : l < v_ln v) (hr : -1 ≤ r ∧ r ≤ 200) (hq : Q (some (vI (spR v i l r))) h) : C2 (d + 1) mX6_spanRight [vR t, vI (i : Int), vI (l : Int), vI r] h Q := by
  obtain ⟨⟨x1, x2, x3, x3', x4, x5, x6⟩, ⟨y1, y2, y3⟩, hv, ok, w1, w2⟩ := X
  obtain ⟨⟨o1, o2, o3, o4, o5, o6, o7, o8⟩, ok2, -, ok4⟩ := ok
  obtain ⟨k1, k2, k3, k4, k5, k6, k6a, k6b, k7, k8, -⟩ := ok2 i hi
  obtain ⟨g1, g2⟩ := ok4 i l hi hl
  obtain ⟨⟨a1, a2, a3, a4, a5, a6, a7⟩, b, -, -, hg⟩ := hv
  obtain ⟨b1, b2, b3, b4, b5, b6⟩ := b i hi
  have hg' := hg i l hi hl
  refine EX6_spanRight fun _ _ _ => BX6_spanRight_0 x1 ⟨⟨by omega, by omega⟩, ?_⟩
  simp only [Int.toNat_natCast]
  rw [y1, y2, b4, a6]
  refine c_gapOf x2 (by omega) (by omega) a7 (fun _ => ?_)
  rw [hg']
  dsimp only
  rw [w32_r (x := v_x v i + r) (by omega) (by omega), w32_r (by omega) (by omega)]
  exact hq
def frK (t l : Nat) : Nat → Nat → Prop := fun q k => (q = t + 1 ∧ (k = 4 ∨ k = 6 ∨ k = 9)) ∨ (t + 2 ≤ q ∧ q ≤ t + 5) ∨ (q = t + 6 ∧ (k = l ∨ k = l + 1)) ∨ q = t + 7 ∨ q = t + 8
theorem frK_T {t l q k : Nat} (z : frK t l q k) : frT t q k := by unfold frK at z; unfold frT; omega
theorem SR.keep {h h' : PH} {u : Nat} {L : SL} (a : SR h u L) (e0 : gi h' u 4 = gi h u 4) (e : ∀ k, gi h' (u + 1) k = gi h (u + 1) k ∧ gi h' (u + 2) k = gi h (u + 2) k ∧ gi h' (u + 3) k = gi h (u + 3) k) : SR h' u L :=
  ⟨e0.trans a.1, fun k hk => by obtain ⟨e1, e2, e3⟩ := e k; rw [e1, e2, e3]; exact a.2 k hk⟩
theorem cut_loop (X0 : StC h t p s ink v wi) {ht : Nat → Int} {l : Nat} (hl : l < v_ln v) (hH : ∀ i, i < v_S v → gi h (t + 11) i = ht i ∧ -1 ≤ ht i ∧ ht i ≤ 1000) (hS0 : SR h (t + 1) (slt v wi ht l)) (g60 : gi h (t + 1) 6 = l)
    (hq : ∀ h', SR h' (t + 1) (slt v wi ht (l + 1)) → SP h' (t + 1) [] → gi h' (t + 1) 6 = (l : Int) + 1 → gi h' (t + 6) l = (slt v wi ht l).length → gi h' (t + 6) (l + 1) = (slt v wi ht (l + 1)).length → (∀ k, k < (slt v wi ht l).length → gi h' (t + 5) k = gi h (t + 5) k) → (∀ k, (slt v wi ht l).length ≤ k → k < (slt v wi ht (l + 1)).length → gi h' (t + 5) k = 0) → fr (frK t l) h h' → Q none h') :
    ∀ (m i : Nat) (P : List (Int × Int)) (h1 : PH), i + m = v_S v → SP h1 (t + 1) P → srtd P → (∀ b, b ∈ P ↔ b ∈ spl v ht l i) → P.length = (spl v ht l i).length → fr (frP (t + 1)) h h1 → T2 (d + 2) mX6_cut 2 [some (vR t), some (vI (l : Int)), some (vI (i : Int)), none] [] h1 Q := by
  intro m
  induction m with
  | zero =>
    intro i P h1 hi hP hs hm hPl hF
    have ei : i = v_S v := by omega
    subst ei
    have hFT : fr (frT t) h h1 := hF.mono (fun q k z => by unfold frP at z; unfold frT; omega)
    have X := X0.keep hFT
    obtain ⟨⟨x1, x2, x3, x3', x4, x5, x6⟩, ⟨y1, y2, y3⟩, hv, ok, w1, w2⟩ := X
    have ok1 := ok.1
    obtain ⟨⟨a1, a2, a3, a4, a5, a6, a7⟩, -, -, -, -⟩ := hv
    refine BX6_cut_2 x1 ⟨fun _ => ?_, fun z => by rw [y1, a4] at z; omega⟩
    rw [y1, y3, a3]
    have hPb : ∀ b ∈ P, -1000 ≤ b.1 ∧ b.1 < b.2 ∧ b.2 ≤ 1000 := fun b hb => spl_lr ok hl _ (Nat.le_refl _) b ((hm b).mp hb)
    have hsl := slt_len ok w1 (ht := ht) l (by omega)
    have hcut : swp wi (v_le v) 0 P = cutS wi (v_le v) (spl v ht l (v_S v)) := swp_cut (by omega) w1 hs (fun b hb => (hPb b hb).2.1) hm
    refine c_cutLine (u := t + 1) x3' (n := l) (by omega) (by omega) hP hPb (L := slt v wi ht l) (by omega) (hS0.keep ?_ (fun k => ⟨?_, ?_, ?_⟩)) ?_ (fun h2 b1 b2 b3 b4 b5 b6 b7 b8 => ⟨rfl, ?_⟩)
    · exact hF.1 _ _ (by unfold frP; omega)
    · exact hF.1 _ _ (by unfold frP; omega)
    · exact hF.1 _ _ (by unfold frP; omega)
    · exact hF.1 _ _ (by unfold frP; omega)
    · rw [hF.1 _ _ (by unfold frP; omega)]; exact g60
    · rw [hcut, ← slt_app] at b1 b5 b7
      refine hq h2 b1 b2 b3 b4 b5 (fun k hk => ?_) b7 ((hF.mono ?_).tr (b8.mono ?_))
      · rw [b6 k hk, hF.1 _ _ (by unfold frP; omega)]
      · intro q k z; unfold frP at z; unfold frK; omega
      · intro q k z; unfold frC at z; unfold frK; omega
  | succ m ih =>
    intro i P h1 hi hP hs hm hPl hF
    have hFT : fr (frT t) h h1 := hF.mono (fun q k z => by unfold frP at z; unfold frT; omega)
    have X := X0.keep hFT
    obtain ⟨⟨x1, x2, x3, x3', x4, x5, x6⟩, ⟨y1, y2, y3⟩, hv, ok, w1, w2⟩ := id X
    have ok1 := ok.1
    obtain ⟨⟨a1, a2, a3, a4, a5, a6, a7⟩, -, -, -, -⟩ := id hv
    have his : i < v_S v := by omega
    obtain ⟨z1, z2, z3⟩ := hH i his
    refine BX6_cut_2 x1 ⟨fun z => by rw [y1, a4] at z; omega, fun _ => ⟨⟨by omega, by omega⟩, ?_⟩⟩
    simp only [Int.toNat_natCast]
    rw [y1, hF.1 (t + 11) i (by unfold frP; omega), z1]
    obtain ⟨r1, r2, r3⟩ := rch_rg ok (l := l) his (y := ht i)
    refine c_reach x2 hv ok his (by omega) ⟨z2, z3⟩ (fun _ => ⟨fun e => ?_, fun e => ?_⟩)
    · rw [w32_r (by omega) (by omega), show ((i : Int) + 1) = ((i + 1 : Nat) : Int) by omega]
      have e2 : spl v ht l (i + 1) = spl v ht l i := by
        show spl v ht l i ++ _ = _
        rw [if_pos e, List.append_nil]
      exact ih (i + 1) P h1 (by omega) hP hs (by rw [e2]; exact hm) (by rw [e2]; exact hPl) hF
    · have e2 : spl v ht l (i + 1) = spl v ht l i ++ [(spL v i l (rch v i (ht i) l), spR v i l (rch v i (ht i) l))] := by
        show spl v ht l i ++ _ = _
        rw [if_neg (by omega)]
      have hll := spl_len v ht l i
      refine c_spanLeft X his hl ⟨by omega, by omega⟩ (fun _ => ?_)
      refine c_spanRight X his hl ⟨by omega, by omega⟩ (fun _ => ?_)
      refine c_addSpan x3' hP (by omega) hs (fun h2 P' b1 b2 b3 b4 b5 => ⟨rfl, ?_⟩)
      rw [w32_r (by omega) (by omega), show ((i : Int) + 1) = ((i + 1 : Nat) : Int) by omega]
      refine ih (i + 1) P' h2 (by omega) b1 b2 (fun b => ?_) (by rw [b4, e2, hPl]; simp) (hF.tr b5)
      rw [b3, e2, List.mem_append, List.mem_singleton, hm]
      exact Or.comm
theorem c_cut (X : StC h t p s ink v wi) {ht : Nat → Int} {l : Nat} (hl : l < v_ln v) (hH : ∀ i, i < v_S v → gi h (t + 11) i = ht i ∧ -1 ≤ ht i ∧ ht i ≤ 1000) (hS : SR h (t + 1) (slt v wi ht l)) (hP : SP h (t + 1) []) (g6 : gi h (t + 1) 6 = l)
    (hq : ∀ h', SR h' (t + 1) (slt v wi ht (l + 1)) → SP h' (t + 1) [] → gi h' (t + 1) 6 = (l : Int) + 1 → gi h' (t + 6) l = (slt v wi ht l).length → gi h' (t + 6) (l + 1) = (slt v wi ht (l + 1)).length → (∀ k, k < (slt v wi ht l).length → gi h' (t + 5) k = gi h (t + 5) k) → (∀ k, (slt v wi ht l).length ≤ k → k < (slt v wi ht (l + 1)).length → gi h' (t + 5) k = 0) → fr (frK t l) h h' → Q none h') : C2 (d + 2) mX6_cut [vR t, vI (l : Int)] h Q :=
  EX6_cut fun _ => BX6_cut_0 X.1.1 (cut_loop X hl hH hS g6 hq (v_S v) 0 [] h (by omega) hP trivial (fun b => by simp [spl]) rfl fr.rf)
/-! pouring -/
abbrev F4 : Type := (Nat → Int) × (Nat → Int) × (Nat → Int) × Nat
def f4 (v : VW) (L : SL) (w k : Nat) (a : Int) (F : F4) : F4 := (fnl v L (w, k, a, F)).2.2.2
theorem f4_end {v : VW} {L : SL} {w k : Nat} {a : Int} {F : F4} (hh : v_W v ≤ w ∨ L.length ≤ k) : f4 v L w k a F = F := by
  unfold f4
  rw [fnl_end (by show ¬ (w < v_W v ∧ k < L.length); omega)]
/-- the words as they are poured so far: K slots are cut, w words are gone through -/
def CFm (h : PH) (t K w : Nat) (F : F4) : Prop := (∀ j, j < 30 → gi h (t + 9) j = F.1 j ∧ gi h (t + 10) j = F.2.1 j) ∧ (∀ k, k < K → gi h (t + 5) k = F.2.2.1 k ∧ F.2.2.1 k ≤ w) ∧ (∀ k, 0 ≤ F.2.2.1 k) ∧ (∀ k, K ≤ k → F.2.2.1 k = 0) ∧ gi h t 9 = F.2.2.2 ∧ F.2.2.2 ≤ w ∧ (∀ j, -1 ≤ F.1 j ∧ F.1 j < K) ∧ (∀ j, w ≤ j → F.1 j = -1)
def frF (t : Nat) : Nat → Nat → Prop := fun q k => (q = t ∧ k = 9) ∨ q = t + 9 ∨ q = t + 10 ∨ q = t + 5
theorem fill_loop (X0 : StC h t p s ink v wi) {L : SL} {K i : Nat} (hK : K ≤ 140) (hi : i < K) (hiL : i < L.length) (hr : gi h (t + 4) i = s_ri L i) (hrr : s_ri L i ≤ 1000) {G : F4}
    (hq : ∀ (w' : Nat) (F' : F4) (h' : PH), w' ≤ v_W v → f4 v L w' (i + 1) (s_le L (i + 1)) F' = G → CFm h' t K w' F' → fr (frF t) h h' → Q (some (vI (w' : Int))) h') :
    ∀ (m w : Nat) (a : Int) (F : F4) (h1 : PH), w + m = v_W v → f4 v L w i a F = G → CFm h1 t K w F → 0 ≤ a → a ≤ 1001 → fr (frF t) h h1 → T2 (d + 1) mX6_fill 13 [some (vR t), some (vI (i : Int)), none, some (vI a), some (vI (w : Int)), none] [] h1 Q := by
  intro m
  induction m with
  | zero =>
    intro w a F h1 hw hG hC ha1 ha2 hF
    have X := X0.keep (hF.mono (fun q k z => by unfold frF at z; unfold frT; omega))
    obtain ⟨⟨x1, x2, x3, x3', x4, x5, x6⟩, ⟨y1, y2, y3⟩, hv, ok, w1, w2⟩ := X
    obtain ⟨⟨a1, a2, a3, a4, a5, a6, a7⟩, -, -, -, -⟩ := hv
    refine BX6_fill_13 x1 ⟨fun _ => ?_, fun z => by rw [y1, a5] at z; omega⟩
    rw [y1, a5]
    have ew : w = v_W v := by omega
    subst ew
    refine hq _ F h1 (Nat.le_refl _) ?_ hC hF
    rw [f4_end (Or.inl (Nat.le_refl _))] at hG ⊢
    exact hG
  | succ m ih =>
    intro w a F h1 hw hG hC ha1 ha2 hF
    have X := X0.keep (hF.mono (fun q k z => by unfold frF at z; unfold frT; omega))
    obtain ⟨⟨x1, x2, x3, x3', x4, x5, x6⟩, ⟨y1, y2, y3⟩, hv, ok, w1, w2⟩ := X
    have ok1 := ok.1
    have okw := ok.2.2.1 w (by omega)
    obtain ⟨⟨a1, a2, a3, a4, a5, a6, a7⟩, -, hbit, hwd, -⟩ := hv
    have hww : w < v_W v := by omega
    refine BX6_fill_13 x1 ⟨fun z => by rw [y1, a5] at z; omega, fun _ => ?_⟩
    rw [y2]
    refine c_hides x3 (by omega) (fun _ => ?_)
    rw [hbit w hww]
    refine ⟨fun z => ?_, fun z => ?_⟩
    · have hh : v_hd v w = false := by
        cases hb : v_hd v w with
        | false => rfl
        | true => rw [hb] at z; simp at z
      rw [y1, y2, a6]
      refine c_wideOf x2 (by omega) a7 (fun _ => ⟨⟨by omega, by omega⟩, ?_⟩)
      simp only [Int.toNat_natCast]
      rw [hwd w hww, hF.1 (t + 4) i (by unfold frF; omega), hr, w32_r (x := a + v_wd v w) (by omega) (by omega)]
      obtain ⟨C1, C2, C3, C4, C5, C6, C7, C8⟩ := hC
      refine ⟨fun y => ⟨⟨by omega, by omega⟩, fun h2 e2 => ⟨⟨by omega, by omega⟩, fun h3 e3 => ⟨⟨by omega, by omega⟩, ⟨by omega, by omega⟩, fun h4 e4 h5 e5 => ?_⟩⟩⟩, fun y => ?_⟩
      · subst e2 e3 e4 e5
        obtain ⟨c1, c2⟩ := C2 i hi
        have c3 := C3 i
        simp (disch := omega) only [gi_s0, gi_s1, gi_s2, gj_s0, gj_s1, gj_s2, gi_f0, gi_f1, gj_f0, gj_f1, gr_r0, gr_r1, gr_r2, gi_sj, gi_sr, gj_si, gj_sr, gr_si, gr_sj, gr_stI, gj_stI, gi_stJ, gr_stJ]
        rw [w32_r (x := v_wd v w + 1) (by omega) (by omega), w32_r (x := a + (v_wd v w + 1)) (by omega) (by omega), w32_r (x := (w : Int) + 1) (by omega) (by omega), c1, C5, w32_r (x := F.2.2.1 i + 1) (by omega) (by omega), w32_r (x := (F.2.2.2 : Int) + 1) (by omega) (by omega), show ((w : Int) + 1) = ((w + 1 : Nat) : Int) by omega, show a + (v_wd v w + 1) = a + v_wd v w + 1 by omega]
        obtain ⟨F1, F2, F3, n⟩ := F
        refine ih (w + 1) _ (upf F1 w i, upf F2 w a, upf F3 i (F3 i + 1), n + 1) _ (by omega) ?_ ⟨fun j hj => ?_, fun k hk => ?_, fun k => ?_, fun k hk => ?_, ?_, ?_, fun j => ?_, fun j hj => ?_⟩ (by omega) (by omega) ((((hF.si ?_).si ?_).si ?_).si ?_)
        · rw [← hG]
          unfold f4
          rw [fnl_put hww hiL hh y]
        · show gi _ _ _ = upf F1 w i j ∧ gi _ _ _ = upf F2 w a j
          unfold upf
          by_cases e : j = w
          · subst e; simp (disch := omega) only [gi_s0, gi_s1, gi_s2, gj_s0, gj_s1, gj_s2, gi_f0, gi_f1, gj_f0, gj_f1, gr_r0, gr_r1, gr_r2, gi_sj, gi_sr, gj_si, gj_sr, gr_si, gr_sj, gr_stI, gj_stI, gi_stJ, gr_stJ]; simp
          · simp (disch := omega) only [gi_s0, gi_s1, gi_s2, gj_s0, gj_s1, gj_s2, gi_f0, gi_f1, gj_f0, gj_f1, gr_r0, gr_r1, gr_r2, gi_sj, gi_sr, gj_si, gj_sr, gr_si, gr_sj, gr_stI, gj_stI, gi_stJ, gr_stJ]; rw [if_neg e, if_neg e]; exact C1 j hj
        · show gi _ _ _ = upf F3 i (F3 i + 1) k ∧ upf F3 i (F3 i + 1) k ≤ _
          unfold upf
          by_cases e : k = i
          · subst e; simp (disch := omega) only [gi_s0, gi_s1, gi_s2, gj_s0, gj_s1, gj_s2, gi_f0, gi_f1, gj_f0, gj_f1, gr_r0, gr_r1, gr_r2, gi_sj, gi_sr, gj_si, gj_sr, gr_si, gr_sj, gr_stI, gj_stI, gi_stJ, gr_stJ]; simp; dsimp only at c2; omega
          · simp (disch := omega) only [gi_s0, gi_s1, gi_s2, gj_s0, gj_s1, gj_s2, gi_f0, gi_f1, gj_f0, gj_f1, gr_r0, gr_r1, gr_r2, gi_sj, gi_sr, gj_si, gj_sr, gr_si, gr_sj, gr_stI, gj_stI, gi_stJ, gr_stJ]; rw [if_neg e]; have := C2 k hk; dsimp only at this; omega
        · show 0 ≤ upf F3 i (F3 i + 1) k
          unfold upf
          have := C3 k; dsimp only at this c3
          split <;> omega
        · show upf F3 i (F3 i + 1) k = 0
          unfold upf
          rw [if_neg (by omega)]; exact C4 k hk
        · simp (disch := omega) only [gi_s0, gi_s1, gi_s2, gj_s0, gj_s1, gj_s2, gi_f0, gi_f1, gj_f0, gj_f1, gr_r0, gr_r1, gr_r2, gi_sj, gi_sr, gj_si, gj_sr, gr_si, gr_sj, gr_stI, gj_stI, gi_stJ, gr_stJ]; rfl
        · show n + 1 ≤ w + 1; dsimp only at C6; omega
        · show -1 ≤ upf F1 w i j ∧ upf F1 w i j < K
          unfold upf
          have := C7 j; dsimp only at this
          split <;> omega
        · show upf F1 w i j = -1
          unfold upf
          rw [if_neg (by omega)]; exact C8 j (by omega)
        all_goals (unfold frF; omega)
      · refine hq w F h1 (by omega) ?_ ⟨C1, C2, C3, C4, C5, C6, C7, C8⟩ hF
        rw [← hG]
        unfold f4
        obtain ⟨F1, F2, F3, n⟩ := F
        rw [fnl_nxt hww hiL hh y]
    · have hh : v_hd v w = true := by
        cases hb : v_hd v w with
        | true => rfl
        | false => rw [hb] at z; simp at z
      rw [w32_r (by omega) (by omega), show ((w : Int) + 1) = ((w + 1 : Nat) : Int) by omega]
      obtain ⟨C1, C2, C3, C4, C5, C6, C7, C8⟩ := hC
      refine ih (w + 1) a F h1 (by omega) ?_ ⟨C1, fun k hk => ⟨(C2 k hk).1, by have := (C2 k hk).2; omega⟩, C3, C4, C5, by omega, C7, fun j hj => C8 j (by omega)⟩ ha1 ha2 hF
      rw [← hG]
      unfold f4
      obtain ⟨F1, F2, F3, n⟩ := F
      rw [fnl_hid hww hiL hh]
theorem c_fill (X : StC h t p s ink v wi) {L : SL} {K i w : Nat} {F : F4} (hK : K ≤ 140) (hi : i < K) (hiL : i < L.length) (hl : gi h (t + 3) i = s_le L i) (hr : gi h (t + 4) i = s_ri L i) (hrr : s_ri L i ≤ 1000) (hll : 0 ≤ s_le L i ∧ s_le L i ≤ 1000) (hw : w ≤ v_W v) (hC : CFm h t K w F)
    (hq : ∀ (w' : Nat) (F' : F4) (h' : PH), w' ≤ v_W v → f4 v L w' (i + 1) (s_le L (i + 1)) F' = f4 v L w i (s_le L i) F → CFm h' t K w' F' → fr (frF t) h h' → Q (some (vI (w' : Int))) h') : C2 (d + 1) mX6_fill [vR t, vI (i : Int), vI (w : Int)] h Q := by
  refine EX6_fill fun _ _ => BX6_fill_0 X.1.1 ⟨⟨by omega, by omega⟩, ?_⟩
  simp only [Int.toNat_natCast]
  rw [hl]
  exact fill_loop X hK hi hiL hr hrr hq (v_W v - w) w _ F h (by omega) rfl hC (by omega) (by omega) fr.rf
end
