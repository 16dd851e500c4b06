theorem law_T (L : Nat) (xs : Nat → Int32) (hL : L ≤ 3072) : T 60 (600000, 7302250, 0, 0) mL_law 0 [some (vR 62), none, none, none] [] (h_0 L xs) (fun r _ => r = some (vI 1)) := by
  rw [← den_0]
  refine T1_new (c := 10) (r := (RX10, TX10, 19)) (N := 19) (tDI kL_law_0 0 rfl) rfl clL_7 ins_10 iniX10 rfl (by decide) ⟨by decide, by decide⟩ (fun _ h e => ?_)
  rw [show nx (den L xs []) = 64 from rfl]
  obtain rfl : h = den L xs kc0 := e.trans (den_nw [] 11 0)
  refine T_dup (tDI kL_law_0 1 rfl) rfl ?_
  refine T_iV_0 (N := mX10_init) (mc := 182) (ms := 17907) (tDI kL_law_0 2 rfl) (Or.inl lL_9) oX10_init rfl jX10_init rfl (by decide) (Nat.le_of_ble_eq_true rfl) ⟨by decide, by decide⟩ (ct_X10 ⟨rfl, ?_⟩)
  refine T_astore_n (tDI kL_law_0 3 rfl) rfl (by decide) rfl ?_
  refine T1_new (c := 11) (r := (RX11, TX11, 59)) (N := 59) (tDI kL_law_0 4 rfl) rfl clL_10 ins_11 iniX11 rfl (by decide) ⟨by decide, by decide⟩ (fun _ h e => ?_)
  rw [show nx (den L xs kc120) = 247 from (show 64 + kc120.length = 247 by decide +kernel)]
  obtain rfl : h = den L xs kc121 := e.trans (den_nw kc120 12 0)
  refine T_dup (tDI kL_law_0 5 rfl) rfl ?_
  refine T_iV_0 (N := mX11_init) (mc := 31) (ms := 8124) (tDI kL_law_0 6 rfl) (Or.inl lL_12) oX11_init rfl jX11_init rfl (by decide) (Nat.le_of_ble_eq_true rfl) ⟨by decide, by decide⟩ (ct_X11 ?_)
  rw [kE_ok]
  have hs := shp_E L xs
  have c := n_plain (d := 58) (h := den L xs kE) (l0 := 248) (Q := fun r h' => r = none ∧ (∀ k, k < 1213 → gi h' 248 k = plnV k) ∧ fr (fun q k => q = 248 ∧ k < 1213) (den L xs kE) h') (by decide) (by decide) (fun h' a b => ⟨rfl, a, b⟩) hs
  have c62 : cl (den L xs kE) 62 = 30 := (hs.2.1 62).trans (by decide)
  have c2 := CallA.scr c62 c (fun r h1 z => (z.1.2.1 62).trans (by decide))
  refine c2.mono (fun r h1 _ z => ?_)
  obtain ⟨⟨z1, z2, z3, z4⟩, z5, z6⟩ := z
  subst z2
  refine ⟨rfl, rfl, ?_⟩
  refine T_astore_n (tDI kL_law_0 7 rfl) rfl (by decide) rfl ?_
  refine T_iconst (tDI kL_law_0 8 rfl) (r32 rfl) (T_istore_n (tDI kL_law_0 9 rfl) rfl (by decide) rfl ?_)
  have lE : ln (den L xs kE) 62 = L := rfl
  have S : SC L (fun j => (xs j).toInt) h1 := ⟨(z1.2.1 62).trans (by decide), z5.trans lE, hL, fun j hj => (z6 j (by rw [lE]; exact hj)).trans ?_, fun j => R32_i _⟩
  · exact law_loop L 0 h1 A0 (by omega) (by omega) z1 S (start_RC z4) (start_RM z4 z3)
  · show (if (62 : Nat) < 64 then (if (62 : Nat) = 62 ∧ j < L then (xs j).toInt else (0 : Int)) else (kE.getD (62 - 64) ce0).2.2.1.getD j 0) = (xs j).toInt
    rw [if_pos (by decide), if_pos ⟨rfl, hj⟩]
