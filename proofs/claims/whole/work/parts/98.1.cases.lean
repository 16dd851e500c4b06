/-! THE LAW: its cases -/
section
variable {u : Bu} {h : PH} {Q : Option PV → PH → Prop} {L i : Nat} {sv : Nat → Int} {A : AS}
theorem lc_0 (hs : shp h) (S : SC L sv h) (XC : RC h A) (XM : RM h A) (hi : i + 6 ≤ L) (hk : ∀ h2 A2, shp h2 → SC L sv h2 → RC h2 A2 → RM h2 A2 → T 60 u mL_law 1445 [some (vR 62), some (vR 64), some (vR 247), some (vI (i : Int))] [] h2 Q) : T 60 u mL_law 228 [some (vR 62), some (vR 64), some (vR 247), some (vI (i : Int))] [] h Q := by
  refine T_aload_n (tDI kL_law_0 22 rfl) rfl ?_
  refine T_push (k := 1) (tDI kL_law_0 23 rfl) (tDI kL_law_0 24 rfl) (tDI kL_law_0 25 rfl) (tDI kL_law_0 26 rfl) (tDI kL_law_0 27 rfl) S (by omega) ?_
  refine T_push (k := 2) (tDI kL_law_0 28 rfl) (tDI kL_law_0 29 rfl) (tDI kL_law_0 30 rfl) (tDI kL_law_0 31 rfl) (tDI kL_law_0 32 rfl) S (by omega) ?_
  refine T_push (k := 3) (tDI kL_law_0 33 rfl) (tDI kL_law_0 34 rfl) (tDI kL_law_0 35 rfl) (tDI kL_law_0 36 rfl) (tDI kL_law_0 37 rfl) S (by omega) ?_
  refine T_push (k := 4) (tDI kL_law_0 38 rfl) (tDI kL_law_0 39 rfl) (tDI kL_law_0 40 rfl) (tDI kL_law_0 41 rfl) (tDI kL_law_0 42 rfl) S (by omega) ?_
  refine T_push (k := 5) (tDI kL_law_0 43 rfl) (tDI kL_law_0 44 rfl) (tDI kL_law_0 45 rfl) (tDI kL_law_0 46 rfl) (tDI kL_law_0 47 rfl) S (by omega) ?_
  refine T_vI (c := 10) (b := 64) (N := mX10_feed) (as := [vI (sv (i + 1)), vI (sv (i + 2)), vI (sv (i + 3)), vI (sv (i + 4)), vI (sv (i + 5))]) (tDI kL_law_0 48 rfl) lL_13 oX10_feed jX10_feed ((hs.2.1 64).trans (by decide)) rfl rfl rfl (Nat.le_of_ble_eq_true rfl) rfl ?_
  refine call_clsI hs S XM (fun Q hq => k_feed XC hq) (fun h1 s1 S1 XC1 XM1 => ?_)
  refine T_aload_n (tDI kL_law_0 49 rfl) rfl ?_
  refine T_push (k := 1) (tDI kL_law_0 50 rfl) (tDI kL_law_0 51 rfl) (tDI kL_law_0 52 rfl) (tDI kL_law_0 53 rfl) (tDI kL_law_0 54 rfl) S1 (by omega) ?_
  refine T_push (k := 2) (tDI kL_law_0 55 rfl) (tDI kL_law_0 56 rfl) (tDI kL_law_0 57 rfl) (tDI kL_law_0 58 rfl) (tDI kL_law_0 59 rfl) S1 (by omega) ?_
  refine T_push (k := 3) (tDI kL_law_0 60 rfl) (tDI kL_law_0 61 rfl) (tDI kL_law_0 62 rfl) (tDI kL_law_0 63 rfl) (tDI kL_law_0 64 rfl) S1 (by omega) ?_
  refine T_push (k := 4) (tDI kL_law_0 65 rfl) (tDI kL_law_0 66 rfl) (tDI kL_law_0 67 rfl) (tDI kL_law_0 68 rfl) (tDI kL_law_0 69 rfl) S1 (by omega) ?_
  refine T_push (k := 5) (tDI kL_law_0 70 rfl) (tDI kL_law_0 71 rfl) (tDI kL_law_0 72 rfl) (tDI kL_law_0 73 rfl) (tDI kL_law_0 74 rfl) S1 (by omega) ?_
  refine T_vI (c := 11) (b := 247) (N := mX11_feed) (as := [vI (sv (i + 1)), vI (sv (i + 2)), vI (sv (i + 3)), vI (sv (i + 4)), vI (sv (i + 5))]) (tDI kL_law_0 75 rfl) lL_17 oX11_feed jX11_feed ((s1.2.1 247).trans (by decide)) rfl rfl rfl (Nat.le_of_ble_eq_true rfl) rfl ?_
  refine call_modI s1 S1 XC1 (fun Q hq => n_feed XM1 hq) (fun h2 s2 S2 XC2 XM2 => ?_)
  exact T_icmp_eq (tgt := 1445) (tDI kL_law_0 76 rfl) rfl (fun _ => hk h2 _ s2 S2 XC2 XM2) (fun z => absurd rfl z)
theorem lc_1 (hs : shp h) (S : SC L sv h) (XC : RC h A) (XM : RM h A) (hi : i + 6 ≤ L) (hk : ∀ h2 A2, shp h2 → SC L sv h2 → RC h2 A2 → RM h2 A2 → T 60 u mL_law 1445 [some (vR 62), some (vR 64), some (vR 247), some (vI (i : Int))] [] h2 Q) : T 60 u mL_law 291 [some (vR 62), some (vR 64), some (vR 247), some (vI (i : Int))] [] h Q := by
  refine T_aload_n (tDI kL_law_0 79 rfl) rfl ?_
  refine T_push (k := 1) (tDI kL_law_0 80 rfl) (tDI kL_law_0 81 rfl) (tDI kL_law_0 82 rfl) (tDI kL_law_0 83 rfl) (tDI kL_law_0 84 rfl) S (by omega) ?_
  refine T_vI (c := 10) (b := 64) (N := mX10_page) (as := [vI (sv (i + 1))]) (tDI kL_law_0 85 rfl) lL_18 oX10_page jX10_page ((hs.2.1 64).trans (by decide)) rfl rfl rfl (Nat.le_of_ble_eq_true rfl) rfl ?_
  refine call_clsI hs S XM (fun Q hq => k_page XC hq) (fun h1 s1 S1 XC1 XM1 => ?_)
  refine T_aload_n (tDI kL_law_0 86 rfl) rfl ?_
  refine T_push (k := 1) (tDI kL_law_0 87 rfl) (tDI kL_law_0 88 rfl) (tDI kL_law_0 89 rfl) (tDI kL_law_0 90 rfl) (tDI kL_law_0 91 rfl) S1 (by omega) ?_
  refine T_vI (c := 11) (b := 247) (N := mX11_page) (as := [vI (sv (i + 1))]) (tDI kL_law_0 92 rfl) lL_22 oX11_page jX11_page ((s1.2.1 247).trans (by decide)) rfl rfl rfl (Nat.le_of_ble_eq_true rfl) rfl ?_
  refine call_modI s1 S1 XC1 (fun Q hq => n_page XM1 hq) (fun h2 s2 S2 XC2 XM2 => ?_)
  exact T_icmp_eq (tgt := 1445) (tDI kL_law_0 93 rfl) rfl (fun _ => hk h2 _ s2 S2 XC2 XM2) (fun z => absurd rfl z)
theorem lc_2 (hs : shp h) (S : SC L sv h) (XC : RC h A) (XM : RM h A) (hi : i + 6 ≤ L) (hk : ∀ h2 A2, shp h2 → SC L sv h2 → RC h2 A2 → RM h2 A2 → T 60 u mL_law 1445 [some (vR 62), some (vR 64), some (vR 247), some (vI (i : Int))] [] h2 Q) : T 60 u mL_law 314 [some (vR 62), some (vR 64), some (vR 247), some (vI (i : Int))] [] h Q := by
  refine T_aload_n (tDI kL_law_0 96 rfl) rfl ?_
  refine T_push (k := 1) (tDI kL_law_0 97 rfl) (tDI kL_law_0 98 rfl) (tDI kL_law_0 99 rfl) (tDI kL_law_0 100 rfl) (tDI kL_law_0 101 rfl) S (by omega) ?_
  refine T_vI (c := 10) (b := 64) (N := mX10_fault) (as := [vI (sv (i + 1))]) (tDI kL_law_0 102 rfl) lL_23 oX10_fault jX10_fault ((hs.2.1 64).trans (by decide)) rfl rfl rfl (Nat.le_of_ble_eq_true rfl) rfl ?_
  refine call_clsI hs S XM (fun Q hq => k_fault XC hq) (fun h1 s1 S1 XC1 XM1 => ?_)
  refine T_aload_n (tDI kL_law_0 103 rfl) rfl ?_
  refine T_push (k := 1) (tDI kL_law_0 104 rfl) (tDI kL_law_0 105 rfl) (tDI kL_law_0 106 rfl) (tDI kL_law_0 107 rfl) (tDI kL_law_0 108 rfl) S1 (by omega) ?_
  refine T_vI (c := 11) (b := 247) (N := mX11_fault) (as := [vI (sv (i + 1))]) (tDI kL_law_0 109 rfl) lL_26 oX11_fault jX11_fault ((s1.2.1 247).trans (by decide)) rfl rfl rfl (Nat.le_of_ble_eq_true rfl) rfl ?_
  refine call_modI s1 S1 XC1 (fun Q hq => n_fault XM1 hq) (fun h2 s2 S2 XC2 XM2 => ?_)
  exact T_icmp_eq (tgt := 1445) (tDI kL_law_0 110 rfl) rfl (fun _ => hk h2 _ s2 S2 XC2 XM2) (fun z => absurd rfl z)
theorem lc_3 (hs : shp h) (S : SC L sv h) (XC : RC h A) (XM : RM h A) (hi : i + 6 ≤ L) (hk : ∀ h2 A2, shp h2 → SC L sv h2 → RC h2 A2 → RM h2 A2 → T 60 u mL_law 1445 [some (vR 62), some (vR 64), some (vR 247), some (vI (i : Int))] [] h2 Q) : T 60 u mL_law 337 [some (vR 62), some (vR 64), some (vR 247), some (vI (i : Int))] [] h Q := by
  refine T_aload_n (tDI kL_law_0 113 rfl) rfl ?_
  refine T_push (k := 1) (tDI kL_law_0 114 rfl) (tDI kL_law_0 115 rfl) (tDI kL_law_0 116 rfl) (tDI kL_law_0 117 rfl) (tDI kL_law_0 118 rfl) S (by omega) ?_
  refine T_vI (c := 10) (b := 64) (N := mX10_set) (as := [vI (sv (i + 1))]) (tDI kL_law_0 119 rfl) lL_27 oX10_set jX10_set ((hs.2.1 64).trans (by decide)) rfl rfl rfl (Nat.le_of_ble_eq_true rfl) rfl ?_
  refine call_clsI hs S XM (fun Q hq => k_set XC hq) (fun h1 s1 S1 XC1 XM1 => ?_)
  refine T_aload_n (tDI kL_law_1 0 rfl) rfl ?_
  refine T_push (k := 1) (tDI kL_law_1 1 rfl) (tDI kL_law_1 2 rfl) (tDI kL_law_1 3 rfl) (tDI kL_law_1 4 rfl) (tDI kL_law_1 5 rfl) S1 (by omega) ?_
  refine T_vI (c := 11) (b := 247) (N := mX11_set) (as := [vI (sv (i + 1))]) (tDI kL_law_1 6 rfl) lL_30 oX11_set jX11_set ((s1.2.1 247).trans (by decide)) rfl rfl rfl (Nat.le_of_ble_eq_true rfl) rfl ?_
  refine call_modI s1 S1 XC1 (fun Q hq => n_set XM1 hq) (fun h2 s2 S2 XC2 XM2 => ?_)
  exact T_icmp_eq (tgt := 1445) (tDI kL_law_1 7 rfl) rfl (fun _ => hk h2 _ s2 S2 XC2 XM2) (fun z => absurd rfl z)
theorem lc_4 (hs : shp h) (S : SC L sv h) (XC : RC h A) (XM : RM h A) (hi : i + 6 ≤ L) (hk : ∀ h2 A2, shp h2 → SC L sv h2 → RC h2 A2 → RM h2 A2 → T 60 u mL_law 1445 [some (vR 62), some (vR 64), some (vR 247), some (vI (i : Int))] [] h2 Q) : T 60 u mL_law 360 [some (vR 62), some (vR 64), some (vR 247), some (vI (i : Int))] [] h Q := by
  refine T_aload_n (tDI kL_law_1 10 rfl) rfl ?_
  refine T_push (k := 1) (tDI kL_law_1 11 rfl) (tDI kL_law_1 12 rfl) (tDI kL_law_1 13 rfl) (tDI kL_law_1 14 rfl) (tDI kL_law_1 15 rfl) S (by omega) ?_
  refine T_push (k := 2) (tDI kL_law_1 16 rfl) (tDI kL_law_1 17 rfl) (tDI kL_law_1 18 rfl) (tDI kL_law_1 19 rfl) (tDI kL_law_1 20 rfl) S (by omega) ?_
  refine T_vI (c := 10) (b := 64) (N := mX10_shape) (as := [vI (sv (i + 1)), vI (sv (i + 2))]) (tDI kL_law_1 21 rfl) lL_31 oX10_shape jX10_shape ((hs.2.1 64).trans (by decide)) rfl rfl rfl (Nat.le_of_ble_eq_true rfl) rfl ?_
  refine call_clsI hs S XM (fun Q hq => k_shape XC hq) (fun h1 s1 S1 XC1 XM1 => ?_)
  refine T_aload_n (tDI kL_law_1 22 rfl) rfl ?_
  refine T_push (k := 1) (tDI kL_law_1 23 rfl) (tDI kL_law_1 24 rfl) (tDI kL_law_1 25 rfl) (tDI kL_law_1 26 rfl) (tDI kL_law_1 27 rfl) S1 (by omega) ?_
  refine T_push (k := 2) (tDI kL_law_1 28 rfl) (tDI kL_law_1 29 rfl) (tDI kL_law_1 30 rfl) (tDI kL_law_1 31 rfl) (tDI kL_law_1 32 rfl) S1 (by omega) ?_
  refine T_vI (c := 11) (b := 247) (N := mX11_shape) (as := [vI (sv (i + 1)), vI (sv (i + 2))]) (tDI kL_law_1 33 rfl) lL_35 oX11_shape jX11_shape ((s1.2.1 247).trans (by decide)) rfl rfl rfl (Nat.le_of_ble_eq_true rfl) rfl ?_
  refine call_modI s1 S1 XC1 (fun Q hq => n_shape XM1 hq) (fun h2 s2 S2 XC2 XM2 => ?_)
  exact T_icmp_eq (tgt := 1445) (tDI kL_law_1 34 rfl) rfl (fun _ => hk h2 _ s2 S2 XC2 XM2) (fun z => absurd rfl z)
theorem lc_5 (hs : shp h) (S : SC L sv h) (XC : RC h A) (XM : RM h A) (hi : i + 6 ≤ L) (hk : ∀ h2 A2, shp h2 → SC L sv h2 → RC h2 A2 → RM h2 A2 → T 60 u mL_law 1445 [some (vR 62), some (vR 64), some (vR 247), some (vI (i : Int))] [] h2 Q) : T 60 u mL_law 393 [some (vR 62), some (vR 64), some (vR 247), some (vI (i : Int))] [] h Q := by
  refine T_aload_n (tDI kL_law_1 37 rfl) rfl ?_
  refine T_push (k := 1) (tDI kL_law_1 38 rfl) (tDI kL_law_1 39 rfl) (tDI kL_law_1 40 rfl) (tDI kL_law_1 41 rfl) (tDI kL_law_1 42 rfl) S (by omega) ?_
  refine T_push (k := 2) (tDI kL_law_1 43 rfl) (tDI kL_law_1 44 rfl) (tDI kL_law_1 45 rfl) (tDI kL_law_1 46 rfl) (tDI kL_law_1 47 rfl) S (by omega) ?_
  refine T_vI (c := 10) (b := 64) (N := mX10_word) (as := [vI (sv (i + 1)), vI (sv (i + 2))]) (tDI kL_law_1 48 rfl) lL_36 oX10_word jX10_word ((hs.2.1 64).trans (by decide)) rfl rfl rfl (Nat.le_of_ble_eq_true rfl) rfl ?_
  refine call_clsI hs S XM (fun Q hq => k_word XC hq) (fun h1 s1 S1 XC1 XM1 => ?_)
  refine T_aload_n (tDI kL_law_1 49 rfl) rfl ?_
  refine T_push (k := 1) (tDI kL_law_1 50 rfl) (tDI kL_law_1 51 rfl) (tDI kL_law_1 52 rfl) (tDI kL_law_1 53 rfl) (tDI kL_law_1 54 rfl) S1 (by omega) ?_
  refine T_push (k := 2) (tDI kL_law_1 55 rfl) (tDI kL_law_1 56 rfl) (tDI kL_law_1 57 rfl) (tDI kL_law_1 58 rfl) (tDI kL_law_1 59 rfl) S1 (by omega) ?_
  refine T_vI (c := 11) (b := 247) (N := mX11_word) (as := [vI (sv (i + 1)), vI (sv (i + 2))]) (tDI kL_law_1 60 rfl) lL_39 oX11_word jX11_word ((s1.2.1 247).trans (by decide)) rfl rfl rfl (Nat.le_of_ble_eq_true rfl) rfl ?_
  refine call_modI s1 S1 XC1 (fun Q hq => n_word XM1 hq) (fun h2 s2 S2 XC2 XM2 => ?_)
  exact T_icmp_eq (tgt := 1445) (tDI kL_law_1 61 rfl) rfl (fun _ => hk h2 _ s2 S2 XC2 XM2) (fun z => absurd rfl z)
theorem lc_6 (hs : shp h) (S : SC L sv h) (XC : RC h A) (XM : RM h A) (hi : i + 6 ≤ L) (hk : ∀ h2 A2, shp h2 → SC L sv h2 → RC h2 A2 → RM h2 A2 → T 60 u mL_law 1445 [some (vR 62), some (vR 64), some (vR 247), some (vI (i : Int))] [] h2 Q) : T 60 u mL_law 426 [some (vR 62), some (vR 64), some (vR 247), some (vI (i : Int))] [] h Q := by
  refine T_aload_n (tDI kL_law_1 64 rfl) rfl ?_
  refine T_push (k := 1) (tDI kL_law_1 65 rfl) (tDI kL_law_1 66 rfl) (tDI kL_law_1 67 rfl) (tDI kL_law_1 68 rfl) (tDI kL_law_1 69 rfl) S (by omega) ?_
  refine T_push (k := 2) (tDI kL_law_1 70 rfl) (tDI kL_law_1 71 rfl) (tDI kL_law_1 72 rfl) (tDI kL_law_1 73 rfl) (tDI kL_law_1 74 rfl) S (by omega) ?_
  refine T_push (k := 3) (tDI kL_law_1 75 rfl) (tDI kL_law_1 76 rfl) (tDI kL_law_1 77 rfl) (tDI kL_law_1 78 rfl) (tDI kL_law_1 79 rfl) S (by omega) ?_
  refine T_vI (c := 10) (b := 64) (N := mX10_span) (as := [vI (sv (i + 1)), vI (sv (i + 2)), vI (sv (i + 3))]) (tDI kL_law_1 80 rfl) lL_40 oX10_span jX10_span ((hs.2.1 64).trans (by decide)) rfl rfl rfl (Nat.le_of_ble_eq_true rfl) rfl ?_
  refine call_clsI hs S XM (fun Q hq => k_span XC hq) (fun h1 s1 S1 XC1 XM1 => ?_)
  refine T_aload_n (tDI kL_law_1 81 rfl) rfl ?_
  refine T_push (k := 1) (tDI kL_law_1 82 rfl) (tDI kL_law_1 83 rfl) (tDI kL_law_1 84 rfl) (tDI kL_law_1 85 rfl) (tDI kL_law_1 86 rfl) S1 (by omega) ?_
  refine T_push (k := 2) (tDI kL_law_1 87 rfl) (tDI kL_law_1 88 rfl) (tDI kL_law_1 89 rfl) (tDI kL_law_1 90 rfl) (tDI kL_law_1 91 rfl) S1 (by omega) ?_
  refine T_push (k := 3) (tDI kL_law_1 92 rfl) (tDI kL_law_1 93 rfl) (tDI kL_law_1 94 rfl) (tDI kL_law_1 95 rfl) (tDI kL_law_1 96 rfl) S1 (by omega) ?_
  refine T_vI (c := 11) (b := 247) (N := mX11_span) (as := [vI (sv (i + 1)), vI (sv (i + 2)), vI (sv (i + 3))]) (tDI kL_law_1 97 rfl) lL_44 oX11_span jX11_span ((s1.2.1 247).trans (by decide)) rfl rfl rfl (Nat.le_of_ble_eq_true rfl) rfl ?_
  refine call_modI s1 S1 XC1 (fun Q hq => n_span XM1 hq) (fun h2 s2 S2 XC2 XM2 => ?_)
  exact T_icmp_eq (tgt := 1445) (tDI kL_law_1 98 rfl) rfl (fun _ => hk h2 _ s2 S2 XC2 XM2) (fun z => absurd rfl z)
theorem lc_7 (hs : shp h) (S : SC L sv h) (XC : RC h A) (XM : RM h A) (hi : i + 6 ≤ L) (hk : ∀ h2 A2, shp h2 → SC L sv h2 → RC h2 A2 → RM h2 A2 → T 60 u mL_law 1445 [some (vR 62), some (vR 64), some (vR 247), some (vI (i : Int))] [] h2 Q) : T 60 u mL_law 469 [some (vR 62), some (vR 64), some (vR 247), some (vI (i : Int))] [] h Q := by
  refine T_aload_n (tDI kL_law_1 101 rfl) rfl ?_
  refine T_push (k := 1) (tDI kL_law_1 102 rfl) (tDI kL_law_1 103 rfl) (tDI kL_law_1 104 rfl) (tDI kL_law_1 105 rfl) (tDI kL_law_1 106 rfl) S (by omega) ?_
  refine T_vI (c := 10) (b := 64) (N := mX10_slots) (as := [vI (sv (i + 1))]) (tDI kL_law_1 107 rfl) lL_45 oX10_slots jX10_slots ((hs.2.1 64).trans (by decide)) rfl rfl rfl (Nat.le_of_ble_eq_true rfl) rfl ?_
  refine call_clsI hs S XM (fun Q hq => k_slots XC hq) (fun h1 s1 S1 XC1 XM1 => ?_)
  refine T_aload_n (tDI kL_law_1 108 rfl) rfl ?_
  refine T_push (k := 1) (tDI kL_law_1 109 rfl) (tDI kL_law_1 110 rfl) (tDI kL_law_1 111 rfl) (tDI kL_law_1 112 rfl) (tDI kL_law_1 113 rfl) S1 (by omega) ?_
  refine T_vI (c := 11) (b := 247) (N := mX11_slots) (as := [vI (sv (i + 1))]) (tDI kL_law_1 114 rfl) lL_48 oX11_slots jX11_slots ((s1.2.1 247).trans (by decide)) rfl rfl rfl (Nat.le_of_ble_eq_true rfl) rfl ?_
  refine call_modI s1 S1 XC1 (fun Q hq => n_slots XM1 hq) (fun h2 s2 S2 XC2 XM2 => ?_)
  exact T_icmp_eq (tgt := 1445) (tDI kL_law_1 115 rfl) rfl (fun _ => hk h2 _ s2 S2 XC2 XM2) (fun z => absurd rfl z)
theorem lc_8 (hs : shp h) (S : SC L sv h) (XC : RC h A) (XM : RM h A) (hi : i + 6 ≤ L) (hk : ∀ h2 A2, shp h2 → SC L sv h2 → RC h2 A2 → RM h2 A2 → T 60 u mL_law 1445 [some (vR 62), some (vR 64), some (vR 247), some (vI (i : Int))] [] h2 Q) : T 60 u mL_law 492 [some (vR 62), some (vR 64), some (vR 247), some (vI (i : Int))] [] h Q := by
  refine T_aload_n (tDI kL_law_1 118 rfl) rfl ?_
  refine T_push (k := 1) (tDI kL_law_1 119 rfl) (tDI kL_law_2 0 rfl) (tDI kL_law_2 1 rfl) (tDI kL_law_2 2 rfl) (tDI kL_law_2 3 rfl) S (by omega) ?_
  refine T_push (k := 2) (tDI kL_law_2 4 rfl) (tDI kL_law_2 5 rfl) (tDI kL_law_2 6 rfl) (tDI kL_law_2 7 rfl) (tDI kL_law_2 8 rfl) S (by omega) ?_
  refine T_push (k := 3) (tDI kL_law_2 9 rfl) (tDI kL_law_2 10 rfl) (tDI kL_law_2 11 rfl) (tDI kL_law_2 12 rfl) (tDI kL_law_2 13 rfl) S (by omega) ?_
  refine T_vI (c := 10) (b := 64) (N := mX10_slot) (as := [vI (sv (i + 1)), vI (sv (i + 2)), vI (sv (i + 3))]) (tDI kL_law_2 14 rfl) lL_49 oX10_slot jX10_slot ((hs.2.1 64).trans (by decide)) rfl rfl rfl (Nat.le_of_ble_eq_true rfl) rfl ?_
  refine call_clsI hs S XM (fun Q hq => k_slot XC hq) (fun h1 s1 S1 XC1 XM1 => ?_)
  refine T_aload_n (tDI kL_law_2 15 rfl) rfl ?_
  refine T_push (k := 1) (tDI kL_law_2 16 rfl) (tDI kL_law_2 17 rfl) (tDI kL_law_2 18 rfl) (tDI kL_law_2 19 rfl) (tDI kL_law_2 20 rfl) S1 (by omega) ?_
  refine T_push (k := 2) (tDI kL_law_2 21 rfl) (tDI kL_law_2 22 rfl) (tDI kL_law_2 23 rfl) (tDI kL_law_2 24 rfl) (tDI kL_law_2 25 rfl) S1 (by omega) ?_
  refine T_push (k := 3) (tDI kL_law_2 26 rfl) (tDI kL_law_2 27 rfl) (tDI kL_law_2 28 rfl) (tDI kL_law_2 29 rfl) (tDI kL_law_2 30 rfl) S1 (by omega) ?_
  refine T_vI (c := 11) (b := 247) (N := mX11_slot) (as := [vI (sv (i + 1)), vI (sv (i + 2)), vI (sv (i + 3))]) (tDI kL_law_2 31 rfl) lL_52 oX11_slot jX11_slot ((s1.2.1 247).trans (by decide)) rfl rfl rfl (Nat.le_of_ble_eq_true rfl) rfl ?_
  refine call_modI s1 S1 XC1 (fun Q hq => n_slot XM1 (S1.R _) hq) (fun h2 s2 S2 XC2 XM2 => ?_)
  exact T_icmp_eq (tgt := 1445) (tDI kL_law_2 32 rfl) rfl (fun _ => hk h2 _ s2 S2 XC2 XM2) (fun z => absurd rfl z)
theorem lc_9 (hs : shp h) (S : SC L sv h) (XC : RC h A) (XM : RM h A) (hi : i + 6 ≤ L) (hk : ∀ h2 A2, shp h2 → SC L sv h2 → RC h2 A2 → RM h2 A2 → T 60 u mL_law 1445 [some (vR 62), some (vR 64), some (vR 247), some (vI (i : Int))] [] h2 Q) : T 60 u mL_law 535 [some (vR 62), some (vR 64), some (vR 247), some (vI (i : Int))] [] h Q := by
  refine T_aload_n (tDI kL_law_2 35 rfl) rfl ?_
  refine T_push (k := 1) (tDI kL_law_2 36 rfl) (tDI kL_law_2 37 rfl) (tDI kL_law_2 38 rfl) (tDI kL_law_2 39 rfl) (tDI kL_law_2 40 rfl) S (by omega) ?_
  refine T_push (k := 2) (tDI kL_law_2 41 rfl) (tDI kL_law_2 42 rfl) (tDI kL_law_2 43 rfl) (tDI kL_law_2 44 rfl) (tDI kL_law_2 45 rfl) S (by omega) ?_
  refine T_vI (c := 10) (b := 64) (N := mX10_lies) (as := [vI (sv (i + 1)), vI (sv (i + 2))]) (tDI kL_law_2 46 rfl) lL_53 oX10_lies jX10_lies ((hs.2.1 64).trans (by decide)) rfl rfl rfl (Nat.le_of_ble_eq_true rfl) rfl ?_
  refine call_clsI hs S XM (fun Q hq => k_lies XC hq) (fun h1 s1 S1 XC1 XM1 => ?_)
  refine T_aload_n (tDI kL_law_2 47 rfl) rfl ?_
  refine T_push (k := 1) (tDI kL_law_2 48 rfl) (tDI kL_law_2 49 rfl) (tDI kL_law_2 50 rfl) (tDI kL_law_2 51 rfl) (tDI kL_law_2 52 rfl) S1 (by omega) ?_
  refine T_push (k := 2) (tDI kL_law_2 53 rfl) (tDI kL_law_2 54 rfl) (tDI kL_law_2 55 rfl) (tDI kL_law_2 56 rfl) (tDI kL_law_2 57 rfl) S1 (by omega) ?_
  refine T_vI (c := 11) (b := 247) (N := mX11_lies) (as := [vI (sv (i + 1)), vI (sv (i + 2))]) (tDI kL_law_2 58 rfl) lL_56 oX11_lies jX11_lies ((s1.2.1 247).trans (by decide)) rfl rfl rfl (Nat.le_of_ble_eq_true rfl) rfl ?_
  refine call_modI s1 S1 XC1 (fun Q hq => n_lies XM1 hq) (fun h2 s2 S2 XC2 XM2 => ?_)
  exact T_icmp_eq (tgt := 1445) (tDI kL_law_2 59 rfl) rfl (fun _ => hk h2 _ s2 S2 XC2 XM2) (fun z => absurd rfl z)
theorem lc_10 (hs : shp h) (S : SC L sv h) (XC : RC h A) (XM : RM h A) (hi : i + 6 ≤ L) (hk : ∀ h2 A2, shp h2 → SC L sv h2 → RC h2 A2 → RM h2 A2 → T 60 u mL_law 1445 [some (vR 62), some (vR 64), some (vR 247), some (vI (i : Int))] [] h2 Q) : T 60 u mL_law 568 [some (vR 62), some (vR 64), some (vR 247), some (vI (i : Int))] [] h Q := by
  refine T_aload_n (tDI kL_law_2 62 rfl) rfl ?_
  refine T_push (k := 1) (tDI kL_law_2 63 rfl) (tDI kL_law_2 64 rfl) (tDI kL_law_2 65 rfl) (tDI kL_law_2 66 rfl) (tDI kL_law_2 67 rfl) S (by omega) ?_
  refine T_push (k := 2) (tDI kL_law_2 68 rfl) (tDI kL_law_2 69 rfl) (tDI kL_law_2 70 rfl) (tDI kL_law_2 71 rfl) (tDI kL_law_2 72 rfl) S (by omega) ?_
  refine T_push (k := 3) (tDI kL_law_2 73 rfl) (tDI kL_law_2 74 rfl) (tDI kL_law_2 75 rfl) (tDI kL_law_2 76 rfl) (tDI kL_law_2 77 rfl) S (by omega) ?_
  refine T_vI (c := 10) (b := 64) (N := mX10_move) (as := [vI (sv (i + 1)), vI (sv (i + 2)), vI (sv (i + 3))]) (tDI kL_law_2 78 rfl) lL_57 oX10_move jX10_move ((hs.2.1 64).trans (by decide)) rfl rfl rfl (Nat.le_of_ble_eq_true rfl) rfl ?_
  refine call_clsI hs S XM (fun Q hq => k_move XC hq) (fun h1 s1 S1 XC1 XM1 => ?_)
  refine T_aload_n (tDI kL_law_2 79 rfl) rfl ?_
  refine T_push (k := 1) (tDI kL_law_2 80 rfl) (tDI kL_law_2 81 rfl) (tDI kL_law_2 82 rfl) (tDI kL_law_2 83 rfl) (tDI kL_law_2 84 rfl) S1 (by omega) ?_
  refine T_push (k := 2) (tDI kL_law_2 85 rfl) (tDI kL_law_2 86 rfl) (tDI kL_law_2 87 rfl) (tDI kL_law_2 88 rfl) (tDI kL_law_2 89 rfl) S1 (by omega) ?_
  refine T_push (k := 3) (tDI kL_law_2 90 rfl) (tDI kL_law_2 91 rfl) (tDI kL_law_2 92 rfl) (tDI kL_law_2 93 rfl) (tDI kL_law_2 94 rfl) S1 (by omega) ?_
  refine T_vI (c := 11) (b := 247) (N := mX11_move) (as := [vI (sv (i + 1)), vI (sv (i + 2)), vI (sv (i + 3))]) (tDI kL_law_2 95 rfl) lL_60 oX11_move jX11_move ((s1.2.1 247).trans (by decide)) rfl rfl rfl (Nat.le_of_ble_eq_true rfl) rfl ?_
  refine call_modI s1 S1 XC1 (fun Q hq => n_move XM1 hq) (fun h2 s2 S2 XC2 XM2 => ?_)
  exact T_icmp_eq (tgt := 1445) (tDI kL_law_2 96 rfl) rfl (fun _ => hk h2 _ s2 S2 XC2 XM2) (fun z => absurd rfl z)
theorem lc_11 (hs : shp h) (S : SC L sv h) (XC : RC h A) (XM : RM h A) (hi : i + 6 ≤ L) (hk : ∀ h2 A2, shp h2 → SC L sv h2 → RC h2 A2 → RM h2 A2 → T 60 u mL_law 1445 [some (vR 62), some (vR 64), some (vR 247), some (vI (i : Int))] [] h2 Q) : T 60 u mL_law 611 [some (vR 62), some (vR 64), some (vR 247), some (vI (i : Int))] [] h Q := by
  refine T_aload_n (tDI kL_law_2 99 rfl) rfl ?_
  refine T_push (k := 1) (tDI kL_law_2 100 rfl) (tDI kL_law_2 101 rfl) (tDI kL_law_2 102 rfl) (tDI kL_law_2 103 rfl) (tDI kL_law_2 104 rfl) S (by omega) ?_
  refine T_push (k := 2) (tDI kL_law_2 105 rfl) (tDI kL_law_2 106 rfl) (tDI kL_law_2 107 rfl) (tDI kL_law_2 108 rfl) (tDI kL_law_2 109 rfl) S (by omega) ?_
  refine T_vI (c := 10) (b := 64) (N := mX10_tie) (as := [vI (sv (i + 1)), vI (sv (i + 2))]) (tDI kL_law_2 110 rfl) lL_61 oX10_tie jX10_tie ((hs.2.1 64).trans (by decide)) rfl rfl rfl (Nat.le_of_ble_eq_true rfl) rfl ?_
  refine call_clsI hs S XM (fun Q hq => k_tie XC hq) (fun h1 s1 S1 XC1 XM1 => ?_)
  refine T_aload_n (tDI kL_law_2 111 rfl) rfl ?_
  refine T_push (k := 1) (tDI kL_law_2 112 rfl) (tDI kL_law_2 113 rfl) (tDI kL_law_2 114 rfl) (tDI kL_law_2 115 rfl) (tDI kL_law_2 116 rfl) S1 (by omega) ?_
  refine T_push (k := 2) (tDI kL_law_2 117 rfl) (tDI kL_law_2 118 rfl) (tDI kL_law_2 119 rfl) (tDI kL_law_3 0 rfl) (tDI kL_law_3 1 rfl) S1 (by omega) ?_
  refine T_vI (c := 11) (b := 247) (N := mX11_tie) (as := [vI (sv (i + 1)), vI (sv (i + 2))]) (tDI kL_law_3 2 rfl) lL_64 oX11_tie jX11_tie ((s1.2.1 247).trans (by decide)) rfl rfl rfl (Nat.le_of_ble_eq_true rfl) rfl ?_
  refine call_modI s1 S1 XC1 (fun Q hq => n_tie XM1 hq) (fun h2 s2 S2 XC2 XM2 => ?_)
  exact T_icmp_eq (tgt := 1445) (tDI kL_law_3 3 rfl) rfl (fun _ => hk h2 _ s2 S2 XC2 XM2) (fun z => absurd rfl z)
theorem lc_12 (hs : shp h) (S : SC L sv h) (XC : RC h A) (XM : RM h A) (hi : i + 6 ≤ L) (hk : ∀ h2 A2, shp h2 → SC L sv h2 → RC h2 A2 → RM h2 A2 → T 60 u mL_law 1445 [some (vR 62), some (vR 64), some (vR 247), some (vI (i : Int))] [] h2 Q) : T 60 u mL_law 644 [some (vR 62), some (vR 64), some (vR 247), some (vI (i : Int))] [] h Q := by
  refine T_aload_n (tDI kL_law_3 6 rfl) rfl ?_
  refine T_push (k := 1) (tDI kL_law_3 7 rfl) (tDI kL_law_3 8 rfl) (tDI kL_law_3 9 rfl) (tDI kL_law_3 10 rfl) (tDI kL_law_3 11 rfl) S (by omega) ?_
  refine T_vI (c := 10) (b := 64) (N := mX10_hide) (as := [vI (sv (i + 1))]) (tDI kL_law_3 12 rfl) lL_65 oX10_hide jX10_hide ((hs.2.1 64).trans (by decide)) rfl rfl rfl (Nat.le_of_ble_eq_true rfl) rfl ?_
  refine call_clsI hs S XM (fun Q hq => k_hide XC hq) (fun h1 s1 S1 XC1 XM1 => ?_)
  refine T_aload_n (tDI kL_law_3 13 rfl) rfl ?_
  refine T_push (k := 1) (tDI kL_law_3 14 rfl) (tDI kL_law_3 15 rfl) (tDI kL_law_3 16 rfl) (tDI kL_law_3 17 rfl) (tDI kL_law_3 18 rfl) S1 (by omega) ?_
  refine T_vI (c := 11) (b := 247) (N := mX11_hide) (as := [vI (sv (i + 1))]) (tDI kL_law_3 19 rfl) lL_68 oX11_hide jX11_hide ((s1.2.1 247).trans (by decide)) rfl rfl rfl (Nat.le_of_ble_eq_true rfl) rfl ?_
  refine call_modI s1 S1 XC1 (fun Q hq => n_hide XM1 hq) (fun h2 s2 S2 XC2 XM2 => ?_)
  exact T_icmp_eq (tgt := 1445) (tDI kL_law_3 20 rfl) rfl (fun _ => hk h2 _ s2 S2 XC2 XM2) (fun z => absurd rfl z)
theorem lc_13 (hs : shp h) (S : SC L sv h) (XC : RC h A) (XM : RM h A) (hi : i + 6 ≤ L) (hk : ∀ h2 A2, shp h2 → SC L sv h2 → RC h2 A2 → RM h2 A2 → T 60 u mL_law 1445 [some (vR 62), some (vR 64), some (vR 247), some (vI (i : Int))] [] h2 Q) : T 60 u mL_law 667 [some (vR 62), some (vR 64), some (vR 247), some (vI (i : Int))] [] h Q := by
  refine T_aload_n (tDI kL_law_3 23 rfl) rfl ?_
  refine T_push (k := 1) (tDI kL_law_3 24 rfl) (tDI kL_law_3 25 rfl) (tDI kL_law_3 26 rfl) (tDI kL_law_3 27 rfl) (tDI kL_law_3 28 rfl) S (by omega) ?_
  refine T_vI (c := 10) (b := 64) (N := mX10_ink) (as := [vI (sv (i + 1))]) (tDI kL_law_3 29 rfl) lL_69 oX10_ink jX10_ink ((hs.2.1 64).trans (by decide)) rfl rfl rfl (Nat.le_of_ble_eq_true rfl) rfl ?_
  refine call_clsI hs S XM (fun Q hq => k_ink XC hq) (fun h1 s1 S1 XC1 XM1 => ?_)
  refine T_aload_n (tDI kL_law_3 30 rfl) rfl ?_
  refine T_push (k := 1) (tDI kL_law_3 31 rfl) (tDI kL_law_3 32 rfl) (tDI kL_law_3 33 rfl) (tDI kL_law_3 34 rfl) (tDI kL_law_3 35 rfl) S1 (by omega) ?_
  refine T_vI (c := 11) (b := 247) (N := mX11_ink) (as := [vI (sv (i + 1))]) (tDI kL_law_3 36 rfl) lL_72 oX11_ink jX11_ink ((s1.2.1 247).trans (by decide)) rfl rfl rfl (Nat.le_of_ble_eq_true rfl) rfl ?_
  refine call_modI s1 S1 XC1 (fun Q hq => n_ink XM1 hq) (fun h2 s2 S2 XC2 XM2 => ?_)
  exact T_icmp_eq (tgt := 1445) (tDI kL_law_3 37 rfl) rfl (fun _ => hk h2 _ s2 S2 XC2 XM2) (fun z => absurd rfl z)
theorem lc_14 (hs : shp h) (S : SC L sv h) (XC : RC h A) (XM : RM h A) (hi : i + 6 ≤ L) (hk : ∀ h2 A2, shp h2 → SC L sv h2 → RC h2 A2 → RM h2 A2 → T 60 u mL_law 1445 [some (vR 62), some (vR 64), some (vR 247), some (vI (i : Int))] [] h2 Q) : T 60 u mL_law 690 [some (vR 62), some (vR 64), some (vR 247), some (vI (i : Int))] [] h Q := by
  refine T_aload_n (tDI kL_law_3 40 rfl) rfl ?_
  refine T_push (k := 1) (tDI kL_law_3 41 rfl) (tDI kL_law_3 42 rfl) (tDI kL_law_3 43 rfl) (tDI kL_law_3 44 rfl) (tDI kL_law_3 45 rfl) S (by omega) ?_
  refine T_vI (c := 10) (b := 64) (N := mX10_undo) (as := [vI (sv (i + 1))]) (tDI kL_law_3 46 rfl) lL_73 oX10_undo jX10_undo ((hs.2.1 64).trans (by decide)) rfl rfl rfl (Nat.le_of_ble_eq_true rfl) rfl ?_
  refine call_clsI hs S XM (fun Q hq => k_undo XC hq) (fun h1 s1 S1 XC1 XM1 => ?_)
  refine T_aload_n (tDI kL_law_3 47 rfl) rfl ?_
  refine T_push (k := 1) (tDI kL_law_3 48 rfl) (tDI kL_law_3 49 rfl) (tDI kL_law_3 50 rfl) (tDI kL_law_3 51 rfl) (tDI kL_law_3 52 rfl) S1 (by omega) ?_
  refine T_vI (c := 11) (b := 247) (N := mX11_undo) (as := [vI (sv (i + 1))]) (tDI kL_law_3 53 rfl) lL_76 oX11_undo jX11_undo ((s1.2.1 247).trans (by decide)) rfl rfl rfl (Nat.le_of_ble_eq_true rfl) rfl ?_
  refine call_modI s1 S1 XC1 (fun Q hq => n_undo XM1 hq) (fun h2 s2 S2 XC2 XM2 => ?_)
  exact T_icmp_eq (tgt := 1445) (tDI kL_law_3 54 rfl) rfl (fun _ => hk h2 _ s2 S2 XC2 XM2) (fun z => absurd rfl z)
theorem lc_15 (hs : shp h) (S : SC L sv h) (XC : RC h A) (XM : RM h A) (hi : i + 6 ≤ L) (hk : ∀ h2 A2, shp h2 → SC L sv h2 → RC h2 A2 → RM h2 A2 → T 60 u mL_law 1445 [some (vR 62), some (vR 64), some (vR 247), some (vI (i : Int))] [] h2 Q) : T 60 u mL_law 713 [some (vR 62), some (vR 64), some (vR 247), some (vI (i : Int))] [] h Q := by
  refine T_aload_n (tDI kL_law_3 57 rfl) rfl ?_
  refine T_push (k := 1) (tDI kL_law_3 58 rfl) (tDI kL_law_3 59 rfl) (tDI kL_law_3 60 rfl) (tDI kL_law_3 61 rfl) (tDI kL_law_3 62 rfl) S (by omega) ?_
  refine T_push (k := 2) (tDI kL_law_3 63 rfl) (tDI kL_law_3 64 rfl) (tDI kL_law_3 65 rfl) (tDI kL_law_3 66 rfl) (tDI kL_law_3 67 rfl) S (by omega) ?_
  refine T_vI (c := 10) (b := 64) (N := mX10_judge) (as := [vI (sv (i + 1)), vI (sv (i + 2))]) (tDI kL_law_3 68 rfl) lL_77 oX10_judge jX10_judge ((hs.2.1 64).trans (by decide)) rfl rfl rfl (Nat.le_of_ble_eq_true rfl) rfl ?_
  refine call_clsI hs S XM (fun Q hq => k_judge XC hq) (fun h1 s1 S1 XC1 XM1 => ?_)
  refine T_aload_n (tDI kL_law_3 69 rfl) rfl ?_
  refine T_push (k := 1) (tDI kL_law_3 70 rfl) (tDI kL_law_3 71 rfl) (tDI kL_law_3 72 rfl) (tDI kL_law_3 73 rfl) (tDI kL_law_3 74 rfl) S1 (by omega) ?_
  refine T_push (k := 2) (tDI kL_law_3 75 rfl) (tDI kL_law_3 76 rfl) (tDI kL_law_3 77 rfl) (tDI kL_law_3 78 rfl) (tDI kL_law_3 79 rfl) S1 (by omega) ?_
  refine T_vI (c := 11) (b := 247) (N := mX11_judge) (as := [vI (sv (i + 1)), vI (sv (i + 2))]) (tDI kL_law_3 80 rfl) lL_80 oX11_judge jX11_judge ((s1.2.1 247).trans (by decide)) rfl rfl rfl (Nat.le_of_ble_eq_true rfl) rfl ?_
  refine call_modI s1 S1 XC1 (fun Q hq => n_judge XM1 hq) (fun h2 s2 S2 XC2 XM2 => ?_)
  exact T_icmp_eq (tgt := 1445) (tDI kL_law_3 81 rfl) rfl (fun _ => hk h2 _ s2 S2 XC2 XM2) (fun z => absurd rfl z)
theorem lc_16 (hs : shp h) (S : SC L sv h) (XC : RC h A) (XM : RM h A) (hi : i + 6 ≤ L) (hk : ∀ h2 A2, shp h2 → SC L sv h2 → RC h2 A2 → RM h2 A2 → T 60 u mL_law 1445 [some (vR 62), some (vR 64), some (vR 247), some (vI (i : Int))] [] h2 Q) : T 60 u mL_law 746 [some (vR 62), some (vR 64), some (vR 247), some (vI (i : Int))] [] h Q := by
  refine T_aload_n (tDI kL_law_3 84 rfl) rfl ?_
  refine T_push (k := 1) (tDI kL_law_3 85 rfl) (tDI kL_law_3 86 rfl) (tDI kL_law_3 87 rfl) (tDI kL_law_3 88 rfl) (tDI kL_law_3 89 rfl) S (by omega) ?_
  refine T_vI (c := 10) (b := 64) (N := mX10_perform) (as := [vI (sv (i + 1))]) (tDI kL_law_3 90 rfl) lL_81 oX10_perform jX10_perform ((hs.2.1 64).trans (by decide)) rfl rfl rfl (Nat.le_of_ble_eq_true rfl) rfl ?_
  refine call_clsI hs S XM (fun Q hq => k_perform XC hq) (fun h1 s1 S1 XC1 XM1 => ?_)
  refine T_aload_n (tDI kL_law_3 91 rfl) rfl ?_
  refine T_push (k := 1) (tDI kL_law_3 92 rfl) (tDI kL_law_3 93 rfl) (tDI kL_law_3 94 rfl) (tDI kL_law_3 95 rfl) (tDI kL_law_3 96 rfl) S1 (by omega) ?_
  refine T_vI (c := 11) (b := 247) (N := mX11_perform) (as := [vI (sv (i + 1))]) (tDI kL_law_3 97 rfl) lL_84 oX11_perform jX11_perform ((s1.2.1 247).trans (by decide)) rfl rfl rfl (Nat.le_of_ble_eq_true rfl) rfl ?_
  refine call_modI s1 S1 XC1 (fun Q hq => n_perform XM1 hq) (fun h2 s2 S2 XC2 XM2 => ?_)
  exact T_icmp_eq (tgt := 1445) (tDI kL_law_3 98 rfl) rfl (fun _ => hk h2 _ s2 S2 XC2 XM2) (fun z => absurd rfl z)
theorem lc_17 (hs : shp h) (S : SC L sv h) (XC : RC h A) (XM : RM h A) (hi : i + 6 ≤ L) (hk : ∀ h2 A2, shp h2 → SC L sv h2 → RC h2 A2 → RM h2 A2 → T 60 u mL_law 1445 [some (vR 62), some (vR 64), some (vR 247), some (vI (i : Int))] [] h2 Q) : T 60 u mL_law 769 [some (vR 62), some (vR 64), some (vR 247), some (vI (i : Int))] [] h Q := by
  refine T_aload_n (tDI kL_law_3 101 rfl) rfl ?_
  refine T_push (k := 1) (tDI kL_law_3 102 rfl) (tDI kL_law_3 103 rfl) (tDI kL_law_3 104 rfl) (tDI kL_law_3 105 rfl) (tDI kL_law_3 106 rfl) S (by omega) ?_
  refine T_push (k := 2) (tDI kL_law_3 107 rfl) (tDI kL_law_3 108 rfl) (tDI kL_law_3 109 rfl) (tDI kL_law_3 110 rfl) (tDI kL_law_3 111 rfl) S (by omega) ?_
  refine T_vI (c := 10) (b := 64) (N := mX10_day) (as := [vI (sv (i + 1)), vI (sv (i + 2))]) (tDI kL_law_3 112 rfl) lL_85 oX10_day jX10_day ((hs.2.1 64).trans (by decide)) rfl rfl rfl (Nat.le_of_ble_eq_true rfl) rfl ?_
  refine call_clsI hs S XM (fun Q hq => k_day XC hq) (fun h1 s1 S1 XC1 XM1 => ?_)
  refine T_aload_n (tDI kL_law_3 113 rfl) rfl ?_
  refine T_push (k := 1) (tDI kL_law_3 114 rfl) (tDI kL_law_3 115 rfl) (tDI kL_law_3 116 rfl) (tDI kL_law_3 117 rfl) (tDI kL_law_3 118 rfl) S1 (by omega) ?_
  refine T_push (k := 2) (tDI kL_law_3 119 rfl) (tDI kL_law_4 0 rfl) (tDI kL_law_4 1 rfl) (tDI kL_law_4 2 rfl) (tDI kL_law_4 3 rfl) S1 (by omega) ?_
  refine T_vI (c := 11) (b := 247) (N := mX11_day) (as := [vI (sv (i + 1)), vI (sv (i + 2))]) (tDI kL_law_4 4 rfl) lL_88 oX11_day jX11_day ((s1.2.1 247).trans (by decide)) rfl rfl rfl (Nat.le_of_ble_eq_true rfl) rfl ?_
  refine call_modI s1 S1 XC1 (fun Q hq => n_day XM1 hq) (fun h2 s2 S2 XC2 XM2 => ?_)
  exact T_icmp_eq (tgt := 1445) (tDI kL_law_4 5 rfl) rfl (fun _ => hk h2 _ s2 S2 XC2 XM2) (fun z => absurd rfl z)
theorem lc_18 (hs : shp h) (S : SC L sv h) (XC : RC h A) (XM : RM h A) (hi : i + 6 ≤ L) (hk : ∀ h2 A2, shp h2 → SC L sv h2 → RC h2 A2 → RM h2 A2 → T 60 u mL_law 1445 [some (vR 62), some (vR 64), some (vR 247), some (vI (i : Int))] [] h2 Q) : T 60 u mL_law 802 [some (vR 62), some (vR 64), some (vR 247), some (vI (i : Int))] [] h Q := by
  refine T_aload_n (tDI kL_law_4 8 rfl) rfl ?_
  refine T_vI (c := 10) (b := 64) (N := mX10_placed) (as := []) (tDI kL_law_4 9 rfl) lL_89 oX10_placed jX10_placed ((hs.2.1 64).trans (by decide)) rfl rfl rfl (Nat.le_of_ble_eq_true rfl) rfl ?_
  refine call_clsI hs S XM (fun Q hq => k_placed XC hq) (fun h1 s1 S1 XC1 XM1 => ?_)
  refine T_aload_n (tDI kL_law_4 10 rfl) rfl ?_
  refine T_vI (c := 11) (b := 247) (N := mX11_placed) (as := []) (tDI kL_law_4 11 rfl) lL_93 oX11_placed jX11_placed ((s1.2.1 247).trans (by decide)) rfl rfl rfl (Nat.le_of_ble_eq_true rfl) rfl ?_
  refine call_modI s1 S1 XC1 (fun Q hq => n_placed XM1 hq) (fun h2 s2 S2 XC2 XM2 => ?_)
  exact T_icmp_eq (tgt := 1445) (tDI kL_law_4 12 rfl) rfl (fun _ => hk h2 _ s2 S2 XC2 XM2) (fun z => absurd rfl z)
theorem lc_19 (hs : shp h) (S : SC L sv h) (XC : RC h A) (XM : RM h A) (hi : i + 6 ≤ L) (hk : ∀ h2 A2, shp h2 → SC L sv h2 → RC h2 A2 → RM h2 A2 → T 60 u mL_law 1445 [some (vR 62), some (vR 64), some (vR 247), some (vI (i : Int))] [] h2 Q) : T 60 u mL_law 815 [some (vR 62), some (vR 64), some (vR 247), some (vI (i : Int))] [] h Q := by
  refine T_aload_n (tDI kL_law_4 15 rfl) rfl ?_
  refine T_vI (c := 10) (b := 64) (N := mX10_last) (as := []) (tDI kL_law_4 16 rfl) lL_94 oX10_last jX10_last ((hs.2.1 64).trans (by decide)) rfl rfl rfl (Nat.le_of_ble_eq_true rfl) rfl ?_
  refine call_clsI hs S XM (fun Q hq => k_last XC hq) (fun h1 s1 S1 XC1 XM1 => ?_)
  refine T_aload_n (tDI kL_law_4 17 rfl) rfl ?_
  refine T_vI (c := 11) (b := 247) (N := mX11_last) (as := []) (tDI kL_law_4 18 rfl) lL_97 oX11_last jX11_last ((s1.2.1 247).trans (by decide)) rfl rfl rfl (Nat.le_of_ble_eq_true rfl) rfl ?_
  refine call_modI s1 S1 XC1 (fun Q hq => n_last XM1 hq) (fun h2 s2 S2 XC2 XM2 => ?_)
  exact T_icmp_eq (tgt := 1445) (tDI kL_law_4 19 rfl) rfl (fun _ => hk h2 _ s2 S2 XC2 XM2) (fun z => absurd rfl z)
theorem lc_20 (hs : shp h) (S : SC L sv h) (XC : RC h A) (XM : RM h A) (hi : i + 6 ≤ L) (hk : ∀ h2 A2, shp h2 → SC L sv h2 → RC h2 A2 → RM h2 A2 → T 60 u mL_law 1445 [some (vR 62), some (vR 64), some (vR 247), some (vI (i : Int))] [] h2 Q) : T 60 u mL_law 828 [some (vR 62), some (vR 64), some (vR 247), some (vI (i : Int))] [] h Q := by
  refine T_aload_n (tDI kL_law_4 22 rfl) rfl ?_
  refine T_push (k := 1) (tDI kL_law_4 23 rfl) (tDI kL_law_4 24 rfl) (tDI kL_law_4 25 rfl) (tDI kL_law_4 26 rfl) (tDI kL_law_4 27 rfl) S (by omega) ?_
  refine T_vI (c := 10) (b := 64) (N := mX10_inLine) (as := [vI (sv (i + 1))]) (tDI kL_law_4 28 rfl) lL_98 oX10_inLine jX10_inLine ((hs.2.1 64).trans (by decide)) rfl rfl rfl (Nat.le_of_ble_eq_true rfl) rfl ?_
  refine call_clsI hs S XM (fun Q hq => k_inLine XC hq) (fun h1 s1 S1 XC1 XM1 => ?_)
  refine T_aload_n (tDI kL_law_4 29 rfl) rfl ?_
  refine T_push (k := 1) (tDI kL_law_4 30 rfl) (tDI kL_law_4 31 rfl) (tDI kL_law_4 32 rfl) (tDI kL_law_4 33 rfl) (tDI kL_law_4 34 rfl) S1 (by omega) ?_
  refine T_vI (c := 11) (b := 247) (N := mX11_inLine) (as := [vI (sv (i + 1))]) (tDI kL_law_4 35 rfl) lL_101 oX11_inLine jX11_inLine ((s1.2.1 247).trans (by decide)) rfl rfl rfl (Nat.le_of_ble_eq_true rfl) rfl ?_
  refine call_modI s1 S1 XC1 (fun Q hq => n_inLine XM1 hq) (fun h2 s2 S2 XC2 XM2 => ?_)
  exact T_icmp_eq (tgt := 1445) (tDI kL_law_4 36 rfl) rfl (fun _ => hk h2 _ s2 S2 XC2 XM2) (fun z => absurd rfl z)
theorem lc_21 (hs : shp h) (S : SC L sv h) (XC : RC h A) (XM : RM h A) (hi : i + 6 ≤ L) (hk : ∀ h2 A2, shp h2 → SC L sv h2 → RC h2 A2 → RM h2 A2 → T 60 u mL_law 1445 [some (vR 62), some (vR 64), some (vR 247), some (vI (i : Int))] [] h2 Q) : T 60 u mL_law 851 [some (vR 62), some (vR 64), some (vR 247), some (vI (i : Int))] [] h Q := by
  refine T_aload_n (tDI kL_law_4 39 rfl) rfl ?_
  refine T_push (k := 1) (tDI kL_law_4 40 rfl) (tDI kL_law_4 41 rfl) (tDI kL_law_4 42 rfl) (tDI kL_law_4 43 rfl) (tDI kL_law_4 44 rfl) S (by omega) ?_
  refine T_vI (c := 10) (b := 64) (N := mX10_full) (as := [vI (sv (i + 1))]) (tDI kL_law_4 45 rfl) lL_102 oX10_full jX10_full ((hs.2.1 64).trans (by decide)) rfl rfl rfl (Nat.le_of_ble_eq_true rfl) rfl ?_
  refine call_clsI hs S XM (fun Q hq => k_full XC hq) (fun h1 s1 S1 XC1 XM1 => ?_)
  refine T_aload_n (tDI kL_law_4 46 rfl) rfl ?_
  refine T_push (k := 1) (tDI kL_law_4 47 rfl) (tDI kL_law_4 48 rfl) (tDI kL_law_4 49 rfl) (tDI kL_law_4 50 rfl) (tDI kL_law_4 51 rfl) S1 (by omega) ?_
  refine T_vI (c := 11) (b := 247) (N := mX11_full) (as := [vI (sv (i + 1))]) (tDI kL_law_4 52 rfl) lL_105 oX11_full jX11_full ((s1.2.1 247).trans (by decide)) rfl rfl rfl (Nat.le_of_ble_eq_true rfl) rfl ?_
  refine call_modI s1 S1 XC1 (fun Q hq => n_full XM1 hq) (fun h2 s2 S2 XC2 XM2 => ?_)
  exact T_icmp_eq (tgt := 1445) (tDI kL_law_4 53 rfl) rfl (fun _ => hk h2 _ s2 S2 XC2 XM2) (fun z => absurd rfl z)
theorem lc_22 (hs : shp h) (S : SC L sv h) (XC : RC h A) (XM : RM h A) (hi : i + 6 ≤ L) (hk : ∀ h2 A2, shp h2 → SC L sv h2 → RC h2 A2 → RM h2 A2 → T 60 u mL_law 1445 [some (vR 62), some (vR 64), some (vR 247), some (vI (i : Int))] [] h2 Q) : T 60 u mL_law 874 [some (vR 62), some (vR 64), some (vR 247), some (vI (i : Int))] [] h Q := by
  refine T_aload_n (tDI kL_law_4 56 rfl) rfl ?_
  refine T_vI (c := 10) (b := 64) (N := mX10_ragged) (as := []) (tDI kL_law_4 57 rfl) lL_106 oX10_ragged jX10_ragged ((hs.2.1 64).trans (by decide)) rfl rfl rfl (Nat.le_of_ble_eq_true rfl) rfl ?_
  refine call_clsI hs S XM (fun Q hq => k_ragged XC hq) (fun h1 s1 S1 XC1 XM1 => ?_)
  refine T_aload_n (tDI kL_law_4 58 rfl) rfl ?_
  refine T_vI (c := 11) (b := 247) (N := mX11_ragged) (as := []) (tDI kL_law_4 59 rfl) lL_109 oX11_ragged jX11_ragged ((s1.2.1 247).trans (by decide)) rfl rfl rfl (Nat.le_of_ble_eq_true rfl) rfl ?_
  refine call_modI s1 S1 XC1 (fun Q hq => n_ragged XM1 hq) (fun h2 s2 S2 XC2 XM2 => ?_)
  exact T_icmp_eq (tgt := 1445) (tDI kL_law_4 60 rfl) rfl (fun _ => hk h2 _ s2 S2 XC2 XM2) (fun z => absurd rfl z)
theorem lc_23 (hs : shp h) (S : SC L sv h) (XC : RC h A) (XM : RM h A) (hi : i + 6 ≤ L) (hk : ∀ h2 A2, shp h2 → SC L sv h2 → RC h2 A2 → RM h2 A2 → T 60 u mL_law 1445 [some (vR 62), some (vR 64), some (vR 247), some (vI (i : Int))] [] h2 Q) : T 60 u mL_law 887 [some (vR 62), some (vR 64), some (vR 247), some (vI (i : Int))] [] h Q := by
  refine T_aload_n (tDI kL_law_4 63 rfl) rfl ?_
  refine T_vI (c := 10) (b := 64) (N := mX10_tight) (as := []) (tDI kL_law_4 64 rfl) lL_110 oX10_tight jX10_tight ((hs.2.1 64).trans (by decide)) rfl rfl rfl (Nat.le_of_ble_eq_true rfl) rfl ?_
  refine call_clsI hs S XM (fun Q hq => k_tight XC hq) (fun h1 s1 S1 XC1 XM1 => ?_)
  refine T_aload_n (tDI kL_law_4 65 rfl) rfl ?_
  refine T_vI (c := 11) (b := 247) (N := mX11_tight) (as := []) (tDI kL_law_4 66 rfl) lL_113 oX11_tight jX11_tight ((s1.2.1 247).trans (by decide)) rfl rfl rfl (Nat.le_of_ble_eq_true rfl) rfl ?_
  refine call_modI s1 S1 XC1 (fun Q hq => n_tight XM1 hq) (fun h2 s2 S2 XC2 XM2 => ?_)
  exact T_icmp_eq (tgt := 1445) (tDI kL_law_4 67 rfl) rfl (fun _ => hk h2 _ s2 S2 XC2 XM2) (fun z => absurd rfl z)
theorem lc_24 (hs : shp h) (S : SC L sv h) (XC : RC h A) (XM : RM h A) (hi : i + 6 ≤ L) (hk : ∀ h2 A2, shp h2 → SC L sv h2 → RC h2 A2 → RM h2 A2 → T 60 u mL_law 1445 [some (vR 62), some (vR 64), some (vR 247), some (vI (i : Int))] [] h2 Q) : T 60 u mL_law 900 [some (vR 62), some (vR 64), some (vR 247), some (vI (i : Int))] [] h Q := by
  refine T_aload_n (tDI kL_law_4 70 rfl) rfl ?_
  refine T_vJ (c := 10) (b := 64) (N := mX10_tightWays) (as := []) (tDI kL_law_4 71 rfl) lL_114 oX10_tightWays jX10_tightWays ((hs.2.1 64).trans (by decide)) rfl rfl rfl (Nat.le_of_ble_eq_true rfl) rfl ?_
  refine call_clsJ hs S XM (fun Q hq => k_tightWays XC hq) (fun h1 s1 S1 XC1 XM1 => ?_)
  refine T_aload_n (tDI kL_law_4 72 rfl) rfl ?_
  refine T_vJ (c := 11) (b := 247) (N := mX11_tightWays) (as := []) (tDI kL_law_4 73 rfl) lL_118 oX11_tightWays jX11_tightWays ((s1.2.1 247).trans (by decide)) rfl rfl rfl (Nat.le_of_ble_eq_true rfl) rfl ?_
  refine call_modJ s1 S1 XC1 (fun Q hq => n_tightWays XM1 hq) (fun h2 s2 S2 XC2 XM2 => ?_)
  refine T_lcmp (tDI kL_law_4 74 rfl) ?_
  rw [lcmpv_self]
  exact T_if_eq (tgt := 1445) (tDI kL_law_4 75 rfl) rfl (fun _ => hk h2 _ s2 S2 XC2 XM2) (fun z => absurd rfl z)
theorem lc_25 (hs : shp h) (S : SC L sv h) (XC : RC h A) (XM : RM h A) (hi : i + 6 ≤ L) (hk : ∀ h2 A2, shp h2 → SC L sv h2 → RC h2 A2 → RM h2 A2 → T 60 u mL_law 1445 [some (vR 62), some (vR 64), some (vR 247), some (vI (i : Int))] [] h2 Q) : T 60 u mL_law 914 [some (vR 62), some (vR 64), some (vR 247), some (vI (i : Int))] [] h Q := by
  refine T_aload_n (tDI kL_law_4 78 rfl) rfl ?_
  refine T_vI (c := 10) (b := 64) (N := mX10_rounds) (as := []) (tDI kL_law_4 79 rfl) lL_119 oX10_rounds jX10_rounds ((hs.2.1 64).trans (by decide)) rfl rfl rfl (Nat.le_of_ble_eq_true rfl) rfl ?_
  refine call_clsI hs S XM (fun Q hq => k_rounds XC hq) (fun h1 s1 S1 XC1 XM1 => ?_)
  refine T_aload_n (tDI kL_law_4 80 rfl) rfl ?_
  refine T_vI (c := 11) (b := 247) (N := mX11_rounds) (as := []) (tDI kL_law_4 81 rfl) lL_122 oX11_rounds jX11_rounds ((s1.2.1 247).trans (by decide)) rfl rfl rfl (Nat.le_of_ble_eq_true rfl) rfl ?_
  refine call_modI s1 S1 XC1 (fun Q hq => n_rounds XM1 hq) (fun h2 s2 S2 XC2 XM2 => ?_)
  exact T_icmp_eq (tgt := 1445) (tDI kL_law_4 82 rfl) rfl (fun _ => hk h2 _ s2 S2 XC2 XM2) (fun z => absurd rfl z)
theorem lc_26 (hs : shp h) (S : SC L sv h) (XC : RC h A) (XM : RM h A) (hi : i + 6 ≤ L) (hk : ∀ h2 A2, shp h2 → SC L sv h2 → RC h2 A2 → RM h2 A2 → T 60 u mL_law 1445 [some (vR 62), some (vR 64), some (vR 247), some (vI (i : Int))] [] h2 Q) : T 60 u mL_law 927 [some (vR 62), some (vR 64), some (vR 247), some (vI (i : Int))] [] h Q := by
  refine T_aload_n (tDI kL_law_4 85 rfl) rfl ?_
  refine T_vI (c := 10) (b := 64) (N := mX10_still) (as := []) (tDI kL_law_4 86 rfl) lL_123 oX10_still jX10_still ((hs.2.1 64).trans (by decide)) rfl rfl rfl (Nat.le_of_ble_eq_true rfl) rfl ?_
  refine call_clsI hs S XM (fun Q hq => k_still XC hq) (fun h1 s1 S1 XC1 XM1 => ?_)
  refine T_aload_n (tDI kL_law_4 87 rfl) rfl ?_
  refine T_vI (c := 11) (b := 247) (N := mX11_still) (as := []) (tDI kL_law_4 88 rfl) lL_126 oX11_still jX11_still ((s1.2.1 247).trans (by decide)) rfl rfl rfl (Nat.le_of_ble_eq_true rfl) rfl ?_
  refine call_modI s1 S1 XC1 (fun Q hq => n_still XM1 hq) (fun h2 s2 S2 XC2 XM2 => ?_)
  exact T_icmp_eq (tgt := 1445) (tDI kL_law_4 89 rfl) rfl (fun _ => hk h2 _ s2 S2 XC2 XM2) (fun z => absurd rfl z)
theorem lc_27 (hs : shp h) (S : SC L sv h) (XC : RC h A) (XM : RM h A) (hi : i + 6 ≤ L) (hk : ∀ h2 A2, shp h2 → SC L sv h2 → RC h2 A2 → RM h2 A2 → T 60 u mL_law 1445 [some (vR 62), some (vR 64), some (vR 247), some (vI (i : Int))] [] h2 Q) : T 60 u mL_law 940 [some (vR 62), some (vR 64), some (vR 247), some (vI (i : Int))] [] h Q := by
  refine T_aload_n (tDI kL_law_4 92 rfl) rfl ?_
  refine T_vI (c := 10) (b := 64) (N := mX10_clash) (as := []) (tDI kL_law_4 93 rfl) lL_127 oX10_clash jX10_clash ((hs.2.1 64).trans (by decide)) rfl rfl rfl (Nat.le_of_ble_eq_true rfl) rfl ?_
  refine call_clsI hs S XM (fun Q hq => k_clash XC hq) (fun h1 s1 S1 XC1 XM1 => ?_)
  refine T_aload_n (tDI kL_law_4 94 rfl) rfl ?_
  refine T_vI (c := 11) (b := 247) (N := mX11_clash) (as := []) (tDI kL_law_4 95 rfl) lL_130 oX11_clash jX11_clash ((s1.2.1 247).trans (by decide)) rfl rfl rfl (Nat.le_of_ble_eq_true rfl) rfl ?_
  refine call_modI s1 S1 XC1 (fun Q hq => n_clash XM1 hq) (fun h2 s2 S2 XC2 XM2 => ?_)
  exact T_icmp_eq (tgt := 1445) (tDI kL_law_4 96 rfl) rfl (fun _ => hk h2 _ s2 S2 XC2 XM2) (fun z => absurd rfl z)
theorem lc_28 (hs : shp h) (S : SC L sv h) (XC : RC h A) (XM : RM h A) (hi : i + 6 ≤ L) (hk : ∀ h2 A2, shp h2 → SC L sv h2 → RC h2 A2 → RM h2 A2 → T 60 u mL_law 1445 [some (vR 62), some (vR 64), some (vR 247), some (vI (i : Int))] [] h2 Q) : T 60 u mL_law 953 [some (vR 62), some (vR 64), some (vR 247), some (vI (i : Int))] [] h Q := by
  refine T_aload_n (tDI kL_law_4 99 rfl) rfl ?_
  refine T_vI (c := 10) (b := 64) (N := mX10_leastWide) (as := []) (tDI kL_law_4 100 rfl) lL_131 oX10_leastWide jX10_leastWide ((hs.2.1 64).trans (by decide)) rfl rfl rfl (Nat.le_of_ble_eq_true rfl) rfl ?_
  refine call_clsI hs S XM (fun Q hq => k_leastWide XC hq) (fun h1 s1 S1 XC1 XM1 => ?_)
  refine T_aload_n (tDI kL_law_4 101 rfl) rfl ?_
  refine T_vI (c := 11) (b := 247) (N := mX11_leastWide) (as := []) (tDI kL_law_4 102 rfl) lL_134 oX11_leastWide jX11_leastWide ((s1.2.1 247).trans (by decide)) rfl rfl rfl (Nat.le_of_ble_eq_true rfl) rfl ?_
  refine call_modI s1 S1 XC1 (fun Q hq => n_leastWide XM1 hq) (fun h2 s2 S2 XC2 XM2 => ?_)
  exact T_icmp_eq (tgt := 1445) (tDI kL_law_4 103 rfl) rfl (fun _ => hk h2 _ s2 S2 XC2 XM2) (fun z => absurd rfl z)
theorem lc_29 (hs : shp h) (S : SC L sv h) (XC : RC h A) (XM : RM h A) (hi : i + 6 ≤ L) (hk : ∀ h2 A2, shp h2 → SC L sv h2 → RC h2 A2 → RM h2 A2 → T 60 u mL_law 1445 [some (vR 62), some (vR 64), some (vR 247), some (vI (i : Int))] [] h2 Q) : T 60 u mL_law 966 [some (vR 62), some (vR 64), some (vR 247), some (vI (i : Int))] [] h Q := by
  refine T_aload_n (tDI kL_law_4 106 rfl) rfl ?_
  refine T_push (k := 1) (tDI kL_law_4 107 rfl) (tDI kL_law_4 108 rfl) (tDI kL_law_4 109 rfl) (tDI kL_law_4 110 rfl) (tDI kL_law_4 111 rfl) S (by omega) ?_
  refine T_vI (c := 10) (b := 64) (N := mX10_bestX) (as := [vI (sv (i + 1))]) (tDI kL_law_4 112 rfl) lL_135 oX10_bestX jX10_bestX ((hs.2.1 64).trans (by decide)) rfl rfl rfl (Nat.le_of_ble_eq_true rfl) rfl ?_
  refine call_clsI hs S XM (fun Q hq => k_bestX XC hq) (fun h1 s1 S1 XC1 XM1 => ?_)
  refine T_aload_n (tDI kL_law_4 113 rfl) rfl ?_
  refine T_push (k := 1) (tDI kL_law_4 114 rfl) (tDI kL_law_4 115 rfl) (tDI kL_law_4 116 rfl) (tDI kL_law_4 117 rfl) (tDI kL_law_4 118 rfl) S1 (by omega) ?_
  refine T_vI (c := 11) (b := 247) (N := mX11_bestX) (as := [vI (sv (i + 1))]) (tDI kL_law_4 119 rfl) lL_138 oX11_bestX jX11_bestX ((s1.2.1 247).trans (by decide)) rfl rfl rfl (Nat.le_of_ble_eq_true rfl) rfl ?_
  refine call_modI s1 S1 XC1 (fun Q hq => n_bestX XM1 hq) (fun h2 s2 S2 XC2 XM2 => ?_)
  exact T_icmp_eq (tgt := 1445) (tDI kL_law_5 0 rfl) rfl (fun _ => hk h2 _ s2 S2 XC2 XM2) (fun z => absurd rfl z)
theorem lc_30 (hs : shp h) (S : SC L sv h) (XC : RC h A) (XM : RM h A) (hi : i + 6 ≤ L) (hk : ∀ h2 A2, shp h2 → SC L sv h2 → RC h2 A2 → RM h2 A2 → T 60 u mL_law 1445 [some (vR 62), some (vR 64), some (vR 247), some (vI (i : Int))] [] h2 Q) : T 60 u mL_law 989 [some (vR 62), some (vR 64), some (vR 247), some (vI (i : Int))] [] h Q := by
  refine T_aload_n (tDI kL_law_5 3 rfl) rfl ?_
  refine T_vI (c := 10) (b := 64) (N := mX10_costs) (as := []) (tDI kL_law_5 4 rfl) lL_139 oX10_costs jX10_costs ((hs.2.1 64).trans (by decide)) rfl rfl rfl (Nat.le_of_ble_eq_true rfl) rfl ?_
  refine call_clsI hs S XM (fun Q hq => k_costs XC hq) (fun h1 s1 S1 XC1 XM1 => ?_)
  refine T_aload_n (tDI kL_law_5 5 rfl) rfl ?_
  refine T_vI (c := 11) (b := 247) (N := mX11_costs) (as := []) (tDI kL_law_5 6 rfl) lL_142 oX11_costs jX11_costs ((s1.2.1 247).trans (by decide)) rfl rfl rfl (Nat.le_of_ble_eq_true rfl) rfl ?_
  refine call_modI s1 S1 XC1 (fun Q hq => n_costs XM1 hq) (fun h2 s2 S2 XC2 XM2 => ?_)
  exact T_icmp_eq (tgt := 1445) (tDI kL_law_5 7 rfl) rfl (fun _ => hk h2 _ s2 S2 XC2 XM2) (fun z => absurd rfl z)
theorem lc_31 (hs : shp h) (S : SC L sv h) (XC : RC h A) (XM : RM h A) (hi : i + 6 ≤ L) (hk : ∀ h2 A2, shp h2 → SC L sv h2 → RC h2 A2 → RM h2 A2 → T 60 u mL_law 1445 [some (vR 62), some (vR 64), some (vR 247), some (vI (i : Int))] [] h2 Q) : T 60 u mL_law 1002 [some (vR 62), some (vR 64), some (vR 247), some (vI (i : Int))] [] h Q := by
  refine T_aload_n (tDI kL_law_5 10 rfl) rfl ?_
  refine T_push (k := 1) (tDI kL_law_5 11 rfl) (tDI kL_law_5 12 rfl) (tDI kL_law_5 13 rfl) (tDI kL_law_5 14 rfl) (tDI kL_law_5 15 rfl) S (by omega) ?_
  refine T_vI (c := 10) (b := 64) (N := mX10_pushes) (as := [vI (sv (i + 1))]) (tDI kL_law_5 16 rfl) lL_143 oX10_pushes jX10_pushes ((hs.2.1 64).trans (by decide)) rfl rfl rfl (Nat.le_of_ble_eq_true rfl) rfl ?_
  refine call_clsI hs S XM (fun Q hq => k_pushes XC hq) (fun h1 s1 S1 XC1 XM1 => ?_)
  refine T_aload_n (tDI kL_law_5 17 rfl) rfl ?_
  refine T_push (k := 1) (tDI kL_law_5 18 rfl) (tDI kL_law_5 19 rfl) (tDI kL_law_5 20 rfl) (tDI kL_law_5 21 rfl) (tDI kL_law_5 22 rfl) S1 (by omega) ?_
  refine T_vI (c := 11) (b := 247) (N := mX11_pushes) (as := [vI (sv (i + 1))]) (tDI kL_law_5 23 rfl) lL_146 oX11_pushes jX11_pushes ((s1.2.1 247).trans (by decide)) rfl rfl rfl (Nat.le_of_ble_eq_true rfl) rfl ?_
  refine call_modI s1 S1 XC1 (fun Q hq => n_pushes XM1 hq) (fun h2 s2 S2 XC2 XM2 => ?_)
  exact T_icmp_eq (tgt := 1445) (tDI kL_law_5 24 rfl) rfl (fun _ => hk h2 _ s2 S2 XC2 XM2) (fun z => absurd rfl z)
theorem lc_32 (hs : shp h) (S : SC L sv h) (XC : RC h A) (XM : RM h A) (hi : i + 6 ≤ L) (hk : ∀ h2 A2, shp h2 → SC L sv h2 → RC h2 A2 → RM h2 A2 → T 60 u mL_law 1445 [some (vR 62), some (vR 64), some (vR 247), some (vI (i : Int))] [] h2 Q) : T 60 u mL_law 1025 [some (vR 62), some (vR 64), some (vR 247), some (vI (i : Int))] [] h Q := by
  refine T_aload_n (tDI kL_law_5 27 rfl) rfl ?_
  refine T_push (k := 1) (tDI kL_law_5 28 rfl) (tDI kL_law_5 29 rfl) (tDI kL_law_5 30 rfl) (tDI kL_law_5 31 rfl) (tDI kL_law_5 32 rfl) S (by omega) ?_
  refine T_vI (c := 10) (b := 64) (N := mX10_inks) (as := [vI (sv (i + 1))]) (tDI kL_law_5 33 rfl) lL_147 oX10_inks jX10_inks ((hs.2.1 64).trans (by decide)) rfl rfl rfl (Nat.le_of_ble_eq_true rfl) rfl ?_
  refine call_clsI hs S XM (fun Q hq => k_inks XC hq) (fun h1 s1 S1 XC1 XM1 => ?_)
  refine T_aload_n (tDI kL_law_5 34 rfl) rfl ?_
  refine T_push (k := 1) (tDI kL_law_5 35 rfl) (tDI kL_law_5 36 rfl) (tDI kL_law_5 37 rfl) (tDI kL_law_5 38 rfl) (tDI kL_law_5 39 rfl) S1 (by omega) ?_
  refine T_vI (c := 11) (b := 247) (N := mX11_inks) (as := [vI (sv (i + 1))]) (tDI kL_law_5 40 rfl) lL_150 oX11_inks jX11_inks ((s1.2.1 247).trans (by decide)) rfl rfl rfl (Nat.le_of_ble_eq_true rfl) rfl ?_
  refine call_modI s1 S1 XC1 (fun Q hq => n_inks XM1 hq) (fun h2 s2 S2 XC2 XM2 => ?_)
  exact T_icmp_eq (tgt := 1445) (tDI kL_law_5 41 rfl) rfl (fun _ => hk h2 _ s2 S2 XC2 XM2) (fun z => absurd rfl z)
theorem lc_33 (hs : shp h) (S : SC L sv h) (XC : RC h A) (XM : RM h A) (hi : i + 6 ≤ L) (hk : ∀ h2 A2, shp h2 → SC L sv h2 → RC h2 A2 → RM h2 A2 → T 60 u mL_law 1445 [some (vR 62), some (vR 64), some (vR 247), some (vI (i : Int))] [] h2 Q) : T 60 u mL_law 1048 [some (vR 62), some (vR 64), some (vR 247), some (vI (i : Int))] [] h Q := by
  refine T_aload_n (tDI kL_law_5 44 rfl) rfl ?_
  refine T_push (k := 1) (tDI kL_law_5 45 rfl) (tDI kL_law_5 46 rfl) (tDI kL_law_5 47 rfl) (tDI kL_law_5 48 rfl) (tDI kL_law_5 49 rfl) S (by omega) ?_
  refine T_vI (c := 10) (b := 64) (N := mX10_measure) (as := [vI (sv (i + 1))]) (tDI kL_law_5 50 rfl) lL_151 oX10_measure jX10_measure ((hs.2.1 64).trans (by decide)) rfl rfl rfl (Nat.le_of_ble_eq_true rfl) rfl ?_
  refine call_clsI hs S XM (fun Q hq => k_measure XC hq) (fun h1 s1 S1 XC1 XM1 => ?_)
  refine T_aload_n (tDI kL_law_5 51 rfl) rfl ?_
  refine T_push (k := 1) (tDI kL_law_5 52 rfl) (tDI kL_law_5 53 rfl) (tDI kL_law_5 54 rfl) (tDI kL_law_5 55 rfl) (tDI kL_law_5 56 rfl) S1 (by omega) ?_
  refine T_vI (c := 11) (b := 247) (N := mX11_measure) (as := [vI (sv (i + 1))]) (tDI kL_law_5 57 rfl) lL_154 oX11_measure jX11_measure ((s1.2.1 247).trans (by decide)) rfl rfl rfl (Nat.le_of_ble_eq_true rfl) rfl ?_
  refine call_modI s1 S1 XC1 (fun Q hq => n_measure XM1 hq) (fun h2 s2 S2 XC2 XM2 => ?_)
  exact T_icmp_eq (tgt := 1445) (tDI kL_law_5 58 rfl) rfl (fun _ => hk h2 _ s2 S2 XC2 XM2) (fun z => absurd rfl z)
theorem lc_34 (hs : shp h) (S : SC L sv h) (XC : RC h A) (XM : RM h A) (hi : i + 6 ≤ L) (hk : ∀ h2 A2, shp h2 → SC L sv h2 → RC h2 A2 → RM h2 A2 → T 60 u mL_law 1445 [some (vR 62), some (vR 64), some (vR 247), some (vI (i : Int))] [] h2 Q) : T 60 u mL_law 1071 [some (vR 62), some (vR 64), some (vR 247), some (vI (i : Int))] [] h Q := by
  refine T_aload_n (tDI kL_law_5 61 rfl) rfl ?_
  refine T_push (k := 1) (tDI kL_law_5 62 rfl) (tDI kL_law_5 63 rfl) (tDI kL_law_5 64 rfl) (tDI kL_law_5 65 rfl) (tDI kL_law_5 66 rfl) S (by omega) ?_
  refine T_push (k := 2) (tDI kL_law_5 67 rfl) (tDI kL_law_5 68 rfl) (tDI kL_law_5 69 rfl) (tDI kL_law_5 70 rfl) (tDI kL_law_5 71 rfl) S (by omega) ?_
  refine T_vI (c := 10) (b := 64) (N := mX10_chance) (as := [vI (sv (i + 1)), vI (sv (i + 2))]) (tDI kL_law_5 72 rfl) lL_155 oX10_chance jX10_chance ((hs.2.1 64).trans (by decide)) rfl rfl rfl (Nat.le_of_ble_eq_true rfl) rfl ?_
  refine call_clsI hs S XM (fun Q hq => k_chance XC hq) (fun h1 s1 S1 XC1 XM1 => ?_)
  refine T_aload_n (tDI kL_law_5 73 rfl) rfl ?_
  refine T_push (k := 1) (tDI kL_law_5 74 rfl) (tDI kL_law_5 75 rfl) (tDI kL_law_5 76 rfl) (tDI kL_law_5 77 rfl) (tDI kL_law_5 78 rfl) S1 (by omega) ?_
  refine T_push (k := 2) (tDI kL_law_5 79 rfl) (tDI kL_law_5 80 rfl) (tDI kL_law_5 81 rfl) (tDI kL_law_5 82 rfl) (tDI kL_law_5 83 rfl) S1 (by omega) ?_
  refine T_vI (c := 11) (b := 247) (N := mX11_chance) (as := [vI (sv (i + 1)), vI (sv (i + 2))]) (tDI kL_law_5 84 rfl) lL_158 oX11_chance jX11_chance ((s1.2.1 247).trans (by decide)) rfl rfl rfl (Nat.le_of_ble_eq_true rfl) rfl ?_
  refine call_modI s1 S1 XC1 (fun Q hq => n_chance XM1 hq) (fun h2 s2 S2 XC2 XM2 => ?_)
  exact T_icmp_eq (tgt := 1445) (tDI kL_law_5 85 rfl) rfl (fun _ => hk h2 _ s2 S2 XC2 XM2) (fun z => absurd rfl z)
theorem lc_35 (hs : shp h) (S : SC L sv h) (XC : RC h A) (XM : RM h A) (hi : i + 6 ≤ L) (hk : ∀ h2 A2, shp h2 → SC L sv h2 → RC h2 A2 → RM h2 A2 → T 60 u mL_law 1445 [some (vR 62), some (vR 64), some (vR 247), some (vI (i : Int))] [] h2 Q) : T 60 u mL_law 1104 [some (vR 62), some (vR 64), some (vR 247), some (vI (i : Int))] [] h Q := by
  refine T_aload_n (tDI kL_law_5 88 rfl) rfl ?_
  refine T_push (k := 1) (tDI kL_law_5 89 rfl) (tDI kL_law_5 90 rfl) (tDI kL_law_5 91 rfl) (tDI kL_law_5 92 rfl) (tDI kL_law_5 93 rfl) S (by omega) ?_
  refine T_push (k := 2) (tDI kL_law_5 94 rfl) (tDI kL_law_5 95 rfl) (tDI kL_law_5 96 rfl) (tDI kL_law_5 97 rfl) (tDI kL_law_5 98 rfl) S (by omega) ?_
  refine T_vI (c := 10) (b := 64) (N := mX10_mean) (as := [vI (sv (i + 1)), vI (sv (i + 2))]) (tDI kL_law_5 99 rfl) lL_159 oX10_mean jX10_mean ((hs.2.1 64).trans (by decide)) rfl rfl rfl (Nat.le_of_ble_eq_true rfl) rfl ?_
  refine call_clsI hs S XM (fun Q hq => k_mean XC hq) (fun h1 s1 S1 XC1 XM1 => ?_)
  refine T_aload_n (tDI kL_law_5 100 rfl) rfl ?_
  refine T_push (k := 1) (tDI kL_law_5 101 rfl) (tDI kL_law_5 102 rfl) (tDI kL_law_5 103 rfl) (tDI kL_law_5 104 rfl) (tDI kL_law_5 105 rfl) S1 (by omega) ?_
  refine T_push (k := 2) (tDI kL_law_5 106 rfl) (tDI kL_law_5 107 rfl) (tDI kL_law_5 108 rfl) (tDI kL_law_5 109 rfl) (tDI kL_law_5 110 rfl) S1 (by omega) ?_
  refine T_vI (c := 11) (b := 247) (N := mX11_mean) (as := [vI (sv (i + 1)), vI (sv (i + 2))]) (tDI kL_law_5 111 rfl) lL_162 oX11_mean jX11_mean ((s1.2.1 247).trans (by decide)) rfl rfl rfl (Nat.le_of_ble_eq_true rfl) rfl ?_
  refine call_modI s1 S1 XC1 (fun Q hq => n_mean XM1 hq) (fun h2 s2 S2 XC2 XM2 => ?_)
  exact T_icmp_eq (tgt := 1445) (tDI kL_law_5 112 rfl) rfl (fun _ => hk h2 _ s2 S2 XC2 XM2) (fun z => absurd rfl z)
theorem lc_36 (hs : shp h) (S : SC L sv h) (XC : RC h A) (XM : RM h A) (hi : i + 6 ≤ L) (hk : ∀ h2 A2, shp h2 → SC L sv h2 → RC h2 A2 → RM h2 A2 → T 60 u mL_law 1445 [some (vR 62), some (vR 64), some (vR 247), some (vI (i : Int))] [] h2 Q) : T 60 u mL_law 1137 [some (vR 62), some (vR 64), some (vR 247), some (vI (i : Int))] [] h Q := by
  refine T_aload_n (tDI kL_law_5 115 rfl) rfl ?_
  refine T_push (k := 1) (tDI kL_law_5 116 rfl) (tDI kL_law_5 117 rfl) (tDI kL_law_5 118 rfl) (tDI kL_law_5 119 rfl) (tDI kL_law_6 0 rfl) S (by omega) ?_
  refine T_push (k := 2) (tDI kL_law_6 1 rfl) (tDI kL_law_6 2 rfl) (tDI kL_law_6 3 rfl) (tDI kL_law_6 4 rfl) (tDI kL_law_6 5 rfl) S (by omega) ?_
  refine T_vI (c := 10) (b := 64) (N := mX10_drawer) (as := [vI (sv (i + 1)), vI (sv (i + 2))]) (tDI kL_law_6 6 rfl) lL_163 oX10_drawer jX10_drawer ((hs.2.1 64).trans (by decide)) rfl rfl rfl (Nat.le_of_ble_eq_true rfl) rfl ?_
  refine call_clsI hs S XM (fun Q hq => k_drawer XC hq) (fun h1 s1 S1 XC1 XM1 => ?_)
  refine T_aload_n (tDI kL_law_6 7 rfl) rfl ?_
  refine T_push (k := 1) (tDI kL_law_6 8 rfl) (tDI kL_law_6 9 rfl) (tDI kL_law_6 10 rfl) (tDI kL_law_6 11 rfl) (tDI kL_law_6 12 rfl) S1 (by omega) ?_
  refine T_push (k := 2) (tDI kL_law_6 13 rfl) (tDI kL_law_6 14 rfl) (tDI kL_law_6 15 rfl) (tDI kL_law_6 16 rfl) (tDI kL_law_6 17 rfl) S1 (by omega) ?_
  refine T_vI (c := 11) (b := 247) (N := mX11_drawer) (as := [vI (sv (i + 1)), vI (sv (i + 2))]) (tDI kL_law_6 18 rfl) lL_166 oX11_drawer jX11_drawer ((s1.2.1 247).trans (by decide)) rfl rfl rfl (Nat.le_of_ble_eq_true rfl) rfl ?_
  refine call_modI s1 S1 XC1 (fun Q hq => n_drawer XM1 hq) (fun h2 s2 S2 XC2 XM2 => ?_)
  exact T_icmp_eq (tgt := 1445) (tDI kL_law_6 19 rfl) rfl (fun _ => hk h2 _ s2 S2 XC2 XM2) (fun z => absurd rfl z)
theorem lc_37 (hs : shp h) (S : SC L sv h) (XC : RC h A) (XM : RM h A) (hi : i + 6 ≤ L) (hk : ∀ h2 A2, shp h2 → SC L sv h2 → RC h2 A2 → RM h2 A2 → T 60 u mL_law 1445 [some (vR 62), some (vR 64), some (vR 247), some (vI (i : Int))] [] h2 Q) : T 60 u mL_law 1170 [some (vR 62), some (vR 64), some (vR 247), some (vI (i : Int))] [] h Q := by
  refine T_aload_n (tDI kL_law_6 22 rfl) rfl ?_
  refine T_push (k := 1) (tDI kL_law_6 23 rfl) (tDI kL_law_6 24 rfl) (tDI kL_law_6 25 rfl) (tDI kL_law_6 26 rfl) (tDI kL_law_6 27 rfl) S (by omega) ?_
  refine T_push (k := 2) (tDI kL_law_6 28 rfl) (tDI kL_law_6 29 rfl) (tDI kL_law_6 30 rfl) (tDI kL_law_6 31 rfl) (tDI kL_law_6 32 rfl) S (by omega) ?_
  refine T_vI (c := 10) (b := 64) (N := mX10_keep) (as := [vI (sv (i + 1)), vI (sv (i + 2))]) (tDI kL_law_6 33 rfl) lL_167 oX10_keep jX10_keep ((hs.2.1 64).trans (by decide)) rfl rfl rfl (Nat.le_of_ble_eq_true rfl) rfl ?_
  refine call_clsI hs S XM (fun Q hq => k_keep XC hq) (fun h1 s1 S1 XC1 XM1 => ?_)
  refine T_aload_n (tDI kL_law_6 34 rfl) rfl ?_
  refine T_push (k := 1) (tDI kL_law_6 35 rfl) (tDI kL_law_6 36 rfl) (tDI kL_law_6 37 rfl) (tDI kL_law_6 38 rfl) (tDI kL_law_6 39 rfl) S1 (by omega) ?_
  refine T_push (k := 2) (tDI kL_law_6 40 rfl) (tDI kL_law_6 41 rfl) (tDI kL_law_6 42 rfl) (tDI kL_law_6 43 rfl) (tDI kL_law_6 44 rfl) S1 (by omega) ?_
  refine T_vI (c := 11) (b := 247) (N := mX11_keep) (as := [vI (sv (i + 1)), vI (sv (i + 2))]) (tDI kL_law_6 45 rfl) lL_170 oX11_keep jX11_keep ((s1.2.1 247).trans (by decide)) rfl rfl rfl (Nat.le_of_ble_eq_true rfl) rfl ?_
  refine call_modI s1 S1 XC1 (fun Q hq => n_keep XM1 hq) (fun h2 s2 S2 XC2 XM2 => ?_)
  exact T_icmp_eq (tgt := 1445) (tDI kL_law_6 46 rfl) rfl (fun _ => hk h2 _ s2 S2 XC2 XM2) (fun z => absurd rfl z)
theorem lc_38 (hs : shp h) (S : SC L sv h) (XC : RC h A) (XM : RM h A) (hi : i + 6 ≤ L) (hk : ∀ h2 A2, shp h2 → SC L sv h2 → RC h2 A2 → RM h2 A2 → T 60 u mL_law 1445 [some (vR 62), some (vR 64), some (vR 247), some (vI (i : Int))] [] h2 Q) : T 60 u mL_law 1203 [some (vR 62), some (vR 64), some (vR 247), some (vI (i : Int))] [] h Q := by
  refine T_aload_n (tDI kL_law_6 49 rfl) rfl ?_
  refine T_push (k := 1) (tDI kL_law_6 50 rfl) (tDI kL_law_6 51 rfl) (tDI kL_law_6 52 rfl) (tDI kL_law_6 53 rfl) (tDI kL_law_6 54 rfl) S (by omega) ?_
  refine T_push (k := 2) (tDI kL_law_6 55 rfl) (tDI kL_law_6 56 rfl) (tDI kL_law_6 57 rfl) (tDI kL_law_6 58 rfl) (tDI kL_law_6 59 rfl) S (by omega) ?_
  refine T_vI (c := 10) (b := 64) (N := mX10_kept) (as := [vI (sv (i + 1)), vI (sv (i + 2))]) (tDI kL_law_6 60 rfl) lL_171 oX10_kept jX10_kept ((hs.2.1 64).trans (by decide)) rfl rfl rfl (Nat.le_of_ble_eq_true rfl) rfl ?_
  refine call_clsI hs S XM (fun Q hq => k_kept XC hq) (fun h1 s1 S1 XC1 XM1 => ?_)
  refine T_aload_n (tDI kL_law_6 61 rfl) rfl ?_
  refine T_push (k := 1) (tDI kL_law_6 62 rfl) (tDI kL_law_6 63 rfl) (tDI kL_law_6 64 rfl) (tDI kL_law_6 65 rfl) (tDI kL_law_6 66 rfl) S1 (by omega) ?_
  refine T_push (k := 2) (tDI kL_law_6 67 rfl) (tDI kL_law_6 68 rfl) (tDI kL_law_6 69 rfl) (tDI kL_law_6 70 rfl) (tDI kL_law_6 71 rfl) S1 (by omega) ?_
  refine T_vI (c := 11) (b := 247) (N := mX11_kept) (as := [vI (sv (i + 1)), vI (sv (i + 2))]) (tDI kL_law_6 72 rfl) lL_174 oX11_kept jX11_kept ((s1.2.1 247).trans (by decide)) rfl rfl rfl (Nat.le_of_ble_eq_true rfl) rfl ?_
  refine call_modI s1 S1 XC1 (fun Q hq => n_kept XM1 hq) (fun h2 s2 S2 XC2 XM2 => ?_)
  exact T_icmp_eq (tgt := 1445) (tDI kL_law_6 73 rfl) rfl (fun _ => hk h2 _ s2 S2 XC2 XM2) (fun z => absurd rfl z)
theorem lc_39 (hs : shp h) (S : SC L sv h) (XC : RC h A) (XM : RM h A) (hi : i + 6 ≤ L) (hk : ∀ h2 A2, shp h2 → SC L sv h2 → RC h2 A2 → RM h2 A2 → T 60 u mL_law 1445 [some (vR 62), some (vR 64), some (vR 247), some (vI (i : Int))] [] h2 Q) : T 60 u mL_law 1236 [some (vR 62), some (vR 64), some (vR 247), some (vI (i : Int))] [] h Q := by
  refine T_aload_n (tDI kL_law_6 76 rfl) rfl ?_
  refine T_push (k := 1) (tDI kL_law_6 77 rfl) (tDI kL_law_6 78 rfl) (tDI kL_law_6 79 rfl) (tDI kL_law_6 80 rfl) (tDI kL_law_6 81 rfl) S (by omega) ?_
  refine T_push (k := 2) (tDI kL_law_6 82 rfl) (tDI kL_law_6 83 rfl) (tDI kL_law_6 84 rfl) (tDI kL_law_6 85 rfl) (tDI kL_law_6 86 rfl) S (by omega) ?_
  refine T_push (k := 3) (tDI kL_law_6 87 rfl) (tDI kL_law_6 88 rfl) (tDI kL_law_6 89 rfl) (tDI kL_law_6 90 rfl) (tDI kL_law_6 91 rfl) S (by omega) ?_
  refine T_vI (c := 10) (b := 64) (N := mX10_numbers) (as := [vI (sv (i + 1)), vI (sv (i + 2)), vI (sv (i + 3))]) (tDI kL_law_6 92 rfl) lL_175 oX10_numbers jX10_numbers ((hs.2.1 64).trans (by decide)) rfl rfl rfl (Nat.le_of_ble_eq_true rfl) rfl ?_
  refine call_clsI hs S XM (fun Q hq => k_numbers XC hq) (fun h1 s1 S1 XC1 XM1 => ?_)
  refine T_aload_n (tDI kL_law_6 93 rfl) rfl ?_
  refine T_push (k := 1) (tDI kL_law_6 94 rfl) (tDI kL_law_6 95 rfl) (tDI kL_law_6 96 rfl) (tDI kL_law_6 97 rfl) (tDI kL_law_6 98 rfl) S1 (by omega) ?_
  refine T_push (k := 2) (tDI kL_law_6 99 rfl) (tDI kL_law_6 100 rfl) (tDI kL_law_6 101 rfl) (tDI kL_law_6 102 rfl) (tDI kL_law_6 103 rfl) S1 (by omega) ?_
  refine T_push (k := 3) (tDI kL_law_6 104 rfl) (tDI kL_law_6 105 rfl) (tDI kL_law_6 106 rfl) (tDI kL_law_6 107 rfl) (tDI kL_law_6 108 rfl) S1 (by omega) ?_
  refine T_vI (c := 11) (b := 247) (N := mX11_numbers) (as := [vI (sv (i + 1)), vI (sv (i + 2)), vI (sv (i + 3))]) (tDI kL_law_6 109 rfl) lL_178 oX11_numbers jX11_numbers ((s1.2.1 247).trans (by decide)) rfl rfl rfl (Nat.le_of_ble_eq_true rfl) rfl ?_
  refine call_modI s1 S1 XC1 (fun Q hq => n_numbers XM1 hq) (fun h2 s2 S2 XC2 XM2 => ?_)
  exact T_icmp_eq (tgt := 1445) (tDI kL_law_6 110 rfl) rfl (fun _ => hk h2 _ s2 S2 XC2 XM2) (fun z => absurd rfl z)
theorem lc_40 (hs : shp h) (S : SC L sv h) (XC : RC h A) (XM : RM h A) (hi : i + 6 ≤ L) (hk : ∀ h2 A2, shp h2 → SC L sv h2 → RC h2 A2 → RM h2 A2 → T 60 u mL_law 1445 [some (vR 62), some (vR 64), some (vR 247), some (vI (i : Int))] [] h2 Q) : T 60 u mL_law 1279 [some (vR 62), some (vR 64), some (vR 247), some (vI (i : Int))] [] h Q := by
  refine T_aload_n (tDI kL_law_6 113 rfl) rfl ?_
  refine T_push (k := 1) (tDI kL_law_6 114 rfl) (tDI kL_law_6 115 rfl) (tDI kL_law_6 116 rfl) (tDI kL_law_6 117 rfl) (tDI kL_law_6 118 rfl) S (by omega) ?_
  refine T_push (k := 2) (tDI kL_law_6 119 rfl) (tDI kL_law_7 0 rfl) (tDI kL_law_7 1 rfl) (tDI kL_law_7 2 rfl) (tDI kL_law_7 3 rfl) S (by omega) ?_
  refine T_push (k := 3) (tDI kL_law_7 4 rfl) (tDI kL_law_7 5 rfl) (tDI kL_law_7 6 rfl) (tDI kL_law_7 7 rfl) (tDI kL_law_7 8 rfl) S (by omega) ?_
  refine T_i2l (tDI kL_law_7 9 rfl) ?_
  refine T_bipush (tDI kL_law_7 10 rfl) ⟨by decide, by decide⟩ ?_
  refine T_lshl (tDI kL_law_7 11 rfl) ?_
  refine T_push (k := 4) (tDI kL_law_7 12 rfl) (tDI kL_law_7 13 rfl) (tDI kL_law_7 14 rfl) (tDI kL_law_7 15 rfl) (tDI kL_law_7 16 rfl) S (by omega) ?_
  refine T_i2l (tDI kL_law_7 17 rfl) ?_
  refine T_ldc2 (tDI kL_law_7 18 rfl) ncL_179 (r64 rfl) ?_
  refine T_land (tDI kL_law_7 19 rfl) ?_
  refine T_lor (tDI kL_law_7 20 rfl) ?_
  refine T_vJ (c := 10) (b := 64) (N := mX10_write) (as := [vI (sv (i + 1)), vI (sv (i + 2)), vJ (lor (lshl (sv (i + 3)) 32) (land (sv (i + 4)) 4294967295))]) (tDI kL_law_7 21 rfl) lL_181 oX10_write jX10_write ((hs.2.1 64).trans (by decide)) rfl rfl rfl (Nat.le_of_ble_eq_true rfl) rfl ?_
  refine call_clsJ hs S XM (fun Q hq => k_write XC hq) (fun h1 s1 S1 XC1 XM1 => ?_)
  refine T_aload_n (tDI kL_law_7 22 rfl) rfl ?_
  refine T_push (k := 1) (tDI kL_law_7 23 rfl) (tDI kL_law_7 24 rfl) (tDI kL_law_7 25 rfl) (tDI kL_law_7 26 rfl) (tDI kL_law_7 27 rfl) S1 (by omega) ?_
  refine T_push (k := 2) (tDI kL_law_7 28 rfl) (tDI kL_law_7 29 rfl) (tDI kL_law_7 30 rfl) (tDI kL_law_7 31 rfl) (tDI kL_law_7 32 rfl) S1 (by omega) ?_
  refine T_push (k := 3) (tDI kL_law_7 33 rfl) (tDI kL_law_7 34 rfl) (tDI kL_law_7 35 rfl) (tDI kL_law_7 36 rfl) (tDI kL_law_7 37 rfl) S1 (by omega) ?_
  refine T_i2l (tDI kL_law_7 38 rfl) ?_
  refine T_bipush (tDI kL_law_7 39 rfl) ⟨by decide, by decide⟩ ?_
  refine T_lshl (tDI kL_law_7 40 rfl) ?_
  refine T_push (k := 4) (tDI kL_law_7 41 rfl) (tDI kL_law_7 42 rfl) (tDI kL_law_7 43 rfl) (tDI kL_law_7 44 rfl) (tDI kL_law_7 45 rfl) S1 (by omega) ?_
  refine T_i2l (tDI kL_law_7 46 rfl) ?_
  refine T_ldc2 (tDI kL_law_7 47 rfl) ncL_179 (r64 rfl) ?_
  refine T_land (tDI kL_law_7 48 rfl) ?_
  refine T_lor (tDI kL_law_7 49 rfl) ?_
  refine T_vJ (c := 11) (b := 247) (N := mX11_write) (as := [vI (sv (i + 1)), vI (sv (i + 2)), vJ (lor (lshl (sv (i + 3)) 32) (land (sv (i + 4)) 4294967295))]) (tDI kL_law_7 50 rfl) lL_185 oX11_write jX11_write ((s1.2.1 247).trans (by decide)) rfl rfl rfl (Nat.le_of_ble_eq_true rfl) rfl ?_
  refine call_modJ s1 S1 XC1 (fun Q hq => n_write XM1 hq) (fun h2 s2 S2 XC2 XM2 => ?_)
  refine T_lcmp (tDI kL_law_7 51 rfl) ?_
  rw [lcmpv_self]
  exact T_if_eq (tgt := 1445) (tDI kL_law_7 52 rfl) rfl (fun _ => hk h2 _ s2 S2 XC2 XM2) (fun z => absurd rfl z)
theorem lc_41 (hs : shp h) (S : SC L sv h) (XC : RC h A) (XM : RM h A) (hi : i + 6 ≤ L) (hk : ∀ h2 A2, shp h2 → SC L sv h2 → RC h2 A2 → RM h2 A2 → T 60 u mL_law 1445 [some (vR 62), some (vR 64), some (vR 247), some (vI (i : Int))] [] h2 Q) : T 60 u mL_law 1353 [some (vR 62), some (vR 64), some (vR 247), some (vI (i : Int))] [] h Q := by
  refine T_aload_n (tDI kL_law_7 55 rfl) rfl ?_
  refine T_push (k := 1) (tDI kL_law_7 56 rfl) (tDI kL_law_7 57 rfl) (tDI kL_law_7 58 rfl) (tDI kL_law_7 59 rfl) (tDI kL_law_7 60 rfl) S (by omega) ?_
  refine T_vI (c := 10) (b := 64) (N := mX10_lists) (as := [vI (sv (i + 1))]) (tDI kL_law_7 61 rfl) lL_186 oX10_lists jX10_lists ((hs.2.1 64).trans (by decide)) rfl rfl rfl (Nat.le_of_ble_eq_true rfl) rfl ?_
  refine call_clsI hs S XM (fun Q hq => k_lists XC hq) (fun h1 s1 S1 XC1 XM1 => ?_)
  refine T_aload_n (tDI kL_law_7 62 rfl) rfl ?_
  refine T_push (k := 1) (tDI kL_law_7 63 rfl) (tDI kL_law_7 64 rfl) (tDI kL_law_7 65 rfl) (tDI kL_law_7 66 rfl) (tDI kL_law_7 67 rfl) S1 (by omega) ?_
  refine T_vI (c := 11) (b := 247) (N := mX11_lists) (as := [vI (sv (i + 1))]) (tDI kL_law_7 68 rfl) lL_189 oX11_lists jX11_lists ((s1.2.1 247).trans (by decide)) rfl rfl rfl (Nat.le_of_ble_eq_true rfl) rfl ?_
  refine call_modI s1 S1 XC1 (fun Q hq => n_lists XM1 hq) (fun h2 s2 S2 XC2 XM2 => ?_)
  exact T_icmp_eq (tgt := 1445) (tDI kL_law_7 69 rfl) rfl (fun _ => hk h2 _ s2 S2 XC2 XM2) (fun z => absurd rfl z)
theorem lc_42 (hs : shp h) (S : SC L sv h) (XC : RC h A) (XM : RM h A) (hi : i + 6 ≤ L) (hk : ∀ h2 A2, shp h2 → SC L sv h2 → RC h2 A2 → RM h2 A2 → T 60 u mL_law 1445 [some (vR 62), some (vR 64), some (vR 247), some (vI (i : Int))] [] h2 Q) : T 60 u mL_law 1376 [some (vR 62), some (vR 64), some (vR 247), some (vI (i : Int))] [] h Q := by
  refine T_aload_n (tDI kL_law_7 72 rfl) rfl ?_
  refine T_push (k := 1) (tDI kL_law_7 73 rfl) (tDI kL_law_7 74 rfl) (tDI kL_law_7 75 rfl) (tDI kL_law_7 76 rfl) (tDI kL_law_7 77 rfl) S (by omega) ?_
  refine T_vI (c := 10) (b := 64) (N := mX10_image) (as := [vI (sv (i + 1))]) (tDI kL_law_7 78 rfl) lL_190 oX10_image jX10_image ((hs.2.1 64).trans (by decide)) rfl rfl rfl (Nat.le_of_ble_eq_true rfl) rfl ?_
  refine call_clsI hs S XM (fun Q hq => k_image XC hq) (fun h1 s1 S1 XC1 XM1 => ?_)
  refine T_aload_n (tDI kL_law_7 79 rfl) rfl ?_
  refine T_push (k := 1) (tDI kL_law_7 80 rfl) (tDI kL_law_7 81 rfl) (tDI kL_law_7 82 rfl) (tDI kL_law_7 83 rfl) (tDI kL_law_7 84 rfl) S1 (by omega) ?_
  refine T_vI (c := 11) (b := 247) (N := mX11_image) (as := [vI (sv (i + 1))]) (tDI kL_law_7 85 rfl) lL_193 oX11_image jX11_image ((s1.2.1 247).trans (by decide)) rfl rfl rfl (Nat.le_of_ble_eq_true rfl) rfl ?_
  refine call_modI s1 S1 XC1 (fun Q hq => n_image XM1 hq) (fun h2 s2 S2 XC2 XM2 => ?_)
  exact T_icmp_eq (tgt := 1445) (tDI kL_law_7 86 rfl) rfl (fun _ => hk h2 _ s2 S2 XC2 XM2) (fun z => absurd rfl z)
theorem lc_43 (hs : shp h) (S : SC L sv h) (XC : RC h A) (XM : RM h A) (hi : i + 6 ≤ L) (hk : ∀ h2 A2, shp h2 → SC L sv h2 → RC h2 A2 → RM h2 A2 → T 60 u mL_law 1445 [some (vR 62), some (vR 64), some (vR 247), some (vI (i : Int))] [] h2 Q) : T 60 u mL_law 1399 [some (vR 62), some (vR 64), some (vR 247), some (vI (i : Int))] [] h Q := by
  refine T_aload_n (tDI kL_law_7 89 rfl) rfl ?_
  refine T_push (k := 1) (tDI kL_law_7 90 rfl) (tDI kL_law_7 91 rfl) (tDI kL_law_7 92 rfl) (tDI kL_law_7 93 rfl) (tDI kL_law_7 94 rfl) S (by omega) ?_
  refine T_vI (c := 10) (b := 64) (N := mX10_restore) (as := [vI (sv (i + 1))]) (tDI kL_law_7 95 rfl) lL_194 oX10_restore jX10_restore ((hs.2.1 64).trans (by decide)) rfl rfl rfl (Nat.le_of_ble_eq_true rfl) rfl ?_
  refine call_clsI hs S XM (fun Q hq => k_restore XC hq) (fun h1 s1 S1 XC1 XM1 => ?_)
  refine T_aload_n (tDI kL_law_7 96 rfl) rfl ?_
  refine T_push (k := 1) (tDI kL_law_7 97 rfl) (tDI kL_law_7 98 rfl) (tDI kL_law_7 99 rfl) (tDI kL_law_7 100 rfl) (tDI kL_law_7 101 rfl) S1 (by omega) ?_
  refine T_vI (c := 11) (b := 247) (N := mX11_restore) (as := [vI (sv (i + 1))]) (tDI kL_law_7 102 rfl) lL_197 oX11_restore jX11_restore ((s1.2.1 247).trans (by decide)) rfl rfl rfl (Nat.le_of_ble_eq_true rfl) rfl ?_
  refine call_modI s1 S1 XC1 (fun Q hq => n_restore XM1 hq) (fun h2 s2 S2 XC2 XM2 => ?_)
  exact T_icmp_eq (tgt := 1445) (tDI kL_law_7 103 rfl) rfl (fun _ => hk h2 _ s2 S2 XC2 XM2) (fun z => absurd rfl z)
theorem lc_44 (hs : shp h) (S : SC L sv h) (XC : RC h A) (XM : RM h A) (hi : i + 6 ≤ L) (hk : ∀ h2 A2, shp h2 → SC L sv h2 → RC h2 A2 → RM h2 A2 → T 60 u mL_law 1445 [some (vR 62), some (vR 64), some (vR 247), some (vI (i : Int))] [] h2 Q) : T 60 u mL_law 1422 [some (vR 62), some (vR 64), some (vR 247), some (vI (i : Int))] [] h Q := by
  refine T_aload_n (tDI kL_law_7 106 rfl) rfl ?_
  refine T_push (k := 1) (tDI kL_law_7 107 rfl) (tDI kL_law_7 108 rfl) (tDI kL_law_7 109 rfl) (tDI kL_law_7 110 rfl) (tDI kL_law_7 111 rfl) S (by omega) ?_
  refine T_vI (c := 10) (b := 64) (N := mX10_count) (as := [vI (sv (i + 1))]) (tDI kL_law_7 112 rfl) lL_198 oX10_count jX10_count ((hs.2.1 64).trans (by decide)) rfl rfl rfl (Nat.le_of_ble_eq_true rfl) rfl ?_
  refine call_clsI hs S XM (fun Q hq => k_count XC hq) (fun h1 s1 S1 XC1 XM1 => ?_)
  refine T_aload_n (tDI kL_law_7 113 rfl) rfl ?_
  refine T_push (k := 1) (tDI kL_law_7 114 rfl) (tDI kL_law_7 115 rfl) (tDI kL_law_7 116 rfl) (tDI kL_law_7 117 rfl) (tDI kL_law_7 118 rfl) S1 (by omega) ?_
  refine T_vI (c := 11) (b := 247) (N := mX11_count) (as := [vI (sv (i + 1))]) (tDI kL_law_7 119 rfl) lL_201 oX11_count jX11_count ((s1.2.1 247).trans (by decide)) rfl rfl rfl (Nat.le_of_ble_eq_true rfl) rfl ?_
  refine call_modI s1 S1 XC1 (fun Q hq => n_count XM1 hq) (fun h2 s2 S2 XC2 XM2 => ?_)
  exact T_icmp_eq (tgt := 1445) (tDI kL_law_8 0 rfl) rfl (fun _ => hk h2 _ s2 S2 XC2 XM2) (fun z => absurd rfl z)
end
