/-! THE CONSTRUCTORS: the class -/
def kc0 : List Ce := [(11, 0, [], [])]
def kc1 : List Ce := kc0 ++ [(21, 900, [], [])]
def kc2 : List Ce := pR kc1 0 0 65
def kc3 : List Ce := pI kc2 0 1 0
def kc4 : List Ce := kc3 ++ [(24, 4, [], [])]
def kc5 : List Ce := pR kc4 0 3 66
def kc6 : List Ce := pI kc5 0 4 0
def kc7 : List Ce := kc6 ++ [(9, 0, [], [])]
def kc8 : List Ce := kc6 ++ b_X8 67
def kc9 : List Ce := pR kc8 0 5 67
def kc10 : List Ce := kc9 ++ [(9, 0, [], [])]
def kc11 : List Ce := kc9 ++ b_X8 71
def kc12 : List Ce := pR kc11 0 6 71
def kc13 : List Ce := kc12 ++ [(5, 0, [], [])]
def kc14 : List Ce := kc13 ++ [(25, 10, [], [])]
def kc15 : List Ce := pR kc14 11 0 76
def kc16 : List Ce := pI kc15 11 1 0
def kc17 : List Ce := pI kc16 11 2 0
def kc18 : List Ce := kc17 ++ [(9, 0, [], [])]
def kc19 : List Ce := kc17 ++ b_X8 77
def kc20 : List Ce := pR kc19 12 0 77
def kc21 : List Ce := kc20 ++ [(9, 0, [], [])]
def kc22 : List Ce := kc20 ++ b_X8 81
def kc23 : List Ce := pR kc22 12 1 81
def kc24 : List Ce := kc23 ++ [(9, 0, [], [])]
def kc25 : List Ce := kc23 ++ b_X8 85
def kc26 : List Ce := pR kc25 12 2 85
def kc27 : List Ce := kc26 ++ [(9, 0, [], [])]
def kc28 : List Ce := kc26 ++ b_X8 89
def kc29 : List Ce := pR kc28 12 3 89
def kc30 : List Ce := kc29 ++ [(9, 0, [], [])]
def kc31 : List Ce := kc29 ++ b_X8 93
def kc32 : List Ce := pR kc31 12 4 93
def kc33 : List Ce := kc32 ++ [(9, 0, [], [])]
def kc34 : List Ce := kc32 ++ b_X8 97
def kc35 : List Ce := pR kc34 12 5 97
def kc36 : List Ce := kc35 ++ [(9, 0, [], [])]
def kc37 : List Ce := kc35 ++ b_X8 101
def kc38 : List Ce := pR kc37 12 6 101
def kc39 : List Ce := kc38 ++ [(9, 0, [], [])]
def kc40 : List Ce := kc38 ++ b_X8 105
def kc41 : List Ce := pR kc40 12 7 105
def kc42 : List Ce := kc41 ++ [(9, 0, [], [])]
def kc43 : List Ce := kc41 ++ b_X8 109
def kc44 : List Ce := pR kc43 12 8 109
def kc45 : List Ce := kc44 ++ [(9, 0, [], [])]
def kc46 : List Ce := kc44 ++ b_X8 113
def kc47 : List Ce := pR kc46 12 9 113
def kc48 : List Ce := pR kc47 0 7 75
def kc49 : List Ce := kc48 ++ [(20, 2, [], [])]
def kc50 : List Ce := pR kc49 0 8 117
def kc51 : List Ce := kc50 ++ [(25, 2, [], [])]
def kc52 : List Ce := pR kc51 0 9 118
def kc53 : List Ce := pI kc52 0 12 0
def kc54 : List Ce := kc53 ++ [(1, 0, [], [])]
def kc55 : List Ce := kc54 ++ [(20, 30, [], [])]
def kc56 : List Ce := pR kc55 55 0 120
def kc57 : List Ce := kc56 ++ [(20, 31, [], [])]
def kc58 : List Ce := pR kc57 55 1 121
def kc59 : List Ce := kc58 ++ [(22, 31, [], [])]
def kc60 : List Ce := pR kc59 55 2 122
def kc61 : List Ce := pI kc60 55 3 0
def kc62 : List Ce := pR kc61 0 13 119
def kc63 : List Ce := kc62 ++ [(10, 0, [], [])]
def kc64 : List Ce := kc63 ++ [(22, 160, [], [])]
def kc65 : List Ce := pR kc64 59 0 124
def kc66 : List Ce := kc65 ++ [(20, 4, [], [])]
def kc67 : List Ce := pR kc66 59 1 125
def kc68 : List Ce := kc67 ++ [(20, 4, [], [])]
def kc69 : List Ce := pR kc68 59 2 126
def kc70 : List Ce := pIs kc69 62 (-1) 4
def kc71 : List Ce := pR kc70 0 14 123
def kc72 : List Ce := kc71 ++ [(2, 0, [], [])]
def kc73 : List Ce := pI kc72 63 0 (-1)
def kc74 : List Ce := pI kc73 63 1 (-1)
def kc75 : List Ce := kc74 ++ [(20, 9, [], [])]
def kc76 : List Ce := pR kc75 63 2 128
def kc77 : List Ce := kc76 ++ [(20, 9, [], [])]
def kc78 : List Ce := pR kc77 63 3 129
def kc79 : List Ce := pR kc78 0 15 127
def kc80 : List Ce := pI kc79 0 16 0
def kc81 : List Ce := pI kc80 0 17 0
def kc82 : List Ce := pI kc81 0 18 0
def kc83 : List Ce := kc82 ++ [(4, 0, [], [])]
def kc84 : List Ce := kc82 ++ b_X3 130
def kc85 : List Ce := pR kc84 2 0 130
def kc86 : List Ce := kc85 ++ [(4, 0, [], [])]
def kc87 : List Ce := kc85 ++ b_X3 150
def kc88 : List Ce := pR kc87 2 1 150
def kc89 : List Ce := kc88 ++ [(4, 0, [], [])]
def kc90 : List Ce := kc88 ++ b_X3 170
def kc91 : List Ce := pR kc90 2 2 170
def kc92 : List Ce := kc91 ++ [(4, 0, [], [])]
def kc93 : List Ce := kc91 ++ b_X3 190
def kc94 : List Ce := pR kc93 2 3 190
def kc95 : List Ce := pI kc94 53 0 (-1)
def kc96 : List Ce := kc95 ++ [(9, 0, [], [])]
def kc97 : List Ce := kc95 ++ b_X8 210
def kc98 : List Ce := pR kc97 54 0 210
def kc99 : List Ce := pI kc98 53 1 (-1)
def kc100 : List Ce := kc99 ++ [(9, 0, [], [])]
def kc101 : List Ce := kc99 ++ b_X8 214
def kc102 : List Ce := pR kc101 54 1 214
def kc103 : List Ce := kc102 ++ [(6, 0, [], [])]
def kc104 : List Ce := pI kc103 154 1 0
def kc105 : List Ce := pI kc104 154 2 0
def kc106 : List Ce := pI kc105 154 3 0
def kc107 : List Ce := pI kc106 154 4 0
def kc108 : List Ce := pI kc107 154 5 0
def kc109 : List Ce := pI kc108 154 8 0
def kc110 : List Ce := pI kc109 154 9 (-1)
def kc111 : List Ce := pR kc110 154 0 65
def kc112 : List Ce := pR kc111 154 6 130
def kc113 : List Ce := pR kc112 154 7 140
def kc114 : List Ce := pR kc113 0 2 218
def kc115 : List Ce := kc114 ++ [(7, 0, [], [])]
def kc116 : List Ce := kc114 ++ b_X6 219 130 67
def kc117 : List Ce := pR kc116 0 10 219
def kc118 : List Ce := kc117 ++ [(7, 0, [], [])]
def kc119 : List Ce := kc117 ++ b_X6 233 130 71
def kc120 : List Ce := pR kc119 0 11 233
set_option maxRecDepth 100000 in
theorem ct_X10 {d : Nat} {Q : Option PV → PH → Prop} {L : Nat} {xs : Nat → Int32} (hq : Q none (den L xs kc120)) : CallA (d + 4) 182 17907 mX10_init [vR 64] (den L xs kc0) Q := by
  refine DX10_init (AX10_init_0 ⟨by decide, ?_⟩)
  refine ⟨⟨by decide, by decide⟩, fun _ h e => ?_⟩
  rw [show nx (den L xs kc0) = 65 from (show 64 + kc0.length = 65 by decide +kernel)]
  obtain rfl : h = den L xs kc1 := e.trans (den_nw kc0 21 900)
  refine ⟨((den_cl kc1 0).trans (by decide +kernel)), fun h e => ?_⟩
  obtain rfl : h = den L xs kc2 := e.trans (den_sr kc1 0 0 65 (by decide +kernel))
  refine ⟨((den_cl kc2 0).trans (by decide +kernel)), fun h e => ?_⟩
  obtain rfl : h = den L xs kc3 := e.trans (den_si kc2 0 1 0 (by decide +kernel))
  refine ⟨⟨by decide, by decide⟩, fun _ h e => ?_⟩
  rw [show nx (den L xs kc3) = 66 from (show 64 + kc3.length = 66 by decide +kernel)]
  obtain rfl : h = den L xs kc4 := e.trans (den_nw kc3 24 4)
  refine ⟨((den_cl kc4 0).trans (by decide +kernel)), fun h e => ?_⟩
  obtain rfl : h = den L xs kc5 := e.trans (den_sr kc4 0 3 66 (by decide +kernel))
  refine ⟨((den_cl kc5 0).trans (by decide +kernel)), fun h e => ?_⟩
  obtain rfl : h = den L xs kc6 := e.trans (den_si kc5 0 4 0 (by decide +kernel))
  refine ⟨⟨by decide, by decide⟩, fun _ h e => ?_⟩
  rw [show nx (den L xs kc6) = 67 from (show 64 + kc6.length = 67 by decide +kernel)]
  obtain rfl : h = den L xs kc7 := e.trans (den_nw kc6 9 0)
  refine ⟨⟨by decide, by decide, by decide⟩, ct_X8 (c := kc6) (N := 67) rfl (by decide +kernel) ⟨rfl, ?_⟩⟩
  rw [show den L xs (kc6 ++ b_X8 67) = den L xs kc8 from rfl]
  refine ⟨((den_cl kc8 0).trans (by decide +kernel)), fun h e => ?_⟩
  obtain rfl : h = den L xs kc9 := e.trans (den_sr kc8 0 5 67 (by decide +kernel))
  refine ⟨⟨by decide, by decide⟩, fun _ h e => ?_⟩
  rw [show nx (den L xs kc9) = 71 from (show 64 + kc9.length = 71 by decide +kernel)]
  obtain rfl : h = den L xs kc10 := e.trans (den_nw kc9 9 0)
  refine ⟨⟨by decide, by decide, by decide⟩, ct_X8 (c := kc9) (N := 71) rfl (by decide +kernel) ⟨rfl, ?_⟩⟩
  rw [show den L xs (kc9 ++ b_X8 71) = den L xs kc11 from rfl]
  refine ⟨((den_cl kc11 0).trans (by decide +kernel)), fun h e => ?_⟩
  obtain rfl : h = den L xs kc12 := e.trans (den_sr kc11 0 6 71 (by decide +kernel))
  refine ⟨⟨by decide, by decide⟩, fun _ h e => ?_⟩
  rw [show nx (den L xs kc12) = 75 from (show 64 + kc12.length = 75 by decide +kernel)]
  obtain rfl : h = den L xs kc13 := e.trans (den_nw kc12 5 0)
  refine ⟨⟨by decide, by decide, by decide⟩, ?_⟩
  refine DX4_init (AX4_init_0 ⟨by decide, ?_⟩)
  refine ⟨⟨by decide, by decide⟩, fun _ h e => ?_⟩
  rw [show nx (den L xs kc13) = 76 from (show 64 + kc13.length = 76 by decide +kernel)]
  obtain rfl : h = den L xs kc14 := e.trans (den_nw kc13 25 10)
  refine ⟨((den_cl kc14 11).trans (by decide +kernel)), fun h e => ?_⟩
  obtain rfl : h = den L xs kc15 := e.trans (den_sr kc14 11 0 76 (by decide +kernel))
  refine ⟨((den_cl kc15 11).trans (by decide +kernel)), fun h e => ?_⟩
  obtain rfl : h = den L xs kc16 := e.trans (den_si kc15 11 1 0 (by decide +kernel))
  refine ⟨((den_cl kc16 11).trans (by decide +kernel)), fun h e => ?_⟩
  obtain rfl : h = den L xs kc17 := e.trans (den_si kc16 11 2 0 (by decide +kernel))
  refine AX4_init_25 ⟨fun z => absurd z (by decide), fun _ => ⟨((den_cl kc17 11).trans (by decide +kernel)), ?_⟩⟩
  rw [show gr (den L xs kc17) 75 0 = 76 from (den_gr kc17 11 0).trans (by decide +kernel)]
  refine ⟨⟨by decide, by decide⟩, fun _ h e => ?_⟩
  rw [show nx (den L xs kc17) = 77 from (show 64 + kc17.length = 77 by decide +kernel)]
  obtain rfl : h = den L xs kc18 := e.trans (den_nw kc17 9 0)
  refine ⟨⟨by decide, by decide, by decide⟩, ct_X8 (c := kc17) (N := 77) rfl (by decide +kernel) ⟨rfl, ?_⟩⟩
  rw [show den L xs (kc17 ++ b_X8 77) = den L xs kc19 from rfl]
  refine ⟨⟨((den_cl kc19 12).trans (by decide +kernel)), ⟨by decide, by rw [show ln (den L xs kc19) 76 = 10 from ((den_ln kc19 12).trans (by decide +kernel))]; decide⟩, ((den_cl kc19 13).trans (by decide +kernel))⟩, fun h e => ?_⟩
  obtain rfl : h = den L xs kc20 := e.trans (den_sr kc19 12 0 77 (by decide +kernel))
  rw [show w32 ((0 : Int) + 1) = 1 by decide]
  refine AX4_init_25 ⟨fun z => absurd z (by decide), fun _ => ⟨((den_cl kc20 11).trans (by decide +kernel)), ?_⟩⟩
  rw [show gr (den L xs kc20) 75 0 = 76 from (den_gr kc20 11 0).trans (by decide +kernel)]
  refine ⟨⟨by decide, by decide⟩, fun _ h e => ?_⟩
  rw [show nx (den L xs kc20) = 81 from (show 64 + kc20.length = 81 by decide +kernel)]
  obtain rfl : h = den L xs kc21 := e.trans (den_nw kc20 9 0)
  refine ⟨⟨by decide, by decide, by decide⟩, ct_X8 (c := kc20) (N := 81) rfl (by decide +kernel) ⟨rfl, ?_⟩⟩
  rw [show den L xs (kc20 ++ b_X8 81) = den L xs kc22 from rfl]
  refine ⟨⟨((den_cl kc22 12).trans (by decide +kernel)), ⟨by decide, by rw [show ln (den L xs kc22) 76 = 10 from ((den_ln kc22 12).trans (by decide +kernel))]; decide⟩, ((den_cl kc22 17).trans (by decide +kernel))⟩, fun h e => ?_⟩
  obtain rfl : h = den L xs kc23 := e.trans (den_sr kc22 12 1 81 (by decide +kernel))
  rw [show w32 ((1 : Int) + 1) = 2 by decide]
  refine AX4_init_25 ⟨fun z => absurd z (by decide), fun _ => ⟨((den_cl kc23 11).trans (by decide +kernel)), ?_⟩⟩
  rw [show gr (den L xs kc23) 75 0 = 76 from (den_gr kc23 11 0).trans (by decide +kernel)]
  refine ⟨⟨by decide, by decide⟩, fun _ h e => ?_⟩
  rw [show nx (den L xs kc23) = 85 from (show 64 + kc23.length = 85 by decide +kernel)]
  obtain rfl : h = den L xs kc24 := e.trans (den_nw kc23 9 0)
  refine ⟨⟨by decide, by decide, by decide⟩, ct_X8 (c := kc23) (N := 85) rfl (by decide +kernel) ⟨rfl, ?_⟩⟩
  rw [show den L xs (kc23 ++ b_X8 85) = den L xs kc25 from rfl]
  refine ⟨⟨((den_cl kc25 12).trans (by decide +kernel)), ⟨by decide, by rw [show ln (den L xs kc25) 76 = 10 from ((den_ln kc25 12).trans (by decide +kernel))]; decide⟩, ((den_cl kc25 21).trans (by decide +kernel))⟩, fun h e => ?_⟩
  obtain rfl : h = den L xs kc26 := e.trans (den_sr kc25 12 2 85 (by decide +kernel))
  rw [show w32 ((2 : Int) + 1) = 3 by decide]
  refine AX4_init_25 ⟨fun z => absurd z (by decide), fun _ => ⟨((den_cl kc26 11).trans (by decide +kernel)), ?_⟩⟩
  rw [show gr (den L xs kc26) 75 0 = 76 from (den_gr kc26 11 0).trans (by decide +kernel)]
  refine ⟨⟨by decide, by decide⟩, fun _ h e => ?_⟩
  rw [show nx (den L xs kc26) = 89 from (show 64 + kc26.length = 89 by decide +kernel)]
  obtain rfl : h = den L xs kc27 := e.trans (den_nw kc26 9 0)
  refine ⟨⟨by decide, by decide, by decide⟩, ct_X8 (c := kc26) (N := 89) rfl (by decide +kernel) ⟨rfl, ?_⟩⟩
  rw [show den L xs (kc26 ++ b_X8 89) = den L xs kc28 from rfl]
  refine ⟨⟨((den_cl kc28 12).trans (by decide +kernel)), ⟨by decide, by rw [show ln (den L xs kc28) 76 = 10 from ((den_ln kc28 12).trans (by decide +kernel))]; decide⟩, ((den_cl kc28 25).trans (by decide +kernel))⟩, fun h e => ?_⟩
  obtain rfl : h = den L xs kc29 := e.trans (den_sr kc28 12 3 89 (by decide +kernel))
  rw [show w32 ((3 : Int) + 1) = 4 by decide]
  refine AX4_init_25 ⟨fun z => absurd z (by decide), fun _ => ⟨((den_cl kc29 11).trans (by decide +kernel)), ?_⟩⟩
  rw [show gr (den L xs kc29) 75 0 = 76 from (den_gr kc29 11 0).trans (by decide +kernel)]
  refine ⟨⟨by decide, by decide⟩, fun _ h e => ?_⟩
  rw [show nx (den L xs kc29) = 93 from (show 64 + kc29.length = 93 by decide +kernel)]
  obtain rfl : h = den L xs kc30 := e.trans (den_nw kc29 9 0)
  refine ⟨⟨by decide, by decide, by decide⟩, ct_X8 (c := kc29) (N := 93) rfl (by decide +kernel) ⟨rfl, ?_⟩⟩
  rw [show den L xs (kc29 ++ b_X8 93) = den L xs kc31 from rfl]
  refine ⟨⟨((den_cl kc31 12).trans (by decide +kernel)), ⟨by decide, by rw [show ln (den L xs kc31) 76 = 10 from ((den_ln kc31 12).trans (by decide +kernel))]; decide⟩, ((den_cl kc31 29).trans (by decide +kernel))⟩, fun h e => ?_⟩
  obtain rfl : h = den L xs kc32 := e.trans (den_sr kc31 12 4 93 (by decide +kernel))
  rw [show w32 ((4 : Int) + 1) = 5 by decide]
  refine AX4_init_25 ⟨fun z => absurd z (by decide), fun _ => ⟨((den_cl kc32 11).trans (by decide +kernel)), ?_⟩⟩
  rw [show gr (den L xs kc32) 75 0 = 76 from (den_gr kc32 11 0).trans (by decide +kernel)]
  refine ⟨⟨by decide, by decide⟩, fun _ h e => ?_⟩
  rw [show nx (den L xs kc32) = 97 from (show 64 + kc32.length = 97 by decide +kernel)]
  obtain rfl : h = den L xs kc33 := e.trans (den_nw kc32 9 0)
  refine ⟨⟨by decide, by decide, by decide⟩, ct_X8 (c := kc32) (N := 97) rfl (by decide +kernel) ⟨rfl, ?_⟩⟩
  rw [show den L xs (kc32 ++ b_X8 97) = den L xs kc34 from rfl]
  refine ⟨⟨((den_cl kc34 12).trans (by decide +kernel)), ⟨by decide, by rw [show ln (den L xs kc34) 76 = 10 from ((den_ln kc34 12).trans (by decide +kernel))]; decide⟩, ((den_cl kc34 33).trans (by decide +kernel))⟩, fun h e => ?_⟩
  obtain rfl : h = den L xs kc35 := e.trans (den_sr kc34 12 5 97 (by decide +kernel))
  rw [show w32 ((5 : Int) + 1) = 6 by decide]
  refine AX4_init_25 ⟨fun z => absurd z (by decide), fun _ => ⟨((den_cl kc35 11).trans (by decide +kernel)), ?_⟩⟩
  rw [show gr (den L xs kc35) 75 0 = 76 from (den_gr kc35 11 0).trans (by decide +kernel)]
  refine ⟨⟨by decide, by decide⟩, fun _ h e => ?_⟩
  rw [show nx (den L xs kc35) = 101 from (show 64 + kc35.length = 101 by decide +kernel)]
  obtain rfl : h = den L xs kc36 := e.trans (den_nw kc35 9 0)
  refine ⟨⟨by decide, by decide, by decide⟩, ct_X8 (c := kc35) (N := 101) rfl (by decide +kernel) ⟨rfl, ?_⟩⟩
  rw [show den L xs (kc35 ++ b_X8 101) = den L xs kc37 from rfl]
  refine ⟨⟨((den_cl kc37 12).trans (by decide +kernel)), ⟨by decide, by rw [show ln (den L xs kc37) 76 = 10 from ((den_ln kc37 12).trans (by decide +kernel))]; decide⟩, ((den_cl kc37 37).trans (by decide +kernel))⟩, fun h e => ?_⟩
  obtain rfl : h = den L xs kc38 := e.trans (den_sr kc37 12 6 101 (by decide +kernel))
  rw [show w32 ((6 : Int) + 1) = 7 by decide]
  refine AX4_init_25 ⟨fun z => absurd z (by decide), fun _ => ⟨((den_cl kc38 11).trans (by decide +kernel)), ?_⟩⟩
  rw [show gr (den L xs kc38) 75 0 = 76 from (den_gr kc38 11 0).trans (by decide +kernel)]
  refine ⟨⟨by decide, by decide⟩, fun _ h e => ?_⟩
  rw [show nx (den L xs kc38) = 105 from (show 64 + kc38.length = 105 by decide +kernel)]
  obtain rfl : h = den L xs kc39 := e.trans (den_nw kc38 9 0)
  refine ⟨⟨by decide, by decide, by decide⟩, ct_X8 (c := kc38) (N := 105) rfl (by decide +kernel) ⟨rfl, ?_⟩⟩
  rw [show den L xs (kc38 ++ b_X8 105) = den L xs kc40 from rfl]
  refine ⟨⟨((den_cl kc40 12).trans (by decide +kernel)), ⟨by decide, by rw [show ln (den L xs kc40) 76 = 10 from ((den_ln kc40 12).trans (by decide +kernel))]; decide⟩, ((den_cl kc40 41).trans (by decide +kernel))⟩, fun h e => ?_⟩
  obtain rfl : h = den L xs kc41 := e.trans (den_sr kc40 12 7 105 (by decide +kernel))
  rw [show w32 ((7 : Int) + 1) = 8 by decide]
  refine AX4_init_25 ⟨fun z => absurd z (by decide), fun _ => ⟨((den_cl kc41 11).trans (by decide +kernel)), ?_⟩⟩
  rw [show gr (den L xs kc41) 75 0 = 76 from (den_gr kc41 11 0).trans (by decide +kernel)]
  refine ⟨⟨by decide, by decide⟩, fun _ h e => ?_⟩
  rw [show nx (den L xs kc41) = 109 from (show 64 + kc41.length = 109 by decide +kernel)]
  obtain rfl : h = den L xs kc42 := e.trans (den_nw kc41 9 0)
  refine ⟨⟨by decide, by decide, by decide⟩, ct_X8 (c := kc41) (N := 109) rfl (by decide +kernel) ⟨rfl, ?_⟩⟩
  rw [show den L xs (kc41 ++ b_X8 109) = den L xs kc43 from rfl]
  refine ⟨⟨((den_cl kc43 12).trans (by decide +kernel)), ⟨by decide, by rw [show ln (den L xs kc43) 76 = 10 from ((den_ln kc43 12).trans (by decide +kernel))]; decide⟩, ((den_cl kc43 45).trans (by decide +kernel))⟩, fun h e => ?_⟩
  obtain rfl : h = den L xs kc44 := e.trans (den_sr kc43 12 8 109 (by decide +kernel))
  rw [show w32 ((8 : Int) + 1) = 9 by decide]
  refine AX4_init_25 ⟨fun z => absurd z (by decide), fun _ => ⟨((den_cl kc44 11).trans (by decide +kernel)), ?_⟩⟩
  rw [show gr (den L xs kc44) 75 0 = 76 from (den_gr kc44 11 0).trans (by decide +kernel)]
  refine ⟨⟨by decide, by decide⟩, fun _ h e => ?_⟩
  rw [show nx (den L xs kc44) = 113 from (show 64 + kc44.length = 113 by decide +kernel)]
  obtain rfl : h = den L xs kc45 := e.trans (den_nw kc44 9 0)
  refine ⟨⟨by decide, by decide, by decide⟩, ct_X8 (c := kc44) (N := 113) rfl (by decide +kernel) ⟨rfl, ?_⟩⟩
  rw [show den L xs (kc44 ++ b_X8 113) = den L xs kc46 from rfl]
  refine ⟨⟨((den_cl kc46 12).trans (by decide +kernel)), ⟨by decide, by rw [show ln (den L xs kc46) 76 = 10 from ((den_ln kc46 12).trans (by decide +kernel))]; decide⟩, ((den_cl kc46 49).trans (by decide +kernel))⟩, fun h e => ?_⟩
  obtain rfl : h = den L xs kc47 := e.trans (den_sr kc46 12 9 113 (by decide +kernel))
  rw [show w32 ((9 : Int) + 1) = 10 by decide]
  refine AX4_init_25 ⟨fun _ => ?_, fun z => absurd z (by decide)⟩
  refine ⟨rfl, ?_⟩
  refine ⟨((den_cl kc47 0).trans (by decide +kernel)), fun h e => ?_⟩
  obtain rfl : h = den L xs kc48 := e.trans (den_sr kc47 0 7 75 (by decide +kernel))
  refine ⟨⟨by decide, by decide⟩, fun _ h e => ?_⟩
  rw [show nx (den L xs kc48) = 117 from (show 64 + kc48.length = 117 by decide +kernel)]
  obtain rfl : h = den L xs kc49 := e.trans (den_nw kc48 20 2)
  refine ⟨((den_cl kc49 0).trans (by decide +kernel)), fun h e => ?_⟩
  obtain rfl : h = den L xs kc50 := e.trans (den_sr kc49 0 8 117 (by decide +kernel))
  refine ⟨⟨by decide, by decide⟩, fun _ h e => ?_⟩
  rw [show nx (den L xs kc50) = 118 from (show 64 + kc50.length = 118 by decide +kernel)]
  obtain rfl : h = den L xs kc51 := e.trans (den_nw kc50 25 2)
  refine ⟨((den_cl kc51 0).trans (by decide +kernel)), fun h e => ?_⟩
  obtain rfl : h = den L xs kc52 := e.trans (den_sr kc51 0 9 118 (by decide +kernel))
  refine ⟨((den_cl kc52 0).trans (by decide +kernel)), fun h e => ?_⟩
  obtain rfl : h = den L xs kc53 := e.trans (den_si kc52 0 12 0 (by decide +kernel))
  refine ⟨⟨by decide, by decide⟩, fun _ h e => ?_⟩
  rw [show nx (den L xs kc53) = 119 from (show 64 + kc53.length = 119 by decide +kernel)]
  obtain rfl : h = den L xs kc54 := e.trans (den_nw kc53 1 0)
  refine ⟨⟨by decide, by decide, by decide⟩, ?_⟩
  refine DX0_init (AX0_init_0 ⟨by decide, ?_⟩)
  refine ⟨⟨by decide, by decide⟩, fun _ h e => ?_⟩
  rw [show nx (den L xs kc54) = 120 from (show 64 + kc54.length = 120 by decide +kernel)]
  obtain rfl : h = den L xs kc55 := e.trans (den_nw kc54 20 30)
  refine ⟨((den_cl kc55 55).trans (by decide +kernel)), fun h e => ?_⟩
  obtain rfl : h = den L xs kc56 := e.trans (den_sr kc55 55 0 120 (by decide +kernel))
  refine ⟨⟨by decide, by decide⟩, fun _ h e => ?_⟩
  rw [show nx (den L xs kc56) = 121 from (show 64 + kc56.length = 121 by decide +kernel)]
  obtain rfl : h = den L xs kc57 := e.trans (den_nw kc56 20 31)
  refine ⟨((den_cl kc57 55).trans (by decide +kernel)), fun h e => ?_⟩
  obtain rfl : h = den L xs kc58 := e.trans (den_sr kc57 55 1 121 (by decide +kernel))
  refine ⟨⟨by decide, by decide⟩, fun _ h e => ?_⟩
  rw [show nx (den L xs kc58) = 122 from (show 64 + kc58.length = 122 by decide +kernel)]
  obtain rfl : h = den L xs kc59 := e.trans (den_nw kc58 22 31)
  refine ⟨((den_cl kc59 55).trans (by decide +kernel)), fun h e => ?_⟩
  obtain rfl : h = den L xs kc60 := e.trans (den_sr kc59 55 2 122 (by decide +kernel))
  refine ⟨((den_cl kc60 55).trans (by decide +kernel)), fun h e => ?_⟩
  obtain rfl : h = den L xs kc61 := e.trans (den_si kc60 55 3 0 (by decide +kernel))
  refine ⟨((den_cl kc61 55).trans (by decide +kernel)), fun h e => ?_⟩
  obtain rfl : h = den L xs kc61 := e.trans (den_sj0 kc61 119 4)
  refine ⟨rfl, ?_⟩
  refine ⟨((den_cl kc61 0).trans (by decide +kernel)), fun h e => ?_⟩
  obtain rfl : h = den L xs kc62 := e.trans (den_sr kc61 0 13 119 (by decide +kernel))
  refine ⟨⟨by decide, by decide⟩, fun _ h e => ?_⟩
  rw [show nx (den L xs kc62) = 123 from (show 64 + kc62.length = 123 by decide +kernel)]
  obtain rfl : h = den L xs kc63 := e.trans (den_nw kc62 10 0)
  refine ⟨⟨by decide, by decide, by decide⟩, ?_⟩
  refine DX9_init (AX9_init_0 ⟨by decide, ?_⟩)
  refine ⟨⟨by decide, by decide⟩, fun _ h e => ?_⟩
  rw [show nx (den L xs kc63) = 124 from (show 64 + kc63.length = 124 by decide +kernel)]
  obtain rfl : h = den L xs kc64 := e.trans (den_nw kc63 22 160)
  refine ⟨((den_cl kc64 59).trans (by decide +kernel)), fun h e => ?_⟩
  obtain rfl : h = den L xs kc65 := e.trans (den_sr kc64 59 0 124 (by decide +kernel))
  refine ⟨⟨by decide, by decide⟩, fun _ h e => ?_⟩
  rw [show nx (den L xs kc65) = 125 from (show 64 + kc65.length = 125 by decide +kernel)]
  obtain rfl : h = den L xs kc66 := e.trans (den_nw kc65 20 4)
  refine ⟨((den_cl kc66 59).trans (by decide +kernel)), fun h e => ?_⟩
  obtain rfl : h = den L xs kc67 := e.trans (den_sr kc66 59 1 125 (by decide +kernel))
  refine ⟨⟨by decide, by decide⟩, fun _ h e => ?_⟩
  rw [show nx (den L xs kc67) = 126 from (show 64 + kc67.length = 126 by decide +kernel)]
  obtain rfl : h = den L xs kc68 := e.trans (den_nw kc67 20 4)
  refine ⟨((den_cl kc68 59).trans (by decide +kernel)), fun h e => ?_⟩
  obtain rfl : h = den L xs kc69 := e.trans (den_sr kc68 59 2 126 (by decide +kernel))
  refine ⟨((den_cl kc69 59).trans (by decide +kernel)), ?_⟩
  rw [show gr (den L xs kc69) 123 2 = 126 from (den_gr kc69 59 2).trans (by decide +kernel)]
  refine T_fill (n := 4) ((den_cl kc69 62).trans (by decide +kernel)) ((den_ln kc69 62).trans (by decide +kernel)) (by decide) ⟨rfl, ?_⟩
  rw [show sis (den L xs kc69) 126 (-1) 4 = den L xs kc70 from den_sis kc69 62 (-1) (by decide +kernel) 4]
  refine ⟨rfl, ?_⟩
  refine ⟨((den_cl kc70 0).trans (by decide +kernel)), fun h e => ?_⟩
  obtain rfl : h = den L xs kc71 := e.trans (den_sr kc70 0 14 123 (by decide +kernel))
  refine ⟨⟨by decide, by decide⟩, fun _ h e => ?_⟩
  rw [show nx (den L xs kc71) = 127 from (show 64 + kc71.length = 127 by decide +kernel)]
  obtain rfl : h = den L xs kc72 := e.trans (den_nw kc71 2 0)
  refine ⟨⟨by decide, by decide, by decide⟩, ?_⟩
  refine DX1_init (AX1_init_0 ⟨by decide, ?_⟩)
  refine ⟨((den_cl kc72 63).trans (by decide +kernel)), fun h e => ?_⟩
  obtain rfl : h = den L xs kc73 := e.trans (den_si kc72 63 0 (-1) (by decide +kernel))
  refine ⟨((den_cl kc73 63).trans (by decide +kernel)), fun h e => ?_⟩
  obtain rfl : h = den L xs kc74 := e.trans (den_si kc73 63 1 (-1) (by decide +kernel))
  refine ⟨⟨by decide, by decide⟩, fun _ h e => ?_⟩
  rw [show nx (den L xs kc74) = 128 from (show 64 + kc74.length = 128 by decide +kernel)]
  obtain rfl : h = den L xs kc75 := e.trans (den_nw kc74 20 9)
  refine ⟨((den_cl kc75 63).trans (by decide +kernel)), fun h e => ?_⟩
  obtain rfl : h = den L xs kc76 := e.trans (den_sr kc75 63 2 128 (by decide +kernel))
  refine ⟨⟨by decide, by decide⟩, fun _ h e => ?_⟩
  rw [show nx (den L xs kc76) = 129 from (show 64 + kc76.length = 129 by decide +kernel)]
  obtain rfl : h = den L xs kc77 := e.trans (den_nw kc76 20 9)
  refine ⟨((den_cl kc77 63).trans (by decide +kernel)), fun h e => ?_⟩
  obtain rfl : h = den L xs kc78 := e.trans (den_sr kc77 63 3 129 (by decide +kernel))
  refine ⟨rfl, ?_⟩
  refine ⟨((den_cl kc78 0).trans (by decide +kernel)), fun h e => ?_⟩
  obtain rfl : h = den L xs kc79 := e.trans (den_sr kc78 0 15 127 (by decide +kernel))
  refine ⟨((den_cl kc79 0).trans (by decide +kernel)), fun h e => ?_⟩
  obtain rfl : h = den L xs kc80 := e.trans (den_si kc79 0 16 0 (by decide +kernel))
  refine ⟨((den_cl kc80 0).trans (by decide +kernel)), fun h e => ?_⟩
  obtain rfl : h = den L xs kc81 := e.trans (den_si kc80 0 17 0 (by decide +kernel))
  refine ⟨((den_cl kc81 0).trans (by decide +kernel)), fun h e => ?_⟩
  obtain rfl : h = den L xs kc82 := e.trans (den_si kc81 0 18 0 (by decide +kernel))
  refine AX10_init_134 ⟨((den_cl kc82 0).trans (by decide +kernel)), ?_⟩
  rw [show gr (den L xs kc82) 64 3 = 66 from (den_gr kc82 0 3).trans (by decide +kernel)]
  rw [show ln (den L xs kc82) 66 = 4 from ((den_ln kc82 2).trans (by decide +kernel))]
  refine ⟨⟨⟨by rw [show cl (den L xs kc82) 66 = 24 from ((den_cl kc82 2).trans (by decide +kernel))]; decide, by rw [show cl (den L xs kc82) 66 = 24 from ((den_cl kc82 2).trans (by decide +kernel))]; decide⟩, by decide⟩, fun z => absurd z (by decide), fun _ => ⟨((den_cl kc82 0).trans (by decide +kernel)), ?_⟩⟩
  refine ⟨⟨by decide, by decide⟩, fun _ h e => ?_⟩
  rw [show nx (den L xs kc82) = 130 from (show 64 + kc82.length = 130 by decide +kernel)]
  obtain rfl : h = den L xs kc83 := e.trans (den_nw kc82 4 0)
  refine ⟨⟨by decide, by decide, by decide⟩, ct_X3 (c := kc82) (N := 130) rfl (by decide +kernel) ⟨rfl, ?_⟩⟩
  rw [show den L xs (kc82 ++ b_X3 130) = den L xs kc84 from rfl]
  refine ⟨⟨((den_cl kc84 2).trans (by decide +kernel)), ⟨by decide, by rw [show ln (den L xs kc84) 66 = 4 from ((den_ln kc84 2).trans (by decide +kernel))]; decide⟩, ((den_cl kc84 66).trans (by decide +kernel))⟩, fun h e => ?_⟩
  obtain rfl : h = den L xs kc85 := e.trans (den_sr kc84 2 0 130 (by decide +kernel))
  rw [show w32 ((0 : Int) + 1) = 1 by decide]
  refine AX10_init_134 ⟨((den_cl kc85 0).trans (by decide +kernel)), ?_⟩
  rw [show gr (den L xs kc85) 64 3 = 66 from (den_gr kc85 0 3).trans (by decide +kernel)]
  rw [show ln (den L xs kc85) 66 = 4 from ((den_ln kc85 2).trans (by decide +kernel))]
  refine ⟨⟨⟨by rw [show cl (den L xs kc85) 66 = 24 from ((den_cl kc85 2).trans (by decide +kernel))]; decide, by rw [show cl (den L xs kc85) 66 = 24 from ((den_cl kc85 2).trans (by decide +kernel))]; decide⟩, by decide⟩, fun z => absurd z (by decide), fun _ => ⟨((den_cl kc85 0).trans (by decide +kernel)), ?_⟩⟩
  refine ⟨⟨by decide, by decide⟩, fun _ h e => ?_⟩
  rw [show nx (den L xs kc85) = 150 from (show 64 + kc85.length = 150 by decide +kernel)]
  obtain rfl : h = den L xs kc86 := e.trans (den_nw kc85 4 0)
  refine ⟨⟨by decide, by decide, by decide⟩, ct_X3 (c := kc85) (N := 150) rfl (by decide +kernel) ⟨rfl, ?_⟩⟩
  rw [show den L xs (kc85 ++ b_X3 150) = den L xs kc87 from rfl]
  refine ⟨⟨((den_cl kc87 2).trans (by decide +kernel)), ⟨by decide, by rw [show ln (den L xs kc87) 66 = 4 from ((den_ln kc87 2).trans (by decide +kernel))]; decide⟩, ((den_cl kc87 86).trans (by decide +kernel))⟩, fun h e => ?_⟩
  obtain rfl : h = den L xs kc88 := e.trans (den_sr kc87 2 1 150 (by decide +kernel))
  rw [show w32 ((1 : Int) + 1) = 2 by decide]
  refine AX10_init_134 ⟨((den_cl kc88 0).trans (by decide +kernel)), ?_⟩
  rw [show gr (den L xs kc88) 64 3 = 66 from (den_gr kc88 0 3).trans (by decide +kernel)]
  rw [show ln (den L xs kc88) 66 = 4 from ((den_ln kc88 2).trans (by decide +kernel))]
  refine ⟨⟨⟨by rw [show cl (den L xs kc88) 66 = 24 from ((den_cl kc88 2).trans (by decide +kernel))]; decide, by rw [show cl (den L xs kc88) 66 = 24 from ((den_cl kc88 2).trans (by decide +kernel))]; decide⟩, by decide⟩, fun z => absurd z (by decide), fun _ => ⟨((den_cl kc88 0).trans (by decide +kernel)), ?_⟩⟩
  refine ⟨⟨by decide, by decide⟩, fun _ h e => ?_⟩
  rw [show nx (den L xs kc88) = 170 from (show 64 + kc88.length = 170 by decide +kernel)]
  obtain rfl : h = den L xs kc89 := e.trans (den_nw kc88 4 0)
  refine ⟨⟨by decide, by decide, by decide⟩, ct_X3 (c := kc88) (N := 170) rfl (by decide +kernel) ⟨rfl, ?_⟩⟩
  rw [show den L xs (kc88 ++ b_X3 170) = den L xs kc90 from rfl]
  refine ⟨⟨((den_cl kc90 2).trans (by decide +kernel)), ⟨by decide, by rw [show ln (den L xs kc90) 66 = 4 from ((den_ln kc90 2).trans (by decide +kernel))]; decide⟩, ((den_cl kc90 106).trans (by decide +kernel))⟩, fun h e => ?_⟩
  obtain rfl : h = den L xs kc91 := e.trans (den_sr kc90 2 2 170 (by decide +kernel))
  rw [show w32 ((2 : Int) + 1) = 3 by decide]
  refine AX10_init_134 ⟨((den_cl kc91 0).trans (by decide +kernel)), ?_⟩
  rw [show gr (den L xs kc91) 64 3 = 66 from (den_gr kc91 0 3).trans (by decide +kernel)]
  rw [show ln (den L xs kc91) 66 = 4 from ((den_ln kc91 2).trans (by decide +kernel))]
  refine ⟨⟨⟨by rw [show cl (den L xs kc91) 66 = 24 from ((den_cl kc91 2).trans (by decide +kernel))]; decide, by rw [show cl (den L xs kc91) 66 = 24 from ((den_cl kc91 2).trans (by decide +kernel))]; decide⟩, by decide⟩, fun z => absurd z (by decide), fun _ => ⟨((den_cl kc91 0).trans (by decide +kernel)), ?_⟩⟩
  refine ⟨⟨by decide, by decide⟩, fun _ h e => ?_⟩
  rw [show nx (den L xs kc91) = 190 from (show 64 + kc91.length = 190 by decide +kernel)]
  obtain rfl : h = den L xs kc92 := e.trans (den_nw kc91 4 0)
  refine ⟨⟨by decide, by decide, by decide⟩, ct_X3 (c := kc91) (N := 190) rfl (by decide +kernel) ⟨rfl, ?_⟩⟩
  rw [show den L xs (kc91 ++ b_X3 190) = den L xs kc93 from rfl]
  refine ⟨⟨((den_cl kc93 2).trans (by decide +kernel)), ⟨by decide, by rw [show ln (den L xs kc93) 66 = 4 from ((den_ln kc93 2).trans (by decide +kernel))]; decide⟩, ((den_cl kc93 126).trans (by decide +kernel))⟩, fun h e => ?_⟩
  obtain rfl : h = den L xs kc94 := e.trans (den_sr kc93 2 3 190 (by decide +kernel))
  rw [show w32 ((3 : Int) + 1) = 4 by decide]
  refine AX10_init_134 ⟨((den_cl kc94 0).trans (by decide +kernel)), ?_⟩
  rw [show gr (den L xs kc94) 64 3 = 66 from (den_gr kc94 0 3).trans (by decide +kernel)]
  rw [show ln (den L xs kc94) 66 = 4 from ((den_ln kc94 2).trans (by decide +kernel))]
  refine ⟨⟨⟨by rw [show cl (den L xs kc94) 66 = 24 from ((den_cl kc94 2).trans (by decide +kernel))]; decide, by rw [show cl (den L xs kc94) 66 = 24 from ((den_cl kc94 2).trans (by decide +kernel))]; decide⟩, by decide⟩, fun _ => ?_, fun z => absurd z (by decide)⟩
  refine AX10_init_164 ⟨fun z => absurd z (by decide), fun _ => ⟨((den_cl kc94 0).trans (by decide +kernel)), ?_⟩⟩
  rw [show gr (den L xs kc94) 64 8 = 117 from (den_gr kc94 0 8).trans (by decide +kernel)]
  refine ⟨⟨((den_cl kc94 53).trans (by decide +kernel)), by decide, by rw [show ln (den L xs kc94) 117 = 2 from ((den_ln kc94 53).trans (by decide +kernel))]; decide⟩, fun h e => ?_⟩
  obtain rfl : h = den L xs kc95 := e.trans (den_si kc94 53 0 (-1) (by decide +kernel))
  refine ⟨((den_cl kc95 0).trans (by decide +kernel)), ?_⟩
  rw [show gr (den L xs kc95) 64 9 = 118 from (den_gr kc95 0 9).trans (by decide +kernel)]
  refine ⟨⟨by decide, by decide⟩, fun _ h e => ?_⟩
  rw [show nx (den L xs kc95) = 210 from (show 64 + kc95.length = 210 by decide +kernel)]
  obtain rfl : h = den L xs kc96 := e.trans (den_nw kc95 9 0)
  refine ⟨⟨by decide, by decide, by decide⟩, ct_X8 (c := kc95) (N := 210) rfl (by decide +kernel) ⟨rfl, ?_⟩⟩
  rw [show den L xs (kc95 ++ b_X8 210) = den L xs kc97 from rfl]
  refine ⟨⟨((den_cl kc97 54).trans (by decide +kernel)), ⟨by decide, by rw [show ln (den L xs kc97) 118 = 2 from ((den_ln kc97 54).trans (by decide +kernel))]; decide⟩, ((den_cl kc97 146).trans (by decide +kernel))⟩, fun h e => ?_⟩
  obtain rfl : h = den L xs kc98 := e.trans (den_sr kc97 54 0 210 (by decide +kernel))
  rw [show w32 ((0 : Int) + 1) = 1 by decide]
  refine AX10_init_164 ⟨fun z => absurd z (by decide), fun _ => ⟨((den_cl kc98 0).trans (by decide +kernel)), ?_⟩⟩
  rw [show gr (den L xs kc98) 64 8 = 117 from (den_gr kc98 0 8).trans (by decide +kernel)]
  refine ⟨⟨((den_cl kc98 53).trans (by decide +kernel)), by decide, by rw [show ln (den L xs kc98) 117 = 2 from ((den_ln kc98 53).trans (by decide +kernel))]; decide⟩, fun h e => ?_⟩
  obtain rfl : h = den L xs kc99 := e.trans (den_si kc98 53 1 (-1) (by decide +kernel))
  refine ⟨((den_cl kc99 0).trans (by decide +kernel)), ?_⟩
  rw [show gr (den L xs kc99) 64 9 = 118 from (den_gr kc99 0 9).trans (by decide +kernel)]
  refine ⟨⟨by decide, by decide⟩, fun _ h e => ?_⟩
  rw [show nx (den L xs kc99) = 214 from (show 64 + kc99.length = 214 by decide +kernel)]
  obtain rfl : h = den L xs kc100 := e.trans (den_nw kc99 9 0)
  refine ⟨⟨by decide, by decide, by decide⟩, ct_X8 (c := kc99) (N := 214) rfl (by decide +kernel) ⟨rfl, ?_⟩⟩
  rw [show den L xs (kc99 ++ b_X8 214) = den L xs kc101 from rfl]
  refine ⟨⟨((den_cl kc101 54).trans (by decide +kernel)), ⟨by decide, by rw [show ln (den L xs kc101) 118 = 2 from ((den_ln kc101 54).trans (by decide +kernel))]; decide⟩, ((den_cl kc101 150).trans (by decide +kernel))⟩, fun h e => ?_⟩
  obtain rfl : h = den L xs kc102 := e.trans (den_sr kc101 54 1 214 (by decide +kernel))
  rw [show w32 ((1 : Int) + 1) = 2 by decide]
  refine AX10_init_164 ⟨fun _ => ?_, fun z => absurd z (by decide)⟩
  refine ⟨⟨by decide, by decide⟩, fun _ h e => ?_⟩
  rw [show nx (den L xs kc102) = 218 from (show 64 + kc102.length = 218 by decide +kernel)]
  obtain rfl : h = den L xs kc103 := e.trans (den_nw kc102 6 0)
  refine ⟨((den_cl kc103 0).trans (by decide +kernel)), ((den_cl kc103 0).trans (by decide +kernel)), ?_⟩
  rw [show gr (den L xs kc103) 64 3 = 66 from (den_gr kc103 0 3).trans (by decide +kernel), show gr (den L xs kc103) 64 0 = 65 from (den_gr kc103 0 0).trans (by decide +kernel)]
  rw [show gr (den L xs kc103) 66 0 = 130 from (den_gr kc103 2 0).trans (by decide +kernel)]
  refine ⟨⟨((den_cl kc103 2).trans (by decide +kernel)), by decide, by rw [show ln (den L xs kc103) 66 = 4 from ((den_ln kc103 2).trans (by decide +kernel))]; decide⟩, ⟨by decide, by decide, by decide⟩, ?_⟩
  refine DX5_init (AX5_init_0 ⟨by decide, ?_⟩)
  refine ⟨((den_cl kc103 154).trans (by decide +kernel)), fun h e => ?_⟩
  obtain rfl : h = den L xs kc104 := e.trans (den_si kc103 154 1 0 (by decide +kernel))
  refine ⟨((den_cl kc104 154).trans (by decide +kernel)), fun h e => ?_⟩
  obtain rfl : h = den L xs kc105 := e.trans (den_si kc104 154 2 0 (by decide +kernel))
  refine ⟨((den_cl kc105 154).trans (by decide +kernel)), fun h e => ?_⟩
  obtain rfl : h = den L xs kc106 := e.trans (den_si kc105 154 3 0 (by decide +kernel))
  refine ⟨((den_cl kc106 154).trans (by decide +kernel)), fun h e => ?_⟩
  obtain rfl : h = den L xs kc107 := e.trans (den_si kc106 154 4 0 (by decide +kernel))
  refine ⟨((den_cl kc107 154).trans (by decide +kernel)), fun h e => ?_⟩
  obtain rfl : h = den L xs kc108 := e.trans (den_si kc107 154 5 0 (by decide +kernel))
  refine ⟨((den_cl kc108 154).trans (by decide +kernel)), fun h e => ?_⟩
  obtain rfl : h = den L xs kc109 := e.trans (den_si kc108 154 8 0 (by decide +kernel))
  refine ⟨((den_cl kc109 154).trans (by decide +kernel)), fun h e => ?_⟩
  obtain rfl : h = den L xs kc110 := e.trans (den_si kc109 154 9 (-1) (by decide +kernel))
  refine ⟨((den_cl kc110 154).trans (by decide +kernel)), fun h e => ?_⟩
  obtain rfl : h = den L xs kc111 := e.trans (den_sr kc110 154 0 65 (by decide +kernel))
  refine ⟨((den_cl kc111 154).trans (by decide +kernel)), fun h e => ?_⟩
  obtain rfl : h = den L xs kc112 := e.trans (den_sr kc111 154 6 130 (by decide +kernel))
  refine ⟨((den_cl kc112 66).trans (by decide +kernel)), ?_⟩
  rw [show gr (den L xs kc112) 130 13 = 140 from (den_gr kc112 66 13).trans (by decide +kernel)]
  refine ⟨((den_cl kc112 154).trans (by decide +kernel)), fun h e => ?_⟩
  obtain rfl : h = den L xs kc113 := e.trans (den_sr kc112 154 7 140 (by decide +kernel))
  refine ⟨rfl, ?_⟩
  refine ⟨((den_cl kc113 0).trans (by decide +kernel)), fun h e => ?_⟩
  obtain rfl : h = den L xs kc114 := e.trans (den_sr kc113 0 2 218 (by decide +kernel))
  refine ⟨⟨by decide, by decide⟩, fun _ h e => ?_⟩
  rw [show nx (den L xs kc114) = 219 from (show 64 + kc114.length = 219 by decide +kernel)]
  obtain rfl : h = den L xs kc115 := e.trans (den_nw kc114 7 0)
  refine ⟨((den_cl kc115 0).trans (by decide +kernel)), ?_⟩
  rw [show gr (den L xs kc115) 64 3 = 66 from (den_gr kc115 0 3).trans (by decide +kernel)]
  rw [show gr (den L xs kc115) 66 0 = 130 from (den_gr kc115 2 0).trans (by decide +kernel)]
  refine ⟨⟨((den_cl kc115 2).trans (by decide +kernel)), by decide, by rw [show ln (den L xs kc115) 66 = 4 from ((den_ln kc115 2).trans (by decide +kernel))]; decide⟩, ((den_cl kc115 0).trans (by decide +kernel)), ?_⟩
  rw [show gr (den L xs kc115) 64 5 = 67 from (den_gr kc115 0 5).trans (by decide +kernel)]
  refine ⟨⟨by decide, by decide, by decide⟩, ct_X6 (c := kc114) (N := 219) rfl (by decide +kernel) ⟨rfl, ?_⟩⟩
  rw [show den L xs (kc114 ++ b_X6 219 130 67) = den L xs kc116 from rfl]
  refine ⟨((den_cl kc116 0).trans (by decide +kernel)), fun h e => ?_⟩
  obtain rfl : h = den L xs kc117 := e.trans (den_sr kc116 0 10 219 (by decide +kernel))
  refine ⟨⟨by decide, by decide⟩, fun _ h e => ?_⟩
  rw [show nx (den L xs kc117) = 233 from (show 64 + kc117.length = 233 by decide +kernel)]
  obtain rfl : h = den L xs kc118 := e.trans (den_nw kc117 7 0)
  refine ⟨((den_cl kc118 0).trans (by decide +kernel)), ?_⟩
  rw [show gr (den L xs kc118) 64 3 = 66 from (den_gr kc118 0 3).trans (by decide +kernel)]
  rw [show gr (den L xs kc118) 66 0 = 130 from (den_gr kc118 2 0).trans (by decide +kernel)]
  refine ⟨⟨((den_cl kc118 2).trans (by decide +kernel)), by decide, by rw [show ln (den L xs kc118) 66 = 4 from ((den_ln kc118 2).trans (by decide +kernel))]; decide⟩, ((den_cl kc118 0).trans (by decide +kernel)), ?_⟩
  rw [show gr (den L xs kc118) 64 6 = 71 from (den_gr kc118 0 6).trans (by decide +kernel)]
  refine ⟨⟨by decide, by decide, by decide⟩, ct_X6 (c := kc117) (N := 233) rfl (by decide +kernel) ⟨rfl, ?_⟩⟩
  rw [show den L xs (kc117 ++ b_X6 233 130 71) = den L xs kc119 from rfl]
  refine ⟨((den_cl kc119 0).trans (by decide +kernel)), fun h e => ?_⟩
  obtain rfl : h = den L xs kc120 := e.trans (den_sr kc119 0 11 233 (by decide +kernel))
  exact hq
