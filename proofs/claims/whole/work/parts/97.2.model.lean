/-! THE CONSTRUCTORS: the model -/
def kc121 : List Ce := kc120 ++ [(12, 0, [], [])]
def kc122 : List Ce := kc121 ++ [(20, 3639, [], [])]
def kc123 : List Ce := pR kc122 183 1 248
def kc124 : List Ce := kc123 ++ [(23, 2, [], [])]
def kc125 : List Ce := pR kc124 183 2 249
def kc126 : List Ce := kc125 ++ [(20, 900, [], [])]
def kc127 : List Ce := pR kc126 183 3 250
def kc128 : List Ce := kc127 ++ [(20, 1213, [], [])]
def kc129 : List Ce := pR kc128 183 4 251
def kc130 : List Ce := pI kc129 183 14 (-1)
def kc131 : List Ce := kc130 ++ [(20, 900, [], [])]
def kc132 : List Ce := pR kc131 183 16 252
def kc133 : List Ce := kc132 ++ [(20, 6, [], [])]
def kc134 : List Ce := pR kc133 183 17 253
def kc135 : List Ce := kc134 ++ [(20, 6, [], [])]
def kc136 : List Ce := pR kc135 183 23 254
def kc137 : List Ce := kc136 ++ [(20, 140, [], [])]
def kc138 : List Ce := pR kc137 183 24 255
def kc139 : List Ce := kc138 ++ [(20, 140, [], [])]
def kc140 : List Ce := pR kc139 183 25 256
def kc141 : List Ce := kc140 ++ [(20, 140, [], [])]
def kc142 : List Ce := pR kc141 183 26 257
def kc143 : List Ce := kc142 ++ [(20, 140, [], [])]
def kc144 : List Ce := pR kc143 183 27 258
def kc145 : List Ce := kc144 ++ [(20, 30, [], [])]
def kc146 : List Ce := pR kc145 183 28 259
def kc147 : List Ce := kc146 ++ [(20, 30, [], [])]
def kc148 : List Ce := pR kc147 183 29 260
def kc149 : List Ce := kc148 ++ [(20, 30, [], [])]
def kc150 : List Ce := pR kc149 183 30 261
def kc151 : List Ce := kc150 ++ [(20, 6, [], [])]
def kc152 : List Ce := pR kc151 183 32 262
def kc153 : List Ce := kc152 ++ [(20, 6, [], [])]
def kc154 : List Ce := pR kc153 183 33 263
def kc155 : List Ce := kc154 ++ [(20, 366, [], [])]
def kc156 : List Ce := pR kc155 183 34 264
def kc157 : List Ce := kc156 ++ [(20, 20, [], [])]
def kc158 : List Ce := pR kc157 183 38 265
def kc159 : List Ce := kc158 ++ [(20, 30, [], [])]
def kc160 : List Ce := pR kc159 183 41 266
def kc161 : List Ce := kc160 ++ [(20, 31, [], [])]
def kc162 : List Ce := pR kc161 183 43 267
def kc163 : List Ce := kc162 ++ [(20, 31, [], [])]
def kc164 : List Ce := pR kc163 183 44 268
def kc165 : List Ce := kc164 ++ [(22, 31, [], [])]
def kc166 : List Ce := pR kc165 183 45 269
def kc167 : List Ce := kc166 ++ [(22, 31, [], [])]
def kc168 : List Ce := pR kc167 183 46 270
def kc169 : List Ce := kc168 ++ [(20, 30, [], [])]
def kc170 : List Ce := pR kc169 183 47 271
def kc171 : List Ce := kc170 ++ [(20, 30, [], [])]
def kc172 : List Ce := pR kc171 183 48 272
def kc173 : List Ce := kc172 ++ [(20, 10, [], [])]
def kc174 : List Ce := pR kc173 183 49 273
def kc175 : List Ce := pI kc174 183 52 (-1)
def kc176 : List Ce := kc175 ++ [(20, 9, [], [])]
def kc177 : List Ce := pR kc176 183 54 274
def kc178 : List Ce := kc177 ++ [(20, 9, [], [])]
def kc179 : List Ce := pR kc178 183 55 275
def kc180 : List Ce := kc179 ++ [(20, 4, [], [])]
def kc181 : List Ce := pI kc180 212 0 (-1)
def kc182 : List Ce := pI kc181 212 1 (-1)
def kc183 : List Ce := pI kc182 212 2 (-1)
def kc184 : List Ce := pI kc183 212 3 (-1)
def kc185 : List Ce := pR kc184 183 56 276
def kc186 : List Ce := kc185 ++ [(20, 4, [], [])]
def kc187 : List Ce := pR kc186 183 57 277
def kc188 : List Ce := kc187 ++ [(22, 160, [], [])]
def kc189 : List Ce := pR kc188 183 58 278
set_option maxRecDepth 100000 in
theorem ct_X11 {d : Nat} {Q : Option PV → PH → Prop} {L : Nat} {xs : Nat → Int32} (hq : Call d mX11_plain [vR 248] (den L xs kc189) (onV fun h => Q none h)) : CallA (d + 1) 31 8124 mX11_init [vR 247] (den L xs kc121) Q := by
  refine DX11_init (AX11_init_0 ⟨by decide, ?_⟩)
  refine ⟨⟨by decide, by decide⟩, fun _ h e => ?_⟩
  rw [show nx (den L xs kc121) = 248 from (show 64 + kc121.length = 248 by decide +kernel)]
  obtain rfl : h = den L xs kc122 := e.trans (den_nw kc121 20 3639)
  refine ⟨((den_cl kc122 183).trans (by decide +kernel)), fun h e => ?_⟩
  obtain rfl : h = den L xs kc123 := e.trans (den_sr kc122 183 1 248 (by decide +kernel))
  refine ⟨⟨by decide, by decide⟩, fun _ h e => ?_⟩
  rw [show nx (den L xs kc123) = 249 from (show 64 + kc123.length = 249 by decide +kernel)]
  obtain rfl : h = den L xs kc124 := e.trans (den_nw kc123 23 2)
  refine ⟨((den_cl kc124 183).trans (by decide +kernel)), fun h e => ?_⟩
  obtain rfl : h = den L xs kc125 := e.trans (den_sr kc124 183 2 249 (by decide +kernel))
  refine ⟨⟨by decide, by decide⟩, fun _ h e => ?_⟩
  rw [show nx (den L xs kc125) = 250 from (show 64 + kc125.length = 250 by decide +kernel)]
  obtain rfl : h = den L xs kc126 := e.trans (den_nw kc125 20 900)
  refine ⟨((den_cl kc126 183).trans (by decide +kernel)), fun h e => ?_⟩
  obtain rfl : h = den L xs kc127 := e.trans (den_sr kc126 183 3 250 (by decide +kernel))
  refine ⟨⟨by decide, by decide⟩, fun _ h e => ?_⟩
  rw [show nx (den L xs kc127) = 251 from (show 64 + kc127.length = 251 by decide +kernel)]
  obtain rfl : h = den L xs kc128 := e.trans (den_nw kc127 20 1213)
  refine ⟨((den_cl kc128 183).trans (by decide +kernel)), fun h e => ?_⟩
  obtain rfl : h = den L xs kc129 := e.trans (den_sr kc128 183 4 251 (by decide +kernel))
  refine ⟨((den_cl kc129 183).trans (by decide +kernel)), fun h e => ?_⟩
  obtain rfl : h = den L xs kc130 := e.trans (den_si kc129 183 14 (-1) (by decide +kernel))
  refine ⟨⟨by decide, by decide⟩, fun _ h e => ?_⟩
  rw [show nx (den L xs kc130) = 252 from (show 64 + kc130.length = 252 by decide +kernel)]
  obtain rfl : h = den L xs kc131 := e.trans (den_nw kc130 20 900)
  refine ⟨((den_cl kc131 183).trans (by decide +kernel)), fun h e => ?_⟩
  obtain rfl : h = den L xs kc132 := e.trans (den_sr kc131 183 16 252 (by decide +kernel))
  refine ⟨⟨by decide, by decide⟩, fun _ h e => ?_⟩
  rw [show nx (den L xs kc132) = 253 from (show 64 + kc132.length = 253 by decide +kernel)]
  obtain rfl : h = den L xs kc133 := e.trans (den_nw kc132 20 6)
  refine ⟨((den_cl kc133 183).trans (by decide +kernel)), fun h e => ?_⟩
  obtain rfl : h = den L xs kc134 := e.trans (den_sr kc133 183 17 253 (by decide +kernel))
  refine ⟨⟨by decide, by decide⟩, fun _ h e => ?_⟩
  rw [show nx (den L xs kc134) = 254 from (show 64 + kc134.length = 254 by decide +kernel)]
  obtain rfl : h = den L xs kc135 := e.trans (den_nw kc134 20 6)
  refine ⟨((den_cl kc135 183).trans (by decide +kernel)), fun h e => ?_⟩
  obtain rfl : h = den L xs kc136 := e.trans (den_sr kc135 183 23 254 (by decide +kernel))
  refine ⟨⟨by decide, by decide⟩, fun _ h e => ?_⟩
  rw [show nx (den L xs kc136) = 255 from (show 64 + kc136.length = 255 by decide +kernel)]
  obtain rfl : h = den L xs kc137 := e.trans (den_nw kc136 20 140)
  refine ⟨((den_cl kc137 183).trans (by decide +kernel)), fun h e => ?_⟩
  obtain rfl : h = den L xs kc138 := e.trans (den_sr kc137 183 24 255 (by decide +kernel))
  refine ⟨⟨by decide, by decide⟩, fun _ h e => ?_⟩
  rw [show nx (den L xs kc138) = 256 from (show 64 + kc138.length = 256 by decide +kernel)]
  obtain rfl : h = den L xs kc139 := e.trans (den_nw kc138 20 140)
  refine ⟨((den_cl kc139 183).trans (by decide +kernel)), fun h e => ?_⟩
  obtain rfl : h = den L xs kc140 := e.trans (den_sr kc139 183 25 256 (by decide +kernel))
  refine ⟨⟨by decide, by decide⟩, fun _ h e => ?_⟩
  rw [show nx (den L xs kc140) = 257 from (show 64 + kc140.length = 257 by decide +kernel)]
  obtain rfl : h = den L xs kc141 := e.trans (den_nw kc140 20 140)
  refine ⟨((den_cl kc141 183).trans (by decide +kernel)), fun h e => ?_⟩
  obtain rfl : h = den L xs kc142 := e.trans (den_sr kc141 183 26 257 (by decide +kernel))
  refine ⟨⟨by decide, by decide⟩, fun _ h e => ?_⟩
  rw [show nx (den L xs kc142) = 258 from (show 64 + kc142.length = 258 by decide +kernel)]
  obtain rfl : h = den L xs kc143 := e.trans (den_nw kc142 20 140)
  refine ⟨((den_cl kc143 183).trans (by decide +kernel)), fun h e => ?_⟩
  obtain rfl : h = den L xs kc144 := e.trans (den_sr kc143 183 27 258 (by decide +kernel))
  refine ⟨⟨by decide, by decide⟩, fun _ h e => ?_⟩
  rw [show nx (den L xs kc144) = 259 from (show 64 + kc144.length = 259 by decide +kernel)]
  obtain rfl : h = den L xs kc145 := e.trans (den_nw kc144 20 30)
  refine ⟨((den_cl kc145 183).trans (by decide +kernel)), fun h e => ?_⟩
  obtain rfl : h = den L xs kc146 := e.trans (den_sr kc145 183 28 259 (by decide +kernel))
  refine ⟨⟨by decide, by decide⟩, fun _ h e => ?_⟩
  rw [show nx (den L xs kc146) = 260 from (show 64 + kc146.length = 260 by decide +kernel)]
  obtain rfl : h = den L xs kc147 := e.trans (den_nw kc146 20 30)
  refine ⟨((den_cl kc147 183).trans (by decide +kernel)), fun h e => ?_⟩
  obtain rfl : h = den L xs kc148 := e.trans (den_sr kc147 183 29 260 (by decide +kernel))
  refine ⟨⟨by decide, by decide⟩, fun _ h e => ?_⟩
  rw [show nx (den L xs kc148) = 261 from (show 64 + kc148.length = 261 by decide +kernel)]
  obtain rfl : h = den L xs kc149 := e.trans (den_nw kc148 20 30)
  refine ⟨((den_cl kc149 183).trans (by decide +kernel)), fun h e => ?_⟩
  obtain rfl : h = den L xs kc150 := e.trans (den_sr kc149 183 30 261 (by decide +kernel))
  refine ⟨⟨by decide, by decide⟩, fun _ h e => ?_⟩
  rw [show nx (den L xs kc150) = 262 from (show 64 + kc150.length = 262 by decide +kernel)]
  obtain rfl : h = den L xs kc151 := e.trans (den_nw kc150 20 6)
  refine ⟨((den_cl kc151 183).trans (by decide +kernel)), fun h e => ?_⟩
  obtain rfl : h = den L xs kc152 := e.trans (den_sr kc151 183 32 262 (by decide +kernel))
  refine ⟨⟨by decide, by decide⟩, fun _ h e => ?_⟩
  rw [show nx (den L xs kc152) = 263 from (show 64 + kc152.length = 263 by decide +kernel)]
  obtain rfl : h = den L xs kc153 := e.trans (den_nw kc152 20 6)
  refine ⟨((den_cl kc153 183).trans (by decide +kernel)), fun h e => ?_⟩
  obtain rfl : h = den L xs kc154 := e.trans (den_sr kc153 183 33 263 (by decide +kernel))
  refine ⟨⟨by decide, by decide⟩, fun _ h e => ?_⟩
  rw [show nx (den L xs kc154) = 264 from (show 64 + kc154.length = 264 by decide +kernel)]
  obtain rfl : h = den L xs kc155 := e.trans (den_nw kc154 20 366)
  refine ⟨((den_cl kc155 183).trans (by decide +kernel)), fun h e => ?_⟩
  obtain rfl : h = den L xs kc156 := e.trans (den_sr kc155 183 34 264 (by decide +kernel))
  refine ⟨⟨by decide, by decide⟩, fun _ h e => ?_⟩
  rw [show nx (den L xs kc156) = 265 from (show 64 + kc156.length = 265 by decide +kernel)]
  obtain rfl : h = den L xs kc157 := e.trans (den_nw kc156 20 20)
  refine ⟨((den_cl kc157 183).trans (by decide +kernel)), fun h e => ?_⟩
  obtain rfl : h = den L xs kc158 := e.trans (den_sr kc157 183 38 265 (by decide +kernel))
  refine ⟨⟨by decide, by decide⟩, fun _ h e => ?_⟩
  rw [show nx (den L xs kc158) = 266 from (show 64 + kc158.length = 266 by decide +kernel)]
  obtain rfl : h = den L xs kc159 := e.trans (den_nw kc158 20 30)
  refine ⟨((den_cl kc159 183).trans (by decide +kernel)), fun h e => ?_⟩
  obtain rfl : h = den L xs kc160 := e.trans (den_sr kc159 183 41 266 (by decide +kernel))
  refine ⟨⟨by decide, by decide⟩, fun _ h e => ?_⟩
  rw [show nx (den L xs kc160) = 267 from (show 64 + kc160.length = 267 by decide +kernel)]
  obtain rfl : h = den L xs kc161 := e.trans (den_nw kc160 20 31)
  refine ⟨((den_cl kc161 183).trans (by decide +kernel)), fun h e => ?_⟩
  obtain rfl : h = den L xs kc162 := e.trans (den_sr kc161 183 43 267 (by decide +kernel))
  refine ⟨⟨by decide, by decide⟩, fun _ h e => ?_⟩
  rw [show nx (den L xs kc162) = 268 from (show 64 + kc162.length = 268 by decide +kernel)]
  obtain rfl : h = den L xs kc163 := e.trans (den_nw kc162 20 31)
  refine ⟨((den_cl kc163 183).trans (by decide +kernel)), fun h e => ?_⟩
  obtain rfl : h = den L xs kc164 := e.trans (den_sr kc163 183 44 268 (by decide +kernel))
  refine ⟨⟨by decide, by decide⟩, fun _ h e => ?_⟩
  rw [show nx (den L xs kc164) = 269 from (show 64 + kc164.length = 269 by decide +kernel)]
  obtain rfl : h = den L xs kc165 := e.trans (den_nw kc164 22 31)
  refine ⟨((den_cl kc165 183).trans (by decide +kernel)), fun h e => ?_⟩
  obtain rfl : h = den L xs kc166 := e.trans (den_sr kc165 183 45 269 (by decide +kernel))
  refine ⟨⟨by decide, by decide⟩, fun _ h e => ?_⟩
  rw [show nx (den L xs kc166) = 270 from (show 64 + kc166.length = 270 by decide +kernel)]
  obtain rfl : h = den L xs kc167 := e.trans (den_nw kc166 22 31)
  refine ⟨((den_cl kc167 183).trans (by decide +kernel)), fun h e => ?_⟩
  obtain rfl : h = den L xs kc168 := e.trans (den_sr kc167 183 46 270 (by decide +kernel))
  refine ⟨⟨by decide, by decide⟩, fun _ h e => ?_⟩
  rw [show nx (den L xs kc168) = 271 from (show 64 + kc168.length = 271 by decide +kernel)]
  obtain rfl : h = den L xs kc169 := e.trans (den_nw kc168 20 30)
  refine ⟨((den_cl kc169 183).trans (by decide +kernel)), fun h e => ?_⟩
  obtain rfl : h = den L xs kc170 := e.trans (den_sr kc169 183 47 271 (by decide +kernel))
  refine ⟨⟨by decide, by decide⟩, fun _ h e => ?_⟩
  rw [show nx (den L xs kc170) = 272 from (show 64 + kc170.length = 272 by decide +kernel)]
  obtain rfl : h = den L xs kc171 := e.trans (den_nw kc170 20 30)
  refine ⟨((den_cl kc171 183).trans (by decide +kernel)), fun h e => ?_⟩
  obtain rfl : h = den L xs kc172 := e.trans (den_sr kc171 183 48 272 (by decide +kernel))
  refine ⟨⟨by decide, by decide⟩, fun _ h e => ?_⟩
  rw [show nx (den L xs kc172) = 273 from (show 64 + kc172.length = 273 by decide +kernel)]
  obtain rfl : h = den L xs kc173 := e.trans (den_nw kc172 20 10)
  refine ⟨((den_cl kc173 183).trans (by decide +kernel)), fun h e => ?_⟩
  obtain rfl : h = den L xs kc174 := e.trans (den_sr kc173 183 49 273 (by decide +kernel))
  refine ⟨((den_cl kc174 183).trans (by decide +kernel)), fun h e => ?_⟩
  obtain rfl : h = den L xs kc175 := e.trans (den_si kc174 183 52 (-1) (by decide +kernel))
  refine ⟨⟨by decide, by decide⟩, fun _ h e => ?_⟩
  rw [show nx (den L xs kc175) = 274 from (show 64 + kc175.length = 274 by decide +kernel)]
  obtain rfl : h = den L xs kc176 := e.trans (den_nw kc175 20 9)
  refine ⟨((den_cl kc176 183).trans (by decide +kernel)), fun h e => ?_⟩
  obtain rfl : h = den L xs kc177 := e.trans (den_sr kc176 183 54 274 (by decide +kernel))
  refine ⟨⟨by decide, by decide⟩, fun _ h e => ?_⟩
  rw [show nx (den L xs kc177) = 275 from (show 64 + kc177.length = 275 by decide +kernel)]
  obtain rfl : h = den L xs kc178 := e.trans (den_nw kc177 20 9)
  refine ⟨((den_cl kc178 183).trans (by decide +kernel)), fun h e => ?_⟩
  obtain rfl : h = den L xs kc179 := e.trans (den_sr kc178 183 55 275 (by decide +kernel))
  refine ⟨⟨by decide, by decide⟩, fun _ h e => ?_⟩
  rw [show nx (den L xs kc179) = 276 from (show 64 + kc179.length = 276 by decide +kernel)]
  obtain rfl : h = den L xs kc180 := e.trans (den_nw kc179 20 4)
  refine ⟨⟨((den_cl kc180 212).trans (by decide +kernel)), by decide, by rw [show ln (den L xs kc180) 276 = 4 from ((den_ln kc180 212).trans (by decide +kernel))]; decide⟩, fun h e => ?_⟩
  obtain rfl : h = den L xs kc181 := e.trans (den_si kc180 212 0 (-1) (by decide +kernel))
  refine ⟨⟨((den_cl kc181 212).trans (by decide +kernel)), by decide, by rw [show ln (den L xs kc181) 276 = 4 from ((den_ln kc181 212).trans (by decide +kernel))]; decide⟩, fun h e => ?_⟩
  obtain rfl : h = den L xs kc182 := e.trans (den_si kc181 212 1 (-1) (by decide +kernel))
  refine ⟨⟨((den_cl kc182 212).trans (by decide +kernel)), by decide, by rw [show ln (den L xs kc182) 276 = 4 from ((den_ln kc182 212).trans (by decide +kernel))]; decide⟩, fun h e => ?_⟩
  obtain rfl : h = den L xs kc183 := e.trans (den_si kc182 212 2 (-1) (by decide +kernel))
  refine ⟨⟨((den_cl kc183 212).trans (by decide +kernel)), by decide, by rw [show ln (den L xs kc183) 276 = 4 from ((den_ln kc183 212).trans (by decide +kernel))]; decide⟩, fun h e => ?_⟩
  obtain rfl : h = den L xs kc184 := e.trans (den_si kc183 212 3 (-1) (by decide +kernel))
  refine ⟨((den_cl kc184 183).trans (by decide +kernel)), fun h e => ?_⟩
  obtain rfl : h = den L xs kc185 := e.trans (den_sr kc184 183 56 276 (by decide +kernel))
  refine ⟨⟨by decide, by decide⟩, fun _ h e => ?_⟩
  rw [show nx (den L xs kc185) = 277 from (show 64 + kc185.length = 277 by decide +kernel)]
  obtain rfl : h = den L xs kc186 := e.trans (den_nw kc185 20 4)
  refine ⟨((den_cl kc186 183).trans (by decide +kernel)), fun h e => ?_⟩
  obtain rfl : h = den L xs kc187 := e.trans (den_sr kc186 183 57 277 (by decide +kernel))
  refine ⟨⟨by decide, by decide⟩, fun _ h e => ?_⟩
  rw [show nx (den L xs kc187) = 278 from (show 64 + kc187.length = 278 by decide +kernel)]
  obtain rfl : h = den L xs kc188 := e.trans (den_nw kc187 22 160)
  refine ⟨((den_cl kc188 183).trans (by decide +kernel)), fun h e => ?_⟩
  obtain rfl : h = den L xs kc189 := e.trans (den_sr kc188 183 58 278 (by decide +kernel))
  refine ⟨((den_cl kc189 183).trans (by decide +kernel)), ?_⟩
  rw [show gr (den L xs kc189) 247 1 = 248 from (den_gr kc189 183 1).trans (by decide +kernel)]
  exact hq
