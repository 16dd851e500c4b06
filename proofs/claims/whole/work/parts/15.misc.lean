/-! METHODS: their code, tables, words -/
def mChk (M : MD) (n i1 i2 : Nat) : Bool := decide (tables_1[i1]? = some (Cond.code M.1 M.2.1 M.2.2.1 M.2.2.2)) && decide (tables_1[i2]? = some (Cond.initialized M.1.cls)) && decide (M.1.cls ≠ "java/lang/invoke/MethodHandle" ∧ M.1.cls ≠ "java/lang/invoke/VarHandle") && decide ((parseMethodDescriptor M.1.desc).map (fun d => d.parameters.length) = some n) && decide (M.2.2.1 ≤ 45) && goodWord (Cond.code M.1 M.2.1 M.2.2.1 M.2.2.2) && goodWord (Cond.initialized M.1.cls)
theorem mChk_ok {M : MD} {n i1 i2 : Nat} (h : mChk M n i1 i2 = true) : MOK M n := by
  simp only [mChk, Bool.and_eq_true, decide_eq_true_eq] at h
  obtain ⟨⟨⟨⟨⟨⟨h1, h2⟩, h3⟩, h4⟩, h5⟩, h6⟩, h7⟩ := h
  exact ⟨gT_at i1 h1 h6, gT_at i2 h2 h7, h3, h4, h5⟩
def iChk (M : MD) (i3 i4 : Nat) : Bool := decide (tables_1[i3]? = some (Cond.instanceMethod M.1)) && decide (tables_1[i4]? = some (Cond.selects M.1.cls M.1 M.1)) && goodWord (Cond.instanceMethod M.1) && goodWord (Cond.selects M.1.cls M.1 M.1)
theorem iChk_ok {M : MD} {i3 i4 : Nat} (h : iChk M i3 i4 = true) : IOK M := by
  simp only [iChk, Bool.and_eq_true, decide_eq_true_eq] at h
  obtain ⟨⟨⟨h1, h2⟩, h3⟩, h4⟩ := h
  exact ⟨gT_at i3 h1 h3, gT_at i4 h2 h4⟩
def pChk (M : MD) (i3 i4 : Nat) : Bool := decide (tables_1[i3]? = some (Cond.instanceMethod M.1)) && decide ((lw_privs[i4]?).map (fun q => q.1) = some M.1) && goodWord (Cond.instanceMethod M.1) && goodWord (Cond.selects M.1.cls M.1 M.1)
theorem pChk_ok {M : MD} {i3 i4 : Nat} (h : pChk M i3 i4 = true) : IOK M := by
  simp only [pChk, Bool.and_eq_true, decide_eq_true_eq] at h
  obtain ⟨⟨⟨h1, h2⟩, h3⟩, h4⟩ := h
  refine ⟨gT_at i3 h1 h3, List.mem_filter.mpr ⟨List.mem_append_left _ ?_, h4⟩⟩
  cases hq : lw_privs[i4]? with
  | none => rw [hq] at h2; cases h2
  | some q =>
    rw [hq] at h2
    have h5 : q.1 = M.1 := Option.some.inj h2
    refine List.mem_map.mpr ⟨q, List.mem_of_getElem? hq, ?_⟩
    rw [h5]
theorem r32 {x : Int} (h : (decide (-2147483648 ≤ x) && decide (x < 2147483648)) = true) : R32 x := by
  simp only [Bool.and_eq_true, decide_eq_true_eq] at h; exact h
theorem r64 {x : Int} (h : (decide (-9223372036854775808 ≤ x) && decide (x < 9223372036854775808)) = true) : R64 x := by
  simp only [Bool.and_eq_true, decide_eq_true_eq] at h; exact h
theorem LNf_lt (q : Nat) : LNf q < 10000 := by
  unfold LNf
  split
  · omega
  · rw [List.getD_eq_getElem?_getD]
    cases hq : LNl[q - 64]? with
    | none => simp
    | some v =>
      have := List.all_eq_true.mp (show LNl.all (fun v => decide (v < 10000)) = true by decide +kernel) v (List.mem_of_getElem? hq)
      simpa using this
theorem pgs {i : Int} (h0 : 0 ≤ i) (h1 : i < 4) : CLf (130 + 20 * i.toNat) = 4 := by
  have : i.toNat < 4 := by omega
  generalize i.toNat = n at this
  match n, this with
  | 0, _ => rfl
  | 1, _ => rfl
  | 2, _ => rfl
  | 3, _ => rfl
theorem rgs {i : Int} (h0 : 0 ≤ i) (h1 : i < 10) : CLf (77 + 4 * i.toNat) = 9 := by
  have : i.toNat < 10 := by omega
  generalize i.toNat = n at this
  match n, this with
  | 0, _ => rfl
  | 1, _ => rfl
  | 2, _ => rfl
  | 3, _ => rfl
  | 4, _ => rfl
  | 5, _ => rfl
  | 6, _ => rfl
  | 7, _ => rfl
  | 8, _ => rfl
  | 9, _ => rfl
theorem igs {i : Int} (h0 : 0 ≤ i) (h1 : i < 2) : CLf (210 + 4 * i.toNat) = 9 := by
  have : i.toNat < 2 := by omega
  generalize i.toNat = n at this
  match n, this with
  | 0, _ => rfl
  | 1, _ => rfl
theorem cL_64 : CLf 64 = 11 := rfl
theorem cL_65 : CLf 65 = 21 := rfl
theorem cL_66 : CLf 66 = 24 := rfl
theorem cL_67 : CLf 67 = 9 := rfl
theorem cL_68 : CLf 68 = 20 := rfl
theorem cL_69 : CLf 69 = 20 := rfl
theorem cL_70 : CLf 70 = 20 := rfl
theorem cL_71 : CLf 71 = 9 := rfl
theorem cL_72 : CLf 72 = 20 := rfl
theorem cL_73 : CLf 73 = 20 := rfl
theorem cL_74 : CLf 74 = 20 := rfl
theorem cL_75 : CLf 75 = 5 := rfl
theorem cL_76 : CLf 76 = 25 := rfl
theorem cL_77 : CLf 77 = 9 := rfl
theorem cL_78 : CLf 78 = 20 := rfl
theorem cL_79 : CLf 79 = 20 := rfl
theorem cL_80 : CLf 80 = 20 := rfl
theorem cL_81 : CLf 81 = 9 := rfl
theorem cL_82 : CLf 82 = 20 := rfl
theorem cL_83 : CLf 83 = 20 := rfl
theorem cL_84 : CLf 84 = 20 := rfl
theorem cL_85 : CLf 85 = 9 := rfl
theorem cL_86 : CLf 86 = 20 := rfl
theorem cL_87 : CLf 87 = 20 := rfl
theorem cL_88 : CLf 88 = 20 := rfl
theorem cL_89 : CLf 89 = 9 := rfl
theorem cL_90 : CLf 90 = 20 := rfl
theorem cL_91 : CLf 91 = 20 := rfl
theorem cL_92 : CLf 92 = 20 := rfl
theorem cL_93 : CLf 93 = 9 := rfl
theorem cL_94 : CLf 94 = 20 := rfl
theorem cL_95 : CLf 95 = 20 := rfl
theorem cL_96 : CLf 96 = 20 := rfl
theorem cL_97 : CLf 97 = 9 := rfl
theorem cL_98 : CLf 98 = 20 := rfl
theorem cL_99 : CLf 99 = 20 := rfl
theorem cL_100 : CLf 100 = 20 := rfl
theorem cL_101 : CLf 101 = 9 := rfl
theorem cL_102 : CLf 102 = 20 := rfl
theorem cL_103 : CLf 103 = 20 := rfl
theorem cL_104 : CLf 104 = 20 := rfl
theorem cL_105 : CLf 105 = 9 := rfl
theorem cL_106 : CLf 106 = 20 := rfl
theorem cL_107 : CLf 107 = 20 := rfl
theorem cL_108 : CLf 108 = 20 := rfl
theorem cL_109 : CLf 109 = 9 := rfl
theorem cL_110 : CLf 110 = 20 := rfl
theorem cL_111 : CLf 111 = 20 := rfl
theorem cL_112 : CLf 112 = 20 := rfl
theorem cL_113 : CLf 113 = 9 := rfl
theorem cL_114 : CLf 114 = 20 := rfl
theorem cL_115 : CLf 115 = 20 := rfl
theorem cL_116 : CLf 116 = 20 := rfl
theorem cL_117 : CLf 117 = 20 := rfl
theorem cL_118 : CLf 118 = 25 := rfl
theorem cL_119 : CLf 119 = 1 := rfl
theorem cL_120 : CLf 120 = 20 := rfl
theorem cL_121 : CLf 121 = 20 := rfl
theorem cL_122 : CLf 122 = 22 := rfl
theorem cL_123 : CLf 123 = 10 := rfl
theorem cL_124 : CLf 124 = 22 := rfl
theorem cL_125 : CLf 125 = 20 := rfl
theorem cL_126 : CLf 126 = 20 := rfl
theorem cL_127 : CLf 127 = 2 := rfl
theorem cL_128 : CLf 128 = 20 := rfl
theorem cL_129 : CLf 129 = 20 := rfl
theorem cL_130 : CLf 130 = 4 := rfl
theorem cL_131 : CLf 131 = 20 := rfl
theorem cL_132 : CLf 132 = 20 := rfl
theorem cL_133 : CLf 133 = 20 := rfl
theorem cL_134 : CLf 134 = 20 := rfl
theorem cL_135 : CLf 135 = 20 := rfl
theorem cL_136 : CLf 136 = 9 := rfl
theorem cL_137 : CLf 137 = 20 := rfl
theorem cL_138 : CLf 138 = 20 := rfl
theorem cL_139 : CLf 139 = 20 := rfl
theorem cL_140 : CLf 140 = 3 := rfl
theorem cL_141 : CLf 141 = 20 := rfl
theorem cL_142 : CLf 142 = 20 := rfl
theorem cL_143 : CLf 143 = 20 := rfl
theorem cL_144 : CLf 144 = 3 := rfl
theorem cL_145 : CLf 145 = 20 := rfl
theorem cL_146 : CLf 146 = 20 := rfl
theorem cL_147 : CLf 147 = 20 := rfl
theorem cL_148 : CLf 148 = 20 := rfl
theorem cL_149 : CLf 149 = 20 := rfl
theorem cL_150 : CLf 150 = 4 := rfl
theorem cL_151 : CLf 151 = 20 := rfl
theorem cL_152 : CLf 152 = 20 := rfl
theorem cL_153 : CLf 153 = 20 := rfl
theorem cL_154 : CLf 154 = 20 := rfl
theorem cL_155 : CLf 155 = 20 := rfl
theorem cL_156 : CLf 156 = 9 := rfl
theorem cL_157 : CLf 157 = 20 := rfl
theorem cL_158 : CLf 158 = 20 := rfl
theorem cL_159 : CLf 159 = 20 := rfl
theorem cL_160 : CLf 160 = 3 := rfl
theorem cL_161 : CLf 161 = 20 := rfl
theorem cL_162 : CLf 162 = 20 := rfl
theorem cL_163 : CLf 163 = 20 := rfl
theorem cL_164 : CLf 164 = 3 := rfl
theorem cL_165 : CLf 165 = 20 := rfl
theorem cL_166 : CLf 166 = 20 := rfl
theorem cL_167 : CLf 167 = 20 := rfl
theorem cL_168 : CLf 168 = 20 := rfl
theorem cL_169 : CLf 169 = 20 := rfl
theorem cL_170 : CLf 170 = 4 := rfl
theorem cL_171 : CLf 171 = 20 := rfl
theorem cL_172 : CLf 172 = 20 := rfl
theorem cL_173 : CLf 173 = 20 := rfl
theorem cL_174 : CLf 174 = 20 := rfl
theorem cL_175 : CLf 175 = 20 := rfl
theorem cL_176 : CLf 176 = 9 := rfl
theorem cL_177 : CLf 177 = 20 := rfl
theorem cL_178 : CLf 178 = 20 := rfl
theorem cL_179 : CLf 179 = 20 := rfl
theorem cL_180 : CLf 180 = 3 := rfl
theorem cL_181 : CLf 181 = 20 := rfl
theorem cL_182 : CLf 182 = 20 := rfl
theorem cL_183 : CLf 183 = 20 := rfl
theorem cL_184 : CLf 184 = 3 := rfl
theorem cL_185 : CLf 185 = 20 := rfl
theorem cL_186 : CLf 186 = 20 := rfl
theorem cL_187 : CLf 187 = 20 := rfl
theorem cL_188 : CLf 188 = 20 := rfl
theorem cL_189 : CLf 189 = 20 := rfl
theorem cL_190 : CLf 190 = 4 := rfl
theorem cL_191 : CLf 191 = 20 := rfl
theorem cL_192 : CLf 192 = 20 := rfl
theorem cL_193 : CLf 193 = 20 := rfl
theorem cL_194 : CLf 194 = 20 := rfl
theorem cL_195 : CLf 195 = 20 := rfl
theorem cL_196 : CLf 196 = 9 := rfl
theorem cL_197 : CLf 197 = 20 := rfl
theorem cL_198 : CLf 198 = 20 := rfl
theorem cL_199 : CLf 199 = 20 := rfl
theorem cL_200 : CLf 200 = 3 := rfl
theorem cL_201 : CLf 201 = 20 := rfl
theorem cL_202 : CLf 202 = 20 := rfl
theorem cL_203 : CLf 203 = 20 := rfl
theorem cL_204 : CLf 204 = 3 := rfl
theorem cL_205 : CLf 205 = 20 := rfl
theorem cL_206 : CLf 206 = 20 := rfl
theorem cL_207 : CLf 207 = 20 := rfl
theorem cL_208 : CLf 208 = 20 := rfl
theorem cL_209 : CLf 209 = 20 := rfl
theorem cL_210 : CLf 210 = 9 := rfl
theorem cL_211 : CLf 211 = 20 := rfl
theorem cL_212 : CLf 212 = 20 := rfl
theorem cL_213 : CLf 213 = 20 := rfl
theorem cL_214 : CLf 214 = 9 := rfl
theorem cL_215 : CLf 215 = 20 := rfl
theorem cL_216 : CLf 216 = 20 := rfl
theorem cL_217 : CLf 217 = 20 := rfl
theorem cL_218 : CLf 218 = 6 := rfl
theorem cL_219 : CLf 219 = 7 := rfl
theorem cL_220 : CLf 220 = 8 := rfl
theorem cL_221 : CLf 221 = 20 := rfl
theorem cL_222 : CLf 222 = 20 := rfl
theorem cL_223 : CLf 223 = 20 := rfl
theorem cL_224 : CLf 224 = 20 := rfl
theorem cL_225 : CLf 225 = 20 := rfl
theorem cL_226 : CLf 226 = 20 := rfl
theorem cL_227 : CLf 227 = 20 := rfl
theorem cL_228 : CLf 228 = 20 := rfl
theorem cL_229 : CLf 229 = 20 := rfl
theorem cL_230 : CLf 230 = 20 := rfl
theorem cL_231 : CLf 231 = 20 := rfl
theorem cL_232 : CLf 232 = 20 := rfl
theorem cL_233 : CLf 233 = 7 := rfl
theorem cL_234 : CLf 234 = 8 := rfl
theorem cL_235 : CLf 235 = 20 := rfl
theorem cL_236 : CLf 236 = 20 := rfl
theorem cL_237 : CLf 237 = 20 := rfl
theorem cL_238 : CLf 238 = 20 := rfl
theorem cL_239 : CLf 239 = 20 := rfl
theorem cL_240 : CLf 240 = 20 := rfl
theorem cL_241 : CLf 241 = 20 := rfl
theorem cL_242 : CLf 242 = 20 := rfl
theorem cL_243 : CLf 243 = 20 := rfl
theorem cL_244 : CLf 244 = 20 := rfl
theorem cL_245 : CLf 245 = 20 := rfl
theorem cL_246 : CLf 246 = 20 := rfl
theorem cL_247 : CLf 247 = 12 := rfl
theorem cL_248 : CLf 248 = 20 := rfl
theorem cL_249 : CLf 249 = 23 := rfl
theorem cL_250 : CLf 250 = 20 := rfl
theorem cL_251 : CLf 251 = 20 := rfl
theorem cL_252 : CLf 252 = 20 := rfl
theorem cL_253 : CLf 253 = 20 := rfl
theorem cL_254 : CLf 254 = 20 := rfl
theorem cL_255 : CLf 255 = 20 := rfl
theorem cL_256 : CLf 256 = 20 := rfl
theorem cL_257 : CLf 257 = 20 := rfl
theorem cL_258 : CLf 258 = 20 := rfl
theorem cL_259 : CLf 259 = 20 := rfl
theorem cL_260 : CLf 260 = 20 := rfl
theorem cL_261 : CLf 261 = 20 := rfl
theorem cL_262 : CLf 262 = 20 := rfl
theorem cL_263 : CLf 263 = 20 := rfl
theorem cL_264 : CLf 264 = 20 := rfl
theorem cL_265 : CLf 265 = 20 := rfl
theorem cL_266 : CLf 266 = 20 := rfl
theorem cL_267 : CLf 267 = 20 := rfl
theorem cL_268 : CLf 268 = 20 := rfl
theorem cL_269 : CLf 269 = 22 := rfl
theorem cL_270 : CLf 270 = 22 := rfl
theorem cL_271 : CLf 271 = 20 := rfl
theorem cL_272 : CLf 272 = 20 := rfl
theorem cL_273 : CLf 273 = 20 := rfl
theorem cL_274 : CLf 274 = 20 := rfl
theorem cL_275 : CLf 275 = 20 := rfl
theorem cL_276 : CLf 276 = 20 := rfl
theorem cL_277 : CLf 277 = 20 := rfl
theorem cL_278 : CLf 278 = 22 := rfl
theorem nL_65 : LNf 65 = 900 := rfl
theorem nL_66 : LNf 66 = 4 := rfl
theorem nL_68 : LNf 68 = 6 := rfl
theorem nL_69 : LNf 69 = 6 := rfl
theorem nL_70 : LNf 70 = 6 := rfl
theorem nL_72 : LNf 72 = 6 := rfl
theorem nL_73 : LNf 73 = 6 := rfl
theorem nL_74 : LNf 74 = 6 := rfl
theorem nL_76 : LNf 76 = 10 := rfl
theorem nL_78 : LNf 78 = 6 := rfl
theorem nL_79 : LNf 79 = 6 := rfl
theorem nL_80 : LNf 80 = 6 := rfl
theorem nL_82 : LNf 82 = 6 := rfl
theorem nL_83 : LNf 83 = 6 := rfl
theorem nL_84 : LNf 84 = 6 := rfl
theorem nL_86 : LNf 86 = 6 := rfl
theorem nL_87 : LNf 87 = 6 := rfl
theorem nL_88 : LNf 88 = 6 := rfl
theorem nL_90 : LNf 90 = 6 := rfl
theorem nL_91 : LNf 91 = 6 := rfl
theorem nL_92 : LNf 92 = 6 := rfl
theorem nL_94 : LNf 94 = 6 := rfl
theorem nL_95 : LNf 95 = 6 := rfl
theorem nL_96 : LNf 96 = 6 := rfl
theorem nL_98 : LNf 98 = 6 := rfl
theorem nL_99 : LNf 99 = 6 := rfl
theorem nL_100 : LNf 100 = 6 := rfl
theorem nL_102 : LNf 102 = 6 := rfl
theorem nL_103 : LNf 103 = 6 := rfl
theorem nL_104 : LNf 104 = 6 := rfl
theorem nL_106 : LNf 106 = 6 := rfl
theorem nL_107 : LNf 107 = 6 := rfl
theorem nL_108 : LNf 108 = 6 := rfl
theorem nL_110 : LNf 110 = 6 := rfl
theorem nL_111 : LNf 111 = 6 := rfl
theorem nL_112 : LNf 112 = 6 := rfl
theorem nL_114 : LNf 114 = 6 := rfl
theorem nL_115 : LNf 115 = 6 := rfl
theorem nL_116 : LNf 116 = 6 := rfl
theorem nL_117 : LNf 117 = 2 := rfl
theorem nL_118 : LNf 118 = 2 := rfl
theorem nL_120 : LNf 120 = 30 := rfl
theorem nL_121 : LNf 121 = 31 := rfl
theorem nL_122 : LNf 122 = 31 := rfl
theorem nL_124 : LNf 124 = 160 := rfl
theorem nL_125 : LNf 125 = 4 := rfl
theorem nL_126 : LNf 126 = 4 := rfl
theorem nL_128 : LNf 128 = 9 := rfl
theorem nL_129 : LNf 129 = 9 := rfl
theorem nL_131 : LNf 131 = 6 := rfl
theorem nL_132 : LNf 132 = 6 := rfl
theorem nL_133 : LNf 133 = 6 := rfl
theorem nL_134 : LNf 134 = 30 := rfl
theorem nL_135 : LNf 135 = 30 := rfl
theorem nL_137 : LNf 137 = 6 := rfl
theorem nL_138 : LNf 138 = 6 := rfl
theorem nL_139 : LNf 139 = 6 := rfl
theorem nL_141 : LNf 141 = 900 := rfl
theorem nL_142 : LNf 142 = 4 := rfl
theorem nL_143 : LNf 143 = 64 := rfl
theorem nL_145 : LNf 145 = 900 := rfl
theorem nL_146 : LNf 146 = 4 := rfl
theorem nL_147 : LNf 147 = 64 := rfl
theorem nL_148 : LNf 148 = 300 := rfl
theorem nL_149 : LNf 149 = 1200 := rfl
theorem nL_151 : LNf 151 = 6 := rfl
theorem nL_152 : LNf 152 = 6 := rfl
theorem nL_153 : LNf 153 = 6 := rfl
theorem nL_154 : LNf 154 = 30 := rfl
theorem nL_155 : LNf 155 = 30 := rfl
theorem nL_157 : LNf 157 = 6 := rfl
theorem nL_158 : LNf 158 = 6 := rfl
theorem nL_159 : LNf 159 = 6 := rfl
theorem nL_161 : LNf 161 = 900 := rfl
theorem nL_162 : LNf 162 = 4 := rfl
theorem nL_163 : LNf 163 = 64 := rfl
theorem nL_165 : LNf 165 = 900 := rfl
theorem nL_166 : LNf 166 = 4 := rfl
theorem nL_167 : LNf 167 = 64 := rfl
theorem nL_168 : LNf 168 = 300 := rfl
theorem nL_169 : LNf 169 = 1200 := rfl
theorem nL_171 : LNf 171 = 6 := rfl
theorem nL_172 : LNf 172 = 6 := rfl
theorem nL_173 : LNf 173 = 6 := rfl
theorem nL_174 : LNf 174 = 30 := rfl
theorem nL_175 : LNf 175 = 30 := rfl
theorem nL_177 : LNf 177 = 6 := rfl
theorem nL_178 : LNf 178 = 6 := rfl
theorem nL_179 : LNf 179 = 6 := rfl
theorem nL_181 : LNf 181 = 900 := rfl
theorem nL_182 : LNf 182 = 4 := rfl
theorem nL_183 : LNf 183 = 64 := rfl
theorem nL_185 : LNf 185 = 900 := rfl
theorem nL_186 : LNf 186 = 4 := rfl
theorem nL_187 : LNf 187 = 64 := rfl
theorem nL_188 : LNf 188 = 300 := rfl
theorem nL_189 : LNf 189 = 1200 := rfl
theorem nL_191 : LNf 191 = 6 := rfl
theorem nL_192 : LNf 192 = 6 := rfl
theorem nL_193 : LNf 193 = 6 := rfl
theorem nL_194 : LNf 194 = 30 := rfl
theorem nL_195 : LNf 195 = 30 := rfl
theorem nL_197 : LNf 197 = 6 := rfl
theorem nL_198 : LNf 198 = 6 := rfl
theorem nL_199 : LNf 199 = 6 := rfl
theorem nL_201 : LNf 201 = 900 := rfl
theorem nL_202 : LNf 202 = 4 := rfl
theorem nL_203 : LNf 203 = 64 := rfl
theorem nL_205 : LNf 205 = 900 := rfl
theorem nL_206 : LNf 206 = 4 := rfl
theorem nL_207 : LNf 207 = 64 := rfl
theorem nL_208 : LNf 208 = 300 := rfl
theorem nL_209 : LNf 209 = 1200 := rfl
theorem nL_211 : LNf 211 = 6 := rfl
theorem nL_212 : LNf 212 = 6 := rfl
theorem nL_213 : LNf 213 = 6 := rfl
theorem nL_215 : LNf 215 = 6 := rfl
theorem nL_216 : LNf 216 = 6 := rfl
theorem nL_217 : LNf 217 = 6 := rfl
theorem nL_221 : LNf 221 = 140 := rfl
theorem nL_222 : LNf 222 = 140 := rfl
theorem nL_223 : LNf 223 = 140 := rfl
theorem nL_224 : LNf 224 = 140 := rfl
theorem nL_225 : LNf 225 = 21 := rfl
theorem nL_226 : LNf 226 = 6 := rfl
theorem nL_227 : LNf 227 = 6 := rfl
theorem nL_228 : LNf 228 = 30 := rfl
theorem nL_229 : LNf 229 = 30 := rfl
theorem nL_230 : LNf 230 = 6 := rfl
theorem nL_231 : LNf 231 = 6 := rfl
theorem nL_232 : LNf 232 = 366 := rfl
theorem nL_235 : LNf 235 = 140 := rfl
theorem nL_236 : LNf 236 = 140 := rfl
theorem nL_237 : LNf 237 = 140 := rfl
theorem nL_238 : LNf 238 = 140 := rfl
theorem nL_239 : LNf 239 = 21 := rfl
theorem nL_240 : LNf 240 = 6 := rfl
theorem nL_241 : LNf 241 = 6 := rfl
theorem nL_242 : LNf 242 = 30 := rfl
theorem nL_243 : LNf 243 = 30 := rfl
theorem nL_244 : LNf 244 = 6 := rfl
theorem nL_245 : LNf 245 = 6 := rfl
theorem nL_246 : LNf 246 = 366 := rfl
theorem nL_248 : LNf 248 = 3639 := rfl
theorem nL_249 : LNf 249 = 2 := rfl
theorem nL_250 : LNf 250 = 900 := rfl
theorem nL_251 : LNf 251 = 1213 := rfl
theorem nL_252 : LNf 252 = 900 := rfl
theorem nL_253 : LNf 253 = 6 := rfl
theorem nL_254 : LNf 254 = 6 := rfl
theorem nL_255 : LNf 255 = 140 := rfl
theorem nL_256 : LNf 256 = 140 := rfl
theorem nL_257 : LNf 257 = 140 := rfl
theorem nL_258 : LNf 258 = 140 := rfl
theorem nL_259 : LNf 259 = 30 := rfl
theorem nL_260 : LNf 260 = 30 := rfl
theorem nL_261 : LNf 261 = 30 := rfl
theorem nL_262 : LNf 262 = 6 := rfl
theorem nL_263 : LNf 263 = 6 := rfl
theorem nL_264 : LNf 264 = 366 := rfl
theorem nL_265 : LNf 265 = 20 := rfl
theorem nL_266 : LNf 266 = 30 := rfl
theorem nL_267 : LNf 267 = 31 := rfl
theorem nL_268 : LNf 268 = 31 := rfl
theorem nL_269 : LNf 269 = 31 := rfl
theorem nL_270 : LNf 270 = 31 := rfl
theorem nL_271 : LNf 271 = 30 := rfl
theorem nL_272 : LNf 272 = 30 := rfl
theorem nL_273 : LNf 273 = 10 := rfl
theorem nL_274 : LNf 274 = 9 := rfl
theorem nL_275 : LNf 275 = 9 := rfl
theorem nL_276 : LNf 276 = 4 := rfl
theorem nL_277 : LNf 277 = 4 := rfl
theorem nL_278 : LNf 278 = 160 := rfl
theorem rm_0_0 : (0, 0, 1, 20, 30) ∈ RFl := by decide +kernel
theorem rf_0_0 {q : Nat} (h : CLf q = 1) : CLf (q + 1) = 20 := (RF_at rm_0_0 h).1
theorem rl_0_0 {q : Nat} (h : CLf q = 1) : LNf (q + 1) = 30 := (RF_at rm_0_0 h).2
theorem rm_0_1 : (0, 1, 2, 20, 31) ∈ RFl := by decide +kernel
theorem rf_0_1 {q : Nat} (h : CLf q = 1) : CLf (q + 2) = 20 := (RF_at rm_0_1 h).1
theorem rl_0_1 {q : Nat} (h : CLf q = 1) : LNf (q + 2) = 31 := (RF_at rm_0_1 h).2
theorem rm_0_2 : (0, 2, 3, 22, 31) ∈ RFl := by decide +kernel
theorem rf_0_2 {q : Nat} (h : CLf q = 1) : CLf (q + 3) = 22 := (RF_at rm_0_2 h).1
theorem rl_0_2 {q : Nat} (h : CLf q = 1) : LNf (q + 3) = 31 := (RF_at rm_0_2 h).2
theorem rm_1_2 : (1, 2, 1, 20, 9) ∈ RFl := by decide +kernel
theorem rf_1_2 {q : Nat} (h : CLf q = 2) : CLf (q + 1) = 20 := (RF_at rm_1_2 h).1
theorem rl_1_2 {q : Nat} (h : CLf q = 2) : LNf (q + 1) = 9 := (RF_at rm_1_2 h).2
theorem rm_1_3 : (1, 3, 2, 20, 9) ∈ RFl := by decide +kernel
theorem rf_1_3 {q : Nat} (h : CLf q = 2) : CLf (q + 2) = 20 := (RF_at rm_1_3 h).1
theorem rl_1_3 {q : Nat} (h : CLf q = 2) : LNf (q + 2) = 9 := (RF_at rm_1_3 h).2
theorem rm_2_0 : (2, 0, 1, 20, 900) ∈ RFl := by decide +kernel
theorem rf_2_0 {q : Nat} (h : CLf q = 3) : CLf (q + 1) = 20 := (RF_at rm_2_0 h).1
theorem rl_2_0 {q : Nat} (h : CLf q = 3) : LNf (q + 1) = 900 := (RF_at rm_2_0 h).2
theorem rm_2_1 : (2, 1, 2, 20, 4) ∈ RFl := by decide +kernel
theorem rf_2_1 {q : Nat} (h : CLf q = 3) : CLf (q + 2) = 20 := (RF_at rm_2_1 h).1
theorem rl_2_1 {q : Nat} (h : CLf q = 3) : LNf (q + 2) = 4 := (RF_at rm_2_1 h).2
theorem rm_2_2 : (2, 2, 3, 20, 64) ∈ RFl := by decide +kernel
theorem rf_2_2 {q : Nat} (h : CLf q = 3) : CLf (q + 3) = 20 := (RF_at rm_2_2 h).1
theorem rl_2_2 {q : Nat} (h : CLf q = 3) : LNf (q + 3) = 64 := (RF_at rm_2_2 h).2
theorem rm_3_6 : (3, 6, 1, 20, 6) ∈ RFl := by decide +kernel
theorem rf_3_6 {q : Nat} (h : CLf q = 4) : CLf (q + 1) = 20 := (RF_at rm_3_6 h).1
theorem rl_3_6 {q : Nat} (h : CLf q = 4) : LNf (q + 1) = 6 := (RF_at rm_3_6 h).2
theorem rm_3_7 : (3, 7, 2, 20, 6) ∈ RFl := by decide +kernel
theorem rf_3_7 {q : Nat} (h : CLf q = 4) : CLf (q + 2) = 20 := (RF_at rm_3_7 h).1
theorem rl_3_7 {q : Nat} (h : CLf q = 4) : LNf (q + 2) = 6 := (RF_at rm_3_7 h).2
theorem rm_3_8 : (3, 8, 3, 20, 6) ∈ RFl := by decide +kernel
theorem rf_3_8 {q : Nat} (h : CLf q = 4) : CLf (q + 3) = 20 := (RF_at rm_3_8 h).1
theorem rl_3_8 {q : Nat} (h : CLf q = 4) : LNf (q + 3) = 6 := (RF_at rm_3_8 h).2
theorem rm_3_10 : (3, 10, 4, 20, 30) ∈ RFl := by decide +kernel
theorem rf_3_10 {q : Nat} (h : CLf q = 4) : CLf (q + 4) = 20 := (RF_at rm_3_10 h).1
theorem rl_3_10 {q : Nat} (h : CLf q = 4) : LNf (q + 4) = 30 := (RF_at rm_3_10 h).2
theorem rm_3_11 : (3, 11, 5, 20, 30) ∈ RFl := by decide +kernel
theorem rf_3_11 {q : Nat} (h : CLf q = 4) : CLf (q + 5) = 20 := (RF_at rm_3_11 h).1
theorem rl_3_11 {q : Nat} (h : CLf q = 4) : LNf (q + 5) = 30 := (RF_at rm_3_11 h).2
theorem rm_3_12 : (3, 12, 6, 9, 0) ∈ RFl := by decide +kernel
theorem rf_3_12 {q : Nat} (h : CLf q = 4) : CLf (q + 6) = 9 := (RF_at rm_3_12 h).1
theorem rm_3_13 : (3, 13, 10, 3, 0) ∈ RFl := by decide +kernel
theorem rf_3_13 {q : Nat} (h : CLf q = 4) : CLf (q + 10) = 3 := (RF_at rm_3_13 h).1
theorem rm_3_14 : (3, 14, 14, 3, 0) ∈ RFl := by decide +kernel
theorem rf_3_14 {q : Nat} (h : CLf q = 4) : CLf (q + 14) = 3 := (RF_at rm_3_14 h).1
theorem rm_3_15 : (3, 15, 18, 20, 300) ∈ RFl := by decide +kernel
theorem rf_3_15 {q : Nat} (h : CLf q = 4) : CLf (q + 18) = 20 := (RF_at rm_3_15 h).1
theorem rl_3_15 {q : Nat} (h : CLf q = 4) : LNf (q + 18) = 300 := (RF_at rm_3_15 h).2
theorem rm_3_16 : (3, 16, 19, 20, 1200) ∈ RFl := by decide +kernel
theorem rf_3_16 {q : Nat} (h : CLf q = 4) : CLf (q + 19) = 20 := (RF_at rm_3_16 h).1
theorem rl_3_16 {q : Nat} (h : CLf q = 4) : LNf (q + 19) = 1200 := (RF_at rm_3_16 h).2
theorem rm_4_0 : (4, 0, 1, 25, 10) ∈ RFl := by decide +kernel
theorem rf_4_0 {q : Nat} (h : CLf q = 5) : CLf (q + 1) = 25 := (RF_at rm_4_0 h).1
theorem rl_4_0 {q : Nat} (h : CLf q = 5) : LNf (q + 1) = 10 := (RF_at rm_4_0 h).2
theorem rm_6_3 : (6, 3, 1, 8, 0) ∈ RFl := by decide +kernel
theorem rf_6_3 {q : Nat} (h : CLf q = 7) : CLf (q + 1) = 8 := (RF_at rm_6_3 h).1
theorem rm_6_4 : (6, 4, 9, 20, 30) ∈ RFl := by decide +kernel
theorem rf_6_4 {q : Nat} (h : CLf q = 7) : CLf (q + 9) = 20 := (RF_at rm_6_4 h).1
theorem rl_6_4 {q : Nat} (h : CLf q = 7) : LNf (q + 9) = 30 := (RF_at rm_6_4 h).2
theorem rm_6_5 : (6, 5, 10, 20, 30) ∈ RFl := by decide +kernel
theorem rf_6_5 {q : Nat} (h : CLf q = 7) : CLf (q + 10) = 20 := (RF_at rm_6_5 h).1
theorem rl_6_5 {q : Nat} (h : CLf q = 7) : LNf (q + 10) = 30 := (RF_at rm_6_5 h).2
theorem rm_6_6 : (6, 6, 11, 20, 6) ∈ RFl := by decide +kernel
theorem rf_6_6 {q : Nat} (h : CLf q = 7) : CLf (q + 11) = 20 := (RF_at rm_6_6 h).1
theorem rl_6_6 {q : Nat} (h : CLf q = 7) : LNf (q + 11) = 6 := (RF_at rm_6_6 h).2
theorem rm_6_7 : (6, 7, 12, 20, 6) ∈ RFl := by decide +kernel
theorem rf_6_7 {q : Nat} (h : CLf q = 7) : CLf (q + 12) = 20 := (RF_at rm_6_7 h).1
theorem rl_6_7 {q : Nat} (h : CLf q = 7) : LNf (q + 12) = 6 := (RF_at rm_6_7 h).2
theorem rm_6_8 : (6, 8, 13, 20, 366) ∈ RFl := by decide +kernel
theorem rf_6_8 {q : Nat} (h : CLf q = 7) : CLf (q + 13) = 20 := (RF_at rm_6_8 h).1
theorem rl_6_8 {q : Nat} (h : CLf q = 7) : LNf (q + 13) = 366 := (RF_at rm_6_8 h).2
theorem rm_7_0 : (7, 0, 1, 20, 140) ∈ RFl := by decide +kernel
theorem rf_7_0 {q : Nat} (h : CLf q = 8) : CLf (q + 1) = 20 := (RF_at rm_7_0 h).1
theorem rl_7_0 {q : Nat} (h : CLf q = 8) : LNf (q + 1) = 140 := (RF_at rm_7_0 h).2
theorem rm_7_1 : (7, 1, 2, 20, 140) ∈ RFl := by decide +kernel
theorem rf_7_1 {q : Nat} (h : CLf q = 8) : CLf (q + 2) = 20 := (RF_at rm_7_1 h).1
theorem rl_7_1 {q : Nat} (h : CLf q = 8) : LNf (q + 2) = 140 := (RF_at rm_7_1 h).2
theorem rm_7_2 : (7, 2, 3, 20, 140) ∈ RFl := by decide +kernel
theorem rf_7_2 {q : Nat} (h : CLf q = 8) : CLf (q + 3) = 20 := (RF_at rm_7_2 h).1
theorem rl_7_2 {q : Nat} (h : CLf q = 8) : LNf (q + 3) = 140 := (RF_at rm_7_2 h).2
theorem rm_7_3 : (7, 3, 4, 20, 140) ∈ RFl := by decide +kernel
theorem rf_7_3 {q : Nat} (h : CLf q = 8) : CLf (q + 4) = 20 := (RF_at rm_7_3 h).1
theorem rl_7_3 {q : Nat} (h : CLf q = 8) : LNf (q + 4) = 140 := (RF_at rm_7_3 h).2
theorem rm_7_5 : (7, 5, 5, 20, 21) ∈ RFl := by decide +kernel
theorem rf_7_5 {q : Nat} (h : CLf q = 8) : CLf (q + 5) = 20 := (RF_at rm_7_5 h).1
theorem rl_7_5 {q : Nat} (h : CLf q = 8) : LNf (q + 5) = 21 := (RF_at rm_7_5 h).2
theorem rm_7_7 : (7, 7, 6, 20, 6) ∈ RFl := by decide +kernel
theorem rf_7_7 {q : Nat} (h : CLf q = 8) : CLf (q + 6) = 20 := (RF_at rm_7_7 h).1
theorem rl_7_7 {q : Nat} (h : CLf q = 8) : LNf (q + 6) = 6 := (RF_at rm_7_7 h).2
theorem rm_7_8 : (7, 8, 7, 20, 6) ∈ RFl := by decide +kernel
theorem rf_7_8 {q : Nat} (h : CLf q = 8) : CLf (q + 7) = 20 := (RF_at rm_7_8 h).1
theorem rl_7_8 {q : Nat} (h : CLf q = 8) : LNf (q + 7) = 6 := (RF_at rm_7_8 h).2
theorem rm_8_0 : (8, 0, 1, 20, 6) ∈ RFl := by decide +kernel
theorem rf_8_0 {q : Nat} (h : CLf q = 9) : CLf (q + 1) = 20 := (RF_at rm_8_0 h).1
theorem rl_8_0 {q : Nat} (h : CLf q = 9) : LNf (q + 1) = 6 := (RF_at rm_8_0 h).2
theorem rm_8_1 : (8, 1, 2, 20, 6) ∈ RFl := by decide +kernel
theorem rf_8_1 {q : Nat} (h : CLf q = 9) : CLf (q + 2) = 20 := (RF_at rm_8_1 h).1
theorem rl_8_1 {q : Nat} (h : CLf q = 9) : LNf (q + 2) = 6 := (RF_at rm_8_1 h).2
theorem rm_8_2 : (8, 2, 3, 20, 6) ∈ RFl := by decide +kernel
theorem rf_8_2 {q : Nat} (h : CLf q = 9) : CLf (q + 3) = 20 := (RF_at rm_8_2 h).1
theorem rl_8_2 {q : Nat} (h : CLf q = 9) : LNf (q + 3) = 6 := (RF_at rm_8_2 h).2
theorem rm_9_0 : (9, 0, 1, 22, 160) ∈ RFl := by decide +kernel
theorem rf_9_0 {q : Nat} (h : CLf q = 10) : CLf (q + 1) = 22 := (RF_at rm_9_0 h).1
theorem rl_9_0 {q : Nat} (h : CLf q = 10) : LNf (q + 1) = 160 := (RF_at rm_9_0 h).2
theorem rm_9_1 : (9, 1, 2, 20, 4) ∈ RFl := by decide +kernel
theorem rf_9_1 {q : Nat} (h : CLf q = 10) : CLf (q + 2) = 20 := (RF_at rm_9_1 h).1
theorem rl_9_1 {q : Nat} (h : CLf q = 10) : LNf (q + 2) = 4 := (RF_at rm_9_1 h).2
theorem rm_9_2 : (9, 2, 3, 20, 4) ∈ RFl := by decide +kernel
theorem rf_9_2 {q : Nat} (h : CLf q = 10) : CLf (q + 3) = 20 := (RF_at rm_9_2 h).1
theorem rl_9_2 {q : Nat} (h : CLf q = 10) : LNf (q + 3) = 4 := (RF_at rm_9_2 h).2
theorem rm_10_0 : (10, 0, 1, 21, 900) ∈ RFl := by decide +kernel
theorem rf_10_0 {q : Nat} (h : CLf q = 11) : CLf (q + 1) = 21 := (RF_at rm_10_0 h).1
theorem rl_10_0 {q : Nat} (h : CLf q = 11) : LNf (q + 1) = 900 := (RF_at rm_10_0 h).2
theorem rm_10_2 : (10, 2, 154, 6, 0) ∈ RFl := by decide +kernel
theorem rf_10_2 {q : Nat} (h : CLf q = 11) : CLf (q + 154) = 6 := (RF_at rm_10_2 h).1
theorem rm_10_3 : (10, 3, 2, 24, 4) ∈ RFl := by decide +kernel
theorem rf_10_3 {q : Nat} (h : CLf q = 11) : CLf (q + 2) = 24 := (RF_at rm_10_3 h).1
theorem rl_10_3 {q : Nat} (h : CLf q = 11) : LNf (q + 2) = 4 := (RF_at rm_10_3 h).2
theorem rm_10_5 : (10, 5, 3, 9, 0) ∈ RFl := by decide +kernel
theorem rf_10_5 {q : Nat} (h : CLf q = 11) : CLf (q + 3) = 9 := (RF_at rm_10_5 h).1
theorem rm_10_6 : (10, 6, 7, 9, 0) ∈ RFl := by decide +kernel
theorem rf_10_6 {q : Nat} (h : CLf q = 11) : CLf (q + 7) = 9 := (RF_at rm_10_6 h).1
theorem rm_10_7 : (10, 7, 11, 5, 0) ∈ RFl := by decide +kernel
theorem rf_10_7 {q : Nat} (h : CLf q = 11) : CLf (q + 11) = 5 := (RF_at rm_10_7 h).1
theorem rm_10_8 : (10, 8, 53, 20, 2) ∈ RFl := by decide +kernel
theorem rf_10_8 {q : Nat} (h : CLf q = 11) : CLf (q + 53) = 20 := (RF_at rm_10_8 h).1
theorem rl_10_8 {q : Nat} (h : CLf q = 11) : LNf (q + 53) = 2 := (RF_at rm_10_8 h).2
theorem rm_10_9 : (10, 9, 54, 25, 2) ∈ RFl := by decide +kernel
theorem rf_10_9 {q : Nat} (h : CLf q = 11) : CLf (q + 54) = 25 := (RF_at rm_10_9 h).1
theorem rl_10_9 {q : Nat} (h : CLf q = 11) : LNf (q + 54) = 2 := (RF_at rm_10_9 h).2
theorem rm_10_10 : (10, 10, 155, 7, 0) ∈ RFl := by decide +kernel
theorem rf_10_10 {q : Nat} (h : CLf q = 11) : CLf (q + 155) = 7 := (RF_at rm_10_10 h).1
theorem rm_10_11 : (10, 11, 169, 7, 0) ∈ RFl := by decide +kernel
theorem rf_10_11 {q : Nat} (h : CLf q = 11) : CLf (q + 169) = 7 := (RF_at rm_10_11 h).1
theorem rm_10_13 : (10, 13, 55, 1, 0) ∈ RFl := by decide +kernel
theorem rf_10_13 {q : Nat} (h : CLf q = 11) : CLf (q + 55) = 1 := (RF_at rm_10_13 h).1
theorem rm_10_14 : (10, 14, 59, 10, 0) ∈ RFl := by decide +kernel
theorem rf_10_14 {q : Nat} (h : CLf q = 11) : CLf (q + 59) = 10 := (RF_at rm_10_14 h).1
theorem rm_10_15 : (10, 15, 63, 2, 0) ∈ RFl := by decide +kernel
theorem rf_10_15 {q : Nat} (h : CLf q = 11) : CLf (q + 63) = 2 := (RF_at rm_10_15 h).1
theorem rm_11_1 : (11, 1, 1, 20, 3639) ∈ RFl := by decide +kernel
theorem rf_11_1 {q : Nat} (h : CLf q = 12) : CLf (q + 1) = 20 := (RF_at rm_11_1 h).1
theorem rl_11_1 {q : Nat} (h : CLf q = 12) : LNf (q + 1) = 3639 := (RF_at rm_11_1 h).2
theorem rm_11_2 : (11, 2, 2, 23, 2) ∈ RFl := by decide +kernel
theorem rf_11_2 {q : Nat} (h : CLf q = 12) : CLf (q + 2) = 23 := (RF_at rm_11_2 h).1
theorem rl_11_2 {q : Nat} (h : CLf q = 12) : LNf (q + 2) = 2 := (RF_at rm_11_2 h).2
theorem rm_11_3 : (11, 3, 3, 20, 900) ∈ RFl := by decide +kernel
theorem rf_11_3 {q : Nat} (h : CLf q = 12) : CLf (q + 3) = 20 := (RF_at rm_11_3 h).1
theorem rl_11_3 {q : Nat} (h : CLf q = 12) : LNf (q + 3) = 900 := (RF_at rm_11_3 h).2
theorem rm_11_4 : (11, 4, 4, 20, 1213) ∈ RFl := by decide +kernel
theorem rf_11_4 {q : Nat} (h : CLf q = 12) : CLf (q + 4) = 20 := (RF_at rm_11_4 h).1
theorem rl_11_4 {q : Nat} (h : CLf q = 12) : LNf (q + 4) = 1213 := (RF_at rm_11_4 h).2
theorem rm_11_16 : (11, 16, 5, 20, 900) ∈ RFl := by decide +kernel
theorem rf_11_16 {q : Nat} (h : CLf q = 12) : CLf (q + 5) = 20 := (RF_at rm_11_16 h).1
theorem rl_11_16 {q : Nat} (h : CLf q = 12) : LNf (q + 5) = 900 := (RF_at rm_11_16 h).2
theorem rm_11_17 : (11, 17, 6, 20, 6) ∈ RFl := by decide +kernel
theorem rf_11_17 {q : Nat} (h : CLf q = 12) : CLf (q + 6) = 20 := (RF_at rm_11_17 h).1
theorem rl_11_17 {q : Nat} (h : CLf q = 12) : LNf (q + 6) = 6 := (RF_at rm_11_17 h).2
theorem rm_11_23 : (11, 23, 7, 20, 6) ∈ RFl := by decide +kernel
theorem rf_11_23 {q : Nat} (h : CLf q = 12) : CLf (q + 7) = 20 := (RF_at rm_11_23 h).1
theorem rl_11_23 {q : Nat} (h : CLf q = 12) : LNf (q + 7) = 6 := (RF_at rm_11_23 h).2
theorem rm_11_24 : (11, 24, 8, 20, 140) ∈ RFl := by decide +kernel
theorem rf_11_24 {q : Nat} (h : CLf q = 12) : CLf (q + 8) = 20 := (RF_at rm_11_24 h).1
theorem rl_11_24 {q : Nat} (h : CLf q = 12) : LNf (q + 8) = 140 := (RF_at rm_11_24 h).2
theorem rm_11_25 : (11, 25, 9, 20, 140) ∈ RFl := by decide +kernel
theorem rf_11_25 {q : Nat} (h : CLf q = 12) : CLf (q + 9) = 20 := (RF_at rm_11_25 h).1
theorem rl_11_25 {q : Nat} (h : CLf q = 12) : LNf (q + 9) = 140 := (RF_at rm_11_25 h).2
theorem rm_11_26 : (11, 26, 10, 20, 140) ∈ RFl := by decide +kernel
theorem rf_11_26 {q : Nat} (h : CLf q = 12) : CLf (q + 10) = 20 := (RF_at rm_11_26 h).1
theorem rl_11_26 {q : Nat} (h : CLf q = 12) : LNf (q + 10) = 140 := (RF_at rm_11_26 h).2
theorem rm_11_27 : (11, 27, 11, 20, 140) ∈ RFl := by decide +kernel
theorem rf_11_27 {q : Nat} (h : CLf q = 12) : CLf (q + 11) = 20 := (RF_at rm_11_27 h).1
theorem rl_11_27 {q : Nat} (h : CLf q = 12) : LNf (q + 11) = 140 := (RF_at rm_11_27 h).2
theorem rm_11_28 : (11, 28, 12, 20, 30) ∈ RFl := by decide +kernel
theorem rf_11_28 {q : Nat} (h : CLf q = 12) : CLf (q + 12) = 20 := (RF_at rm_11_28 h).1
theorem rl_11_28 {q : Nat} (h : CLf q = 12) : LNf (q + 12) = 30 := (RF_at rm_11_28 h).2
theorem rm_11_29 : (11, 29, 13, 20, 30) ∈ RFl := by decide +kernel
theorem rf_11_29 {q : Nat} (h : CLf q = 12) : CLf (q + 13) = 20 := (RF_at rm_11_29 h).1
theorem rl_11_29 {q : Nat} (h : CLf q = 12) : LNf (q + 13) = 30 := (RF_at rm_11_29 h).2
theorem rm_11_30 : (11, 30, 14, 20, 30) ∈ RFl := by decide +kernel
theorem rf_11_30 {q : Nat} (h : CLf q = 12) : CLf (q + 14) = 20 := (RF_at rm_11_30 h).1
theorem rl_11_30 {q : Nat} (h : CLf q = 12) : LNf (q + 14) = 30 := (RF_at rm_11_30 h).2
theorem rm_11_32 : (11, 32, 15, 20, 6) ∈ RFl := by decide +kernel
theorem rf_11_32 {q : Nat} (h : CLf q = 12) : CLf (q + 15) = 20 := (RF_at rm_11_32 h).1
theorem rl_11_32 {q : Nat} (h : CLf q = 12) : LNf (q + 15) = 6 := (RF_at rm_11_32 h).2
theorem rm_11_33 : (11, 33, 16, 20, 6) ∈ RFl := by decide +kernel
theorem rf_11_33 {q : Nat} (h : CLf q = 12) : CLf (q + 16) = 20 := (RF_at rm_11_33 h).1
theorem rl_11_33 {q : Nat} (h : CLf q = 12) : LNf (q + 16) = 6 := (RF_at rm_11_33 h).2
theorem rm_11_34 : (11, 34, 17, 20, 366) ∈ RFl := by decide +kernel
theorem rf_11_34 {q : Nat} (h : CLf q = 12) : CLf (q + 17) = 20 := (RF_at rm_11_34 h).1
theorem rl_11_34 {q : Nat} (h : CLf q = 12) : LNf (q + 17) = 366 := (RF_at rm_11_34 h).2
theorem rm_11_38 : (11, 38, 18, 20, 20) ∈ RFl := by decide +kernel
theorem rf_11_38 {q : Nat} (h : CLf q = 12) : CLf (q + 18) = 20 := (RF_at rm_11_38 h).1
theorem rl_11_38 {q : Nat} (h : CLf q = 12) : LNf (q + 18) = 20 := (RF_at rm_11_38 h).2
theorem rm_11_41 : (11, 41, 19, 20, 30) ∈ RFl := by decide +kernel
theorem rf_11_41 {q : Nat} (h : CLf q = 12) : CLf (q + 19) = 20 := (RF_at rm_11_41 h).1
theorem rl_11_41 {q : Nat} (h : CLf q = 12) : LNf (q + 19) = 30 := (RF_at rm_11_41 h).2
theorem rm_11_43 : (11, 43, 20, 20, 31) ∈ RFl := by decide +kernel
theorem rf_11_43 {q : Nat} (h : CLf q = 12) : CLf (q + 20) = 20 := (RF_at rm_11_43 h).1
theorem rl_11_43 {q : Nat} (h : CLf q = 12) : LNf (q + 20) = 31 := (RF_at rm_11_43 h).2
theorem rm_11_44 : (11, 44, 21, 20, 31) ∈ RFl := by decide +kernel
theorem rf_11_44 {q : Nat} (h : CLf q = 12) : CLf (q + 21) = 20 := (RF_at rm_11_44 h).1
theorem rl_11_44 {q : Nat} (h : CLf q = 12) : LNf (q + 21) = 31 := (RF_at rm_11_44 h).2
theorem rm_11_45 : (11, 45, 22, 22, 31) ∈ RFl := by decide +kernel
theorem rf_11_45 {q : Nat} (h : CLf q = 12) : CLf (q + 22) = 22 := (RF_at rm_11_45 h).1
theorem rl_11_45 {q : Nat} (h : CLf q = 12) : LNf (q + 22) = 31 := (RF_at rm_11_45 h).2
theorem rm_11_46 : (11, 46, 23, 22, 31) ∈ RFl := by decide +kernel
theorem rf_11_46 {q : Nat} (h : CLf q = 12) : CLf (q + 23) = 22 := (RF_at rm_11_46 h).1
theorem rl_11_46 {q : Nat} (h : CLf q = 12) : LNf (q + 23) = 31 := (RF_at rm_11_46 h).2
theorem rm_11_47 : (11, 47, 24, 20, 30) ∈ RFl := by decide +kernel
theorem rf_11_47 {q : Nat} (h : CLf q = 12) : CLf (q + 24) = 20 := (RF_at rm_11_47 h).1
theorem rl_11_47 {q : Nat} (h : CLf q = 12) : LNf (q + 24) = 30 := (RF_at rm_11_47 h).2
theorem rm_11_48 : (11, 48, 25, 20, 30) ∈ RFl := by decide +kernel
theorem rf_11_48 {q : Nat} (h : CLf q = 12) : CLf (q + 25) = 20 := (RF_at rm_11_48 h).1
theorem rl_11_48 {q : Nat} (h : CLf q = 12) : LNf (q + 25) = 30 := (RF_at rm_11_48 h).2
theorem rm_11_49 : (11, 49, 26, 20, 10) ∈ RFl := by decide +kernel
theorem rf_11_49 {q : Nat} (h : CLf q = 12) : CLf (q + 26) = 20 := (RF_at rm_11_49 h).1
theorem rl_11_49 {q : Nat} (h : CLf q = 12) : LNf (q + 26) = 10 := (RF_at rm_11_49 h).2
theorem rm_11_54 : (11, 54, 27, 20, 9) ∈ RFl := by decide +kernel
theorem rf_11_54 {q : Nat} (h : CLf q = 12) : CLf (q + 27) = 20 := (RF_at rm_11_54 h).1
theorem rl_11_54 {q : Nat} (h : CLf q = 12) : LNf (q + 27) = 9 := (RF_at rm_11_54 h).2
theorem rm_11_55 : (11, 55, 28, 20, 9) ∈ RFl := by decide +kernel
theorem rf_11_55 {q : Nat} (h : CLf q = 12) : CLf (q + 28) = 20 := (RF_at rm_11_55 h).1
theorem rl_11_55 {q : Nat} (h : CLf q = 12) : LNf (q + 28) = 9 := (RF_at rm_11_55 h).2
theorem rm_11_56 : (11, 56, 29, 20, 4) ∈ RFl := by decide +kernel
theorem rf_11_56 {q : Nat} (h : CLf q = 12) : CLf (q + 29) = 20 := (RF_at rm_11_56 h).1
theorem rl_11_56 {q : Nat} (h : CLf q = 12) : LNf (q + 29) = 4 := (RF_at rm_11_56 h).2
theorem rm_11_57 : (11, 57, 30, 20, 4) ∈ RFl := by decide +kernel
theorem rf_11_57 {q : Nat} (h : CLf q = 12) : CLf (q + 30) = 20 := (RF_at rm_11_57 h).1
theorem rl_11_57 {q : Nat} (h : CLf q = 12) : LNf (q + 30) = 4 := (RF_at rm_11_57 h).2
theorem rm_11_58 : (11, 58, 31, 22, 160) ∈ RFl := by decide +kernel
theorem rf_11_58 {q : Nat} (h : CLf q = 12) : CLf (q + 31) = 22 := (RF_at rm_11_58 h).1
theorem rl_11_58 {q : Nat} (h : CLf q = 12) : LNf (q + 31) = 160 := (RF_at rm_11_58 h).2
section
variable {d : Nat} {M : MD} {pc pc' : Nat} {lo : List (Option PV)} {st : List PV} {h : PH} {Q : Option PV → PH → Prop}
theorem T2_vI_0 {idx b c : Nat} {N : MD} {r : vw_C} (hd : DI M pc (.invokevirtual idx) 3 pc') (hl : Cond.methodLink M.1.cls idx N.1 ∈ gT) (hN : MOK N 0) (hI : IOK N) (hb : CLf b = c + 1) (hr : vwCl[c]? = some r) (hrc : N.1.cls = r.1) (hw : wst st ≤ 8) (hc : C2 d N [vR b] h (onI fun x h1 => T2 (d + 1) M pc' lo (vI x :: st) h1 Q)) : T2 (d + 1) M pc lo (vR b :: st) h Q := T2_vI (as := []) hd hl hN hI hb hr hrc rfl hw rfl hc
theorem T2_vJ_0 {idx b c : Nat} {N : MD} {r : vw_C} (hd : DI M pc (.invokevirtual idx) 3 pc') (hl : Cond.methodLink M.1.cls idx N.1 ∈ gT) (hN : MOK N 0) (hI : IOK N) (hb : CLf b = c + 1) (hr : vwCl[c]? = some r) (hrc : N.1.cls = r.1) (hw : wst st ≤ 8) (hc : C2 d N [vR b] h (onJ fun x h1 => T2 (d + 1) M pc' lo (vJ x :: st) h1 Q)) : T2 (d + 1) M pc lo (vR b :: st) h Q := T2_vJ (as := []) hd hl hN hI hb hr hrc rfl hw rfl hc
theorem T2_vR_0 {idx b c : Nat} {N : MD} {r : vw_C} (hd : DI M pc (.invokevirtual idx) 3 pc') (hl : Cond.methodLink M.1.cls idx N.1 ∈ gT) (hN : MOK N 0) (hI : IOK N) (hb : CLf b = c + 1) (hr : vwCl[c]? = some r) (hrc : N.1.cls = r.1) (hw : wst st ≤ 8) (hc : C2 d N [vR b] h (onR fun x h1 => T2 (d + 1) M pc' lo (vR x :: st) h1 Q)) : T2 (d + 1) M pc lo (vR b :: st) h Q := T2_vR (as := []) hd hl hN hI hb hr hrc rfl hw rfl hc
theorem T2_vV_0 {idx b c : Nat} {N : MD} {r : vw_C} (hd : DI M pc (.invokevirtual idx) 3 pc') (hl : Cond.methodLink M.1.cls idx N.1 ∈ gT) (hN : MOK N 0) (hI : IOK N) (hb : CLf b = c + 1) (hr : vwCl[c]? = some r) (hrc : N.1.cls = r.1) (hw : wst st ≤ 8) (hc : C2 d N [vR b] h (onV fun h1 => T2 (d + 1) M pc' lo (st) h1 Q)) : T2 (d + 1) M pc lo (vR b :: st) h Q := T2_vV (as := []) hd hl hN hI hb hr hrc rfl hw rfl hc
theorem T2_sI_0 {idx : Nat} {N : MD} (hd : DI M pc (.invokestatic idx) 3 pc') (hl : Cond.methodLink M.1.cls idx N.1 ∈ gT) (hN : MOK N 0) (hI : Cond.static N.1 ∈ gT) (hw : wst st ≤ 8) (hc : C2 d N [] h (onI fun x h1 => T2 (d + 1) M pc' lo (vI x :: st) h1 Q)) : T2 (d + 1) M pc lo (st) h Q := T2_sI (as := []) hd hl hN hI rfl hw rfl hc
theorem T2_sJ_0 {idx : Nat} {N : MD} (hd : DI M pc (.invokestatic idx) 3 pc') (hl : Cond.methodLink M.1.cls idx N.1 ∈ gT) (hN : MOK N 0) (hI : Cond.static N.1 ∈ gT) (hw : wst st ≤ 8) (hc : C2 d N [] h (onJ fun x h1 => T2 (d + 1) M pc' lo (vJ x :: st) h1 Q)) : T2 (d + 1) M pc lo (st) h Q := T2_sJ (as := []) hd hl hN hI rfl hw rfl hc
theorem T2_sF_0 {idx : Nat} {N : MD} (hd : DI M pc (.invokestatic idx) 3 pc') (hl : Cond.methodLink M.1.cls idx N.1 ∈ gT) (hN : MOK N 0) (hI : Cond.static N.1 ∈ gT) (hw : wst st ≤ 8) (hc : C2 d N [] h (onF fun x h1 => T2 (d + 1) M pc' lo (vF x :: st) h1 Q)) : T2 (d + 1) M pc lo (st) h Q := T2_sF (as := []) hd hl hN hI rfl hw rfl hc
theorem T2_sV_0 {idx : Nat} {N : MD} (hd : DI M pc (.invokestatic idx) 3 pc') (hl : Cond.methodLink M.1.cls idx N.1 ∈ gT) (hN : MOK N 0) (hI : Cond.static N.1 ∈ gT) (hw : wst st ≤ 8) (hc : C2 d N [] h (onV fun h1 => T2 (d + 1) M pc' lo (st) h1 Q)) : T2 (d + 1) M pc lo (st) h Q := T2_sV (as := []) hd hl hN hI rfl hw rfl hc
theorem T2_vIs_0 {idx i : Nat} {N : MD} (hd : DI M pc (.invokevirtual idx) 3 pc') (hl : Cond.methodLink M.1.cls idx N.1 ∈ gT) (hN : MOK N 0) (hI : IOK N) (hi : i < 27) (hrc : N.1.cls = "java/lang/String") (hw : wst st ≤ 8) (hc : C2 d N [vR (1 + i)] h (onI fun x h1 => T2 (d + 1) M pc' lo (vI x :: st) h1 Q)) : T2 (d + 1) M pc lo (vR (1 + i) :: st) h Q := T2_vIs (as := []) hd hl hN hI hi hrc rfl hw rfl hc
theorem T2_vI_1 {idx b c : Nat} {N : MD} {r : vw_C} {a1 : PV} (hd : DI M pc (.invokevirtual idx) 3 pc') (hl : Cond.methodLink M.1.cls idx N.1 ∈ gT) (hN : MOK N 1) (hI : IOK N) (hb : CLf b = c + 1) (hr : vwCl[c]? = some r) (hrc : N.1.cls = r.1) (hw : wst st ≤ 8) (hc : C2 d N [vR b, a1] h (onI fun x h1 => T2 (d + 1) M pc' lo (vI x :: st) h1 Q)) : T2 (d + 1) M pc lo (a1 :: vR b :: st) h Q := T2_vI (as := [a1]) hd hl hN hI hb hr hrc rfl hw rfl hc
theorem T2_vJ_1 {idx b c : Nat} {N : MD} {r : vw_C} {a1 : PV} (hd : DI M pc (.invokevirtual idx) 3 pc') (hl : Cond.methodLink M.1.cls idx N.1 ∈ gT) (hN : MOK N 1) (hI : IOK N) (hb : CLf b = c + 1) (hr : vwCl[c]? = some r) (hrc : N.1.cls = r.1) (hw : wst st ≤ 8) (hc : C2 d N [vR b, a1] h (onJ fun x h1 => T2 (d + 1) M pc' lo (vJ x :: st) h1 Q)) : T2 (d + 1) M pc lo (a1 :: vR b :: st) h Q := T2_vJ (as := [a1]) hd hl hN hI hb hr hrc rfl hw rfl hc
theorem T2_vR_1 {idx b c : Nat} {N : MD} {r : vw_C} {a1 : PV} (hd : DI M pc (.invokevirtual idx) 3 pc') (hl : Cond.methodLink M.1.cls idx N.1 ∈ gT) (hN : MOK N 1) (hI : IOK N) (hb : CLf b = c + 1) (hr : vwCl[c]? = some r) (hrc : N.1.cls = r.1) (hw : wst st ≤ 8) (hc : C2 d N [vR b, a1] h (onR fun x h1 => T2 (d + 1) M pc' lo (vR x :: st) h1 Q)) : T2 (d + 1) M pc lo (a1 :: vR b :: st) h Q := T2_vR (as := [a1]) hd hl hN hI hb hr hrc rfl hw rfl hc
theorem T2_vV_1 {idx b c : Nat} {N : MD} {r : vw_C} {a1 : PV} (hd : DI M pc (.invokevirtual idx) 3 pc') (hl : Cond.methodLink M.1.cls idx N.1 ∈ gT) (hN : MOK N 1) (hI : IOK N) (hb : CLf b = c + 1) (hr : vwCl[c]? = some r) (hrc : N.1.cls = r.1) (hw : wst st ≤ 8) (hc : C2 d N [vR b, a1] h (onV fun h1 => T2 (d + 1) M pc' lo (st) h1 Q)) : T2 (d + 1) M pc lo (a1 :: vR b :: st) h Q := T2_vV (as := [a1]) hd hl hN hI hb hr hrc rfl hw rfl hc
theorem T2_sI_1 {idx : Nat} {N : MD} {a1 : PV} (hd : DI M pc (.invokestatic idx) 3 pc') (hl : Cond.methodLink M.1.cls idx N.1 ∈ gT) (hN : MOK N 1) (hI : Cond.static N.1 ∈ gT) (hw : wst st ≤ 8) (hc : C2 d N [a1] h (onI fun x h1 => T2 (d + 1) M pc' lo (vI x :: st) h1 Q)) : T2 (d + 1) M pc lo (a1 :: st) h Q := T2_sI (as := [a1]) hd hl hN hI rfl hw rfl hc
theorem T2_sJ_1 {idx : Nat} {N : MD} {a1 : PV} (hd : DI M pc (.invokestatic idx) 3 pc') (hl : Cond.methodLink M.1.cls idx N.1 ∈ gT) (hN : MOK N 1) (hI : Cond.static N.1 ∈ gT) (hw : wst st ≤ 8) (hc : C2 d N [a1] h (onJ fun x h1 => T2 (d + 1) M pc' lo (vJ x :: st) h1 Q)) : T2 (d + 1) M pc lo (a1 :: st) h Q := T2_sJ (as := [a1]) hd hl hN hI rfl hw rfl hc
theorem T2_sF_1 {idx : Nat} {N : MD} {a1 : PV} (hd : DI M pc (.invokestatic idx) 3 pc') (hl : Cond.methodLink M.1.cls idx N.1 ∈ gT) (hN : MOK N 1) (hI : Cond.static N.1 ∈ gT) (hw : wst st ≤ 8) (hc : C2 d N [a1] h (onF fun x h1 => T2 (d + 1) M pc' lo (vF x :: st) h1 Q)) : T2 (d + 1) M pc lo (a1 :: st) h Q := T2_sF (as := [a1]) hd hl hN hI rfl hw rfl hc
theorem T2_sV_1 {idx : Nat} {N : MD} {a1 : PV} (hd : DI M pc (.invokestatic idx) 3 pc') (hl : Cond.methodLink M.1.cls idx N.1 ∈ gT) (hN : MOK N 1) (hI : Cond.static N.1 ∈ gT) (hw : wst st ≤ 8) (hc : C2 d N [a1] h (onV fun h1 => T2 (d + 1) M pc' lo (st) h1 Q)) : T2 (d + 1) M pc lo (a1 :: st) h Q := T2_sV (as := [a1]) hd hl hN hI rfl hw rfl hc
theorem T2_vIs_1 {idx i : Nat} {N : MD} {a1 : PV} (hd : DI M pc (.invokevirtual idx) 3 pc') (hl : Cond.methodLink M.1.cls idx N.1 ∈ gT) (hN : MOK N 1) (hI : IOK N) (hi : i < 27) (hrc : N.1.cls = "java/lang/String") (hw : wst st ≤ 8) (hc : C2 d N [vR (1 + i), a1] h (onI fun x h1 => T2 (d + 1) M pc' lo (vI x :: st) h1 Q)) : T2 (d + 1) M pc lo (a1 :: vR (1 + i) :: st) h Q := T2_vIs (as := [a1]) hd hl hN hI hi hrc rfl hw rfl hc
theorem T2_vI_2 {idx b c : Nat} {N : MD} {r : vw_C} {a1 a2 : PV} (hd : DI M pc (.invokevirtual idx) 3 pc') (hl : Cond.methodLink M.1.cls idx N.1 ∈ gT) (hN : MOK N 2) (hI : IOK N) (hb : CLf b = c + 1) (hr : vwCl[c]? = some r) (hrc : N.1.cls = r.1) (hw : wst st ≤ 8) (hc : C2 d N [vR b, a1, a2] h (onI fun x h1 => T2 (d + 1) M pc' lo (vI x :: st) h1 Q)) : T2 (d + 1) M pc lo (a2 :: a1 :: vR b :: st) h Q := T2_vI (as := [a1, a2]) hd hl hN hI hb hr hrc rfl hw rfl hc
theorem T2_vJ_2 {idx b c : Nat} {N : MD} {r : vw_C} {a1 a2 : PV} (hd : DI M pc (.invokevirtual idx) 3 pc') (hl : Cond.methodLink M.1.cls idx N.1 ∈ gT) (hN : MOK N 2) (hI : IOK N) (hb : CLf b = c + 1) (hr : vwCl[c]? = some r) (hrc : N.1.cls = r.1) (hw : wst st ≤ 8) (hc : C2 d N [vR b, a1, a2] h (onJ fun x h1 => T2 (d + 1) M pc' lo (vJ x :: st) h1 Q)) : T2 (d + 1) M pc lo (a2 :: a1 :: vR b :: st) h Q := T2_vJ (as := [a1, a2]) hd hl hN hI hb hr hrc rfl hw rfl hc
theorem T2_vR_2 {idx b c : Nat} {N : MD} {r : vw_C} {a1 a2 : PV} (hd : DI M pc (.invokevirtual idx) 3 pc') (hl : Cond.methodLink M.1.cls idx N.1 ∈ gT) (hN : MOK N 2) (hI : IOK N) (hb : CLf b = c + 1) (hr : vwCl[c]? = some r) (hrc : N.1.cls = r.1) (hw : wst st ≤ 8) (hc : C2 d N [vR b, a1, a2] h (onR fun x h1 => T2 (d + 1) M pc' lo (vR x :: st) h1 Q)) : T2 (d + 1) M pc lo (a2 :: a1 :: vR b :: st) h Q := T2_vR (as := [a1, a2]) hd hl hN hI hb hr hrc rfl hw rfl hc
theorem T2_vV_2 {idx b c : Nat} {N : MD} {r : vw_C} {a1 a2 : PV} (hd : DI M pc (.invokevirtual idx) 3 pc') (hl : Cond.methodLink M.1.cls idx N.1 ∈ gT) (hN : MOK N 2) (hI : IOK N) (hb : CLf b = c + 1) (hr : vwCl[c]? = some r) (hrc : N.1.cls = r.1) (hw : wst st ≤ 8) (hc : C2 d N [vR b, a1, a2] h (onV fun h1 => T2 (d + 1) M pc' lo (st) h1 Q)) : T2 (d + 1) M pc lo (a2 :: a1 :: vR b :: st) h Q := T2_vV (as := [a1, a2]) hd hl hN hI hb hr hrc rfl hw rfl hc
theorem T2_sI_2 {idx : Nat} {N : MD} {a1 a2 : PV} (hd : DI M pc (.invokestatic idx) 3 pc') (hl : Cond.methodLink M.1.cls idx N.1 ∈ gT) (hN : MOK N 2) (hI : Cond.static N.1 ∈ gT) (hw : wst st ≤ 8) (hc : C2 d N [a1, a2] h (onI fun x h1 => T2 (d + 1) M pc' lo (vI x :: st) h1 Q)) : T2 (d + 1) M pc lo (a2 :: a1 :: st) h Q := T2_sI (as := [a1, a2]) hd hl hN hI rfl hw rfl hc
theorem T2_sJ_2 {idx : Nat} {N : MD} {a1 a2 : PV} (hd : DI M pc (.invokestatic idx) 3 pc') (hl : Cond.methodLink M.1.cls idx N.1 ∈ gT) (hN : MOK N 2) (hI : Cond.static N.1 ∈ gT) (hw : wst st ≤ 8) (hc : C2 d N [a1, a2] h (onJ fun x h1 => T2 (d + 1) M pc' lo (vJ x :: st) h1 Q)) : T2 (d + 1) M pc lo (a2 :: a1 :: st) h Q := T2_sJ (as := [a1, a2]) hd hl hN hI rfl hw rfl hc
theorem T2_sF_2 {idx : Nat} {N : MD} {a1 a2 : PV} (hd : DI M pc (.invokestatic idx) 3 pc') (hl : Cond.methodLink M.1.cls idx N.1 ∈ gT) (hN : MOK N 2) (hI : Cond.static N.1 ∈ gT) (hw : wst st ≤ 8) (hc : C2 d N [a1, a2] h (onF fun x h1 => T2 (d + 1) M pc' lo (vF x :: st) h1 Q)) : T2 (d + 1) M pc lo (a2 :: a1 :: st) h Q := T2_sF (as := [a1, a2]) hd hl hN hI rfl hw rfl hc
theorem T2_sV_2 {idx : Nat} {N : MD} {a1 a2 : PV} (hd : DI M pc (.invokestatic idx) 3 pc') (hl : Cond.methodLink M.1.cls idx N.1 ∈ gT) (hN : MOK N 2) (hI : Cond.static N.1 ∈ gT) (hw : wst st ≤ 8) (hc : C2 d N [a1, a2] h (onV fun h1 => T2 (d + 1) M pc' lo (st) h1 Q)) : T2 (d + 1) M pc lo (a2 :: a1 :: st) h Q := T2_sV (as := [a1, a2]) hd hl hN hI rfl hw rfl hc
theorem T2_vIs_2 {idx i : Nat} {N : MD} {a1 a2 : PV} (hd : DI M pc (.invokevirtual idx) 3 pc') (hl : Cond.methodLink M.1.cls idx N.1 ∈ gT) (hN : MOK N 2) (hI : IOK N) (hi : i < 27) (hrc : N.1.cls = "java/lang/String") (hw : wst st ≤ 8) (hc : C2 d N [vR (1 + i), a1, a2] h (onI fun x h1 => T2 (d + 1) M pc' lo (vI x :: st) h1 Q)) : T2 (d + 1) M pc lo (a2 :: a1 :: vR (1 + i) :: st) h Q := T2_vIs (as := [a1, a2]) hd hl hN hI hi hrc rfl hw rfl hc
theorem T2_vI_3 {idx b c : Nat} {N : MD} {r : vw_C} {a1 a2 a3 : PV} (hd : DI M pc (.invokevirtual idx) 3 pc') (hl : Cond.methodLink M.1.cls idx N.1 ∈ gT) (hN : MOK N 3) (hI : IOK N) (hb : CLf b = c + 1) (hr : vwCl[c]? = some r) (hrc : N.1.cls = r.1) (hw : wst st ≤ 8) (hc : C2 d N [vR b, a1, a2, a3] h (onI fun x h1 => T2 (d + 1) M pc' lo (vI x :: st) h1 Q)) : T2 (d + 1) M pc lo (a3 :: a2 :: a1 :: vR b :: st) h Q := T2_vI (as := [a1, a2, a3]) hd hl hN hI hb hr hrc rfl hw rfl hc
theorem T2_vJ_3 {idx b c : Nat} {N : MD} {r : vw_C} {a1 a2 a3 : PV} (hd : DI M pc (.invokevirtual idx) 3 pc') (hl : Cond.methodLink M.1.cls idx N.1 ∈ gT) (hN : MOK N 3) (hI : IOK N) (hb : CLf b = c + 1) (hr : vwCl[c]? = some r) (hrc : N.1.cls = r.1) (hw : wst st ≤ 8) (hc : C2 d N [vR b, a1, a2, a3] h (onJ fun x h1 => T2 (d + 1) M pc' lo (vJ x :: st) h1 Q)) : T2 (d + 1) M pc lo (a3 :: a2 :: a1 :: vR b :: st) h Q := T2_vJ (as := [a1, a2, a3]) hd hl hN hI hb hr hrc rfl hw rfl hc
theorem T2_vR_3 {idx b c : Nat} {N : MD} {r : vw_C} {a1 a2 a3 : PV} (hd : DI M pc (.invokevirtual idx) 3 pc') (hl : Cond.methodLink M.1.cls idx N.1 ∈ gT) (hN : MOK N 3) (hI : IOK N) (hb : CLf b = c + 1) (hr : vwCl[c]? = some r) (hrc : N.1.cls = r.1) (hw : wst st ≤ 8) (hc : C2 d N [vR b, a1, a2, a3] h (onR fun x h1 => T2 (d + 1) M pc' lo (vR x :: st) h1 Q)) : T2 (d + 1) M pc lo (a3 :: a2 :: a1 :: vR b :: st) h Q := T2_vR (as := [a1, a2, a3]) hd hl hN hI hb hr hrc rfl hw rfl hc
theorem T2_vV_3 {idx b c : Nat} {N : MD} {r : vw_C} {a1 a2 a3 : PV} (hd : DI M pc (.invokevirtual idx) 3 pc') (hl : Cond.methodLink M.1.cls idx N.1 ∈ gT) (hN : MOK N 3) (hI : IOK N) (hb : CLf b = c + 1) (hr : vwCl[c]? = some r) (hrc : N.1.cls = r.1) (hw : wst st ≤ 8) (hc : C2 d N [vR b, a1, a2, a3] h (onV fun h1 => T2 (d + 1) M pc' lo (st) h1 Q)) : T2 (d + 1) M pc lo (a3 :: a2 :: a1 :: vR b :: st) h Q := T2_vV (as := [a1, a2, a3]) hd hl hN hI hb hr hrc rfl hw rfl hc
theorem T2_sI_3 {idx : Nat} {N : MD} {a1 a2 a3 : PV} (hd : DI M pc (.invokestatic idx) 3 pc') (hl : Cond.methodLink M.1.cls idx N.1 ∈ gT) (hN : MOK N 3) (hI : Cond.static N.1 ∈ gT) (hw : wst st ≤ 8) (hc : C2 d N [a1, a2, a3] h (onI fun x h1 => T2 (d + 1) M pc' lo (vI x :: st) h1 Q)) : T2 (d + 1) M pc lo (a3 :: a2 :: a1 :: st) h Q := T2_sI (as := [a1, a2, a3]) hd hl hN hI rfl hw rfl hc
theorem T2_sJ_3 {idx : Nat} {N : MD} {a1 a2 a3 : PV} (hd : DI M pc (.invokestatic idx) 3 pc') (hl : Cond.methodLink M.1.cls idx N.1 ∈ gT) (hN : MOK N 3) (hI : Cond.static N.1 ∈ gT) (hw : wst st ≤ 8) (hc : C2 d N [a1, a2, a3] h (onJ fun x h1 => T2 (d + 1) M pc' lo (vJ x :: st) h1 Q)) : T2 (d + 1) M pc lo (a3 :: a2 :: a1 :: st) h Q := T2_sJ (as := [a1, a2, a3]) hd hl hN hI rfl hw rfl hc
theorem T2_sF_3 {idx : Nat} {N : MD} {a1 a2 a3 : PV} (hd : DI M pc (.invokestatic idx) 3 pc') (hl : Cond.methodLink M.1.cls idx N.1 ∈ gT) (hN : MOK N 3) (hI : Cond.static N.1 ∈ gT) (hw : wst st ≤ 8) (hc : C2 d N [a1, a2, a3] h (onF fun x h1 => T2 (d + 1) M pc' lo (vF x :: st) h1 Q)) : T2 (d + 1) M pc lo (a3 :: a2 :: a1 :: st) h Q := T2_sF (as := [a1, a2, a3]) hd hl hN hI rfl hw rfl hc
theorem T2_sV_3 {idx : Nat} {N : MD} {a1 a2 a3 : PV} (hd : DI M pc (.invokestatic idx) 3 pc') (hl : Cond.methodLink M.1.cls idx N.1 ∈ gT) (hN : MOK N 3) (hI : Cond.static N.1 ∈ gT) (hw : wst st ≤ 8) (hc : C2 d N [a1, a2, a3] h (onV fun h1 => T2 (d + 1) M pc' lo (st) h1 Q)) : T2 (d + 1) M pc lo (a3 :: a2 :: a1 :: st) h Q := T2_sV (as := [a1, a2, a3]) hd hl hN hI rfl hw rfl hc
theorem T2_vIs_3 {idx i : Nat} {N : MD} {a1 a2 a3 : PV} (hd : DI M pc (.invokevirtual idx) 3 pc') (hl : Cond.methodLink M.1.cls idx N.1 ∈ gT) (hN : MOK N 3) (hI : IOK N) (hi : i < 27) (hrc : N.1.cls = "java/lang/String") (hw : wst st ≤ 8) (hc : C2 d N [vR (1 + i), a1, a2, a3] h (onI fun x h1 => T2 (d + 1) M pc' lo (vI x :: st) h1 Q)) : T2 (d + 1) M pc lo (a3 :: a2 :: a1 :: vR (1 + i) :: st) h Q := T2_vIs (as := [a1, a2, a3]) hd hl hN hI hi hrc rfl hw rfl hc
theorem T2_vI_4 {idx b c : Nat} {N : MD} {r : vw_C} {a1 a2 a3 a4 : PV} (hd : DI M pc (.invokevirtual idx) 3 pc') (hl : Cond.methodLink M.1.cls idx N.1 ∈ gT) (hN : MOK N 4) (hI : IOK N) (hb : CLf b = c + 1) (hr : vwCl[c]? = some r) (hrc : N.1.cls = r.1) (hw : wst st ≤ 8) (hc : C2 d N [vR b, a1, a2, a3, a4] h (onI fun x h1 => T2 (d + 1) M pc' lo (vI x :: st) h1 Q)) : T2 (d + 1) M pc lo (a4 :: a3 :: a2 :: a1 :: vR b :: st) h Q := T2_vI (as := [a1, a2, a3, a4]) hd hl hN hI hb hr hrc rfl hw rfl hc
theorem T2_vJ_4 {idx b c : Nat} {N : MD} {r : vw_C} {a1 a2 a3 a4 : PV} (hd : DI M pc (.invokevirtual idx) 3 pc') (hl : Cond.methodLink M.1.cls idx N.1 ∈ gT) (hN : MOK N 4) (hI : IOK N) (hb : CLf b = c + 1) (hr : vwCl[c]? = some r) (hrc : N.1.cls = r.1) (hw : wst st ≤ 8) (hc : C2 d N [vR b, a1, a2, a3, a4] h (onJ fun x h1 => T2 (d + 1) M pc' lo (vJ x :: st) h1 Q)) : T2 (d + 1) M pc lo (a4 :: a3 :: a2 :: a1 :: vR b :: st) h Q := T2_vJ (as := [a1, a2, a3, a4]) hd hl hN hI hb hr hrc rfl hw rfl hc
theorem T2_vR_4 {idx b c : Nat} {N : MD} {r : vw_C} {a1 a2 a3 a4 : PV} (hd : DI M pc (.invokevirtual idx) 3 pc') (hl : Cond.methodLink M.1.cls idx N.1 ∈ gT) (hN : MOK N 4) (hI : IOK N) (hb : CLf b = c + 1) (hr : vwCl[c]? = some r) (hrc : N.1.cls = r.1) (hw : wst st ≤ 8) (hc : C2 d N [vR b, a1, a2, a3, a4] h (onR fun x h1 => T2 (d + 1) M pc' lo (vR x :: st) h1 Q)) : T2 (d + 1) M pc lo (a4 :: a3 :: a2 :: a1 :: vR b :: st) h Q := T2_vR (as := [a1, a2, a3, a4]) hd hl hN hI hb hr hrc rfl hw rfl hc
theorem T2_vV_4 {idx b c : Nat} {N : MD} {r : vw_C} {a1 a2 a3 a4 : PV} (hd : DI M pc (.invokevirtual idx) 3 pc') (hl : Cond.methodLink M.1.cls idx N.1 ∈ gT) (hN : MOK N 4) (hI : IOK N) (hb : CLf b = c + 1) (hr : vwCl[c]? = some r) (hrc : N.1.cls = r.1) (hw : wst st ≤ 8) (hc : C2 d N [vR b, a1, a2, a3, a4] h (onV fun h1 => T2 (d + 1) M pc' lo (st) h1 Q)) : T2 (d + 1) M pc lo (a4 :: a3 :: a2 :: a1 :: vR b :: st) h Q := T2_vV (as := [a1, a2, a3, a4]) hd hl hN hI hb hr hrc rfl hw rfl hc
theorem T2_sI_4 {idx : Nat} {N : MD} {a1 a2 a3 a4 : PV} (hd : DI M pc (.invokestatic idx) 3 pc') (hl : Cond.methodLink M.1.cls idx N.1 ∈ gT) (hN : MOK N 4) (hI : Cond.static N.1 ∈ gT) (hw : wst st ≤ 8) (hc : C2 d N [a1, a2, a3, a4] h (onI fun x h1 => T2 (d + 1) M pc' lo (vI x :: st) h1 Q)) : T2 (d + 1) M pc lo (a4 :: a3 :: a2 :: a1 :: st) h Q := T2_sI (as := [a1, a2, a3, a4]) hd hl hN hI rfl hw rfl hc
theorem T2_sJ_4 {idx : Nat} {N : MD} {a1 a2 a3 a4 : PV} (hd : DI M pc (.invokestatic idx) 3 pc') (hl : Cond.methodLink M.1.cls idx N.1 ∈ gT) (hN : MOK N 4) (hI : Cond.static N.1 ∈ gT) (hw : wst st ≤ 8) (hc : C2 d N [a1, a2, a3, a4] h (onJ fun x h1 => T2 (d + 1) M pc' lo (vJ x :: st) h1 Q)) : T2 (d + 1) M pc lo (a4 :: a3 :: a2 :: a1 :: st) h Q := T2_sJ (as := [a1, a2, a3, a4]) hd hl hN hI rfl hw rfl hc
theorem T2_sF_4 {idx : Nat} {N : MD} {a1 a2 a3 a4 : PV} (hd : DI M pc (.invokestatic idx) 3 pc') (hl : Cond.methodLink M.1.cls idx N.1 ∈ gT) (hN : MOK N 4) (hI : Cond.static N.1 ∈ gT) (hw : wst st ≤ 8) (hc : C2 d N [a1, a2, a3, a4] h (onF fun x h1 => T2 (d + 1) M pc' lo (vF x :: st) h1 Q)) : T2 (d + 1) M pc lo (a4 :: a3 :: a2 :: a1 :: st) h Q := T2_sF (as := [a1, a2, a3, a4]) hd hl hN hI rfl hw rfl hc
theorem T2_sV_4 {idx : Nat} {N : MD} {a1 a2 a3 a4 : PV} (hd : DI M pc (.invokestatic idx) 3 pc') (hl : Cond.methodLink M.1.cls idx N.1 ∈ gT) (hN : MOK N 4) (hI : Cond.static N.1 ∈ gT) (hw : wst st ≤ 8) (hc : C2 d N [a1, a2, a3, a4] h (onV fun h1 => T2 (d + 1) M pc' lo (st) h1 Q)) : T2 (d + 1) M pc lo (a4 :: a3 :: a2 :: a1 :: st) h Q := T2_sV (as := [a1, a2, a3, a4]) hd hl hN hI rfl hw rfl hc
theorem T2_vIs_4 {idx i : Nat} {N : MD} {a1 a2 a3 a4 : PV} (hd : DI M pc (.invokevirtual idx) 3 pc') (hl : Cond.methodLink M.1.cls idx N.1 ∈ gT) (hN : MOK N 4) (hI : IOK N) (hi : i < 27) (hrc : N.1.cls = "java/lang/String") (hw : wst st ≤ 8) (hc : C2 d N [vR (1 + i), a1, a2, a3, a4] h (onI fun x h1 => T2 (d + 1) M pc' lo (vI x :: st) h1 Q)) : T2 (d + 1) M pc lo (a4 :: a3 :: a2 :: a1 :: vR (1 + i) :: st) h Q := T2_vIs (as := [a1, a2, a3, a4]) hd hl hN hI hi hrc rfl hw rfl hc
theorem T2_vI_5 {idx b c : Nat} {N : MD} {r : vw_C} {a1 a2 a3 a4 a5 : PV} (hd : DI M pc (.invokevirtual idx) 3 pc') (hl : Cond.methodLink M.1.cls idx N.1 ∈ gT) (hN : MOK N 5) (hI : IOK N) (hb : CLf b = c + 1) (hr : vwCl[c]? = some r) (hrc : N.1.cls = r.1) (hw : wst st ≤ 8) (hc : C2 d N [vR b, a1, a2, a3, a4, a5] h (onI fun x h1 => T2 (d + 1) M pc' lo (vI x :: st) h1 Q)) : T2 (d + 1) M pc lo (a5 :: a4 :: a3 :: a2 :: a1 :: vR b :: st) h Q := T2_vI (as := [a1, a2, a3, a4, a5]) hd hl hN hI hb hr hrc rfl hw rfl hc
theorem T2_vJ_5 {idx b c : Nat} {N : MD} {r : vw_C} {a1 a2 a3 a4 a5 : PV} (hd : DI M pc (.invokevirtual idx) 3 pc') (hl : Cond.methodLink M.1.cls idx N.1 ∈ gT) (hN : MOK N 5) (hI : IOK N) (hb : CLf b = c + 1) (hr : vwCl[c]? = some r) (hrc : N.1.cls = r.1) (hw : wst st ≤ 8) (hc : C2 d N [vR b, a1, a2, a3, a4, a5] h (onJ fun x h1 => T2 (d + 1) M pc' lo (vJ x :: st) h1 Q)) : T2 (d + 1) M pc lo (a5 :: a4 :: a3 :: a2 :: a1 :: vR b :: st) h Q := T2_vJ (as := [a1, a2, a3, a4, a5]) hd hl hN hI hb hr hrc rfl hw rfl hc
theorem T2_vR_5 {idx b c : Nat} {N : MD} {r : vw_C} {a1 a2 a3 a4 a5 : PV} (hd : DI M pc (.invokevirtual idx) 3 pc') (hl : Cond.methodLink M.1.cls idx N.1 ∈ gT) (hN : MOK N 5) (hI : IOK N) (hb : CLf b = c + 1) (hr : vwCl[c]? = some r) (hrc : N.1.cls = r.1) (hw : wst st ≤ 8) (hc : C2 d N [vR b, a1, a2, a3, a4, a5] h (onR fun x h1 => T2 (d + 1) M pc' lo (vR x :: st) h1 Q)) : T2 (d + 1) M pc lo (a5 :: a4 :: a3 :: a2 :: a1 :: vR b :: st) h Q := T2_vR (as := [a1, a2, a3, a4, a5]) hd hl hN hI hb hr hrc rfl hw rfl hc
theorem T2_vV_5 {idx b c : Nat} {N : MD} {r : vw_C} {a1 a2 a3 a4 a5 : PV} (hd : DI M pc (.invokevirtual idx) 3 pc') (hl : Cond.methodLink M.1.cls idx N.1 ∈ gT) (hN : MOK N 5) (hI : IOK N) (hb : CLf b = c + 1) (hr : vwCl[c]? = some r) (hrc : N.1.cls = r.1) (hw : wst st ≤ 8) (hc : C2 d N [vR b, a1, a2, a3, a4, a5] h (onV fun h1 => T2 (d + 1) M pc' lo (st) h1 Q)) : T2 (d + 1) M pc lo (a5 :: a4 :: a3 :: a2 :: a1 :: vR b :: st) h Q := T2_vV (as := [a1, a2, a3, a4, a5]) hd hl hN hI hb hr hrc rfl hw rfl hc
theorem T2_sI_5 {idx : Nat} {N : MD} {a1 a2 a3 a4 a5 : PV} (hd : DI M pc (.invokestatic idx) 3 pc') (hl : Cond.methodLink M.1.cls idx N.1 ∈ gT) (hN : MOK N 5) (hI : Cond.static N.1 ∈ gT) (hw : wst st ≤ 8) (hc : C2 d N [a1, a2, a3, a4, a5] h (onI fun x h1 => T2 (d + 1) M pc' lo (vI x :: st) h1 Q)) : T2 (d + 1) M pc lo (a5 :: a4 :: a3 :: a2 :: a1 :: st) h Q := T2_sI (as := [a1, a2, a3, a4, a5]) hd hl hN hI rfl hw rfl hc
theorem T2_sJ_5 {idx : Nat} {N : MD} {a1 a2 a3 a4 a5 : PV} (hd : DI M pc (.invokestatic idx) 3 pc') (hl : Cond.methodLink M.1.cls idx N.1 ∈ gT) (hN : MOK N 5) (hI : Cond.static N.1 ∈ gT) (hw : wst st ≤ 8) (hc : C2 d N [a1, a2, a3, a4, a5] h (onJ fun x h1 => T2 (d + 1) M pc' lo (vJ x :: st) h1 Q)) : T2 (d + 1) M pc lo (a5 :: a4 :: a3 :: a2 :: a1 :: st) h Q := T2_sJ (as := [a1, a2, a3, a4, a5]) hd hl hN hI rfl hw rfl hc
theorem T2_sF_5 {idx : Nat} {N : MD} {a1 a2 a3 a4 a5 : PV} (hd : DI M pc (.invokestatic idx) 3 pc') (hl : Cond.methodLink M.1.cls idx N.1 ∈ gT) (hN : MOK N 5) (hI : Cond.static N.1 ∈ gT) (hw : wst st ≤ 8) (hc : C2 d N [a1, a2, a3, a4, a5] h (onF fun x h1 => T2 (d + 1) M pc' lo (vF x :: st) h1 Q)) : T2 (d + 1) M pc lo (a5 :: a4 :: a3 :: a2 :: a1 :: st) h Q := T2_sF (as := [a1, a2, a3, a4, a5]) hd hl hN hI rfl hw rfl hc
theorem T2_sV_5 {idx : Nat} {N : MD} {a1 a2 a3 a4 a5 : PV} (hd : DI M pc (.invokestatic idx) 3 pc') (hl : Cond.methodLink M.1.cls idx N.1 ∈ gT) (hN : MOK N 5) (hI : Cond.static N.1 ∈ gT) (hw : wst st ≤ 8) (hc : C2 d N [a1, a2, a3, a4, a5] h (onV fun h1 => T2 (d + 1) M pc' lo (st) h1 Q)) : T2 (d + 1) M pc lo (a5 :: a4 :: a3 :: a2 :: a1 :: st) h Q := T2_sV (as := [a1, a2, a3, a4, a5]) hd hl hN hI rfl hw rfl hc
theorem T2_vIs_5 {idx i : Nat} {N : MD} {a1 a2 a3 a4 a5 : PV} (hd : DI M pc (.invokevirtual idx) 3 pc') (hl : Cond.methodLink M.1.cls idx N.1 ∈ gT) (hN : MOK N 5) (hI : IOK N) (hi : i < 27) (hrc : N.1.cls = "java/lang/String") (hw : wst st ≤ 8) (hc : C2 d N [vR (1 + i), a1, a2, a3, a4, a5] h (onI fun x h1 => T2 (d + 1) M pc' lo (vI x :: st) h1 Q)) : T2 (d + 1) M pc lo (a5 :: a4 :: a3 :: a2 :: a1 :: vR (1 + i) :: st) h Q := T2_vIs (as := [a1, a2, a3, a4, a5]) hd hl hN hI hi hrc rfl hw rfl hc
theorem T2_lif_eq {a b : Int} {off : Int} {tgt pc1 : Nat} (hd : DI M pc .lcmp 1 pc1) (hd2 : DI M pc1 (.ifCond .eq off) 3 pc') (ht : (pc1 : Int) + off = tgt) (kt : a = b → T2 d M tgt lo st h Q) (kf : a ≠ b → T2 d M pc' lo st h Q) : T2 d M pc lo (vJ b :: vJ a :: st) h Q := by
  refine T2_lcmp hd (T2_if_eq hd2 ht (fun z => kt ?_) (fun z => kf ?_)) <;> (unfold lcmpv at z; split at z <;> (try split at z) <;> omega)
theorem T2_lif_ne {a b : Int} {off : Int} {tgt pc1 : Nat} (hd : DI M pc .lcmp 1 pc1) (hd2 : DI M pc1 (.ifCond .ne off) 3 pc') (ht : (pc1 : Int) + off = tgt) (kt : a ≠ b → T2 d M tgt lo st h Q) (kf : a = b → T2 d M pc' lo st h Q) : T2 d M pc lo (vJ b :: vJ a :: st) h Q := by
  refine T2_lcmp hd (T2_if_ne hd2 ht (fun z => kt ?_) (fun z => kf ?_)) <;> (unfold lcmpv at z; split at z <;> (try split at z) <;> omega)
theorem T2_lif_lt {a b : Int} {off : Int} {tgt pc1 : Nat} (hd : DI M pc .lcmp 1 pc1) (hd2 : DI M pc1 (.ifCond .lt off) 3 pc') (ht : (pc1 : Int) + off = tgt) (kt : a < b → T2 d M tgt lo st h Q) (kf : b ≤ a → T2 d M pc' lo st h Q) : T2 d M pc lo (vJ b :: vJ a :: st) h Q := by
  refine T2_lcmp hd (T2_if_lt hd2 ht (fun z => kt ?_) (fun z => kf ?_)) <;> (unfold lcmpv at z; split at z <;> (try split at z) <;> omega)
theorem T2_lif_ge {a b : Int} {off : Int} {tgt pc1 : Nat} (hd : DI M pc .lcmp 1 pc1) (hd2 : DI M pc1 (.ifCond .ge off) 3 pc') (ht : (pc1 : Int) + off = tgt) (kt : b ≤ a → T2 d M tgt lo st h Q) (kf : a < b → T2 d M pc' lo st h Q) : T2 d M pc lo (vJ b :: vJ a :: st) h Q := by
  refine T2_lcmp hd (T2_if_ge hd2 ht (fun z => kt ?_) (fun z => kf ?_)) <;> (unfold lcmpv at z; split at z <;> (try split at z) <;> omega)
theorem T2_lif_gt {a b : Int} {off : Int} {tgt pc1 : Nat} (hd : DI M pc .lcmp 1 pc1) (hd2 : DI M pc1 (.ifCond .gt off) 3 pc') (ht : (pc1 : Int) + off = tgt) (kt : b < a → T2 d M tgt lo st h Q) (kf : a ≤ b → T2 d M pc' lo st h Q) : T2 d M pc lo (vJ b :: vJ a :: st) h Q := by
  refine T2_lcmp hd (T2_if_gt hd2 ht (fun z => kt ?_) (fun z => kf ?_)) <;> (unfold lcmpv at z; split at z <;> (try split at z) <;> omega)
theorem T2_lif_le {a b : Int} {off : Int} {tgt pc1 : Nat} (hd : DI M pc .lcmp 1 pc1) (hd2 : DI M pc1 (.ifCond .le off) 3 pc') (ht : (pc1 : Int) + off = tgt) (kt : a ≤ b → T2 d M tgt lo st h Q) (kf : b < a → T2 d M pc' lo st h Q) : T2 d M pc lo (vJ b :: vJ a :: st) h Q := by
  refine T2_lcmp hd (T2_if_le hd2 ht (fun z => kt ?_) (fun z => kf ?_)) <;> (unfold lcmpv at z; split at z <;> (try split at z) <;> omega)
end
