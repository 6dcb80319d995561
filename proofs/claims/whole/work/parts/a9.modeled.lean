/-! the reference made -/
def mi_X11_init : MI := (⟨RX11, "<init>", "()V"⟩, prog_13_method_1_code, 1, none)
theorem mg_X11_init : mG mi_X11_init 0 := ⟨tb_in 13 (by decide +kernel) (by decide +kernel), ⟨by decide +kernel, by decide +kernel, by decide +kernel⟩, tb_in 1194 (by decide +kernel) (by decide +kernel), by decide⟩
theorem mj_X11_init : mi_X11_init.1.cls = RX11 ∧ mi_X11_init.1.name = "<init>" ∧ mi_X11_init.2.2.2 = none ∧ Cond.instanceMethod mi_X11_init.1 ∈ tb := ⟨rfl, rfl, rfl, tb_in 1193 (by decide +kernel) (by decide +kernel)⟩
theorem df_X11 : ∀ j, j < 65 → defaultValue (tyX11 j) = vp_V (nul 11) j := by
  intro j hj
  rcases (show j = 0 ∨ j = 1 ∨ j = 2 ∨ j = 3 ∨ j = 4 ∨ j = 5 ∨ j = 6 ∨ j = 7 ∨ j = 8 ∨ j = 9 ∨ j = 10 ∨ j = 11 ∨ j = 12 ∨ j = 13 ∨ j = 14 ∨ j = 15 ∨ j = 16 ∨ j = 17 ∨ j = 18 ∨ j = 19 ∨ j = 20 ∨ j = 21 ∨ j = 22 ∨ j = 23 ∨ j = 24 ∨ j = 25 ∨ j = 26 ∨ j = 27 ∨ j = 28 ∨ j = 29 ∨ j = 30 ∨ j = 31 ∨ j = 32 ∨ j = 33 ∨ j = 34 ∨ j = 35 ∨ j = 36 ∨ j = 37 ∨ j = 38 ∨ j = 39 ∨ j = 40 ∨ j = 41 ∨ j = 42 ∨ j = 43 ∨ j = 44 ∨ j = 45 ∨ j = 46 ∨ j = 47 ∨ j = 48 ∨ j = 49 ∨ j = 50 ∨ j = 51 ∨ j = 52 ∨ j = 53 ∨ j = 54 ∨ j = 55 ∨ j = 56 ∨ j = 57 ∨ j = 58 ∨ j = 59 ∨ j = 60 ∨ j = 61 ∨ j = 62 ∨ j = 63 ∨ j = 64 by omega) with rfl | rfl | rfl | rfl | rfl | rfl | rfl | rfl | rfl | rfl | rfl | rfl | rfl | rfl | rfl | rfl | rfl | rfl | rfl | rfl | rfl | rfl | rfl | rfl | rfl | rfl | rfl | rfl | rfl | rfl | rfl | rfl | rfl | rfl | rfl | rfl | rfl | rfl | rfl | rfl | rfl | rfl | rfl | rfl | rfl | rfl | rfl | rfl | rfl | rfl | rfl | rfl | rfl | rfl | rfl | rfl | rfl | rfl | rfl | rfl | rfl | rfl | rfl | rfl | rfl <;> rfl
theorem il_X11 : Cond.instantiable RX11 65 ∈ tb := tb_in 1191 (by decide +kernel) (by decide +kernel)
theorem d_X11_init_0 : DC mi_X11_init 0 (.aload_n 0) 1 1 := ⟨by decide +kernel, rfl⟩
theorem d_X11_init_1 : DC mi_X11_init 1 (.invokespecial 1) 3 4 := ⟨by decide +kernel, rfl⟩
theorem d_X11_init_4 : DC mi_X11_init 4 (.aload_n 0) 1 5 := ⟨by decide +kernel, rfl⟩
theorem d_X11_init_5 : DC mi_X11_init 5 (.sipush 700) 3 8 := ⟨by decide +kernel, rfl⟩
theorem d_X11_init_8 : DC mi_X11_init 8 (.newarray .int) 2 10 := ⟨by decide +kernel, rfl⟩
theorem d_X11_init_10 : DC mi_X11_init 10 (.putfield 7) 3 13 := ⟨by decide +kernel, rfl⟩
theorem d_X11_init_13 : DC mi_X11_init 13 (.aload_n 0) 1 14 := ⟨by decide +kernel, rfl⟩
theorem d_X11_init_14 : DC mi_X11_init 14 (.bipush 14) 2 16 := ⟨by decide +kernel, rfl⟩
theorem d_X11_init_16 : DC mi_X11_init 16 (.newarray .int) 2 18 := ⟨by decide +kernel, rfl⟩
theorem d_X11_init_18 : DC mi_X11_init 18 (.putfield 13) 3 21 := ⟨by decide +kernel, rfl⟩
theorem d_X11_init_21 : DC mi_X11_init 21 (.aload_n 0) 1 22 := ⟨by decide +kernel, rfl⟩
theorem d_X11_init_22 : DC mi_X11_init 22 (.bipush 12) 2 24 := ⟨by decide +kernel, rfl⟩
theorem d_X11_init_24 : DC mi_X11_init 24 (.newarray .int) 2 26 := ⟨by decide +kernel, rfl⟩
theorem d_X11_init_26 : DC mi_X11_init 26 (.putfield 16) 3 29 := ⟨by decide +kernel, rfl⟩
theorem d_X11_init_29 : DC mi_X11_init 29 (.aload_n 0) 1 30 := ⟨by decide +kernel, rfl⟩
theorem d_X11_init_30 : DC mi_X11_init 30 (.bipush 12) 2 32 := ⟨by decide +kernel, rfl⟩
theorem d_X11_init_32 : DC mi_X11_init 32 (.newarray .int) 2 34 := ⟨by decide +kernel, rfl⟩
theorem d_X11_init_34 : DC mi_X11_init 34 (.putfield 19) 3 37 := ⟨by decide +kernel, rfl⟩
theorem d_X11_init_37 : DC mi_X11_init 37 (.aload_n 0) 1 38 := ⟨by decide +kernel, rfl⟩
theorem d_X11_init_38 : DC mi_X11_init 38 (.bipush 12) 2 40 := ⟨by decide +kernel, rfl⟩
theorem d_X11_init_40 : DC mi_X11_init 40 (.newarray .int) 2 42 := ⟨by decide +kernel, rfl⟩
theorem d_X11_init_42 : DC mi_X11_init 42 (.putfield 22) 3 45 := ⟨by decide +kernel, rfl⟩
theorem d_X11_init_45 : DC mi_X11_init 45 (.aload_n 0) 1 46 := ⟨by decide +kernel, rfl⟩
theorem d_X11_init_46 : DC mi_X11_init 46 (.bipush 12) 2 48 := ⟨by decide +kernel, rfl⟩
theorem d_X11_init_48 : DC mi_X11_init 48 (.newarray .int) 2 50 := ⟨by decide +kernel, rfl⟩
theorem d_X11_init_50 : DC mi_X11_init 50 (.putfield 25) 3 53 := ⟨by decide +kernel, rfl⟩
theorem d_X11_init_53 : DC mi_X11_init 53 (.aload_n 0) 1 54 := ⟨by decide +kernel, rfl⟩
theorem d_X11_init_54 : DC mi_X11_init 54 (.bipush 72) 2 56 := ⟨by decide +kernel, rfl⟩
theorem d_X11_init_56 : DC mi_X11_init 56 (.newarray .int) 2 58 := ⟨by decide +kernel, rfl⟩
theorem d_X11_init_58 : DC mi_X11_init 58 (.putfield 28) 3 61 := ⟨by decide +kernel, rfl⟩
theorem d_X11_init_61 : DC mi_X11_init 61 (.aload_n 0) 1 62 := ⟨by decide +kernel, rfl⟩
theorem d_X11_init_62 : DC mi_X11_init 62 (.bipush 12) 2 64 := ⟨by decide +kernel, rfl⟩
theorem d_X11_init_64 : DC mi_X11_init 64 (.newarray .int) 2 66 := ⟨by decide +kernel, rfl⟩
theorem d_X11_init_66 : DC mi_X11_init 66 (.putfield 31) 3 69 := ⟨by decide +kernel, rfl⟩
theorem d_X11_init_69 : DC mi_X11_init 69 (.aload_n 0) 1 70 := ⟨by decide +kernel, rfl⟩
theorem d_X11_init_70 : DC mi_X11_init 70 (.bipush 12) 2 72 := ⟨by decide +kernel, rfl⟩
theorem d_X11_init_72 : DC mi_X11_init 72 (.newarray .int) 2 74 := ⟨by decide +kernel, rfl⟩
theorem d_X11_init_74 : DC mi_X11_init 74 (.putfield 34) 3 77 := ⟨by decide +kernel, rfl⟩
theorem d_X11_init_77 : DC mi_X11_init 77 (.aload_n 0) 1 78 := ⟨by decide +kernel, rfl⟩
theorem d_X11_init_78 : DC mi_X11_init 78 (.bipush 12) 2 80 := ⟨by decide +kernel, rfl⟩
theorem d_X11_init_80 : DC mi_X11_init 80 (.newarray .int) 2 82 := ⟨by decide +kernel, rfl⟩
theorem d_X11_init_82 : DC mi_X11_init 82 (.putfield 37) 3 85 := ⟨by decide +kernel, rfl⟩
theorem d_X11_init_85 : DC mi_X11_init 85 (.aload_n 0) 1 86 := ⟨by decide +kernel, rfl⟩
theorem d_X11_init_86 : DC mi_X11_init 86 (.bipush 40) 2 88 := ⟨by decide +kernel, rfl⟩
theorem d_X11_init_88 : DC mi_X11_init 88 (.newarray .int) 2 90 := ⟨by decide +kernel, rfl⟩
theorem d_X11_init_90 : DC mi_X11_init 90 (.putfield 40) 3 93 := ⟨by decide +kernel, rfl⟩
theorem d_X11_init_93 : DC mi_X11_init 93 (.aload_n 0) 1 94 := ⟨by decide +kernel, rfl⟩
theorem d_X11_init_94 : DC mi_X11_init 94 (.bipush 40) 2 96 := ⟨by decide +kernel, rfl⟩
theorem d_X11_init_96 : DC mi_X11_init 96 (.newarray .int) 2 98 := ⟨by decide +kernel, rfl⟩
theorem d_X11_init_98 : DC mi_X11_init 98 (.putfield 43) 3 101 := ⟨by decide +kernel, rfl⟩
theorem d_X11_init_101 : DC mi_X11_init 101 (.aload_n 0) 1 102 := ⟨by decide +kernel, rfl⟩
theorem d_X11_init_102 : DC mi_X11_init 102 (.bipush 40) 2 104 := ⟨by decide +kernel, rfl⟩
theorem d_X11_init_104 : DC mi_X11_init 104 (.newarray .int) 2 106 := ⟨by decide +kernel, rfl⟩
theorem d_X11_init_106 : DC mi_X11_init 106 (.putfield 46) 3 109 := ⟨by decide +kernel, rfl⟩
theorem d_X11_init_109 : DC mi_X11_init 109 (.aload_n 0) 1 110 := ⟨by decide +kernel, rfl⟩
theorem d_X11_init_110 : DC mi_X11_init 110 (.bipush 40) 2 112 := ⟨by decide +kernel, rfl⟩
theorem d_X11_init_112 : DC mi_X11_init 112 (.newarray .int) 2 114 := ⟨by decide +kernel, rfl⟩
theorem d_X11_init_114 : DC mi_X11_init 114 (.putfield 49) 3 117 := ⟨by decide +kernel, rfl⟩
theorem d_X11_init_117 : DC mi_X11_init 117 (.aload_n 0) 1 118 := ⟨by decide +kernel, rfl⟩
theorem d_X11_init_118 : DC mi_X11_init 118 (.bipush 6) 2 120 := ⟨by decide +kernel, rfl⟩
theorem d_X11_init_120 : DC mi_X11_init 120 (.newarray .int) 2 122 := ⟨by decide +kernel, rfl⟩
theorem d_X11_init_122 : DC mi_X11_init 122 (.putfield 52) 3 125 := ⟨by decide +kernel, rfl⟩
theorem d_X11_init_125 : DC mi_X11_init 125 (.aload_n 0) 1 126 := ⟨by decide +kernel, rfl⟩
theorem d_X11_init_126 : DC mi_X11_init 126 (.bipush 6) 2 128 := ⟨by decide +kernel, rfl⟩
theorem d_X11_init_128 : DC mi_X11_init 128 (.newarray .int) 2 130 := ⟨by decide +kernel, rfl⟩
theorem d_X11_init_130 : DC mi_X11_init 130 (.putfield 55) 3 133 := ⟨by decide +kernel, rfl⟩
theorem d_X11_init_133 : DC mi_X11_init 133 (.aload_n 0) 1 134 := ⟨by decide +kernel, rfl⟩
theorem d_X11_init_134 : DC mi_X11_init 134 (.sipush 128) 3 137 := ⟨by decide +kernel, rfl⟩
theorem d_X11_init_137 : DC mi_X11_init 137 (.newarray .int) 2 139 := ⟨by decide +kernel, rfl⟩
theorem d_X11_init_139 : DC mi_X11_init 139 (.putfield 58) 3 142 := ⟨by decide +kernel, rfl⟩
theorem d_X11_init_142 : DC mi_X11_init 142 (.aload_n 0) 1 143 := ⟨by decide +kernel, rfl⟩
theorem d_X11_init_143 : DC mi_X11_init 143 (.sipush 128) 3 146 := ⟨by decide +kernel, rfl⟩
theorem d_X11_init_146 : DC mi_X11_init 146 (.newarray .int) 2 148 := ⟨by decide +kernel, rfl⟩
theorem d_X11_init_148 : DC mi_X11_init 148 (.putfield 61) 3 151 := ⟨by decide +kernel, rfl⟩
theorem d_X11_init_151 : DC mi_X11_init 151 (.aload_n 0) 1 152 := ⟨by decide +kernel, rfl⟩
theorem d_X11_init_152 : DC mi_X11_init 152 (.iconst (-1)) 1 153 := ⟨by decide +kernel, rfl⟩
theorem d_X11_init_153 : DC mi_X11_init 153 (.putfield 64) 3 156 := ⟨by decide +kernel, rfl⟩
theorem d_X11_init_156 : DC mi_X11_init 156 (.aload_n 0) 1 157 := ⟨by decide +kernel, rfl⟩
theorem d_X11_init_157 : DC mi_X11_init 157 (.bipush 7) 2 159 := ⟨by decide +kernel, rfl⟩
theorem d_X11_init_159 : DC mi_X11_init 159 (.newarray .long) 2 161 := ⟨by decide +kernel, rfl⟩
theorem d_X11_init_161 : DC mi_X11_init 161 (.putfield 68) 3 164 := ⟨by decide +kernel, rfl⟩
theorem d_X11_init_164 : DC mi_X11_init 164 (.aload_n 0) 1 165 := ⟨by decide +kernel, rfl⟩
theorem d_X11_init_165 : DC mi_X11_init 165 (.bipush 64) 2 167 := ⟨by decide +kernel, rfl⟩
theorem d_X11_init_167 : DC mi_X11_init 167 (.newarray .long) 2 169 := ⟨by decide +kernel, rfl⟩
theorem d_X11_init_169 : DC mi_X11_init 169 (.putfield 72) 3 172 := ⟨by decide +kernel, rfl⟩
theorem d_X11_init_172 : DC mi_X11_init 172 (.aload_n 0) 1 173 := ⟨by decide +kernel, rfl⟩
theorem d_X11_init_173 : DC mi_X11_init 173 (.bipush 23) 2 175 := ⟨by decide +kernel, rfl⟩
theorem d_X11_init_175 : DC mi_X11_init 175 (.newarray .int) 2 177 := ⟨by decide +kernel, rfl⟩
theorem d_X11_init_177 : DC mi_X11_init 177 (.putfield 75) 3 180 := ⟨by decide +kernel, rfl⟩
theorem d_X11_init_180 : DC mi_X11_init 180 (.aload_n 0) 1 181 := ⟨by decide +kernel, rfl⟩
theorem d_X11_init_181 : DC mi_X11_init 181 (.bipush 23) 2 183 := ⟨by decide +kernel, rfl⟩
theorem d_X11_init_183 : DC mi_X11_init 183 (.newarray .int) 2 185 := ⟨by decide +kernel, rfl⟩
theorem d_X11_init_185 : DC mi_X11_init 185 (.putfield 78) 3 188 := ⟨by decide +kernel, rfl⟩
theorem d_X11_init_188 : DC mi_X11_init 188 (.aload_n 0) 1 189 := ⟨by decide +kernel, rfl⟩
theorem d_X11_init_189 : DC mi_X11_init 189 (.sipush 138) 3 192 := ⟨by decide +kernel, rfl⟩
theorem d_X11_init_192 : DC mi_X11_init 192 (.newarray .int) 2 194 := ⟨by decide +kernel, rfl⟩
theorem d_X11_init_194 : DC mi_X11_init 194 (.putfield 81) 3 197 := ⟨by decide +kernel, rfl⟩
theorem d_X11_init_197 : DC mi_X11_init 197 (.aload_n 0) 1 198 := ⟨by decide +kernel, rfl⟩
theorem d_X11_init_198 : DC mi_X11_init 198 (.sipush 138) 3 201 := ⟨by decide +kernel, rfl⟩
theorem d_X11_init_201 : DC mi_X11_init 201 (.newarray .int) 2 203 := ⟨by decide +kernel, rfl⟩
theorem d_X11_init_203 : DC mi_X11_init 203 (.putfield 84) 3 206 := ⟨by decide +kernel, rfl⟩
theorem d_X11_init_206 : DC mi_X11_init 206 (.aload_n 0) 1 207 := ⟨by decide +kernel, rfl⟩
theorem d_X11_init_207 : DC mi_X11_init 207 (.sipush 138) 3 210 := ⟨by decide +kernel, rfl⟩
theorem d_X11_init_210 : DC mi_X11_init 210 (.newarray .int) 2 212 := ⟨by decide +kernel, rfl⟩
theorem d_X11_init_212 : DC mi_X11_init 212 (.putfield 87) 3 215 := ⟨by decide +kernel, rfl⟩
theorem d_X11_init_215 : DC mi_X11_init 215 (.aload_n 0) 1 216 := ⟨by decide +kernel, rfl⟩
theorem d_X11_init_216 : DC mi_X11_init 216 (.sipush 138) 3 219 := ⟨by decide +kernel, rfl⟩
theorem d_X11_init_219 : DC mi_X11_init 219 (.newarray .int) 2 221 := ⟨by decide +kernel, rfl⟩
theorem d_X11_init_221 : DC mi_X11_init 221 (.putfield 90) 3 224 := ⟨by decide +kernel, rfl⟩
theorem d_X11_init_224 : DC mi_X11_init 224 (.aload_n 0) 1 225 := ⟨by decide +kernel, rfl⟩
theorem d_X11_init_225 : DC mi_X11_init 225 (.sipush 828) 3 228 := ⟨by decide +kernel, rfl⟩
theorem d_X11_init_228 : DC mi_X11_init 228 (.newarray .int) 2 230 := ⟨by decide +kernel, rfl⟩
theorem d_X11_init_230 : DC mi_X11_init 230 (.putfield 93) 3 233 := ⟨by decide +kernel, rfl⟩
theorem d_X11_init_233 : DC mi_X11_init 233 (.aload_n 0) 1 234 := ⟨by decide +kernel, rfl⟩
theorem d_X11_init_234 : DC mi_X11_init 234 (.iconst (-1)) 1 235 := ⟨by decide +kernel, rfl⟩
theorem d_X11_init_235 : DC mi_X11_init 235 (.putfield 96) 3 238 := ⟨by decide +kernel, rfl⟩
theorem d_X11_init_238 : DC mi_X11_init 238 (.aload_n 0) 1 239 := ⟨by decide +kernel, rfl⟩
theorem d_X11_init_239 : DC mi_X11_init 239 (.iconst (-1)) 1 240 := ⟨by decide +kernel, rfl⟩
theorem d_X11_init_240 : DC mi_X11_init 240 (.putfield 99) 3 243 := ⟨by decide +kernel, rfl⟩
theorem d_X11_init_243 : DC mi_X11_init 243 (.aload_n 0) 1 244 := ⟨by decide +kernel, rfl⟩
theorem d_X11_init_244 : DC mi_X11_init 244 (.iconst (-1)) 1 245 := ⟨by decide +kernel, rfl⟩
theorem d_X11_init_245 : DC mi_X11_init 245 (.putfield 102) 3 248 := ⟨by decide +kernel, rfl⟩
theorem d_X11_init_248 : DC mi_X11_init 248 (.aload_n 0) 1 249 := ⟨by decide +kernel, rfl⟩
theorem d_X11_init_249 : DC mi_X11_init 249 (.bipush 20) 2 251 := ⟨by decide +kernel, rfl⟩
theorem d_X11_init_251 : DC mi_X11_init 251 (.newarray .int) 2 253 := ⟨by decide +kernel, rfl⟩
theorem d_X11_init_253 : DC mi_X11_init 253 (.putfield 105) 3 256 := ⟨by decide +kernel, rfl⟩
theorem d_X11_init_256 : DC mi_X11_init 256 (.aload_n 0) 1 257 := ⟨by decide +kernel, rfl⟩
theorem d_X11_init_257 : DC mi_X11_init 257 (.bipush 20) 2 259 := ⟨by decide +kernel, rfl⟩
theorem d_X11_init_259 : DC mi_X11_init 259 (.newarray .int) 2 261 := ⟨by decide +kernel, rfl⟩
theorem d_X11_init_261 : DC mi_X11_init 261 (.putfield 108) 3 264 := ⟨by decide +kernel, rfl⟩
theorem d_X11_init_264 : DC mi_X11_init 264 (.aload_n 0) 1 265 := ⟨by decide +kernel, rfl⟩
theorem d_X11_init_265 : DC mi_X11_init 265 (.bipush 14) 2 267 := ⟨by decide +kernel, rfl⟩
theorem d_X11_init_267 : DC mi_X11_init 267 (.newarray .int) 2 269 := ⟨by decide +kernel, rfl⟩
theorem d_X11_init_269 : DC mi_X11_init 269 (.putfield 111) 3 272 := ⟨by decide +kernel, rfl⟩
theorem d_X11_init_272 : DC mi_X11_init 272 (.aload_n 0) 1 273 := ⟨by decide +kernel, rfl⟩
theorem d_X11_init_273 : DC mi_X11_init 273 (.bipush 14) 2 275 := ⟨by decide +kernel, rfl⟩
theorem d_X11_init_275 : DC mi_X11_init 275 (.newarray .int) 2 277 := ⟨by decide +kernel, rfl⟩
theorem d_X11_init_277 : DC mi_X11_init 277 (.putfield 114) 3 280 := ⟨by decide +kernel, rfl⟩
theorem d_X11_init_280 : DC mi_X11_init 280 (.aload_n 0) 1 281 := ⟨by decide +kernel, rfl⟩
theorem d_X11_init_281 : DC mi_X11_init 281 (.bipush 6) 2 283 := ⟨by decide +kernel, rfl⟩
theorem d_X11_init_283 : DC mi_X11_init 283 (.newarray .int) 2 285 := ⟨by decide +kernel, rfl⟩
theorem d_X11_init_285 : DC mi_X11_init 285 (.putfield 117) 3 288 := ⟨by decide +kernel, rfl⟩
theorem d_X11_init_288 : DC mi_X11_init 288 (.aload_n 0) 1 289 := ⟨by decide +kernel, rfl⟩
theorem d_X11_init_289 : DC mi_X11_init 289 (.iconst (-1)) 1 290 := ⟨by decide +kernel, rfl⟩
theorem d_X11_init_290 : DC mi_X11_init 290 (.putfield 120) 3 293 := ⟨by decide +kernel, rfl⟩
theorem d_X11_init_293 : DC mi_X11_init 293 (.aload_n 0) 1 294 := ⟨by decide +kernel, rfl⟩
theorem d_X11_init_294 : DC mi_X11_init 294 (.bipush 24) 2 296 := ⟨by decide +kernel, rfl⟩
theorem d_X11_init_296 : DC mi_X11_init 296 (.newarray .int) 2 298 := ⟨by decide +kernel, rfl⟩
theorem d_X11_init_298 : DC mi_X11_init 298 (.putfield 123) 3 301 := ⟨by decide +kernel, rfl⟩
theorem d_X11_init_301 : DC mi_X11_init 301 (.aload_n 0) 1 302 := ⟨by decide +kernel, rfl⟩
theorem d_X11_init_302 : DC mi_X11_init 302 (.bipush 24) 2 304 := ⟨by decide +kernel, rfl⟩
theorem d_X11_init_304 : DC mi_X11_init 304 (.newarray .int) 2 306 := ⟨by decide +kernel, rfl⟩
theorem d_X11_init_306 : DC mi_X11_init 306 (.putfield 126) 3 309 := ⟨by decide +kernel, rfl⟩
theorem d_X11_init_309 : DC mi_X11_init 309 (.aload_n 0) 1 310 := ⟨by decide +kernel, rfl⟩
theorem d_X11_init_310 : DC mi_X11_init 310 (.bipush 24) 2 312 := ⟨by decide +kernel, rfl⟩
theorem d_X11_init_312 : DC mi_X11_init 312 (.newarray .int) 2 314 := ⟨by decide +kernel, rfl⟩
theorem d_X11_init_314 : DC mi_X11_init 314 (.putfield 129) 3 317 := ⟨by decide +kernel, rfl⟩
theorem d_X11_init_317 : DC mi_X11_init 317 (.aload_n 0) 1 318 := ⟨by decide +kernel, rfl⟩
theorem d_X11_init_318 : DC mi_X11_init 318 (.bipush 24) 2 320 := ⟨by decide +kernel, rfl⟩
theorem d_X11_init_320 : DC mi_X11_init 320 (.newarray .boolean) 2 322 := ⟨by decide +kernel, rfl⟩
theorem d_X11_init_322 : DC mi_X11_init 322 (.putfield 132) 3 325 := ⟨by decide +kernel, rfl⟩
theorem d_X11_init_325 : DC mi_X11_init 325 (.aload_n 0) 1 326 := ⟨by decide +kernel, rfl⟩
theorem d_X11_init_326 : DC mi_X11_init 326 (.bipush 24) 2 328 := ⟨by decide +kernel, rfl⟩
theorem d_X11_init_328 : DC mi_X11_init 328 (.newarray .int) 2 330 := ⟨by decide +kernel, rfl⟩
theorem d_X11_init_330 : DC mi_X11_init 330 (.putfield 136) 3 333 := ⟨by decide +kernel, rfl⟩
theorem d_X11_init_333 : DC mi_X11_init 333 (.aload_n 0) 1 334 := ⟨by decide +kernel, rfl⟩
theorem d_X11_init_334 : DC mi_X11_init 334 (.bipush 24) 2 336 := ⟨by decide +kernel, rfl⟩
theorem d_X11_init_336 : DC mi_X11_init 336 (.newarray .boolean) 2 338 := ⟨by decide +kernel, rfl⟩
theorem d_X11_init_338 : DC mi_X11_init 338 (.putfield 139) 3 341 := ⟨by decide +kernel, rfl⟩
theorem d_X11_init_341 : DC mi_X11_init 341 (.aload_n 0) 1 342 := ⟨by decide +kernel, rfl⟩
theorem d_X11_init_342 : DC mi_X11_init 342 (.sipush 779) 3 345 := ⟨by decide +kernel, rfl⟩
theorem d_X11_init_345 : DC mi_X11_init 345 (.newarray .int) 2 347 := ⟨by decide +kernel, rfl⟩
theorem d_X11_init_347 : DC mi_X11_init 347 (.putfield 142) 3 350 := ⟨by decide +kernel, rfl⟩
theorem d_X11_init_350 : DC mi_X11_init 350 (.aload_n 0) 1 351 := ⟨by decide +kernel, rfl⟩
theorem d_X11_init_351 : DC mi_X11_init 351 (.invokevirtual 145) 3 354 := ⟨by decide +kernel, rfl⟩
theorem d_X11_init_354 : DC mi_X11_init 354 (.return_) 1 355 := ⟨by decide +kernel, rfl⟩
theorem lo_X11 : Cond.methodLink mi_X11_init.1.cls 1 Lib.objectInit ∈ tb := tb_in 1195 (by decide +kernel) (by decide +kernel)
theorem fq_StairCountModel_7 : FLk "StairCountModel" 7 11 1 true := ⟨_, _, _, rfl, by decide, tb_in 1205 (by decide +kernel) (by decide +kernel), rfl, rfl⟩
theorem fq_StairCountModel_7_t : ∀ (C : String) (T : u_T) (N : Nat), cls[11]? = some (C, T, N) → parseFieldDescriptor (T 1).2.2.1 = some (.array .int) ∧ C = mi_X11_init.1.cls := by
  intro C T N h
  have h1 : some (RX11, TX11, 65) = some (C, T, N) := h
  cases h1
  exact ⟨tyX11_ok 1 (by decide), rfl⟩
theorem fq_StairCountModel_13 : FLk "StairCountModel" 13 11 3 true := ⟨_, _, _, rfl, by decide, tb_in 1207 (by decide +kernel) (by decide +kernel), rfl, rfl⟩
theorem fq_StairCountModel_13_t : ∀ (C : String) (T : u_T) (N : Nat), cls[11]? = some (C, T, N) → parseFieldDescriptor (T 3).2.2.1 = some (.array .int) ∧ C = mi_X11_init.1.cls := by
  intro C T N h
  have h1 : some (RX11, TX11, 65) = some (C, T, N) := h
  cases h1
  exact ⟨tyX11_ok 3 (by decide), rfl⟩
theorem fq_StairCountModel_16 : FLk "StairCountModel" 16 11 4 true := ⟨_, _, _, rfl, by decide, tb_in 1208 (by decide +kernel) (by decide +kernel), rfl, rfl⟩
theorem fq_StairCountModel_16_t : ∀ (C : String) (T : u_T) (N : Nat), cls[11]? = some (C, T, N) → parseFieldDescriptor (T 4).2.2.1 = some (.array .int) ∧ C = mi_X11_init.1.cls := by
  intro C T N h
  have h1 : some (RX11, TX11, 65) = some (C, T, N) := h
  cases h1
  exact ⟨tyX11_ok 4 (by decide), rfl⟩
theorem fq_StairCountModel_19 : FLk "StairCountModel" 19 11 5 true := ⟨_, _, _, rfl, by decide, tb_in 1209 (by decide +kernel) (by decide +kernel), rfl, rfl⟩
theorem fq_StairCountModel_19_t : ∀ (C : String) (T : u_T) (N : Nat), cls[11]? = some (C, T, N) → parseFieldDescriptor (T 5).2.2.1 = some (.array .int) ∧ C = mi_X11_init.1.cls := by
  intro C T N h
  have h1 : some (RX11, TX11, 65) = some (C, T, N) := h
  cases h1
  exact ⟨tyX11_ok 5 (by decide), rfl⟩
theorem fq_StairCountModel_22 : FLk "StairCountModel" 22 11 6 true := ⟨_, _, _, rfl, by decide, tb_in 1210 (by decide +kernel) (by decide +kernel), rfl, rfl⟩
theorem fq_StairCountModel_22_t : ∀ (C : String) (T : u_T) (N : Nat), cls[11]? = some (C, T, N) → parseFieldDescriptor (T 6).2.2.1 = some (.array .int) ∧ C = mi_X11_init.1.cls := by
  intro C T N h
  have h1 : some (RX11, TX11, 65) = some (C, T, N) := h
  cases h1
  exact ⟨tyX11_ok 6 (by decide), rfl⟩
theorem fq_StairCountModel_25 : FLk "StairCountModel" 25 11 7 true := ⟨_, _, _, rfl, by decide, tb_in 1211 (by decide +kernel) (by decide +kernel), rfl, rfl⟩
theorem fq_StairCountModel_25_t : ∀ (C : String) (T : u_T) (N : Nat), cls[11]? = some (C, T, N) → parseFieldDescriptor (T 7).2.2.1 = some (.array .int) ∧ C = mi_X11_init.1.cls := by
  intro C T N h
  have h1 : some (RX11, TX11, 65) = some (C, T, N) := h
  cases h1
  exact ⟨tyX11_ok 7 (by decide), rfl⟩
theorem fq_StairCountModel_28 : FLk "StairCountModel" 28 11 8 true := ⟨_, _, _, rfl, by decide, tb_in 1212 (by decide +kernel) (by decide +kernel), rfl, rfl⟩
theorem fq_StairCountModel_28_t : ∀ (C : String) (T : u_T) (N : Nat), cls[11]? = some (C, T, N) → parseFieldDescriptor (T 8).2.2.1 = some (.array .int) ∧ C = mi_X11_init.1.cls := by
  intro C T N h
  have h1 : some (RX11, TX11, 65) = some (C, T, N) := h
  cases h1
  exact ⟨tyX11_ok 8 (by decide), rfl⟩
theorem fq_StairCountModel_31 : FLk "StairCountModel" 31 11 9 true := ⟨_, _, _, rfl, by decide, tb_in 1213 (by decide +kernel) (by decide +kernel), rfl, rfl⟩
theorem fq_StairCountModel_31_t : ∀ (C : String) (T : u_T) (N : Nat), cls[11]? = some (C, T, N) → parseFieldDescriptor (T 9).2.2.1 = some (.array .int) ∧ C = mi_X11_init.1.cls := by
  intro C T N h
  have h1 : some (RX11, TX11, 65) = some (C, T, N) := h
  cases h1
  exact ⟨tyX11_ok 9 (by decide), rfl⟩
theorem fq_StairCountModel_34 : FLk "StairCountModel" 34 11 10 true := ⟨_, _, _, rfl, by decide, tb_in 1214 (by decide +kernel) (by decide +kernel), rfl, rfl⟩
theorem fq_StairCountModel_34_t : ∀ (C : String) (T : u_T) (N : Nat), cls[11]? = some (C, T, N) → parseFieldDescriptor (T 10).2.2.1 = some (.array .int) ∧ C = mi_X11_init.1.cls := by
  intro C T N h
  have h1 : some (RX11, TX11, 65) = some (C, T, N) := h
  cases h1
  exact ⟨tyX11_ok 10 (by decide), rfl⟩
theorem fq_StairCountModel_37 : FLk "StairCountModel" 37 11 11 true := ⟨_, _, _, rfl, by decide, tb_in 1215 (by decide +kernel) (by decide +kernel), rfl, rfl⟩
theorem fq_StairCountModel_37_t : ∀ (C : String) (T : u_T) (N : Nat), cls[11]? = some (C, T, N) → parseFieldDescriptor (T 11).2.2.1 = some (.array .int) ∧ C = mi_X11_init.1.cls := by
  intro C T N h
  have h1 : some (RX11, TX11, 65) = some (C, T, N) := h
  cases h1
  exact ⟨tyX11_ok 11 (by decide), rfl⟩
theorem fq_StairCountModel_40 : FLk "StairCountModel" 40 11 12 true := ⟨_, _, _, rfl, by decide, tb_in 1216 (by decide +kernel) (by decide +kernel), rfl, rfl⟩
theorem fq_StairCountModel_40_t : ∀ (C : String) (T : u_T) (N : Nat), cls[11]? = some (C, T, N) → parseFieldDescriptor (T 12).2.2.1 = some (.array .int) ∧ C = mi_X11_init.1.cls := by
  intro C T N h
  have h1 : some (RX11, TX11, 65) = some (C, T, N) := h
  cases h1
  exact ⟨tyX11_ok 12 (by decide), rfl⟩
theorem fq_StairCountModel_43 : FLk "StairCountModel" 43 11 13 true := ⟨_, _, _, rfl, by decide, tb_in 1217 (by decide +kernel) (by decide +kernel), rfl, rfl⟩
theorem fq_StairCountModel_43_t : ∀ (C : String) (T : u_T) (N : Nat), cls[11]? = some (C, T, N) → parseFieldDescriptor (T 13).2.2.1 = some (.array .int) ∧ C = mi_X11_init.1.cls := by
  intro C T N h
  have h1 : some (RX11, TX11, 65) = some (C, T, N) := h
  cases h1
  exact ⟨tyX11_ok 13 (by decide), rfl⟩
theorem fq_StairCountModel_46 : FLk "StairCountModel" 46 11 14 true := ⟨_, _, _, rfl, by decide, tb_in 1218 (by decide +kernel) (by decide +kernel), rfl, rfl⟩
theorem fq_StairCountModel_46_t : ∀ (C : String) (T : u_T) (N : Nat), cls[11]? = some (C, T, N) → parseFieldDescriptor (T 14).2.2.1 = some (.array .int) ∧ C = mi_X11_init.1.cls := by
  intro C T N h
  have h1 : some (RX11, TX11, 65) = some (C, T, N) := h
  cases h1
  exact ⟨tyX11_ok 14 (by decide), rfl⟩
theorem fq_StairCountModel_49 : FLk "StairCountModel" 49 11 15 true := ⟨_, _, _, rfl, by decide, tb_in 1219 (by decide +kernel) (by decide +kernel), rfl, rfl⟩
theorem fq_StairCountModel_49_t : ∀ (C : String) (T : u_T) (N : Nat), cls[11]? = some (C, T, N) → parseFieldDescriptor (T 15).2.2.1 = some (.array .int) ∧ C = mi_X11_init.1.cls := by
  intro C T N h
  have h1 : some (RX11, TX11, 65) = some (C, T, N) := h
  cases h1
  exact ⟨tyX11_ok 15 (by decide), rfl⟩
theorem fq_StairCountModel_52 : FLk "StairCountModel" 52 11 16 true := ⟨_, _, _, rfl, by decide, tb_in 1220 (by decide +kernel) (by decide +kernel), rfl, rfl⟩
theorem fq_StairCountModel_52_t : ∀ (C : String) (T : u_T) (N : Nat), cls[11]? = some (C, T, N) → parseFieldDescriptor (T 16).2.2.1 = some (.array .int) ∧ C = mi_X11_init.1.cls := by
  intro C T N h
  have h1 : some (RX11, TX11, 65) = some (C, T, N) := h
  cases h1
  exact ⟨tyX11_ok 16 (by decide), rfl⟩
theorem fq_StairCountModel_55 : FLk "StairCountModel" 55 11 17 true := ⟨_, _, _, rfl, by decide, tb_in 1221 (by decide +kernel) (by decide +kernel), rfl, rfl⟩
theorem fq_StairCountModel_55_t : ∀ (C : String) (T : u_T) (N : Nat), cls[11]? = some (C, T, N) → parseFieldDescriptor (T 17).2.2.1 = some (.array .int) ∧ C = mi_X11_init.1.cls := by
  intro C T N h
  have h1 : some (RX11, TX11, 65) = some (C, T, N) := h
  cases h1
  exact ⟨tyX11_ok 17 (by decide), rfl⟩
theorem fq_StairCountModel_58 : FLk "StairCountModel" 58 11 18 true := ⟨_, _, _, rfl, by decide, tb_in 1222 (by decide +kernel) (by decide +kernel), rfl, rfl⟩
theorem fq_StairCountModel_58_t : ∀ (C : String) (T : u_T) (N : Nat), cls[11]? = some (C, T, N) → parseFieldDescriptor (T 18).2.2.1 = some (.array .int) ∧ C = mi_X11_init.1.cls := by
  intro C T N h
  have h1 : some (RX11, TX11, 65) = some (C, T, N) := h
  cases h1
  exact ⟨tyX11_ok 18 (by decide), rfl⟩
theorem fq_StairCountModel_61 : FLk "StairCountModel" 61 11 19 true := ⟨_, _, _, rfl, by decide, tb_in 1223 (by decide +kernel) (by decide +kernel), rfl, rfl⟩
theorem fq_StairCountModel_61_t : ∀ (C : String) (T : u_T) (N : Nat), cls[11]? = some (C, T, N) → parseFieldDescriptor (T 19).2.2.1 = some (.array .int) ∧ C = mi_X11_init.1.cls := by
  intro C T N h
  have h1 : some (RX11, TX11, 65) = some (C, T, N) := h
  cases h1
  exact ⟨tyX11_ok 19 (by decide), rfl⟩
theorem fq_StairCountModel_64 : FLk "StairCountModel" 64 11 30 false := ⟨_, _, _, rfl, by decide, tb_in 1234 (by decide +kernel) (by decide +kernel), rfl, rfl⟩
theorem fq_StairCountModel_64_t : ∀ (C : String) (T : u_T) (N : Nat), cls[11]? = some (C, T, N) → parseFieldDescriptor (T 30).2.2.1 = some .int ∧ C = mi_X11_init.1.cls := by
  intro C T N h
  have h1 : some (RX11, TX11, 65) = some (C, T, N) := h
  cases h1
  exact ⟨tyX11_ok 30 (by decide), rfl⟩
theorem fq_StairCountModel_68 : FLk "StairCountModel" 68 11 33 true := ⟨_, _, _, rfl, by decide, tb_in 1237 (by decide +kernel) (by decide +kernel), rfl, rfl⟩
theorem fq_StairCountModel_68_t : ∀ (C : String) (T : u_T) (N : Nat), cls[11]? = some (C, T, N) → parseFieldDescriptor (T 33).2.2.1 = some (.array .long) ∧ C = mi_X11_init.1.cls := by
  intro C T N h
  have h1 : some (RX11, TX11, 65) = some (C, T, N) := h
  cases h1
  exact ⟨tyX11_ok 33 (by decide), rfl⟩
theorem fq_StairCountModel_72 : FLk "StairCountModel" 72 11 34 true := ⟨_, _, _, rfl, by decide, tb_in 1238 (by decide +kernel) (by decide +kernel), rfl, rfl⟩
theorem fq_StairCountModel_72_t : ∀ (C : String) (T : u_T) (N : Nat), cls[11]? = some (C, T, N) → parseFieldDescriptor (T 34).2.2.1 = some (.array .long) ∧ C = mi_X11_init.1.cls := by
  intro C T N h
  have h1 : some (RX11, TX11, 65) = some (C, T, N) := h
  cases h1
  exact ⟨tyX11_ok 34 (by decide), rfl⟩
theorem fq_StairCountModel_75 : FLk "StairCountModel" 75 11 36 true := ⟨_, _, _, rfl, by decide, tb_in 1240 (by decide +kernel) (by decide +kernel), rfl, rfl⟩
theorem fq_StairCountModel_75_t : ∀ (C : String) (T : u_T) (N : Nat), cls[11]? = some (C, T, N) → parseFieldDescriptor (T 36).2.2.1 = some (.array .int) ∧ C = mi_X11_init.1.cls := by
  intro C T N h
  have h1 : some (RX11, TX11, 65) = some (C, T, N) := h
  cases h1
  exact ⟨tyX11_ok 36 (by decide), rfl⟩
theorem fq_StairCountModel_78 : FLk "StairCountModel" 78 11 37 true := ⟨_, _, _, rfl, by decide, tb_in 1241 (by decide +kernel) (by decide +kernel), rfl, rfl⟩
theorem fq_StairCountModel_78_t : ∀ (C : String) (T : u_T) (N : Nat), cls[11]? = some (C, T, N) → parseFieldDescriptor (T 37).2.2.1 = some (.array .int) ∧ C = mi_X11_init.1.cls := by
  intro C T N h
  have h1 : some (RX11, TX11, 65) = some (C, T, N) := h
  cases h1
  exact ⟨tyX11_ok 37 (by decide), rfl⟩
theorem fq_StairCountModel_81 : FLk "StairCountModel" 81 11 38 true := ⟨_, _, _, rfl, by decide, tb_in 1242 (by decide +kernel) (by decide +kernel), rfl, rfl⟩
theorem fq_StairCountModel_81_t : ∀ (C : String) (T : u_T) (N : Nat), cls[11]? = some (C, T, N) → parseFieldDescriptor (T 38).2.2.1 = some (.array .int) ∧ C = mi_X11_init.1.cls := by
  intro C T N h
  have h1 : some (RX11, TX11, 65) = some (C, T, N) := h
  cases h1
  exact ⟨tyX11_ok 38 (by decide), rfl⟩
theorem fq_StairCountModel_84 : FLk "StairCountModel" 84 11 39 true := ⟨_, _, _, rfl, by decide, tb_in 1243 (by decide +kernel) (by decide +kernel), rfl, rfl⟩
theorem fq_StairCountModel_84_t : ∀ (C : String) (T : u_T) (N : Nat), cls[11]? = some (C, T, N) → parseFieldDescriptor (T 39).2.2.1 = some (.array .int) ∧ C = mi_X11_init.1.cls := by
  intro C T N h
  have h1 : some (RX11, TX11, 65) = some (C, T, N) := h
  cases h1
  exact ⟨tyX11_ok 39 (by decide), rfl⟩
theorem fq_StairCountModel_87 : FLk "StairCountModel" 87 11 40 true := ⟨_, _, _, rfl, by decide, tb_in 1244 (by decide +kernel) (by decide +kernel), rfl, rfl⟩
theorem fq_StairCountModel_87_t : ∀ (C : String) (T : u_T) (N : Nat), cls[11]? = some (C, T, N) → parseFieldDescriptor (T 40).2.2.1 = some (.array .int) ∧ C = mi_X11_init.1.cls := by
  intro C T N h
  have h1 : some (RX11, TX11, 65) = some (C, T, N) := h
  cases h1
  exact ⟨tyX11_ok 40 (by decide), rfl⟩
theorem fq_StairCountModel_90 : FLk "StairCountModel" 90 11 41 true := ⟨_, _, _, rfl, by decide, tb_in 1245 (by decide +kernel) (by decide +kernel), rfl, rfl⟩
theorem fq_StairCountModel_90_t : ∀ (C : String) (T : u_T) (N : Nat), cls[11]? = some (C, T, N) → parseFieldDescriptor (T 41).2.2.1 = some (.array .int) ∧ C = mi_X11_init.1.cls := by
  intro C T N h
  have h1 : some (RX11, TX11, 65) = some (C, T, N) := h
  cases h1
  exact ⟨tyX11_ok 41 (by decide), rfl⟩
theorem fq_StairCountModel_93 : FLk "StairCountModel" 93 11 42 true := ⟨_, _, _, rfl, by decide, tb_in 1246 (by decide +kernel) (by decide +kernel), rfl, rfl⟩
theorem fq_StairCountModel_93_t : ∀ (C : String) (T : u_T) (N : Nat), cls[11]? = some (C, T, N) → parseFieldDescriptor (T 42).2.2.1 = some (.array .int) ∧ C = mi_X11_init.1.cls := by
  intro C T N h
  have h1 : some (RX11, TX11, 65) = some (C, T, N) := h
  cases h1
  exact ⟨tyX11_ok 42 (by decide), rfl⟩
theorem fq_StairCountModel_96 : FLk "StairCountModel" 96 11 45 false := ⟨_, _, _, rfl, by decide, tb_in 1249 (by decide +kernel) (by decide +kernel), rfl, rfl⟩
theorem fq_StairCountModel_96_t : ∀ (C : String) (T : u_T) (N : Nat), cls[11]? = some (C, T, N) → parseFieldDescriptor (T 45).2.2.1 = some .int ∧ C = mi_X11_init.1.cls := by
  intro C T N h
  have h1 : some (RX11, TX11, 65) = some (C, T, N) := h
  cases h1
  exact ⟨tyX11_ok 45 (by decide), rfl⟩
theorem fq_StairCountModel_99 : FLk "StairCountModel" 99 11 46 false := ⟨_, _, _, rfl, by decide, tb_in 1250 (by decide +kernel) (by decide +kernel), rfl, rfl⟩
theorem fq_StairCountModel_99_t : ∀ (C : String) (T : u_T) (N : Nat), cls[11]? = some (C, T, N) → parseFieldDescriptor (T 46).2.2.1 = some .int ∧ C = mi_X11_init.1.cls := by
  intro C T N h
  have h1 : some (RX11, TX11, 65) = some (C, T, N) := h
  cases h1
  exact ⟨tyX11_ok 46 (by decide), rfl⟩
theorem fq_StairCountModel_102 : FLk "StairCountModel" 102 11 49 false := ⟨_, _, _, rfl, by decide, tb_in 1253 (by decide +kernel) (by decide +kernel), rfl, rfl⟩
theorem fq_StairCountModel_102_t : ∀ (C : String) (T : u_T) (N : Nat), cls[11]? = some (C, T, N) → parseFieldDescriptor (T 49).2.2.1 = some .int ∧ C = mi_X11_init.1.cls := by
  intro C T N h
  have h1 : some (RX11, TX11, 65) = some (C, T, N) := h
  cases h1
  exact ⟨tyX11_ok 49 (by decide), rfl⟩
theorem fq_StairCountModel_105 : FLk "StairCountModel" 105 11 50 true := ⟨_, _, _, rfl, by decide, tb_in 1254 (by decide +kernel) (by decide +kernel), rfl, rfl⟩
theorem fq_StairCountModel_105_t : ∀ (C : String) (T : u_T) (N : Nat), cls[11]? = some (C, T, N) → parseFieldDescriptor (T 50).2.2.1 = some (.array .int) ∧ C = mi_X11_init.1.cls := by
  intro C T N h
  have h1 : some (RX11, TX11, 65) = some (C, T, N) := h
  cases h1
  exact ⟨tyX11_ok 50 (by decide), rfl⟩
theorem fq_StairCountModel_108 : FLk "StairCountModel" 108 11 51 true := ⟨_, _, _, rfl, by decide, tb_in 1255 (by decide +kernel) (by decide +kernel), rfl, rfl⟩
theorem fq_StairCountModel_108_t : ∀ (C : String) (T : u_T) (N : Nat), cls[11]? = some (C, T, N) → parseFieldDescriptor (T 51).2.2.1 = some (.array .int) ∧ C = mi_X11_init.1.cls := by
  intro C T N h
  have h1 : some (RX11, TX11, 65) = some (C, T, N) := h
  cases h1
  exact ⟨tyX11_ok 51 (by decide), rfl⟩
theorem fq_StairCountModel_111 : FLk "StairCountModel" 111 11 53 true := ⟨_, _, _, rfl, by decide, tb_in 1257 (by decide +kernel) (by decide +kernel), rfl, rfl⟩
theorem fq_StairCountModel_111_t : ∀ (C : String) (T : u_T) (N : Nat), cls[11]? = some (C, T, N) → parseFieldDescriptor (T 53).2.2.1 = some (.array .int) ∧ C = mi_X11_init.1.cls := by
  intro C T N h
  have h1 : some (RX11, TX11, 65) = some (C, T, N) := h
  cases h1
  exact ⟨tyX11_ok 53 (by decide), rfl⟩
theorem fq_StairCountModel_114 : FLk "StairCountModel" 114 11 54 true := ⟨_, _, _, rfl, by decide, tb_in 1258 (by decide +kernel) (by decide +kernel), rfl, rfl⟩
theorem fq_StairCountModel_114_t : ∀ (C : String) (T : u_T) (N : Nat), cls[11]? = some (C, T, N) → parseFieldDescriptor (T 54).2.2.1 = some (.array .int) ∧ C = mi_X11_init.1.cls := by
  intro C T N h
  have h1 : some (RX11, TX11, 65) = some (C, T, N) := h
  cases h1
  exact ⟨tyX11_ok 54 (by decide), rfl⟩
theorem fq_StairCountModel_117 : FLk "StairCountModel" 117 11 55 true := ⟨_, _, _, rfl, by decide, tb_in 1259 (by decide +kernel) (by decide +kernel), rfl, rfl⟩
theorem fq_StairCountModel_117_t : ∀ (C : String) (T : u_T) (N : Nat), cls[11]? = some (C, T, N) → parseFieldDescriptor (T 55).2.2.1 = some (.array .int) ∧ C = mi_X11_init.1.cls := by
  intro C T N h
  have h1 : some (RX11, TX11, 65) = some (C, T, N) := h
  cases h1
  exact ⟨tyX11_ok 55 (by decide), rfl⟩
theorem fq_StairCountModel_120 : FLk "StairCountModel" 120 11 57 false := ⟨_, _, _, rfl, by decide, tb_in 1261 (by decide +kernel) (by decide +kernel), rfl, rfl⟩
theorem fq_StairCountModel_120_t : ∀ (C : String) (T : u_T) (N : Nat), cls[11]? = some (C, T, N) → parseFieldDescriptor (T 57).2.2.1 = some .int ∧ C = mi_X11_init.1.cls := by
  intro C T N h
  have h1 : some (RX11, TX11, 65) = some (C, T, N) := h
  cases h1
  exact ⟨tyX11_ok 57 (by decide), rfl⟩
theorem fq_StairCountModel_123 : FLk "StairCountModel" 123 11 58 true := ⟨_, _, _, rfl, by decide, tb_in 1262 (by decide +kernel) (by decide +kernel), rfl, rfl⟩
theorem fq_StairCountModel_123_t : ∀ (C : String) (T : u_T) (N : Nat), cls[11]? = some (C, T, N) → parseFieldDescriptor (T 58).2.2.1 = some (.array .int) ∧ C = mi_X11_init.1.cls := by
  intro C T N h
  have h1 : some (RX11, TX11, 65) = some (C, T, N) := h
  cases h1
  exact ⟨tyX11_ok 58 (by decide), rfl⟩
theorem fq_StairCountModel_126 : FLk "StairCountModel" 126 11 59 true := ⟨_, _, _, rfl, by decide, tb_in 1263 (by decide +kernel) (by decide +kernel), rfl, rfl⟩
theorem fq_StairCountModel_126_t : ∀ (C : String) (T : u_T) (N : Nat), cls[11]? = some (C, T, N) → parseFieldDescriptor (T 59).2.2.1 = some (.array .int) ∧ C = mi_X11_init.1.cls := by
  intro C T N h
  have h1 : some (RX11, TX11, 65) = some (C, T, N) := h
  cases h1
  exact ⟨tyX11_ok 59 (by decide), rfl⟩
theorem fq_StairCountModel_129 : FLk "StairCountModel" 129 11 60 true := ⟨_, _, _, rfl, by decide, tb_in 1264 (by decide +kernel) (by decide +kernel), rfl, rfl⟩
theorem fq_StairCountModel_129_t : ∀ (C : String) (T : u_T) (N : Nat), cls[11]? = some (C, T, N) → parseFieldDescriptor (T 60).2.2.1 = some (.array .int) ∧ C = mi_X11_init.1.cls := by
  intro C T N h
  have h1 : some (RX11, TX11, 65) = some (C, T, N) := h
  cases h1
  exact ⟨tyX11_ok 60 (by decide), rfl⟩
theorem fq_StairCountModel_132 : FLk "StairCountModel" 132 11 61 true := ⟨_, _, _, rfl, by decide, tb_in 1265 (by decide +kernel) (by decide +kernel), rfl, rfl⟩
theorem fq_StairCountModel_132_t : ∀ (C : String) (T : u_T) (N : Nat), cls[11]? = some (C, T, N) → parseFieldDescriptor (T 61).2.2.1 = some (.array .boolean) ∧ C = mi_X11_init.1.cls := by
  intro C T N h
  have h1 : some (RX11, TX11, 65) = some (C, T, N) := h
  cases h1
  exact ⟨tyX11_ok 61 (by decide), rfl⟩
theorem fq_StairCountModel_136 : FLk "StairCountModel" 136 11 62 true := ⟨_, _, _, rfl, by decide, tb_in 1266 (by decide +kernel) (by decide +kernel), rfl, rfl⟩
theorem fq_StairCountModel_136_t : ∀ (C : String) (T : u_T) (N : Nat), cls[11]? = some (C, T, N) → parseFieldDescriptor (T 62).2.2.1 = some (.array .int) ∧ C = mi_X11_init.1.cls := by
  intro C T N h
  have h1 : some (RX11, TX11, 65) = some (C, T, N) := h
  cases h1
  exact ⟨tyX11_ok 62 (by decide), rfl⟩
theorem fq_StairCountModel_139 : FLk "StairCountModel" 139 11 63 true := ⟨_, _, _, rfl, by decide, tb_in 1267 (by decide +kernel) (by decide +kernel), rfl, rfl⟩
theorem fq_StairCountModel_139_t : ∀ (C : String) (T : u_T) (N : Nat), cls[11]? = some (C, T, N) → parseFieldDescriptor (T 63).2.2.1 = some (.array .boolean) ∧ C = mi_X11_init.1.cls := by
  intro C T N h
  have h1 : some (RX11, TX11, 65) = some (C, T, N) := h
  cases h1
  exact ⟨tyX11_ok 63 (by decide), rfl⟩
theorem fq_StairCountModel_142 : FLk "StairCountModel" 142 11 64 true := ⟨_, _, _, rfl, by decide, tb_in 1268 (by decide +kernel) (by decide +kernel), rfl, rfl⟩
theorem fq_StairCountModel_142_t : ∀ (C : String) (T : u_T) (N : Nat), cls[11]? = some (C, T, N) → parseFieldDescriptor (T 64).2.2.1 = some (.array .int) ∧ C = mi_X11_init.1.cls := by
  intro C T N h
  have h1 : some (RX11, TX11, 65) = some (C, T, N) := h
  cases h1
  exact ⟨tyX11_ok 64 (by decide), rfl⟩
/-- what the reference's constructor leaves -/
def Qm (h1 : HH) (X : CX) : Array Value → State → Outcome → State → Prop := fun _ st oc t => oc = .returned none ∧ wP X h1 t.heap ∧ va_F (inR X) st t
set_option maxHeartbeats 4000000 in
set_option maxRecDepth 100000 in
theorem cy_end {h1 : HH} {d z : Nat} {fs : List Value} {lc : List (Nat × Value)} (hE : g_X11_begins hI = some ((), h1)) (hd1 : 1 ≤ d) (hfs : fs = (fsC 11).map (fvA hI 255)) : Cy (Qm h1) mi_X11_init (d + 1) 39 3792 z 11 255 351 fs 39 3792 lc [.ref 255] hI := by
  subst hfs
  intro p l e s m args below meth c X H locs ls C hZ hi hs hPP hS hl
  obtain ⟨hP0, hP3⟩ := hPP
  obtain ⟨hP1, hP2⟩ := wB_P.mp hP0
  have hP : wP X hI H := wP_all (fun i hi => by have := wsR_P.mp hP3 i hi; rw [Nat.zero_add] at this; exact this) (by
    rw [cE_o sh_255]
    rw [List.map_map] at hP1
    have : (rl X.1 ∘ fvA hI 255) = fV X.1 hI 255 := funext fun f => fvA_fV X.1 hI 255 f
    rw [this] at hP1
    exact hP1) (fun i hi => hP2 i hi)
  have hM := sp_X11_begins d hd1 hI l X () h1 hE C.2.2.2.2.2.2.2.2.1
  have hm := mv_X11_begins
  have hts : ∀ w ∈ wsM mi_X11_init, w.before args s = true := C.2.2.2.2.2.1
  have tw : ∀ w ∈ tb, w.before args s = true := fun w hw => hts w (List.mem_cons_of_mem _ hw)
  have pre := sx_pre C.2.2.2.2.2.2.2.1 C.2.2.2.2.2.2.2.2.2 hP hS
  obtain ⟨T0, N0, hc⟩ := hm.2.1
  have hrc := va_recv C.2.2.2.2.2.2.2.1.1 hP hc (ws_o X hI sh_255)
  have run := va_runV (As := []) (rest := []) (b := X.1 255) (H := H) (locs := locs) (cells := 39) (slots := 3792) (below := below) (meth := meth) (e := e) (R := rmC (d + 1) 39 3792) (g := F0 m 351 ls [.ref (X.1 255)]) ⟨C.1, C.2.1, C.2.2.2.1, C.2.2.2.2.1, hts⟩ hM ⟨(callB_of 0 hts (wsM_good mi_X11_begins hm.1.2.2.1 mi_X11_init) rfl rfl rfl (tw _ hm.1.1) (tw _ lM_StairCountModel_145) hm.1.2.1 ⟨Nat.le_refl _, by show 8 + (mi_X11_begins.2.2.1 + 11) + 64 * d ≤ 64 * (d + 1); have := hm.1.2.2.2; omega⟩), tw _ hm.2.2.1, tw _ hm.2.2.2⟩ ⟨sx_blind, hrc, fun U hU hW => ⟨by simp [rl], pre U hU hW⟩⟩ rfl rfl hl.1 rfl (lv_room (by decide)) d_X11_init_351.1 ⟨Nat.le_refl _, Nat.le_refl _⟩
  intro T hT Xs
  obtain ⟨v', st0, t, T', L, h0, X', hL, e1, e2, ⟨hv, hP9, hF1⟩, hgo⟩ := run T hT Xs
  have hv : v' = none := by cases hv; rfl
  subst hv
  have hS' : va_S (inR X) s.heap T'.heap (locs ++ L) := by rw [e1]; exact sx_after hS h0 hF1 hL
  have fin : W p l e (rmC (d + 1) 39 3792) s m args below meth c T'.heap (locs ++ L) 39 3792 (MQ below (Qm h1 X) args s 39 3792 (inR X)) (F0 m 354 ls []) := W.vret C.1 C.2.1 C.2.2.1 (fun t ht hW => ⟨rfl, by rw [ht, e1]; exact hP9, hS'.F ht⟩) hS'.2.2 d_X11_init_354.1 C.2.2.2.2.2.2.1
  obtain ⟨t2, a2, b2⟩ := fin T' rfl X'
  exact ⟨t2, hgo _ a2, b2⟩
set_option maxHeartbeats 4000000 in
set_option maxRecDepth 100000 in
theorem cy_X11 {h1 : HH} (hE : g_X11_begins hI = some ((), h1)) (d : Nat) (hd : 1 ≤ d) (z : Nat) : Cy (Qm h1) mi_X11_init (d + 1) 39 3792 z 11 255 0 (nul 11) 0 0 [(0, .ref 255)] [] hI := by
  have e0 : (fsC 11).map (fvA hI 255) = [.int (hI.1 255 0), .ref (255 + 1), .int (hI.1 255 2), .ref (255 + 2), .ref (255 + 3), .ref (255 + 4), .ref (255 + 5), .ref (255 + 6), .ref (255 + 7), .ref (255 + 8), .ref (255 + 9), .ref (255 + 10), .ref (255 + 11), .ref (255 + 12), .ref (255 + 13), .ref (255 + 14), .ref (255 + 15), .ref (255 + 16), .ref (255 + 17), .ref (255 + 18), .int (hI.1 255 20), .int (hI.1 255 21), .int (hI.1 255 22), .int (hI.1 255 23), .int (hI.1 255 24), .int (hI.1 255 25), .int (hI.1 255 26), .int (hI.1 255 27), .int (hI.1 255 28), .int (hI.1 255 29), .int (hI.1 255 30), .int (hI.1 255 31), .int (hI.1 255 32), .ref (255 + 19), .ref (255 + 20), .int (hI.1 255 35), .ref (255 + 21), .ref (255 + 22), .ref (255 + 23), .ref (255 + 24), .ref (255 + 25), .ref (255 + 26), .ref (255 + 27), .int (hI.1 255 43), .int (hI.1 255 44), .int (hI.1 255 45), .int (hI.1 255 46), .int (hI.1 255 47), .int (hI.1 255 48), .int (hI.1 255 49), .ref (255 + 28), .ref (255 + 29), .int (hI.1 255 52), .ref (255 + 30), .ref (255 + 31), .ref (255 + 32), .int (hI.1 255 56), .int (hI.1 255 57), .ref (255 + 33), .ref (255 + 34), .ref (255 + 35), .ref (255 + 36), .ref (255 + 37), .ref (255 + 38), .ref (255 + 39)] := rfl
  refine cy_aload0 d_X11_init_0 rfl ?_
  refine cy_obj lo_X11 (by omega) (by decide) d_X11_init_1 ?_
  refine cy_aload0 d_X11_init_4 rfl ?_
  refine cy_sipush (v := nI 700) d_X11_init_5 (by decide) ?_
  refine cy_newa (N := 700) (t := 0) (kd := 0) (by decide +kernel) (by decide) rfl (Or.inl ⟨rfl, by decide, (hI_z 256 (by decide) (by decide) (by decide)).1⟩) (tb_in 71 (by decide +kernel) (by decide +kernel)) (by decide) (by decide) (by decide) d_X11_init_8 ?_
  refine cy_put (fs' := [.int 0, .ref (255 + 1 + 0), .int 0, .null, .null, .null, .null, .null, .null, .null, .null, .null, .null, .null, .null, .null, .null, .null, .null, .null, .int 0, .int 0, .int 0, .int 0, .int 0, .int 0, .int 0, .int 0, .int 0, .int 0, .int 0, .int 0, .int 0, .null, .null, .int 0, .null, .null, .null, .null, .null, .null, .null, .int 0, .int 0, .int 0, .int 0, .int 0, .int 0, .int 0, .null, .null, .int 0, .null, .null, .null, .int 0, .int 0, .null, .null, .null, .null, .null, .null, .null]) fq_StairCountModel_7 fq_StairCountModel_7_t (fun _ => ⟨rfl, rfl⟩) (Nat.le_of_ble_eq_true rfl) rfl (by decide) d_X11_init_10 ?_
  refine cy_aload0 d_X11_init_13 rfl ?_
  refine cy_bipush (v := nI 14) d_X11_init_14 (by decide) ?_
  refine cy_newa (N := 14) (t := 0) (kd := 0) (by decide +kernel) (by decide) rfl (Or.inl ⟨rfl, by decide, (hI_z 257 (by decide) (by decide) (by decide)).1⟩) (tb_in 71 (by decide +kernel) (by decide +kernel)) (by decide) (by decide) (by decide) d_X11_init_16 ?_
  refine cy_put (fs' := [.int 0, .ref (255 + 1 + 0), .int 0, .ref (255 + 1 + 1), .null, .null, .null, .null, .null, .null, .null, .null, .null, .null, .null, .null, .null, .null, .null, .null, .int 0, .int 0, .int 0, .int 0, .int 0, .int 0, .int 0, .int 0, .int 0, .int 0, .int 0, .int 0, .int 0, .null, .null, .int 0, .null, .null, .null, .null, .null, .null, .null, .int 0, .int 0, .int 0, .int 0, .int 0, .int 0, .int 0, .null, .null, .int 0, .null, .null, .null, .int 0, .int 0, .null, .null, .null, .null, .null, .null, .null]) fq_StairCountModel_13 fq_StairCountModel_13_t (fun _ => ⟨rfl, rfl⟩) (Nat.le_of_ble_eq_true rfl) rfl (by decide) d_X11_init_18 ?_
  refine cy_aload0 d_X11_init_21 rfl ?_
  refine cy_bipush (v := nI 12) d_X11_init_22 (by decide) ?_
  refine cy_newa (N := 12) (t := 0) (kd := 0) (by decide +kernel) (by decide) rfl (Or.inl ⟨rfl, by decide, (hI_z 258 (by decide) (by decide) (by decide)).1⟩) (tb_in 71 (by decide +kernel) (by decide +kernel)) (by decide) (by decide) (by decide) d_X11_init_24 ?_
  refine cy_put (fs' := [.int 0, .ref (255 + 1 + 0), .int 0, .ref (255 + 1 + 1), .ref (255 + 1 + 2), .null, .null, .null, .null, .null, .null, .null, .null, .null, .null, .null, .null, .null, .null, .null, .int 0, .int 0, .int 0, .int 0, .int 0, .int 0, .int 0, .int 0, .int 0, .int 0, .int 0, .int 0, .int 0, .null, .null, .int 0, .null, .null, .null, .null, .null, .null, .null, .int 0, .int 0, .int 0, .int 0, .int 0, .int 0, .int 0, .null, .null, .int 0, .null, .null, .null, .int 0, .int 0, .null, .null, .null, .null, .null, .null, .null]) fq_StairCountModel_16 fq_StairCountModel_16_t (fun _ => ⟨rfl, rfl⟩) (Nat.le_of_ble_eq_true rfl) rfl (by decide) d_X11_init_26 ?_
  refine cy_aload0 d_X11_init_29 rfl ?_
  refine cy_bipush (v := nI 12) d_X11_init_30 (by decide) ?_
  refine cy_newa (N := 12) (t := 0) (kd := 0) (by decide +kernel) (by decide) rfl (Or.inl ⟨rfl, by decide, (hI_z 259 (by decide) (by decide) (by decide)).1⟩) (tb_in 71 (by decide +kernel) (by decide +kernel)) (by decide) (by decide) (by decide) d_X11_init_32 ?_
  refine cy_put (fs' := [.int 0, .ref (255 + 1 + 0), .int 0, .ref (255 + 1 + 1), .ref (255 + 1 + 2), .ref (255 + 1 + 3), .null, .null, .null, .null, .null, .null, .null, .null, .null, .null, .null, .null, .null, .null, .int 0, .int 0, .int 0, .int 0, .int 0, .int 0, .int 0, .int 0, .int 0, .int 0, .int 0, .int 0, .int 0, .null, .null, .int 0, .null, .null, .null, .null, .null, .null, .null, .int 0, .int 0, .int 0, .int 0, .int 0, .int 0, .int 0, .null, .null, .int 0, .null, .null, .null, .int 0, .int 0, .null, .null, .null, .null, .null, .null, .null]) fq_StairCountModel_19 fq_StairCountModel_19_t (fun _ => ⟨rfl, rfl⟩) (Nat.le_of_ble_eq_true rfl) rfl (by decide) d_X11_init_34 ?_
  refine cy_aload0 d_X11_init_37 rfl ?_
  refine cy_bipush (v := nI 12) d_X11_init_38 (by decide) ?_
  refine cy_newa (N := 12) (t := 0) (kd := 0) (by decide +kernel) (by decide) rfl (Or.inl ⟨rfl, by decide, (hI_z 260 (by decide) (by decide) (by decide)).1⟩) (tb_in 71 (by decide +kernel) (by decide +kernel)) (by decide) (by decide) (by decide) d_X11_init_40 ?_
  refine cy_put (fs' := [.int 0, .ref (255 + 1 + 0), .int 0, .ref (255 + 1 + 1), .ref (255 + 1 + 2), .ref (255 + 1 + 3), .ref (255 + 1 + 4), .null, .null, .null, .null, .null, .null, .null, .null, .null, .null, .null, .null, .null, .int 0, .int 0, .int 0, .int 0, .int 0, .int 0, .int 0, .int 0, .int 0, .int 0, .int 0, .int 0, .int 0, .null, .null, .int 0, .null, .null, .null, .null, .null, .null, .null, .int 0, .int 0, .int 0, .int 0, .int 0, .int 0, .int 0, .null, .null, .int 0, .null, .null, .null, .int 0, .int 0, .null, .null, .null, .null, .null, .null, .null]) fq_StairCountModel_22 fq_StairCountModel_22_t (fun _ => ⟨rfl, rfl⟩) (Nat.le_of_ble_eq_true rfl) rfl (by decide) d_X11_init_42 ?_
  refine cy_aload0 d_X11_init_45 rfl ?_
  refine cy_bipush (v := nI 12) d_X11_init_46 (by decide) ?_
  refine cy_newa (N := 12) (t := 0) (kd := 0) (by decide +kernel) (by decide) rfl (Or.inl ⟨rfl, by decide, (hI_z 261 (by decide) (by decide) (by decide)).1⟩) (tb_in 71 (by decide +kernel) (by decide +kernel)) (by decide) (by decide) (by decide) d_X11_init_48 ?_
  refine cy_put (fs' := [.int 0, .ref (255 + 1 + 0), .int 0, .ref (255 + 1 + 1), .ref (255 + 1 + 2), .ref (255 + 1 + 3), .ref (255 + 1 + 4), .ref (255 + 1 + 5), .null, .null, .null, .null, .null, .null, .null, .null, .null, .null, .null, .null, .int 0, .int 0, .int 0, .int 0, .int 0, .int 0, .int 0, .int 0, .int 0, .int 0, .int 0, .int 0, .int 0, .null, .null, .int 0, .null, .null, .null, .null, .null, .null, .null, .int 0, .int 0, .int 0, .int 0, .int 0, .int 0, .int 0, .null, .null, .int 0, .null, .null, .null, .int 0, .int 0, .null, .null, .null, .null, .null, .null, .null]) fq_StairCountModel_25 fq_StairCountModel_25_t (fun _ => ⟨rfl, rfl⟩) (Nat.le_of_ble_eq_true rfl) rfl (by decide) d_X11_init_50 ?_
  refine cy_aload0 d_X11_init_53 rfl ?_
  refine cy_bipush (v := nI 72) d_X11_init_54 (by decide) ?_
  refine cy_newa (N := 72) (t := 0) (kd := 0) (by decide +kernel) (by decide) rfl (Or.inl ⟨rfl, by decide, (hI_z 262 (by decide) (by decide) (by decide)).1⟩) (tb_in 71 (by decide +kernel) (by decide +kernel)) (by decide) (by decide) (by decide) d_X11_init_56 ?_
  refine cy_put (fs' := [.int 0, .ref (255 + 1 + 0), .int 0, .ref (255 + 1 + 1), .ref (255 + 1 + 2), .ref (255 + 1 + 3), .ref (255 + 1 + 4), .ref (255 + 1 + 5), .ref (255 + 1 + 6), .null, .null, .null, .null, .null, .null, .null, .null, .null, .null, .null, .int 0, .int 0, .int 0, .int 0, .int 0, .int 0, .int 0, .int 0, .int 0, .int 0, .int 0, .int 0, .int 0, .null, .null, .int 0, .null, .null, .null, .null, .null, .null, .null, .int 0, .int 0, .int 0, .int 0, .int 0, .int 0, .int 0, .null, .null, .int 0, .null, .null, .null, .int 0, .int 0, .null, .null, .null, .null, .null, .null, .null]) fq_StairCountModel_28 fq_StairCountModel_28_t (fun _ => ⟨rfl, rfl⟩) (Nat.le_of_ble_eq_true rfl) rfl (by decide) d_X11_init_58 ?_
  refine cy_aload0 d_X11_init_61 rfl ?_
  refine cy_bipush (v := nI 12) d_X11_init_62 (by decide) ?_
  refine cy_newa (N := 12) (t := 0) (kd := 0) (by decide +kernel) (by decide) rfl (Or.inl ⟨rfl, by decide, (hI_z 263 (by decide) (by decide) (by decide)).1⟩) (tb_in 71 (by decide +kernel) (by decide +kernel)) (by decide) (by decide) (by decide) d_X11_init_64 ?_
  refine cy_put (fs' := [.int 0, .ref (255 + 1 + 0), .int 0, .ref (255 + 1 + 1), .ref (255 + 1 + 2), .ref (255 + 1 + 3), .ref (255 + 1 + 4), .ref (255 + 1 + 5), .ref (255 + 1 + 6), .ref (255 + 1 + 7), .null, .null, .null, .null, .null, .null, .null, .null, .null, .null, .int 0, .int 0, .int 0, .int 0, .int 0, .int 0, .int 0, .int 0, .int 0, .int 0, .int 0, .int 0, .int 0, .null, .null, .int 0, .null, .null, .null, .null, .null, .null, .null, .int 0, .int 0, .int 0, .int 0, .int 0, .int 0, .int 0, .null, .null, .int 0, .null, .null, .null, .int 0, .int 0, .null, .null, .null, .null, .null, .null, .null]) fq_StairCountModel_31 fq_StairCountModel_31_t (fun _ => ⟨rfl, rfl⟩) (Nat.le_of_ble_eq_true rfl) rfl (by decide) d_X11_init_66 ?_
  refine cy_aload0 d_X11_init_69 rfl ?_
  refine cy_bipush (v := nI 12) d_X11_init_70 (by decide) ?_
  refine cy_newa (N := 12) (t := 0) (kd := 0) (by decide +kernel) (by decide) rfl (Or.inl ⟨rfl, by decide, (hI_z 264 (by decide) (by decide) (by decide)).1⟩) (tb_in 71 (by decide +kernel) (by decide +kernel)) (by decide) (by decide) (by decide) d_X11_init_72 ?_
  refine cy_put (fs' := [.int 0, .ref (255 + 1 + 0), .int 0, .ref (255 + 1 + 1), .ref (255 + 1 + 2), .ref (255 + 1 + 3), .ref (255 + 1 + 4), .ref (255 + 1 + 5), .ref (255 + 1 + 6), .ref (255 + 1 + 7), .ref (255 + 1 + 8), .null, .null, .null, .null, .null, .null, .null, .null, .null, .int 0, .int 0, .int 0, .int 0, .int 0, .int 0, .int 0, .int 0, .int 0, .int 0, .int 0, .int 0, .int 0, .null, .null, .int 0, .null, .null, .null, .null, .null, .null, .null, .int 0, .int 0, .int 0, .int 0, .int 0, .int 0, .int 0, .null, .null, .int 0, .null, .null, .null, .int 0, .int 0, .null, .null, .null, .null, .null, .null, .null]) fq_StairCountModel_34 fq_StairCountModel_34_t (fun _ => ⟨rfl, rfl⟩) (Nat.le_of_ble_eq_true rfl) rfl (by decide) d_X11_init_74 ?_
  refine cy_aload0 d_X11_init_77 rfl ?_
  refine cy_bipush (v := nI 12) d_X11_init_78 (by decide) ?_
  refine cy_newa (N := 12) (t := 0) (kd := 0) (by decide +kernel) (by decide) rfl (Or.inl ⟨rfl, by decide, (hI_z 265 (by decide) (by decide) (by decide)).1⟩) (tb_in 71 (by decide +kernel) (by decide +kernel)) (by decide) (by decide) (by decide) d_X11_init_80 ?_
  refine cy_put (fs' := [.int 0, .ref (255 + 1 + 0), .int 0, .ref (255 + 1 + 1), .ref (255 + 1 + 2), .ref (255 + 1 + 3), .ref (255 + 1 + 4), .ref (255 + 1 + 5), .ref (255 + 1 + 6), .ref (255 + 1 + 7), .ref (255 + 1 + 8), .ref (255 + 1 + 9), .null, .null, .null, .null, .null, .null, .null, .null, .int 0, .int 0, .int 0, .int 0, .int 0, .int 0, .int 0, .int 0, .int 0, .int 0, .int 0, .int 0, .int 0, .null, .null, .int 0, .null, .null, .null, .null, .null, .null, .null, .int 0, .int 0, .int 0, .int 0, .int 0, .int 0, .int 0, .null, .null, .int 0, .null, .null, .null, .int 0, .int 0, .null, .null, .null, .null, .null, .null, .null]) fq_StairCountModel_37 fq_StairCountModel_37_t (fun _ => ⟨rfl, rfl⟩) (Nat.le_of_ble_eq_true rfl) rfl (by decide) d_X11_init_82 ?_
  refine cy_aload0 d_X11_init_85 rfl ?_
  refine cy_bipush (v := nI 40) d_X11_init_86 (by decide) ?_
  refine cy_newa (N := 40) (t := 0) (kd := 0) (by decide +kernel) (by decide) rfl (Or.inl ⟨rfl, by decide, (hI_z 266 (by decide) (by decide) (by decide)).1⟩) (tb_in 71 (by decide +kernel) (by decide +kernel)) (by decide) (by decide) (by decide) d_X11_init_88 ?_
  refine cy_put (fs' := [.int 0, .ref (255 + 1 + 0), .int 0, .ref (255 + 1 + 1), .ref (255 + 1 + 2), .ref (255 + 1 + 3), .ref (255 + 1 + 4), .ref (255 + 1 + 5), .ref (255 + 1 + 6), .ref (255 + 1 + 7), .ref (255 + 1 + 8), .ref (255 + 1 + 9), .ref (255 + 1 + 10), .null, .null, .null, .null, .null, .null, .null, .int 0, .int 0, .int 0, .int 0, .int 0, .int 0, .int 0, .int 0, .int 0, .int 0, .int 0, .int 0, .int 0, .null, .null, .int 0, .null, .null, .null, .null, .null, .null, .null, .int 0, .int 0, .int 0, .int 0, .int 0, .int 0, .int 0, .null, .null, .int 0, .null, .null, .null, .int 0, .int 0, .null, .null, .null, .null, .null, .null, .null]) fq_StairCountModel_40 fq_StairCountModel_40_t (fun _ => ⟨rfl, rfl⟩) (Nat.le_of_ble_eq_true rfl) rfl (by decide) d_X11_init_90 ?_
  refine cy_aload0 d_X11_init_93 rfl ?_
  refine cy_bipush (v := nI 40) d_X11_init_94 (by decide) ?_
  refine cy_newa (N := 40) (t := 0) (kd := 0) (by decide +kernel) (by decide) rfl (Or.inl ⟨rfl, by decide, (hI_z 267 (by decide) (by decide) (by decide)).1⟩) (tb_in 71 (by decide +kernel) (by decide +kernel)) (by decide) (by decide) (by decide) d_X11_init_96 ?_
  refine cy_put (fs' := [.int 0, .ref (255 + 1 + 0), .int 0, .ref (255 + 1 + 1), .ref (255 + 1 + 2), .ref (255 + 1 + 3), .ref (255 + 1 + 4), .ref (255 + 1 + 5), .ref (255 + 1 + 6), .ref (255 + 1 + 7), .ref (255 + 1 + 8), .ref (255 + 1 + 9), .ref (255 + 1 + 10), .ref (255 + 1 + 11), .null, .null, .null, .null, .null, .null, .int 0, .int 0, .int 0, .int 0, .int 0, .int 0, .int 0, .int 0, .int 0, .int 0, .int 0, .int 0, .int 0, .null, .null, .int 0, .null, .null, .null, .null, .null, .null, .null, .int 0, .int 0, .int 0, .int 0, .int 0, .int 0, .int 0, .null, .null, .int 0, .null, .null, .null, .int 0, .int 0, .null, .null, .null, .null, .null, .null, .null]) fq_StairCountModel_43 fq_StairCountModel_43_t (fun _ => ⟨rfl, rfl⟩) (Nat.le_of_ble_eq_true rfl) rfl (by decide) d_X11_init_98 ?_
  refine cy_aload0 d_X11_init_101 rfl ?_
  refine cy_bipush (v := nI 40) d_X11_init_102 (by decide) ?_
  refine cy_newa (N := 40) (t := 0) (kd := 0) (by decide +kernel) (by decide) rfl (Or.inl ⟨rfl, by decide, (hI_z 268 (by decide) (by decide) (by decide)).1⟩) (tb_in 71 (by decide +kernel) (by decide +kernel)) (by decide) (by decide) (by decide) d_X11_init_104 ?_
  refine cy_put (fs' := [.int 0, .ref (255 + 1 + 0), .int 0, .ref (255 + 1 + 1), .ref (255 + 1 + 2), .ref (255 + 1 + 3), .ref (255 + 1 + 4), .ref (255 + 1 + 5), .ref (255 + 1 + 6), .ref (255 + 1 + 7), .ref (255 + 1 + 8), .ref (255 + 1 + 9), .ref (255 + 1 + 10), .ref (255 + 1 + 11), .ref (255 + 1 + 12), .null, .null, .null, .null, .null, .int 0, .int 0, .int 0, .int 0, .int 0, .int 0, .int 0, .int 0, .int 0, .int 0, .int 0, .int 0, .int 0, .null, .null, .int 0, .null, .null, .null, .null, .null, .null, .null, .int 0, .int 0, .int 0, .int 0, .int 0, .int 0, .int 0, .null, .null, .int 0, .null, .null, .null, .int 0, .int 0, .null, .null, .null, .null, .null, .null, .null]) fq_StairCountModel_46 fq_StairCountModel_46_t (fun _ => ⟨rfl, rfl⟩) (Nat.le_of_ble_eq_true rfl) rfl (by decide) d_X11_init_106 ?_
  refine cy_aload0 d_X11_init_109 rfl ?_
  refine cy_bipush (v := nI 40) d_X11_init_110 (by decide) ?_
  refine cy_newa (N := 40) (t := 0) (kd := 0) (by decide +kernel) (by decide) rfl (Or.inl ⟨rfl, by decide, (hI_z 269 (by decide) (by decide) (by decide)).1⟩) (tb_in 71 (by decide +kernel) (by decide +kernel)) (by decide) (by decide) (by decide) d_X11_init_112 ?_
  refine cy_put (fs' := [.int 0, .ref (255 + 1 + 0), .int 0, .ref (255 + 1 + 1), .ref (255 + 1 + 2), .ref (255 + 1 + 3), .ref (255 + 1 + 4), .ref (255 + 1 + 5), .ref (255 + 1 + 6), .ref (255 + 1 + 7), .ref (255 + 1 + 8), .ref (255 + 1 + 9), .ref (255 + 1 + 10), .ref (255 + 1 + 11), .ref (255 + 1 + 12), .ref (255 + 1 + 13), .null, .null, .null, .null, .int 0, .int 0, .int 0, .int 0, .int 0, .int 0, .int 0, .int 0, .int 0, .int 0, .int 0, .int 0, .int 0, .null, .null, .int 0, .null, .null, .null, .null, .null, .null, .null, .int 0, .int 0, .int 0, .int 0, .int 0, .int 0, .int 0, .null, .null, .int 0, .null, .null, .null, .int 0, .int 0, .null, .null, .null, .null, .null, .null, .null]) fq_StairCountModel_49 fq_StairCountModel_49_t (fun _ => ⟨rfl, rfl⟩) (Nat.le_of_ble_eq_true rfl) rfl (by decide) d_X11_init_114 ?_
  refine cy_aload0 d_X11_init_117 rfl ?_
  refine cy_bipush (v := nI 6) d_X11_init_118 (by decide) ?_
  refine cy_newa (N := 6) (t := 0) (kd := 0) (by decide +kernel) (by decide) rfl (Or.inl ⟨rfl, by decide, (hI_z 270 (by decide) (by decide) (by decide)).1⟩) (tb_in 71 (by decide +kernel) (by decide +kernel)) (by decide) (by decide) (by decide) d_X11_init_120 ?_
  refine cy_put (fs' := [.int 0, .ref (255 + 1 + 0), .int 0, .ref (255 + 1 + 1), .ref (255 + 1 + 2), .ref (255 + 1 + 3), .ref (255 + 1 + 4), .ref (255 + 1 + 5), .ref (255 + 1 + 6), .ref (255 + 1 + 7), .ref (255 + 1 + 8), .ref (255 + 1 + 9), .ref (255 + 1 + 10), .ref (255 + 1 + 11), .ref (255 + 1 + 12), .ref (255 + 1 + 13), .ref (255 + 1 + 14), .null, .null, .null, .int 0, .int 0, .int 0, .int 0, .int 0, .int 0, .int 0, .int 0, .int 0, .int 0, .int 0, .int 0, .int 0, .null, .null, .int 0, .null, .null, .null, .null, .null, .null, .null, .int 0, .int 0, .int 0, .int 0, .int 0, .int 0, .int 0, .null, .null, .int 0, .null, .null, .null, .int 0, .int 0, .null, .null, .null, .null, .null, .null, .null]) fq_StairCountModel_52 fq_StairCountModel_52_t (fun _ => ⟨rfl, rfl⟩) (Nat.le_of_ble_eq_true rfl) rfl (by decide) d_X11_init_122 ?_
  refine cy_aload0 d_X11_init_125 rfl ?_
  refine cy_bipush (v := nI 6) d_X11_init_126 (by decide) ?_
  refine cy_newa (N := 6) (t := 0) (kd := 0) (by decide +kernel) (by decide) rfl (Or.inl ⟨rfl, by decide, (hI_z 271 (by decide) (by decide) (by decide)).1⟩) (tb_in 71 (by decide +kernel) (by decide +kernel)) (by decide) (by decide) (by decide) d_X11_init_128 ?_
  refine cy_put (fs' := [.int 0, .ref (255 + 1 + 0), .int 0, .ref (255 + 1 + 1), .ref (255 + 1 + 2), .ref (255 + 1 + 3), .ref (255 + 1 + 4), .ref (255 + 1 + 5), .ref (255 + 1 + 6), .ref (255 + 1 + 7), .ref (255 + 1 + 8), .ref (255 + 1 + 9), .ref (255 + 1 + 10), .ref (255 + 1 + 11), .ref (255 + 1 + 12), .ref (255 + 1 + 13), .ref (255 + 1 + 14), .ref (255 + 1 + 15), .null, .null, .int 0, .int 0, .int 0, .int 0, .int 0, .int 0, .int 0, .int 0, .int 0, .int 0, .int 0, .int 0, .int 0, .null, .null, .int 0, .null, .null, .null, .null, .null, .null, .null, .int 0, .int 0, .int 0, .int 0, .int 0, .int 0, .int 0, .null, .null, .int 0, .null, .null, .null, .int 0, .int 0, .null, .null, .null, .null, .null, .null, .null]) fq_StairCountModel_55 fq_StairCountModel_55_t (fun _ => ⟨rfl, rfl⟩) (Nat.le_of_ble_eq_true rfl) rfl (by decide) d_X11_init_130 ?_
  refine cy_aload0 d_X11_init_133 rfl ?_
  refine cy_sipush (v := nI 128) d_X11_init_134 (by decide) ?_
  refine cy_newa (N := 128) (t := 0) (kd := 0) (by decide +kernel) (by decide) rfl (Or.inl ⟨rfl, by decide, (hI_z 272 (by decide) (by decide) (by decide)).1⟩) (tb_in 71 (by decide +kernel) (by decide +kernel)) (by decide) (by decide) (by decide) d_X11_init_137 ?_
  refine cy_put (fs' := [.int 0, .ref (255 + 1 + 0), .int 0, .ref (255 + 1 + 1), .ref (255 + 1 + 2), .ref (255 + 1 + 3), .ref (255 + 1 + 4), .ref (255 + 1 + 5), .ref (255 + 1 + 6), .ref (255 + 1 + 7), .ref (255 + 1 + 8), .ref (255 + 1 + 9), .ref (255 + 1 + 10), .ref (255 + 1 + 11), .ref (255 + 1 + 12), .ref (255 + 1 + 13), .ref (255 + 1 + 14), .ref (255 + 1 + 15), .ref (255 + 1 + 16), .null, .int 0, .int 0, .int 0, .int 0, .int 0, .int 0, .int 0, .int 0, .int 0, .int 0, .int 0, .int 0, .int 0, .null, .null, .int 0, .null, .null, .null, .null, .null, .null, .null, .int 0, .int 0, .int 0, .int 0, .int 0, .int 0, .int 0, .null, .null, .int 0, .null, .null, .null, .int 0, .int 0, .null, .null, .null, .null, .null, .null, .null]) fq_StairCountModel_58 fq_StairCountModel_58_t (fun _ => ⟨rfl, rfl⟩) (Nat.le_of_ble_eq_true rfl) rfl (by decide) d_X11_init_139 ?_
  refine cy_aload0 d_X11_init_142 rfl ?_
  refine cy_sipush (v := nI 128) d_X11_init_143 (by decide) ?_
  refine cy_newa (N := 128) (t := 0) (kd := 0) (by decide +kernel) (by decide) rfl (Or.inl ⟨rfl, by decide, (hI_z 273 (by decide) (by decide) (by decide)).1⟩) (tb_in 71 (by decide +kernel) (by decide +kernel)) (by decide) (by decide) (by decide) d_X11_init_146 ?_
  refine cy_put (fs' := [.int 0, .ref (255 + 1 + 0), .int 0, .ref (255 + 1 + 1), .ref (255 + 1 + 2), .ref (255 + 1 + 3), .ref (255 + 1 + 4), .ref (255 + 1 + 5), .ref (255 + 1 + 6), .ref (255 + 1 + 7), .ref (255 + 1 + 8), .ref (255 + 1 + 9), .ref (255 + 1 + 10), .ref (255 + 1 + 11), .ref (255 + 1 + 12), .ref (255 + 1 + 13), .ref (255 + 1 + 14), .ref (255 + 1 + 15), .ref (255 + 1 + 16), .ref (255 + 1 + 17), .int 0, .int 0, .int 0, .int 0, .int 0, .int 0, .int 0, .int 0, .int 0, .int 0, .int 0, .int 0, .int 0, .null, .null, .int 0, .null, .null, .null, .null, .null, .null, .null, .int 0, .int 0, .int 0, .int 0, .int 0, .int 0, .int 0, .null, .null, .int 0, .null, .null, .null, .int 0, .int 0, .null, .null, .null, .null, .null, .null, .null]) fq_StairCountModel_61 fq_StairCountModel_61_t (fun _ => ⟨rfl, rfl⟩) (Nat.le_of_ble_eq_true rfl) rfl (by decide) d_X11_init_148 ?_
  refine cy_aload0 d_X11_init_151 rfl ?_
  refine cy_iconst (v := -1) d_X11_init_152 (by decide) ?_
  refine cy_put (fs' := [.int 0, .ref (255 + 1 + 0), .int 0, .ref (255 + 1 + 1), .ref (255 + 1 + 2), .ref (255 + 1 + 3), .ref (255 + 1 + 4), .ref (255 + 1 + 5), .ref (255 + 1 + 6), .ref (255 + 1 + 7), .ref (255 + 1 + 8), .ref (255 + 1 + 9), .ref (255 + 1 + 10), .ref (255 + 1 + 11), .ref (255 + 1 + 12), .ref (255 + 1 + 13), .ref (255 + 1 + 14), .ref (255 + 1 + 15), .ref (255 + 1 + 16), .ref (255 + 1 + 17), .int 0, .int 0, .int 0, .int 0, .int 0, .int 0, .int 0, .int 0, .int 0, .int 0, .int (-1), .int 0, .int 0, .null, .null, .int 0, .null, .null, .null, .null, .null, .null, .null, .int 0, .int 0, .int 0, .int 0, .int 0, .int 0, .int 0, .null, .null, .int 0, .null, .null, .null, .int 0, .int 0, .null, .null, .null, .null, .null, .null, .null]) fq_StairCountModel_64 fq_StairCountModel_64_t (fun _ => ⟨rfl, rfl⟩) (Nat.le_of_ble_eq_true rfl) rfl (by decide) d_X11_init_153 ?_
  refine cy_aload0 d_X11_init_156 rfl ?_
  refine cy_bipush (v := nI 7) d_X11_init_157 (by decide) ?_
  refine cy_newa (N := 7) (t := 3) (kd := 1) (by decide +kernel) (by decide) rfl (Or.inr ⟨rfl, rfl, (hI_z 274 (by decide) (by decide) (by decide)).2⟩) (tb_in 402 (by decide +kernel) (by decide +kernel)) (by decide) (by decide) (by decide) d_X11_init_159 ?_
  refine cy_put (fs' := [.int 0, .ref (255 + 1 + 0), .int 0, .ref (255 + 1 + 1), .ref (255 + 1 + 2), .ref (255 + 1 + 3), .ref (255 + 1 + 4), .ref (255 + 1 + 5), .ref (255 + 1 + 6), .ref (255 + 1 + 7), .ref (255 + 1 + 8), .ref (255 + 1 + 9), .ref (255 + 1 + 10), .ref (255 + 1 + 11), .ref (255 + 1 + 12), .ref (255 + 1 + 13), .ref (255 + 1 + 14), .ref (255 + 1 + 15), .ref (255 + 1 + 16), .ref (255 + 1 + 17), .int 0, .int 0, .int 0, .int 0, .int 0, .int 0, .int 0, .int 0, .int 0, .int 0, .int (-1), .int 0, .int 0, .ref (255 + 1 + 18), .null, .int 0, .null, .null, .null, .null, .null, .null, .null, .int 0, .int 0, .int 0, .int 0, .int 0, .int 0, .int 0, .null, .null, .int 0, .null, .null, .null, .int 0, .int 0, .null, .null, .null, .null, .null, .null, .null]) fq_StairCountModel_68 fq_StairCountModel_68_t (fun _ => ⟨rfl, rfl⟩) (Nat.le_of_ble_eq_true rfl) rfl (by decide) d_X11_init_161 ?_
  refine cy_aload0 d_X11_init_164 rfl ?_
  refine cy_bipush (v := nI 64) d_X11_init_165 (by decide) ?_
  refine cy_newa (N := 64) (t := 3) (kd := 1) (by decide +kernel) (by decide) rfl (Or.inr ⟨rfl, rfl, (hI_z 275 (by decide) (by decide) (by decide)).2⟩) (tb_in 402 (by decide +kernel) (by decide +kernel)) (by decide) (by decide) (by decide) d_X11_init_167 ?_
  refine cy_put (fs' := [.int 0, .ref (255 + 1 + 0), .int 0, .ref (255 + 1 + 1), .ref (255 + 1 + 2), .ref (255 + 1 + 3), .ref (255 + 1 + 4), .ref (255 + 1 + 5), .ref (255 + 1 + 6), .ref (255 + 1 + 7), .ref (255 + 1 + 8), .ref (255 + 1 + 9), .ref (255 + 1 + 10), .ref (255 + 1 + 11), .ref (255 + 1 + 12), .ref (255 + 1 + 13), .ref (255 + 1 + 14), .ref (255 + 1 + 15), .ref (255 + 1 + 16), .ref (255 + 1 + 17), .int 0, .int 0, .int 0, .int 0, .int 0, .int 0, .int 0, .int 0, .int 0, .int 0, .int (-1), .int 0, .int 0, .ref (255 + 1 + 18), .ref (255 + 1 + 19), .int 0, .null, .null, .null, .null, .null, .null, .null, .int 0, .int 0, .int 0, .int 0, .int 0, .int 0, .int 0, .null, .null, .int 0, .null, .null, .null, .int 0, .int 0, .null, .null, .null, .null, .null, .null, .null]) fq_StairCountModel_72 fq_StairCountModel_72_t (fun _ => ⟨rfl, rfl⟩) (Nat.le_of_ble_eq_true rfl) rfl (by decide) d_X11_init_169 ?_
  refine cy_aload0 d_X11_init_172 rfl ?_
  refine cy_bipush (v := nI 23) d_X11_init_173 (by decide) ?_
  refine cy_newa (N := 23) (t := 0) (kd := 0) (by decide +kernel) (by decide) rfl (Or.inl ⟨rfl, by decide, (hI_z 276 (by decide) (by decide) (by decide)).1⟩) (tb_in 71 (by decide +kernel) (by decide +kernel)) (by decide) (by decide) (by decide) d_X11_init_175 ?_
  refine cy_put (fs' := [.int 0, .ref (255 + 1 + 0), .int 0, .ref (255 + 1 + 1), .ref (255 + 1 + 2), .ref (255 + 1 + 3), .ref (255 + 1 + 4), .ref (255 + 1 + 5), .ref (255 + 1 + 6), .ref (255 + 1 + 7), .ref (255 + 1 + 8), .ref (255 + 1 + 9), .ref (255 + 1 + 10), .ref (255 + 1 + 11), .ref (255 + 1 + 12), .ref (255 + 1 + 13), .ref (255 + 1 + 14), .ref (255 + 1 + 15), .ref (255 + 1 + 16), .ref (255 + 1 + 17), .int 0, .int 0, .int 0, .int 0, .int 0, .int 0, .int 0, .int 0, .int 0, .int 0, .int (-1), .int 0, .int 0, .ref (255 + 1 + 18), .ref (255 + 1 + 19), .int 0, .ref (255 + 1 + 20), .null, .null, .null, .null, .null, .null, .int 0, .int 0, .int 0, .int 0, .int 0, .int 0, .int 0, .null, .null, .int 0, .null, .null, .null, .int 0, .int 0, .null, .null, .null, .null, .null, .null, .null]) fq_StairCountModel_75 fq_StairCountModel_75_t (fun _ => ⟨rfl, rfl⟩) (Nat.le_of_ble_eq_true rfl) rfl (by decide) d_X11_init_177 ?_
  refine cy_aload0 d_X11_init_180 rfl ?_
  refine cy_bipush (v := nI 23) d_X11_init_181 (by decide) ?_
  refine cy_newa (N := 23) (t := 0) (kd := 0) (by decide +kernel) (by decide) rfl (Or.inl ⟨rfl, by decide, (hI_z 277 (by decide) (by decide) (by decide)).1⟩) (tb_in 71 (by decide +kernel) (by decide +kernel)) (by decide) (by decide) (by decide) d_X11_init_183 ?_
  refine cy_put (fs' := [.int 0, .ref (255 + 1 + 0), .int 0, .ref (255 + 1 + 1), .ref (255 + 1 + 2), .ref (255 + 1 + 3), .ref (255 + 1 + 4), .ref (255 + 1 + 5), .ref (255 + 1 + 6), .ref (255 + 1 + 7), .ref (255 + 1 + 8), .ref (255 + 1 + 9), .ref (255 + 1 + 10), .ref (255 + 1 + 11), .ref (255 + 1 + 12), .ref (255 + 1 + 13), .ref (255 + 1 + 14), .ref (255 + 1 + 15), .ref (255 + 1 + 16), .ref (255 + 1 + 17), .int 0, .int 0, .int 0, .int 0, .int 0, .int 0, .int 0, .int 0, .int 0, .int 0, .int (-1), .int 0, .int 0, .ref (255 + 1 + 18), .ref (255 + 1 + 19), .int 0, .ref (255 + 1 + 20), .ref (255 + 1 + 21), .null, .null, .null, .null, .null, .int 0, .int 0, .int 0, .int 0, .int 0, .int 0, .int 0, .null, .null, .int 0, .null, .null, .null, .int 0, .int 0, .null, .null, .null, .null, .null, .null, .null]) fq_StairCountModel_78 fq_StairCountModel_78_t (fun _ => ⟨rfl, rfl⟩) (Nat.le_of_ble_eq_true rfl) rfl (by decide) d_X11_init_185 ?_
  refine cy_aload0 d_X11_init_188 rfl ?_
  refine cy_sipush (v := nI 138) d_X11_init_189 (by decide) ?_
  refine cy_newa (N := 138) (t := 0) (kd := 0) (by decide +kernel) (by decide) rfl (Or.inl ⟨rfl, by decide, (hI_z 278 (by decide) (by decide) (by decide)).1⟩) (tb_in 71 (by decide +kernel) (by decide +kernel)) (by decide) (by decide) (by decide) d_X11_init_192 ?_
  refine cy_put (fs' := [.int 0, .ref (255 + 1 + 0), .int 0, .ref (255 + 1 + 1), .ref (255 + 1 + 2), .ref (255 + 1 + 3), .ref (255 + 1 + 4), .ref (255 + 1 + 5), .ref (255 + 1 + 6), .ref (255 + 1 + 7), .ref (255 + 1 + 8), .ref (255 + 1 + 9), .ref (255 + 1 + 10), .ref (255 + 1 + 11), .ref (255 + 1 + 12), .ref (255 + 1 + 13), .ref (255 + 1 + 14), .ref (255 + 1 + 15), .ref (255 + 1 + 16), .ref (255 + 1 + 17), .int 0, .int 0, .int 0, .int 0, .int 0, .int 0, .int 0, .int 0, .int 0, .int 0, .int (-1), .int 0, .int 0, .ref (255 + 1 + 18), .ref (255 + 1 + 19), .int 0, .ref (255 + 1 + 20), .ref (255 + 1 + 21), .ref (255 + 1 + 22), .null, .null, .null, .null, .int 0, .int 0, .int 0, .int 0, .int 0, .int 0, .int 0, .null, .null, .int 0, .null, .null, .null, .int 0, .int 0, .null, .null, .null, .null, .null, .null, .null]) fq_StairCountModel_81 fq_StairCountModel_81_t (fun _ => ⟨rfl, rfl⟩) (Nat.le_of_ble_eq_true rfl) rfl (by decide) d_X11_init_194 ?_
  refine cy_aload0 d_X11_init_197 rfl ?_
  refine cy_sipush (v := nI 138) d_X11_init_198 (by decide) ?_
  refine cy_newa (N := 138) (t := 0) (kd := 0) (by decide +kernel) (by decide) rfl (Or.inl ⟨rfl, by decide, (hI_z 279 (by decide) (by decide) (by decide)).1⟩) (tb_in 71 (by decide +kernel) (by decide +kernel)) (by decide) (by decide) (by decide) d_X11_init_201 ?_
  refine cy_put (fs' := [.int 0, .ref (255 + 1 + 0), .int 0, .ref (255 + 1 + 1), .ref (255 + 1 + 2), .ref (255 + 1 + 3), .ref (255 + 1 + 4), .ref (255 + 1 + 5), .ref (255 + 1 + 6), .ref (255 + 1 + 7), .ref (255 + 1 + 8), .ref (255 + 1 + 9), .ref (255 + 1 + 10), .ref (255 + 1 + 11), .ref (255 + 1 + 12), .ref (255 + 1 + 13), .ref (255 + 1 + 14), .ref (255 + 1 + 15), .ref (255 + 1 + 16), .ref (255 + 1 + 17), .int 0, .int 0, .int 0, .int 0, .int 0, .int 0, .int 0, .int 0, .int 0, .int 0, .int (-1), .int 0, .int 0, .ref (255 + 1 + 18), .ref (255 + 1 + 19), .int 0, .ref (255 + 1 + 20), .ref (255 + 1 + 21), .ref (255 + 1 + 22), .ref (255 + 1 + 23), .null, .null, .null, .int 0, .int 0, .int 0, .int 0, .int 0, .int 0, .int 0, .null, .null, .int 0, .null, .null, .null, .int 0, .int 0, .null, .null, .null, .null, .null, .null, .null]) fq_StairCountModel_84 fq_StairCountModel_84_t (fun _ => ⟨rfl, rfl⟩) (Nat.le_of_ble_eq_true rfl) rfl (by decide) d_X11_init_203 ?_
  refine cy_aload0 d_X11_init_206 rfl ?_
  refine cy_sipush (v := nI 138) d_X11_init_207 (by decide) ?_
  refine cy_newa (N := 138) (t := 0) (kd := 0) (by decide +kernel) (by decide) rfl (Or.inl ⟨rfl, by decide, (hI_z 280 (by decide) (by decide) (by decide)).1⟩) (tb_in 71 (by decide +kernel) (by decide +kernel)) (by decide) (by decide) (by decide) d_X11_init_210 ?_
  refine cy_put (fs' := [.int 0, .ref (255 + 1 + 0), .int 0, .ref (255 + 1 + 1), .ref (255 + 1 + 2), .ref (255 + 1 + 3), .ref (255 + 1 + 4), .ref (255 + 1 + 5), .ref (255 + 1 + 6), .ref (255 + 1 + 7), .ref (255 + 1 + 8), .ref (255 + 1 + 9), .ref (255 + 1 + 10), .ref (255 + 1 + 11), .ref (255 + 1 + 12), .ref (255 + 1 + 13), .ref (255 + 1 + 14), .ref (255 + 1 + 15), .ref (255 + 1 + 16), .ref (255 + 1 + 17), .int 0, .int 0, .int 0, .int 0, .int 0, .int 0, .int 0, .int 0, .int 0, .int 0, .int (-1), .int 0, .int 0, .ref (255 + 1 + 18), .ref (255 + 1 + 19), .int 0, .ref (255 + 1 + 20), .ref (255 + 1 + 21), .ref (255 + 1 + 22), .ref (255 + 1 + 23), .ref (255 + 1 + 24), .null, .null, .int 0, .int 0, .int 0, .int 0, .int 0, .int 0, .int 0, .null, .null, .int 0, .null, .null, .null, .int 0, .int 0, .null, .null, .null, .null, .null, .null, .null]) fq_StairCountModel_87 fq_StairCountModel_87_t (fun _ => ⟨rfl, rfl⟩) (Nat.le_of_ble_eq_true rfl) rfl (by decide) d_X11_init_212 ?_
  refine cy_aload0 d_X11_init_215 rfl ?_
  refine cy_sipush (v := nI 138) d_X11_init_216 (by decide) ?_
  refine cy_newa (N := 138) (t := 0) (kd := 0) (by decide +kernel) (by decide) rfl (Or.inl ⟨rfl, by decide, (hI_z 281 (by decide) (by decide) (by decide)).1⟩) (tb_in 71 (by decide +kernel) (by decide +kernel)) (by decide) (by decide) (by decide) d_X11_init_219 ?_
  refine cy_put (fs' := [.int 0, .ref (255 + 1 + 0), .int 0, .ref (255 + 1 + 1), .ref (255 + 1 + 2), .ref (255 + 1 + 3), .ref (255 + 1 + 4), .ref (255 + 1 + 5), .ref (255 + 1 + 6), .ref (255 + 1 + 7), .ref (255 + 1 + 8), .ref (255 + 1 + 9), .ref (255 + 1 + 10), .ref (255 + 1 + 11), .ref (255 + 1 + 12), .ref (255 + 1 + 13), .ref (255 + 1 + 14), .ref (255 + 1 + 15), .ref (255 + 1 + 16), .ref (255 + 1 + 17), .int 0, .int 0, .int 0, .int 0, .int 0, .int 0, .int 0, .int 0, .int 0, .int 0, .int (-1), .int 0, .int 0, .ref (255 + 1 + 18), .ref (255 + 1 + 19), .int 0, .ref (255 + 1 + 20), .ref (255 + 1 + 21), .ref (255 + 1 + 22), .ref (255 + 1 + 23), .ref (255 + 1 + 24), .ref (255 + 1 + 25), .null, .int 0, .int 0, .int 0, .int 0, .int 0, .int 0, .int 0, .null, .null, .int 0, .null, .null, .null, .int 0, .int 0, .null, .null, .null, .null, .null, .null, .null]) fq_StairCountModel_90 fq_StairCountModel_90_t (fun _ => ⟨rfl, rfl⟩) (Nat.le_of_ble_eq_true rfl) rfl (by decide) d_X11_init_221 ?_
  refine cy_aload0 d_X11_init_224 rfl ?_
  refine cy_sipush (v := nI 828) d_X11_init_225 (by decide) ?_
  refine cy_newa (N := 828) (t := 0) (kd := 0) (by decide +kernel) (by decide) rfl (Or.inl ⟨rfl, by decide, (hI_z 282 (by decide) (by decide) (by decide)).1⟩) (tb_in 71 (by decide +kernel) (by decide +kernel)) (by decide) (by decide) (by decide) d_X11_init_228 ?_
  refine cy_put (fs' := [.int 0, .ref (255 + 1 + 0), .int 0, .ref (255 + 1 + 1), .ref (255 + 1 + 2), .ref (255 + 1 + 3), .ref (255 + 1 + 4), .ref (255 + 1 + 5), .ref (255 + 1 + 6), .ref (255 + 1 + 7), .ref (255 + 1 + 8), .ref (255 + 1 + 9), .ref (255 + 1 + 10), .ref (255 + 1 + 11), .ref (255 + 1 + 12), .ref (255 + 1 + 13), .ref (255 + 1 + 14), .ref (255 + 1 + 15), .ref (255 + 1 + 16), .ref (255 + 1 + 17), .int 0, .int 0, .int 0, .int 0, .int 0, .int 0, .int 0, .int 0, .int 0, .int 0, .int (-1), .int 0, .int 0, .ref (255 + 1 + 18), .ref (255 + 1 + 19), .int 0, .ref (255 + 1 + 20), .ref (255 + 1 + 21), .ref (255 + 1 + 22), .ref (255 + 1 + 23), .ref (255 + 1 + 24), .ref (255 + 1 + 25), .ref (255 + 1 + 26), .int 0, .int 0, .int 0, .int 0, .int 0, .int 0, .int 0, .null, .null, .int 0, .null, .null, .null, .int 0, .int 0, .null, .null, .null, .null, .null, .null, .null]) fq_StairCountModel_93 fq_StairCountModel_93_t (fun _ => ⟨rfl, rfl⟩) (Nat.le_of_ble_eq_true rfl) rfl (by decide) d_X11_init_230 ?_
  refine cy_aload0 d_X11_init_233 rfl ?_
  refine cy_iconst (v := -1) d_X11_init_234 (by decide) ?_
  refine cy_put (fs' := [.int 0, .ref (255 + 1 + 0), .int 0, .ref (255 + 1 + 1), .ref (255 + 1 + 2), .ref (255 + 1 + 3), .ref (255 + 1 + 4), .ref (255 + 1 + 5), .ref (255 + 1 + 6), .ref (255 + 1 + 7), .ref (255 + 1 + 8), .ref (255 + 1 + 9), .ref (255 + 1 + 10), .ref (255 + 1 + 11), .ref (255 + 1 + 12), .ref (255 + 1 + 13), .ref (255 + 1 + 14), .ref (255 + 1 + 15), .ref (255 + 1 + 16), .ref (255 + 1 + 17), .int 0, .int 0, .int 0, .int 0, .int 0, .int 0, .int 0, .int 0, .int 0, .int 0, .int (-1), .int 0, .int 0, .ref (255 + 1 + 18), .ref (255 + 1 + 19), .int 0, .ref (255 + 1 + 20), .ref (255 + 1 + 21), .ref (255 + 1 + 22), .ref (255 + 1 + 23), .ref (255 + 1 + 24), .ref (255 + 1 + 25), .ref (255 + 1 + 26), .int 0, .int 0, .int (-1), .int 0, .int 0, .int 0, .int 0, .null, .null, .int 0, .null, .null, .null, .int 0, .int 0, .null, .null, .null, .null, .null, .null, .null]) fq_StairCountModel_96 fq_StairCountModel_96_t (fun _ => ⟨rfl, rfl⟩) (Nat.le_of_ble_eq_true rfl) rfl (by decide) d_X11_init_235 ?_
  refine cy_aload0 d_X11_init_238 rfl ?_
  refine cy_iconst (v := -1) d_X11_init_239 (by decide) ?_
  refine cy_put (fs' := [.int 0, .ref (255 + 1 + 0), .int 0, .ref (255 + 1 + 1), .ref (255 + 1 + 2), .ref (255 + 1 + 3), .ref (255 + 1 + 4), .ref (255 + 1 + 5), .ref (255 + 1 + 6), .ref (255 + 1 + 7), .ref (255 + 1 + 8), .ref (255 + 1 + 9), .ref (255 + 1 + 10), .ref (255 + 1 + 11), .ref (255 + 1 + 12), .ref (255 + 1 + 13), .ref (255 + 1 + 14), .ref (255 + 1 + 15), .ref (255 + 1 + 16), .ref (255 + 1 + 17), .int 0, .int 0, .int 0, .int 0, .int 0, .int 0, .int 0, .int 0, .int 0, .int 0, .int (-1), .int 0, .int 0, .ref (255 + 1 + 18), .ref (255 + 1 + 19), .int 0, .ref (255 + 1 + 20), .ref (255 + 1 + 21), .ref (255 + 1 + 22), .ref (255 + 1 + 23), .ref (255 + 1 + 24), .ref (255 + 1 + 25), .ref (255 + 1 + 26), .int 0, .int 0, .int (-1), .int (-1), .int 0, .int 0, .int 0, .null, .null, .int 0, .null, .null, .null, .int 0, .int 0, .null, .null, .null, .null, .null, .null, .null]) fq_StairCountModel_99 fq_StairCountModel_99_t (fun _ => ⟨rfl, rfl⟩) (Nat.le_of_ble_eq_true rfl) rfl (by decide) d_X11_init_240 ?_
  refine cy_aload0 d_X11_init_243 rfl ?_
  refine cy_iconst (v := -1) d_X11_init_244 (by decide) ?_
  refine cy_put (fs' := [.int 0, .ref (255 + 1 + 0), .int 0, .ref (255 + 1 + 1), .ref (255 + 1 + 2), .ref (255 + 1 + 3), .ref (255 + 1 + 4), .ref (255 + 1 + 5), .ref (255 + 1 + 6), .ref (255 + 1 + 7), .ref (255 + 1 + 8), .ref (255 + 1 + 9), .ref (255 + 1 + 10), .ref (255 + 1 + 11), .ref (255 + 1 + 12), .ref (255 + 1 + 13), .ref (255 + 1 + 14), .ref (255 + 1 + 15), .ref (255 + 1 + 16), .ref (255 + 1 + 17), .int 0, .int 0, .int 0, .int 0, .int 0, .int 0, .int 0, .int 0, .int 0, .int 0, .int (-1), .int 0, .int 0, .ref (255 + 1 + 18), .ref (255 + 1 + 19), .int 0, .ref (255 + 1 + 20), .ref (255 + 1 + 21), .ref (255 + 1 + 22), .ref (255 + 1 + 23), .ref (255 + 1 + 24), .ref (255 + 1 + 25), .ref (255 + 1 + 26), .int 0, .int 0, .int (-1), .int (-1), .int 0, .int 0, .int (-1), .null, .null, .int 0, .null, .null, .null, .int 0, .int 0, .null, .null, .null, .null, .null, .null, .null]) fq_StairCountModel_102 fq_StairCountModel_102_t (fun _ => ⟨rfl, rfl⟩) (Nat.le_of_ble_eq_true rfl) rfl (by decide) d_X11_init_245 ?_
  refine cy_aload0 d_X11_init_248 rfl ?_
  refine cy_bipush (v := nI 20) d_X11_init_249 (by decide) ?_
  refine cy_newa (N := 20) (t := 0) (kd := 0) (by decide +kernel) (by decide) rfl (Or.inl ⟨rfl, by decide, (hI_z 283 (by decide) (by decide) (by decide)).1⟩) (tb_in 71 (by decide +kernel) (by decide +kernel)) (by decide) (by decide) (by decide) d_X11_init_251 ?_
  refine cy_put (fs' := [.int 0, .ref (255 + 1 + 0), .int 0, .ref (255 + 1 + 1), .ref (255 + 1 + 2), .ref (255 + 1 + 3), .ref (255 + 1 + 4), .ref (255 + 1 + 5), .ref (255 + 1 + 6), .ref (255 + 1 + 7), .ref (255 + 1 + 8), .ref (255 + 1 + 9), .ref (255 + 1 + 10), .ref (255 + 1 + 11), .ref (255 + 1 + 12), .ref (255 + 1 + 13), .ref (255 + 1 + 14), .ref (255 + 1 + 15), .ref (255 + 1 + 16), .ref (255 + 1 + 17), .int 0, .int 0, .int 0, .int 0, .int 0, .int 0, .int 0, .int 0, .int 0, .int 0, .int (-1), .int 0, .int 0, .ref (255 + 1 + 18), .ref (255 + 1 + 19), .int 0, .ref (255 + 1 + 20), .ref (255 + 1 + 21), .ref (255 + 1 + 22), .ref (255 + 1 + 23), .ref (255 + 1 + 24), .ref (255 + 1 + 25), .ref (255 + 1 + 26), .int 0, .int 0, .int (-1), .int (-1), .int 0, .int 0, .int (-1), .ref (255 + 1 + 27), .null, .int 0, .null, .null, .null, .int 0, .int 0, .null, .null, .null, .null, .null, .null, .null]) fq_StairCountModel_105 fq_StairCountModel_105_t (fun _ => ⟨rfl, rfl⟩) (Nat.le_of_ble_eq_true rfl) rfl (by decide) d_X11_init_253 ?_
  refine cy_aload0 d_X11_init_256 rfl ?_
  refine cy_bipush (v := nI 20) d_X11_init_257 (by decide) ?_
  refine cy_newa (N := 20) (t := 0) (kd := 0) (by decide +kernel) (by decide) rfl (Or.inl ⟨rfl, by decide, (hI_z 284 (by decide) (by decide) (by decide)).1⟩) (tb_in 71 (by decide +kernel) (by decide +kernel)) (by decide) (by decide) (by decide) d_X11_init_259 ?_
  refine cy_put (fs' := [.int 0, .ref (255 + 1 + 0), .int 0, .ref (255 + 1 + 1), .ref (255 + 1 + 2), .ref (255 + 1 + 3), .ref (255 + 1 + 4), .ref (255 + 1 + 5), .ref (255 + 1 + 6), .ref (255 + 1 + 7), .ref (255 + 1 + 8), .ref (255 + 1 + 9), .ref (255 + 1 + 10), .ref (255 + 1 + 11), .ref (255 + 1 + 12), .ref (255 + 1 + 13), .ref (255 + 1 + 14), .ref (255 + 1 + 15), .ref (255 + 1 + 16), .ref (255 + 1 + 17), .int 0, .int 0, .int 0, .int 0, .int 0, .int 0, .int 0, .int 0, .int 0, .int 0, .int (-1), .int 0, .int 0, .ref (255 + 1 + 18), .ref (255 + 1 + 19), .int 0, .ref (255 + 1 + 20), .ref (255 + 1 + 21), .ref (255 + 1 + 22), .ref (255 + 1 + 23), .ref (255 + 1 + 24), .ref (255 + 1 + 25), .ref (255 + 1 + 26), .int 0, .int 0, .int (-1), .int (-1), .int 0, .int 0, .int (-1), .ref (255 + 1 + 27), .ref (255 + 1 + 28), .int 0, .null, .null, .null, .int 0, .int 0, .null, .null, .null, .null, .null, .null, .null]) fq_StairCountModel_108 fq_StairCountModel_108_t (fun _ => ⟨rfl, rfl⟩) (Nat.le_of_ble_eq_true rfl) rfl (by decide) d_X11_init_261 ?_
  refine cy_aload0 d_X11_init_264 rfl ?_
  refine cy_bipush (v := nI 14) d_X11_init_265 (by decide) ?_
  refine cy_newa (N := 14) (t := 0) (kd := 0) (by decide +kernel) (by decide) rfl (Or.inl ⟨rfl, by decide, (hI_z 285 (by decide) (by decide) (by decide)).1⟩) (tb_in 71 (by decide +kernel) (by decide +kernel)) (by decide) (by decide) (by decide) d_X11_init_267 ?_
  refine cy_put (fs' := [.int 0, .ref (255 + 1 + 0), .int 0, .ref (255 + 1 + 1), .ref (255 + 1 + 2), .ref (255 + 1 + 3), .ref (255 + 1 + 4), .ref (255 + 1 + 5), .ref (255 + 1 + 6), .ref (255 + 1 + 7), .ref (255 + 1 + 8), .ref (255 + 1 + 9), .ref (255 + 1 + 10), .ref (255 + 1 + 11), .ref (255 + 1 + 12), .ref (255 + 1 + 13), .ref (255 + 1 + 14), .ref (255 + 1 + 15), .ref (255 + 1 + 16), .ref (255 + 1 + 17), .int 0, .int 0, .int 0, .int 0, .int 0, .int 0, .int 0, .int 0, .int 0, .int 0, .int (-1), .int 0, .int 0, .ref (255 + 1 + 18), .ref (255 + 1 + 19), .int 0, .ref (255 + 1 + 20), .ref (255 + 1 + 21), .ref (255 + 1 + 22), .ref (255 + 1 + 23), .ref (255 + 1 + 24), .ref (255 + 1 + 25), .ref (255 + 1 + 26), .int 0, .int 0, .int (-1), .int (-1), .int 0, .int 0, .int (-1), .ref (255 + 1 + 27), .ref (255 + 1 + 28), .int 0, .ref (255 + 1 + 29), .null, .null, .int 0, .int 0, .null, .null, .null, .null, .null, .null, .null]) fq_StairCountModel_111 fq_StairCountModel_111_t (fun _ => ⟨rfl, rfl⟩) (Nat.le_of_ble_eq_true rfl) rfl (by decide) d_X11_init_269 ?_
  refine cy_aload0 d_X11_init_272 rfl ?_
  refine cy_bipush (v := nI 14) d_X11_init_273 (by decide) ?_
  refine cy_newa (N := 14) (t := 0) (kd := 0) (by decide +kernel) (by decide) rfl (Or.inl ⟨rfl, by decide, (hI_z 286 (by decide) (by decide) (by decide)).1⟩) (tb_in 71 (by decide +kernel) (by decide +kernel)) (by decide) (by decide) (by decide) d_X11_init_275 ?_
  refine cy_put (fs' := [.int 0, .ref (255 + 1 + 0), .int 0, .ref (255 + 1 + 1), .ref (255 + 1 + 2), .ref (255 + 1 + 3), .ref (255 + 1 + 4), .ref (255 + 1 + 5), .ref (255 + 1 + 6), .ref (255 + 1 + 7), .ref (255 + 1 + 8), .ref (255 + 1 + 9), .ref (255 + 1 + 10), .ref (255 + 1 + 11), .ref (255 + 1 + 12), .ref (255 + 1 + 13), .ref (255 + 1 + 14), .ref (255 + 1 + 15), .ref (255 + 1 + 16), .ref (255 + 1 + 17), .int 0, .int 0, .int 0, .int 0, .int 0, .int 0, .int 0, .int 0, .int 0, .int 0, .int (-1), .int 0, .int 0, .ref (255 + 1 + 18), .ref (255 + 1 + 19), .int 0, .ref (255 + 1 + 20), .ref (255 + 1 + 21), .ref (255 + 1 + 22), .ref (255 + 1 + 23), .ref (255 + 1 + 24), .ref (255 + 1 + 25), .ref (255 + 1 + 26), .int 0, .int 0, .int (-1), .int (-1), .int 0, .int 0, .int (-1), .ref (255 + 1 + 27), .ref (255 + 1 + 28), .int 0, .ref (255 + 1 + 29), .ref (255 + 1 + 30), .null, .int 0, .int 0, .null, .null, .null, .null, .null, .null, .null]) fq_StairCountModel_114 fq_StairCountModel_114_t (fun _ => ⟨rfl, rfl⟩) (Nat.le_of_ble_eq_true rfl) rfl (by decide) d_X11_init_277 ?_
  refine cy_aload0 d_X11_init_280 rfl ?_
  refine cy_bipush (v := nI 6) d_X11_init_281 (by decide) ?_
  refine cy_newa (N := 6) (t := 0) (kd := 0) (by decide +kernel) (by decide) rfl (Or.inl ⟨rfl, by decide, (hI_z 287 (by decide) (by decide) (by decide)).1⟩) (tb_in 71 (by decide +kernel) (by decide +kernel)) (by decide) (by decide) (by decide) d_X11_init_283 ?_
  refine cy_put (fs' := [.int 0, .ref (255 + 1 + 0), .int 0, .ref (255 + 1 + 1), .ref (255 + 1 + 2), .ref (255 + 1 + 3), .ref (255 + 1 + 4), .ref (255 + 1 + 5), .ref (255 + 1 + 6), .ref (255 + 1 + 7), .ref (255 + 1 + 8), .ref (255 + 1 + 9), .ref (255 + 1 + 10), .ref (255 + 1 + 11), .ref (255 + 1 + 12), .ref (255 + 1 + 13), .ref (255 + 1 + 14), .ref (255 + 1 + 15), .ref (255 + 1 + 16), .ref (255 + 1 + 17), .int 0, .int 0, .int 0, .int 0, .int 0, .int 0, .int 0, .int 0, .int 0, .int 0, .int (-1), .int 0, .int 0, .ref (255 + 1 + 18), .ref (255 + 1 + 19), .int 0, .ref (255 + 1 + 20), .ref (255 + 1 + 21), .ref (255 + 1 + 22), .ref (255 + 1 + 23), .ref (255 + 1 + 24), .ref (255 + 1 + 25), .ref (255 + 1 + 26), .int 0, .int 0, .int (-1), .int (-1), .int 0, .int 0, .int (-1), .ref (255 + 1 + 27), .ref (255 + 1 + 28), .int 0, .ref (255 + 1 + 29), .ref (255 + 1 + 30), .ref (255 + 1 + 31), .int 0, .int 0, .null, .null, .null, .null, .null, .null, .null]) fq_StairCountModel_117 fq_StairCountModel_117_t (fun _ => ⟨rfl, rfl⟩) (Nat.le_of_ble_eq_true rfl) rfl (by decide) d_X11_init_285 ?_
  refine cy_aload0 d_X11_init_288 rfl ?_
  refine cy_iconst (v := -1) d_X11_init_289 (by decide) ?_
  refine cy_put (fs' := [.int 0, .ref (255 + 1 + 0), .int 0, .ref (255 + 1 + 1), .ref (255 + 1 + 2), .ref (255 + 1 + 3), .ref (255 + 1 + 4), .ref (255 + 1 + 5), .ref (255 + 1 + 6), .ref (255 + 1 + 7), .ref (255 + 1 + 8), .ref (255 + 1 + 9), .ref (255 + 1 + 10), .ref (255 + 1 + 11), .ref (255 + 1 + 12), .ref (255 + 1 + 13), .ref (255 + 1 + 14), .ref (255 + 1 + 15), .ref (255 + 1 + 16), .ref (255 + 1 + 17), .int 0, .int 0, .int 0, .int 0, .int 0, .int 0, .int 0, .int 0, .int 0, .int 0, .int (-1), .int 0, .int 0, .ref (255 + 1 + 18), .ref (255 + 1 + 19), .int 0, .ref (255 + 1 + 20), .ref (255 + 1 + 21), .ref (255 + 1 + 22), .ref (255 + 1 + 23), .ref (255 + 1 + 24), .ref (255 + 1 + 25), .ref (255 + 1 + 26), .int 0, .int 0, .int (-1), .int (-1), .int 0, .int 0, .int (-1), .ref (255 + 1 + 27), .ref (255 + 1 + 28), .int 0, .ref (255 + 1 + 29), .ref (255 + 1 + 30), .ref (255 + 1 + 31), .int 0, .int (-1), .null, .null, .null, .null, .null, .null, .null]) fq_StairCountModel_120 fq_StairCountModel_120_t (fun _ => ⟨rfl, rfl⟩) (Nat.le_of_ble_eq_true rfl) rfl (by decide) d_X11_init_290 ?_
  refine cy_aload0 d_X11_init_293 rfl ?_
  refine cy_bipush (v := nI 24) d_X11_init_294 (by decide) ?_
  refine cy_newa (N := 24) (t := 0) (kd := 0) (by decide +kernel) (by decide) rfl (Or.inl ⟨rfl, by decide, (hI_z 288 (by decide) (by decide) (by decide)).1⟩) (tb_in 71 (by decide +kernel) (by decide +kernel)) (by decide) (by decide) (by decide) d_X11_init_296 ?_
  refine cy_put (fs' := [.int 0, .ref (255 + 1 + 0), .int 0, .ref (255 + 1 + 1), .ref (255 + 1 + 2), .ref (255 + 1 + 3), .ref (255 + 1 + 4), .ref (255 + 1 + 5), .ref (255 + 1 + 6), .ref (255 + 1 + 7), .ref (255 + 1 + 8), .ref (255 + 1 + 9), .ref (255 + 1 + 10), .ref (255 + 1 + 11), .ref (255 + 1 + 12), .ref (255 + 1 + 13), .ref (255 + 1 + 14), .ref (255 + 1 + 15), .ref (255 + 1 + 16), .ref (255 + 1 + 17), .int 0, .int 0, .int 0, .int 0, .int 0, .int 0, .int 0, .int 0, .int 0, .int 0, .int (-1), .int 0, .int 0, .ref (255 + 1 + 18), .ref (255 + 1 + 19), .int 0, .ref (255 + 1 + 20), .ref (255 + 1 + 21), .ref (255 + 1 + 22), .ref (255 + 1 + 23), .ref (255 + 1 + 24), .ref (255 + 1 + 25), .ref (255 + 1 + 26), .int 0, .int 0, .int (-1), .int (-1), .int 0, .int 0, .int (-1), .ref (255 + 1 + 27), .ref (255 + 1 + 28), .int 0, .ref (255 + 1 + 29), .ref (255 + 1 + 30), .ref (255 + 1 + 31), .int 0, .int (-1), .ref (255 + 1 + 32), .null, .null, .null, .null, .null, .null]) fq_StairCountModel_123 fq_StairCountModel_123_t (fun _ => ⟨rfl, rfl⟩) (Nat.le_of_ble_eq_true rfl) rfl (by decide) d_X11_init_298 ?_
  refine cy_aload0 d_X11_init_301 rfl ?_
  refine cy_bipush (v := nI 24) d_X11_init_302 (by decide) ?_
  refine cy_newa (N := 24) (t := 0) (kd := 0) (by decide +kernel) (by decide) rfl (Or.inl ⟨rfl, by decide, (hI_z 289 (by decide) (by decide) (by decide)).1⟩) (tb_in 71 (by decide +kernel) (by decide +kernel)) (by decide) (by decide) (by decide) d_X11_init_304 ?_
  refine cy_put (fs' := [.int 0, .ref (255 + 1 + 0), .int 0, .ref (255 + 1 + 1), .ref (255 + 1 + 2), .ref (255 + 1 + 3), .ref (255 + 1 + 4), .ref (255 + 1 + 5), .ref (255 + 1 + 6), .ref (255 + 1 + 7), .ref (255 + 1 + 8), .ref (255 + 1 + 9), .ref (255 + 1 + 10), .ref (255 + 1 + 11), .ref (255 + 1 + 12), .ref (255 + 1 + 13), .ref (255 + 1 + 14), .ref (255 + 1 + 15), .ref (255 + 1 + 16), .ref (255 + 1 + 17), .int 0, .int 0, .int 0, .int 0, .int 0, .int 0, .int 0, .int 0, .int 0, .int 0, .int (-1), .int 0, .int 0, .ref (255 + 1 + 18), .ref (255 + 1 + 19), .int 0, .ref (255 + 1 + 20), .ref (255 + 1 + 21), .ref (255 + 1 + 22), .ref (255 + 1 + 23), .ref (255 + 1 + 24), .ref (255 + 1 + 25), .ref (255 + 1 + 26), .int 0, .int 0, .int (-1), .int (-1), .int 0, .int 0, .int (-1), .ref (255 + 1 + 27), .ref (255 + 1 + 28), .int 0, .ref (255 + 1 + 29), .ref (255 + 1 + 30), .ref (255 + 1 + 31), .int 0, .int (-1), .ref (255 + 1 + 32), .ref (255 + 1 + 33), .null, .null, .null, .null, .null]) fq_StairCountModel_126 fq_StairCountModel_126_t (fun _ => ⟨rfl, rfl⟩) (Nat.le_of_ble_eq_true rfl) rfl (by decide) d_X11_init_306 ?_
  refine cy_aload0 d_X11_init_309 rfl ?_
  refine cy_bipush (v := nI 24) d_X11_init_310 (by decide) ?_
  refine cy_newa (N := 24) (t := 0) (kd := 0) (by decide +kernel) (by decide) rfl (Or.inl ⟨rfl, by decide, (hI_z 290 (by decide) (by decide) (by decide)).1⟩) (tb_in 71 (by decide +kernel) (by decide +kernel)) (by decide) (by decide) (by decide) d_X11_init_312 ?_
  refine cy_put (fs' := [.int 0, .ref (255 + 1 + 0), .int 0, .ref (255 + 1 + 1), .ref (255 + 1 + 2), .ref (255 + 1 + 3), .ref (255 + 1 + 4), .ref (255 + 1 + 5), .ref (255 + 1 + 6), .ref (255 + 1 + 7), .ref (255 + 1 + 8), .ref (255 + 1 + 9), .ref (255 + 1 + 10), .ref (255 + 1 + 11), .ref (255 + 1 + 12), .ref (255 + 1 + 13), .ref (255 + 1 + 14), .ref (255 + 1 + 15), .ref (255 + 1 + 16), .ref (255 + 1 + 17), .int 0, .int 0, .int 0, .int 0, .int 0, .int 0, .int 0, .int 0, .int 0, .int 0, .int (-1), .int 0, .int 0, .ref (255 + 1 + 18), .ref (255 + 1 + 19), .int 0, .ref (255 + 1 + 20), .ref (255 + 1 + 21), .ref (255 + 1 + 22), .ref (255 + 1 + 23), .ref (255 + 1 + 24), .ref (255 + 1 + 25), .ref (255 + 1 + 26), .int 0, .int 0, .int (-1), .int (-1), .int 0, .int 0, .int (-1), .ref (255 + 1 + 27), .ref (255 + 1 + 28), .int 0, .ref (255 + 1 + 29), .ref (255 + 1 + 30), .ref (255 + 1 + 31), .int 0, .int (-1), .ref (255 + 1 + 32), .ref (255 + 1 + 33), .ref (255 + 1 + 34), .null, .null, .null, .null]) fq_StairCountModel_129 fq_StairCountModel_129_t (fun _ => ⟨rfl, rfl⟩) (Nat.le_of_ble_eq_true rfl) rfl (by decide) d_X11_init_314 ?_
  refine cy_aload0 d_X11_init_317 rfl ?_
  refine cy_bipush (v := nI 24) d_X11_init_318 (by decide) ?_
  refine cy_newa (N := 24) (t := 2) (kd := 0) (by decide +kernel) (by decide) rfl (Or.inl ⟨rfl, by decide, (hI_z 291 (by decide) (by decide) (by decide)).1⟩) (tb_in 343 (by decide +kernel) (by decide +kernel)) (by decide) (by decide) (by decide) d_X11_init_320 ?_
  refine cy_put (fs' := [.int 0, .ref (255 + 1 + 0), .int 0, .ref (255 + 1 + 1), .ref (255 + 1 + 2), .ref (255 + 1 + 3), .ref (255 + 1 + 4), .ref (255 + 1 + 5), .ref (255 + 1 + 6), .ref (255 + 1 + 7), .ref (255 + 1 + 8), .ref (255 + 1 + 9), .ref (255 + 1 + 10), .ref (255 + 1 + 11), .ref (255 + 1 + 12), .ref (255 + 1 + 13), .ref (255 + 1 + 14), .ref (255 + 1 + 15), .ref (255 + 1 + 16), .ref (255 + 1 + 17), .int 0, .int 0, .int 0, .int 0, .int 0, .int 0, .int 0, .int 0, .int 0, .int 0, .int (-1), .int 0, .int 0, .ref (255 + 1 + 18), .ref (255 + 1 + 19), .int 0, .ref (255 + 1 + 20), .ref (255 + 1 + 21), .ref (255 + 1 + 22), .ref (255 + 1 + 23), .ref (255 + 1 + 24), .ref (255 + 1 + 25), .ref (255 + 1 + 26), .int 0, .int 0, .int (-1), .int (-1), .int 0, .int 0, .int (-1), .ref (255 + 1 + 27), .ref (255 + 1 + 28), .int 0, .ref (255 + 1 + 29), .ref (255 + 1 + 30), .ref (255 + 1 + 31), .int 0, .int (-1), .ref (255 + 1 + 32), .ref (255 + 1 + 33), .ref (255 + 1 + 34), .ref (255 + 1 + 35), .null, .null, .null]) fq_StairCountModel_132 fq_StairCountModel_132_t (fun _ => ⟨rfl, rfl⟩) (Nat.le_of_ble_eq_true rfl) rfl (by decide) d_X11_init_322 ?_
  refine cy_aload0 d_X11_init_325 rfl ?_
  refine cy_bipush (v := nI 24) d_X11_init_326 (by decide) ?_
  refine cy_newa (N := 24) (t := 0) (kd := 0) (by decide +kernel) (by decide) rfl (Or.inl ⟨rfl, by decide, (hI_z 292 (by decide) (by decide) (by decide)).1⟩) (tb_in 71 (by decide +kernel) (by decide +kernel)) (by decide) (by decide) (by decide) d_X11_init_328 ?_
  refine cy_put (fs' := [.int 0, .ref (255 + 1 + 0), .int 0, .ref (255 + 1 + 1), .ref (255 + 1 + 2), .ref (255 + 1 + 3), .ref (255 + 1 + 4), .ref (255 + 1 + 5), .ref (255 + 1 + 6), .ref (255 + 1 + 7), .ref (255 + 1 + 8), .ref (255 + 1 + 9), .ref (255 + 1 + 10), .ref (255 + 1 + 11), .ref (255 + 1 + 12), .ref (255 + 1 + 13), .ref (255 + 1 + 14), .ref (255 + 1 + 15), .ref (255 + 1 + 16), .ref (255 + 1 + 17), .int 0, .int 0, .int 0, .int 0, .int 0, .int 0, .int 0, .int 0, .int 0, .int 0, .int (-1), .int 0, .int 0, .ref (255 + 1 + 18), .ref (255 + 1 + 19), .int 0, .ref (255 + 1 + 20), .ref (255 + 1 + 21), .ref (255 + 1 + 22), .ref (255 + 1 + 23), .ref (255 + 1 + 24), .ref (255 + 1 + 25), .ref (255 + 1 + 26), .int 0, .int 0, .int (-1), .int (-1), .int 0, .int 0, .int (-1), .ref (255 + 1 + 27), .ref (255 + 1 + 28), .int 0, .ref (255 + 1 + 29), .ref (255 + 1 + 30), .ref (255 + 1 + 31), .int 0, .int (-1), .ref (255 + 1 + 32), .ref (255 + 1 + 33), .ref (255 + 1 + 34), .ref (255 + 1 + 35), .ref (255 + 1 + 36), .null, .null]) fq_StairCountModel_136 fq_StairCountModel_136_t (fun _ => ⟨rfl, rfl⟩) (Nat.le_of_ble_eq_true rfl) rfl (by decide) d_X11_init_330 ?_
  refine cy_aload0 d_X11_init_333 rfl ?_
  refine cy_bipush (v := nI 24) d_X11_init_334 (by decide) ?_
  refine cy_newa (N := 24) (t := 2) (kd := 0) (by decide +kernel) (by decide) rfl (Or.inl ⟨rfl, by decide, (hI_z 293 (by decide) (by decide) (by decide)).1⟩) (tb_in 343 (by decide +kernel) (by decide +kernel)) (by decide) (by decide) (by decide) d_X11_init_336 ?_
  refine cy_put (fs' := [.int 0, .ref (255 + 1 + 0), .int 0, .ref (255 + 1 + 1), .ref (255 + 1 + 2), .ref (255 + 1 + 3), .ref (255 + 1 + 4), .ref (255 + 1 + 5), .ref (255 + 1 + 6), .ref (255 + 1 + 7), .ref (255 + 1 + 8), .ref (255 + 1 + 9), .ref (255 + 1 + 10), .ref (255 + 1 + 11), .ref (255 + 1 + 12), .ref (255 + 1 + 13), .ref (255 + 1 + 14), .ref (255 + 1 + 15), .ref (255 + 1 + 16), .ref (255 + 1 + 17), .int 0, .int 0, .int 0, .int 0, .int 0, .int 0, .int 0, .int 0, .int 0, .int 0, .int (-1), .int 0, .int 0, .ref (255 + 1 + 18), .ref (255 + 1 + 19), .int 0, .ref (255 + 1 + 20), .ref (255 + 1 + 21), .ref (255 + 1 + 22), .ref (255 + 1 + 23), .ref (255 + 1 + 24), .ref (255 + 1 + 25), .ref (255 + 1 + 26), .int 0, .int 0, .int (-1), .int (-1), .int 0, .int 0, .int (-1), .ref (255 + 1 + 27), .ref (255 + 1 + 28), .int 0, .ref (255 + 1 + 29), .ref (255 + 1 + 30), .ref (255 + 1 + 31), .int 0, .int (-1), .ref (255 + 1 + 32), .ref (255 + 1 + 33), .ref (255 + 1 + 34), .ref (255 + 1 + 35), .ref (255 + 1 + 36), .ref (255 + 1 + 37), .null]) fq_StairCountModel_139 fq_StairCountModel_139_t (fun _ => ⟨rfl, rfl⟩) (Nat.le_of_ble_eq_true rfl) rfl (by decide) d_X11_init_338 ?_
  refine cy_aload0 d_X11_init_341 rfl ?_
  refine cy_sipush (v := nI 779) d_X11_init_342 (by decide) ?_
  refine cy_newa (N := 779) (t := 0) (kd := 0) (by decide +kernel) (by decide) rfl (Or.inl ⟨rfl, by decide, (hI_z 294 (by decide) (by decide) (by decide)).1⟩) (tb_in 71 (by decide +kernel) (by decide +kernel)) (by decide) (by decide) (by decide) d_X11_init_345 ?_
  refine cy_put (fs' := [.int 0, .ref (255 + 1 + 0), .int 0, .ref (255 + 1 + 1), .ref (255 + 1 + 2), .ref (255 + 1 + 3), .ref (255 + 1 + 4), .ref (255 + 1 + 5), .ref (255 + 1 + 6), .ref (255 + 1 + 7), .ref (255 + 1 + 8), .ref (255 + 1 + 9), .ref (255 + 1 + 10), .ref (255 + 1 + 11), .ref (255 + 1 + 12), .ref (255 + 1 + 13), .ref (255 + 1 + 14), .ref (255 + 1 + 15), .ref (255 + 1 + 16), .ref (255 + 1 + 17), .int 0, .int 0, .int 0, .int 0, .int 0, .int 0, .int 0, .int 0, .int 0, .int 0, .int (-1), .int 0, .int 0, .ref (255 + 1 + 18), .ref (255 + 1 + 19), .int 0, .ref (255 + 1 + 20), .ref (255 + 1 + 21), .ref (255 + 1 + 22), .ref (255 + 1 + 23), .ref (255 + 1 + 24), .ref (255 + 1 + 25), .ref (255 + 1 + 26), .int 0, .int 0, .int (-1), .int (-1), .int 0, .int 0, .int (-1), .ref (255 + 1 + 27), .ref (255 + 1 + 28), .int 0, .ref (255 + 1 + 29), .ref (255 + 1 + 30), .ref (255 + 1 + 31), .int 0, .int (-1), .ref (255 + 1 + 32), .ref (255 + 1 + 33), .ref (255 + 1 + 34), .ref (255 + 1 + 35), .ref (255 + 1 + 36), .ref (255 + 1 + 37), .ref (255 + 1 + 38)]) fq_StairCountModel_142 fq_StairCountModel_142_t (fun _ => ⟨rfl, rfl⟩) (Nat.le_of_ble_eq_true rfl) rfl (by decide) d_X11_init_347 ?_
  refine cy_aload0 d_X11_init_350 rfl ?_
  exact cy_end hE hd e0.symm
theorem kb_X11 {h1 : HH} (hE : g_X11_begins hI = some ((), h1)) (d : Nat) (hd : 2 ≤ d) (z : Nat) (l : Launch) (X : CX) (hI1 : wI X) (hZ : XZ X z) : Met l mi_X11_init.1 (wsM mi_X11_init) (rmC d 39 3792) (va_Pc [.ref (X.1 255)] (fun U => U.heap.size = z + 256 ∧ va_P X.2.1 cls [(X.1 255, .inr (11, nul 11))] U.heap ∧ va_P X.2.1 cls (wsR X hI 0 255) U.heap ∧ wK X U ∧ wS X U U.heap)) (Qm h1 X) 39 3792 (inR X) := by
  obtain ⟨d, rfl⟩ : ∃ e, d = e + 1 := ⟨d - 1, by omega⟩
  refine Met.ofW (cc := mi_X11_init.2.1) (maxL := mi_X11_init.2.2.1) (ret := mi_X11_init.2.2.2) (by decide) rfl ?_
  intro p e s mth args below meth c s₁ B hml hv
  obtain ⟨rfl, hsz, hP, hP3, hK, hSt⟩ := hv
  have hl0 := lv_entry ([.ref (X.1 255)] : List Value) (n := mi_X11_init.2.2.1) (Nat.le_of_ble_eq_true rfl)
  rw [lg_entry_eq]
  refine cy_X11 hE d (by omega) z p l e s mth _ below meth c X s.heap [] _ ⟨B.exec, B.bytes, B.returns, hml, findClass_of_methodNamed B.named, atoms_spec (ws := wsM mi_X11_init) B.pre, B.notSynchronized, hK, hI1, hSt⟩ hZ ((name_of_methodNamed B.named B.method).1.trans rfl) (by rw [hsz]) ⟨wB_P.mpr ⟨?_, fun i hi => absurd hi (Nat.not_lt_zero _)⟩, hP3⟩ va_S.rf hl0
  rw [nul_rl]
  exact hP 0 _ rfl
