/-! walks: X11_laysWays, X11_way, X11_areTwo, X11_meet, X11_steepest, X11_wall, X11_hasOf, X11_isRest, X11_restOf, X11_rests, X11_rest, X11_sure, X11_note, X11_strike, X11_known, X11_knownMany -/
theorem d_X11_laysWays_0 : DC mi_X11_laysWays 0 (.iconst 0) 1 1 := ⟨by decide +kernel, rfl⟩
theorem d_X11_laysWays_1 : DC mi_X11_laysWays 1 (.istore_n 3) 1 2 := ⟨by decide +kernel, rfl⟩
theorem d_X11_laysWays_2 : DC mi_X11_laysWays 2 (.iload_n 3) 1 3 := ⟨by decide +kernel, rfl⟩
theorem d_X11_laysWays_3 : DC mi_X11_laysWays 3 (.bipush 7) 2 5 := ⟨by decide +kernel, rfl⟩
theorem d_X11_laysWays_5 : DB mi_X11_laysWays 5 (.if_icmp .ge 35) 35 8 40 := ⟨by decide +kernel, rfl, by decide⟩
theorem d_X11_laysWays_8 : DC mi_X11_laysWays 8 (.aload_n 0) 1 9 := ⟨by decide +kernel, rfl⟩
theorem d_X11_laysWays_9 : DC mi_X11_laysWays 9 (.getfield 111) 3 12 := ⟨by decide +kernel, rfl⟩
theorem d_X11_laysWays_12 : DC mi_X11_laysWays 12 (.bipush 7) 2 14 := ⟨by decide +kernel, rfl⟩
theorem d_X11_laysWays_14 : DC mi_X11_laysWays 14 (.iload_n 1) 1 15 := ⟨by decide +kernel, rfl⟩
theorem d_X11_laysWays_15 : DC mi_X11_laysWays 15 (.imul) 1 16 := ⟨by decide +kernel, rfl⟩
theorem d_X11_laysWays_16 : DC mi_X11_laysWays 16 (.iload_n 3) 1 17 := ⟨by decide +kernel, rfl⟩
theorem d_X11_laysWays_17 : DC mi_X11_laysWays 17 (.iadd) 1 18 := ⟨by decide +kernel, rfl⟩
theorem d_X11_laysWays_18 : DC mi_X11_laysWays 18 (.ldc_w 476) 3 21 := ⟨by decide +kernel, rfl⟩
theorem d_X11_laysWays_21 : DC mi_X11_laysWays 21 (.iastore) 1 22 := ⟨by decide +kernel, rfl⟩
theorem d_X11_laysWays_22 : DC mi_X11_laysWays 22 (.aload_n 0) 1 23 := ⟨by decide +kernel, rfl⟩
theorem d_X11_laysWays_23 : DC mi_X11_laysWays 23 (.getfield 114) 3 26 := ⟨by decide +kernel, rfl⟩
theorem d_X11_laysWays_26 : DC mi_X11_laysWays 26 (.bipush 7) 2 28 := ⟨by decide +kernel, rfl⟩
theorem d_X11_laysWays_28 : DC mi_X11_laysWays 28 (.iload_n 1) 1 29 := ⟨by decide +kernel, rfl⟩
theorem d_X11_laysWays_29 : DC mi_X11_laysWays 29 (.imul) 1 30 := ⟨by decide +kernel, rfl⟩
theorem d_X11_laysWays_30 : DC mi_X11_laysWays 30 (.iload_n 3) 1 31 := ⟨by decide +kernel, rfl⟩
theorem d_X11_laysWays_31 : DC mi_X11_laysWays 31 (.iadd) 1 32 := ⟨by decide +kernel, rfl⟩
theorem d_X11_laysWays_32 : DC mi_X11_laysWays 32 (.iconst 0) 1 33 := ⟨by decide +kernel, rfl⟩
theorem d_X11_laysWays_33 : DC mi_X11_laysWays 33 (.iastore) 1 34 := ⟨by decide +kernel, rfl⟩
theorem d_X11_laysWays_34 : DC mi_X11_laysWays 34 (.iinc 3 1) 3 37 := ⟨by decide +kernel, rfl⟩
theorem d_X11_laysWays_37 : DB mi_X11_laysWays 37 (.goto (-35)) (-35) 40 2 := ⟨by decide +kernel, rfl, by decide⟩
theorem d_X11_laysWays_40 : DC mi_X11_laysWays 40 (.aload_n 0) 1 41 := ⟨by decide +kernel, rfl⟩
theorem d_X11_laysWays_41 : DC mi_X11_laysWays 41 (.getfield 111) 3 44 := ⟨by decide +kernel, rfl⟩
theorem d_X11_laysWays_44 : DC mi_X11_laysWays 44 (.bipush 7) 2 46 := ⟨by decide +kernel, rfl⟩
theorem d_X11_laysWays_46 : DC mi_X11_laysWays 46 (.iload_n 1) 1 47 := ⟨by decide +kernel, rfl⟩
theorem d_X11_laysWays_47 : DC mi_X11_laysWays 47 (.imul) 1 48 := ⟨by decide +kernel, rfl⟩
theorem d_X11_laysWays_48 : DC mi_X11_laysWays 48 (.aload_n 0) 1 49 := ⟨by decide +kernel, rfl⟩
theorem d_X11_laysWays_49 : DC mi_X11_laysWays 49 (.getfield 81) 3 52 := ⟨by decide +kernel, rfl⟩
theorem d_X11_laysWays_52 : DC mi_X11_laysWays 52 (.iload_n 2) 1 53 := ⟨by decide +kernel, rfl⟩
theorem d_X11_laysWays_53 : DC mi_X11_laysWays 53 (.iaload) 1 54 := ⟨by decide +kernel, rfl⟩
theorem d_X11_laysWays_54 : DC mi_X11_laysWays 54 (.iadd) 1 55 := ⟨by decide +kernel, rfl⟩
theorem d_X11_laysWays_55 : DC mi_X11_laysWays 55 (.iconst 0) 1 56 := ⟨by decide +kernel, rfl⟩
theorem d_X11_laysWays_56 : DC mi_X11_laysWays 56 (.iastore) 1 57 := ⟨by decide +kernel, rfl⟩
theorem d_X11_laysWays_57 : DC mi_X11_laysWays 57 (.iconst 0) 1 58 := ⟨by decide +kernel, rfl⟩
theorem d_X11_laysWays_58 : DC mi_X11_laysWays 58 (.istore_n 3) 1 59 := ⟨by decide +kernel, rfl⟩
theorem d_X11_laysWays_59 : DC mi_X11_laysWays 59 (.iload_n 3) 1 60 := ⟨by decide +kernel, rfl⟩
theorem d_X11_laysWays_60 : DC mi_X11_laysWays 60 (.aload_n 0) 1 61 := ⟨by decide +kernel, rfl⟩
theorem d_X11_laysWays_61 : DC mi_X11_laysWays 61 (.getfield 13) 3 64 := ⟨by decide +kernel, rfl⟩
theorem d_X11_laysWays_64 : DC mi_X11_laysWays 64 (.iconst 0) 1 65 := ⟨by decide +kernel, rfl⟩
theorem d_X11_laysWays_65 : DC mi_X11_laysWays 65 (.iaload) 1 66 := ⟨by decide +kernel, rfl⟩
theorem d_X11_laysWays_66 : DB mi_X11_laysWays 66 (.if_icmp .ge 40) 40 69 106 := ⟨by decide +kernel, rfl, by decide⟩
theorem d_X11_laysWays_69 : DC mi_X11_laysWays 69 (.aload_n 0) 1 70 := ⟨by decide +kernel, rfl⟩
theorem d_X11_laysWays_70 : DC mi_X11_laysWays 70 (.getfield 117) 3 73 := ⟨by decide +kernel, rfl⟩
theorem d_X11_laysWays_73 : DC mi_X11_laysWays 73 (.iload_n 3) 1 74 := ⟨by decide +kernel, rfl⟩
theorem d_X11_laysWays_74 : DC mi_X11_laysWays 74 (.aload_n 0) 1 75 := ⟨by decide +kernel, rfl⟩
theorem d_X11_laysWays_75 : DC mi_X11_laysWays 75 (.iconst 0) 1 76 := ⟨by decide +kernel, rfl⟩
theorem d_X11_laysWays_76 : DC mi_X11_laysWays 76 (.iload_n 2) 1 77 := ⟨by decide +kernel, rfl⟩
theorem d_X11_laysWays_77 : DC mi_X11_laysWays 77 (.iload_n 3) 1 78 := ⟨by decide +kernel, rfl⟩
theorem d_X11_laysWays_78 : DC mi_X11_laysWays 78 (.invokevirtual 396) 3 81 := ⟨by decide +kernel, rfl⟩
theorem d_X11_laysWays_81 : DB mi_X11_laysWays 81 (.ifCond .eq 17) 17 84 98 := ⟨by decide +kernel, rfl, by decide⟩
theorem d_X11_laysWays_84 : DC mi_X11_laysWays 84 (.iconst 0) 1 85 := ⟨by decide +kernel, rfl⟩
theorem d_X11_laysWays_85 : DC mi_X11_laysWays 85 (.aload_n 0) 1 86 := ⟨by decide +kernel, rfl⟩
theorem d_X11_laysWays_86 : DC mi_X11_laysWays 86 (.iconst 0) 1 87 := ⟨by decide +kernel, rfl⟩
theorem d_X11_laysWays_87 : DC mi_X11_laysWays 87 (.iload_n 2) 1 88 := ⟨by decide +kernel, rfl⟩
theorem d_X11_laysWays_88 : DC mi_X11_laysWays 88 (.iload_n 3) 1 89 := ⟨by decide +kernel, rfl⟩
theorem d_X11_laysWays_89 : DC mi_X11_laysWays 89 (.invokevirtual 389) 3 92 := ⟨by decide +kernel, rfl⟩
theorem d_X11_laysWays_92 : DC mi_X11_laysWays 92 (.invokestatic 404) 3 95 := ⟨by decide +kernel, rfl⟩
theorem d_X11_laysWays_95 : DB mi_X11_laysWays 95 (.goto 4) 4 98 99 := ⟨by decide +kernel, rfl, by decide⟩
theorem d_X11_laysWays_98 : DC mi_X11_laysWays 98 (.iconst (-1)) 1 99 := ⟨by decide +kernel, rfl⟩
theorem d_X11_laysWays_99 : DC mi_X11_laysWays 99 (.iastore) 1 100 := ⟨by decide +kernel, rfl⟩
theorem d_X11_laysWays_100 : DC mi_X11_laysWays 100 (.iinc 3 1) 3 103 := ⟨by decide +kernel, rfl⟩
theorem d_X11_laysWays_103 : DB mi_X11_laysWays 103 (.goto (-44)) (-44) 106 59 := ⟨by decide +kernel, rfl, by decide⟩
theorem d_X11_laysWays_106 : DC mi_X11_laysWays 106 (.iconst 1) 1 107 := ⟨by decide +kernel, rfl⟩
theorem d_X11_laysWays_107 : DC mi_X11_laysWays 107 (.istore_n 3) 1 108 := ⟨by decide +kernel, rfl⟩
theorem d_X11_laysWays_108 : DC mi_X11_laysWays 108 (.iload_n 3) 1 109 := ⟨by decide +kernel, rfl⟩
theorem d_X11_laysWays_109 : DB mi_X11_laysWays 109 (.ifCond .eq 153) 153 112 262 := ⟨by decide +kernel, rfl, by decide⟩
theorem d_X11_laysWays_112 : DC mi_X11_laysWays 112 (.iconst 0) 1 113 := ⟨by decide +kernel, rfl⟩
theorem d_X11_laysWays_113 : DC mi_X11_laysWays 113 (.istore_n 3) 1 114 := ⟨by decide +kernel, rfl⟩
theorem d_X11_laysWays_114 : DC mi_X11_laysWays 114 (.iconst 0) 1 115 := ⟨by decide +kernel, rfl⟩
theorem d_X11_laysWays_115 : DC mi_X11_laysWays 115 (.istore 4) 2 117 := ⟨by decide +kernel, rfl⟩
theorem d_X11_laysWays_117 : DC mi_X11_laysWays 117 (.iload 4) 2 119 := ⟨by decide +kernel, rfl⟩
theorem d_X11_laysWays_119 : DC mi_X11_laysWays 119 (.aload_n 0) 1 120 := ⟨by decide +kernel, rfl⟩
theorem d_X11_laysWays_120 : DC mi_X11_laysWays 120 (.getfield 13) 3 123 := ⟨by decide +kernel, rfl⟩
theorem d_X11_laysWays_123 : DC mi_X11_laysWays 123 (.iconst 0) 1 124 := ⟨by decide +kernel, rfl⟩
theorem d_X11_laysWays_124 : DC mi_X11_laysWays 124 (.iaload) 1 125 := ⟨by decide +kernel, rfl⟩
theorem d_X11_laysWays_125 : DB mi_X11_laysWays 125 (.if_icmp .ge 56) 56 128 181 := ⟨by decide +kernel, rfl, by decide⟩
theorem d_X11_laysWays_128 : DC mi_X11_laysWays 128 (.aload_n 0) 1 129 := ⟨by decide +kernel, rfl⟩
theorem d_X11_laysWays_129 : DC mi_X11_laysWays 129 (.getfield 117) 3 132 := ⟨by decide +kernel, rfl⟩
theorem d_X11_laysWays_132 : DC mi_X11_laysWays 132 (.iload 4) 2 134 := ⟨by decide +kernel, rfl⟩
theorem d_X11_laysWays_134 : DC mi_X11_laysWays 134 (.iaload) 1 135 := ⟨by decide +kernel, rfl⟩
theorem d_X11_laysWays_135 : DC mi_X11_laysWays 135 (.iconst (-1)) 1 136 := ⟨by decide +kernel, rfl⟩
theorem d_X11_laysWays_136 : DB mi_X11_laysWays 136 (.if_icmp .eq 24) 24 139 160 := ⟨by decide +kernel, rfl, by decide⟩
theorem d_X11_laysWays_139 : DC mi_X11_laysWays 139 (.iload_n 3) 1 140 := ⟨by decide +kernel, rfl⟩
theorem d_X11_laysWays_140 : DC mi_X11_laysWays 140 (.aload_n 0) 1 141 := ⟨by decide +kernel, rfl⟩
theorem d_X11_laysWays_141 : DC mi_X11_laysWays 141 (.iload_n 1) 1 142 := ⟨by decide +kernel, rfl⟩
theorem d_X11_laysWays_142 : DC mi_X11_laysWays 142 (.iload 4) 2 144 := ⟨by decide +kernel, rfl⟩
theorem d_X11_laysWays_144 : DC mi_X11_laysWays 144 (.iload 4) 2 146 := ⟨by decide +kernel, rfl⟩
theorem d_X11_laysWays_146 : DC mi_X11_laysWays 146 (.iconst 1) 1 147 := ⟨by decide +kernel, rfl⟩
theorem d_X11_laysWays_147 : DC mi_X11_laysWays 147 (.iadd) 1 148 := ⟨by decide +kernel, rfl⟩
theorem d_X11_laysWays_148 : DC mi_X11_laysWays 148 (.aload_n 0) 1 149 := ⟨by decide +kernel, rfl⟩
theorem d_X11_laysWays_149 : DC mi_X11_laysWays 149 (.getfield 117) 3 152 := ⟨by decide +kernel, rfl⟩
theorem d_X11_laysWays_152 : DC mi_X11_laysWays 152 (.iload 4) 2 154 := ⟨by decide +kernel, rfl⟩
theorem d_X11_laysWays_154 : DC mi_X11_laysWays 154 (.iaload) 1 155 := ⟨by decide +kernel, rfl⟩
theorem d_X11_laysWays_155 : DC mi_X11_laysWays 155 (.invokevirtual 477) 3 158 := ⟨by decide +kernel, rfl⟩
theorem d_X11_laysWays_158 : DC mi_X11_laysWays 158 (.ior) 1 159 := ⟨by decide +kernel, rfl⟩
theorem d_X11_laysWays_159 : DC mi_X11_laysWays 159 (.istore_n 3) 1 160 := ⟨by decide +kernel, rfl⟩
theorem d_X11_laysWays_160 : DC mi_X11_laysWays 160 (.iload_n 3) 1 161 := ⟨by decide +kernel, rfl⟩
theorem d_X11_laysWays_161 : DC mi_X11_laysWays 161 (.aload_n 0) 1 162 := ⟨by decide +kernel, rfl⟩
theorem d_X11_laysWays_162 : DC mi_X11_laysWays 162 (.iload_n 1) 1 163 := ⟨by decide +kernel, rfl⟩
theorem d_X11_laysWays_163 : DC mi_X11_laysWays 163 (.iload 4) 2 165 := ⟨by decide +kernel, rfl⟩
theorem d_X11_laysWays_165 : DC mi_X11_laysWays 165 (.iconst 1) 1 166 := ⟨by decide +kernel, rfl⟩
theorem d_X11_laysWays_166 : DC mi_X11_laysWays 166 (.iadd) 1 167 := ⟨by decide +kernel, rfl⟩
theorem d_X11_laysWays_167 : DC mi_X11_laysWays 167 (.iload 4) 2 169 := ⟨by decide +kernel, rfl⟩
theorem d_X11_laysWays_169 : DC mi_X11_laysWays 169 (.iconst 0) 1 170 := ⟨by decide +kernel, rfl⟩
theorem d_X11_laysWays_170 : DC mi_X11_laysWays 170 (.invokevirtual 477) 3 173 := ⟨by decide +kernel, rfl⟩
theorem d_X11_laysWays_173 : DC mi_X11_laysWays 173 (.ior) 1 174 := ⟨by decide +kernel, rfl⟩
theorem d_X11_laysWays_174 : DC mi_X11_laysWays 174 (.istore_n 3) 1 175 := ⟨by decide +kernel, rfl⟩
theorem d_X11_laysWays_175 : DC mi_X11_laysWays 175 (.iinc 4 1) 3 178 := ⟨by decide +kernel, rfl⟩
theorem d_X11_laysWays_178 : DB mi_X11_laysWays 178 (.goto (-61)) (-61) 181 117 := ⟨by decide +kernel, rfl, by decide⟩
theorem d_X11_laysWays_181 : DC mi_X11_laysWays 181 (.iconst 0) 1 182 := ⟨by decide +kernel, rfl⟩
theorem d_X11_laysWays_182 : DC mi_X11_laysWays 182 (.istore 4) 2 184 := ⟨by decide +kernel, rfl⟩
theorem d_X11_laysWays_184 : DC mi_X11_laysWays 184 (.iload 4) 2 186 := ⟨by decide +kernel, rfl⟩
theorem d_X11_laysWays_186 : DC mi_X11_laysWays 186 (.aload_n 0) 1 187 := ⟨by decide +kernel, rfl⟩
theorem d_X11_laysWays_187 : DC mi_X11_laysWays 187 (.getfield 13) 3 190 := ⟨by decide +kernel, rfl⟩
theorem d_X11_laysWays_190 : DC mi_X11_laysWays 190 (.iconst 2) 1 191 := ⟨by decide +kernel, rfl⟩
theorem d_X11_laysWays_191 : DC mi_X11_laysWays 191 (.iaload) 1 192 := ⟨by decide +kernel, rfl⟩
theorem d_X11_laysWays_192 : DB mi_X11_laysWays 192 (.if_icmp .ge 67) 67 195 259 := ⟨by decide +kernel, rfl, by decide⟩
theorem d_X11_laysWays_195 : DC mi_X11_laysWays 195 (.iload_n 3) 1 196 := ⟨by decide +kernel, rfl⟩
theorem d_X11_laysWays_196 : DC mi_X11_laysWays 196 (.aload_n 0) 1 197 := ⟨by decide +kernel, rfl⟩
theorem d_X11_laysWays_197 : DC mi_X11_laysWays 197 (.iload_n 1) 1 198 := ⟨by decide +kernel, rfl⟩
theorem d_X11_laysWays_198 : DC mi_X11_laysWays 198 (.aload_n 0) 1 199 := ⟨by decide +kernel, rfl⟩
theorem d_X11_laysWays_199 : DC mi_X11_laysWays 199 (.getfield 31) 3 202 := ⟨by decide +kernel, rfl⟩
theorem d_X11_laysWays_202 : DC mi_X11_laysWays 202 (.iload 4) 2 204 := ⟨by decide +kernel, rfl⟩
theorem d_X11_laysWays_204 : DC mi_X11_laysWays 204 (.iaload) 1 205 := ⟨by decide +kernel, rfl⟩
theorem d_X11_laysWays_205 : DC mi_X11_laysWays 205 (.aload_n 0) 1 206 := ⟨by decide +kernel, rfl⟩
theorem d_X11_laysWays_206 : DC mi_X11_laysWays 206 (.getfield 34) 3 209 := ⟨by decide +kernel, rfl⟩
theorem d_X11_laysWays_209 : DC mi_X11_laysWays 209 (.iload 4) 2 211 := ⟨by decide +kernel, rfl⟩
theorem d_X11_laysWays_211 : DC mi_X11_laysWays 211 (.iaload) 1 212 := ⟨by decide +kernel, rfl⟩
theorem d_X11_laysWays_212 : DC mi_X11_laysWays 212 (.aload_n 0) 1 213 := ⟨by decide +kernel, rfl⟩
theorem d_X11_laysWays_213 : DC mi_X11_laysWays 213 (.getfield 37) 3 216 := ⟨by decide +kernel, rfl⟩
theorem d_X11_laysWays_216 : DC mi_X11_laysWays 216 (.iload 4) 2 218 := ⟨by decide +kernel, rfl⟩
theorem d_X11_laysWays_218 : DC mi_X11_laysWays 218 (.iaload) 1 219 := ⟨by decide +kernel, rfl⟩
theorem d_X11_laysWays_219 : DC mi_X11_laysWays 219 (.invokevirtual 477) 3 222 := ⟨by decide +kernel, rfl⟩
theorem d_X11_laysWays_222 : DC mi_X11_laysWays 222 (.ior) 1 223 := ⟨by decide +kernel, rfl⟩
theorem d_X11_laysWays_223 : DC mi_X11_laysWays 223 (.istore_n 3) 1 224 := ⟨by decide +kernel, rfl⟩
theorem d_X11_laysWays_224 : DC mi_X11_laysWays 224 (.iload_n 3) 1 225 := ⟨by decide +kernel, rfl⟩
theorem d_X11_laysWays_225 : DC mi_X11_laysWays 225 (.aload_n 0) 1 226 := ⟨by decide +kernel, rfl⟩
theorem d_X11_laysWays_226 : DC mi_X11_laysWays 226 (.iload_n 1) 1 227 := ⟨by decide +kernel, rfl⟩
theorem d_X11_laysWays_227 : DC mi_X11_laysWays 227 (.aload_n 0) 1 228 := ⟨by decide +kernel, rfl⟩
theorem d_X11_laysWays_228 : DC mi_X11_laysWays 228 (.getfield 34) 3 231 := ⟨by decide +kernel, rfl⟩
theorem d_X11_laysWays_231 : DC mi_X11_laysWays 231 (.iload 4) 2 233 := ⟨by decide +kernel, rfl⟩
theorem d_X11_laysWays_233 : DC mi_X11_laysWays 233 (.iaload) 1 234 := ⟨by decide +kernel, rfl⟩
theorem d_X11_laysWays_234 : DC mi_X11_laysWays 234 (.aload_n 0) 1 235 := ⟨by decide +kernel, rfl⟩
theorem d_X11_laysWays_235 : DC mi_X11_laysWays 235 (.getfield 31) 3 238 := ⟨by decide +kernel, rfl⟩
theorem d_X11_laysWays_238 : DC mi_X11_laysWays 238 (.iload 4) 2 240 := ⟨by decide +kernel, rfl⟩
theorem d_X11_laysWays_240 : DC mi_X11_laysWays 240 (.iaload) 1 241 := ⟨by decide +kernel, rfl⟩
theorem d_X11_laysWays_241 : DC mi_X11_laysWays 241 (.aload_n 0) 1 242 := ⟨by decide +kernel, rfl⟩
theorem d_X11_laysWays_242 : DC mi_X11_laysWays 242 (.getfield 37) 3 245 := ⟨by decide +kernel, rfl⟩
theorem d_X11_laysWays_245 : DC mi_X11_laysWays 245 (.iload 4) 2 247 := ⟨by decide +kernel, rfl⟩
theorem d_X11_laysWays_247 : DC mi_X11_laysWays 247 (.iaload) 1 248 := ⟨by decide +kernel, rfl⟩
theorem d_X11_laysWays_248 : DC mi_X11_laysWays 248 (.invokevirtual 477) 3 251 := ⟨by decide +kernel, rfl⟩
theorem d_X11_laysWays_251 : DC mi_X11_laysWays 251 (.ior) 1 252 := ⟨by decide +kernel, rfl⟩
theorem d_X11_laysWays_252 : DC mi_X11_laysWays 252 (.istore_n 3) 1 253 := ⟨by decide +kernel, rfl⟩
theorem d_X11_laysWays_253 : DC mi_X11_laysWays 253 (.iinc 4 1) 3 256 := ⟨by decide +kernel, rfl⟩
theorem d_X11_laysWays_256 : DB mi_X11_laysWays 256 (.goto (-72)) (-72) 259 184 := ⟨by decide +kernel, rfl, by decide⟩
theorem d_X11_laysWays_259 : DB mi_X11_laysWays 259 (.goto (-151)) (-151) 262 108 := ⟨by decide +kernel, rfl, by decide⟩
theorem d_X11_laysWays_262 : DC mi_X11_laysWays 262 (.return_) 1 263 := ⟨by decide +kernel, rfl⟩
set_option maxHeartbeats 4000000 in
set_option maxRecDepth 100000 in
theorem sL_X11_laysWays_2 (d : Nat) (hd : 7 ≤ d) (K40 : HH → Option (Unit × HH)) (c1 : Int32) (c2 : Int32) (hK40 : ∀ (h : HH), Sx mi_X11_laysWays d iU (K40 h) 40 [(0, .ref 255), (1, .int c1), (2, .int c2)] [] h) : ∀ (n : Nat) (x3 : Int32) (h : HH), Sx mi_X11_laysWays d iU (g_X11_laysWays_L2 K40 c1 c2 n x3 h) 2 [(0, .ref 255), (1, .int c1), (2, .int c2), (3, .int x3)] [] h := by
  intro n
  induction n with
  | zero => intro x3 h; exact sx_none
  | succ n ih =>
    intro x3 h
    rw [g_X11_laysWays_L2]
    refine sx_iload_n d_X11_laysWays_2 3 rfl ?_
    refine sx_bipush d_X11_laysWays_3 bc7 ?_
    refine sx_icmp_ge d_X11_laysWays_5 ?_ ?_
    · refine sx_aload_n d_X11_laysWays_8 0 rfl ?_
      refine sx_getF (a' := 285) fl_StairCountModel_111 sh_255 rfl rfl d_X11_laysWays_9 ?_
      refine sx_bipush d_X11_laysWays_12 bc7 ?_
      refine sx_iload_n d_X11_laysWays_14 1 rfl ?_
      refine sx_imul d_X11_laysWays_15 ?_
      refine sx_iload_n d_X11_laysWays_16 3 rfl ?_
      refine sx_iadd d_X11_laysWays_17 ?_
      refine sx_ldcw d_X11_laysWays_18 lK_StairCountModel_476 ?_
      refine sx_iast sh_285 d_X11_laysWays_21 (fun h1 => ?_)
      refine sx_aload_n d_X11_laysWays_22 0 rfl ?_
      refine sx_getF (a' := 286) fl_StairCountModel_114 sh_255 rfl rfl d_X11_laysWays_23 ?_
      refine sx_bipush d_X11_laysWays_26 bc7 ?_
      refine sx_iload_n d_X11_laysWays_28 1 rfl ?_
      refine sx_imul d_X11_laysWays_29 ?_
      refine sx_iload_n d_X11_laysWays_30 3 rfl ?_
      refine sx_iadd d_X11_laysWays_31 ?_
      refine sx_iconst d_X11_laysWays_32 ic0 ?_
      refine sx_iast sh_286 d_X11_laysWays_33 (fun h2 => ?_)
      refine sx_iincV (lc' := fun v3 => [(3, .int v3), (0, .ref 255), (1, .int c1), (2, .int c2)]) (k0 := 3) d_X11_laysWays_34 rfl ii1 (by decide) (fun _ => rfl) (fun v3 => ?_)
      refine sx_goto d_X11_laysWays_37 ?_
      refine sx_lc (lc' := [(0, .ref 255), (1, .int c1), (2, .int c2), (3, .int v3)]) [1, 2, 3, 0] rfl ?_
      exact ih v3 h2
    · refine sx_lc (lc' := [(0, .ref 255), (1, .int c1), (2, .int c2)]) [0, 1, 2] rfl ?_
      exact hK40 h
set_option maxHeartbeats 4000000 in
set_option maxRecDepth 100000 in
theorem sL_X11_laysWays_59 (d : Nat) (hd : 7 ≤ d) (K106 : HH → Option (Unit × HH)) (c1 : Int32) (c2 : Int32) (hK106 : ∀ (h : HH), Sx mi_X11_laysWays d iU (K106 h) 106 [(0, .ref 255), (1, .int c1)] [] h) : ∀ (n : Nat) (x3 : Int32) (h : HH), Sx mi_X11_laysWays d iU (g_X11_laysWays_L59 K106 c1 c2 n x3 h) 59 [(0, .ref 255), (1, .int c1), (2, .int c2), (3, .int x3)] [] h := by
  intro n
  induction n with
  | zero => intro x3 h; exact sx_none
  | succ n ih =>
    intro x3 h
    rw [g_X11_laysWays_L59]
    refine sx_iload_n d_X11_laysWays_59 3 rfl ?_
    refine sx_aload_n d_X11_laysWays_60 0 rfl ?_
    refine sx_getF (a' := 257) fl_StairCountModel_13 sh_255 rfl rfl d_X11_laysWays_61 ?_
    refine sx_iconst d_X11_laysWays_64 ic0 ?_
    refine sx_iald sh_257 d_X11_laysWays_65 (fun v7 => ?_)
    refine sx_icmp_ge d_X11_laysWays_66 ?_ ?_
    · refine sx_aload_n d_X11_laysWays_69 0 rfl ?_
      refine sx_getF (a' := 287) fl_StairCountModel_117 sh_255 rfl rfl d_X11_laysWays_70 ?_
      refine sx_iload_n d_X11_laysWays_73 3 rfl ?_
      refine sx_aload_n d_X11_laysWays_74 0 rfl ?_
      refine sx_iconst d_X11_laysWays_75 ic0 ?_
      refine sx_iload_n d_X11_laysWays_76 2 rfl ?_
      refine sx_iload_n d_X11_laysWays_77 3 rfl ?_
      refine sx_callV [.int (0 : Int32), .int c2, .int x3] mv_X11_canClimb lM_StairCountModel_396 sh_255 (by omega) rfl rfl (Nat.le_of_ble_eq_true rfl) d_X11_laysWays_78 (sp_X11_canClimb (d - 1) (by omega) (0 : Int32) c2 x3 h) (fun r9 h8 => ?_)
      refine sx_jn (fun j => ∀ (y13 : Int32) (h : HH), Sx mi_X11_laysWays d iU (j y13 h) 99 [(0, .ref 255), (1, .int c1), (2, .int c2), (3, .int x3)] [.int y13, .int x3, .ref 287] h) ?_ ?_
      · intro y13 h12
        refine sx_iast sh_287 d_X11_laysWays_99 (fun h14 => ?_)
        refine sx_iincV (lc' := fun v15 => [(3, .int v15), (0, .ref 255), (1, .int c1), (2, .int c2)]) (k0 := 3) d_X11_laysWays_100 rfl ii1 (by decide) (fun _ => rfl) (fun v15 => ?_)
        refine sx_goto d_X11_laysWays_103 ?_
        refine sx_lc (lc' := [(0, .ref 255), (1, .int c1), (2, .int c2), (3, .int v15)]) [1, 2, 3, 0] rfl ?_
        exact ih v15 h14
      · intro j10 k11
        refine sx_if_eq d_X11_laysWays_81 ?_ ?_
        · refine sx_iconst d_X11_laysWays_98 icm1 ?_
          exact k11 (-1 : Int32) h8
        · refine sx_iconst d_X11_laysWays_84 ic0 ?_
          refine sx_aload_n d_X11_laysWays_85 0 rfl ?_
          refine sx_iconst d_X11_laysWays_86 ic0 ?_
          refine sx_iload_n d_X11_laysWays_87 2 rfl ?_
          refine sx_iload_n d_X11_laysWays_88 3 rfl ?_
          refine sx_callV [.int (0 : Int32), .int c2, .int x3] mv_X11_steepOf lM_StairCountModel_389 sh_255 (by omega) rfl rfl (Nat.le_of_ble_eq_true rfl) d_X11_laysWays_89 (sp_X11_steepOf (d - 1) (by omega) (0 : Int32) c2 x3 h8) (fun r17 h16 => ?_)
          refine sx_mmax lM_StairCountModel_404 (by omega) (Nat.le_of_ble_eq_true rfl) d_X11_laysWays_92 ?_
          refine sx_goto d_X11_laysWays_95 ?_
          exact k11 (mxI (0 : Int32) r17) h16
    · refine sx_lc (lc' := [(0, .ref 255), (1, .int c1)]) [0, 1] rfl ?_
      exact hK106 h
set_option maxHeartbeats 4000000 in
set_option maxRecDepth 100000 in
theorem sL_X11_laysWays_117 (d : Nat) (hd : 7 ≤ d) (K181 : Int32 → HH → Option (Unit × HH)) (c1 : Int32) (hK181 : ∀ (z3 : Int32) (h : HH), Sx mi_X11_laysWays d iU (K181 z3 h) 181 [(0, .ref 255), (1, .int c1), (3, .int z3)] [] h) : ∀ (n : Nat) (x3 : Int32) (x4 : Int32) (h : HH), Sx mi_X11_laysWays d iU (g_X11_laysWays_L117 K181 c1 n x3 x4 h) 117 [(0, .ref 255), (1, .int c1), (3, .int x3), (4, .int x4)] [] h := by
  intro n
  induction n with
  | zero => intro x3 x4 h; exact sx_none
  | succ n ih =>
    intro x3 x4 h
    rw [g_X11_laysWays_L117]
    refine sx_iload d_X11_laysWays_117 3 rfl ?_
    refine sx_aload_n d_X11_laysWays_119 0 rfl ?_
    refine sx_getF (a' := 257) fl_StairCountModel_13 sh_255 rfl rfl d_X11_laysWays_120 ?_
    refine sx_iconst d_X11_laysWays_123 ic0 ?_
    refine sx_iald sh_257 d_X11_laysWays_124 (fun v19 => ?_)
    refine sx_icmp_ge d_X11_laysWays_125 ?_ ?_
    · refine sx_aload_n d_X11_laysWays_128 0 rfl ?_
      refine sx_getF (a' := 287) fl_StairCountModel_117 sh_255 rfl rfl d_X11_laysWays_129 ?_
      refine sx_iload d_X11_laysWays_132 3 rfl ?_
      refine sx_iald sh_287 d_X11_laysWays_134 (fun v20 => ?_)
      refine sx_iconst d_X11_laysWays_135 icm1 ?_
      refine sx_jn (fun j => ∀ (u24 : Int32) (h : HH), Sx mi_X11_laysWays d iU (j u24 h) 160 [(0, .ref 255), (1, .int c1), (3, .int u24), (4, .int x4)] [] h) ?_ ?_
      · intro u24 h23
        refine sx_iload_n d_X11_laysWays_160 2 rfl ?_
        refine sx_aload_n d_X11_laysWays_161 0 rfl ?_
        refine sx_iload_n d_X11_laysWays_162 1 rfl ?_
        refine sx_iload d_X11_laysWays_163 3 rfl ?_
        refine sx_iconst d_X11_laysWays_165 ic1 ?_
        refine sx_iadd d_X11_laysWays_166 ?_
        refine sx_iload d_X11_laysWays_167 3 rfl ?_
        refine sx_iconst d_X11_laysWays_169 ic0 ?_
        refine sx_callV [.int c1, .int (x4 + (1 : Int32)), .int x4, .int (0 : Int32)] mv_X11_betters lM_StairCountModel_477 sh_255 (by omega) rfl rfl (Nat.le_of_ble_eq_true rfl) d_X11_laysWays_170 (sp_X11_betters (d - 1) (by omega) c1 (x4 + (1 : Int32)) x4 (0 : Int32) h23) (fun r26 h25 => ?_)
        refine sx_ior d_X11_laysWays_173 ?_
        refine sx_vlI (fun v27 => ?_)
        refine sx_istore_n (i := 3) (lc' := [(3, .int v27), (0, .ref 255), (1, .int c1), (4, .int x4)]) d_X11_laysWays_174 rfl (by decide) rfl ?_
        refine sx_iincV (lc' := fun v28 => [(4, .int v28), (3, .int v27), (0, .ref 255), (1, .int c1)]) (k0 := 3) d_X11_laysWays_175 rfl ii1 (by decide) (fun _ => rfl) (fun v28 => ?_)
        refine sx_goto d_X11_laysWays_178 ?_
        refine sx_lc (lc' := [(0, .ref 255), (1, .int c1), (3, .int v27), (4, .int v28)]) [2, 3, 1, 0] rfl ?_
        exact ih v27 v28 h25
      · intro j21 k22
        refine sx_icmp_eq d_X11_laysWays_136 ?_ ?_
        · exact k22 x3 h
        · refine sx_iload_n d_X11_laysWays_139 2 rfl ?_
          refine sx_aload_n d_X11_laysWays_140 0 rfl ?_
          refine sx_iload_n d_X11_laysWays_141 1 rfl ?_
          refine sx_iload d_X11_laysWays_142 3 rfl ?_
          refine sx_iload d_X11_laysWays_144 3 rfl ?_
          refine sx_iconst d_X11_laysWays_146 ic1 ?_
          refine sx_iadd d_X11_laysWays_147 ?_
          refine sx_aload_n d_X11_laysWays_148 0 rfl ?_
          refine sx_getF (a' := 287) fl_StairCountModel_117 sh_255 rfl rfl d_X11_laysWays_149 ?_
          refine sx_iload d_X11_laysWays_152 3 rfl ?_
          refine sx_iald sh_287 d_X11_laysWays_154 (fun v29 => ?_)
          refine sx_callV [.int c1, .int x4, .int (x4 + (1 : Int32)), .int v29] mv_X11_betters lM_StairCountModel_477 sh_255 (by omega) rfl rfl (Nat.le_of_ble_eq_true rfl) d_X11_laysWays_155 (sp_X11_betters (d - 1) (by omega) c1 x4 (x4 + (1 : Int32)) v29 h) (fun r31 h30 => ?_)
          refine sx_ior d_X11_laysWays_158 ?_
          refine sx_vlI (fun v32 => ?_)
          refine sx_istore_n (i := 3) (lc' := [(3, .int v32), (0, .ref 255), (1, .int c1), (4, .int x4)]) d_X11_laysWays_159 rfl (by decide) rfl ?_
          refine sx_lc (lc' := [(0, .ref 255), (1, .int c1), (3, .int v32), (4, .int x4)]) [1, 2, 0, 3] rfl ?_
          exact k22 v32 h30
    · refine sx_lc (lc' := [(0, .ref 255), (1, .int c1), (3, .int x3)]) [0, 1, 2] rfl ?_
      exact hK181 x3 h
set_option maxHeartbeats 4000000 in
set_option maxRecDepth 100000 in
theorem sL_X11_laysWays_184 (d : Nat) (hd : 7 ≤ d) (K259 : Int32 → HH → Option (Unit × HH)) (c1 : Int32) (hK259 : ∀ (z3 : Int32) (h : HH), Sx mi_X11_laysWays d iU (K259 z3 h) 259 [(0, .ref 255), (1, .int c1), (3, .int z3)] [] h) : ∀ (n : Nat) (x3 : Int32) (x4 : Int32) (h : HH), Sx mi_X11_laysWays d iU (g_X11_laysWays_L184 K259 c1 n x3 x4 h) 184 [(0, .ref 255), (1, .int c1), (3, .int x3), (4, .int x4)] [] h := by
  intro n
  induction n with
  | zero => intro x3 x4 h; exact sx_none
  | succ n ih =>
    intro x3 x4 h
    rw [g_X11_laysWays_L184]
    refine sx_iload d_X11_laysWays_184 3 rfl ?_
    refine sx_aload_n d_X11_laysWays_186 0 rfl ?_
    refine sx_getF (a' := 257) fl_StairCountModel_13 sh_255 rfl rfl d_X11_laysWays_187 ?_
    refine sx_iconst d_X11_laysWays_190 ic2 ?_
    refine sx_iald sh_257 d_X11_laysWays_191 (fun v35 => ?_)
    refine sx_icmp_ge d_X11_laysWays_192 ?_ ?_
    · refine sx_iload_n d_X11_laysWays_195 2 rfl ?_
      refine sx_aload_n d_X11_laysWays_196 0 rfl ?_
      refine sx_iload_n d_X11_laysWays_197 1 rfl ?_
      refine sx_aload_n d_X11_laysWays_198 0 rfl ?_
      refine sx_getF (a' := 263) fl_StairCountModel_31 sh_255 rfl rfl d_X11_laysWays_199 ?_
      refine sx_iload d_X11_laysWays_202 3 rfl ?_
      refine sx_iald sh_263 d_X11_laysWays_204 (fun v36 => ?_)
      refine sx_aload_n d_X11_laysWays_205 0 rfl ?_
      refine sx_getF (a' := 264) fl_StairCountModel_34 sh_255 rfl rfl d_X11_laysWays_206 ?_
      refine sx_iload d_X11_laysWays_209 3 rfl ?_
      refine sx_iald sh_264 d_X11_laysWays_211 (fun v37 => ?_)
      refine sx_aload_n d_X11_laysWays_212 0 rfl ?_
      refine sx_getF (a' := 265) fl_StairCountModel_37 sh_255 rfl rfl d_X11_laysWays_213 ?_
      refine sx_iload d_X11_laysWays_216 3 rfl ?_
      refine sx_iald sh_265 d_X11_laysWays_218 (fun v38 => ?_)
      refine sx_callV [.int c1, .int v36, .int v37, .int v38] mv_X11_betters lM_StairCountModel_477 sh_255 (by omega) rfl rfl (Nat.le_of_ble_eq_true rfl) d_X11_laysWays_219 (sp_X11_betters (d - 1) (by omega) c1 v36 v37 v38 h) (fun r40 h39 => ?_)
      refine sx_ior d_X11_laysWays_222 ?_
      refine sx_vlI (fun v41 => ?_)
      refine sx_istore_n (i := 3) (lc' := [(3, .int v41), (0, .ref 255), (1, .int c1), (4, .int x4)]) d_X11_laysWays_223 rfl (by decide) rfl ?_
      refine sx_iload_n d_X11_laysWays_224 0 rfl ?_
      refine sx_aload_n d_X11_laysWays_225 1 rfl ?_
      refine sx_iload_n d_X11_laysWays_226 2 rfl ?_
      refine sx_aload_n d_X11_laysWays_227 1 rfl ?_
      refine sx_getF (a' := 264) fl_StairCountModel_34 sh_255 rfl rfl d_X11_laysWays_228 ?_
      refine sx_iload d_X11_laysWays_231 3 rfl ?_
      refine sx_iald sh_264 d_X11_laysWays_233 (fun v42 => ?_)
      refine sx_aload_n d_X11_laysWays_234 1 rfl ?_
      refine sx_getF (a' := 263) fl_StairCountModel_31 sh_255 rfl rfl d_X11_laysWays_235 ?_
      refine sx_iload d_X11_laysWays_238 3 rfl ?_
      refine sx_iald sh_263 d_X11_laysWays_240 (fun v43 => ?_)
      refine sx_aload_n d_X11_laysWays_241 1 rfl ?_
      refine sx_getF (a' := 265) fl_StairCountModel_37 sh_255 rfl rfl d_X11_laysWays_242 ?_
      refine sx_iload d_X11_laysWays_245 3 rfl ?_
      refine sx_iald sh_265 d_X11_laysWays_247 (fun v44 => ?_)
      refine sx_callV [.int c1, .int v42, .int v43, .int v44] mv_X11_betters lM_StairCountModel_477 sh_255 (by omega) rfl rfl (Nat.le_of_ble_eq_true rfl) d_X11_laysWays_248 (sp_X11_betters (d - 1) (by omega) c1 v42 v43 v44 h39) (fun r46 h45 => ?_)
      refine sx_ior d_X11_laysWays_251 ?_
      refine sx_vlI (fun v47 => ?_)
      refine sx_istore_n (i := 3) (lc' := [(3, .int v47), (0, .ref 255), (1, .int c1), (4, .int x4)]) d_X11_laysWays_252 rfl (by decide) rfl ?_
      refine sx_iincV (lc' := fun v48 => [(4, .int v48), (3, .int v47), (0, .ref 255), (1, .int c1)]) (k0 := 3) d_X11_laysWays_253 rfl ii1 (by decide) (fun _ => rfl) (fun v48 => ?_)
      refine sx_goto d_X11_laysWays_256 ?_
      refine sx_lc (lc' := [(0, .ref 255), (1, .int c1), (3, .int v47), (4, .int v48)]) [2, 3, 1, 0] rfl ?_
      exact ih v47 v48 h45
    · refine sx_lc (lc' := [(0, .ref 255), (1, .int c1), (3, .int x3)]) [0, 1, 2] rfl ?_
      exact hK259 x3 h
set_option maxHeartbeats 4000000 in
set_option maxRecDepth 100000 in
theorem sL_X11_laysWays_108 (d : Nat) (hd : 7 ≤ d) (c1 : Int32) : ∀ (n : Nat) (x3 : Int32) (h : HH), Sx mi_X11_laysWays d iU (g_X11_laysWays_L108 c1 n x3 h) 108 [(0, .ref 255), (1, .int c1), (3, .int x3)] [] h := by
  intro n
  induction n with
  | zero => intro x3 h; exact sx_none
  | succ n ih =>
    intro x3 h
    rw [g_X11_laysWays_L108]
    refine sx_iload_n d_X11_laysWays_108 2 rfl ?_
    refine sx_if_eq d_X11_laysWays_109 ?_ ?_
    · exact sx_vret rfl d_X11_laysWays_262
    · refine sx_iconst d_X11_laysWays_112 ic0 ?_
      refine sx_istore_n (i := 3) (lc' := [(3, .int (0 : Int32)), (0, .ref 255), (1, .int c1)]) d_X11_laysWays_113 rfl (by decide) rfl ?_
      refine sx_iconst d_X11_laysWays_114 ic0 ?_
      refine sx_istore (i := 4) (lc' := [(4, .int (0 : Int32)), (3, .int (0 : Int32)), (0, .ref 255), (1, .int c1)]) d_X11_laysWays_115 (by decide) rfl ?_
      refine sx_lc (lc' := [(0, .ref 255), (1, .int c1), (3, .int (0 : Int32)), (4, .int (0 : Int32))]) [2, 3, 1, 0] rfl ?_
      refine sL_X11_laysWays_117 d hd _ c1 ?_ 1024 (0 : Int32) (0 : Int32) h
      · intro z34 h33
        refine sx_iconst d_X11_laysWays_181 ic0 ?_
        refine sx_istore (i := 4) (lc' := [(4, .int (0 : Int32)), (0, .ref 255), (1, .int c1), (3, .int z34)]) d_X11_laysWays_182 (by decide) rfl ?_
        refine sx_lc (lc' := [(0, .ref 255), (1, .int c1), (3, .int z34), (4, .int (0 : Int32))]) [1, 2, 3, 0] rfl ?_
        refine sL_X11_laysWays_184 d hd _ c1 ?_ 1024 z34 (0 : Int32) h33
        · intro z50 h49
          refine sx_goto d_X11_laysWays_259 ?_
          exact ih z50 h49
set_option maxHeartbeats 4000000 in
set_option maxRecDepth 100000 in
theorem sp_X11_laysWays (d : Nat) (hd : 7 ≤ d) (a0 : Int32) (a1 : Int32) (h : HH) : Sp mi_X11_laysWays d iU [.ref 255, .int a0, .int a1] h (g_X11_laysWays a0 a1 h) := by
  refine sp_of (lc := [(0, .ref 255), (1, .int a0), (2, .int a1)]) (by decide) (Nat.le_of_ble_eq_true rfl) rfl ?_
  unfold g_X11_laysWays
  refine sx_iconst d_X11_laysWays_0 ic0 ?_
  refine sx_istore_n (i := 3) (lc' := [(3, .int (0 : Int32)), (0, .ref 255), (1, .int a0), (2, .int a1)]) d_X11_laysWays_1 rfl (by decide) rfl ?_
  refine sx_lc (lc' := [(0, .ref 255), (1, .int a0), (2, .int a1), (3, .int (0 : Int32))]) [1, 2, 3, 0] rfl ?_
  refine sL_X11_laysWays_2 d hd _ a0 a1 ?_ 1024 (0 : Int32) h
  · intro h4
    refine sx_aload_n d_X11_laysWays_40 0 rfl ?_
    refine sx_getF (a' := 285) fl_StairCountModel_111 sh_255 rfl rfl d_X11_laysWays_41 ?_
    refine sx_bipush d_X11_laysWays_44 bc7 ?_
    refine sx_iload_n d_X11_laysWays_46 1 rfl ?_
    refine sx_imul d_X11_laysWays_47 ?_
    refine sx_aload_n d_X11_laysWays_48 0 rfl ?_
    refine sx_getF (a' := 278) fl_StairCountModel_81 sh_255 rfl rfl d_X11_laysWays_49 ?_
    refine sx_iload_n d_X11_laysWays_52 2 rfl ?_
    refine sx_iald sh_278 d_X11_laysWays_53 (fun v5 => ?_)
    refine sx_iadd d_X11_laysWays_54 ?_
    refine sx_iconst d_X11_laysWays_55 ic0 ?_
    refine sx_iast sh_285 d_X11_laysWays_56 (fun h6 => ?_)
    refine sx_iconst d_X11_laysWays_57 ic0 ?_
    refine sx_istore_n (i := 3) (lc' := [(3, .int (0 : Int32)), (0, .ref 255), (1, .int a0), (2, .int a1)]) d_X11_laysWays_58 rfl (by decide) rfl ?_
    refine sx_lc (lc' := [(0, .ref 255), (1, .int a0), (2, .int a1), (3, .int (0 : Int32))]) [1, 2, 3, 0] rfl ?_
    refine sL_X11_laysWays_59 d hd _ a0 a1 ?_ 1024 (0 : Int32) h6
    · intro h18
      refine sx_iconst d_X11_laysWays_106 ic1 ?_
      refine sx_istore_n (i := 3) (lc' := [(3, .int (1 : Int32)), (0, .ref 255), (1, .int a0)]) d_X11_laysWays_107 rfl (by decide) rfl ?_
      refine sx_lc (lc' := [(0, .ref 255), (1, .int a0), (3, .int (1 : Int32))]) [1, 2, 0] rfl ?_
      refine sL_X11_laysWays_108 d hd a0 1024 (1 : Int32) h18
theorem d_X11_way_0 : DC mi_X11_way 0 (.aload_n 0) 1 1 := ⟨by decide +kernel, rfl⟩
theorem d_X11_way_1 : DC mi_X11_way 1 (.iconst 0) 1 2 := ⟨by decide +kernel, rfl⟩
theorem d_X11_way_2 : DC mi_X11_way 2 (.putfield 148) 3 5 := ⟨by decide +kernel, rfl⟩
theorem d_X11_way_5 : DC mi_X11_way 5 (.aload_n 0) 1 6 := ⟨by decide +kernel, rfl⟩
theorem d_X11_way_6 : DC mi_X11_way 6 (.iload_n 1) 1 7 := ⟨by decide +kernel, rfl⟩
theorem d_X11_way_7 : DC mi_X11_way 7 (.invokevirtual 346) 3 10 := ⟨by decide +kernel, rfl⟩
theorem d_X11_way_10 : DB mi_X11_way 10 (.ifCond .eq 20) 20 13 30 := ⟨by decide +kernel, rfl, by decide⟩
theorem d_X11_way_13 : DC mi_X11_way 13 (.aload_n 0) 1 14 := ⟨by decide +kernel, rfl⟩
theorem d_X11_way_14 : DC mi_X11_way 14 (.iload_n 2) 1 15 := ⟨by decide +kernel, rfl⟩
theorem d_X11_way_15 : DC mi_X11_way 15 (.invokevirtual 444) 3 18 := ⟨by decide +kernel, rfl⟩
theorem d_X11_way_18 : DB mi_X11_way 18 (.ifCond .eq 12) 12 21 30 := ⟨by decide +kernel, rfl, by decide⟩
theorem d_X11_way_21 : DC mi_X11_way 21 (.iload_n 3) 1 22 := ⟨by decide +kernel, rfl⟩
theorem d_X11_way_22 : DB mi_X11_way 22 (.ifCond .lt 8) 8 25 30 := ⟨by decide +kernel, rfl, by decide⟩
theorem d_X11_way_25 : DC mi_X11_way 25 (.iload_n 3) 1 26 := ⟨by decide +kernel, rfl⟩
theorem d_X11_way_26 : DC mi_X11_way 26 (.iconst 1) 1 27 := ⟨by decide +kernel, rfl⟩
theorem d_X11_way_27 : DB mi_X11_way 27 (.if_icmp .le 5) 5 30 32 := ⟨by decide +kernel, rfl, by decide⟩
theorem d_X11_way_30 : DC mi_X11_way 30 (.iconst (-1)) 1 31 := ⟨by decide +kernel, rfl⟩
theorem d_X11_way_31 : DC mi_X11_way 31 (.ireturn) 1 32 := ⟨by decide +kernel, rfl⟩
theorem d_X11_way_32 : DC mi_X11_way 32 (.aload_n 0) 1 33 := ⟨by decide +kernel, rfl⟩
theorem d_X11_way_33 : DC mi_X11_way 33 (.iconst 0) 1 34 := ⟨by decide +kernel, rfl⟩
theorem d_X11_way_34 : DC mi_X11_way 34 (.iload_n 1) 1 35 := ⟨by decide +kernel, rfl⟩
theorem d_X11_way_35 : DC mi_X11_way 35 (.invokevirtual 481) 3 38 := ⟨by decide +kernel, rfl⟩
theorem d_X11_way_38 : DC mi_X11_way 38 (.aload_n 0) 1 39 := ⟨by decide +kernel, rfl⟩
theorem d_X11_way_39 : DC mi_X11_way 39 (.getfield 111) 3 42 := ⟨by decide +kernel, rfl⟩
theorem d_X11_way_42 : DC mi_X11_way 42 (.iload_n 2) 1 43 := ⟨by decide +kernel, rfl⟩
theorem d_X11_way_43 : DC mi_X11_way 43 (.iaload) 1 44 := ⟨by decide +kernel, rfl⟩
theorem d_X11_way_44 : DC mi_X11_way 44 (.ldc_w 476) 3 47 := ⟨by decide +kernel, rfl⟩
theorem d_X11_way_47 : DB mi_X11_way 47 (.if_icmp .ne 8) 8 50 55 := ⟨by decide +kernel, rfl, by decide⟩
theorem d_X11_way_50 : DC mi_X11_way 50 (.bipush (-2)) 2 52 := ⟨by decide +kernel, rfl⟩
theorem d_X11_way_52 : DB mi_X11_way 52 (.goto 22) 22 55 74 := ⟨by decide +kernel, rfl, by decide⟩
theorem d_X11_way_55 : DC mi_X11_way 55 (.iload_n 3) 1 56 := ⟨by decide +kernel, rfl⟩
theorem d_X11_way_56 : DB mi_X11_way 56 (.ifCond .ne 12) 12 59 68 := ⟨by decide +kernel, rfl, by decide⟩
theorem d_X11_way_59 : DC mi_X11_way 59 (.aload_n 0) 1 60 := ⟨by decide +kernel, rfl⟩
theorem d_X11_way_60 : DC mi_X11_way 60 (.getfield 111) 3 63 := ⟨by decide +kernel, rfl⟩
theorem d_X11_way_63 : DC mi_X11_way 63 (.iload_n 2) 1 64 := ⟨by decide +kernel, rfl⟩
theorem d_X11_way_64 : DC mi_X11_way 64 (.iaload) 1 65 := ⟨by decide +kernel, rfl⟩
theorem d_X11_way_65 : DB mi_X11_way 65 (.goto 9) 9 68 74 := ⟨by decide +kernel, rfl, by decide⟩
theorem d_X11_way_68 : DC mi_X11_way 68 (.aload_n 0) 1 69 := ⟨by decide +kernel, rfl⟩
theorem d_X11_way_69 : DC mi_X11_way 69 (.getfield 114) 3 72 := ⟨by decide +kernel, rfl⟩
theorem d_X11_way_72 : DC mi_X11_way 72 (.iload_n 2) 1 73 := ⟨by decide +kernel, rfl⟩
theorem d_X11_way_73 : DC mi_X11_way 73 (.iaload) 1 74 := ⟨by decide +kernel, rfl⟩
theorem d_X11_way_74 : DC mi_X11_way 74 (.ireturn) 1 75 := ⟨by decide +kernel, rfl⟩
set_option maxHeartbeats 4000000 in
set_option maxRecDepth 100000 in
theorem sp_X11_way (d : Nat) (hd : 8 ≤ d) (a0 : Int32) (a1 : Int32) (a2 : Int32) (h : HH) : Sp mi_X11_way d iI [.ref 255, .int a0, .int a1, .int a2] h (g_X11_way a0 a1 a2 h) := by
  refine sp_of (lc := [(0, .ref 255), (1, .int a0), (2, .int a1), (3, .int a2)]) (by decide) (Nat.le_of_ble_eq_true rfl) rfl ?_
  unfold g_X11_way
  refine sx_aload_n d_X11_way_0 0 rfl ?_
  refine sx_iconst d_X11_way_1 ic0 ?_
  refine sx_putI fl_StairCountModel_148 sh_255 rfl hty_11_0 d_X11_way_2 (fun h1 => ?_)
  refine sx_aload_n d_X11_way_5 0 rfl ?_
  refine sx_iload_n d_X11_way_6 1 rfl ?_
  refine sx_callV [.int a0] mv_X11_isPerson lM_StairCountModel_346 sh_255 (by omega) rfl rfl (Nat.le_of_ble_eq_true rfl) d_X11_way_7 (sp_X11_isPerson (d - 1) (by omega) a0 h1) (fun r3 h2 => ?_)
  refine sx_if_eq d_X11_way_10 ?_ ?_
  · refine sx_iconst d_X11_way_30 icm1 ?_
    exact sx_iret rfl d_X11_way_31
  · refine sx_aload_n d_X11_way_13 0 rfl ?_
    refine sx_iload_n d_X11_way_14 2 rfl ?_
    refine sx_callV [.int a1] mv_X11_isFloor lM_StairCountModel_444 sh_255 (by omega) rfl rfl (Nat.le_of_ble_eq_true rfl) d_X11_way_15 (sp_X11_isFloor (d - 1) (by omega) a1 h2) (fun r5 h4 => ?_)
    refine sx_if_eq d_X11_way_18 ?_ ?_
    · refine sx_iconst d_X11_way_30 icm1 ?_
      exact sx_iret rfl d_X11_way_31
    · refine sx_iload_n d_X11_way_21 3 rfl ?_
      refine sx_if_lt d_X11_way_22 ?_ ?_
      · refine sx_iconst d_X11_way_30 icm1 ?_
        exact sx_iret rfl d_X11_way_31
      · refine sx_iload_n d_X11_way_25 3 rfl ?_
        refine sx_iconst d_X11_way_26 ic1 ?_
        refine sx_icmp_le d_X11_way_27 ?_ ?_
        · refine sx_iconst d_X11_way_30 icm1 ?_
          exact sx_iret rfl d_X11_way_31
        · refine sx_aload_n d_X11_way_32 0 rfl ?_
          refine sx_iconst d_X11_way_33 ic0 ?_
          refine sx_iload_n d_X11_way_34 1 rfl ?_
          refine sx_callV [.int (0 : Int32), .int a0] mv_X11_laysWays lM_StairCountModel_481 sh_255 (by omega) rfl rfl (Nat.le_of_ble_eq_true rfl) d_X11_way_35 (sp_X11_laysWays (d - 1) (by omega) (0 : Int32) a0 h4) (fun _ h6 => ?_)
          refine sx_aload_n d_X11_way_38 0 rfl ?_
          refine sx_getF (a' := 285) fl_StairCountModel_111 sh_255 rfl rfl d_X11_way_39 ?_
          refine sx_iload_n d_X11_way_42 2 rfl ?_
          refine sx_iald sh_285 d_X11_way_43 (fun v8 => ?_)
          refine sx_ldcw d_X11_way_44 lK_StairCountModel_476 ?_
          refine sx_icmp_ne d_X11_way_47 ?_ ?_
          · refine sx_bipush d_X11_way_50 bcm2 ?_
            refine sx_goto d_X11_way_52 ?_
            exact sx_iret rfl d_X11_way_74
          · refine sx_iload_n d_X11_way_55 3 rfl ?_
            refine sx_if_ne d_X11_way_56 ?_ ?_
            · refine sx_aload_n d_X11_way_59 0 rfl ?_
              refine sx_getF (a' := 285) fl_StairCountModel_111 sh_255 rfl rfl d_X11_way_60 ?_
              refine sx_iload_n d_X11_way_63 2 rfl ?_
              refine sx_iald sh_285 d_X11_way_64 (fun v9 => ?_)
              refine sx_goto d_X11_way_65 ?_
              exact sx_iret rfl d_X11_way_74
            · refine sx_aload_n d_X11_way_68 0 rfl ?_
              refine sx_getF (a' := 286) fl_StairCountModel_114 sh_255 rfl rfl d_X11_way_69 ?_
              refine sx_iload_n d_X11_way_72 2 rfl ?_
              refine sx_iald sh_286 d_X11_way_73 (fun v10 => ?_)
              exact sx_iret rfl d_X11_way_74
theorem d_X11_areTwo_0 : DC mi_X11_areTwo 0 (.aload_n 0) 1 1 := ⟨by decide +kernel, rfl⟩
theorem d_X11_areTwo_1 : DC mi_X11_areTwo 1 (.iload_n 1) 1 2 := ⟨by decide +kernel, rfl⟩
theorem d_X11_areTwo_2 : DC mi_X11_areTwo 2 (.invokevirtual 346) 3 5 := ⟨by decide +kernel, rfl⟩
theorem d_X11_areTwo_5 : DB mi_X11_areTwo 5 (.ifCond .eq 20) 20 8 25 := ⟨by decide +kernel, rfl, by decide⟩
theorem d_X11_areTwo_8 : DC mi_X11_areTwo 8 (.aload_n 0) 1 9 := ⟨by decide +kernel, rfl⟩
theorem d_X11_areTwo_9 : DC mi_X11_areTwo 9 (.iload_n 2) 1 10 := ⟨by decide +kernel, rfl⟩
theorem d_X11_areTwo_10 : DC mi_X11_areTwo 10 (.invokevirtual 346) 3 13 := ⟨by decide +kernel, rfl⟩
theorem d_X11_areTwo_13 : DB mi_X11_areTwo 13 (.ifCond .eq 12) 12 16 25 := ⟨by decide +kernel, rfl, by decide⟩
theorem d_X11_areTwo_16 : DC mi_X11_areTwo 16 (.iload_n 1) 1 17 := ⟨by decide +kernel, rfl⟩
theorem d_X11_areTwo_17 : DC mi_X11_areTwo 17 (.iload_n 2) 1 18 := ⟨by decide +kernel, rfl⟩
theorem d_X11_areTwo_18 : DB mi_X11_areTwo 18 (.if_icmp .eq 7) 7 21 25 := ⟨by decide +kernel, rfl, by decide⟩
theorem d_X11_areTwo_21 : DC mi_X11_areTwo 21 (.iconst 1) 1 22 := ⟨by decide +kernel, rfl⟩
theorem d_X11_areTwo_22 : DB mi_X11_areTwo 22 (.goto 4) 4 25 26 := ⟨by decide +kernel, rfl, by decide⟩
theorem d_X11_areTwo_25 : DC mi_X11_areTwo 25 (.iconst 0) 1 26 := ⟨by decide +kernel, rfl⟩
theorem d_X11_areTwo_26 : DC mi_X11_areTwo 26 (.ireturn) 1 27 := ⟨by decide +kernel, rfl⟩
set_option maxHeartbeats 4000000 in
set_option maxRecDepth 100000 in
theorem sp_X11_areTwo (d : Nat) (hd : 1 ≤ d) (a0 : Int32) (a1 : Int32) (h : HH) : Sp mi_X11_areTwo d iI [.ref 255, .int a0, .int a1] h (g_X11_areTwo a0 a1 h) := by
  refine sp_of (lc := [(0, .ref 255), (1, .int a0), (2, .int a1)]) (by decide) (Nat.le_of_ble_eq_true rfl) rfl ?_
  unfold g_X11_areTwo
  refine sx_aload_n d_X11_areTwo_0 0 rfl ?_
  refine sx_iload_n d_X11_areTwo_1 1 rfl ?_
  refine sx_callV [.int a0] mv_X11_isPerson lM_StairCountModel_346 sh_255 (by omega) rfl rfl (Nat.le_of_ble_eq_true rfl) d_X11_areTwo_2 (sp_X11_isPerson (d - 1) (by omega) a0 h) (fun r2 h1 => ?_)
  refine sx_if_eq d_X11_areTwo_5 ?_ ?_
  · refine sx_iconst d_X11_areTwo_25 ic0 ?_
    exact sx_zret (by decide) rfl d_X11_areTwo_26
  · refine sx_aload_n d_X11_areTwo_8 0 rfl ?_
    refine sx_iload_n d_X11_areTwo_9 2 rfl ?_
    refine sx_callV [.int a1] mv_X11_isPerson lM_StairCountModel_346 sh_255 (by omega) rfl rfl (Nat.le_of_ble_eq_true rfl) d_X11_areTwo_10 (sp_X11_isPerson (d - 1) (by omega) a1 h1) (fun r4 h3 => ?_)
    refine sx_if_eq d_X11_areTwo_13 ?_ ?_
    · refine sx_iconst d_X11_areTwo_25 ic0 ?_
      exact sx_zret (by decide) rfl d_X11_areTwo_26
    · refine sx_iload_n d_X11_areTwo_16 1 rfl ?_
      refine sx_iload_n d_X11_areTwo_17 2 rfl ?_
      refine sx_icmp_eq d_X11_areTwo_18 ?_ ?_
      · refine sx_iconst d_X11_areTwo_25 ic0 ?_
        exact sx_zret (by decide) rfl d_X11_areTwo_26
      · refine sx_iconst d_X11_areTwo_21 ic1 ?_
        refine sx_goto d_X11_areTwo_22 ?_
        exact sx_zret (by decide) rfl d_X11_areTwo_26
theorem d_X11_meet_0 : DC mi_X11_meet 0 (.aload_n 0) 1 1 := ⟨by decide +kernel, rfl⟩
theorem d_X11_meet_1 : DC mi_X11_meet 1 (.iconst 0) 1 2 := ⟨by decide +kernel, rfl⟩
theorem d_X11_meet_2 : DC mi_X11_meet 2 (.putfield 148) 3 5 := ⟨by decide +kernel, rfl⟩
theorem d_X11_meet_5 : DC mi_X11_meet 5 (.aload_n 0) 1 6 := ⟨by decide +kernel, rfl⟩
theorem d_X11_meet_6 : DC mi_X11_meet 6 (.iload_n 1) 1 7 := ⟨by decide +kernel, rfl⟩
theorem d_X11_meet_7 : DC mi_X11_meet 7 (.iload_n 2) 1 8 := ⟨by decide +kernel, rfl⟩
theorem d_X11_meet_8 : DC mi_X11_meet 8 (.invokevirtual 484) 3 11 := ⟨by decide +kernel, rfl⟩
theorem d_X11_meet_11 : DB mi_X11_meet 11 (.ifCond .eq 12) 12 14 23 := ⟨by decide +kernel, rfl, by decide⟩
theorem d_X11_meet_14 : DC mi_X11_meet 14 (.iload_n 3) 1 15 := ⟨by decide +kernel, rfl⟩
theorem d_X11_meet_15 : DB mi_X11_meet 15 (.ifCond .lt 8) 8 18 23 := ⟨by decide +kernel, rfl, by decide⟩
theorem d_X11_meet_18 : DC mi_X11_meet 18 (.iload_n 3) 1 19 := ⟨by decide +kernel, rfl⟩
theorem d_X11_meet_19 : DC mi_X11_meet 19 (.iconst 1) 1 20 := ⟨by decide +kernel, rfl⟩
theorem d_X11_meet_20 : DB mi_X11_meet 20 (.if_icmp .le 5) 5 23 25 := ⟨by decide +kernel, rfl, by decide⟩
theorem d_X11_meet_23 : DC mi_X11_meet 23 (.iconst (-1)) 1 24 := ⟨by decide +kernel, rfl⟩
theorem d_X11_meet_24 : DC mi_X11_meet 24 (.ireturn) 1 25 := ⟨by decide +kernel, rfl⟩
theorem d_X11_meet_25 : DC mi_X11_meet 25 (.aload_n 0) 1 26 := ⟨by decide +kernel, rfl⟩
theorem d_X11_meet_26 : DC mi_X11_meet 26 (.iconst 0) 1 27 := ⟨by decide +kernel, rfl⟩
theorem d_X11_meet_27 : DC mi_X11_meet 27 (.iload_n 1) 1 28 := ⟨by decide +kernel, rfl⟩
theorem d_X11_meet_28 : DC mi_X11_meet 28 (.invokevirtual 481) 3 31 := ⟨by decide +kernel, rfl⟩
theorem d_X11_meet_31 : DC mi_X11_meet 31 (.aload_n 0) 1 32 := ⟨by decide +kernel, rfl⟩
theorem d_X11_meet_32 : DC mi_X11_meet 32 (.iconst 1) 1 33 := ⟨by decide +kernel, rfl⟩
theorem d_X11_meet_33 : DC mi_X11_meet 33 (.iload_n 2) 1 34 := ⟨by decide +kernel, rfl⟩
theorem d_X11_meet_34 : DC mi_X11_meet 34 (.invokevirtual 481) 3 37 := ⟨by decide +kernel, rfl⟩
theorem d_X11_meet_37 : DC mi_X11_meet 37 (.bipush (-2)) 2 39 := ⟨by decide +kernel, rfl⟩
theorem d_X11_meet_39 : DC mi_X11_meet 39 (.istore 4) 2 41 := ⟨by decide +kernel, rfl⟩
theorem d_X11_meet_41 : DC mi_X11_meet 41 (.ldc_w 476) 3 44 := ⟨by decide +kernel, rfl⟩
theorem d_X11_meet_44 : DC mi_X11_meet 44 (.istore 5) 2 46 := ⟨by decide +kernel, rfl⟩
theorem d_X11_meet_46 : DC mi_X11_meet 46 (.iconst 0) 1 47 := ⟨by decide +kernel, rfl⟩
theorem d_X11_meet_47 : DC mi_X11_meet 47 (.istore 6) 2 49 := ⟨by decide +kernel, rfl⟩
theorem d_X11_meet_49 : DC mi_X11_meet 49 (.iload 6) 2 51 := ⟨by decide +kernel, rfl⟩
theorem d_X11_meet_51 : DC mi_X11_meet 51 (.aload_n 0) 1 52 := ⟨by decide +kernel, rfl⟩
theorem d_X11_meet_52 : DC mi_X11_meet 52 (.getfield 13) 3 55 := ⟨by decide +kernel, rfl⟩
theorem d_X11_meet_55 : DC mi_X11_meet 55 (.iconst 0) 1 56 := ⟨by decide +kernel, rfl⟩
theorem d_X11_meet_56 : DC mi_X11_meet 56 (.iaload) 1 57 := ⟨by decide +kernel, rfl⟩
theorem d_X11_meet_57 : DB mi_X11_meet 57 (.if_icmp .gt 59) 59 60 116 := ⟨by decide +kernel, rfl, by decide⟩
theorem d_X11_meet_60 : DC mi_X11_meet 60 (.aload_n 0) 1 61 := ⟨by decide +kernel, rfl⟩
theorem d_X11_meet_61 : DC mi_X11_meet 61 (.getfield 111) 3 64 := ⟨by decide +kernel, rfl⟩
theorem d_X11_meet_64 : DC mi_X11_meet 64 (.iload 6) 2 66 := ⟨by decide +kernel, rfl⟩
theorem d_X11_meet_66 : DC mi_X11_meet 66 (.iaload) 1 67 := ⟨by decide +kernel, rfl⟩
theorem d_X11_meet_67 : DC mi_X11_meet 67 (.aload_n 0) 1 68 := ⟨by decide +kernel, rfl⟩
theorem d_X11_meet_68 : DC mi_X11_meet 68 (.getfield 111) 3 71 := ⟨by decide +kernel, rfl⟩
theorem d_X11_meet_71 : DC mi_X11_meet 71 (.bipush 7) 2 73 := ⟨by decide +kernel, rfl⟩
theorem d_X11_meet_73 : DC mi_X11_meet 73 (.iload 6) 2 75 := ⟨by decide +kernel, rfl⟩
theorem d_X11_meet_75 : DC mi_X11_meet 75 (.iadd) 1 76 := ⟨by decide +kernel, rfl⟩
theorem d_X11_meet_76 : DC mi_X11_meet 76 (.iaload) 1 77 := ⟨by decide +kernel, rfl⟩
theorem d_X11_meet_77 : DC mi_X11_meet 77 (.iadd) 1 78 := ⟨by decide +kernel, rfl⟩
theorem d_X11_meet_78 : DC mi_X11_meet 78 (.iload 5) 2 80 := ⟨by decide +kernel, rfl⟩
theorem d_X11_meet_80 : DB mi_X11_meet 80 (.if_icmp .lt 6) 6 83 86 := ⟨by decide +kernel, rfl, by decide⟩
theorem d_X11_meet_83 : DB mi_X11_meet 83 (.goto 27) 27 86 110 := ⟨by decide +kernel, rfl, by decide⟩
theorem d_X11_meet_86 : DC mi_X11_meet 86 (.aload_n 0) 1 87 := ⟨by decide +kernel, rfl⟩
theorem d_X11_meet_87 : DC mi_X11_meet 87 (.getfield 111) 3 90 := ⟨by decide +kernel, rfl⟩
theorem d_X11_meet_90 : DC mi_X11_meet 90 (.iload 6) 2 92 := ⟨by decide +kernel, rfl⟩
theorem d_X11_meet_92 : DC mi_X11_meet 92 (.iaload) 1 93 := ⟨by decide +kernel, rfl⟩
theorem d_X11_meet_93 : DC mi_X11_meet 93 (.aload_n 0) 1 94 := ⟨by decide +kernel, rfl⟩
theorem d_X11_meet_94 : DC mi_X11_meet 94 (.getfield 111) 3 97 := ⟨by decide +kernel, rfl⟩
theorem d_X11_meet_97 : DC mi_X11_meet 97 (.bipush 7) 2 99 := ⟨by decide +kernel, rfl⟩
theorem d_X11_meet_99 : DC mi_X11_meet 99 (.iload 6) 2 101 := ⟨by decide +kernel, rfl⟩
theorem d_X11_meet_101 : DC mi_X11_meet 101 (.iadd) 1 102 := ⟨by decide +kernel, rfl⟩
theorem d_X11_meet_102 : DC mi_X11_meet 102 (.iaload) 1 103 := ⟨by decide +kernel, rfl⟩
theorem d_X11_meet_103 : DC mi_X11_meet 103 (.iadd) 1 104 := ⟨by decide +kernel, rfl⟩
theorem d_X11_meet_104 : DC mi_X11_meet 104 (.istore 5) 2 106 := ⟨by decide +kernel, rfl⟩
theorem d_X11_meet_106 : DC mi_X11_meet 106 (.iload 6) 2 108 := ⟨by decide +kernel, rfl⟩
theorem d_X11_meet_108 : DC mi_X11_meet 108 (.istore 4) 2 110 := ⟨by decide +kernel, rfl⟩
theorem d_X11_meet_110 : DC mi_X11_meet 110 (.iinc 6 1) 3 113 := ⟨by decide +kernel, rfl⟩
theorem d_X11_meet_113 : DB mi_X11_meet 113 (.goto (-64)) (-64) 116 49 := ⟨by decide +kernel, rfl, by decide⟩
theorem d_X11_meet_116 : DC mi_X11_meet 116 (.iload 4) 2 118 := ⟨by decide +kernel, rfl⟩
theorem d_X11_meet_118 : DB mi_X11_meet 118 (.ifCond .lt 7) 7 121 125 := ⟨by decide +kernel, rfl, by decide⟩
theorem d_X11_meet_121 : DC mi_X11_meet 121 (.iload_n 3) 1 122 := ⟨by decide +kernel, rfl⟩
theorem d_X11_meet_122 : DB mi_X11_meet 122 (.ifCond .ne 8) 8 125 130 := ⟨by decide +kernel, rfl, by decide⟩
theorem d_X11_meet_125 : DC mi_X11_meet 125 (.iload 4) 2 127 := ⟨by decide +kernel, rfl⟩
theorem d_X11_meet_127 : DB mi_X11_meet 127 (.goto 5) 5 130 132 := ⟨by decide +kernel, rfl, by decide⟩
theorem d_X11_meet_130 : DC mi_X11_meet 130 (.iload 5) 2 132 := ⟨by decide +kernel, rfl⟩
theorem d_X11_meet_132 : DC mi_X11_meet 132 (.ireturn) 1 133 := ⟨by decide +kernel, rfl⟩
set_option maxHeartbeats 4000000 in
set_option maxRecDepth 100000 in
theorem sL_X11_meet_49 (d : Nat) (hd : 8 ≤ d) (K116 : Int32 → Int32 → HH → Option (Int32 × HH)) (c3 : Int32) (hK116 : ∀ (z4 : Int32) (z5 : Int32) (h : HH), Sx mi_X11_meet d iI (K116 z4 z5 h) 116 [(3, .int c3), (4, .int z4), (5, .int z5)] [] h) : ∀ (n : Nat) (x4 : Int32) (x5 : Int32) (x6 : Int32) (h : HH), Sx mi_X11_meet d iI (g_X11_meet_L49 K116 c3 n x4 x5 x6 h) 49 [(0, .ref 255), (3, .int c3), (4, .int x4), (5, .int x5), (6, .int x6)] [] h := by
  intro n
  induction n with
  | zero => intro x4 x5 x6 h; exact sx_none
  | succ n ih =>
    intro x4 x5 x6 h
    rw [g_X11_meet_L49]
    refine sx_iload d_X11_meet_49 4 rfl ?_
    refine sx_aload_n d_X11_meet_51 0 rfl ?_
    refine sx_getF (a' := 257) fl_StairCountModel_13 sh_255 rfl rfl d_X11_meet_52 ?_
    refine sx_iconst d_X11_meet_55 ic0 ?_
    refine sx_iald sh_257 d_X11_meet_56 (fun v8 => ?_)
    refine sx_icmp_gt d_X11_meet_57 ?_ ?_
    · refine sx_lc (lc' := [(3, .int c3), (4, .int x4), (5, .int x5)]) [1, 2, 3] rfl ?_
      exact hK116 x4 x5 h
    · refine sx_aload_n d_X11_meet_60 0 rfl ?_
      refine sx_getF (a' := 285) fl_StairCountModel_111 sh_255 rfl rfl d_X11_meet_61 ?_
      refine sx_iload d_X11_meet_64 4 rfl ?_
      refine sx_iald sh_285 d_X11_meet_66 (fun v9 => ?_)
      refine sx_aload_n d_X11_meet_67 0 rfl ?_
      refine sx_getF (a' := 285) fl_StairCountModel_111 sh_255 rfl rfl d_X11_meet_68 ?_
      refine sx_bipush d_X11_meet_71 bc7 ?_
      refine sx_iload d_X11_meet_73 4 rfl ?_
      refine sx_iadd d_X11_meet_75 ?_
      refine sx_iald sh_285 d_X11_meet_76 (fun v10 => ?_)
      refine sx_iadd d_X11_meet_77 ?_
      refine sx_iload d_X11_meet_78 3 rfl ?_
      refine sx_jn (fun j => ∀ (u14 : Int32) (u15 : Int32) (h : HH), Sx mi_X11_meet d iI (j u14 u15 h) 110 [(0, .ref 255), (3, .int c3), (4, .int u14), (5, .int u15), (6, .int x6)] [] h) ?_ ?_
      · intro u14 u15 h13
        refine sx_iincV (lc' := fun v16 => [(6, .int v16), (0, .ref 255), (3, .int c3), (4, .int u14), (5, .int u15)]) (k0 := 4) d_X11_meet_110 rfl ii1 (by decide) (fun _ => rfl) (fun v16 => ?_)
        refine sx_goto d_X11_meet_113 ?_
        refine sx_lc (lc' := [(0, .ref 255), (3, .int c3), (4, .int u14), (5, .int u15), (6, .int v16)]) [1, 2, 3, 4, 0] rfl ?_
        exact ih u14 u15 v16 h13
      · intro j11 k12
        refine sx_icmp_lt d_X11_meet_80 ?_ ?_
        · refine sx_aload_n d_X11_meet_86 0 rfl ?_
          refine sx_getF (a' := 285) fl_StairCountModel_111 sh_255 rfl rfl d_X11_meet_87 ?_
          refine sx_iload d_X11_meet_90 4 rfl ?_
          refine sx_iald sh_285 d_X11_meet_92 (fun v17 => ?_)
          refine sx_aload_n d_X11_meet_93 0 rfl ?_
          refine sx_getF (a' := 285) fl_StairCountModel_111 sh_255 rfl rfl d_X11_meet_94 ?_
          refine sx_bipush d_X11_meet_97 bc7 ?_
          refine sx_iload d_X11_meet_99 4 rfl ?_
          refine sx_iadd d_X11_meet_101 ?_
          refine sx_iald sh_285 d_X11_meet_102 (fun v18 => ?_)
          refine sx_iadd d_X11_meet_103 ?_
          refine sx_vlI (fun v19 => ?_)
          refine sx_istore (i := 5) (lc' := [(5, .int v19), (0, .ref 255), (3, .int c3), (4, .int x4), (6, .int x6)]) d_X11_meet_104 (by decide) rfl ?_
          refine sx_iload d_X11_meet_106 4 rfl ?_
          refine sx_istore (i := 4) (lc' := [(4, .int x6), (5, .int v19), (0, .ref 255), (3, .int c3), (6, .int x6)]) d_X11_meet_108 (by decide) rfl ?_
          refine sx_lc (lc' := [(0, .ref 255), (3, .int c3), (4, .int x6), (5, .int v19), (6, .int x6)]) [2, 3, 0, 1, 4] rfl ?_
          exact k12 x6 v19 h
        · refine sx_goto d_X11_meet_83 ?_
          exact k12 x4 x5 h
set_option maxHeartbeats 4000000 in
set_option maxRecDepth 100000 in
theorem sp_X11_meet (d : Nat) (hd : 8 ≤ d) (a0 : Int32) (a1 : Int32) (a2 : Int32) (h : HH) : Sp mi_X11_meet d iI [.ref 255, .int a0, .int a1, .int a2] h (g_X11_meet a0 a1 a2 h) := by
  refine sp_of (lc := [(0, .ref 255), (1, .int a0), (2, .int a1), (3, .int a2)]) (by decide) (Nat.le_of_ble_eq_true rfl) rfl ?_
  unfold g_X11_meet
  refine sx_aload_n d_X11_meet_0 0 rfl ?_
  refine sx_iconst d_X11_meet_1 ic0 ?_
  refine sx_putI fl_StairCountModel_148 sh_255 rfl hty_11_0 d_X11_meet_2 (fun h1 => ?_)
  refine sx_aload_n d_X11_meet_5 0 rfl ?_
  refine sx_iload_n d_X11_meet_6 1 rfl ?_
  refine sx_iload_n d_X11_meet_7 2 rfl ?_
  refine sx_callV [.int a0, .int a1] mv_X11_areTwo lM_StairCountModel_484 sh_255 (by omega) rfl rfl (Nat.le_of_ble_eq_true rfl) d_X11_meet_8 (sp_X11_areTwo (d - 1) (by omega) a0 a1 h1) (fun r3 h2 => ?_)
  refine sx_if_eq d_X11_meet_11 ?_ ?_
  · refine sx_iconst d_X11_meet_23 icm1 ?_
    exact sx_iret rfl d_X11_meet_24
  · refine sx_iload_n d_X11_meet_14 3 rfl ?_
    refine sx_if_lt d_X11_meet_15 ?_ ?_
    · refine sx_iconst d_X11_meet_23 icm1 ?_
      exact sx_iret rfl d_X11_meet_24
    · refine sx_iload_n d_X11_meet_18 3 rfl ?_
      refine sx_iconst d_X11_meet_19 ic1 ?_
      refine sx_icmp_le d_X11_meet_20 ?_ ?_
      · refine sx_iconst d_X11_meet_23 icm1 ?_
        exact sx_iret rfl d_X11_meet_24
      · refine sx_aload_n d_X11_meet_25 0 rfl ?_
        refine sx_iconst d_X11_meet_26 ic0 ?_
        refine sx_iload_n d_X11_meet_27 1 rfl ?_
        refine sx_callV [.int (0 : Int32), .int a0] mv_X11_laysWays lM_StairCountModel_481 sh_255 (by omega) rfl rfl (Nat.le_of_ble_eq_true rfl) d_X11_meet_28 (sp_X11_laysWays (d - 1) (by omega) (0 : Int32) a0 h2) (fun _ h4 => ?_)
        refine sx_aload_n d_X11_meet_31 0 rfl ?_
        refine sx_iconst d_X11_meet_32 ic1 ?_
        refine sx_iload_n d_X11_meet_33 2 rfl ?_
        refine sx_callV [.int (1 : Int32), .int a1] mv_X11_laysWays lM_StairCountModel_481 sh_255 (by omega) rfl rfl (Nat.le_of_ble_eq_true rfl) d_X11_meet_34 (sp_X11_laysWays (d - 1) (by omega) (1 : Int32) a1 h4) (fun _ h6 => ?_)
        refine sx_bipush d_X11_meet_37 bcm2 ?_
        refine sx_istore (i := 4) (lc' := [(4, .int (-2 : Int32)), (0, .ref 255), (1, .int a0), (2, .int a1), (3, .int a2)]) d_X11_meet_39 (by decide) rfl ?_
        refine sx_ldcw d_X11_meet_41 lK_StairCountModel_476 ?_
        refine sx_istore (i := 5) (lc' := [(5, .int (999999 : Int32)), (4, .int (-2 : Int32)), (0, .ref 255), (1, .int a0), (2, .int a1), (3, .int a2)]) d_X11_meet_44 (by decide) rfl ?_
        refine sx_iconst d_X11_meet_46 ic0 ?_
        refine sx_istore (i := 6) (lc' := [(6, .int (0 : Int32)), (5, .int (999999 : Int32)), (4, .int (-2 : Int32)), (0, .ref 255), (1, .int a0), (2, .int a1), (3, .int a2)]) d_X11_meet_47 (by decide) rfl ?_
        refine sx_lc (lc' := [(0, .ref 255), (3, .int a2), (4, .int (-2 : Int32)), (5, .int (999999 : Int32)), (6, .int (0 : Int32))]) [3, 6, 2, 1, 0] rfl ?_
        refine sL_X11_meet_49 d hd _ a2 ?_ 1024 (-2 : Int32) (999999 : Int32) (0 : Int32) h6
        · intro z21 z22 h20
          refine sx_iload d_X11_meet_116 1 rfl ?_
          refine sx_if_lt d_X11_meet_118 ?_ ?_
          · refine sx_iload d_X11_meet_125 1 rfl ?_
            refine sx_goto d_X11_meet_127 ?_
            exact sx_iret rfl d_X11_meet_132
          · refine sx_iload_n d_X11_meet_121 0 rfl ?_
            refine sx_if_ne d_X11_meet_122 ?_ ?_
            · refine sx_iload d_X11_meet_125 1 rfl ?_
              refine sx_goto d_X11_meet_127 ?_
              exact sx_iret rfl d_X11_meet_132
            · refine sx_iload d_X11_meet_130 2 rfl ?_
              exact sx_iret rfl d_X11_meet_132
theorem d_X11_steepest_0 : DC mi_X11_steepest 0 (.aload_n 0) 1 1 := ⟨by decide +kernel, rfl⟩
theorem d_X11_steepest_1 : DC mi_X11_steepest 1 (.iconst 0) 1 2 := ⟨by decide +kernel, rfl⟩
theorem d_X11_steepest_2 : DC mi_X11_steepest 2 (.putfield 148) 3 5 := ⟨by decide +kernel, rfl⟩
theorem d_X11_steepest_5 : DC mi_X11_steepest 5 (.aload_n 0) 1 6 := ⟨by decide +kernel, rfl⟩
theorem d_X11_steepest_6 : DC mi_X11_steepest 6 (.iload_n 1) 1 7 := ⟨by decide +kernel, rfl⟩
theorem d_X11_steepest_7 : DC mi_X11_steepest 7 (.invokevirtual 346) 3 10 := ⟨by decide +kernel, rfl⟩
theorem d_X11_steepest_10 : DB mi_X11_steepest 10 (.ifCond .ne 5) 5 13 15 := ⟨by decide +kernel, rfl, by decide⟩
theorem d_X11_steepest_13 : DC mi_X11_steepest 13 (.iconst (-1)) 1 14 := ⟨by decide +kernel, rfl⟩
theorem d_X11_steepest_14 : DC mi_X11_steepest 14 (.ireturn) 1 15 := ⟨by decide +kernel, rfl⟩
theorem d_X11_steepest_15 : DC mi_X11_steepest 15 (.bipush (-2)) 2 17 := ⟨by decide +kernel, rfl⟩
theorem d_X11_steepest_17 : DC mi_X11_steepest 17 (.istore_n 2) 1 18 := ⟨by decide +kernel, rfl⟩
theorem d_X11_steepest_18 : DC mi_X11_steepest 18 (.iconst 0) 1 19 := ⟨by decide +kernel, rfl⟩
theorem d_X11_steepest_19 : DC mi_X11_steepest 19 (.istore_n 3) 1 20 := ⟨by decide +kernel, rfl⟩
theorem d_X11_steepest_20 : DC mi_X11_steepest 20 (.iload_n 3) 1 21 := ⟨by decide +kernel, rfl⟩
theorem d_X11_steepest_21 : DC mi_X11_steepest 21 (.aload_n 0) 1 22 := ⟨by decide +kernel, rfl⟩
theorem d_X11_steepest_22 : DC mi_X11_steepest 22 (.getfield 13) 3 25 := ⟨by decide +kernel, rfl⟩
theorem d_X11_steepest_25 : DC mi_X11_steepest 25 (.iconst 0) 1 26 := ⟨by decide +kernel, rfl⟩
theorem d_X11_steepest_26 : DC mi_X11_steepest 26 (.iaload) 1 27 := ⟨by decide +kernel, rfl⟩
theorem d_X11_steepest_27 : DB mi_X11_steepest 27 (.if_icmp .ge 32) 32 30 59 := ⟨by decide +kernel, rfl, by decide⟩
theorem d_X11_steepest_30 : DC mi_X11_steepest 30 (.iload_n 2) 1 31 := ⟨by decide +kernel, rfl⟩
theorem d_X11_steepest_31 : DB mi_X11_steepest 31 (.ifCond .lt 20) 20 34 51 := ⟨by decide +kernel, rfl, by decide⟩
theorem d_X11_steepest_34 : DC mi_X11_steepest 34 (.aload_n 0) 1 35 := ⟨by decide +kernel, rfl⟩
theorem d_X11_steepest_35 : DC mi_X11_steepest 35 (.iconst 0) 1 36 := ⟨by decide +kernel, rfl⟩
theorem d_X11_steepest_36 : DC mi_X11_steepest 36 (.iload_n 1) 1 37 := ⟨by decide +kernel, rfl⟩
theorem d_X11_steepest_37 : DC mi_X11_steepest 37 (.iload_n 3) 1 38 := ⟨by decide +kernel, rfl⟩
theorem d_X11_steepest_38 : DC mi_X11_steepest 38 (.invokevirtual 389) 3 41 := ⟨by decide +kernel, rfl⟩
theorem d_X11_steepest_41 : DC mi_X11_steepest 41 (.aload_n 0) 1 42 := ⟨by decide +kernel, rfl⟩
theorem d_X11_steepest_42 : DC mi_X11_steepest 42 (.iconst 0) 1 43 := ⟨by decide +kernel, rfl⟩
theorem d_X11_steepest_43 : DC mi_X11_steepest 43 (.iload_n 1) 1 44 := ⟨by decide +kernel, rfl⟩
theorem d_X11_steepest_44 : DC mi_X11_steepest 44 (.iload_n 2) 1 45 := ⟨by decide +kernel, rfl⟩
theorem d_X11_steepest_45 : DC mi_X11_steepest 45 (.invokevirtual 389) 3 48 := ⟨by decide +kernel, rfl⟩
theorem d_X11_steepest_48 : DB mi_X11_steepest 48 (.if_icmp .le 5) 5 51 53 := ⟨by decide +kernel, rfl, by decide⟩
theorem d_X11_steepest_51 : DC mi_X11_steepest 51 (.iload_n 3) 1 52 := ⟨by decide +kernel, rfl⟩
theorem d_X11_steepest_52 : DC mi_X11_steepest 52 (.istore_n 2) 1 53 := ⟨by decide +kernel, rfl⟩
theorem d_X11_steepest_53 : DC mi_X11_steepest 53 (.iinc 3 1) 3 56 := ⟨by decide +kernel, rfl⟩
theorem d_X11_steepest_56 : DB mi_X11_steepest 56 (.goto (-36)) (-36) 59 20 := ⟨by decide +kernel, rfl, by decide⟩
theorem d_X11_steepest_59 : DC mi_X11_steepest 59 (.iload_n 2) 1 60 := ⟨by decide +kernel, rfl⟩
theorem d_X11_steepest_60 : DC mi_X11_steepest 60 (.ireturn) 1 61 := ⟨by decide +kernel, rfl⟩
set_option maxHeartbeats 4000000 in
set_option maxRecDepth 100000 in
theorem sL_X11_steepest_20 (d : Nat) (hd : 6 ≤ d) (c1 : Int32) : ∀ (n : Nat) (x2 : Int32) (x3 : Int32) (h : HH), Sx mi_X11_steepest d iI (g_X11_steepest_L20 c1 n x2 x3 h) 20 [(0, .ref 255), (1, .int c1), (2, .int x2), (3, .int x3)] [] h := by
  intro n
  induction n with
  | zero => intro x2 x3 h; exact sx_none
  | succ n ih =>
    intro x2 x3 h
    rw [g_X11_steepest_L20]
    refine sx_iload_n d_X11_steepest_20 3 rfl ?_
    refine sx_aload_n d_X11_steepest_21 0 rfl ?_
    refine sx_getF (a' := 257) fl_StairCountModel_13 sh_255 rfl rfl d_X11_steepest_22 ?_
    refine sx_iconst d_X11_steepest_25 ic0 ?_
    refine sx_iald sh_257 d_X11_steepest_26 (fun v4 => ?_)
    refine sx_icmp_ge d_X11_steepest_27 ?_ ?_
    · refine sx_iload_n d_X11_steepest_30 2 rfl ?_
      refine sx_jn (fun j => ∀ (u8 : Int32) (h : HH), Sx mi_X11_steepest d iI (j u8 h) 53 [(0, .ref 255), (1, .int c1), (2, .int u8), (3, .int x3)] [] h) ?_ ?_
      · intro u8 h7
        refine sx_iincV (lc' := fun v9 => [(3, .int v9), (0, .ref 255), (1, .int c1), (2, .int u8)]) (k0 := 3) d_X11_steepest_53 rfl ii1 (by decide) (fun _ => rfl) (fun v9 => ?_)
        refine sx_goto d_X11_steepest_56 ?_
        refine sx_lc (lc' := [(0, .ref 255), (1, .int c1), (2, .int u8), (3, .int v9)]) [1, 2, 3, 0] rfl ?_
        exact ih u8 v9 h7
      · intro j5 k6
        refine sx_jn (fun j => ∀  (h : HH), Sx mi_X11_steepest d iI (j  h) 51 [(0, .ref 255), (1, .int c1), (3, .int x3)] [] h) ?_ ?_
        · intro  h12
          refine sx_iload_n d_X11_steepest_51 2 rfl ?_
          refine sx_istore_n (i := 2) (lc' := [(2, .int x3), (0, .ref 255), (1, .int c1), (3, .int x3)]) d_X11_steepest_52 rfl (by decide) rfl ?_
          refine sx_lc (lc' := [(0, .ref 255), (1, .int c1), (2, .int x3), (3, .int x3)]) [1, 2, 0, 3] rfl ?_
          exact k6 x3 h12
        · intro j10 k11
          refine sx_if_lt d_X11_steepest_31 ?_ ?_
          · refine sx_lc (lc' := [(0, .ref 255), (1, .int c1), (3, .int x3)]) [0, 1, 3] rfl ?_
            exact k11 h
          · refine sx_aload_n d_X11_steepest_34 0 rfl ?_
            refine sx_iconst d_X11_steepest_35 ic0 ?_
            refine sx_iload_n d_X11_steepest_36 1 rfl ?_
            refine sx_iload_n d_X11_steepest_37 3 rfl ?_
            refine sx_callV [.int (0 : Int32), .int c1, .int x3] mv_X11_steepOf lM_StairCountModel_389 sh_255 (by omega) rfl rfl (Nat.le_of_ble_eq_true rfl) d_X11_steepest_38 (sp_X11_steepOf (d - 1) (by omega) (0 : Int32) c1 x3 h) (fun r14 h13 => ?_)
            refine sx_aload_n d_X11_steepest_41 0 rfl ?_
            refine sx_iconst d_X11_steepest_42 ic0 ?_
            refine sx_iload_n d_X11_steepest_43 1 rfl ?_
            refine sx_iload_n d_X11_steepest_44 2 rfl ?_
            refine sx_callV [.int (0 : Int32), .int c1, .int x2] mv_X11_steepOf lM_StairCountModel_389 sh_255 (by omega) rfl rfl (Nat.le_of_ble_eq_true rfl) d_X11_steepest_45 (sp_X11_steepOf (d - 1) (by omega) (0 : Int32) c1 x2 h13) (fun r16 h15 => ?_)
            refine sx_icmp_le d_X11_steepest_48 ?_ ?_
            · refine sx_lc (lc' := [(0, .ref 255), (1, .int c1), (3, .int x3)]) [0, 1, 3] rfl ?_
              exact k11 h15
            · exact k6 x2 h15
    · refine sx_iload_n d_X11_steepest_59 2 rfl ?_
      exact sx_iret rfl d_X11_steepest_60
set_option maxHeartbeats 4000000 in
set_option maxRecDepth 100000 in
theorem sp_X11_steepest (d : Nat) (hd : 6 ≤ d) (a0 : Int32) (h : HH) : Sp mi_X11_steepest d iI [.ref 255, .int a0] h (g_X11_steepest a0 h) := by
  refine sp_of (lc := [(0, .ref 255), (1, .int a0)]) (by decide) (Nat.le_of_ble_eq_true rfl) rfl ?_
  unfold g_X11_steepest
  refine sx_aload_n d_X11_steepest_0 0 rfl ?_
  refine sx_iconst d_X11_steepest_1 ic0 ?_
  refine sx_putI fl_StairCountModel_148 sh_255 rfl hty_11_0 d_X11_steepest_2 (fun h1 => ?_)
  refine sx_aload_n d_X11_steepest_5 0 rfl ?_
  refine sx_iload_n d_X11_steepest_6 1 rfl ?_
  refine sx_callV [.int a0] mv_X11_isPerson lM_StairCountModel_346 sh_255 (by omega) rfl rfl (Nat.le_of_ble_eq_true rfl) d_X11_steepest_7 (sp_X11_isPerson (d - 1) (by omega) a0 h1) (fun r3 h2 => ?_)
  refine sx_if_ne d_X11_steepest_10 ?_ ?_
  · refine sx_iconst d_X11_steepest_13 icm1 ?_
    exact sx_iret rfl d_X11_steepest_14
  · refine sx_bipush d_X11_steepest_15 bcm2 ?_
    refine sx_istore_n (i := 2) (lc' := [(2, .int (-2 : Int32)), (0, .ref 255), (1, .int a0)]) d_X11_steepest_17 rfl (by decide) rfl ?_
    refine sx_iconst d_X11_steepest_18 ic0 ?_
    refine sx_istore_n (i := 3) (lc' := [(3, .int (0 : Int32)), (2, .int (-2 : Int32)), (0, .ref 255), (1, .int a0)]) d_X11_steepest_19 rfl (by decide) rfl ?_
    refine sx_lc (lc' := [(0, .ref 255), (1, .int a0), (2, .int (-2 : Int32)), (3, .int (0 : Int32))]) [2, 3, 1, 0] rfl ?_
    refine sL_X11_steepest_20 d hd a0 1024 (-2 : Int32) (0 : Int32) h2
theorem d_X11_wall_0 : DC mi_X11_wall 0 (.aload_n 0) 1 1 := ⟨by decide +kernel, rfl⟩
theorem d_X11_wall_1 : DC mi_X11_wall 1 (.iconst 0) 1 2 := ⟨by decide +kernel, rfl⟩
theorem d_X11_wall_2 : DC mi_X11_wall 2 (.putfield 148) 3 5 := ⟨by decide +kernel, rfl⟩
theorem d_X11_wall_5 : DC mi_X11_wall 5 (.iconst 0) 1 6 := ⟨by decide +kernel, rfl⟩
theorem d_X11_wall_6 : DC mi_X11_wall 6 (.istore_n 1) 1 7 := ⟨by decide +kernel, rfl⟩
theorem d_X11_wall_7 : DC mi_X11_wall 7 (.iconst 0) 1 8 := ⟨by decide +kernel, rfl⟩
theorem d_X11_wall_8 : DC mi_X11_wall 8 (.istore_n 2) 1 9 := ⟨by decide +kernel, rfl⟩
theorem d_X11_wall_9 : DC mi_X11_wall 9 (.iload_n 2) 1 10 := ⟨by decide +kernel, rfl⟩
theorem d_X11_wall_10 : DC mi_X11_wall 10 (.aload_n 0) 1 11 := ⟨by decide +kernel, rfl⟩
theorem d_X11_wall_11 : DC mi_X11_wall 11 (.getfield 13) 3 14 := ⟨by decide +kernel, rfl⟩
theorem d_X11_wall_14 : DC mi_X11_wall 14 (.iconst 0) 1 15 := ⟨by decide +kernel, rfl⟩
theorem d_X11_wall_15 : DC mi_X11_wall 15 (.iaload) 1 16 := ⟨by decide +kernel, rfl⟩
theorem d_X11_wall_16 : DB mi_X11_wall 16 (.if_icmp .ge 71) 71 19 87 := ⟨by decide +kernel, rfl, by decide⟩
theorem d_X11_wall_19 : DC mi_X11_wall 19 (.iconst 1) 1 20 := ⟨by decide +kernel, rfl⟩
theorem d_X11_wall_20 : DC mi_X11_wall 20 (.istore_n 3) 1 21 := ⟨by decide +kernel, rfl⟩
theorem d_X11_wall_21 : DC mi_X11_wall 21 (.iconst 0) 1 22 := ⟨by decide +kernel, rfl⟩
theorem d_X11_wall_22 : DC mi_X11_wall 22 (.istore 4) 2 24 := ⟨by decide +kernel, rfl⟩
theorem d_X11_wall_24 : DC mi_X11_wall 24 (.iload 4) 2 26 := ⟨by decide +kernel, rfl⟩
theorem d_X11_wall_26 : DC mi_X11_wall 26 (.aload_n 0) 1 27 := ⟨by decide +kernel, rfl⟩
theorem d_X11_wall_27 : DC mi_X11_wall 27 (.getfield 13) 3 30 := ⟨by decide +kernel, rfl⟩
theorem d_X11_wall_30 : DC mi_X11_wall 30 (.iconst 1) 1 31 := ⟨by decide +kernel, rfl⟩
theorem d_X11_wall_31 : DC mi_X11_wall 31 (.iaload) 1 32 := ⟨by decide +kernel, rfl⟩
theorem d_X11_wall_32 : DB mi_X11_wall 32 (.if_icmp .ge 35) 35 35 67 := ⟨by decide +kernel, rfl, by decide⟩
theorem d_X11_wall_35 : DC mi_X11_wall 35 (.iload_n 3) 1 36 := ⟨by decide +kernel, rfl⟩
theorem d_X11_wall_36 : DC mi_X11_wall 36 (.aload_n 0) 1 37 := ⟨by decide +kernel, rfl⟩
theorem d_X11_wall_37 : DC mi_X11_wall 37 (.iconst 0) 1 38 := ⟨by decide +kernel, rfl⟩
theorem d_X11_wall_38 : DC mi_X11_wall 38 (.iload 4) 2 40 := ⟨by decide +kernel, rfl⟩
theorem d_X11_wall_40 : DC mi_X11_wall 40 (.iload_n 2) 1 41 := ⟨by decide +kernel, rfl⟩
theorem d_X11_wall_41 : DC mi_X11_wall 41 (.invokevirtual 389) 3 44 := ⟨by decide +kernel, rfl⟩
theorem d_X11_wall_44 : DC mi_X11_wall 44 (.aload_n 0) 1 45 := ⟨by decide +kernel, rfl⟩
theorem d_X11_wall_45 : DC mi_X11_wall 45 (.getfield 25) 3 48 := ⟨by decide +kernel, rfl⟩
theorem d_X11_wall_48 : DC mi_X11_wall 48 (.iload 4) 2 50 := ⟨by decide +kernel, rfl⟩
theorem d_X11_wall_50 : DC mi_X11_wall 50 (.iaload) 1 51 := ⟨by decide +kernel, rfl⟩
theorem d_X11_wall_51 : DB mi_X11_wall 51 (.if_icmp .le 7) 7 54 58 := ⟨by decide +kernel, rfl, by decide⟩
theorem d_X11_wall_54 : DC mi_X11_wall 54 (.iconst 1) 1 55 := ⟨by decide +kernel, rfl⟩
theorem d_X11_wall_55 : DB mi_X11_wall 55 (.goto 4) 4 58 59 := ⟨by decide +kernel, rfl, by decide⟩
theorem d_X11_wall_58 : DC mi_X11_wall 58 (.iconst 0) 1 59 := ⟨by decide +kernel, rfl⟩
theorem d_X11_wall_59 : DC mi_X11_wall 59 (.iand) 1 60 := ⟨by decide +kernel, rfl⟩
theorem d_X11_wall_60 : DC mi_X11_wall 60 (.istore_n 3) 1 61 := ⟨by decide +kernel, rfl⟩
theorem d_X11_wall_61 : DC mi_X11_wall 61 (.iinc 4 1) 3 64 := ⟨by decide +kernel, rfl⟩
theorem d_X11_wall_64 : DB mi_X11_wall 64 (.goto (-40)) (-40) 67 24 := ⟨by decide +kernel, rfl, by decide⟩
theorem d_X11_wall_67 : DC mi_X11_wall 67 (.iload_n 1) 1 68 := ⟨by decide +kernel, rfl⟩
theorem d_X11_wall_68 : DC mi_X11_wall 68 (.iload_n 3) 1 69 := ⟨by decide +kernel, rfl⟩
theorem d_X11_wall_69 : DB mi_X11_wall 69 (.ifCond .eq 9) 9 72 78 := ⟨by decide +kernel, rfl, by decide⟩
theorem d_X11_wall_72 : DC mi_X11_wall 72 (.iconst 1) 1 73 := ⟨by decide +kernel, rfl⟩
theorem d_X11_wall_73 : DC mi_X11_wall 73 (.iload_n 2) 1 74 := ⟨by decide +kernel, rfl⟩
theorem d_X11_wall_74 : DC mi_X11_wall 74 (.ishl) 1 75 := ⟨by decide +kernel, rfl⟩
theorem d_X11_wall_75 : DB mi_X11_wall 75 (.goto 4) 4 78 79 := ⟨by decide +kernel, rfl, by decide⟩
theorem d_X11_wall_78 : DC mi_X11_wall 78 (.iconst 0) 1 79 := ⟨by decide +kernel, rfl⟩
theorem d_X11_wall_79 : DC mi_X11_wall 79 (.ior) 1 80 := ⟨by decide +kernel, rfl⟩
theorem d_X11_wall_80 : DC mi_X11_wall 80 (.istore_n 1) 1 81 := ⟨by decide +kernel, rfl⟩
theorem d_X11_wall_81 : DC mi_X11_wall 81 (.iinc 2 1) 3 84 := ⟨by decide +kernel, rfl⟩
theorem d_X11_wall_84 : DB mi_X11_wall 84 (.goto (-75)) (-75) 87 9 := ⟨by decide +kernel, rfl, by decide⟩
theorem d_X11_wall_87 : DC mi_X11_wall 87 (.iload_n 1) 1 88 := ⟨by decide +kernel, rfl⟩
theorem d_X11_wall_88 : DC mi_X11_wall 88 (.ireturn) 1 89 := ⟨by decide +kernel, rfl⟩
set_option maxHeartbeats 4000000 in
set_option maxRecDepth 100000 in
theorem sL_X11_wall_24 (d : Nat) (hd : 6 ≤ d) (K67 : Int32 → HH → Option (Int32 × HH)) (c1 : Int32) (c2 : Int32) (hK67 : ∀ (z3 : Int32) (h : HH), Sx mi_X11_wall d iI (K67 z3 h) 67 [(0, .ref 255), (1, .int c1), (2, .int c2), (3, .int z3)] [] h) : ∀ (n : Nat) (x3 : Int32) (x4 : Int32) (h : HH), Sx mi_X11_wall d iI (g_X11_wall_L24 K67 c1 c2 n x3 x4 h) 24 [(0, .ref 255), (1, .int c1), (2, .int c2), (3, .int x3), (4, .int x4)] [] h := by
  intro n
  induction n with
  | zero => intro x3 x4 h; exact sx_none
  | succ n ih =>
    intro x3 x4 h
    rw [g_X11_wall_L24]
    refine sx_iload d_X11_wall_24 4 rfl ?_
    refine sx_aload_n d_X11_wall_26 0 rfl ?_
    refine sx_getF (a' := 257) fl_StairCountModel_13 sh_255 rfl rfl d_X11_wall_27 ?_
    refine sx_iconst d_X11_wall_30 ic1 ?_
    refine sx_iald sh_257 d_X11_wall_31 (fun v3 => ?_)
    refine sx_icmp_ge d_X11_wall_32 ?_ ?_
    · refine sx_iload_n d_X11_wall_35 3 rfl ?_
      refine sx_aload_n d_X11_wall_36 0 rfl ?_
      refine sx_iconst d_X11_wall_37 ic0 ?_
      refine sx_iload d_X11_wall_38 4 rfl ?_
      refine sx_iload_n d_X11_wall_40 2 rfl ?_
      refine sx_callV [.int (0 : Int32), .int x4, .int c2] mv_X11_steepOf lM_StairCountModel_389 sh_255 (by omega) rfl rfl (Nat.le_of_ble_eq_true rfl) d_X11_wall_41 (sp_X11_steepOf (d - 1) (by omega) (0 : Int32) x4 c2 h) (fun r5 h4 => ?_)
      refine sx_aload_n d_X11_wall_44 0 rfl ?_
      refine sx_getF (a' := 261) fl_StairCountModel_25 sh_255 rfl rfl d_X11_wall_45 ?_
      refine sx_iload d_X11_wall_48 4 rfl ?_
      refine sx_iald sh_261 d_X11_wall_50 (fun v6 => ?_)
      refine sx_jn (fun j => ∀ (y10 : Int32) (h : HH), Sx mi_X11_wall d iI (j y10 h) 59 [(0, .ref 255), (1, .int c1), (2, .int c2), (4, .int x4)] [.int y10, .int x3] h) ?_ ?_
      · intro y10 h9
        refine sx_iand d_X11_wall_59 ?_
        refine sx_vlI (fun v11 => ?_)
        refine sx_istore_n (i := 3) (lc' := [(3, .int v11), (0, .ref 255), (1, .int c1), (2, .int c2), (4, .int x4)]) d_X11_wall_60 rfl (by decide) rfl ?_
        refine sx_iincV (lc' := fun v12 => [(4, .int v12), (3, .int v11), (0, .ref 255), (1, .int c1), (2, .int c2)]) (k0 := 4) d_X11_wall_61 rfl ii1 (by decide) (fun _ => rfl) (fun v12 => ?_)
        refine sx_goto d_X11_wall_64 ?_
        refine sx_lc (lc' := [(0, .ref 255), (1, .int c1), (2, .int c2), (3, .int v11), (4, .int v12)]) [2, 3, 4, 1, 0] rfl ?_
        exact ih v11 v12 h9
      · intro j7 k8
        refine sx_icmp_le d_X11_wall_51 ?_ ?_
        · refine sx_iconst d_X11_wall_54 ic1 ?_
          refine sx_goto d_X11_wall_55 ?_
          refine sx_lc (lc' := [(0, .ref 255), (1, .int c1), (2, .int c2), (4, .int x4)]) [0, 1, 2, 4] rfl ?_
          exact k8 (1 : Int32) h4
        · refine sx_iconst d_X11_wall_58 ic0 ?_
          refine sx_lc (lc' := [(0, .ref 255), (1, .int c1), (2, .int c2), (4, .int x4)]) [0, 1, 2, 4] rfl ?_
          exact k8 (0 : Int32) h4
    · refine sx_lc (lc' := [(0, .ref 255), (1, .int c1), (2, .int c2), (3, .int x3)]) [0, 1, 2, 3] rfl ?_
      exact hK67 x3 h
set_option maxHeartbeats 4000000 in
set_option maxRecDepth 100000 in
theorem sL_X11_wall_9 (d : Nat) (hd : 6 ≤ d) : ∀ (n : Nat) (x1 : Int32) (x2 : Int32) (h : HH), Sx mi_X11_wall d iI (g_X11_wall_L9 n x1 x2 h) 9 [(0, .ref 255), (1, .int x1), (2, .int x2)] [] h := by
  intro n
  induction n with
  | zero => intro x1 x2 h; exact sx_none
  | succ n ih =>
    intro x1 x2 h
    rw [g_X11_wall_L9]
    refine sx_iload_n d_X11_wall_9 2 rfl ?_
    refine sx_aload_n d_X11_wall_10 0 rfl ?_
    refine sx_getF (a' := 257) fl_StairCountModel_13 sh_255 rfl rfl d_X11_wall_11 ?_
    refine sx_iconst d_X11_wall_14 ic0 ?_
    refine sx_iald sh_257 d_X11_wall_15 (fun v2 => ?_)
    refine sx_icmp_ge d_X11_wall_16 ?_ ?_
    · refine sx_iconst d_X11_wall_19 ic1 ?_
      refine sx_istore_n (i := 3) (lc' := [(3, .int (1 : Int32)), (0, .ref 255), (1, .int x1), (2, .int x2)]) d_X11_wall_20 rfl (by decide) rfl ?_
      refine sx_iconst d_X11_wall_21 ic0 ?_
      refine sx_istore (i := 4) (lc' := [(4, .int (0 : Int32)), (3, .int (1 : Int32)), (0, .ref 255), (1, .int x1), (2, .int x2)]) d_X11_wall_22 (by decide) rfl ?_
      refine sx_lc (lc' := [(0, .ref 255), (1, .int x1), (2, .int x2), (3, .int (1 : Int32)), (4, .int (0 : Int32))]) [2, 3, 4, 1, 0] rfl ?_
      refine sL_X11_wall_24 d hd _ x1 x2 ?_ 1024 (1 : Int32) (0 : Int32) h
      · intro z14 h13
        refine sx_iload_n d_X11_wall_67 1 rfl ?_
        refine sx_iload_n d_X11_wall_68 3 rfl ?_
        refine sx_jn (fun j => ∀ (y18 : Int32) (h : HH), Sx mi_X11_wall d iI (j y18 h) 79 [(0, .ref 255), (2, .int x2)] [.int y18, .int x1] h) ?_ ?_
        · intro y18 h17
          refine sx_ior d_X11_wall_79 ?_
          refine sx_vlI (fun v19 => ?_)
          refine sx_istore_n (i := 1) (lc' := [(1, .int v19), (0, .ref 255), (2, .int x2)]) d_X11_wall_80 rfl (by decide) rfl ?_
          refine sx_iincV (lc' := fun v20 => [(2, .int v20), (1, .int v19), (0, .ref 255)]) (k0 := 2) d_X11_wall_81 rfl ii1 (by decide) (fun _ => rfl) (fun v20 => ?_)
          refine sx_goto d_X11_wall_84 ?_
          refine sx_lc (lc' := [(0, .ref 255), (1, .int v19), (2, .int v20)]) [2, 1, 0] rfl ?_
          exact ih v19 v20 h17
        · intro j15 k16
          refine sx_if_eq d_X11_wall_69 ?_ ?_
          · refine sx_iconst d_X11_wall_78 ic0 ?_
            refine sx_lc (lc' := [(0, .ref 255), (2, .int x2)]) [0, 2] rfl ?_
            exact k16 (0 : Int32) h13
          · refine sx_iconst d_X11_wall_72 ic1 ?_
            refine sx_iload_n d_X11_wall_73 2 rfl ?_
            refine sx_ishl d_X11_wall_74 ?_
            refine sx_goto d_X11_wall_75 ?_
            refine sx_lc (lc' := [(0, .ref 255), (2, .int x2)]) [0, 2] rfl ?_
            exact k16 ((1 : Int32) <<< (x2 &&& 31)) h13
    · refine sx_iload_n d_X11_wall_87 1 rfl ?_
      exact sx_iret rfl d_X11_wall_88
set_option maxHeartbeats 4000000 in
set_option maxRecDepth 100000 in
theorem sp_X11_wall (d : Nat) (hd : 6 ≤ d) (h : HH) : Sp mi_X11_wall d iI [.ref 255] h (g_X11_wall h) := by
  refine sp_of (lc := [(0, .ref 255)]) (by decide) (Nat.le_of_ble_eq_true rfl) rfl ?_
  unfold g_X11_wall
  refine sx_aload_n d_X11_wall_0 0 rfl ?_
  refine sx_iconst d_X11_wall_1 ic0 ?_
  refine sx_putI fl_StairCountModel_148 sh_255 rfl hty_11_0 d_X11_wall_2 (fun h1 => ?_)
  refine sx_iconst d_X11_wall_5 ic0 ?_
  refine sx_istore_n (i := 1) (lc' := [(1, .int (0 : Int32)), (0, .ref 255)]) d_X11_wall_6 rfl (by decide) rfl ?_
  refine sx_iconst d_X11_wall_7 ic0 ?_
  refine sx_istore_n (i := 2) (lc' := [(2, .int (0 : Int32)), (1, .int (0 : Int32)), (0, .ref 255)]) d_X11_wall_8 rfl (by decide) rfl ?_
  refine sx_lc (lc' := [(0, .ref 255), (1, .int (0 : Int32)), (2, .int (0 : Int32))]) [2, 1, 0] rfl ?_
  refine sL_X11_wall_9 d hd  1024 (0 : Int32) (0 : Int32) h1
theorem d_X11_hasOf_0 : DC mi_X11_hasOf 0 (.iload_n 3) 1 1 := ⟨by decide +kernel, rfl⟩
theorem d_X11_hasOf_1 : DC mi_X11_hasOf 1 (.iconst 1) 1 2 := ⟨by decide +kernel, rfl⟩
theorem d_X11_hasOf_2 : DB mi_X11_hasOf 2 (.if_icmp .ne 14) 14 5 16 := ⟨by decide +kernel, rfl, by decide⟩
theorem d_X11_hasOf_5 : DC mi_X11_hasOf 5 (.iload 4) 2 7 := ⟨by decide +kernel, rfl⟩
theorem d_X11_hasOf_7 : DB mi_X11_hasOf 7 (.ifCond .ne 7) 7 10 14 := ⟨by decide +kernel, rfl, by decide⟩
theorem d_X11_hasOf_10 : DC mi_X11_hasOf 10 (.iconst 2) 1 11 := ⟨by decide +kernel, rfl⟩
theorem d_X11_hasOf_11 : DB mi_X11_hasOf 11 (.goto 4) 4 14 15 := ⟨by decide +kernel, rfl, by decide⟩
theorem d_X11_hasOf_14 : DC mi_X11_hasOf 14 (.iconst 1) 1 15 := ⟨by decide +kernel, rfl⟩
theorem d_X11_hasOf_15 : DC mi_X11_hasOf 15 (.ireturn) 1 16 := ⟨by decide +kernel, rfl⟩
theorem d_X11_hasOf_16 : DC mi_X11_hasOf 16 (.aload_n 0) 1 17 := ⟨by decide +kernel, rfl⟩
theorem d_X11_hasOf_17 : DC mi_X11_hasOf 17 (.getfield 25) 3 20 := ⟨by decide +kernel, rfl⟩
theorem d_X11_hasOf_20 : DC mi_X11_hasOf 20 (.iload_n 1) 1 21 := ⟨by decide +kernel, rfl⟩
theorem d_X11_hasOf_21 : DC mi_X11_hasOf 21 (.iaload) 1 22 := ⟨by decide +kernel, rfl⟩
theorem d_X11_hasOf_22 : DC mi_X11_hasOf 22 (.aload_n 0) 1 23 := ⟨by decide +kernel, rfl⟩
theorem d_X11_hasOf_23 : DC mi_X11_hasOf 23 (.iconst 0) 1 24 := ⟨by decide +kernel, rfl⟩
theorem d_X11_hasOf_24 : DC mi_X11_hasOf 24 (.iload_n 1) 1 25 := ⟨by decide +kernel, rfl⟩
theorem d_X11_hasOf_25 : DC mi_X11_hasOf 25 (.iload_n 2) 1 26 := ⟨by decide +kernel, rfl⟩
theorem d_X11_hasOf_26 : DC mi_X11_hasOf 26 (.invokevirtual 389) 3 29 := ⟨by decide +kernel, rfl⟩
theorem d_X11_hasOf_29 : DC mi_X11_hasOf 29 (.isub) 1 30 := ⟨by decide +kernel, rfl⟩
theorem d_X11_hasOf_30 : DC mi_X11_hasOf 30 (.istore 5) 2 32 := ⟨by decide +kernel, rfl⟩
theorem d_X11_hasOf_32 : DC mi_X11_hasOf 32 (.iload 4) 2 34 := ⟨by decide +kernel, rfl⟩
theorem d_X11_hasOf_34 : DB mi_X11_hasOf 34 (.ifCond .ne 10) 10 37 44 := ⟨by decide +kernel, rfl, by decide⟩
theorem d_X11_hasOf_37 : DC mi_X11_hasOf 37 (.iload 5) 2 39 := ⟨by decide +kernel, rfl⟩
theorem d_X11_hasOf_39 : DC mi_X11_hasOf 39 (.iconst 2) 1 40 := ⟨by decide +kernel, rfl⟩
theorem d_X11_hasOf_40 : DC mi_X11_hasOf 40 (.idiv) 1 41 := ⟨by decide +kernel, rfl⟩
theorem d_X11_hasOf_41 : DB mi_X11_hasOf 41 (.goto 5) 5 44 46 := ⟨by decide +kernel, rfl, by decide⟩
theorem d_X11_hasOf_44 : DC mi_X11_hasOf 44 (.iload 5) 2 46 := ⟨by decide +kernel, rfl⟩
theorem d_X11_hasOf_46 : DC mi_X11_hasOf 46 (.ireturn) 1 47 := ⟨by decide +kernel, rfl⟩
set_option maxHeartbeats 4000000 in
set_option maxRecDepth 100000 in
theorem sp_X11_hasOf (d : Nat) (hd : 6 ≤ d) (a0 : Int32) (a1 : Int32) (a2 : Int32) (a3 : Int32) (h : HH) : Sp mi_X11_hasOf d iI [.ref 255, .int a0, .int a1, .int a2, .int a3] h (g_X11_hasOf a0 a1 a2 a3 h) := by
  refine sp_of (lc := [(0, .ref 255), (1, .int a0), (2, .int a1), (3, .int a2), (4, .int a3)]) (by decide) (Nat.le_of_ble_eq_true rfl) rfl ?_
  unfold g_X11_hasOf
  refine sx_iload_n d_X11_hasOf_0 3 rfl ?_
  refine sx_iconst d_X11_hasOf_1 ic1 ?_
  refine sx_icmp_ne d_X11_hasOf_2 ?_ ?_
  · refine sx_iload d_X11_hasOf_5 4 rfl ?_
    refine sx_if_ne d_X11_hasOf_7 ?_ ?_
    · refine sx_iconst d_X11_hasOf_10 ic2 ?_
      refine sx_goto d_X11_hasOf_11 ?_
      exact sx_iret rfl d_X11_hasOf_15
    · refine sx_iconst d_X11_hasOf_14 ic1 ?_
      exact sx_iret rfl d_X11_hasOf_15
  · refine sx_aload_n d_X11_hasOf_16 0 rfl ?_
    refine sx_getF (a' := 261) fl_StairCountModel_25 sh_255 rfl rfl d_X11_hasOf_17 ?_
    refine sx_iload_n d_X11_hasOf_20 1 rfl ?_
    refine sx_iald sh_261 d_X11_hasOf_21 (fun v1 => ?_)
    refine sx_aload_n d_X11_hasOf_22 0 rfl ?_
    refine sx_iconst d_X11_hasOf_23 ic0 ?_
    refine sx_iload_n d_X11_hasOf_24 1 rfl ?_
    refine sx_iload_n d_X11_hasOf_25 2 rfl ?_
    refine sx_callV [.int (0 : Int32), .int a0, .int a1] mv_X11_steepOf lM_StairCountModel_389 sh_255 (by omega) rfl rfl (Nat.le_of_ble_eq_true rfl) d_X11_hasOf_26 (sp_X11_steepOf (d - 1) (by omega) (0 : Int32) a0 a1 h) (fun r3 h2 => ?_)
    refine sx_isub d_X11_hasOf_29 ?_
    refine sx_vlI (fun v4 => ?_)
    refine sx_istore (i := 5) (lc' := [(5, .int v4), (0, .ref 255), (1, .int a0), (2, .int a1), (3, .int a2), (4, .int a3)]) d_X11_hasOf_30 (by decide) rfl ?_
    refine sx_iload d_X11_hasOf_32 5 rfl ?_
    refine sx_if_ne d_X11_hasOf_34 ?_ ?_
    · refine sx_iload d_X11_hasOf_37 0 rfl ?_
      refine sx_iconst d_X11_hasOf_39 ic2 ?_
      refine sx_idiv d_X11_hasOf_40 (fun v5 => ?_)
      refine sx_goto d_X11_hasOf_41 ?_
      exact sx_iret rfl d_X11_hasOf_46
    · refine sx_iload d_X11_hasOf_44 0 rfl ?_
      exact sx_iret rfl d_X11_hasOf_46
theorem d_X11_isRest_0 : DC mi_X11_isRest 0 (.iload 4) 2 2 := ⟨by decide +kernel, rfl⟩
theorem d_X11_isRest_2 : DC mi_X11_isRest 2 (.iconst 2) 1 3 := ⟨by decide +kernel, rfl⟩
theorem d_X11_isRest_3 : DC mi_X11_isRest 3 (.idiv) 1 4 := ⟨by decide +kernel, rfl⟩
theorem d_X11_isRest_4 : DC mi_X11_isRest 4 (.istore 5) 2 6 := ⟨by decide +kernel, rfl⟩
theorem d_X11_isRest_6 : DC mi_X11_isRest 6 (.iload 4) 2 8 := ⟨by decide +kernel, rfl⟩
theorem d_X11_isRest_8 : DC mi_X11_isRest 8 (.iconst 2) 1 9 := ⟨by decide +kernel, rfl⟩
theorem d_X11_isRest_9 : DC mi_X11_isRest 9 (.irem) 1 10 := ⟨by decide +kernel, rfl⟩
theorem d_X11_isRest_10 : DC mi_X11_isRest 10 (.istore 6) 2 12 := ⟨by decide +kernel, rfl⟩
theorem d_X11_isRest_12 : DC mi_X11_isRest 12 (.aload_n 0) 1 13 := ⟨by decide +kernel, rfl⟩
theorem d_X11_isRest_13 : DC mi_X11_isRest 13 (.iload_n 1) 1 14 := ⟨by decide +kernel, rfl⟩
theorem d_X11_isRest_14 : DC mi_X11_isRest 14 (.iload_n 3) 1 15 := ⟨by decide +kernel, rfl⟩
theorem d_X11_isRest_15 : DC mi_X11_isRest 15 (.iconst 1) 1 16 := ⟨by decide +kernel, rfl⟩
theorem d_X11_isRest_16 : DC mi_X11_isRest 16 (.iload 5) 2 18 := ⟨by decide +kernel, rfl⟩
theorem d_X11_isRest_18 : DC mi_X11_isRest 18 (.isub) 1 19 := ⟨by decide +kernel, rfl⟩
theorem d_X11_isRest_19 : DC mi_X11_isRest 19 (.iload 6) 2 21 := ⟨by decide +kernel, rfl⟩
theorem d_X11_isRest_21 : DC mi_X11_isRest 21 (.invokevirtual 487) 3 24 := ⟨by decide +kernel, rfl⟩
theorem d_X11_isRest_24 : DC mi_X11_isRest 24 (.aload_n 0) 1 25 := ⟨by decide +kernel, rfl⟩
theorem d_X11_isRest_25 : DC mi_X11_isRest 25 (.iload_n 1) 1 26 := ⟨by decide +kernel, rfl⟩
theorem d_X11_isRest_26 : DC mi_X11_isRest 26 (.iload_n 3) 1 27 := ⟨by decide +kernel, rfl⟩
theorem d_X11_isRest_27 : DC mi_X11_isRest 27 (.iload 5) 2 29 := ⟨by decide +kernel, rfl⟩
theorem d_X11_isRest_29 : DC mi_X11_isRest 29 (.iload 6) 2 31 := ⟨by decide +kernel, rfl⟩
theorem d_X11_isRest_31 : DC mi_X11_isRest 31 (.invokevirtual 487) 3 34 := ⟨by decide +kernel, rfl⟩
theorem d_X11_isRest_34 : DB mi_X11_isRest 34 (.if_icmp .gt 32) 32 37 66 := ⟨by decide +kernel, rfl, by decide⟩
theorem d_X11_isRest_37 : DC mi_X11_isRest 37 (.aload_n 0) 1 38 := ⟨by decide +kernel, rfl⟩
theorem d_X11_isRest_38 : DC mi_X11_isRest 38 (.iload_n 2) 1 39 := ⟨by decide +kernel, rfl⟩
theorem d_X11_isRest_39 : DC mi_X11_isRest 39 (.iload_n 3) 1 40 := ⟨by decide +kernel, rfl⟩
theorem d_X11_isRest_40 : DC mi_X11_isRest 40 (.iconst 1) 1 41 := ⟨by decide +kernel, rfl⟩
theorem d_X11_isRest_41 : DC mi_X11_isRest 41 (.iload 6) 2 43 := ⟨by decide +kernel, rfl⟩
theorem d_X11_isRest_43 : DC mi_X11_isRest 43 (.isub) 1 44 := ⟨by decide +kernel, rfl⟩
theorem d_X11_isRest_44 : DC mi_X11_isRest 44 (.iload 5) 2 46 := ⟨by decide +kernel, rfl⟩
theorem d_X11_isRest_46 : DC mi_X11_isRest 46 (.invokevirtual 487) 3 49 := ⟨by decide +kernel, rfl⟩
theorem d_X11_isRest_49 : DC mi_X11_isRest 49 (.aload_n 0) 1 50 := ⟨by decide +kernel, rfl⟩
theorem d_X11_isRest_50 : DC mi_X11_isRest 50 (.iload_n 2) 1 51 := ⟨by decide +kernel, rfl⟩
theorem d_X11_isRest_51 : DC mi_X11_isRest 51 (.iload_n 3) 1 52 := ⟨by decide +kernel, rfl⟩
theorem d_X11_isRest_52 : DC mi_X11_isRest 52 (.iload 6) 2 54 := ⟨by decide +kernel, rfl⟩
theorem d_X11_isRest_54 : DC mi_X11_isRest 54 (.iload 5) 2 56 := ⟨by decide +kernel, rfl⟩
theorem d_X11_isRest_56 : DC mi_X11_isRest 56 (.invokevirtual 487) 3 59 := ⟨by decide +kernel, rfl⟩
theorem d_X11_isRest_59 : DB mi_X11_isRest 59 (.if_icmp .gt 7) 7 62 66 := ⟨by decide +kernel, rfl, by decide⟩
theorem d_X11_isRest_62 : DC mi_X11_isRest 62 (.iconst 1) 1 63 := ⟨by decide +kernel, rfl⟩
theorem d_X11_isRest_63 : DB mi_X11_isRest 63 (.goto 4) 4 66 67 := ⟨by decide +kernel, rfl, by decide⟩
theorem d_X11_isRest_66 : DC mi_X11_isRest 66 (.iconst 0) 1 67 := ⟨by decide +kernel, rfl⟩
theorem d_X11_isRest_67 : DC mi_X11_isRest 67 (.ireturn) 1 68 := ⟨by decide +kernel, rfl⟩
set_option maxHeartbeats 4000000 in
set_option maxRecDepth 100000 in
theorem sp_X11_isRest (d : Nat) (hd : 7 ≤ d) (a0 : Int32) (a1 : Int32) (a2 : Int32) (a3 : Int32) (h : HH) : Sp mi_X11_isRest d iI [.ref 255, .int a0, .int a1, .int a2, .int a3] h (g_X11_isRest a0 a1 a2 a3 h) := by
  refine sp_of (lc := [(0, .ref 255), (1, .int a0), (2, .int a1), (3, .int a2), (4, .int a3)]) (by decide) (Nat.le_of_ble_eq_true rfl) rfl ?_
  unfold g_X11_isRest
  refine sx_iload d_X11_isRest_0 4 rfl ?_
  refine sx_iconst d_X11_isRest_2 ic2 ?_
  refine sx_idiv d_X11_isRest_3 (fun v1 => ?_)
  refine sx_istore (i := 5) (lc' := [(5, .int v1), (0, .ref 255), (1, .int a0), (2, .int a1), (3, .int a2), (4, .int a3)]) d_X11_isRest_4 (by decide) rfl ?_
  refine sx_iload d_X11_isRest_6 5 rfl ?_
  refine sx_iconst d_X11_isRest_8 ic2 ?_
  refine sx_irem d_X11_isRest_9 (fun v2 => ?_)
  refine sx_istore (i := 6) (lc' := [(6, .int v2), (5, .int v1), (0, .ref 255), (1, .int a0), (2, .int a1), (3, .int a2), (4, .int a3)]) d_X11_isRest_10 (by decide) rfl ?_
  refine sx_aload_n d_X11_isRest_12 2 rfl ?_
  refine sx_iload_n d_X11_isRest_13 3 rfl ?_
  refine sx_iload_n d_X11_isRest_14 5 rfl ?_
  refine sx_iconst d_X11_isRest_15 ic1 ?_
  refine sx_iload d_X11_isRest_16 1 rfl ?_
  refine sx_isub d_X11_isRest_18 ?_
  refine sx_iload d_X11_isRest_19 0 rfl ?_
  refine sx_callV [.int a0, .int a2, .int ((1 : Int32) - v1), .int v2] mv_X11_hasOf lM_StairCountModel_487 sh_255 (by omega) rfl rfl (Nat.le_of_ble_eq_true rfl) d_X11_isRest_21 (sp_X11_hasOf (d - 1) (by omega) a0 a2 ((1 : Int32) - v1) v2 h) (fun r4 h3 => ?_)
  refine sx_aload_n d_X11_isRest_24 2 rfl ?_
  refine sx_iload_n d_X11_isRest_25 3 rfl ?_
  refine sx_iload_n d_X11_isRest_26 5 rfl ?_
  refine sx_iload d_X11_isRest_27 1 rfl ?_
  refine sx_iload d_X11_isRest_29 0 rfl ?_
  refine sx_callV [.int a0, .int a2, .int v1, .int v2] mv_X11_hasOf lM_StairCountModel_487 sh_255 (by omega) rfl rfl (Nat.le_of_ble_eq_true rfl) d_X11_isRest_31 (sp_X11_hasOf (d - 1) (by omega) a0 a2 v1 v2 h3) (fun r6 h5 => ?_)
  refine sx_icmp_gt d_X11_isRest_34 ?_ ?_
  · refine sx_iconst d_X11_isRest_66 ic0 ?_
    exact sx_zret (by decide) rfl d_X11_isRest_67
  · refine sx_aload_n d_X11_isRest_37 2 rfl ?_
    refine sx_iload_n d_X11_isRest_38 4 rfl ?_
    refine sx_iload_n d_X11_isRest_39 5 rfl ?_
    refine sx_iconst d_X11_isRest_40 ic1 ?_
    refine sx_iload d_X11_isRest_41 0 rfl ?_
    refine sx_isub d_X11_isRest_43 ?_
    refine sx_iload d_X11_isRest_44 1 rfl ?_
    refine sx_callV [.int a1, .int a2, .int ((1 : Int32) - v2), .int v1] mv_X11_hasOf lM_StairCountModel_487 sh_255 (by omega) rfl rfl (Nat.le_of_ble_eq_true rfl) d_X11_isRest_46 (sp_X11_hasOf (d - 1) (by omega) a1 a2 ((1 : Int32) - v2) v1 h5) (fun r8 h7 => ?_)
    refine sx_aload_n d_X11_isRest_49 2 rfl ?_
    refine sx_iload_n d_X11_isRest_50 4 rfl ?_
    refine sx_iload_n d_X11_isRest_51 5 rfl ?_
    refine sx_iload d_X11_isRest_52 0 rfl ?_
    refine sx_iload d_X11_isRest_54 1 rfl ?_
    refine sx_callV [.int a1, .int a2, .int v2, .int v1] mv_X11_hasOf lM_StairCountModel_487 sh_255 (by omega) rfl rfl (Nat.le_of_ble_eq_true rfl) d_X11_isRest_56 (sp_X11_hasOf (d - 1) (by omega) a1 a2 v2 v1 h7) (fun r10 h9 => ?_)
    refine sx_icmp_gt d_X11_isRest_59 ?_ ?_
    · refine sx_iconst d_X11_isRest_66 ic0 ?_
      exact sx_zret (by decide) rfl d_X11_isRest_67
    · refine sx_iconst d_X11_isRest_62 ic1 ?_
      refine sx_goto d_X11_isRest_63 ?_
      exact sx_zret (by decide) rfl d_X11_isRest_67
theorem d_X11_restOf_0 : DC mi_X11_restOf 0 (.iconst 0) 1 1 := ⟨by decide +kernel, rfl⟩
theorem d_X11_restOf_1 : DC mi_X11_restOf 1 (.istore 5) 2 3 := ⟨by decide +kernel, rfl⟩
theorem d_X11_restOf_3 : DC mi_X11_restOf 3 (.iconst 0) 1 4 := ⟨by decide +kernel, rfl⟩
theorem d_X11_restOf_4 : DC mi_X11_restOf 4 (.istore 6) 2 6 := ⟨by decide +kernel, rfl⟩
theorem d_X11_restOf_6 : DC mi_X11_restOf 6 (.iload 6) 2 8 := ⟨by decide +kernel, rfl⟩
theorem d_X11_restOf_8 : DC mi_X11_restOf 8 (.iconst 4) 1 9 := ⟨by decide +kernel, rfl⟩
theorem d_X11_restOf_9 : DB mi_X11_restOf 9 (.if_icmp .ge 47) 47 12 56 := ⟨by decide +kernel, rfl, by decide⟩
theorem d_X11_restOf_12 : DC mi_X11_restOf 12 (.aload_n 0) 1 13 := ⟨by decide +kernel, rfl⟩
theorem d_X11_restOf_13 : DC mi_X11_restOf 13 (.iload_n 1) 1 14 := ⟨by decide +kernel, rfl⟩
theorem d_X11_restOf_14 : DC mi_X11_restOf 14 (.iload_n 2) 1 15 := ⟨by decide +kernel, rfl⟩
theorem d_X11_restOf_15 : DC mi_X11_restOf 15 (.iload_n 3) 1 16 := ⟨by decide +kernel, rfl⟩
theorem d_X11_restOf_16 : DC mi_X11_restOf 16 (.iload 6) 2 18 := ⟨by decide +kernel, rfl⟩
theorem d_X11_restOf_18 : DC mi_X11_restOf 18 (.invokevirtual 490) 3 21 := ⟨by decide +kernel, rfl⟩
theorem d_X11_restOf_21 : DB mi_X11_restOf 21 (.ifCond .ne 6) 6 24 27 := ⟨by decide +kernel, rfl, by decide⟩
theorem d_X11_restOf_24 : DB mi_X11_restOf 24 (.goto 26) 26 27 50 := ⟨by decide +kernel, rfl, by decide⟩
theorem d_X11_restOf_27 : DC mi_X11_restOf 27 (.iload 5) 2 29 := ⟨by decide +kernel, rfl⟩
theorem d_X11_restOf_29 : DC mi_X11_restOf 29 (.iload 4) 2 31 := ⟨by decide +kernel, rfl⟩
theorem d_X11_restOf_31 : DB mi_X11_restOf 31 (.if_icmp .ne 16) 16 34 47 := ⟨by decide +kernel, rfl, by decide⟩
theorem d_X11_restOf_34 : DC mi_X11_restOf 34 (.bipush 10) 2 36 := ⟨by decide +kernel, rfl⟩
theorem d_X11_restOf_36 : DC mi_X11_restOf 36 (.iload 6) 2 38 := ⟨by decide +kernel, rfl⟩
theorem d_X11_restOf_38 : DC mi_X11_restOf 38 (.iconst 2) 1 39 := ⟨by decide +kernel, rfl⟩
theorem d_X11_restOf_39 : DC mi_X11_restOf 39 (.idiv) 1 40 := ⟨by decide +kernel, rfl⟩
theorem d_X11_restOf_40 : DC mi_X11_restOf 40 (.imul) 1 41 := ⟨by decide +kernel, rfl⟩
theorem d_X11_restOf_41 : DC mi_X11_restOf 41 (.iload 6) 2 43 := ⟨by decide +kernel, rfl⟩
theorem d_X11_restOf_43 : DC mi_X11_restOf 43 (.iconst 2) 1 44 := ⟨by decide +kernel, rfl⟩
theorem d_X11_restOf_44 : DC mi_X11_restOf 44 (.irem) 1 45 := ⟨by decide +kernel, rfl⟩
theorem d_X11_restOf_45 : DC mi_X11_restOf 45 (.iadd) 1 46 := ⟨by decide +kernel, rfl⟩
theorem d_X11_restOf_46 : DC mi_X11_restOf 46 (.ireturn) 1 47 := ⟨by decide +kernel, rfl⟩
theorem d_X11_restOf_47 : DC mi_X11_restOf 47 (.iinc 5 1) 3 50 := ⟨by decide +kernel, rfl⟩
theorem d_X11_restOf_50 : DC mi_X11_restOf 50 (.iinc 6 1) 3 53 := ⟨by decide +kernel, rfl⟩
theorem d_X11_restOf_53 : DB mi_X11_restOf 53 (.goto (-47)) (-47) 56 6 := ⟨by decide +kernel, rfl, by decide⟩
theorem d_X11_restOf_56 : DC mi_X11_restOf 56 (.iload 4) 2 58 := ⟨by decide +kernel, rfl⟩
theorem d_X11_restOf_58 : DC mi_X11_restOf 58 (.iconst (-1)) 1 59 := ⟨by decide +kernel, rfl⟩
theorem d_X11_restOf_59 : DB mi_X11_restOf 59 (.if_icmp .ne 8) 8 62 67 := ⟨by decide +kernel, rfl, by decide⟩
theorem d_X11_restOf_62 : DC mi_X11_restOf 62 (.iload 5) 2 64 := ⟨by decide +kernel, rfl⟩
theorem d_X11_restOf_64 : DB mi_X11_restOf 64 (.goto 5) 5 67 69 := ⟨by decide +kernel, rfl, by decide⟩
theorem d_X11_restOf_67 : DC mi_X11_restOf 67 (.bipush (-2)) 2 69 := ⟨by decide +kernel, rfl⟩
theorem d_X11_restOf_69 : DC mi_X11_restOf 69 (.ireturn) 1 70 := ⟨by decide +kernel, rfl⟩
set_option maxHeartbeats 4000000 in
set_option maxRecDepth 100000 in
theorem sL_X11_restOf_6 (d : Nat) (hd : 8 ≤ d) (K56 : Int32 → HH → Option (Int32 × HH)) (K34 : Int32 → HH → Option (Int32 × HH)) (c1 : Int32) (c2 : Int32) (c3 : Int32) (c4 : Int32) (hK56 : ∀ (z5 : Int32) (h : HH), Sx mi_X11_restOf d iI (K56 z5 h) 56 [(4, .int c4), (5, .int z5)] [] h) (hK34 : ∀ (z6 : Int32) (h : HH), Sx mi_X11_restOf d iI (K34 z6 h) 34 [(6, .int z6)] [] h) : ∀ (n : Nat) (x5 : Int32) (x6 : Int32) (h : HH), Sx mi_X11_restOf d iI (g_X11_restOf_L6 K56 K34 c1 c2 c3 c4 n x5 x6 h) 6 [(0, .ref 255), (1, .int c1), (2, .int c2), (3, .int c3), (4, .int c4), (5, .int x5), (6, .int x6)] [] h := by
  intro n
  induction n with
  | zero => intro x5 x6 h; exact sx_none
  | succ n ih =>
    intro x5 x6 h
    rw [g_X11_restOf_L6]
    refine sx_iload d_X11_restOf_6 6 rfl ?_
    refine sx_iconst d_X11_restOf_8 ic4 ?_
    refine sx_icmp_ge d_X11_restOf_9 ?_ ?_
    · refine sx_aload_n d_X11_restOf_12 0 rfl ?_
      refine sx_iload_n d_X11_restOf_13 1 rfl ?_
      refine sx_iload_n d_X11_restOf_14 2 rfl ?_
      refine sx_iload_n d_X11_restOf_15 3 rfl ?_
      refine sx_iload d_X11_restOf_16 6 rfl ?_
      refine sx_callV [.int c1, .int c2, .int c3, .int x6] mv_X11_isRest lM_StairCountModel_490 sh_255 (by omega) rfl rfl (Nat.le_of_ble_eq_true rfl) d_X11_restOf_18 (sp_X11_isRest (d - 1) (by omega) c1 c2 c3 x6 h) (fun r2 h1 => ?_)
      refine sx_jn (fun j => ∀ (u6 : Int32) (h : HH), Sx mi_X11_restOf d iI (j u6 h) 50 [(0, .ref 255), (1, .int c1), (2, .int c2), (3, .int c3), (4, .int c4), (5, .int u6), (6, .int x6)] [] h) ?_ ?_
      · intro u6 h5
        refine sx_iincV (lc' := fun v7 => [(6, .int v7), (0, .ref 255), (1, .int c1), (2, .int c2), (3, .int c3), (4, .int c4), (5, .int u6)]) (k0 := 6) d_X11_restOf_50 rfl ii1 (by decide) (fun _ => rfl) (fun v7 => ?_)
        refine sx_goto d_X11_restOf_53 ?_
        refine sx_lc (lc' := [(0, .ref 255), (1, .int c1), (2, .int c2), (3, .int c3), (4, .int c4), (5, .int u6), (6, .int v7)]) [1, 2, 3, 4, 5, 6, 0] rfl ?_
        exact ih u6 v7 h5
      · intro j3 k4
        refine sx_if_ne d_X11_restOf_21 ?_ ?_
        · refine sx_goto d_X11_restOf_24 ?_
          exact k4 x5 h1
        · refine sx_iload d_X11_restOf_27 5 rfl ?_
          refine sx_iload d_X11_restOf_29 4 rfl ?_
          refine sx_icmp_ne d_X11_restOf_31 ?_ ?_
          · refine sx_lc (lc' := [(6, .int x6)]) [6] rfl ?_
            exact hK34 x6 h1
          · refine sx_iincV (lc' := fun v8 => [(5, .int v8), (0, .ref 255), (1, .int c1), (2, .int c2), (3, .int c3), (4, .int c4), (6, .int x6)]) (k0 := 5) d_X11_restOf_47 rfl ii1 (by decide) (fun _ => rfl) (fun v8 => ?_)
            refine sx_lc (lc' := [(0, .ref 255), (1, .int c1), (2, .int c2), (3, .int c3), (4, .int c4), (5, .int v8), (6, .int x6)]) [1, 2, 3, 4, 5, 0, 6] rfl ?_
            exact k4 v8 h1
    · refine sx_lc (lc' := [(4, .int c4), (5, .int x5)]) [4, 5] rfl ?_
      exact hK56 x5 h
set_option maxHeartbeats 4000000 in
set_option maxRecDepth 100000 in
theorem sp_X11_restOf (d : Nat) (hd : 8 ≤ d) (a0 : Int32) (a1 : Int32) (a2 : Int32) (a3 : Int32) (h : HH) : Sp mi_X11_restOf d iI [.ref 255, .int a0, .int a1, .int a2, .int a3] h (g_X11_restOf a0 a1 a2 a3 h) := by
  refine sp_of (lc := [(0, .ref 255), (1, .int a0), (2, .int a1), (3, .int a2), (4, .int a3)]) (by decide) (Nat.le_of_ble_eq_true rfl) rfl ?_
  unfold g_X11_restOf
  refine sx_iconst d_X11_restOf_0 ic0 ?_
  refine sx_istore (i := 5) (lc' := [(5, .int (0 : Int32)), (0, .ref 255), (1, .int a0), (2, .int a1), (3, .int a2), (4, .int a3)]) d_X11_restOf_1 (by decide) rfl ?_
  refine sx_iconst d_X11_restOf_3 ic0 ?_
  refine sx_istore (i := 6) (lc' := [(6, .int (0 : Int32)), (5, .int (0 : Int32)), (0, .ref 255), (1, .int a0), (2, .int a1), (3, .int a2), (4, .int a3)]) d_X11_restOf_4 (by decide) rfl ?_
  refine sx_lc (lc' := [(0, .ref 255), (1, .int a0), (2, .int a1), (3, .int a2), (4, .int a3), (5, .int (0 : Int32)), (6, .int (0 : Int32))]) [2, 3, 4, 5, 6, 1, 0] rfl ?_
  refine sL_X11_restOf_6 d hd _ _ a0 a1 a2 a3 ?_ ?_ 1024 (0 : Int32) (0 : Int32) h
  · intro z10 h9
    refine sx_iload d_X11_restOf_56 0 rfl ?_
    refine sx_iconst d_X11_restOf_58 icm1 ?_
    refine sx_icmp_ne d_X11_restOf_59 ?_ ?_
    · refine sx_iload d_X11_restOf_62 1 rfl ?_
      refine sx_goto d_X11_restOf_64 ?_
      exact sx_iret rfl d_X11_restOf_69
    · refine sx_bipush d_X11_restOf_67 bcm2 ?_
      exact sx_iret rfl d_X11_restOf_69
  · intro z12 h11
    refine sx_bipush d_X11_restOf_34 bc10 ?_
    refine sx_iload d_X11_restOf_36 0 rfl ?_
    refine sx_iconst d_X11_restOf_38 ic2 ?_
    refine sx_idiv d_X11_restOf_39 (fun v13 => ?_)
    refine sx_imul d_X11_restOf_40 ?_
    refine sx_iload d_X11_restOf_41 0 rfl ?_
    refine sx_iconst d_X11_restOf_43 ic2 ?_
    refine sx_irem d_X11_restOf_44 (fun v14 => ?_)
    refine sx_iadd d_X11_restOf_45 ?_
    exact sx_iret rfl d_X11_restOf_46
theorem d_X11_rests_0 : DC mi_X11_rests 0 (.aload_n 0) 1 1 := ⟨by decide +kernel, rfl⟩
theorem d_X11_rests_1 : DC mi_X11_rests 1 (.iconst 0) 1 2 := ⟨by decide +kernel, rfl⟩
theorem d_X11_rests_2 : DC mi_X11_rests 2 (.putfield 148) 3 5 := ⟨by decide +kernel, rfl⟩
theorem d_X11_rests_5 : DC mi_X11_rests 5 (.aload_n 0) 1 6 := ⟨by decide +kernel, rfl⟩
theorem d_X11_rests_6 : DC mi_X11_rests 6 (.iload_n 1) 1 7 := ⟨by decide +kernel, rfl⟩
theorem d_X11_rests_7 : DC mi_X11_rests 7 (.iload_n 2) 1 8 := ⟨by decide +kernel, rfl⟩
theorem d_X11_rests_8 : DC mi_X11_rests 8 (.invokevirtual 484) 3 11 := ⟨by decide +kernel, rfl⟩
theorem d_X11_rests_11 : DB mi_X11_rests 11 (.ifCond .eq 22) 22 14 33 := ⟨by decide +kernel, rfl, by decide⟩
theorem d_X11_rests_14 : DC mi_X11_rests 14 (.aload_n 0) 1 15 := ⟨by decide +kernel, rfl⟩
theorem d_X11_rests_15 : DC mi_X11_rests 15 (.iload_n 3) 1 16 := ⟨by decide +kernel, rfl⟩
theorem d_X11_rests_16 : DC mi_X11_rests 16 (.invokevirtual 349) 3 19 := ⟨by decide +kernel, rfl⟩
theorem d_X11_rests_19 : DB mi_X11_rests 19 (.ifCond .eq 14) 14 22 33 := ⟨by decide +kernel, rfl, by decide⟩
theorem d_X11_rests_22 : DC mi_X11_rests 22 (.aload_n 0) 1 23 := ⟨by decide +kernel, rfl⟩
theorem d_X11_rests_23 : DC mi_X11_rests 23 (.iload_n 1) 1 24 := ⟨by decide +kernel, rfl⟩
theorem d_X11_rests_24 : DC mi_X11_rests 24 (.iload_n 2) 1 25 := ⟨by decide +kernel, rfl⟩
theorem d_X11_rests_25 : DC mi_X11_rests 25 (.iload_n 3) 1 26 := ⟨by decide +kernel, rfl⟩
theorem d_X11_rests_26 : DC mi_X11_rests 26 (.iconst (-1)) 1 27 := ⟨by decide +kernel, rfl⟩
theorem d_X11_rests_27 : DC mi_X11_rests 27 (.invokevirtual 493) 3 30 := ⟨by decide +kernel, rfl⟩
theorem d_X11_rests_30 : DB mi_X11_rests 30 (.goto 4) 4 33 34 := ⟨by decide +kernel, rfl, by decide⟩
theorem d_X11_rests_33 : DC mi_X11_rests 33 (.iconst (-1)) 1 34 := ⟨by decide +kernel, rfl⟩
theorem d_X11_rests_34 : DC mi_X11_rests 34 (.ireturn) 1 35 := ⟨by decide +kernel, rfl⟩
set_option maxHeartbeats 4000000 in
set_option maxRecDepth 100000 in
theorem sp_X11_rests (d : Nat) (hd : 9 ≤ d) (a0 : Int32) (a1 : Int32) (a2 : Int32) (h : HH) : Sp mi_X11_rests d iI [.ref 255, .int a0, .int a1, .int a2] h (g_X11_rests a0 a1 a2 h) := by
  refine sp_of (lc := [(0, .ref 255), (1, .int a0), (2, .int a1), (3, .int a2)]) (by decide) (Nat.le_of_ble_eq_true rfl) rfl ?_
  unfold g_X11_rests
  refine sx_aload_n d_X11_rests_0 0 rfl ?_
  refine sx_iconst d_X11_rests_1 ic0 ?_
  refine sx_putI fl_StairCountModel_148 sh_255 rfl hty_11_0 d_X11_rests_2 (fun h1 => ?_)
  refine sx_aload_n d_X11_rests_5 0 rfl ?_
  refine sx_iload_n d_X11_rests_6 1 rfl ?_
  refine sx_iload_n d_X11_rests_7 2 rfl ?_
  refine sx_callV [.int a0, .int a1] mv_X11_areTwo lM_StairCountModel_484 sh_255 (by omega) rfl rfl (Nat.le_of_ble_eq_true rfl) d_X11_rests_8 (sp_X11_areTwo (d - 1) (by omega) a0 a1 h1) (fun r3 h2 => ?_)
  refine sx_if_eq d_X11_rests_11 ?_ ?_
  · refine sx_iconst d_X11_rests_33 icm1 ?_
    exact sx_iret rfl d_X11_rests_34
  · refine sx_aload_n d_X11_rests_14 0 rfl ?_
    refine sx_iload_n d_X11_rests_15 3 rfl ?_
    refine sx_callV [.int a2] mv_X11_isFlight lM_StairCountModel_349 sh_255 (by omega) rfl rfl (Nat.le_of_ble_eq_true rfl) d_X11_rests_16 (sp_X11_isFlight (d - 1) (by omega) a2 h2) (fun r5 h4 => ?_)
    refine sx_if_eq d_X11_rests_19 ?_ ?_
    · refine sx_iconst d_X11_rests_33 icm1 ?_
      exact sx_iret rfl d_X11_rests_34
    · refine sx_aload_n d_X11_rests_22 0 rfl ?_
      refine sx_iload_n d_X11_rests_23 1 rfl ?_
      refine sx_iload_n d_X11_rests_24 2 rfl ?_
      refine sx_iload_n d_X11_rests_25 3 rfl ?_
      refine sx_iconst d_X11_rests_26 icm1 ?_
      refine sx_callV [.int a0, .int a1, .int a2, .int (-1 : Int32)] mv_X11_restOf lM_StairCountModel_493 sh_255 (by omega) rfl rfl (Nat.le_of_ble_eq_true rfl) d_X11_rests_27 (sp_X11_restOf (d - 1) (by omega) a0 a1 a2 (-1 : Int32) h4) (fun r7 h6 => ?_)
      refine sx_goto d_X11_rests_30 ?_
      exact sx_iret rfl d_X11_rests_34
theorem d_X11_rest_0 : DC mi_X11_rest 0 (.aload_n 0) 1 1 := ⟨by decide +kernel, rfl⟩
theorem d_X11_rest_1 : DC mi_X11_rest 1 (.iconst 0) 1 2 := ⟨by decide +kernel, rfl⟩
theorem d_X11_rest_2 : DC mi_X11_rest 2 (.putfield 148) 3 5 := ⟨by decide +kernel, rfl⟩
theorem d_X11_rest_5 : DC mi_X11_rest 5 (.aload_n 0) 1 6 := ⟨by decide +kernel, rfl⟩
theorem d_X11_rest_6 : DC mi_X11_rest 6 (.iload_n 1) 1 7 := ⟨by decide +kernel, rfl⟩
theorem d_X11_rest_7 : DC mi_X11_rest 7 (.iload_n 2) 1 8 := ⟨by decide +kernel, rfl⟩
theorem d_X11_rest_8 : DC mi_X11_rest 8 (.invokevirtual 484) 3 11 := ⟨by decide +kernel, rfl⟩
theorem d_X11_rest_11 : DB mi_X11_rest 11 (.ifCond .eq 28) 28 14 39 := ⟨by decide +kernel, rfl, by decide⟩
theorem d_X11_rest_14 : DC mi_X11_rest 14 (.aload_n 0) 1 15 := ⟨by decide +kernel, rfl⟩
theorem d_X11_rest_15 : DC mi_X11_rest 15 (.iload_n 3) 1 16 := ⟨by decide +kernel, rfl⟩
theorem d_X11_rest_16 : DC mi_X11_rest 16 (.invokevirtual 349) 3 19 := ⟨by decide +kernel, rfl⟩
theorem d_X11_rest_19 : DB mi_X11_rest 19 (.ifCond .eq 20) 20 22 39 := ⟨by decide +kernel, rfl, by decide⟩
theorem d_X11_rest_22 : DC mi_X11_rest 22 (.iload 4) 2 24 := ⟨by decide +kernel, rfl⟩
theorem d_X11_rest_24 : DB mi_X11_rest 24 (.ifCond .lt 15) 15 27 39 := ⟨by decide +kernel, rfl, by decide⟩
theorem d_X11_rest_27 : DC mi_X11_rest 27 (.aload_n 0) 1 28 := ⟨by decide +kernel, rfl⟩
theorem d_X11_rest_28 : DC mi_X11_rest 28 (.iload_n 1) 1 29 := ⟨by decide +kernel, rfl⟩
theorem d_X11_rest_29 : DC mi_X11_rest 29 (.iload_n 2) 1 30 := ⟨by decide +kernel, rfl⟩
theorem d_X11_rest_30 : DC mi_X11_rest 30 (.iload_n 3) 1 31 := ⟨by decide +kernel, rfl⟩
theorem d_X11_rest_31 : DC mi_X11_rest 31 (.iload 4) 2 33 := ⟨by decide +kernel, rfl⟩
theorem d_X11_rest_33 : DC mi_X11_rest 33 (.invokevirtual 493) 3 36 := ⟨by decide +kernel, rfl⟩
theorem d_X11_rest_36 : DB mi_X11_rest 36 (.goto 4) 4 39 40 := ⟨by decide +kernel, rfl, by decide⟩
theorem d_X11_rest_39 : DC mi_X11_rest 39 (.iconst (-1)) 1 40 := ⟨by decide +kernel, rfl⟩
theorem d_X11_rest_40 : DC mi_X11_rest 40 (.ireturn) 1 41 := ⟨by decide +kernel, rfl⟩
set_option maxHeartbeats 4000000 in
set_option maxRecDepth 100000 in
theorem sp_X11_rest (d : Nat) (hd : 9 ≤ d) (a0 : Int32) (a1 : Int32) (a2 : Int32) (a3 : Int32) (h : HH) : Sp mi_X11_rest d iI [.ref 255, .int a0, .int a1, .int a2, .int a3] h (g_X11_rest a0 a1 a2 a3 h) := by
  refine sp_of (lc := [(0, .ref 255), (1, .int a0), (2, .int a1), (3, .int a2), (4, .int a3)]) (by decide) (Nat.le_of_ble_eq_true rfl) rfl ?_
  unfold g_X11_rest
  refine sx_aload_n d_X11_rest_0 0 rfl ?_
  refine sx_iconst d_X11_rest_1 ic0 ?_
  refine sx_putI fl_StairCountModel_148 sh_255 rfl hty_11_0 d_X11_rest_2 (fun h1 => ?_)
  refine sx_aload_n d_X11_rest_5 0 rfl ?_
  refine sx_iload_n d_X11_rest_6 1 rfl ?_
  refine sx_iload_n d_X11_rest_7 2 rfl ?_
  refine sx_callV [.int a0, .int a1] mv_X11_areTwo lM_StairCountModel_484 sh_255 (by omega) rfl rfl (Nat.le_of_ble_eq_true rfl) d_X11_rest_8 (sp_X11_areTwo (d - 1) (by omega) a0 a1 h1) (fun r3 h2 => ?_)
  refine sx_if_eq d_X11_rest_11 ?_ ?_
  · refine sx_iconst d_X11_rest_39 icm1 ?_
    exact sx_iret rfl d_X11_rest_40
  · refine sx_aload_n d_X11_rest_14 0 rfl ?_
    refine sx_iload_n d_X11_rest_15 3 rfl ?_
    refine sx_callV [.int a2] mv_X11_isFlight lM_StairCountModel_349 sh_255 (by omega) rfl rfl (Nat.le_of_ble_eq_true rfl) d_X11_rest_16 (sp_X11_isFlight (d - 1) (by omega) a2 h2) (fun r5 h4 => ?_)
    refine sx_if_eq d_X11_rest_19 ?_ ?_
    · refine sx_iconst d_X11_rest_39 icm1 ?_
      exact sx_iret rfl d_X11_rest_40
    · refine sx_iload d_X11_rest_22 4 rfl ?_
      refine sx_if_lt d_X11_rest_24 ?_ ?_
      · refine sx_iconst d_X11_rest_39 icm1 ?_
        exact sx_iret rfl d_X11_rest_40
      · refine sx_aload_n d_X11_rest_27 0 rfl ?_
        refine sx_iload_n d_X11_rest_28 1 rfl ?_
        refine sx_iload_n d_X11_rest_29 2 rfl ?_
        refine sx_iload_n d_X11_rest_30 3 rfl ?_
        refine sx_iload d_X11_rest_31 4 rfl ?_
        refine sx_callV [.int a0, .int a1, .int a2, .int a3] mv_X11_restOf lM_StairCountModel_493 sh_255 (by omega) rfl rfl (Nat.le_of_ble_eq_true rfl) d_X11_rest_33 (sp_X11_restOf (d - 1) (by omega) a0 a1 a2 a3 h4) (fun r7 h6 => ?_)
        refine sx_goto d_X11_rest_36 ?_
        exact sx_iret rfl d_X11_rest_40
theorem d_X11_sure_0 : DC mi_X11_sure 0 (.aload_n 0) 1 1 := ⟨by decide +kernel, rfl⟩
theorem d_X11_sure_1 : DC mi_X11_sure 1 (.iconst 0) 1 2 := ⟨by decide +kernel, rfl⟩
theorem d_X11_sure_2 : DC mi_X11_sure 2 (.putfield 148) 3 5 := ⟨by decide +kernel, rfl⟩
theorem d_X11_sure_5 : DC mi_X11_sure 5 (.iload_n 1) 1 6 := ⟨by decide +kernel, rfl⟩
theorem d_X11_sure_6 : DB mi_X11_sure 6 (.ifCond .lt 18) 18 9 24 := ⟨by decide +kernel, rfl, by decide⟩
theorem d_X11_sure_9 : DC mi_X11_sure 9 (.iload_n 1) 1 10 := ⟨by decide +kernel, rfl⟩
theorem d_X11_sure_10 : DC mi_X11_sure 10 (.bipush 6) 2 12 := ⟨by decide +kernel, rfl⟩
theorem d_X11_sure_12 : DB mi_X11_sure 12 (.if_icmp .gt 12) 12 15 24 := ⟨by decide +kernel, rfl, by decide⟩
theorem d_X11_sure_15 : DC mi_X11_sure 15 (.iload_n 2) 1 16 := ⟨by decide +kernel, rfl⟩
theorem d_X11_sure_16 : DB mi_X11_sure 16 (.ifCond .lt 8) 8 19 24 := ⟨by decide +kernel, rfl, by decide⟩
theorem d_X11_sure_19 : DC mi_X11_sure 19 (.iload_n 2) 1 20 := ⟨by decide +kernel, rfl⟩
theorem d_X11_sure_20 : DC mi_X11_sure 20 (.iconst 1) 1 21 := ⟨by decide +kernel, rfl⟩
theorem d_X11_sure_21 : DB mi_X11_sure 21 (.if_icmp .le 7) 7 24 28 := ⟨by decide +kernel, rfl, by decide⟩
theorem d_X11_sure_24 : DC mi_X11_sure 24 (.ldc2_w 496) 3 27 := ⟨by decide +kernel, rfl⟩
theorem d_X11_sure_27 : DC mi_X11_sure 27 (.lreturn) 1 28 := ⟨by decide +kernel, rfl⟩
theorem d_X11_sure_28 : DC mi_X11_sure 28 (.lconst 1) 1 29 := ⟨by decide +kernel, rfl⟩
theorem d_X11_sure_29 : DC mi_X11_sure 29 (.lstore_n 3) 1 30 := ⟨by decide +kernel, rfl⟩
theorem d_X11_sure_30 : DC mi_X11_sure 30 (.lconst 1) 1 31 := ⟨by decide +kernel, rfl⟩
theorem d_X11_sure_31 : DC mi_X11_sure 31 (.lstore 5) 2 33 := ⟨by decide +kernel, rfl⟩
theorem d_X11_sure_33 : DC mi_X11_sure 33 (.iconst 0) 1 34 := ⟨by decide +kernel, rfl⟩
theorem d_X11_sure_34 : DC mi_X11_sure 34 (.istore 7) 2 36 := ⟨by decide +kernel, rfl⟩
theorem d_X11_sure_36 : DC mi_X11_sure 36 (.iload 7) 2 38 := ⟨by decide +kernel, rfl⟩
theorem d_X11_sure_38 : DC mi_X11_sure 38 (.iload_n 1) 1 39 := ⟨by decide +kernel, rfl⟩
theorem d_X11_sure_39 : DB mi_X11_sure 39 (.if_icmp .ge 31) 31 42 70 := ⟨by decide +kernel, rfl, by decide⟩
theorem d_X11_sure_42 : DC mi_X11_sure 42 (.lload_n 3) 1 43 := ⟨by decide +kernel, rfl⟩
theorem d_X11_sure_43 : DC mi_X11_sure 43 (.ldc2_w 498) 3 46 := ⟨by decide +kernel, rfl⟩
theorem d_X11_sure_46 : DC mi_X11_sure 46 (.aload_n 0) 1 47 := ⟨by decide +kernel, rfl⟩
theorem d_X11_sure_47 : DC mi_X11_sure 47 (.getfield 13) 3 50 := ⟨by decide +kernel, rfl⟩
theorem d_X11_sure_50 : DC mi_X11_sure 50 (.iconst 4) 1 51 := ⟨by decide +kernel, rfl⟩
theorem d_X11_sure_51 : DC mi_X11_sure 51 (.iaload) 1 52 := ⟨by decide +kernel, rfl⟩
theorem d_X11_sure_52 : DC mi_X11_sure 52 (.i2l) 1 53 := ⟨by decide +kernel, rfl⟩
theorem d_X11_sure_53 : DC mi_X11_sure 53 (.lsub) 1 54 := ⟨by decide +kernel, rfl⟩
theorem d_X11_sure_54 : DC mi_X11_sure 54 (.lmul) 1 55 := ⟨by decide +kernel, rfl⟩
theorem d_X11_sure_55 : DC mi_X11_sure 55 (.lstore_n 3) 1 56 := ⟨by decide +kernel, rfl⟩
theorem d_X11_sure_56 : DC mi_X11_sure 56 (.lload 5) 2 58 := ⟨by decide +kernel, rfl⟩
theorem d_X11_sure_58 : DC mi_X11_sure 58 (.ldc2_w 498) 3 61 := ⟨by decide +kernel, rfl⟩
theorem d_X11_sure_61 : DC mi_X11_sure 61 (.lmul) 1 62 := ⟨by decide +kernel, rfl⟩
theorem d_X11_sure_62 : DC mi_X11_sure 62 (.lstore 5) 2 64 := ⟨by decide +kernel, rfl⟩
theorem d_X11_sure_64 : DC mi_X11_sure 64 (.iinc 7 1) 3 67 := ⟨by decide +kernel, rfl⟩
theorem d_X11_sure_67 : DB mi_X11_sure 67 (.goto (-31)) (-31) 70 36 := ⟨by decide +kernel, rfl, by decide⟩
theorem d_X11_sure_70 : DC mi_X11_sure 70 (.lload_n 3) 1 71 := ⟨by decide +kernel, rfl⟩
theorem d_X11_sure_71 : DC mi_X11_sure 71 (.lstore 7) 2 73 := ⟨by decide +kernel, rfl⟩
theorem d_X11_sure_73 : DC mi_X11_sure 73 (.lload 5) 2 75 := ⟨by decide +kernel, rfl⟩
theorem d_X11_sure_75 : DC mi_X11_sure 75 (.lstore 9) 2 77 := ⟨by decide +kernel, rfl⟩
theorem d_X11_sure_77 : DC mi_X11_sure 77 (.lload 9) 2 79 := ⟨by decide +kernel, rfl⟩
theorem d_X11_sure_79 : DC mi_X11_sure 79 (.lconst 0) 1 80 := ⟨by decide +kernel, rfl⟩
theorem d_X11_sure_80 : DC mi_X11_sure 80 (.lcmp) 1 81 := ⟨by decide +kernel, rfl⟩
theorem d_X11_sure_81 : DB mi_X11_sure 81 (.ifCond .eq 21) 21 84 102 := ⟨by decide +kernel, rfl, by decide⟩
theorem d_X11_sure_84 : DC mi_X11_sure 84 (.lload 7) 2 86 := ⟨by decide +kernel, rfl⟩
theorem d_X11_sure_86 : DC mi_X11_sure 86 (.lload 9) 2 88 := ⟨by decide +kernel, rfl⟩
theorem d_X11_sure_88 : DC mi_X11_sure 88 (.lrem) 1 89 := ⟨by decide +kernel, rfl⟩
theorem d_X11_sure_89 : DC mi_X11_sure 89 (.lstore 11) 2 91 := ⟨by decide +kernel, rfl⟩
theorem d_X11_sure_91 : DC mi_X11_sure 91 (.lload 9) 2 93 := ⟨by decide +kernel, rfl⟩
theorem d_X11_sure_93 : DC mi_X11_sure 93 (.lstore 7) 2 95 := ⟨by decide +kernel, rfl⟩
theorem d_X11_sure_95 : DC mi_X11_sure 95 (.lload 11) 2 97 := ⟨by decide +kernel, rfl⟩
theorem d_X11_sure_97 : DC mi_X11_sure 97 (.lstore 9) 2 99 := ⟨by decide +kernel, rfl⟩
theorem d_X11_sure_99 : DB mi_X11_sure 99 (.goto (-22)) (-22) 102 77 := ⟨by decide +kernel, rfl, by decide⟩
theorem d_X11_sure_102 : DC mi_X11_sure 102 (.iload_n 2) 1 103 := ⟨by decide +kernel, rfl⟩
theorem d_X11_sure_103 : DB mi_X11_sure 103 (.ifCond .ne 10) 10 106 113 := ⟨by decide +kernel, rfl, by decide⟩
theorem d_X11_sure_106 : DC mi_X11_sure 106 (.lload_n 3) 1 107 := ⟨by decide +kernel, rfl⟩
theorem d_X11_sure_107 : DC mi_X11_sure 107 (.lload 7) 2 109 := ⟨by decide +kernel, rfl⟩
theorem d_X11_sure_109 : DC mi_X11_sure 109 (.ldiv) 1 110 := ⟨by decide +kernel, rfl⟩
theorem d_X11_sure_110 : DB mi_X11_sure 110 (.goto 8) 8 113 118 := ⟨by decide +kernel, rfl, by decide⟩
theorem d_X11_sure_113 : DC mi_X11_sure 113 (.lload 5) 2 115 := ⟨by decide +kernel, rfl⟩
theorem d_X11_sure_115 : DC mi_X11_sure 115 (.lload 7) 2 117 := ⟨by decide +kernel, rfl⟩
theorem d_X11_sure_117 : DC mi_X11_sure 117 (.ldiv) 1 118 := ⟨by decide +kernel, rfl⟩
theorem d_X11_sure_118 : DC mi_X11_sure 118 (.lreturn) 1 119 := ⟨by decide +kernel, rfl⟩
set_option maxHeartbeats 4000000 in
set_option maxRecDepth 100000 in
theorem sL_X11_sure_36 (d : Nat) (hd : 0 ≤ d) (K70 : Int64 → Int64 → HH → Option (Int64 × HH)) (c1 : Int32) (c2 : Int32) (hK70 : ∀ (z3 : Int64) (z5 : Int64) (h : HH), Sx mi_X11_sure d iL (K70 z3 z5 h) 70 [(2, .int c2), (3, .long z3), (5, .long z5)] [] h) : ∀ (n : Nat) (x3 : Int64) (x5 : Int64) (x7 : Int32) (h : HH), Sx mi_X11_sure d iL (g_X11_sure_L36 K70 c1 c2 n x3 x5 x7 h) 36 [(0, .ref 255), (1, .int c1), (2, .int c2), (3, .long x3), (5, .long x5), (7, .int x7)] [] h := by
  intro n
  induction n with
  | zero => intro x3 x5 x7 h; exact sx_none
  | succ n ih =>
    intro x3 x5 x7 h
    rw [g_X11_sure_L36]
    refine sx_iload d_X11_sure_36 5 rfl ?_
    refine sx_iload_n d_X11_sure_38 1 rfl ?_
    refine sx_icmp_ge d_X11_sure_39 ?_ ?_
    · refine sx_lload_n d_X11_sure_42 3 rfl ?_
      refine sx_ldc2 d_X11_sure_43 lQ_StairCountModel_498 ?_
      refine sx_aload_n d_X11_sure_46 0 rfl ?_
      refine sx_getF (a' := 257) fl_StairCountModel_13 sh_255 rfl rfl d_X11_sure_47 ?_
      refine sx_iconst d_X11_sure_50 ic4 ?_
      refine sx_iald sh_257 d_X11_sure_51 (fun v2 => ?_)
      refine sx_i2l d_X11_sure_52 ?_
      refine sx_lsub d_X11_sure_53 ?_
      refine sx_lmul d_X11_sure_54 ?_
      refine sx_vlL (fun v3 => ?_)
      refine sx_lstore_n (i := 3) (lc' := [(3, .long v3), (0, .ref 255), (1, .int c1), (2, .int c2), (5, .long x5), (7, .int x7)]) d_X11_sure_55 rfl (by decide) rfl ?_
      refine sx_lload d_X11_sure_56 4 rfl ?_
      refine sx_ldc2 d_X11_sure_58 lQ_StairCountModel_498 ?_
      refine sx_lmul d_X11_sure_61 ?_
      refine sx_vlL (fun v4 => ?_)
      refine sx_lstore (i := 5) (lc' := [(5, .long v4), (3, .long v3), (0, .ref 255), (1, .int c1), (2, .int c2), (7, .int x7)]) d_X11_sure_62 (by decide) rfl ?_
      refine sx_iincV (lc' := fun v5 => [(7, .int v5), (5, .long v4), (3, .long v3), (0, .ref 255), (1, .int c1), (2, .int c2)]) (k0 := 5) d_X11_sure_64 rfl ii1 (by decide) (fun _ => rfl) (fun v5 => ?_)
      refine sx_goto d_X11_sure_67 ?_
      refine sx_lc (lc' := [(0, .ref 255), (1, .int c1), (2, .int c2), (3, .long v3), (5, .long v4), (7, .int v5)]) [3, 4, 5, 2, 1, 0] rfl ?_
      exact ih v3 v4 v5 h
    · refine sx_lc (lc' := [(2, .int c2), (3, .long x3), (5, .long x5)]) [2, 3, 4] rfl ?_
      exact hK70 x3 x5 h
set_option maxHeartbeats 4000000 in
set_option maxRecDepth 100000 in
theorem sL_X11_sure_77 (d : Nat) (hd : 0 ≤ d) (K102 : Int64 → HH → Option (Int64 × HH)) (c2 : Int32) (c3 : Int64) (c5 : Int64) (hK102 : ∀ (z7 : Int64) (h : HH), Sx mi_X11_sure d iL (K102 z7 h) 102 [(2, .int c2), (3, .long c3), (5, .long c5), (7, .long z7)] [] h) : ∀ (n : Nat) (x7 : Int64) (x9 : Int64) (h : HH), Sx mi_X11_sure d iL (g_X11_sure_L77 K102 c2 c3 c5 n x7 x9 h) 77 [(2, .int c2), (3, .long c3), (5, .long c5), (7, .long x7), (9, .long x9)] [] h := by
  intro n
  induction n with
  | zero => intro x7 x9 h; exact sx_none
  | succ n ih =>
    intro x7 x9 h
    rw [g_X11_sure_L77]
    refine sx_lload d_X11_sure_77 4 rfl ?_
    refine sx_lconst d_X11_sure_79 lc0 ?_
    refine sx_lcmp d_X11_sure_80 ?_
    refine sx_if_eq d_X11_sure_81 ?_ ?_
    · refine sx_lc (lc' := [(2, .int c2), (3, .long c3), (5, .long c5), (7, .long x7)]) [0, 1, 2, 3] rfl ?_
      exact hK102 x7 h
    · refine sx_lload d_X11_sure_84 3 rfl ?_
      refine sx_lload d_X11_sure_86 4 rfl ?_
      refine sx_lrem d_X11_sure_88 (fun v9 => ?_)
      refine sx_lstore (i := 11) (lc' := [(11, .long v9), (2, .int c2), (3, .long c3), (5, .long c5), (7, .long x7), (9, .long x9)]) d_X11_sure_89 (by decide) rfl ?_
      refine sx_lload d_X11_sure_91 5 rfl ?_
      refine sx_lstore (i := 7) (lc' := [(7, .long x9), (11, .long v9), (2, .int c2), (3, .long c3), (5, .long c5), (9, .long x9)]) d_X11_sure_93 (by decide) rfl ?_
      refine sx_lload d_X11_sure_95 1 rfl ?_
      refine sx_lstore (i := 9) (lc' := [(9, .long v9), (7, .long x9), (11, .long v9), (2, .int c2), (3, .long c3), (5, .long c5)]) d_X11_sure_97 (by decide) rfl ?_
      refine sx_goto d_X11_sure_99 ?_
      refine sx_lc (lc' := [(2, .int c2), (3, .long c3), (5, .long c5), (7, .long x9), (9, .long v9)]) [3, 4, 5, 1, 0] rfl ?_
      exact ih x9 v9 h
set_option maxHeartbeats 4000000 in
set_option maxRecDepth 100000 in
theorem sp_X11_sure (d : Nat) (hd : 0 ≤ d) (a0 : Int32) (a1 : Int32) (h : HH) : Sp mi_X11_sure d iL [.ref 255, .int a0, .int a1] h (g_X11_sure a0 a1 h) := by
  refine sp_of (lc := [(0, .ref 255), (1, .int a0), (2, .int a1)]) (by decide) (Nat.le_of_ble_eq_true rfl) rfl ?_
  unfold g_X11_sure
  refine sx_aload_n d_X11_sure_0 0 rfl ?_
  refine sx_iconst d_X11_sure_1 ic0 ?_
  refine sx_putI fl_StairCountModel_148 sh_255 rfl hty_11_0 d_X11_sure_2 (fun h1 => ?_)
  refine sx_iload_n d_X11_sure_5 1 rfl ?_
  refine sx_if_lt d_X11_sure_6 ?_ ?_
  · refine sx_ldc2 d_X11_sure_24 lQ_StairCountModel_496 ?_
    exact sx_lret rfl d_X11_sure_27
  · refine sx_iload_n d_X11_sure_9 1 rfl ?_
    refine sx_bipush d_X11_sure_10 bc6 ?_
    refine sx_icmp_gt d_X11_sure_12 ?_ ?_
    · refine sx_ldc2 d_X11_sure_24 lQ_StairCountModel_496 ?_
      exact sx_lret rfl d_X11_sure_27
    · refine sx_iload_n d_X11_sure_15 2 rfl ?_
      refine sx_if_lt d_X11_sure_16 ?_ ?_
      · refine sx_ldc2 d_X11_sure_24 lQ_StairCountModel_496 ?_
        exact sx_lret rfl d_X11_sure_27
      · refine sx_iload_n d_X11_sure_19 2 rfl ?_
        refine sx_iconst d_X11_sure_20 ic1 ?_
        refine sx_icmp_le d_X11_sure_21 ?_ ?_
        · refine sx_ldc2 d_X11_sure_24 lQ_StairCountModel_496 ?_
          exact sx_lret rfl d_X11_sure_27
        · refine sx_lconst d_X11_sure_28 lc1 ?_
          refine sx_lstore_n (i := 3) (lc' := [(3, .long (1 : Int64)), (0, .ref 255), (1, .int a0), (2, .int a1)]) d_X11_sure_29 rfl (by decide) rfl ?_
          refine sx_lconst d_X11_sure_30 lc1 ?_
          refine sx_lstore (i := 5) (lc' := [(5, .long (1 : Int64)), (3, .long (1 : Int64)), (0, .ref 255), (1, .int a0), (2, .int a1)]) d_X11_sure_31 (by decide) rfl ?_
          refine sx_iconst d_X11_sure_33 ic0 ?_
          refine sx_istore (i := 7) (lc' := [(7, .int (0 : Int32)), (5, .long (1 : Int64)), (3, .long (1 : Int64)), (0, .ref 255), (1, .int a0), (2, .int a1)]) d_X11_sure_34 (by decide) rfl ?_
          refine sx_lc (lc' := [(0, .ref 255), (1, .int a0), (2, .int a1), (3, .long (1 : Int64)), (5, .long (1 : Int64)), (7, .int (0 : Int32))]) [3, 4, 5, 2, 1, 0] rfl ?_
          refine sL_X11_sure_36 d hd _ a0 a1 ?_ 1024 (1 : Int64) (1 : Int64) (0 : Int32) h1
          · intro z7 z8 h6
            refine sx_lload_n d_X11_sure_70 1 rfl ?_
            refine sx_lstore (i := 7) (lc' := [(7, .long z7), (2, .int a1), (3, .long z7), (5, .long z8)]) d_X11_sure_71 (by decide) rfl ?_
            refine sx_lload d_X11_sure_73 3 rfl ?_
            refine sx_lstore (i := 9) (lc' := [(9, .long z8), (7, .long z7), (2, .int a1), (3, .long z7), (5, .long z8)]) d_X11_sure_75 (by decide) rfl ?_
            refine sx_lc (lc' := [(2, .int a1), (3, .long z7), (5, .long z8), (7, .long z7), (9, .long z8)]) [2, 3, 4, 1, 0] rfl ?_
            refine sL_X11_sure_77 d hd _ a1 z7 z8 ?_ 1024 z7 z8 h6
            · intro z11 h10
              refine sx_iload_n d_X11_sure_102 0 rfl ?_
              refine sx_if_ne d_X11_sure_103 ?_ ?_
              · refine sx_lload_n d_X11_sure_106 1 rfl ?_
                refine sx_lload d_X11_sure_107 3 rfl ?_
                refine sx_ldiv d_X11_sure_109 (fun v12 => ?_)
                refine sx_goto d_X11_sure_110 ?_
                exact sx_lret rfl d_X11_sure_118
              · refine sx_lload d_X11_sure_113 2 rfl ?_
                refine sx_lload d_X11_sure_115 3 rfl ?_
                refine sx_ldiv d_X11_sure_117 (fun v13 => ?_)
                exact sx_lret rfl d_X11_sure_118
theorem d_X11_note_0 : DC mi_X11_note 0 (.aload_n 0) 1 1 := ⟨by decide +kernel, rfl⟩
theorem d_X11_note_1 : DC mi_X11_note 1 (.iconst 0) 1 2 := ⟨by decide +kernel, rfl⟩
theorem d_X11_note_2 : DC mi_X11_note 2 (.putfield 148) 3 5 := ⟨by decide +kernel, rfl⟩
theorem d_X11_note_5 : DC mi_X11_note 5 (.iload_n 1) 1 6 := ⟨by decide +kernel, rfl⟩
theorem d_X11_note_6 : DC mi_X11_note 6 (.iconst 1) 1 7 := ⟨by decide +kernel, rfl⟩
theorem d_X11_note_7 : DB mi_X11_note 7 (.if_icmp .lt 34) 34 10 41 := ⟨by decide +kernel, rfl, by decide⟩
theorem d_X11_note_10 : DC mi_X11_note 10 (.iload_n 1) 1 11 := ⟨by decide +kernel, rfl⟩
theorem d_X11_note_11 : DC mi_X11_note 11 (.bipush 40) 2 13 := ⟨by decide +kernel, rfl⟩
theorem d_X11_note_13 : DB mi_X11_note 13 (.if_icmp .gt 28) 28 16 41 := ⟨by decide +kernel, rfl, by decide⟩
theorem d_X11_note_16 : DC mi_X11_note 16 (.aload_n 0) 1 17 := ⟨by decide +kernel, rfl⟩
theorem d_X11_note_17 : DC mi_X11_note 17 (.iload_n 2) 1 18 := ⟨by decide +kernel, rfl⟩
theorem d_X11_note_18 : DC mi_X11_note 18 (.invokevirtual 346) 3 21 := ⟨by decide +kernel, rfl⟩
theorem d_X11_note_21 : DB mi_X11_note 21 (.ifCond .eq 20) 20 24 41 := ⟨by decide +kernel, rfl, by decide⟩
theorem d_X11_note_24 : DC mi_X11_note 24 (.aload_n 0) 1 25 := ⟨by decide +kernel, rfl⟩
theorem d_X11_note_25 : DC mi_X11_note 25 (.iload_n 3) 1 26 := ⟨by decide +kernel, rfl⟩
theorem d_X11_note_26 : DC mi_X11_note 26 (.invokevirtual 444) 3 29 := ⟨by decide +kernel, rfl⟩
theorem d_X11_note_29 : DB mi_X11_note 29 (.ifCond .eq 12) 12 32 41 := ⟨by decide +kernel, rfl, by decide⟩
theorem d_X11_note_32 : DC mi_X11_note 32 (.aload_n 0) 1 33 := ⟨by decide +kernel, rfl⟩
theorem d_X11_note_33 : DC mi_X11_note 33 (.getfield 310) 3 36 := ⟨by decide +kernel, rfl⟩
theorem d_X11_note_36 : DC mi_X11_note 36 (.bipush 24) 2 38 := ⟨by decide +kernel, rfl⟩
theorem d_X11_note_38 : DB mi_X11_note 38 (.if_icmp .ne 5) 5 41 43 := ⟨by decide +kernel, rfl, by decide⟩
theorem d_X11_note_41 : DC mi_X11_note 41 (.iconst (-1)) 1 42 := ⟨by decide +kernel, rfl⟩
theorem d_X11_note_42 : DC mi_X11_note 42 (.ireturn) 1 43 := ⟨by decide +kernel, rfl⟩
theorem d_X11_note_43 : DC mi_X11_note 43 (.aload_n 0) 1 44 := ⟨by decide +kernel, rfl⟩
theorem d_X11_note_44 : DC mi_X11_note 44 (.getfield 123) 3 47 := ⟨by decide +kernel, rfl⟩
theorem d_X11_note_47 : DC mi_X11_note 47 (.aload_n 0) 1 48 := ⟨by decide +kernel, rfl⟩
theorem d_X11_note_48 : DC mi_X11_note 48 (.getfield 310) 3 51 := ⟨by decide +kernel, rfl⟩
theorem d_X11_note_51 : DC mi_X11_note 51 (.iload_n 1) 1 52 := ⟨by decide +kernel, rfl⟩
theorem d_X11_note_52 : DC mi_X11_note 52 (.iastore) 1 53 := ⟨by decide +kernel, rfl⟩
theorem d_X11_note_53 : DC mi_X11_note 53 (.aload_n 0) 1 54 := ⟨by decide +kernel, rfl⟩
theorem d_X11_note_54 : DC mi_X11_note 54 (.getfield 126) 3 57 := ⟨by decide +kernel, rfl⟩
theorem d_X11_note_57 : DC mi_X11_note 57 (.aload_n 0) 1 58 := ⟨by decide +kernel, rfl⟩
theorem d_X11_note_58 : DC mi_X11_note 58 (.getfield 310) 3 61 := ⟨by decide +kernel, rfl⟩
theorem d_X11_note_61 : DC mi_X11_note 61 (.iload_n 2) 1 62 := ⟨by decide +kernel, rfl⟩
theorem d_X11_note_62 : DC mi_X11_note 62 (.iastore) 1 63 := ⟨by decide +kernel, rfl⟩
theorem d_X11_note_63 : DC mi_X11_note 63 (.aload_n 0) 1 64 := ⟨by decide +kernel, rfl⟩
theorem d_X11_note_64 : DC mi_X11_note 64 (.getfield 129) 3 67 := ⟨by decide +kernel, rfl⟩
theorem d_X11_note_67 : DC mi_X11_note 67 (.aload_n 0) 1 68 := ⟨by decide +kernel, rfl⟩
theorem d_X11_note_68 : DC mi_X11_note 68 (.getfield 310) 3 71 := ⟨by decide +kernel, rfl⟩
theorem d_X11_note_71 : DC mi_X11_note 71 (.iload_n 3) 1 72 := ⟨by decide +kernel, rfl⟩
theorem d_X11_note_72 : DC mi_X11_note 72 (.iastore) 1 73 := ⟨by decide +kernel, rfl⟩
theorem d_X11_note_73 : DC mi_X11_note 73 (.aload_n 0) 1 74 := ⟨by decide +kernel, rfl⟩
theorem d_X11_note_74 : DC mi_X11_note 74 (.getfield 132) 3 77 := ⟨by decide +kernel, rfl⟩
theorem d_X11_note_77 : DC mi_X11_note 77 (.aload_n 0) 1 78 := ⟨by decide +kernel, rfl⟩
theorem d_X11_note_78 : DC mi_X11_note 78 (.getfield 310) 3 81 := ⟨by decide +kernel, rfl⟩
theorem d_X11_note_81 : DC mi_X11_note 81 (.iload 4) 2 83 := ⟨by decide +kernel, rfl⟩
theorem d_X11_note_83 : DC mi_X11_note 83 (.bastore) 1 84 := ⟨by decide +kernel, rfl⟩
theorem d_X11_note_84 : DC mi_X11_note 84 (.aload_n 0) 1 85 := ⟨by decide +kernel, rfl⟩
theorem d_X11_note_85 : DC mi_X11_note 85 (.getfield 136) 3 88 := ⟨by decide +kernel, rfl⟩
theorem d_X11_note_88 : DC mi_X11_note 88 (.aload_n 0) 1 89 := ⟨by decide +kernel, rfl⟩
theorem d_X11_note_89 : DC mi_X11_note 89 (.getfield 310) 3 92 := ⟨by decide +kernel, rfl⟩
theorem d_X11_note_92 : DC mi_X11_note 92 (.iconst (-1)) 1 93 := ⟨by decide +kernel, rfl⟩
theorem d_X11_note_93 : DC mi_X11_note 93 (.iastore) 1 94 := ⟨by decide +kernel, rfl⟩
theorem d_X11_note_94 : DC mi_X11_note 94 (.aload_n 0) 1 95 := ⟨by decide +kernel, rfl⟩
theorem d_X11_note_95 : DC mi_X11_note 95 (.dup) 1 96 := ⟨by decide +kernel, rfl⟩
theorem d_X11_note_96 : DC mi_X11_note 96 (.getfield 310) 3 99 := ⟨by decide +kernel, rfl⟩
theorem d_X11_note_99 : DC mi_X11_note 99 (.iconst 1) 1 100 := ⟨by decide +kernel, rfl⟩
theorem d_X11_note_100 : DC mi_X11_note 100 (.iadd) 1 101 := ⟨by decide +kernel, rfl⟩
theorem d_X11_note_101 : DC mi_X11_note 101 (.putfield 310) 3 104 := ⟨by decide +kernel, rfl⟩
theorem d_X11_note_104 : DC mi_X11_note 104 (.aload_n 0) 1 105 := ⟨by decide +kernel, rfl⟩
theorem d_X11_note_105 : DC mi_X11_note 105 (.getfield 310) 3 108 := ⟨by decide +kernel, rfl⟩
theorem d_X11_note_108 : DC mi_X11_note 108 (.iconst 1) 1 109 := ⟨by decide +kernel, rfl⟩
theorem d_X11_note_109 : DC mi_X11_note 109 (.isub) 1 110 := ⟨by decide +kernel, rfl⟩
theorem d_X11_note_110 : DC mi_X11_note 110 (.ireturn) 1 111 := ⟨by decide +kernel, rfl⟩
set_option maxHeartbeats 4000000 in
set_option maxRecDepth 100000 in
theorem sp_X11_note (d : Nat) (hd : 1 ≤ d) (a0 : Int32) (a1 : Int32) (a2 : Int32) (a3 : Int32) (h : HH) : Sp mi_X11_note d iI [.ref 255, .int a0, .int a1, .int a2, .int a3] h (g_X11_note a0 a1 a2 a3 h) := by
  refine sp_of (lc := [(0, .ref 255), (1, .int a0), (2, .int a1), (3, .int a2), (4, .int a3)]) (by decide) (Nat.le_of_ble_eq_true rfl) rfl ?_
  unfold g_X11_note
  refine sx_aload_n d_X11_note_0 0 rfl ?_
  refine sx_iconst d_X11_note_1 ic0 ?_
  refine sx_putI fl_StairCountModel_148 sh_255 rfl hty_11_0 d_X11_note_2 (fun h1 => ?_)
  refine sx_iload_n d_X11_note_5 1 rfl ?_
  refine sx_iconst d_X11_note_6 ic1 ?_
  refine sx_icmp_lt d_X11_note_7 ?_ ?_
  · refine sx_iconst d_X11_note_41 icm1 ?_
    exact sx_iret rfl d_X11_note_42
  · refine sx_iload_n d_X11_note_10 1 rfl ?_
    refine sx_bipush d_X11_note_11 bc40 ?_
    refine sx_icmp_gt d_X11_note_13 ?_ ?_
    · refine sx_iconst d_X11_note_41 icm1 ?_
      exact sx_iret rfl d_X11_note_42
    · refine sx_aload_n d_X11_note_16 0 rfl ?_
      refine sx_iload_n d_X11_note_17 2 rfl ?_
      refine sx_callV [.int a1] mv_X11_isPerson lM_StairCountModel_346 sh_255 (by omega) rfl rfl (Nat.le_of_ble_eq_true rfl) d_X11_note_18 (sp_X11_isPerson (d - 1) (by omega) a1 h1) (fun r3 h2 => ?_)
      refine sx_if_eq d_X11_note_21 ?_ ?_
      · refine sx_iconst d_X11_note_41 icm1 ?_
        exact sx_iret rfl d_X11_note_42
      · refine sx_aload_n d_X11_note_24 0 rfl ?_
        refine sx_iload_n d_X11_note_25 3 rfl ?_
        refine sx_callV [.int a2] mv_X11_isFloor lM_StairCountModel_444 sh_255 (by omega) rfl rfl (Nat.le_of_ble_eq_true rfl) d_X11_note_26 (sp_X11_isFloor (d - 1) (by omega) a2 h2) (fun r5 h4 => ?_)
        refine sx_if_eq d_X11_note_29 ?_ ?_
        · refine sx_iconst d_X11_note_41 icm1 ?_
          exact sx_iret rfl d_X11_note_42
        · refine sx_aload_n d_X11_note_32 0 rfl ?_
          refine sx_getI fl_StairCountModel_310 sh_255 rfl d_X11_note_33 (fun v6 => ?_)
          refine sx_bipush d_X11_note_36 bc24 ?_
          refine sx_icmp_ne d_X11_note_38 ?_ ?_
          · refine sx_iconst d_X11_note_41 icm1 ?_
            exact sx_iret rfl d_X11_note_42
          · refine sx_aload_n d_X11_note_43 0 rfl ?_
            refine sx_getF (a' := 288) fl_StairCountModel_123 sh_255 rfl rfl d_X11_note_44 ?_
            refine sx_aload_n d_X11_note_47 0 rfl ?_
            refine sx_getI fl_StairCountModel_310 sh_255 rfl d_X11_note_48 (fun v7 => ?_)
            refine sx_iload_n d_X11_note_51 1 rfl ?_
            refine sx_iast sh_288 d_X11_note_52 (fun h8 => ?_)
            refine sx_aload_n d_X11_note_53 0 rfl ?_
            refine sx_getF (a' := 289) fl_StairCountModel_126 sh_255 rfl rfl d_X11_note_54 ?_
            refine sx_aload_n d_X11_note_57 0 rfl ?_
            refine sx_getI fl_StairCountModel_310 sh_255 rfl d_X11_note_58 (fun v9 => ?_)
            refine sx_iload_n d_X11_note_61 2 rfl ?_
            refine sx_iast sh_289 d_X11_note_62 (fun h10 => ?_)
            refine sx_aload_n d_X11_note_63 0 rfl ?_
            refine sx_getF (a' := 290) fl_StairCountModel_129 sh_255 rfl rfl d_X11_note_64 ?_
            refine sx_aload_n d_X11_note_67 0 rfl ?_
            refine sx_getI fl_StairCountModel_310 sh_255 rfl d_X11_note_68 (fun v11 => ?_)
            refine sx_iload_n d_X11_note_71 3 rfl ?_
            refine sx_iast sh_290 d_X11_note_72 (fun h12 => ?_)
            refine sx_aload_n d_X11_note_73 0 rfl ?_
            refine sx_getF (a' := 291) fl_StairCountModel_132 sh_255 rfl rfl d_X11_note_74 ?_
            refine sx_aload_n d_X11_note_77 0 rfl ?_
            refine sx_getI fl_StairCountModel_310 sh_255 rfl d_X11_note_78 (fun v13 => ?_)
            refine sx_iload d_X11_note_81 4 rfl ?_
            refine sx_zast sh_291 d_X11_note_83 (fun h14 => ?_)
            refine sx_aload_n d_X11_note_84 0 rfl ?_
            refine sx_getF (a' := 292) fl_StairCountModel_136 sh_255 rfl rfl d_X11_note_85 ?_
            refine sx_aload_n d_X11_note_88 0 rfl ?_
            refine sx_getI fl_StairCountModel_310 sh_255 rfl d_X11_note_89 (fun v15 => ?_)
            refine sx_iconst d_X11_note_92 icm1 ?_
            refine sx_iast sh_292 d_X11_note_93 (fun h16 => ?_)
            refine sx_aload_n d_X11_note_94 0 rfl ?_
            refine sx_dup d_X11_note_95 rfl ?_
            refine sx_getI fl_StairCountModel_310 sh_255 rfl d_X11_note_96 (fun v17 => ?_)
            refine sx_iconst d_X11_note_99 ic1 ?_
            refine sx_iadd d_X11_note_100 ?_
            refine sx_putI fl_StairCountModel_310 sh_255 rfl hty_11_56 d_X11_note_101 (fun h18 => ?_)
            refine sx_aload_n d_X11_note_104 0 rfl ?_
            refine sx_getI fl_StairCountModel_310 sh_255 rfl d_X11_note_105 (fun v19 => ?_)
            refine sx_iconst d_X11_note_108 ic1 ?_
            refine sx_isub d_X11_note_109 ?_
            exact sx_iret rfl d_X11_note_110
theorem d_X11_strike_0 : DC mi_X11_strike 0 (.aload_n 0) 1 1 := ⟨by decide +kernel, rfl⟩
theorem d_X11_strike_1 : DC mi_X11_strike 1 (.iconst 0) 1 2 := ⟨by decide +kernel, rfl⟩
theorem d_X11_strike_2 : DC mi_X11_strike 2 (.putfield 148) 3 5 := ⟨by decide +kernel, rfl⟩
theorem d_X11_strike_5 : DC mi_X11_strike 5 (.iload_n 1) 1 6 := ⟨by decide +kernel, rfl⟩
theorem d_X11_strike_6 : DB mi_X11_strike 6 (.ifCond .lt 20) 20 9 26 := ⟨by decide +kernel, rfl, by decide⟩
theorem d_X11_strike_9 : DC mi_X11_strike 9 (.iload_n 1) 1 10 := ⟨by decide +kernel, rfl⟩
theorem d_X11_strike_10 : DC mi_X11_strike 10 (.aload_n 0) 1 11 := ⟨by decide +kernel, rfl⟩
theorem d_X11_strike_11 : DC mi_X11_strike 11 (.getfield 310) 3 14 := ⟨by decide +kernel, rfl⟩
theorem d_X11_strike_14 : DB mi_X11_strike 14 (.if_icmp .ge 12) 12 17 26 := ⟨by decide +kernel, rfl, by decide⟩
theorem d_X11_strike_17 : DC mi_X11_strike 17 (.aload_n 0) 1 18 := ⟨by decide +kernel, rfl⟩
theorem d_X11_strike_18 : DC mi_X11_strike 18 (.getfield 310) 3 21 := ⟨by decide +kernel, rfl⟩
theorem d_X11_strike_21 : DC mi_X11_strike 21 (.bipush 24) 2 23 := ⟨by decide +kernel, rfl⟩
theorem d_X11_strike_23 : DB mi_X11_strike 23 (.if_icmp .ne 5) 5 26 28 := ⟨by decide +kernel, rfl, by decide⟩
theorem d_X11_strike_26 : DC mi_X11_strike 26 (.iconst (-1)) 1 27 := ⟨by decide +kernel, rfl⟩
theorem d_X11_strike_27 : DC mi_X11_strike 27 (.ireturn) 1 28 := ⟨by decide +kernel, rfl⟩
theorem d_X11_strike_28 : DC mi_X11_strike 28 (.aload_n 0) 1 29 := ⟨by decide +kernel, rfl⟩
theorem d_X11_strike_29 : DC mi_X11_strike 29 (.getfield 136) 3 32 := ⟨by decide +kernel, rfl⟩
theorem d_X11_strike_32 : DC mi_X11_strike 32 (.aload_n 0) 1 33 := ⟨by decide +kernel, rfl⟩
theorem d_X11_strike_33 : DC mi_X11_strike 33 (.getfield 310) 3 36 := ⟨by decide +kernel, rfl⟩
theorem d_X11_strike_36 : DC mi_X11_strike 36 (.iload_n 1) 1 37 := ⟨by decide +kernel, rfl⟩
theorem d_X11_strike_37 : DC mi_X11_strike 37 (.iastore) 1 38 := ⟨by decide +kernel, rfl⟩
theorem d_X11_strike_38 : DC mi_X11_strike 38 (.aload_n 0) 1 39 := ⟨by decide +kernel, rfl⟩
theorem d_X11_strike_39 : DC mi_X11_strike 39 (.dup) 1 40 := ⟨by decide +kernel, rfl⟩
theorem d_X11_strike_40 : DC mi_X11_strike 40 (.getfield 310) 3 43 := ⟨by decide +kernel, rfl⟩
theorem d_X11_strike_43 : DC mi_X11_strike 43 (.iconst 1) 1 44 := ⟨by decide +kernel, rfl⟩
theorem d_X11_strike_44 : DC mi_X11_strike 44 (.iadd) 1 45 := ⟨by decide +kernel, rfl⟩
theorem d_X11_strike_45 : DC mi_X11_strike 45 (.putfield 310) 3 48 := ⟨by decide +kernel, rfl⟩
theorem d_X11_strike_48 : DC mi_X11_strike 48 (.aload_n 0) 1 49 := ⟨by decide +kernel, rfl⟩
theorem d_X11_strike_49 : DC mi_X11_strike 49 (.getfield 310) 3 52 := ⟨by decide +kernel, rfl⟩
theorem d_X11_strike_52 : DC mi_X11_strike 52 (.iconst 1) 1 53 := ⟨by decide +kernel, rfl⟩
theorem d_X11_strike_53 : DC mi_X11_strike 53 (.isub) 1 54 := ⟨by decide +kernel, rfl⟩
theorem d_X11_strike_54 : DC mi_X11_strike 54 (.ireturn) 1 55 := ⟨by decide +kernel, rfl⟩
set_option maxHeartbeats 4000000 in
set_option maxRecDepth 100000 in
theorem sp_X11_strike (d : Nat) (hd : 0 ≤ d) (a0 : Int32) (h : HH) : Sp mi_X11_strike d iI [.ref 255, .int a0] h (g_X11_strike a0 h) := by
  refine sp_of (lc := [(0, .ref 255), (1, .int a0)]) (by decide) (Nat.le_of_ble_eq_true rfl) rfl ?_
  unfold g_X11_strike
  refine sx_aload_n d_X11_strike_0 0 rfl ?_
  refine sx_iconst d_X11_strike_1 ic0 ?_
  refine sx_putI fl_StairCountModel_148 sh_255 rfl hty_11_0 d_X11_strike_2 (fun h1 => ?_)
  refine sx_iload_n d_X11_strike_5 1 rfl ?_
  refine sx_if_lt d_X11_strike_6 ?_ ?_
  · refine sx_iconst d_X11_strike_26 icm1 ?_
    exact sx_iret rfl d_X11_strike_27
  · refine sx_iload_n d_X11_strike_9 1 rfl ?_
    refine sx_aload_n d_X11_strike_10 0 rfl ?_
    refine sx_getI fl_StairCountModel_310 sh_255 rfl d_X11_strike_11 (fun v2 => ?_)
    refine sx_icmp_ge d_X11_strike_14 ?_ ?_
    · refine sx_aload_n d_X11_strike_17 0 rfl ?_
      refine sx_getI fl_StairCountModel_310 sh_255 rfl d_X11_strike_18 (fun v3 => ?_)
      refine sx_bipush d_X11_strike_21 bc24 ?_
      refine sx_icmp_ne d_X11_strike_23 ?_ ?_
      · refine sx_iconst d_X11_strike_26 icm1 ?_
        exact sx_iret rfl d_X11_strike_27
      · refine sx_aload_n d_X11_strike_28 0 rfl ?_
        refine sx_getF (a' := 292) fl_StairCountModel_136 sh_255 rfl rfl d_X11_strike_29 ?_
        refine sx_aload_n d_X11_strike_32 0 rfl ?_
        refine sx_getI fl_StairCountModel_310 sh_255 rfl d_X11_strike_33 (fun v4 => ?_)
        refine sx_iload_n d_X11_strike_36 1 rfl ?_
        refine sx_iast sh_292 d_X11_strike_37 (fun h5 => ?_)
        refine sx_aload_n d_X11_strike_38 0 rfl ?_
        refine sx_dup d_X11_strike_39 rfl ?_
        refine sx_getI fl_StairCountModel_310 sh_255 rfl d_X11_strike_40 (fun v6 => ?_)
        refine sx_iconst d_X11_strike_43 ic1 ?_
        refine sx_iadd d_X11_strike_44 ?_
        refine sx_putI fl_StairCountModel_310 sh_255 rfl hty_11_56 d_X11_strike_45 (fun h7 => ?_)
        refine sx_aload_n d_X11_strike_48 0 rfl ?_
        refine sx_getI fl_StairCountModel_310 sh_255 rfl d_X11_strike_49 (fun v8 => ?_)
        refine sx_iconst d_X11_strike_52 ic1 ?_
        refine sx_isub d_X11_strike_53 ?_
        exact sx_iret rfl d_X11_strike_54
    · refine sx_iconst d_X11_strike_26 icm1 ?_
      exact sx_iret rfl d_X11_strike_27
theorem d_X11_known_0 : DC mi_X11_known 0 (.aload_n 0) 1 1 := ⟨by decide +kernel, rfl⟩
theorem d_X11_known_1 : DC mi_X11_known 1 (.iconst 0) 1 2 := ⟨by decide +kernel, rfl⟩
theorem d_X11_known_2 : DC mi_X11_known 2 (.putfield 148) 3 5 := ⟨by decide +kernel, rfl⟩
theorem d_X11_known_5 : DC mi_X11_known 5 (.iload_n 1) 1 6 := ⟨by decide +kernel, rfl⟩
theorem d_X11_known_6 : DC mi_X11_known 6 (.iconst (-1)) 1 7 := ⟨by decide +kernel, rfl⟩
theorem d_X11_known_7 : DB mi_X11_known 7 (.if_icmp .lt 11) 11 10 18 := ⟨by decide +kernel, rfl, by decide⟩
theorem d_X11_known_10 : DC mi_X11_known 10 (.iload_n 1) 1 11 := ⟨by decide +kernel, rfl⟩
theorem d_X11_known_11 : DC mi_X11_known 11 (.aload_n 0) 1 12 := ⟨by decide +kernel, rfl⟩
theorem d_X11_known_12 : DC mi_X11_known 12 (.getfield 310) 3 15 := ⟨by decide +kernel, rfl⟩
theorem d_X11_known_15 : DB mi_X11_known 15 (.if_icmp .le 5) 5 18 20 := ⟨by decide +kernel, rfl, by decide⟩
theorem d_X11_known_18 : DC mi_X11_known 18 (.iconst 0) 1 19 := ⟨by decide +kernel, rfl⟩
theorem d_X11_known_19 : DC mi_X11_known 19 (.ireturn) 1 20 := ⟨by decide +kernel, rfl⟩
theorem d_X11_known_20 : DC mi_X11_known 20 (.aload_n 0) 1 21 := ⟨by decide +kernel, rfl⟩
theorem d_X11_known_21 : DC mi_X11_known 21 (.iload_n 1) 1 22 := ⟨by decide +kernel, rfl⟩
theorem d_X11_known_22 : DC mi_X11_known 22 (.putfield 120) 3 25 := ⟨by decide +kernel, rfl⟩
theorem d_X11_known_25 : DC mi_X11_known 25 (.iconst 1) 1 26 := ⟨by decide +kernel, rfl⟩
theorem d_X11_known_26 : DC mi_X11_known 26 (.ireturn) 1 27 := ⟨by decide +kernel, rfl⟩
set_option maxHeartbeats 4000000 in
set_option maxRecDepth 100000 in
theorem sp_X11_known (d : Nat) (hd : 0 ≤ d) (a0 : Int32) (h : HH) : Sp mi_X11_known d iI [.ref 255, .int a0] h (g_X11_known a0 h) := by
  refine sp_of (lc := [(0, .ref 255), (1, .int a0)]) (by decide) (Nat.le_of_ble_eq_true rfl) rfl ?_
  unfold g_X11_known
  refine sx_aload_n d_X11_known_0 0 rfl ?_
  refine sx_iconst d_X11_known_1 ic0 ?_
  refine sx_putI fl_StairCountModel_148 sh_255 rfl hty_11_0 d_X11_known_2 (fun h1 => ?_)
  refine sx_iload_n d_X11_known_5 1 rfl ?_
  refine sx_iconst d_X11_known_6 icm1 ?_
  refine sx_icmp_lt d_X11_known_7 ?_ ?_
  · refine sx_iconst d_X11_known_18 ic0 ?_
    exact sx_zret (by decide) rfl d_X11_known_19
  · refine sx_iload_n d_X11_known_10 1 rfl ?_
    refine sx_aload_n d_X11_known_11 0 rfl ?_
    refine sx_getI fl_StairCountModel_310 sh_255 rfl d_X11_known_12 (fun v2 => ?_)
    refine sx_icmp_le d_X11_known_15 ?_ ?_
    · refine sx_iconst d_X11_known_18 ic0 ?_
      exact sx_zret (by decide) rfl d_X11_known_19
    · refine sx_aload_n d_X11_known_20 0 rfl ?_
      refine sx_iload_n d_X11_known_21 1 rfl ?_
      refine sx_putI fl_StairCountModel_120 sh_255 rfl hty_11_57 d_X11_known_22 (fun h3 => ?_)
      refine sx_iconst d_X11_known_25 ic1 ?_
      exact sx_zret (by decide) rfl d_X11_known_26
theorem d_X11_knownMany_0 : DC mi_X11_knownMany 0 (.aload_n 0) 1 1 := ⟨by decide +kernel, rfl⟩
theorem d_X11_knownMany_1 : DC mi_X11_knownMany 1 (.getfield 120) 3 4 := ⟨by decide +kernel, rfl⟩
theorem d_X11_knownMany_4 : DC mi_X11_knownMany 4 (.iconst (-1)) 1 5 := ⟨by decide +kernel, rfl⟩
theorem d_X11_knownMany_5 : DB mi_X11_knownMany 5 (.if_icmp .ne 10) 10 8 15 := ⟨by decide +kernel, rfl, by decide⟩
theorem d_X11_knownMany_8 : DC mi_X11_knownMany 8 (.aload_n 0) 1 9 := ⟨by decide +kernel, rfl⟩
theorem d_X11_knownMany_9 : DC mi_X11_knownMany 9 (.getfield 310) 3 12 := ⟨by decide +kernel, rfl⟩
theorem d_X11_knownMany_12 : DB mi_X11_knownMany 12 (.goto 7) 7 15 19 := ⟨by decide +kernel, rfl, by decide⟩
theorem d_X11_knownMany_15 : DC mi_X11_knownMany 15 (.aload_n 0) 1 16 := ⟨by decide +kernel, rfl⟩
theorem d_X11_knownMany_16 : DC mi_X11_knownMany 16 (.getfield 120) 3 19 := ⟨by decide +kernel, rfl⟩
theorem d_X11_knownMany_19 : DC mi_X11_knownMany 19 (.ireturn) 1 20 := ⟨by decide +kernel, rfl⟩
set_option maxHeartbeats 4000000 in
set_option maxRecDepth 100000 in
theorem sp_X11_knownMany (d : Nat) (hd : 0 ≤ d) (h : HH) : Sp mi_X11_knownMany d iI [.ref 255] h (g_X11_knownMany h) := by
  refine sp_of (lc := [(0, .ref 255)]) (by decide) (Nat.le_of_ble_eq_true rfl) rfl ?_
  unfold g_X11_knownMany
  refine sx_aload_n d_X11_knownMany_0 0 rfl ?_
  refine sx_getI fl_StairCountModel_120 sh_255 rfl d_X11_knownMany_1 (fun v1 => ?_)
  refine sx_iconst d_X11_knownMany_4 icm1 ?_
  refine sx_icmp_ne d_X11_knownMany_5 ?_ ?_
  · refine sx_aload_n d_X11_knownMany_8 0 rfl ?_
    refine sx_getI fl_StairCountModel_310 sh_255 rfl d_X11_knownMany_9 (fun v2 => ?_)
    refine sx_goto d_X11_knownMany_12 ?_
    exact sx_iret rfl d_X11_knownMany_19
  · refine sx_aload_n d_X11_knownMany_15 0 rfl ?_
    refine sx_getI fl_StairCountModel_120 sh_255 rfl d_X11_knownMany_16 (fun v3 => ?_)
    exact sx_iret rfl d_X11_knownMany_19
