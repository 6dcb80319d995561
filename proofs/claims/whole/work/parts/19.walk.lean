/-! walks: X11_named, X11_is, X11_works, X11_goes, X11_hasLaw, X11_copies, X11_isPerson, X11_isFlight, X11_isFloor, X11_areOf, X11_forceOf, X11_manyOn, X11_tallyAt, X11_calls, X11_within, X11_steepWith, X11_steepOf, X11_canClimb, X11_doesFall -/
theorem d_X11_named_0 : DC mi_X11_named 0 (.aload_n 0) 1 1 := ⟨by decide +kernel, rfl⟩
theorem d_X11_named_1 : DC mi_X11_named 1 (.iconst 0) 1 2 := ⟨by decide +kernel, rfl⟩
theorem d_X11_named_2 : DC mi_X11_named 2 (.putfield 148) 3 5 := ⟨by decide +kernel, rfl⟩
theorem d_X11_named_5 : DC mi_X11_named 5 (.aload_n 0) 1 6 := ⟨by decide +kernel, rfl⟩
theorem d_X11_named_6 : DC mi_X11_named 6 (.getfield 19) 3 9 := ⟨by decide +kernel, rfl⟩
theorem d_X11_named_9 : DC mi_X11_named 9 (.iconst 0) 1 10 := ⟨by decide +kernel, rfl⟩
theorem d_X11_named_10 : DC mi_X11_named 10 (.aload_n 0) 1 11 := ⟨by decide +kernel, rfl⟩
theorem d_X11_named_11 : DC mi_X11_named 11 (.getfield 13) 3 14 := ⟨by decide +kernel, rfl⟩
theorem d_X11_named_14 : DC mi_X11_named 14 (.iconst 1) 1 15 := ⟨by decide +kernel, rfl⟩
theorem d_X11_named_15 : DC mi_X11_named 15 (.iaload) 1 16 := ⟨by decide +kernel, rfl⟩
theorem d_X11_named_16 : DC mi_X11_named 16 (.iload_n 1) 1 17 := ⟨by decide +kernel, rfl⟩
theorem d_X11_named_17 : DC mi_X11_named 17 (.invokestatic 214) 3 20 := ⟨by decide +kernel, rfl⟩
theorem d_X11_named_20 : DC mi_X11_named 20 (.ireturn) 1 21 := ⟨by decide +kernel, rfl⟩
set_option maxHeartbeats 4000000 in
set_option maxRecDepth 100000 in
theorem sp_X11_named (d : Nat) (hd : 1 ≤ d) (a0 : Int32) (h : HH) : Sp mi_X11_named d iI [.ref 255, .int a0] h (g_X11_named a0 h) := by
  refine sp_of (lc := [(0, .ref 255), (1, .int a0)]) (by decide) (Nat.le_of_ble_eq_true rfl) rfl ?_
  unfold g_X11_named
  refine sx_aload_n d_X11_named_0 0 rfl ?_
  refine sx_iconst d_X11_named_1 ic0 ?_
  refine sx_putI fl_StairCountModel_148 sh_255 rfl hty_11_0 d_X11_named_2 (fun h1 => ?_)
  refine sx_aload_n d_X11_named_5 0 rfl ?_
  refine sx_getF (a' := 259) fl_StairCountModel_19 sh_255 rfl rfl d_X11_named_6 ?_
  refine sx_iconst d_X11_named_9 ic0 ?_
  refine sx_aload_n d_X11_named_10 0 rfl ?_
  refine sx_getF (a' := 257) fl_StairCountModel_13 sh_255 rfl rfl d_X11_named_11 ?_
  refine sx_iconst d_X11_named_14 ic1 ?_
  refine sx_iald sh_257 d_X11_named_15 (fun v2 => ?_)
  refine sx_iload_n d_X11_named_16 1 rfl ?_
  refine sx_callS [.ref 259, .int (0 : Int32), .int v2, .int a0] ms_X11_found lM_StairCountModel_214 (by omega) rfl rfl (Nat.le_of_ble_eq_true rfl) d_X11_named_17 (sp_X11_found (d - 1) (by omega) (0 : Int32) v2 a0 h1) (fun r4 h3 => ?_)
  exact sx_iret rfl d_X11_named_20
theorem d_X11_is_0 : DC mi_X11_is 0 (.iload_n 0) 1 1 := ⟨by decide +kernel, rfl⟩
theorem d_X11_is_1 : DB mi_X11_is 1 (.ifCond .eq 7) 7 4 8 := ⟨by decide +kernel, rfl, by decide⟩
theorem d_X11_is_4 : DC mi_X11_is 4 (.lconst 1) 1 5 := ⟨by decide +kernel, rfl⟩
theorem d_X11_is_5 : DB mi_X11_is 5 (.goto 4) 4 8 9 := ⟨by decide +kernel, rfl, by decide⟩
theorem d_X11_is_8 : DC mi_X11_is 8 (.lconst 0) 1 9 := ⟨by decide +kernel, rfl⟩
theorem d_X11_is_9 : DC mi_X11_is 9 (.lreturn) 1 10 := ⟨by decide +kernel, rfl⟩
set_option maxHeartbeats 4000000 in
set_option maxRecDepth 100000 in
theorem sp_X11_is (d : Nat) (hd : 0 ≤ d) (a0 : Int32) (h : HH) : Sp mi_X11_is d iL [.int a0] h (g_X11_is a0 h) := by
  refine sp_of (lc := [(0, .int a0)]) (by decide) (Nat.le_of_ble_eq_true rfl) rfl ?_
  unfold g_X11_is
  refine sx_iload_n d_X11_is_0 0 rfl ?_
  refine sx_if_eq d_X11_is_1 ?_ ?_
  · refine sx_lconst d_X11_is_8 lc0 ?_
    exact sx_lret rfl d_X11_is_9
  · refine sx_lconst d_X11_is_4 lc1 ?_
    refine sx_goto d_X11_is_5 ?_
    exact sx_lret rfl d_X11_is_9
theorem d_X11_works_0 : DC mi_X11_works 0 (.aload_n 0) 1 1 := ⟨by decide +kernel, rfl⟩
theorem d_X11_works_1 : DC mi_X11_works 1 (.getfield 72) 3 4 := ⟨by decide +kernel, rfl⟩
theorem d_X11_works_4 : DC mi_X11_works 4 (.aload_n 0) 1 5 := ⟨by decide +kernel, rfl⟩
theorem d_X11_works_5 : DC mi_X11_works 5 (.getfield 320) 3 8 := ⟨by decide +kernel, rfl⟩
theorem d_X11_works_8 : DC mi_X11_works 8 (.iconst 1) 1 9 := ⟨by decide +kernel, rfl⟩
theorem d_X11_works_9 : DC mi_X11_works 9 (.isub) 1 10 := ⟨by decide +kernel, rfl⟩
theorem d_X11_works_10 : DC mi_X11_works 10 (.laload) 1 11 := ⟨by decide +kernel, rfl⟩
theorem d_X11_works_11 : DC mi_X11_works 11 (.lstore_n 2) 1 12 := ⟨by decide +kernel, rfl⟩
theorem d_X11_works_12 : DC mi_X11_works 12 (.iload_n 1) 1 13 := ⟨by decide +kernel, rfl⟩
theorem d_X11_works_13 : DC mi_X11_works 13 (.sipush 260) 3 16 := ⟨by decide +kernel, rfl⟩
theorem d_X11_works_16 : DB mi_X11_works 16 (.if_icmp .ne 30) 30 19 46 := ⟨by decide +kernel, rfl, by decide⟩
theorem d_X11_works_19 : DC mi_X11_works 19 (.aload_n 0) 1 20 := ⟨by decide +kernel, rfl⟩
theorem d_X11_works_20 : DC mi_X11_works 20 (.getfield 72) 3 23 := ⟨by decide +kernel, rfl⟩
theorem d_X11_works_23 : DC mi_X11_works 23 (.aload_n 0) 1 24 := ⟨by decide +kernel, rfl⟩
theorem d_X11_works_24 : DC mi_X11_works 24 (.getfield 320) 3 27 := ⟨by decide +kernel, rfl⟩
theorem d_X11_works_27 : DC mi_X11_works 27 (.iconst 1) 1 28 := ⟨by decide +kernel, rfl⟩
theorem d_X11_works_28 : DC mi_X11_works 28 (.isub) 1 29 := ⟨by decide +kernel, rfl⟩
theorem d_X11_works_29 : DC mi_X11_works 29 (.lload_n 2) 1 30 := ⟨by decide +kernel, rfl⟩
theorem d_X11_works_30 : DC mi_X11_works 30 (.lconst 0) 1 31 := ⟨by decide +kernel, rfl⟩
theorem d_X11_works_31 : DC mi_X11_works 31 (.lcmp) 1 32 := ⟨by decide +kernel, rfl⟩
theorem d_X11_works_32 : DB mi_X11_works 32 (.ifCond .ne 7) 7 35 39 := ⟨by decide +kernel, rfl, by decide⟩
theorem d_X11_works_35 : DC mi_X11_works 35 (.iconst 1) 1 36 := ⟨by decide +kernel, rfl⟩
theorem d_X11_works_36 : DB mi_X11_works 36 (.goto 4) 4 39 40 := ⟨by decide +kernel, rfl, by decide⟩
theorem d_X11_works_39 : DC mi_X11_works 39 (.iconst 0) 1 40 := ⟨by decide +kernel, rfl⟩
theorem d_X11_works_40 : DC mi_X11_works 40 (.invokestatic 323) 3 43 := ⟨by decide +kernel, rfl⟩
theorem d_X11_works_43 : DC mi_X11_works 43 (.lastore) 1 44 := ⟨by decide +kernel, rfl⟩
theorem d_X11_works_44 : DC mi_X11_works 44 (.iconst 1) 1 45 := ⟨by decide +kernel, rfl⟩
theorem d_X11_works_45 : DC mi_X11_works 45 (.ireturn) 1 46 := ⟨by decide +kernel, rfl⟩
theorem d_X11_works_46 : DC mi_X11_works 46 (.aload_n 0) 1 47 := ⟨by decide +kernel, rfl⟩
theorem d_X11_works_47 : DC mi_X11_works 47 (.getfield 72) 3 50 := ⟨by decide +kernel, rfl⟩
theorem d_X11_works_50 : DC mi_X11_works 50 (.aload_n 0) 1 51 := ⟨by decide +kernel, rfl⟩
theorem d_X11_works_51 : DC mi_X11_works 51 (.getfield 320) 3 54 := ⟨by decide +kernel, rfl⟩
theorem d_X11_works_54 : DC mi_X11_works 54 (.iconst 2) 1 55 := ⟨by decide +kernel, rfl⟩
theorem d_X11_works_55 : DC mi_X11_works 55 (.isub) 1 56 := ⟨by decide +kernel, rfl⟩
theorem d_X11_works_56 : DC mi_X11_works 56 (.laload) 1 57 := ⟨by decide +kernel, rfl⟩
theorem d_X11_works_57 : DC mi_X11_works 57 (.lstore 4) 2 59 := ⟨by decide +kernel, rfl⟩
theorem d_X11_works_59 : DC mi_X11_works 59 (.aload_n 0) 1 60 := ⟨by decide +kernel, rfl⟩
theorem d_X11_works_60 : DC mi_X11_works 60 (.dup) 1 61 := ⟨by decide +kernel, rfl⟩
theorem d_X11_works_61 : DC mi_X11_works 61 (.getfield 320) 3 64 := ⟨by decide +kernel, rfl⟩
theorem d_X11_works_64 : DC mi_X11_works 64 (.iconst 1) 1 65 := ⟨by decide +kernel, rfl⟩
theorem d_X11_works_65 : DC mi_X11_works 65 (.isub) 1 66 := ⟨by decide +kernel, rfl⟩
theorem d_X11_works_66 : DC mi_X11_works 66 (.putfield 320) 3 69 := ⟨by decide +kernel, rfl⟩
theorem d_X11_works_69 : DC mi_X11_works 69 (.iload_n 1) 1 70 := ⟨by decide +kernel, rfl⟩
theorem d_X11_works_70 : DW mi_X11_works 70 (.lookupswitch 314 #[(42, 116), (43, 98), (45, 107), (47, 151), (60, 168), (61, 208), (62, 188), (256, 228), (257, 268), (258, 248), (261, 288)]) := ⟨98, by decide +kernel⟩
theorem d_X11_works_168 : DC mi_X11_works 168 (.lload 4) 2 170 := ⟨by decide +kernel, rfl⟩
theorem d_X11_works_170 : DC mi_X11_works 170 (.lload_n 2) 1 171 := ⟨by decide +kernel, rfl⟩
theorem d_X11_works_171 : DC mi_X11_works 171 (.ladd) 1 172 := ⟨by decide +kernel, rfl⟩
theorem d_X11_works_172 : DC mi_X11_works 172 (.lstore 6) 2 174 := ⟨by decide +kernel, rfl⟩
theorem d_X11_works_174 : DB mi_X11_works 174 (.goto 233) 233 177 407 := ⟨by decide +kernel, rfl, by decide⟩
theorem d_X11_works_177 : DC mi_X11_works 177 (.lload 4) 2 179 := ⟨by decide +kernel, rfl⟩
theorem d_X11_works_179 : DC mi_X11_works 179 (.lload_n 2) 1 180 := ⟨by decide +kernel, rfl⟩
theorem d_X11_works_180 : DC mi_X11_works 180 (.lsub) 1 181 := ⟨by decide +kernel, rfl⟩
theorem d_X11_works_181 : DC mi_X11_works 181 (.lstore 6) 2 183 := ⟨by decide +kernel, rfl⟩
theorem d_X11_works_183 : DB mi_X11_works 183 (.goto 224) 224 186 407 := ⟨by decide +kernel, rfl, by decide⟩
theorem d_X11_works_186 : DC mi_X11_works 186 (.lload 4) 2 188 := ⟨by decide +kernel, rfl⟩
theorem d_X11_works_188 : DC mi_X11_works 188 (.lconst 0) 1 189 := ⟨by decide +kernel, rfl⟩
theorem d_X11_works_189 : DC mi_X11_works 189 (.lcmp) 1 190 := ⟨by decide +kernel, rfl⟩
theorem d_X11_works_190 : DB mi_X11_works 190 (.ifCond .eq 22) 22 193 212 := ⟨by decide +kernel, rfl, by decide⟩
theorem d_X11_works_193 : DC mi_X11_works 193 (.lload_n 2) 1 194 := ⟨by decide +kernel, rfl⟩
theorem d_X11_works_194 : DC mi_X11_works 194 (.invokestatic 327) 3 197 := ⟨by decide +kernel, rfl⟩
theorem d_X11_works_197 : DC mi_X11_works 197 (.ldc2_w 333) 3 200 := ⟨by decide +kernel, rfl⟩
theorem d_X11_works_200 : DC mi_X11_works 200 (.lload 4) 2 202 := ⟨by decide +kernel, rfl⟩
theorem d_X11_works_202 : DC mi_X11_works 202 (.invokestatic 327) 3 205 := ⟨by decide +kernel, rfl⟩
theorem d_X11_works_205 : DC mi_X11_works 205 (.ldiv) 1 206 := ⟨by decide +kernel, rfl⟩
theorem d_X11_works_206 : DC mi_X11_works 206 (.lcmp) 1 207 := ⟨by decide +kernel, rfl⟩
theorem d_X11_works_207 : DB mi_X11_works 207 (.ifCond .le 5) 5 210 212 := ⟨by decide +kernel, rfl, by decide⟩
theorem d_X11_works_210 : DC mi_X11_works 210 (.iconst 0) 1 211 := ⟨by decide +kernel, rfl⟩
theorem d_X11_works_211 : DC mi_X11_works 211 (.ireturn) 1 212 := ⟨by decide +kernel, rfl⟩
theorem d_X11_works_212 : DC mi_X11_works 212 (.lload 4) 2 214 := ⟨by decide +kernel, rfl⟩
theorem d_X11_works_214 : DC mi_X11_works 214 (.lload_n 2) 1 215 := ⟨by decide +kernel, rfl⟩
theorem d_X11_works_215 : DC mi_X11_works 215 (.lmul) 1 216 := ⟨by decide +kernel, rfl⟩
theorem d_X11_works_216 : DC mi_X11_works 216 (.lstore 6) 2 218 := ⟨by decide +kernel, rfl⟩
theorem d_X11_works_218 : DB mi_X11_works 218 (.goto 189) 189 221 407 := ⟨by decide +kernel, rfl, by decide⟩
theorem d_X11_works_221 : DC mi_X11_works 221 (.lload_n 2) 1 222 := ⟨by decide +kernel, rfl⟩
theorem d_X11_works_222 : DC mi_X11_works 222 (.lconst 0) 1 223 := ⟨by decide +kernel, rfl⟩
theorem d_X11_works_223 : DC mi_X11_works 223 (.lcmp) 1 224 := ⟨by decide +kernel, rfl⟩
theorem d_X11_works_224 : DB mi_X11_works 224 (.ifCond .ne 5) 5 227 229 := ⟨by decide +kernel, rfl, by decide⟩
theorem d_X11_works_227 : DC mi_X11_works 227 (.iconst 0) 1 228 := ⟨by decide +kernel, rfl⟩
theorem d_X11_works_228 : DC mi_X11_works 228 (.ireturn) 1 229 := ⟨by decide +kernel, rfl⟩
theorem d_X11_works_229 : DC mi_X11_works 229 (.lload 4) 2 231 := ⟨by decide +kernel, rfl⟩
theorem d_X11_works_231 : DC mi_X11_works 231 (.lload_n 2) 1 232 := ⟨by decide +kernel, rfl⟩
theorem d_X11_works_232 : DC mi_X11_works 232 (.ldiv) 1 233 := ⟨by decide +kernel, rfl⟩
theorem d_X11_works_233 : DC mi_X11_works 233 (.lstore 6) 2 235 := ⟨by decide +kernel, rfl⟩
theorem d_X11_works_235 : DB mi_X11_works 235 (.goto 172) 172 238 407 := ⟨by decide +kernel, rfl, by decide⟩
theorem d_X11_works_238 : DC mi_X11_works 238 (.lload 4) 2 240 := ⟨by decide +kernel, rfl⟩
theorem d_X11_works_240 : DC mi_X11_works 240 (.lload_n 2) 1 241 := ⟨by decide +kernel, rfl⟩
theorem d_X11_works_241 : DC mi_X11_works 241 (.lcmp) 1 242 := ⟨by decide +kernel, rfl⟩
theorem d_X11_works_242 : DB mi_X11_works 242 (.ifCond .ge 7) 7 245 249 := ⟨by decide +kernel, rfl, by decide⟩
theorem d_X11_works_245 : DC mi_X11_works 245 (.iconst 1) 1 246 := ⟨by decide +kernel, rfl⟩
theorem d_X11_works_246 : DB mi_X11_works 246 (.goto 4) 4 249 250 := ⟨by decide +kernel, rfl, by decide⟩
theorem d_X11_works_249 : DC mi_X11_works 249 (.iconst 0) 1 250 := ⟨by decide +kernel, rfl⟩
theorem d_X11_works_250 : DC mi_X11_works 250 (.invokestatic 323) 3 253 := ⟨by decide +kernel, rfl⟩
theorem d_X11_works_253 : DC mi_X11_works 253 (.lstore 6) 2 255 := ⟨by decide +kernel, rfl⟩
theorem d_X11_works_255 : DB mi_X11_works 255 (.goto 152) 152 258 407 := ⟨by decide +kernel, rfl, by decide⟩
theorem d_X11_works_258 : DC mi_X11_works 258 (.lload 4) 2 260 := ⟨by decide +kernel, rfl⟩
theorem d_X11_works_260 : DC mi_X11_works 260 (.lload_n 2) 1 261 := ⟨by decide +kernel, rfl⟩
theorem d_X11_works_261 : DC mi_X11_works 261 (.lcmp) 1 262 := ⟨by decide +kernel, rfl⟩
theorem d_X11_works_262 : DB mi_X11_works 262 (.ifCond .le 7) 7 265 269 := ⟨by decide +kernel, rfl, by decide⟩
theorem d_X11_works_265 : DC mi_X11_works 265 (.iconst 1) 1 266 := ⟨by decide +kernel, rfl⟩
theorem d_X11_works_266 : DB mi_X11_works 266 (.goto 4) 4 269 270 := ⟨by decide +kernel, rfl, by decide⟩
theorem d_X11_works_269 : DC mi_X11_works 269 (.iconst 0) 1 270 := ⟨by decide +kernel, rfl⟩
theorem d_X11_works_270 : DC mi_X11_works 270 (.invokestatic 323) 3 273 := ⟨by decide +kernel, rfl⟩
theorem d_X11_works_273 : DC mi_X11_works 273 (.lstore 6) 2 275 := ⟨by decide +kernel, rfl⟩
theorem d_X11_works_275 : DB mi_X11_works 275 (.goto 132) 132 278 407 := ⟨by decide +kernel, rfl, by decide⟩
theorem d_X11_works_278 : DC mi_X11_works 278 (.lload 4) 2 280 := ⟨by decide +kernel, rfl⟩
theorem d_X11_works_280 : DC mi_X11_works 280 (.lload_n 2) 1 281 := ⟨by decide +kernel, rfl⟩
theorem d_X11_works_281 : DC mi_X11_works 281 (.lcmp) 1 282 := ⟨by decide +kernel, rfl⟩
theorem d_X11_works_282 : DB mi_X11_works 282 (.ifCond .ne 7) 7 285 289 := ⟨by decide +kernel, rfl, by decide⟩
theorem d_X11_works_285 : DC mi_X11_works 285 (.iconst 1) 1 286 := ⟨by decide +kernel, rfl⟩
theorem d_X11_works_286 : DB mi_X11_works 286 (.goto 4) 4 289 290 := ⟨by decide +kernel, rfl, by decide⟩
theorem d_X11_works_289 : DC mi_X11_works 289 (.iconst 0) 1 290 := ⟨by decide +kernel, rfl⟩
theorem d_X11_works_290 : DC mi_X11_works 290 (.invokestatic 323) 3 293 := ⟨by decide +kernel, rfl⟩
theorem d_X11_works_293 : DC mi_X11_works 293 (.lstore 6) 2 295 := ⟨by decide +kernel, rfl⟩
theorem d_X11_works_295 : DB mi_X11_works 295 (.goto 112) 112 298 407 := ⟨by decide +kernel, rfl, by decide⟩
theorem d_X11_works_298 : DC mi_X11_works 298 (.lload 4) 2 300 := ⟨by decide +kernel, rfl⟩
theorem d_X11_works_300 : DC mi_X11_works 300 (.lload_n 2) 1 301 := ⟨by decide +kernel, rfl⟩
theorem d_X11_works_301 : DC mi_X11_works 301 (.lcmp) 1 302 := ⟨by decide +kernel, rfl⟩
theorem d_X11_works_302 : DB mi_X11_works 302 (.ifCond .gt 7) 7 305 309 := ⟨by decide +kernel, rfl, by decide⟩
theorem d_X11_works_305 : DC mi_X11_works 305 (.iconst 1) 1 306 := ⟨by decide +kernel, rfl⟩
theorem d_X11_works_306 : DB mi_X11_works 306 (.goto 4) 4 309 310 := ⟨by decide +kernel, rfl, by decide⟩
theorem d_X11_works_309 : DC mi_X11_works 309 (.iconst 0) 1 310 := ⟨by decide +kernel, rfl⟩
theorem d_X11_works_310 : DC mi_X11_works 310 (.invokestatic 323) 3 313 := ⟨by decide +kernel, rfl⟩
theorem d_X11_works_313 : DC mi_X11_works 313 (.lstore 6) 2 315 := ⟨by decide +kernel, rfl⟩
theorem d_X11_works_315 : DB mi_X11_works 315 (.goto 92) 92 318 407 := ⟨by decide +kernel, rfl, by decide⟩
theorem d_X11_works_318 : DC mi_X11_works 318 (.lload 4) 2 320 := ⟨by decide +kernel, rfl⟩
theorem d_X11_works_320 : DC mi_X11_works 320 (.lload_n 2) 1 321 := ⟨by decide +kernel, rfl⟩
theorem d_X11_works_321 : DC mi_X11_works 321 (.lcmp) 1 322 := ⟨by decide +kernel, rfl⟩
theorem d_X11_works_322 : DB mi_X11_works 322 (.ifCond .lt 7) 7 325 329 := ⟨by decide +kernel, rfl, by decide⟩
theorem d_X11_works_325 : DC mi_X11_works 325 (.iconst 1) 1 326 := ⟨by decide +kernel, rfl⟩
theorem d_X11_works_326 : DB mi_X11_works 326 (.goto 4) 4 329 330 := ⟨by decide +kernel, rfl, by decide⟩
theorem d_X11_works_329 : DC mi_X11_works 329 (.iconst 0) 1 330 := ⟨by decide +kernel, rfl⟩
theorem d_X11_works_330 : DC mi_X11_works 330 (.invokestatic 323) 3 333 := ⟨by decide +kernel, rfl⟩
theorem d_X11_works_333 : DC mi_X11_works 333 (.lstore 6) 2 335 := ⟨by decide +kernel, rfl⟩
theorem d_X11_works_335 : DB mi_X11_works 335 (.goto 72) 72 338 407 := ⟨by decide +kernel, rfl, by decide⟩
theorem d_X11_works_338 : DC mi_X11_works 338 (.lload 4) 2 340 := ⟨by decide +kernel, rfl⟩
theorem d_X11_works_340 : DC mi_X11_works 340 (.lload_n 2) 1 341 := ⟨by decide +kernel, rfl⟩
theorem d_X11_works_341 : DC mi_X11_works 341 (.lcmp) 1 342 := ⟨by decide +kernel, rfl⟩
theorem d_X11_works_342 : DB mi_X11_works 342 (.ifCond .eq 7) 7 345 349 := ⟨by decide +kernel, rfl, by decide⟩
theorem d_X11_works_345 : DC mi_X11_works 345 (.iconst 1) 1 346 := ⟨by decide +kernel, rfl⟩
theorem d_X11_works_346 : DB mi_X11_works 346 (.goto 4) 4 349 350 := ⟨by decide +kernel, rfl, by decide⟩
theorem d_X11_works_349 : DC mi_X11_works 349 (.iconst 0) 1 350 := ⟨by decide +kernel, rfl⟩
theorem d_X11_works_350 : DC mi_X11_works 350 (.invokestatic 323) 3 353 := ⟨by decide +kernel, rfl⟩
theorem d_X11_works_353 : DC mi_X11_works 353 (.lstore 6) 2 355 := ⟨by decide +kernel, rfl⟩
theorem d_X11_works_355 : DB mi_X11_works 355 (.goto 52) 52 358 407 := ⟨by decide +kernel, rfl, by decide⟩
theorem d_X11_works_358 : DC mi_X11_works 358 (.lload 4) 2 360 := ⟨by decide +kernel, rfl⟩
theorem d_X11_works_360 : DC mi_X11_works 360 (.lconst 0) 1 361 := ⟨by decide +kernel, rfl⟩
theorem d_X11_works_361 : DC mi_X11_works 361 (.lcmp) 1 362 := ⟨by decide +kernel, rfl⟩
theorem d_X11_works_362 : DB mi_X11_works 362 (.ifCond .eq 13) 13 365 375 := ⟨by decide +kernel, rfl, by decide⟩
theorem d_X11_works_365 : DC mi_X11_works 365 (.lload_n 2) 1 366 := ⟨by decide +kernel, rfl⟩
theorem d_X11_works_366 : DC mi_X11_works 366 (.lconst 0) 1 367 := ⟨by decide +kernel, rfl⟩
theorem d_X11_works_367 : DC mi_X11_works 367 (.lcmp) 1 368 := ⟨by decide +kernel, rfl⟩
theorem d_X11_works_368 : DB mi_X11_works 368 (.ifCond .eq 7) 7 371 375 := ⟨by decide +kernel, rfl, by decide⟩
theorem d_X11_works_371 : DC mi_X11_works 371 (.iconst 1) 1 372 := ⟨by decide +kernel, rfl⟩
theorem d_X11_works_372 : DB mi_X11_works 372 (.goto 4) 4 375 376 := ⟨by decide +kernel, rfl, by decide⟩
theorem d_X11_works_375 : DC mi_X11_works 375 (.iconst 0) 1 376 := ⟨by decide +kernel, rfl⟩
theorem d_X11_works_376 : DC mi_X11_works 376 (.invokestatic 323) 3 379 := ⟨by decide +kernel, rfl⟩
theorem d_X11_works_379 : DC mi_X11_works 379 (.lstore 6) 2 381 := ⟨by decide +kernel, rfl⟩
theorem d_X11_works_381 : DB mi_X11_works 381 (.goto 26) 26 384 407 := ⟨by decide +kernel, rfl, by decide⟩
theorem d_X11_works_384 : DC mi_X11_works 384 (.lload 4) 2 386 := ⟨by decide +kernel, rfl⟩
theorem d_X11_works_386 : DC mi_X11_works 386 (.lconst 0) 1 387 := ⟨by decide +kernel, rfl⟩
theorem d_X11_works_387 : DC mi_X11_works 387 (.lcmp) 1 388 := ⟨by decide +kernel, rfl⟩
theorem d_X11_works_388 : DB mi_X11_works 388 (.ifCond .ne 9) 9 391 397 := ⟨by decide +kernel, rfl, by decide⟩
theorem d_X11_works_391 : DC mi_X11_works 391 (.lload_n 2) 1 392 := ⟨by decide +kernel, rfl⟩
theorem d_X11_works_392 : DC mi_X11_works 392 (.lconst 0) 1 393 := ⟨by decide +kernel, rfl⟩
theorem d_X11_works_393 : DC mi_X11_works 393 (.lcmp) 1 394 := ⟨by decide +kernel, rfl⟩
theorem d_X11_works_394 : DB mi_X11_works 394 (.ifCond .eq 7) 7 397 401 := ⟨by decide +kernel, rfl, by decide⟩
theorem d_X11_works_397 : DC mi_X11_works 397 (.iconst 1) 1 398 := ⟨by decide +kernel, rfl⟩
theorem d_X11_works_398 : DB mi_X11_works 398 (.goto 4) 4 401 402 := ⟨by decide +kernel, rfl, by decide⟩
theorem d_X11_works_401 : DC mi_X11_works 401 (.iconst 0) 1 402 := ⟨by decide +kernel, rfl⟩
theorem d_X11_works_402 : DC mi_X11_works 402 (.invokestatic 323) 3 405 := ⟨by decide +kernel, rfl⟩
theorem d_X11_works_405 : DC mi_X11_works 405 (.lstore 6) 2 407 := ⟨by decide +kernel, rfl⟩
theorem d_X11_works_407 : DC mi_X11_works 407 (.aload_n 0) 1 408 := ⟨by decide +kernel, rfl⟩
theorem d_X11_works_408 : DC mi_X11_works 408 (.getfield 72) 3 411 := ⟨by decide +kernel, rfl⟩
theorem d_X11_works_411 : DC mi_X11_works 411 (.aload_n 0) 1 412 := ⟨by decide +kernel, rfl⟩
theorem d_X11_works_412 : DC mi_X11_works 412 (.getfield 320) 3 415 := ⟨by decide +kernel, rfl⟩
theorem d_X11_works_415 : DC mi_X11_works 415 (.iconst 1) 1 416 := ⟨by decide +kernel, rfl⟩
theorem d_X11_works_416 : DC mi_X11_works 416 (.isub) 1 417 := ⟨by decide +kernel, rfl⟩
theorem d_X11_works_417 : DC mi_X11_works 417 (.lload 6) 2 419 := ⟨by decide +kernel, rfl⟩
theorem d_X11_works_419 : DC mi_X11_works 419 (.lastore) 1 420 := ⟨by decide +kernel, rfl⟩
theorem d_X11_works_420 : DC mi_X11_works 420 (.lload 6) 2 422 := ⟨by decide +kernel, rfl⟩
theorem d_X11_works_422 : DC mi_X11_works 422 (.ldc2_w 333) 3 425 := ⟨by decide +kernel, rfl⟩
theorem d_X11_works_425 : DC mi_X11_works 425 (.lcmp) 1 426 := ⟨by decide +kernel, rfl⟩
theorem d_X11_works_426 : DB mi_X11_works 426 (.ifCond .gt 16) 16 429 442 := ⟨by decide +kernel, rfl, by decide⟩
theorem d_X11_works_429 : DC mi_X11_works 429 (.lload 6) 2 431 := ⟨by decide +kernel, rfl⟩
theorem d_X11_works_431 : DC mi_X11_works 431 (.ldc2_w 335) 3 434 := ⟨by decide +kernel, rfl⟩
theorem d_X11_works_434 : DC mi_X11_works 434 (.lcmp) 1 435 := ⟨by decide +kernel, rfl⟩
theorem d_X11_works_435 : DB mi_X11_works 435 (.ifCond .lt 7) 7 438 442 := ⟨by decide +kernel, rfl, by decide⟩
theorem d_X11_works_438 : DC mi_X11_works 438 (.iconst 1) 1 439 := ⟨by decide +kernel, rfl⟩
theorem d_X11_works_439 : DB mi_X11_works 439 (.goto 4) 4 442 443 := ⟨by decide +kernel, rfl, by decide⟩
theorem d_X11_works_442 : DC mi_X11_works 442 (.iconst 0) 1 443 := ⟨by decide +kernel, rfl⟩
theorem d_X11_works_443 : DC mi_X11_works 443 (.ireturn) 1 444 := ⟨by decide +kernel, rfl⟩
set_option maxHeartbeats 4000000 in
set_option maxRecDepth 100000 in
theorem sp_X11_works (d : Nat) (hd : 1 ≤ d) (a0 : Int32) (h : HH) : Sp mi_X11_works d iI [.ref 255, .int a0] h (g_X11_works a0 h) := by
  refine sp_of (lc := [(0, .ref 255), (1, .int a0)]) (by decide) (Nat.le_of_ble_eq_true rfl) rfl ?_
  unfold g_X11_works
  refine sx_aload_n d_X11_works_0 0 rfl ?_
  refine sx_getF (a' := 275) fl_StairCountModel_72 sh_255 rfl rfl d_X11_works_1 ?_
  refine sx_aload_n d_X11_works_4 0 rfl ?_
  refine sx_getI fl_StairCountModel_320 sh_255 rfl d_X11_works_5 (fun v1 => ?_)
  refine sx_iconst d_X11_works_8 ic1 ?_
  refine sx_isub d_X11_works_9 ?_
  refine sx_lald sh_275 d_X11_works_10 (fun v2 => ?_)
  refine sx_lstore_n (i := 2) (lc' := [(2, .long v2), (0, .ref 255), (1, .int a0)]) d_X11_works_11 rfl (by decide) rfl ?_
  refine sx_iload_n d_X11_works_12 2 rfl ?_
  refine sx_sipush d_X11_works_13 sc260 ?_
  refine sx_icmp_ne d_X11_works_16 ?_ ?_
  · refine sx_aload_n d_X11_works_19 1 rfl ?_
    refine sx_getF (a' := 275) fl_StairCountModel_72 sh_255 rfl rfl d_X11_works_20 ?_
    refine sx_aload_n d_X11_works_23 1 rfl ?_
    refine sx_getI fl_StairCountModel_320 sh_255 rfl d_X11_works_24 (fun v3 => ?_)
    refine sx_iconst d_X11_works_27 ic1 ?_
    refine sx_isub d_X11_works_28 ?_
    refine sx_lload_n d_X11_works_29 0 rfl ?_
    refine sx_lconst d_X11_works_30 lc0 ?_
    refine sx_lcmp d_X11_works_31 ?_
    refine sx_jn (fun j => ∀ (y7 : Int32) (h : HH), Sx mi_X11_works d iI (j y7 h) 40 [] [.int y7, .int (v3 - (1 : Int32)), .ref 275] h) ?_ ?_
    · intro y7 h6
      refine sx_callS [.int y7] ms_X11_is lM_StairCountModel_323 (by omega) rfl rfl (Nat.le_of_ble_eq_true rfl) d_X11_works_40 (sp_X11_is (d - 1) (by omega) y7 h6) (fun r9 h8 => ?_)
      refine sx_last sh_275 d_X11_works_43 (fun h10 => ?_)
      refine sx_iconst d_X11_works_44 ic1 ?_
      exact sx_zret (by decide) rfl d_X11_works_45
    · intro j4 k5
      refine sx_if_ne d_X11_works_32 ?_ ?_
      · refine sx_iconst d_X11_works_35 ic1 ?_
        refine sx_goto d_X11_works_36 ?_
        refine sx_lc (lc' := []) [] rfl ?_
        exact k5 (1 : Int32) h
      · refine sx_iconst d_X11_works_39 ic0 ?_
        refine sx_lc (lc' := []) [] rfl ?_
        exact k5 (0 : Int32) h
  · refine sx_aload_n d_X11_works_46 1 rfl ?_
    refine sx_getF (a' := 275) fl_StairCountModel_72 sh_255 rfl rfl d_X11_works_47 ?_
    refine sx_aload_n d_X11_works_50 1 rfl ?_
    refine sx_getI fl_StairCountModel_320 sh_255 rfl d_X11_works_51 (fun v11 => ?_)
    refine sx_iconst d_X11_works_54 ic2 ?_
    refine sx_isub d_X11_works_55 ?_
    refine sx_lald sh_275 d_X11_works_56 (fun v12 => ?_)
    refine sx_lstore (i := 4) (lc' := [(4, .long v12), (2, .long v2), (0, .ref 255), (1, .int a0)]) d_X11_works_57 (by decide) rfl ?_
    refine sx_aload_n d_X11_works_59 2 rfl ?_
    refine sx_dup d_X11_works_60 rfl ?_
    refine sx_getI fl_StairCountModel_320 sh_255 rfl d_X11_works_61 (fun v13 => ?_)
    refine sx_iconst d_X11_works_64 ic1 ?_
    refine sx_isub d_X11_works_65 ?_
    refine sx_putI fl_StairCountModel_320 sh_255 rfl hty_11_35 d_X11_works_66 (fun h14 => ?_)
    refine sx_iload_n d_X11_works_69 3 rfl ?_
    refine sx_jn (fun j => ∀ (u18 : Int64) (h : HH), Sx mi_X11_works d iI (j u18 h) 407 [(0, .ref 255), (6, .long u18)] [] h) ?_ ?_
    · intro u18 h17
      refine sx_aload_n d_X11_works_407 0 rfl ?_
      refine sx_getF (a' := 275) fl_StairCountModel_72 sh_255 rfl rfl d_X11_works_408 ?_
      refine sx_aload_n d_X11_works_411 0 rfl ?_
      refine sx_getI fl_StairCountModel_320 sh_255 rfl d_X11_works_412 (fun v19 => ?_)
      refine sx_iconst d_X11_works_415 ic1 ?_
      refine sx_isub d_X11_works_416 ?_
      refine sx_lload d_X11_works_417 1 rfl ?_
      refine sx_last sh_275 d_X11_works_419 (fun h20 => ?_)
      refine sx_lload d_X11_works_420 1 rfl ?_
      refine sx_ldc2 d_X11_works_422 lQ_StairCountModel_333 ?_
      refine sx_lcmp d_X11_works_425 ?_
      refine sx_if_gt d_X11_works_426 ?_ ?_
      · refine sx_iconst d_X11_works_442 ic0 ?_
        exact sx_zret (by decide) rfl d_X11_works_443
      · refine sx_lload d_X11_works_429 1 rfl ?_
        refine sx_ldc2 d_X11_works_431 lQ_StairCountModel_335 ?_
        refine sx_lcmp d_X11_works_434 ?_
        refine sx_if_lt d_X11_works_435 ?_ ?_
        · refine sx_iconst d_X11_works_442 ic0 ?_
          exact sx_zret (by decide) rfl d_X11_works_443
        · refine sx_iconst d_X11_works_438 ic1 ?_
          refine sx_goto d_X11_works_439 ?_
          exact sx_zret (by decide) rfl d_X11_works_443
    · intro j15 k16
      refine sx_if (fun e21 => ?_) (fun e21 => ?_)
      · refine sx_lsw (off := 116) (t := 186) d_X11_works_70 (by decide) (by rw [e21] <;> decide) (by decide) ?_
        refine sx_lload d_X11_works_186 0 rfl ?_
        refine sx_lconst d_X11_works_188 lc0 ?_
        refine sx_lcmp d_X11_works_189 ?_
        refine sx_jn (fun j => ∀  (h : HH), Sx mi_X11_works d iI (j  h) 212 [(0, .ref 255), (2, .long v2), (4, .long v12)] [] h) ?_ ?_
        · intro  h24
          refine sx_lload d_X11_works_212 2 rfl ?_
          refine sx_lload_n d_X11_works_214 1 rfl ?_
          refine sx_lmul d_X11_works_215 ?_
          refine sx_vlL (fun v25 => ?_)
          refine sx_lstore (i := 6) (lc' := [(6, .long v25), (0, .ref 255), (2, .long v2), (4, .long v12)]) d_X11_works_216 (by decide) rfl ?_
          refine sx_goto d_X11_works_218 ?_
          refine sx_lc (lc' := [(0, .ref 255), (6, .long v25)]) [1, 0] rfl ?_
          exact k16 v25 h24
        · intro j22 k23
          refine sx_if_eq d_X11_works_190 ?_ ?_
          · refine sx_lc (lc' := [(0, .ref 255), (2, .long v2), (4, .long v12)]) [2, 1, 0] rfl ?_
            exact k23 h14
          · refine sx_lload_n d_X11_works_193 1 rfl ?_
            refine sx_mabsL lM_StairCountModel_327 (by omega) (Nat.le_of_ble_eq_true rfl) d_X11_works_194 ?_
            refine sx_ldc2 d_X11_works_197 lQ_StairCountModel_333 ?_
            refine sx_lload d_X11_works_200 0 rfl ?_
            refine sx_mabsL lM_StairCountModel_327 (by omega) (Nat.le_of_ble_eq_true rfl) d_X11_works_202 ?_
            refine sx_ldiv d_X11_works_205 (fun v26 => ?_)
            refine sx_lcmp d_X11_works_206 ?_
            refine sx_if_le d_X11_works_207 ?_ ?_
            · refine sx_iconst d_X11_works_210 ic0 ?_
              exact sx_zret (by decide) rfl d_X11_works_211
            · refine sx_lc (lc' := [(0, .ref 255), (2, .long v2), (4, .long v12)]) [2, 1, 0] rfl ?_
              exact k23 h14
      · refine sx_if (fun e27 => ?_) (fun e27 => ?_)
        · refine sx_lsw (off := 98) (t := 168) d_X11_works_70 (by decide) (by rw [e27] <;> decide) (by decide) ?_
          refine sx_lload d_X11_works_168 0 rfl ?_
          refine sx_lload_n d_X11_works_170 1 rfl ?_
          refine sx_ladd d_X11_works_171 ?_
          refine sx_vlL (fun v28 => ?_)
          refine sx_lstore (i := 6) (lc' := [(6, .long v28), (4, .long v12), (2, .long v2), (0, .ref 255), (1, .int a0)]) d_X11_works_172 (by decide) rfl ?_
          refine sx_goto d_X11_works_174 ?_
          refine sx_lc (lc' := [(0, .ref 255), (6, .long v28)]) [3, 0] rfl ?_
          exact k16 v28 h14
        · refine sx_if (fun e29 => ?_) (fun e29 => ?_)
          · refine sx_lsw (off := 107) (t := 177) d_X11_works_70 (by decide) (by rw [e29] <;> decide) (by decide) ?_
            refine sx_lload d_X11_works_177 0 rfl ?_
            refine sx_lload_n d_X11_works_179 1 rfl ?_
            refine sx_lsub d_X11_works_180 ?_
            refine sx_vlL (fun v30 => ?_)
            refine sx_lstore (i := 6) (lc' := [(6, .long v30), (4, .long v12), (2, .long v2), (0, .ref 255), (1, .int a0)]) d_X11_works_181 (by decide) rfl ?_
            refine sx_goto d_X11_works_183 ?_
            refine sx_lc (lc' := [(0, .ref 255), (6, .long v30)]) [3, 0] rfl ?_
            exact k16 v30 h14
          · refine sx_if (fun e31 => ?_) (fun e31 => ?_)
            · refine sx_lsw (off := 151) (t := 221) d_X11_works_70 (by decide) (by rw [e31] <;> decide) (by decide) ?_
              refine sx_lload_n d_X11_works_221 1 rfl ?_
              refine sx_lconst d_X11_works_222 lc0 ?_
              refine sx_lcmp d_X11_works_223 ?_
              refine sx_if_ne d_X11_works_224 ?_ ?_
              · refine sx_iconst d_X11_works_227 ic0 ?_
                exact sx_zret (by decide) rfl d_X11_works_228
              · refine sx_lload d_X11_works_229 0 rfl ?_
                refine sx_lload_n d_X11_works_231 1 rfl ?_
                refine sx_ldiv d_X11_works_232 (fun v32 => ?_)
                refine sx_lstore (i := 6) (lc' := [(6, .long v32), (4, .long v12), (2, .long v2), (0, .ref 255), (1, .int a0)]) d_X11_works_233 (by decide) rfl ?_
                refine sx_goto d_X11_works_235 ?_
                refine sx_lc (lc' := [(0, .ref 255), (6, .long v32)]) [3, 0] rfl ?_
                exact k16 v32 h14
            · refine sx_if (fun e33 => ?_) (fun e33 => ?_)
              · refine sx_lsw (off := 168) (t := 238) d_X11_works_70 (by decide) (by rw [e33] <;> decide) (by decide) ?_
                refine sx_lload d_X11_works_238 0 rfl ?_
                refine sx_lload_n d_X11_works_240 1 rfl ?_
                refine sx_lcmp d_X11_works_241 ?_
                refine sx_jn (fun j => ∀ (y37 : Int32) (h : HH), Sx mi_X11_works d iI (j y37 h) 250 [(0, .ref 255)] [.int y37] h) ?_ ?_
                · intro y37 h36
                  refine sx_callS [.int y37] ms_X11_is lM_StairCountModel_323 (by omega) rfl rfl (Nat.le_of_ble_eq_true rfl) d_X11_works_250 (sp_X11_is (d - 1) (by omega) y37 h36) (fun r39 h38 => ?_)
                  refine sx_lstore (i := 6) (lc' := [(6, .long r39), (0, .ref 255)]) d_X11_works_253 (by decide) rfl ?_
                  refine sx_goto d_X11_works_255 ?_
                  refine sx_lc (lc' := [(0, .ref 255), (6, .long r39)]) [1, 0] rfl ?_
                  exact k16 r39 h38
                · intro j34 k35
                  refine sx_if_ge d_X11_works_242 ?_ ?_
                  · refine sx_iconst d_X11_works_245 ic1 ?_
                    refine sx_goto d_X11_works_246 ?_
                    refine sx_lc (lc' := [(0, .ref 255)]) [2] rfl ?_
                    exact k35 (1 : Int32) h14
                  · refine sx_iconst d_X11_works_249 ic0 ?_
                    refine sx_lc (lc' := [(0, .ref 255)]) [2] rfl ?_
                    exact k35 (0 : Int32) h14
              · refine sx_if (fun e40 => ?_) (fun e40 => ?_)
                · refine sx_lsw (off := 208) (t := 278) d_X11_works_70 (by decide) (by rw [e40] <;> decide) (by decide) ?_
                  refine sx_lload d_X11_works_278 0 rfl ?_
                  refine sx_lload_n d_X11_works_280 1 rfl ?_
                  refine sx_lcmp d_X11_works_281 ?_
                  refine sx_jn (fun j => ∀ (y44 : Int32) (h : HH), Sx mi_X11_works d iI (j y44 h) 290 [(0, .ref 255)] [.int y44] h) ?_ ?_
                  · intro y44 h43
                    refine sx_callS [.int y44] ms_X11_is lM_StairCountModel_323 (by omega) rfl rfl (Nat.le_of_ble_eq_true rfl) d_X11_works_290 (sp_X11_is (d - 1) (by omega) y44 h43) (fun r46 h45 => ?_)
                    refine sx_lstore (i := 6) (lc' := [(6, .long r46), (0, .ref 255)]) d_X11_works_293 (by decide) rfl ?_
                    refine sx_goto d_X11_works_295 ?_
                    refine sx_lc (lc' := [(0, .ref 255), (6, .long r46)]) [1, 0] rfl ?_
                    exact k16 r46 h45
                  · intro j41 k42
                    refine sx_if_ne d_X11_works_282 ?_ ?_
                    · refine sx_iconst d_X11_works_285 ic1 ?_
                      refine sx_goto d_X11_works_286 ?_
                      refine sx_lc (lc' := [(0, .ref 255)]) [2] rfl ?_
                      exact k42 (1 : Int32) h14
                    · refine sx_iconst d_X11_works_289 ic0 ?_
                      refine sx_lc (lc' := [(0, .ref 255)]) [2] rfl ?_
                      exact k42 (0 : Int32) h14
                · refine sx_if (fun e47 => ?_) (fun e47 => ?_)
                  · refine sx_lsw (off := 188) (t := 258) d_X11_works_70 (by decide) (by rw [e47] <;> decide) (by decide) ?_
                    refine sx_lload d_X11_works_258 0 rfl ?_
                    refine sx_lload_n d_X11_works_260 1 rfl ?_
                    refine sx_lcmp d_X11_works_261 ?_
                    refine sx_jn (fun j => ∀ (y51 : Int32) (h : HH), Sx mi_X11_works d iI (j y51 h) 270 [(0, .ref 255)] [.int y51] h) ?_ ?_
                    · intro y51 h50
                      refine sx_callS [.int y51] ms_X11_is lM_StairCountModel_323 (by omega) rfl rfl (Nat.le_of_ble_eq_true rfl) d_X11_works_270 (sp_X11_is (d - 1) (by omega) y51 h50) (fun r53 h52 => ?_)
                      refine sx_lstore (i := 6) (lc' := [(6, .long r53), (0, .ref 255)]) d_X11_works_273 (by decide) rfl ?_
                      refine sx_goto d_X11_works_275 ?_
                      refine sx_lc (lc' := [(0, .ref 255), (6, .long r53)]) [1, 0] rfl ?_
                      exact k16 r53 h52
                    · intro j48 k49
                      refine sx_if_le d_X11_works_262 ?_ ?_
                      · refine sx_iconst d_X11_works_265 ic1 ?_
                        refine sx_goto d_X11_works_266 ?_
                        refine sx_lc (lc' := [(0, .ref 255)]) [2] rfl ?_
                        exact k49 (1 : Int32) h14
                      · refine sx_iconst d_X11_works_269 ic0 ?_
                        refine sx_lc (lc' := [(0, .ref 255)]) [2] rfl ?_
                        exact k49 (0 : Int32) h14
                  · refine sx_if (fun e54 => ?_) (fun e54 => ?_)
                    · refine sx_lsw (off := 228) (t := 298) d_X11_works_70 (by decide) (by rw [e54] <;> decide) (by decide) ?_
                      refine sx_lload d_X11_works_298 0 rfl ?_
                      refine sx_lload_n d_X11_works_300 1 rfl ?_
                      refine sx_lcmp d_X11_works_301 ?_
                      refine sx_jn (fun j => ∀ (y58 : Int32) (h : HH), Sx mi_X11_works d iI (j y58 h) 310 [(0, .ref 255)] [.int y58] h) ?_ ?_
                      · intro y58 h57
                        refine sx_callS [.int y58] ms_X11_is lM_StairCountModel_323 (by omega) rfl rfl (Nat.le_of_ble_eq_true rfl) d_X11_works_310 (sp_X11_is (d - 1) (by omega) y58 h57) (fun r60 h59 => ?_)
                        refine sx_lstore (i := 6) (lc' := [(6, .long r60), (0, .ref 255)]) d_X11_works_313 (by decide) rfl ?_
                        refine sx_goto d_X11_works_315 ?_
                        refine sx_lc (lc' := [(0, .ref 255), (6, .long r60)]) [1, 0] rfl ?_
                        exact k16 r60 h59
                      · intro j55 k56
                        refine sx_if_gt d_X11_works_302 ?_ ?_
                        · refine sx_iconst d_X11_works_309 ic0 ?_
                          refine sx_lc (lc' := [(0, .ref 255)]) [2] rfl ?_
                          exact k56 (0 : Int32) h14
                        · refine sx_iconst d_X11_works_305 ic1 ?_
                          refine sx_goto d_X11_works_306 ?_
                          refine sx_lc (lc' := [(0, .ref 255)]) [2] rfl ?_
                          exact k56 (1 : Int32) h14
                    · refine sx_if (fun e61 => ?_) (fun e61 => ?_)
                      · refine sx_lsw (off := 268) (t := 338) d_X11_works_70 (by decide) (by rw [e61] <;> decide) (by decide) ?_
                        refine sx_lload d_X11_works_338 0 rfl ?_
                        refine sx_lload_n d_X11_works_340 1 rfl ?_
                        refine sx_lcmp d_X11_works_341 ?_
                        refine sx_jn (fun j => ∀ (y65 : Int32) (h : HH), Sx mi_X11_works d iI (j y65 h) 350 [(0, .ref 255)] [.int y65] h) ?_ ?_
                        · intro y65 h64
                          refine sx_callS [.int y65] ms_X11_is lM_StairCountModel_323 (by omega) rfl rfl (Nat.le_of_ble_eq_true rfl) d_X11_works_350 (sp_X11_is (d - 1) (by omega) y65 h64) (fun r67 h66 => ?_)
                          refine sx_lstore (i := 6) (lc' := [(6, .long r67), (0, .ref 255)]) d_X11_works_353 (by decide) rfl ?_
                          refine sx_goto d_X11_works_355 ?_
                          refine sx_lc (lc' := [(0, .ref 255), (6, .long r67)]) [1, 0] rfl ?_
                          exact k16 r67 h66
                        · intro j62 k63
                          refine sx_if_eq d_X11_works_342 ?_ ?_
                          · refine sx_iconst d_X11_works_349 ic0 ?_
                            refine sx_lc (lc' := [(0, .ref 255)]) [2] rfl ?_
                            exact k63 (0 : Int32) h14
                          · refine sx_iconst d_X11_works_345 ic1 ?_
                            refine sx_goto d_X11_works_346 ?_
                            refine sx_lc (lc' := [(0, .ref 255)]) [2] rfl ?_
                            exact k63 (1 : Int32) h14
                      · refine sx_if (fun e68 => ?_) (fun e68 => ?_)
                        · refine sx_lsw (off := 248) (t := 318) d_X11_works_70 (by decide) (by rw [e68] <;> decide) (by decide) ?_
                          refine sx_lload d_X11_works_318 0 rfl ?_
                          refine sx_lload_n d_X11_works_320 1 rfl ?_
                          refine sx_lcmp d_X11_works_321 ?_
                          refine sx_jn (fun j => ∀ (y72 : Int32) (h : HH), Sx mi_X11_works d iI (j y72 h) 330 [(0, .ref 255)] [.int y72] h) ?_ ?_
                          · intro y72 h71
                            refine sx_callS [.int y72] ms_X11_is lM_StairCountModel_323 (by omega) rfl rfl (Nat.le_of_ble_eq_true rfl) d_X11_works_330 (sp_X11_is (d - 1) (by omega) y72 h71) (fun r74 h73 => ?_)
                            refine sx_lstore (i := 6) (lc' := [(6, .long r74), (0, .ref 255)]) d_X11_works_333 (by decide) rfl ?_
                            refine sx_goto d_X11_works_335 ?_
                            refine sx_lc (lc' := [(0, .ref 255), (6, .long r74)]) [1, 0] rfl ?_
                            exact k16 r74 h73
                          · intro j69 k70
                            refine sx_if_lt d_X11_works_322 ?_ ?_
                            · refine sx_iconst d_X11_works_329 ic0 ?_
                              refine sx_lc (lc' := [(0, .ref 255)]) [2] rfl ?_
                              exact k70 (0 : Int32) h14
                            · refine sx_iconst d_X11_works_325 ic1 ?_
                              refine sx_goto d_X11_works_326 ?_
                              refine sx_lc (lc' := [(0, .ref 255)]) [2] rfl ?_
                              exact k70 (1 : Int32) h14
                        · refine sx_if (fun e75 => ?_) (fun e75 => ?_)
                          · refine sx_lsw (off := 288) (t := 358) d_X11_works_70 (by decide) (by rw [e75] <;> decide) (by decide) ?_
                            refine sx_lload d_X11_works_358 0 rfl ?_
                            refine sx_lconst d_X11_works_360 lc0 ?_
                            refine sx_lcmp d_X11_works_361 ?_
                            refine sx_jn (fun j => ∀ (y79 : Int32) (h : HH), Sx mi_X11_works d iI (j y79 h) 376 [(0, .ref 255)] [.int y79] h) ?_ ?_
                            · intro y79 h78
                              refine sx_callS [.int y79] ms_X11_is lM_StairCountModel_323 (by omega) rfl rfl (Nat.le_of_ble_eq_true rfl) d_X11_works_376 (sp_X11_is (d - 1) (by omega) y79 h78) (fun r81 h80 => ?_)
                              refine sx_lstore (i := 6) (lc' := [(6, .long r81), (0, .ref 255)]) d_X11_works_379 (by decide) rfl ?_
                              refine sx_goto d_X11_works_381 ?_
                              refine sx_lc (lc' := [(0, .ref 255), (6, .long r81)]) [1, 0] rfl ?_
                              exact k16 r81 h80
                            · intro j76 k77
                              refine sx_jn (fun j => ∀  (h : HH), Sx mi_X11_works d iI (j  h) 375 [(0, .ref 255)] [] h) ?_ ?_
                              · intro  h84
                                refine sx_iconst d_X11_works_375 ic0 ?_
                                exact k77 (0 : Int32) h84
                              · intro j82 k83
                                refine sx_if_eq d_X11_works_362 ?_ ?_
                                · refine sx_lc (lc' := [(0, .ref 255)]) [2] rfl ?_
                                  exact k83 h14
                                · refine sx_lload_n d_X11_works_365 1 rfl ?_
                                  refine sx_lconst d_X11_works_366 lc0 ?_
                                  refine sx_lcmp d_X11_works_367 ?_
                                  refine sx_if_eq d_X11_works_368 ?_ ?_
                                  · refine sx_lc (lc' := [(0, .ref 255)]) [2] rfl ?_
                                    exact k83 h14
                                  · refine sx_iconst d_X11_works_371 ic1 ?_
                                    refine sx_goto d_X11_works_372 ?_
                                    refine sx_lc (lc' := [(0, .ref 255)]) [2] rfl ?_
                                    exact k77 (1 : Int32) h14
                          · have q42 := ne_toInt (x := a0) (c := (42 : Int32)) (k := 42) e21 ti42
                            have q43 := ne_toInt (x := a0) (c := (43 : Int32)) (k := 43) e27 ti43
                            have q45 := ne_toInt (x := a0) (c := (45 : Int32)) (k := 45) e29 ti45
                            have q47 := ne_toInt (x := a0) (c := (47 : Int32)) (k := 47) e31 ti47
                            have q60 := ne_toInt (x := a0) (c := (60 : Int32)) (k := 60) e33 ti60
                            have q61 := ne_toInt (x := a0) (c := (61 : Int32)) (k := 61) e40 ti61
                            have q62 := ne_toInt (x := a0) (c := (62 : Int32)) (k := 62) e47 ti62
                            have q256 := ne_toInt (x := a0) (c := (256 : Int32)) (k := 256) e54 ti256
                            have q257 := ne_toInt (x := a0) (c := (257 : Int32)) (k := 257) e61 ti257
                            have q258 := ne_toInt (x := a0) (c := (258 : Int32)) (k := 258) e68 ti258
                            have q261 := ne_toInt (x := a0) (c := (261 : Int32)) (k := 261) e75 ti261
                            refine sx_lsw (off := 314) (t := 384) d_X11_works_70 (by decide) (by simp [Op.lookupswitch.offset, q42, q43, q45, q47, q60, q61, q62, q256, q257, q258, q261, Ne.symm q42, Ne.symm q43, Ne.symm q45, Ne.symm q47, Ne.symm q60, Ne.symm q61, Ne.symm q62, Ne.symm q256, Ne.symm q257, Ne.symm q258, Ne.symm q261]) (by decide) ?_
                            refine sx_lload d_X11_works_384 0 rfl ?_
                            refine sx_lconst d_X11_works_386 lc0 ?_
                            refine sx_lcmp d_X11_works_387 ?_
                            refine sx_jn (fun j => ∀ (y88 : Int32) (h : HH), Sx mi_X11_works d iI (j y88 h) 402 [(0, .ref 255)] [.int y88] h) ?_ ?_
                            · intro y88 h87
                              refine sx_callS [.int y88] ms_X11_is lM_StairCountModel_323 (by omega) rfl rfl (Nat.le_of_ble_eq_true rfl) d_X11_works_402 (sp_X11_is (d - 1) (by omega) y88 h87) (fun r90 h89 => ?_)
                              refine sx_lstore (i := 6) (lc' := [(6, .long r90), (0, .ref 255)]) d_X11_works_405 (by decide) rfl ?_
                              refine sx_lc (lc' := [(0, .ref 255), (6, .long r90)]) [1, 0] rfl ?_
                              exact k16 r90 h89
                            · intro j85 k86
                              refine sx_jn (fun j => ∀  (h : HH), Sx mi_X11_works d iI (j  h) 397 [(0, .ref 255)] [] h) ?_ ?_
                              · intro  h93
                                refine sx_iconst d_X11_works_397 ic1 ?_
                                refine sx_goto d_X11_works_398 ?_
                                exact k86 (1 : Int32) h93
                              · intro j91 k92
                                refine sx_if_ne d_X11_works_388 ?_ ?_
                                · refine sx_lload_n d_X11_works_391 1 rfl ?_
                                  refine sx_lconst d_X11_works_392 lc0 ?_
                                  refine sx_lcmp d_X11_works_393 ?_
                                  refine sx_if_eq d_X11_works_394 ?_ ?_
                                  · refine sx_iconst d_X11_works_401 ic0 ?_
                                    refine sx_lc (lc' := [(0, .ref 255)]) [2] rfl ?_
                                    exact k86 (0 : Int32) h14
                                  · refine sx_lc (lc' := [(0, .ref 255)]) [2] rfl ?_
                                    exact k92 h14
                                · refine sx_lc (lc' := [(0, .ref 255)]) [2] rfl ?_
                                  exact k92 h14
theorem d_X11_goes_0 : DC mi_X11_goes 0 (.aload_n 0) 1 1 := ⟨by decide +kernel, rfl⟩
theorem d_X11_goes_1 : DC mi_X11_goes 1 (.iconst 0) 1 2 := ⟨by decide +kernel, rfl⟩
theorem d_X11_goes_2 : DC mi_X11_goes 2 (.putfield 320) 3 5 := ⟨by decide +kernel, rfl⟩
theorem d_X11_goes_5 : DC mi_X11_goes 5 (.aload_n 0) 1 6 := ⟨by decide +kernel, rfl⟩
theorem d_X11_goes_6 : DC mi_X11_goes 6 (.getfield 52) 3 9 := ⟨by decide +kernel, rfl⟩
theorem d_X11_goes_9 : DC mi_X11_goes 9 (.iload_n 1) 1 10 := ⟨by decide +kernel, rfl⟩
theorem d_X11_goes_10 : DC mi_X11_goes 10 (.iaload) 1 11 := ⟨by decide +kernel, rfl⟩
theorem d_X11_goes_11 : DC mi_X11_goes 11 (.istore_n 2) 1 12 := ⟨by decide +kernel, rfl⟩
theorem d_X11_goes_12 : DC mi_X11_goes 12 (.iload_n 2) 1 13 := ⟨by decide +kernel, rfl⟩
theorem d_X11_goes_13 : DC mi_X11_goes 13 (.aload_n 0) 1 14 := ⟨by decide +kernel, rfl⟩
theorem d_X11_goes_14 : DC mi_X11_goes 14 (.getfield 55) 3 17 := ⟨by decide +kernel, rfl⟩
theorem d_X11_goes_17 : DC mi_X11_goes 17 (.iload_n 1) 1 18 := ⟨by decide +kernel, rfl⟩
theorem d_X11_goes_18 : DC mi_X11_goes 18 (.iaload) 1 19 := ⟨by decide +kernel, rfl⟩
theorem d_X11_goes_19 : DB mi_X11_goes 19 (.if_icmp .ge 83) 83 22 102 := ⟨by decide +kernel, rfl, by decide⟩
theorem d_X11_goes_22 : DC mi_X11_goes 22 (.aload_n 0) 1 23 := ⟨by decide +kernel, rfl⟩
theorem d_X11_goes_23 : DC mi_X11_goes 23 (.getfield 58) 3 26 := ⟨by decide +kernel, rfl⟩
theorem d_X11_goes_26 : DC mi_X11_goes 26 (.iload_n 2) 1 27 := ⟨by decide +kernel, rfl⟩
theorem d_X11_goes_27 : DC mi_X11_goes 27 (.iaload) 1 28 := ⟨by decide +kernel, rfl⟩
theorem d_X11_goes_28 : DC mi_X11_goes 28 (.iconst 2) 1 29 := ⟨by decide +kernel, rfl⟩
theorem d_X11_goes_29 : DB mi_X11_goes 29 (.if_icmp .ne 18) 18 32 47 := ⟨by decide +kernel, rfl, by decide⟩
theorem d_X11_goes_32 : DC mi_X11_goes 32 (.aload_n 0) 1 33 := ⟨by decide +kernel, rfl⟩
theorem d_X11_goes_33 : DC mi_X11_goes 33 (.aload_n 0) 1 34 := ⟨by decide +kernel, rfl⟩
theorem d_X11_goes_34 : DC mi_X11_goes 34 (.getfield 61) 3 37 := ⟨by decide +kernel, rfl⟩
theorem d_X11_goes_37 : DC mi_X11_goes 37 (.iload_n 2) 1 38 := ⟨by decide +kernel, rfl⟩
theorem d_X11_goes_38 : DC mi_X11_goes 38 (.iaload) 1 39 := ⟨by decide +kernel, rfl⟩
theorem d_X11_goes_39 : DC mi_X11_goes 39 (.invokevirtual 337) 3 42 := ⟨by decide +kernel, rfl⟩
theorem d_X11_goes_42 : DB mi_X11_goes 42 (.ifCond .ne 54) 54 45 96 := ⟨by decide +kernel, rfl, by decide⟩
theorem d_X11_goes_45 : DC mi_X11_goes 45 (.iconst 0) 1 46 := ⟨by decide +kernel, rfl⟩
theorem d_X11_goes_46 : DC mi_X11_goes 46 (.ireturn) 1 47 := ⟨by decide +kernel, rfl⟩
theorem d_X11_goes_47 : DC mi_X11_goes 47 (.aload_n 0) 1 48 := ⟨by decide +kernel, rfl⟩
theorem d_X11_goes_48 : DC mi_X11_goes 48 (.getfield 72) 3 51 := ⟨by decide +kernel, rfl⟩
theorem d_X11_goes_51 : DC mi_X11_goes 51 (.aload_n 0) 1 52 := ⟨by decide +kernel, rfl⟩
theorem d_X11_goes_52 : DC mi_X11_goes 52 (.getfield 320) 3 55 := ⟨by decide +kernel, rfl⟩
theorem d_X11_goes_55 : DC mi_X11_goes 55 (.aload_n 0) 1 56 := ⟨by decide +kernel, rfl⟩
theorem d_X11_goes_56 : DC mi_X11_goes 56 (.getfield 58) 3 59 := ⟨by decide +kernel, rfl⟩
theorem d_X11_goes_59 : DC mi_X11_goes 59 (.iload_n 2) 1 60 := ⟨by decide +kernel, rfl⟩
theorem d_X11_goes_60 : DC mi_X11_goes 60 (.iaload) 1 61 := ⟨by decide +kernel, rfl⟩
theorem d_X11_goes_61 : DB mi_X11_goes 61 (.ifCond .ne 13) 13 64 74 := ⟨by decide +kernel, rfl, by decide⟩
theorem d_X11_goes_64 : DC mi_X11_goes 64 (.aload_n 0) 1 65 := ⟨by decide +kernel, rfl⟩
theorem d_X11_goes_65 : DC mi_X11_goes 65 (.getfield 61) 3 68 := ⟨by decide +kernel, rfl⟩
theorem d_X11_goes_68 : DC mi_X11_goes 68 (.iload_n 2) 1 69 := ⟨by decide +kernel, rfl⟩
theorem d_X11_goes_69 : DC mi_X11_goes 69 (.iaload) 1 70 := ⟨by decide +kernel, rfl⟩
theorem d_X11_goes_70 : DC mi_X11_goes 70 (.i2l) 1 71 := ⟨by decide +kernel, rfl⟩
theorem d_X11_goes_71 : DB mi_X11_goes 71 (.goto 14) 14 74 85 := ⟨by decide +kernel, rfl, by decide⟩
theorem d_X11_goes_74 : DC mi_X11_goes 74 (.aload_n 0) 1 75 := ⟨by decide +kernel, rfl⟩
theorem d_X11_goes_75 : DC mi_X11_goes 75 (.getfield 68) 3 78 := ⟨by decide +kernel, rfl⟩
theorem d_X11_goes_78 : DC mi_X11_goes 78 (.aload_n 0) 1 79 := ⟨by decide +kernel, rfl⟩
theorem d_X11_goes_79 : DC mi_X11_goes 79 (.getfield 61) 3 82 := ⟨by decide +kernel, rfl⟩
theorem d_X11_goes_82 : DC mi_X11_goes 82 (.iload_n 2) 1 83 := ⟨by decide +kernel, rfl⟩
theorem d_X11_goes_83 : DC mi_X11_goes 83 (.iaload) 1 84 := ⟨by decide +kernel, rfl⟩
theorem d_X11_goes_84 : DC mi_X11_goes 84 (.laload) 1 85 := ⟨by decide +kernel, rfl⟩
theorem d_X11_goes_85 : DC mi_X11_goes 85 (.lastore) 1 86 := ⟨by decide +kernel, rfl⟩
theorem d_X11_goes_86 : DC mi_X11_goes 86 (.aload_n 0) 1 87 := ⟨by decide +kernel, rfl⟩
theorem d_X11_goes_87 : DC mi_X11_goes 87 (.dup) 1 88 := ⟨by decide +kernel, rfl⟩
theorem d_X11_goes_88 : DC mi_X11_goes 88 (.getfield 320) 3 91 := ⟨by decide +kernel, rfl⟩
theorem d_X11_goes_91 : DC mi_X11_goes 91 (.iconst 1) 1 92 := ⟨by decide +kernel, rfl⟩
theorem d_X11_goes_92 : DC mi_X11_goes 92 (.iadd) 1 93 := ⟨by decide +kernel, rfl⟩
theorem d_X11_goes_93 : DC mi_X11_goes 93 (.putfield 320) 3 96 := ⟨by decide +kernel, rfl⟩
theorem d_X11_goes_96 : DC mi_X11_goes 96 (.iinc 2 1) 3 99 := ⟨by decide +kernel, rfl⟩
theorem d_X11_goes_99 : DB mi_X11_goes 99 (.goto (-87)) (-87) 102 12 := ⟨by decide +kernel, rfl, by decide⟩
theorem d_X11_goes_102 : DC mi_X11_goes 102 (.iconst 1) 1 103 := ⟨by decide +kernel, rfl⟩
theorem d_X11_goes_103 : DC mi_X11_goes 103 (.ireturn) 1 104 := ⟨by decide +kernel, rfl⟩
set_option maxHeartbeats 4000000 in
set_option maxRecDepth 100000 in
theorem sL_X11_goes_12 (d : Nat) (hd : 2 ≤ d) (c1 : Int32) : ∀ (n : Nat) (x2 : Int32) (h : HH), Sx mi_X11_goes d iI (g_X11_goes_L12 c1 n x2 h) 12 [(0, .ref 255), (1, .int c1), (2, .int x2)] [] h := by
  intro n
  induction n with
  | zero => intro x2 h; exact sx_none
  | succ n ih =>
    intro x2 h
    rw [g_X11_goes_L12]
    refine sx_iload_n d_X11_goes_12 2 rfl ?_
    refine sx_aload_n d_X11_goes_13 0 rfl ?_
    refine sx_getF (a' := 271) fl_StairCountModel_55 sh_255 rfl rfl d_X11_goes_14 ?_
    refine sx_iload_n d_X11_goes_17 1 rfl ?_
    refine sx_iald sh_271 d_X11_goes_18 (fun v3 => ?_)
    refine sx_icmp_ge d_X11_goes_19 ?_ ?_
    · refine sx_aload_n d_X11_goes_22 0 rfl ?_
      refine sx_getF (a' := 272) fl_StairCountModel_58 sh_255 rfl rfl d_X11_goes_23 ?_
      refine sx_iload_n d_X11_goes_26 2 rfl ?_
      refine sx_iald sh_272 d_X11_goes_27 (fun v4 => ?_)
      refine sx_iconst d_X11_goes_28 ic2 ?_
      refine sx_jn (fun j => ∀  (h : HH), Sx mi_X11_goes d iI (j  h) 96 [(0, .ref 255), (1, .int c1), (2, .int x2)] [] h) ?_ ?_
      · intro  h7
        refine sx_iincV (lc' := fun v8 => [(2, .int v8), (0, .ref 255), (1, .int c1)]) (k0 := 2) d_X11_goes_96 rfl ii1 (by decide) (fun _ => rfl) (fun v8 => ?_)
        refine sx_goto d_X11_goes_99 ?_
        refine sx_lc (lc' := [(0, .ref 255), (1, .int c1), (2, .int v8)]) [1, 2, 0] rfl ?_
        exact ih v8 h7
      · intro j5 k6
        refine sx_icmp_ne d_X11_goes_29 ?_ ?_
        · refine sx_aload_n d_X11_goes_32 0 rfl ?_
          refine sx_aload_n d_X11_goes_33 0 rfl ?_
          refine sx_getF (a' := 273) fl_StairCountModel_61 sh_255 rfl rfl d_X11_goes_34 ?_
          refine sx_iload_n d_X11_goes_37 2 rfl ?_
          refine sx_iald sh_273 d_X11_goes_38 (fun v9 => ?_)
          refine sx_callV [.int v9] mv_X11_works lM_StairCountModel_337 sh_255 (by omega) rfl rfl (Nat.le_of_ble_eq_true rfl) d_X11_goes_39 (sp_X11_works (d - 1) (by omega) v9 h) (fun r11 h10 => ?_)
          refine sx_if_ne d_X11_goes_42 ?_ ?_
          · refine sx_iconst d_X11_goes_45 ic0 ?_
            exact sx_zret (by decide) rfl d_X11_goes_46
          · exact k6 h10
        · refine sx_aload_n d_X11_goes_47 0 rfl ?_
          refine sx_getF (a' := 275) fl_StairCountModel_72 sh_255 rfl rfl d_X11_goes_48 ?_
          refine sx_aload_n d_X11_goes_51 0 rfl ?_
          refine sx_getI fl_StairCountModel_320 sh_255 rfl d_X11_goes_52 (fun v12 => ?_)
          refine sx_aload_n d_X11_goes_55 0 rfl ?_
          refine sx_getF (a' := 272) fl_StairCountModel_58 sh_255 rfl rfl d_X11_goes_56 ?_
          refine sx_iload_n d_X11_goes_59 2 rfl ?_
          refine sx_iald sh_272 d_X11_goes_60 (fun v13 => ?_)
          refine sx_jn (fun j => ∀ (y17 : Int64) (h : HH), Sx mi_X11_goes d iI (j y17 h) 85 [(0, .ref 255), (1, .int c1), (2, .int x2)] [.long y17, .int v12, .ref 275] h) ?_ ?_
          · intro y17 h16
            refine sx_last sh_275 d_X11_goes_85 (fun h18 => ?_)
            refine sx_aload_n d_X11_goes_86 0 rfl ?_
            refine sx_dup d_X11_goes_87 rfl ?_
            refine sx_getI fl_StairCountModel_320 sh_255 rfl d_X11_goes_88 (fun v19 => ?_)
            refine sx_iconst d_X11_goes_91 ic1 ?_
            refine sx_iadd d_X11_goes_92 ?_
            refine sx_putI fl_StairCountModel_320 sh_255 rfl hty_11_35 d_X11_goes_93 (fun h20 => ?_)
            exact k6 h20
          · intro j14 k15
            refine sx_if_ne d_X11_goes_61 ?_ ?_
            · refine sx_aload_n d_X11_goes_64 0 rfl ?_
              refine sx_getF (a' := 273) fl_StairCountModel_61 sh_255 rfl rfl d_X11_goes_65 ?_
              refine sx_iload_n d_X11_goes_68 2 rfl ?_
              refine sx_iald sh_273 d_X11_goes_69 (fun v21 => ?_)
              refine sx_i2l d_X11_goes_70 ?_
              refine sx_goto d_X11_goes_71 ?_
              exact k15 (Int32.toInt64 v21) h
            · refine sx_aload_n d_X11_goes_74 0 rfl ?_
              refine sx_getF (a' := 274) fl_StairCountModel_68 sh_255 rfl rfl d_X11_goes_75 ?_
              refine sx_aload_n d_X11_goes_78 0 rfl ?_
              refine sx_getF (a' := 273) fl_StairCountModel_61 sh_255 rfl rfl d_X11_goes_79 ?_
              refine sx_iload_n d_X11_goes_82 2 rfl ?_
              refine sx_iald sh_273 d_X11_goes_83 (fun v22 => ?_)
              refine sx_lald sh_274 d_X11_goes_84 (fun v23 => ?_)
              exact k15 v23 h
    · refine sx_iconst d_X11_goes_102 ic1 ?_
      exact sx_zret (by decide) rfl d_X11_goes_103
set_option maxHeartbeats 4000000 in
set_option maxRecDepth 100000 in
theorem sp_X11_goes (d : Nat) (hd : 2 ≤ d) (a0 : Int32) (h : HH) : Sp mi_X11_goes d iI [.ref 255, .int a0] h (g_X11_goes a0 h) := by
  refine sp_of (lc := [(0, .ref 255), (1, .int a0)]) (by decide) (Nat.le_of_ble_eq_true rfl) rfl ?_
  unfold g_X11_goes
  refine sx_aload_n d_X11_goes_0 0 rfl ?_
  refine sx_iconst d_X11_goes_1 ic0 ?_
  refine sx_putI fl_StairCountModel_320 sh_255 rfl hty_11_35 d_X11_goes_2 (fun h1 => ?_)
  refine sx_aload_n d_X11_goes_5 0 rfl ?_
  refine sx_getF (a' := 270) fl_StairCountModel_52 sh_255 rfl rfl d_X11_goes_6 ?_
  refine sx_iload_n d_X11_goes_9 1 rfl ?_
  refine sx_iald sh_270 d_X11_goes_10 (fun v2 => ?_)
  refine sx_istore_n (i := 2) (lc' := [(2, .int v2), (0, .ref 255), (1, .int a0)]) d_X11_goes_11 rfl (by decide) rfl ?_
  refine sx_lc (lc' := [(0, .ref 255), (1, .int a0), (2, .int v2)]) [1, 2, 0] rfl ?_
  refine sL_X11_goes_12 d hd a0 1024 v2 h1
theorem d_X11_hasLaw_0 : DC mi_X11_hasLaw 0 (.aload_n 0) 1 1 := ⟨by decide +kernel, rfl⟩
theorem d_X11_hasLaw_1 : DC mi_X11_hasLaw 1 (.getfield 55) 3 4 := ⟨by decide +kernel, rfl⟩
theorem d_X11_hasLaw_4 : DC mi_X11_hasLaw 4 (.iload_n 1) 1 5 := ⟨by decide +kernel, rfl⟩
theorem d_X11_hasLaw_5 : DC mi_X11_hasLaw 5 (.iaload) 1 6 := ⟨by decide +kernel, rfl⟩
theorem d_X11_hasLaw_6 : DC mi_X11_hasLaw 6 (.aload_n 0) 1 7 := ⟨by decide +kernel, rfl⟩
theorem d_X11_hasLaw_7 : DC mi_X11_hasLaw 7 (.getfield 52) 3 10 := ⟨by decide +kernel, rfl⟩
theorem d_X11_hasLaw_10 : DC mi_X11_hasLaw 10 (.iload_n 1) 1 11 := ⟨by decide +kernel, rfl⟩
theorem d_X11_hasLaw_11 : DC mi_X11_hasLaw 11 (.iaload) 1 12 := ⟨by decide +kernel, rfl⟩
theorem d_X11_hasLaw_12 : DB mi_X11_hasLaw 12 (.if_icmp .le 7) 7 15 19 := ⟨by decide +kernel, rfl, by decide⟩
theorem d_X11_hasLaw_15 : DC mi_X11_hasLaw 15 (.iconst 1) 1 16 := ⟨by decide +kernel, rfl⟩
theorem d_X11_hasLaw_16 : DB mi_X11_hasLaw 16 (.goto 4) 4 19 20 := ⟨by decide +kernel, rfl, by decide⟩
theorem d_X11_hasLaw_19 : DC mi_X11_hasLaw 19 (.iconst 0) 1 20 := ⟨by decide +kernel, rfl⟩
theorem d_X11_hasLaw_20 : DC mi_X11_hasLaw 20 (.ireturn) 1 21 := ⟨by decide +kernel, rfl⟩
set_option maxHeartbeats 4000000 in
set_option maxRecDepth 100000 in
theorem sp_X11_hasLaw (d : Nat) (hd : 0 ≤ d) (a0 : Int32) (h : HH) : Sp mi_X11_hasLaw d iI [.ref 255, .int a0] h (g_X11_hasLaw a0 h) := by
  refine sp_of (lc := [(0, .ref 255), (1, .int a0)]) (by decide) (Nat.le_of_ble_eq_true rfl) rfl ?_
  unfold g_X11_hasLaw
  refine sx_aload_n d_X11_hasLaw_0 0 rfl ?_
  refine sx_getF (a' := 271) fl_StairCountModel_55 sh_255 rfl rfl d_X11_hasLaw_1 ?_
  refine sx_iload_n d_X11_hasLaw_4 1 rfl ?_
  refine sx_iald sh_271 d_X11_hasLaw_5 (fun v1 => ?_)
  refine sx_aload_n d_X11_hasLaw_6 0 rfl ?_
  refine sx_getF (a' := 270) fl_StairCountModel_52 sh_255 rfl rfl d_X11_hasLaw_7 ?_
  refine sx_iload_n d_X11_hasLaw_10 1 rfl ?_
  refine sx_iald sh_270 d_X11_hasLaw_11 (fun v2 => ?_)
  refine sx_icmp_le d_X11_hasLaw_12 ?_ ?_
  · refine sx_iconst d_X11_hasLaw_15 ic1 ?_
    refine sx_goto d_X11_hasLaw_16 ?_
    exact sx_zret (by decide) rfl d_X11_hasLaw_20
  · refine sx_iconst d_X11_hasLaw_19 ic0 ?_
    exact sx_zret (by decide) rfl d_X11_hasLaw_20
theorem d_X11_copies_0 : DC mi_X11_copies 0 (.aload_n 0) 1 1 := ⟨by decide +kernel, rfl⟩
theorem d_X11_copies_1 : DC mi_X11_copies 1 (.getfield 75) 3 4 := ⟨by decide +kernel, rfl⟩
theorem d_X11_copies_4 : DC mi_X11_copies 4 (.iload_n 1) 1 5 := ⟨by decide +kernel, rfl⟩
theorem d_X11_copies_5 : DC mi_X11_copies 5 (.aload_n 0) 1 6 := ⟨by decide +kernel, rfl⟩
theorem d_X11_copies_6 : DC mi_X11_copies 6 (.getfield 75) 3 9 := ⟨by decide +kernel, rfl⟩
theorem d_X11_copies_9 : DC mi_X11_copies 9 (.iload_n 2) 1 10 := ⟨by decide +kernel, rfl⟩
theorem d_X11_copies_10 : DC mi_X11_copies 10 (.iaload) 1 11 := ⟨by decide +kernel, rfl⟩
theorem d_X11_copies_11 : DC mi_X11_copies 11 (.iastore) 1 12 := ⟨by decide +kernel, rfl⟩
theorem d_X11_copies_12 : DC mi_X11_copies 12 (.aload_n 0) 1 13 := ⟨by decide +kernel, rfl⟩
theorem d_X11_copies_13 : DC mi_X11_copies 13 (.getfield 78) 3 16 := ⟨by decide +kernel, rfl⟩
theorem d_X11_copies_16 : DC mi_X11_copies 16 (.iload_n 1) 1 17 := ⟨by decide +kernel, rfl⟩
theorem d_X11_copies_17 : DC mi_X11_copies 17 (.aload_n 0) 1 18 := ⟨by decide +kernel, rfl⟩
theorem d_X11_copies_18 : DC mi_X11_copies 18 (.getfield 78) 3 21 := ⟨by decide +kernel, rfl⟩
theorem d_X11_copies_21 : DC mi_X11_copies 21 (.iload_n 2) 1 22 := ⟨by decide +kernel, rfl⟩
theorem d_X11_copies_22 : DC mi_X11_copies 22 (.iaload) 1 23 := ⟨by decide +kernel, rfl⟩
theorem d_X11_copies_23 : DC mi_X11_copies 23 (.iastore) 1 24 := ⟨by decide +kernel, rfl⟩
theorem d_X11_copies_24 : DC mi_X11_copies 24 (.iconst 0) 1 25 := ⟨by decide +kernel, rfl⟩
theorem d_X11_copies_25 : DC mi_X11_copies 25 (.istore_n 3) 1 26 := ⟨by decide +kernel, rfl⟩
theorem d_X11_copies_26 : DC mi_X11_copies 26 (.iload_n 3) 1 27 := ⟨by decide +kernel, rfl⟩
theorem d_X11_copies_27 : DC mi_X11_copies 27 (.bipush 6) 2 29 := ⟨by decide +kernel, rfl⟩
theorem d_X11_copies_29 : DB mi_X11_copies 29 (.if_icmp .ge 97) 97 32 126 := ⟨by decide +kernel, rfl, by decide⟩
theorem d_X11_copies_32 : DC mi_X11_copies 32 (.aload_n 0) 1 33 := ⟨by decide +kernel, rfl⟩
theorem d_X11_copies_33 : DC mi_X11_copies 33 (.getfield 81) 3 36 := ⟨by decide +kernel, rfl⟩
theorem d_X11_copies_36 : DC mi_X11_copies 36 (.bipush 6) 2 38 := ⟨by decide +kernel, rfl⟩
theorem d_X11_copies_38 : DC mi_X11_copies 38 (.iload_n 1) 1 39 := ⟨by decide +kernel, rfl⟩
theorem d_X11_copies_39 : DC mi_X11_copies 39 (.imul) 1 40 := ⟨by decide +kernel, rfl⟩
theorem d_X11_copies_40 : DC mi_X11_copies 40 (.iload_n 3) 1 41 := ⟨by decide +kernel, rfl⟩
theorem d_X11_copies_41 : DC mi_X11_copies 41 (.iadd) 1 42 := ⟨by decide +kernel, rfl⟩
theorem d_X11_copies_42 : DC mi_X11_copies 42 (.aload_n 0) 1 43 := ⟨by decide +kernel, rfl⟩
theorem d_X11_copies_43 : DC mi_X11_copies 43 (.getfield 81) 3 46 := ⟨by decide +kernel, rfl⟩
theorem d_X11_copies_46 : DC mi_X11_copies 46 (.bipush 6) 2 48 := ⟨by decide +kernel, rfl⟩
theorem d_X11_copies_48 : DC mi_X11_copies 48 (.iload_n 2) 1 49 := ⟨by decide +kernel, rfl⟩
theorem d_X11_copies_49 : DC mi_X11_copies 49 (.imul) 1 50 := ⟨by decide +kernel, rfl⟩
theorem d_X11_copies_50 : DC mi_X11_copies 50 (.iload_n 3) 1 51 := ⟨by decide +kernel, rfl⟩
theorem d_X11_copies_51 : DC mi_X11_copies 51 (.iadd) 1 52 := ⟨by decide +kernel, rfl⟩
theorem d_X11_copies_52 : DC mi_X11_copies 52 (.iaload) 1 53 := ⟨by decide +kernel, rfl⟩
theorem d_X11_copies_53 : DC mi_X11_copies 53 (.iastore) 1 54 := ⟨by decide +kernel, rfl⟩
theorem d_X11_copies_54 : DC mi_X11_copies 54 (.aload_n 0) 1 55 := ⟨by decide +kernel, rfl⟩
theorem d_X11_copies_55 : DC mi_X11_copies 55 (.getfield 84) 3 58 := ⟨by decide +kernel, rfl⟩
theorem d_X11_copies_58 : DC mi_X11_copies 58 (.bipush 6) 2 60 := ⟨by decide +kernel, rfl⟩
theorem d_X11_copies_60 : DC mi_X11_copies 60 (.iload_n 1) 1 61 := ⟨by decide +kernel, rfl⟩
theorem d_X11_copies_61 : DC mi_X11_copies 61 (.imul) 1 62 := ⟨by decide +kernel, rfl⟩
theorem d_X11_copies_62 : DC mi_X11_copies 62 (.iload_n 3) 1 63 := ⟨by decide +kernel, rfl⟩
theorem d_X11_copies_63 : DC mi_X11_copies 63 (.iadd) 1 64 := ⟨by decide +kernel, rfl⟩
theorem d_X11_copies_64 : DC mi_X11_copies 64 (.aload_n 0) 1 65 := ⟨by decide +kernel, rfl⟩
theorem d_X11_copies_65 : DC mi_X11_copies 65 (.getfield 84) 3 68 := ⟨by decide +kernel, rfl⟩
theorem d_X11_copies_68 : DC mi_X11_copies 68 (.bipush 6) 2 70 := ⟨by decide +kernel, rfl⟩
theorem d_X11_copies_70 : DC mi_X11_copies 70 (.iload_n 2) 1 71 := ⟨by decide +kernel, rfl⟩
theorem d_X11_copies_71 : DC mi_X11_copies 71 (.imul) 1 72 := ⟨by decide +kernel, rfl⟩
theorem d_X11_copies_72 : DC mi_X11_copies 72 (.iload_n 3) 1 73 := ⟨by decide +kernel, rfl⟩
theorem d_X11_copies_73 : DC mi_X11_copies 73 (.iadd) 1 74 := ⟨by decide +kernel, rfl⟩
theorem d_X11_copies_74 : DC mi_X11_copies 74 (.iaload) 1 75 := ⟨by decide +kernel, rfl⟩
theorem d_X11_copies_75 : DC mi_X11_copies 75 (.iastore) 1 76 := ⟨by decide +kernel, rfl⟩
theorem d_X11_copies_76 : DC mi_X11_copies 76 (.aload_n 0) 1 77 := ⟨by decide +kernel, rfl⟩
theorem d_X11_copies_77 : DC mi_X11_copies 77 (.getfield 87) 3 80 := ⟨by decide +kernel, rfl⟩
theorem d_X11_copies_80 : DC mi_X11_copies 80 (.bipush 6) 2 82 := ⟨by decide +kernel, rfl⟩
theorem d_X11_copies_82 : DC mi_X11_copies 82 (.iload_n 1) 1 83 := ⟨by decide +kernel, rfl⟩
theorem d_X11_copies_83 : DC mi_X11_copies 83 (.imul) 1 84 := ⟨by decide +kernel, rfl⟩
theorem d_X11_copies_84 : DC mi_X11_copies 84 (.iload_n 3) 1 85 := ⟨by decide +kernel, rfl⟩
theorem d_X11_copies_85 : DC mi_X11_copies 85 (.iadd) 1 86 := ⟨by decide +kernel, rfl⟩
theorem d_X11_copies_86 : DC mi_X11_copies 86 (.aload_n 0) 1 87 := ⟨by decide +kernel, rfl⟩
theorem d_X11_copies_87 : DC mi_X11_copies 87 (.getfield 87) 3 90 := ⟨by decide +kernel, rfl⟩
theorem d_X11_copies_90 : DC mi_X11_copies 90 (.bipush 6) 2 92 := ⟨by decide +kernel, rfl⟩
theorem d_X11_copies_92 : DC mi_X11_copies 92 (.iload_n 2) 1 93 := ⟨by decide +kernel, rfl⟩
theorem d_X11_copies_93 : DC mi_X11_copies 93 (.imul) 1 94 := ⟨by decide +kernel, rfl⟩
theorem d_X11_copies_94 : DC mi_X11_copies 94 (.iload_n 3) 1 95 := ⟨by decide +kernel, rfl⟩
theorem d_X11_copies_95 : DC mi_X11_copies 95 (.iadd) 1 96 := ⟨by decide +kernel, rfl⟩
theorem d_X11_copies_96 : DC mi_X11_copies 96 (.iaload) 1 97 := ⟨by decide +kernel, rfl⟩
theorem d_X11_copies_97 : DC mi_X11_copies 97 (.iastore) 1 98 := ⟨by decide +kernel, rfl⟩
theorem d_X11_copies_98 : DC mi_X11_copies 98 (.aload_n 0) 1 99 := ⟨by decide +kernel, rfl⟩
theorem d_X11_copies_99 : DC mi_X11_copies 99 (.getfield 90) 3 102 := ⟨by decide +kernel, rfl⟩
theorem d_X11_copies_102 : DC mi_X11_copies 102 (.bipush 6) 2 104 := ⟨by decide +kernel, rfl⟩
theorem d_X11_copies_104 : DC mi_X11_copies 104 (.iload_n 1) 1 105 := ⟨by decide +kernel, rfl⟩
theorem d_X11_copies_105 : DC mi_X11_copies 105 (.imul) 1 106 := ⟨by decide +kernel, rfl⟩
theorem d_X11_copies_106 : DC mi_X11_copies 106 (.iload_n 3) 1 107 := ⟨by decide +kernel, rfl⟩
theorem d_X11_copies_107 : DC mi_X11_copies 107 (.iadd) 1 108 := ⟨by decide +kernel, rfl⟩
theorem d_X11_copies_108 : DC mi_X11_copies 108 (.aload_n 0) 1 109 := ⟨by decide +kernel, rfl⟩
theorem d_X11_copies_109 : DC mi_X11_copies 109 (.getfield 90) 3 112 := ⟨by decide +kernel, rfl⟩
theorem d_X11_copies_112 : DC mi_X11_copies 112 (.bipush 6) 2 114 := ⟨by decide +kernel, rfl⟩
theorem d_X11_copies_114 : DC mi_X11_copies 114 (.iload_n 2) 1 115 := ⟨by decide +kernel, rfl⟩
theorem d_X11_copies_115 : DC mi_X11_copies 115 (.imul) 1 116 := ⟨by decide +kernel, rfl⟩
theorem d_X11_copies_116 : DC mi_X11_copies 116 (.iload_n 3) 1 117 := ⟨by decide +kernel, rfl⟩
theorem d_X11_copies_117 : DC mi_X11_copies 117 (.iadd) 1 118 := ⟨by decide +kernel, rfl⟩
theorem d_X11_copies_118 : DC mi_X11_copies 118 (.iaload) 1 119 := ⟨by decide +kernel, rfl⟩
theorem d_X11_copies_119 : DC mi_X11_copies 119 (.iastore) 1 120 := ⟨by decide +kernel, rfl⟩
theorem d_X11_copies_120 : DC mi_X11_copies 120 (.iinc 3 1) 3 123 := ⟨by decide +kernel, rfl⟩
theorem d_X11_copies_123 : DB mi_X11_copies 123 (.goto (-97)) (-97) 126 26 := ⟨by decide +kernel, rfl, by decide⟩
theorem d_X11_copies_126 : DC mi_X11_copies 126 (.iconst 0) 1 127 := ⟨by decide +kernel, rfl⟩
theorem d_X11_copies_127 : DC mi_X11_copies 127 (.istore_n 3) 1 128 := ⟨by decide +kernel, rfl⟩
theorem d_X11_copies_128 : DC mi_X11_copies 128 (.iload_n 3) 1 129 := ⟨by decide +kernel, rfl⟩
theorem d_X11_copies_129 : DC mi_X11_copies 129 (.bipush 36) 2 131 := ⟨by decide +kernel, rfl⟩
theorem d_X11_copies_131 : DB mi_X11_copies 131 (.if_icmp .ge 31) 31 134 162 := ⟨by decide +kernel, rfl, by decide⟩
theorem d_X11_copies_134 : DC mi_X11_copies 134 (.aload_n 0) 1 135 := ⟨by decide +kernel, rfl⟩
theorem d_X11_copies_135 : DC mi_X11_copies 135 (.getfield 93) 3 138 := ⟨by decide +kernel, rfl⟩
theorem d_X11_copies_138 : DC mi_X11_copies 138 (.bipush 36) 2 140 := ⟨by decide +kernel, rfl⟩
theorem d_X11_copies_140 : DC mi_X11_copies 140 (.iload_n 1) 1 141 := ⟨by decide +kernel, rfl⟩
theorem d_X11_copies_141 : DC mi_X11_copies 141 (.imul) 1 142 := ⟨by decide +kernel, rfl⟩
theorem d_X11_copies_142 : DC mi_X11_copies 142 (.iload_n 3) 1 143 := ⟨by decide +kernel, rfl⟩
theorem d_X11_copies_143 : DC mi_X11_copies 143 (.iadd) 1 144 := ⟨by decide +kernel, rfl⟩
theorem d_X11_copies_144 : DC mi_X11_copies 144 (.aload_n 0) 1 145 := ⟨by decide +kernel, rfl⟩
theorem d_X11_copies_145 : DC mi_X11_copies 145 (.getfield 93) 3 148 := ⟨by decide +kernel, rfl⟩
theorem d_X11_copies_148 : DC mi_X11_copies 148 (.bipush 36) 2 150 := ⟨by decide +kernel, rfl⟩
theorem d_X11_copies_150 : DC mi_X11_copies 150 (.iload_n 2) 1 151 := ⟨by decide +kernel, rfl⟩
theorem d_X11_copies_151 : DC mi_X11_copies 151 (.imul) 1 152 := ⟨by decide +kernel, rfl⟩
theorem d_X11_copies_152 : DC mi_X11_copies 152 (.iload_n 3) 1 153 := ⟨by decide +kernel, rfl⟩
theorem d_X11_copies_153 : DC mi_X11_copies 153 (.iadd) 1 154 := ⟨by decide +kernel, rfl⟩
theorem d_X11_copies_154 : DC mi_X11_copies 154 (.iaload) 1 155 := ⟨by decide +kernel, rfl⟩
theorem d_X11_copies_155 : DC mi_X11_copies 155 (.iastore) 1 156 := ⟨by decide +kernel, rfl⟩
theorem d_X11_copies_156 : DC mi_X11_copies 156 (.iinc 3 1) 3 159 := ⟨by decide +kernel, rfl⟩
theorem d_X11_copies_159 : DB mi_X11_copies 159 (.goto (-31)) (-31) 162 128 := ⟨by decide +kernel, rfl, by decide⟩
theorem d_X11_copies_162 : DC mi_X11_copies 162 (.return_) 1 163 := ⟨by decide +kernel, rfl⟩
set_option maxHeartbeats 4000000 in
set_option maxRecDepth 100000 in
theorem sL_X11_copies_26 (d : Nat) (hd : 0 ≤ d) (K126 : HH → Option (Unit × HH)) (c1 : Int32) (c2 : Int32) (hK126 : ∀ (h : HH), Sx mi_X11_copies d iU (K126 h) 126 [(0, .ref 255), (1, .int c1), (2, .int c2)] [] h) : ∀ (n : Nat) (x3 : Int32) (h : HH), Sx mi_X11_copies d iU (g_X11_copies_L26 K126 c1 c2 n x3 h) 26 [(0, .ref 255), (1, .int c1), (2, .int c2), (3, .int x3)] [] h := by
  intro n
  induction n with
  | zero => intro x3 h; exact sx_none
  | succ n ih =>
    intro x3 h
    rw [g_X11_copies_L26]
    refine sx_iload_n d_X11_copies_26 3 rfl ?_
    refine sx_bipush d_X11_copies_27 bc6 ?_
    refine sx_icmp_ge d_X11_copies_29 ?_ ?_
    · refine sx_aload_n d_X11_copies_32 0 rfl ?_
      refine sx_getF (a' := 278) fl_StairCountModel_81 sh_255 rfl rfl d_X11_copies_33 ?_
      refine sx_bipush d_X11_copies_36 bc6 ?_
      refine sx_iload_n d_X11_copies_38 1 rfl ?_
      refine sx_imul d_X11_copies_39 ?_
      refine sx_iload_n d_X11_copies_40 3 rfl ?_
      refine sx_iadd d_X11_copies_41 ?_
      refine sx_aload_n d_X11_copies_42 0 rfl ?_
      refine sx_getF (a' := 278) fl_StairCountModel_81 sh_255 rfl rfl d_X11_copies_43 ?_
      refine sx_bipush d_X11_copies_46 bc6 ?_
      refine sx_iload_n d_X11_copies_48 2 rfl ?_
      refine sx_imul d_X11_copies_49 ?_
      refine sx_iload_n d_X11_copies_50 3 rfl ?_
      refine sx_iadd d_X11_copies_51 ?_
      refine sx_iald sh_278 d_X11_copies_52 (fun v5 => ?_)
      refine sx_iast sh_278 d_X11_copies_53 (fun h6 => ?_)
      refine sx_aload_n d_X11_copies_54 0 rfl ?_
      refine sx_getF (a' := 279) fl_StairCountModel_84 sh_255 rfl rfl d_X11_copies_55 ?_
      refine sx_bipush d_X11_copies_58 bc6 ?_
      refine sx_iload_n d_X11_copies_60 1 rfl ?_
      refine sx_imul d_X11_copies_61 ?_
      refine sx_iload_n d_X11_copies_62 3 rfl ?_
      refine sx_iadd d_X11_copies_63 ?_
      refine sx_aload_n d_X11_copies_64 0 rfl ?_
      refine sx_getF (a' := 279) fl_StairCountModel_84 sh_255 rfl rfl d_X11_copies_65 ?_
      refine sx_bipush d_X11_copies_68 bc6 ?_
      refine sx_iload_n d_X11_copies_70 2 rfl ?_
      refine sx_imul d_X11_copies_71 ?_
      refine sx_iload_n d_X11_copies_72 3 rfl ?_
      refine sx_iadd d_X11_copies_73 ?_
      refine sx_iald sh_279 d_X11_copies_74 (fun v7 => ?_)
      refine sx_iast sh_279 d_X11_copies_75 (fun h8 => ?_)
      refine sx_aload_n d_X11_copies_76 0 rfl ?_
      refine sx_getF (a' := 280) fl_StairCountModel_87 sh_255 rfl rfl d_X11_copies_77 ?_
      refine sx_bipush d_X11_copies_80 bc6 ?_
      refine sx_iload_n d_X11_copies_82 1 rfl ?_
      refine sx_imul d_X11_copies_83 ?_
      refine sx_iload_n d_X11_copies_84 3 rfl ?_
      refine sx_iadd d_X11_copies_85 ?_
      refine sx_aload_n d_X11_copies_86 0 rfl ?_
      refine sx_getF (a' := 280) fl_StairCountModel_87 sh_255 rfl rfl d_X11_copies_87 ?_
      refine sx_bipush d_X11_copies_90 bc6 ?_
      refine sx_iload_n d_X11_copies_92 2 rfl ?_
      refine sx_imul d_X11_copies_93 ?_
      refine sx_iload_n d_X11_copies_94 3 rfl ?_
      refine sx_iadd d_X11_copies_95 ?_
      refine sx_iald sh_280 d_X11_copies_96 (fun v9 => ?_)
      refine sx_iast sh_280 d_X11_copies_97 (fun h10 => ?_)
      refine sx_aload_n d_X11_copies_98 0 rfl ?_
      refine sx_getF (a' := 281) fl_StairCountModel_90 sh_255 rfl rfl d_X11_copies_99 ?_
      refine sx_bipush d_X11_copies_102 bc6 ?_
      refine sx_iload_n d_X11_copies_104 1 rfl ?_
      refine sx_imul d_X11_copies_105 ?_
      refine sx_iload_n d_X11_copies_106 3 rfl ?_
      refine sx_iadd d_X11_copies_107 ?_
      refine sx_aload_n d_X11_copies_108 0 rfl ?_
      refine sx_getF (a' := 281) fl_StairCountModel_90 sh_255 rfl rfl d_X11_copies_109 ?_
      refine sx_bipush d_X11_copies_112 bc6 ?_
      refine sx_iload_n d_X11_copies_114 2 rfl ?_
      refine sx_imul d_X11_copies_115 ?_
      refine sx_iload_n d_X11_copies_116 3 rfl ?_
      refine sx_iadd d_X11_copies_117 ?_
      refine sx_iald sh_281 d_X11_copies_118 (fun v11 => ?_)
      refine sx_iast sh_281 d_X11_copies_119 (fun h12 => ?_)
      refine sx_iincV (lc' := fun v13 => [(3, .int v13), (0, .ref 255), (1, .int c1), (2, .int c2)]) (k0 := 3) d_X11_copies_120 rfl ii1 (by decide) (fun _ => rfl) (fun v13 => ?_)
      refine sx_goto d_X11_copies_123 ?_
      refine sx_lc (lc' := [(0, .ref 255), (1, .int c1), (2, .int c2), (3, .int v13)]) [1, 2, 3, 0] rfl ?_
      exact ih v13 h12
    · refine sx_lc (lc' := [(0, .ref 255), (1, .int c1), (2, .int c2)]) [0, 1, 2] rfl ?_
      exact hK126 h
set_option maxHeartbeats 4000000 in
set_option maxRecDepth 100000 in
theorem sL_X11_copies_128 (d : Nat) (hd : 0 ≤ d) (c1 : Int32) (c2 : Int32) : ∀ (n : Nat) (x3 : Int32) (h : HH), Sx mi_X11_copies d iU (g_X11_copies_L128 c1 c2 n x3 h) 128 [(0, .ref 255), (1, .int c1), (2, .int c2), (3, .int x3)] [] h := by
  intro n
  induction n with
  | zero => intro x3 h; exact sx_none
  | succ n ih =>
    intro x3 h
    rw [g_X11_copies_L128]
    refine sx_iload_n d_X11_copies_128 3 rfl ?_
    refine sx_bipush d_X11_copies_129 bc36 ?_
    refine sx_icmp_ge d_X11_copies_131 ?_ ?_
    · refine sx_aload_n d_X11_copies_134 0 rfl ?_
      refine sx_getF (a' := 282) fl_StairCountModel_93 sh_255 rfl rfl d_X11_copies_135 ?_
      refine sx_bipush d_X11_copies_138 bc36 ?_
      refine sx_iload_n d_X11_copies_140 1 rfl ?_
      refine sx_imul d_X11_copies_141 ?_
      refine sx_iload_n d_X11_copies_142 3 rfl ?_
      refine sx_iadd d_X11_copies_143 ?_
      refine sx_aload_n d_X11_copies_144 0 rfl ?_
      refine sx_getF (a' := 282) fl_StairCountModel_93 sh_255 rfl rfl d_X11_copies_145 ?_
      refine sx_bipush d_X11_copies_148 bc36 ?_
      refine sx_iload_n d_X11_copies_150 2 rfl ?_
      refine sx_imul d_X11_copies_151 ?_
      refine sx_iload_n d_X11_copies_152 3 rfl ?_
      refine sx_iadd d_X11_copies_153 ?_
      refine sx_iald sh_282 d_X11_copies_154 (fun v15 => ?_)
      refine sx_iast sh_282 d_X11_copies_155 (fun h16 => ?_)
      refine sx_iincV (lc' := fun v17 => [(3, .int v17), (0, .ref 255), (1, .int c1), (2, .int c2)]) (k0 := 3) d_X11_copies_156 rfl ii1 (by decide) (fun _ => rfl) (fun v17 => ?_)
      refine sx_goto d_X11_copies_159 ?_
      refine sx_lc (lc' := [(0, .ref 255), (1, .int c1), (2, .int c2), (3, .int v17)]) [1, 2, 3, 0] rfl ?_
      exact ih v17 h16
    · exact sx_vret rfl d_X11_copies_162
set_option maxHeartbeats 4000000 in
set_option maxRecDepth 100000 in
theorem sp_X11_copies (d : Nat) (hd : 0 ≤ d) (a0 : Int32) (a1 : Int32) (h : HH) : Sp mi_X11_copies d iU [.ref 255, .int a0, .int a1] h (g_X11_copies a0 a1 h) := by
  refine sp_of (lc := [(0, .ref 255), (1, .int a0), (2, .int a1)]) (by decide) (Nat.le_of_ble_eq_true rfl) rfl ?_
  unfold g_X11_copies
  refine sx_aload_n d_X11_copies_0 0 rfl ?_
  refine sx_getF (a' := 276) fl_StairCountModel_75 sh_255 rfl rfl d_X11_copies_1 ?_
  refine sx_iload_n d_X11_copies_4 1 rfl ?_
  refine sx_aload_n d_X11_copies_5 0 rfl ?_
  refine sx_getF (a' := 276) fl_StairCountModel_75 sh_255 rfl rfl d_X11_copies_6 ?_
  refine sx_iload_n d_X11_copies_9 2 rfl ?_
  refine sx_iald sh_276 d_X11_copies_10 (fun v1 => ?_)
  refine sx_iast sh_276 d_X11_copies_11 (fun h2 => ?_)
  refine sx_aload_n d_X11_copies_12 0 rfl ?_
  refine sx_getF (a' := 277) fl_StairCountModel_78 sh_255 rfl rfl d_X11_copies_13 ?_
  refine sx_iload_n d_X11_copies_16 1 rfl ?_
  refine sx_aload_n d_X11_copies_17 0 rfl ?_
  refine sx_getF (a' := 277) fl_StairCountModel_78 sh_255 rfl rfl d_X11_copies_18 ?_
  refine sx_iload_n d_X11_copies_21 2 rfl ?_
  refine sx_iald sh_277 d_X11_copies_22 (fun v3 => ?_)
  refine sx_iast sh_277 d_X11_copies_23 (fun h4 => ?_)
  refine sx_iconst d_X11_copies_24 ic0 ?_
  refine sx_istore_n (i := 3) (lc' := [(3, .int (0 : Int32)), (0, .ref 255), (1, .int a0), (2, .int a1)]) d_X11_copies_25 rfl (by decide) rfl ?_
  refine sx_lc (lc' := [(0, .ref 255), (1, .int a0), (2, .int a1), (3, .int (0 : Int32))]) [1, 2, 3, 0] rfl ?_
  refine sL_X11_copies_26 d hd _ a0 a1 ?_ 1024 (0 : Int32) h4
  · intro h14
    refine sx_iconst d_X11_copies_126 ic0 ?_
    refine sx_istore_n (i := 3) (lc' := [(3, .int (0 : Int32)), (0, .ref 255), (1, .int a0), (2, .int a1)]) d_X11_copies_127 rfl (by decide) rfl ?_
    refine sx_lc (lc' := [(0, .ref 255), (1, .int a0), (2, .int a1), (3, .int (0 : Int32))]) [1, 2, 3, 0] rfl ?_
    refine sL_X11_copies_128 d hd a0 a1 1024 (0 : Int32) h14
theorem d_X11_isPerson_0 : DC mi_X11_isPerson 0 (.iload_n 1) 1 1 := ⟨by decide +kernel, rfl⟩
theorem d_X11_isPerson_1 : DB mi_X11_isPerson 1 (.ifCond .lt 17) 17 4 18 := ⟨by decide +kernel, rfl, by decide⟩
theorem d_X11_isPerson_4 : DC mi_X11_isPerson 4 (.iload_n 1) 1 5 := ⟨by decide +kernel, rfl⟩
theorem d_X11_isPerson_5 : DC mi_X11_isPerson 5 (.aload_n 0) 1 6 := ⟨by decide +kernel, rfl⟩
theorem d_X11_isPerson_6 : DC mi_X11_isPerson 6 (.getfield 13) 3 9 := ⟨by decide +kernel, rfl⟩
theorem d_X11_isPerson_9 : DC mi_X11_isPerson 9 (.iconst 1) 1 10 := ⟨by decide +kernel, rfl⟩
theorem d_X11_isPerson_10 : DC mi_X11_isPerson 10 (.iaload) 1 11 := ⟨by decide +kernel, rfl⟩
theorem d_X11_isPerson_11 : DB mi_X11_isPerson 11 (.if_icmp .ge 7) 7 14 18 := ⟨by decide +kernel, rfl, by decide⟩
theorem d_X11_isPerson_14 : DC mi_X11_isPerson 14 (.iconst 1) 1 15 := ⟨by decide +kernel, rfl⟩
theorem d_X11_isPerson_15 : DB mi_X11_isPerson 15 (.goto 4) 4 18 19 := ⟨by decide +kernel, rfl, by decide⟩
theorem d_X11_isPerson_18 : DC mi_X11_isPerson 18 (.iconst 0) 1 19 := ⟨by decide +kernel, rfl⟩
theorem d_X11_isPerson_19 : DC mi_X11_isPerson 19 (.ireturn) 1 20 := ⟨by decide +kernel, rfl⟩
set_option maxHeartbeats 4000000 in
set_option maxRecDepth 100000 in
theorem sp_X11_isPerson (d : Nat) (hd : 0 ≤ d) (a0 : Int32) (h : HH) : Sp mi_X11_isPerson d iI [.ref 255, .int a0] h (g_X11_isPerson a0 h) := by
  refine sp_of (lc := [(0, .ref 255), (1, .int a0)]) (by decide) (Nat.le_of_ble_eq_true rfl) rfl ?_
  unfold g_X11_isPerson
  refine sx_iload_n d_X11_isPerson_0 1 rfl ?_
  refine sx_if_lt d_X11_isPerson_1 ?_ ?_
  · refine sx_iconst d_X11_isPerson_18 ic0 ?_
    exact sx_zret (by decide) rfl d_X11_isPerson_19
  · refine sx_iload_n d_X11_isPerson_4 1 rfl ?_
    refine sx_aload_n d_X11_isPerson_5 0 rfl ?_
    refine sx_getF (a' := 257) fl_StairCountModel_13 sh_255 rfl rfl d_X11_isPerson_6 ?_
    refine sx_iconst d_X11_isPerson_9 ic1 ?_
    refine sx_iald sh_257 d_X11_isPerson_10 (fun v1 => ?_)
    refine sx_icmp_ge d_X11_isPerson_11 ?_ ?_
    · refine sx_iconst d_X11_isPerson_14 ic1 ?_
      refine sx_goto d_X11_isPerson_15 ?_
      exact sx_zret (by decide) rfl d_X11_isPerson_19
    · refine sx_iconst d_X11_isPerson_18 ic0 ?_
      exact sx_zret (by decide) rfl d_X11_isPerson_19
theorem d_X11_isFlight_0 : DC mi_X11_isFlight 0 (.iload_n 1) 1 1 := ⟨by decide +kernel, rfl⟩
theorem d_X11_isFlight_1 : DB mi_X11_isFlight 1 (.ifCond .lt 17) 17 4 18 := ⟨by decide +kernel, rfl, by decide⟩
theorem d_X11_isFlight_4 : DC mi_X11_isFlight 4 (.iload_n 1) 1 5 := ⟨by decide +kernel, rfl⟩
theorem d_X11_isFlight_5 : DC mi_X11_isFlight 5 (.aload_n 0) 1 6 := ⟨by decide +kernel, rfl⟩
theorem d_X11_isFlight_6 : DC mi_X11_isFlight 6 (.getfield 13) 3 9 := ⟨by decide +kernel, rfl⟩
theorem d_X11_isFlight_9 : DC mi_X11_isFlight 9 (.iconst 0) 1 10 := ⟨by decide +kernel, rfl⟩
theorem d_X11_isFlight_10 : DC mi_X11_isFlight 10 (.iaload) 1 11 := ⟨by decide +kernel, rfl⟩
theorem d_X11_isFlight_11 : DB mi_X11_isFlight 11 (.if_icmp .ge 7) 7 14 18 := ⟨by decide +kernel, rfl, by decide⟩
theorem d_X11_isFlight_14 : DC mi_X11_isFlight 14 (.iconst 1) 1 15 := ⟨by decide +kernel, rfl⟩
theorem d_X11_isFlight_15 : DB mi_X11_isFlight 15 (.goto 4) 4 18 19 := ⟨by decide +kernel, rfl, by decide⟩
theorem d_X11_isFlight_18 : DC mi_X11_isFlight 18 (.iconst 0) 1 19 := ⟨by decide +kernel, rfl⟩
theorem d_X11_isFlight_19 : DC mi_X11_isFlight 19 (.ireturn) 1 20 := ⟨by decide +kernel, rfl⟩
set_option maxHeartbeats 4000000 in
set_option maxRecDepth 100000 in
theorem sp_X11_isFlight (d : Nat) (hd : 0 ≤ d) (a0 : Int32) (h : HH) : Sp mi_X11_isFlight d iI [.ref 255, .int a0] h (g_X11_isFlight a0 h) := by
  refine sp_of (lc := [(0, .ref 255), (1, .int a0)]) (by decide) (Nat.le_of_ble_eq_true rfl) rfl ?_
  unfold g_X11_isFlight
  refine sx_iload_n d_X11_isFlight_0 1 rfl ?_
  refine sx_if_lt d_X11_isFlight_1 ?_ ?_
  · refine sx_iconst d_X11_isFlight_18 ic0 ?_
    exact sx_zret (by decide) rfl d_X11_isFlight_19
  · refine sx_iload_n d_X11_isFlight_4 1 rfl ?_
    refine sx_aload_n d_X11_isFlight_5 0 rfl ?_
    refine sx_getF (a' := 257) fl_StairCountModel_13 sh_255 rfl rfl d_X11_isFlight_6 ?_
    refine sx_iconst d_X11_isFlight_9 ic0 ?_
    refine sx_iald sh_257 d_X11_isFlight_10 (fun v1 => ?_)
    refine sx_icmp_ge d_X11_isFlight_11 ?_ ?_
    · refine sx_iconst d_X11_isFlight_14 ic1 ?_
      refine sx_goto d_X11_isFlight_15 ?_
      exact sx_zret (by decide) rfl d_X11_isFlight_19
    · refine sx_iconst d_X11_isFlight_18 ic0 ?_
      exact sx_zret (by decide) rfl d_X11_isFlight_19
theorem d_X11_isFloor_0 : DC mi_X11_isFloor 0 (.iload_n 1) 1 1 := ⟨by decide +kernel, rfl⟩
theorem d_X11_isFloor_1 : DB mi_X11_isFloor 1 (.ifCond .lt 17) 17 4 18 := ⟨by decide +kernel, rfl, by decide⟩
theorem d_X11_isFloor_4 : DC mi_X11_isFloor 4 (.iload_n 1) 1 5 := ⟨by decide +kernel, rfl⟩
theorem d_X11_isFloor_5 : DC mi_X11_isFloor 5 (.aload_n 0) 1 6 := ⟨by decide +kernel, rfl⟩
theorem d_X11_isFloor_6 : DC mi_X11_isFloor 6 (.getfield 13) 3 9 := ⟨by decide +kernel, rfl⟩
theorem d_X11_isFloor_9 : DC mi_X11_isFloor 9 (.iconst 0) 1 10 := ⟨by decide +kernel, rfl⟩
theorem d_X11_isFloor_10 : DC mi_X11_isFloor 10 (.iaload) 1 11 := ⟨by decide +kernel, rfl⟩
theorem d_X11_isFloor_11 : DB mi_X11_isFloor 11 (.if_icmp .gt 7) 7 14 18 := ⟨by decide +kernel, rfl, by decide⟩
theorem d_X11_isFloor_14 : DC mi_X11_isFloor 14 (.iconst 1) 1 15 := ⟨by decide +kernel, rfl⟩
theorem d_X11_isFloor_15 : DB mi_X11_isFloor 15 (.goto 4) 4 18 19 := ⟨by decide +kernel, rfl, by decide⟩
theorem d_X11_isFloor_18 : DC mi_X11_isFloor 18 (.iconst 0) 1 19 := ⟨by decide +kernel, rfl⟩
theorem d_X11_isFloor_19 : DC mi_X11_isFloor 19 (.ireturn) 1 20 := ⟨by decide +kernel, rfl⟩
set_option maxHeartbeats 4000000 in
set_option maxRecDepth 100000 in
theorem sp_X11_isFloor (d : Nat) (hd : 0 ≤ d) (a0 : Int32) (h : HH) : Sp mi_X11_isFloor d iI [.ref 255, .int a0] h (g_X11_isFloor a0 h) := by
  refine sp_of (lc := [(0, .ref 255), (1, .int a0)]) (by decide) (Nat.le_of_ble_eq_true rfl) rfl ?_
  unfold g_X11_isFloor
  refine sx_iload_n d_X11_isFloor_0 1 rfl ?_
  refine sx_if_lt d_X11_isFloor_1 ?_ ?_
  · refine sx_iconst d_X11_isFloor_18 ic0 ?_
    exact sx_zret (by decide) rfl d_X11_isFloor_19
  · refine sx_iload_n d_X11_isFloor_4 1 rfl ?_
    refine sx_aload_n d_X11_isFloor_5 0 rfl ?_
    refine sx_getF (a' := 257) fl_StairCountModel_13 sh_255 rfl rfl d_X11_isFloor_6 ?_
    refine sx_iconst d_X11_isFloor_9 ic0 ?_
    refine sx_iald sh_257 d_X11_isFloor_10 (fun v1 => ?_)
    refine sx_icmp_gt d_X11_isFloor_11 ?_ ?_
    · refine sx_iconst d_X11_isFloor_18 ic0 ?_
      exact sx_zret (by decide) rfl d_X11_isFloor_19
    · refine sx_iconst d_X11_isFloor_14 ic1 ?_
      refine sx_goto d_X11_isFloor_15 ?_
      exact sx_zret (by decide) rfl d_X11_isFloor_19
theorem d_X11_areOf_0 : DC mi_X11_areOf 0 (.aload_n 0) 1 1 := ⟨by decide +kernel, rfl⟩
theorem d_X11_areOf_1 : DC mi_X11_areOf 1 (.iload_n 1) 1 2 := ⟨by decide +kernel, rfl⟩
theorem d_X11_areOf_2 : DC mi_X11_areOf 2 (.invokevirtual 346) 3 5 := ⟨by decide +kernel, rfl⟩
theorem d_X11_areOf_5 : DB mi_X11_areOf 5 (.ifCond .eq 15) 15 8 20 := ⟨by decide +kernel, rfl, by decide⟩
theorem d_X11_areOf_8 : DC mi_X11_areOf 8 (.aload_n 0) 1 9 := ⟨by decide +kernel, rfl⟩
theorem d_X11_areOf_9 : DC mi_X11_areOf 9 (.iload_n 2) 1 10 := ⟨by decide +kernel, rfl⟩
theorem d_X11_areOf_10 : DC mi_X11_areOf 10 (.invokevirtual 349) 3 13 := ⟨by decide +kernel, rfl⟩
theorem d_X11_areOf_13 : DB mi_X11_areOf 13 (.ifCond .eq 7) 7 16 20 := ⟨by decide +kernel, rfl, by decide⟩
theorem d_X11_areOf_16 : DC mi_X11_areOf 16 (.iconst 1) 1 17 := ⟨by decide +kernel, rfl⟩
theorem d_X11_areOf_17 : DB mi_X11_areOf 17 (.goto 4) 4 20 21 := ⟨by decide +kernel, rfl, by decide⟩
theorem d_X11_areOf_20 : DC mi_X11_areOf 20 (.iconst 0) 1 21 := ⟨by decide +kernel, rfl⟩
theorem d_X11_areOf_21 : DC mi_X11_areOf 21 (.ireturn) 1 22 := ⟨by decide +kernel, rfl⟩
set_option maxHeartbeats 4000000 in
set_option maxRecDepth 100000 in
theorem sp_X11_areOf (d : Nat) (hd : 1 ≤ d) (a0 : Int32) (a1 : Int32) (h : HH) : Sp mi_X11_areOf d iI [.ref 255, .int a0, .int a1] h (g_X11_areOf a0 a1 h) := by
  refine sp_of (lc := [(0, .ref 255), (1, .int a0), (2, .int a1)]) (by decide) (Nat.le_of_ble_eq_true rfl) rfl ?_
  unfold g_X11_areOf
  refine sx_aload_n d_X11_areOf_0 0 rfl ?_
  refine sx_iload_n d_X11_areOf_1 1 rfl ?_
  refine sx_callV [.int a0] mv_X11_isPerson lM_StairCountModel_346 sh_255 (by omega) rfl rfl (Nat.le_of_ble_eq_true rfl) d_X11_areOf_2 (sp_X11_isPerson (d - 1) (by omega) a0 h) (fun r2 h1 => ?_)
  refine sx_if_eq d_X11_areOf_5 ?_ ?_
  · refine sx_iconst d_X11_areOf_20 ic0 ?_
    exact sx_zret (by decide) rfl d_X11_areOf_21
  · refine sx_aload_n d_X11_areOf_8 0 rfl ?_
    refine sx_iload_n d_X11_areOf_9 2 rfl ?_
    refine sx_callV [.int a1] mv_X11_isFlight lM_StairCountModel_349 sh_255 (by omega) rfl rfl (Nat.le_of_ble_eq_true rfl) d_X11_areOf_10 (sp_X11_isFlight (d - 1) (by omega) a1 h1) (fun r4 h3 => ?_)
    refine sx_if_eq d_X11_areOf_13 ?_ ?_
    · refine sx_iconst d_X11_areOf_20 ic0 ?_
      exact sx_zret (by decide) rfl d_X11_areOf_21
    · refine sx_iconst d_X11_areOf_16 ic1 ?_
      refine sx_goto d_X11_areOf_17 ?_
      exact sx_zret (by decide) rfl d_X11_areOf_21
theorem d_X11_forceOf_0 : DC mi_X11_forceOf 0 (.aload_n 0) 1 1 := ⟨by decide +kernel, rfl⟩
theorem d_X11_forceOf_1 : DC mi_X11_forceOf 1 (.getfield 352) 3 4 := ⟨by decide +kernel, rfl⟩
theorem d_X11_forceOf_4 : DC mi_X11_forceOf 4 (.iconst 4) 1 5 := ⟨by decide +kernel, rfl⟩
theorem d_X11_forceOf_5 : DB mi_X11_forceOf 5 (.if_icmp .ne 8) 8 8 13 := ⟨by decide +kernel, rfl, by decide⟩
theorem d_X11_forceOf_8 : DC mi_X11_forceOf 8 (.bipush 99) 2 10 := ⟨by decide +kernel, rfl⟩
theorem d_X11_forceOf_10 : DB mi_X11_forceOf 10 (.goto 9) 9 13 19 := ⟨by decide +kernel, rfl, by decide⟩
theorem d_X11_forceOf_13 : DC mi_X11_forceOf 13 (.aload_n 0) 1 14 := ⟨by decide +kernel, rfl⟩
theorem d_X11_forceOf_14 : DC mi_X11_forceOf 14 (.getfield 25) 3 17 := ⟨by decide +kernel, rfl⟩
theorem d_X11_forceOf_17 : DC mi_X11_forceOf 17 (.iload_n 1) 1 18 := ⟨by decide +kernel, rfl⟩
theorem d_X11_forceOf_18 : DC mi_X11_forceOf 18 (.iaload) 1 19 := ⟨by decide +kernel, rfl⟩
theorem d_X11_forceOf_19 : DC mi_X11_forceOf 19 (.ireturn) 1 20 := ⟨by decide +kernel, rfl⟩
set_option maxHeartbeats 4000000 in
set_option maxRecDepth 100000 in
theorem sp_X11_forceOf (d : Nat) (hd : 0 ≤ d) (a0 : Int32) (h : HH) : Sp mi_X11_forceOf d iI [.ref 255, .int a0] h (g_X11_forceOf a0 h) := by
  refine sp_of (lc := [(0, .ref 255), (1, .int a0)]) (by decide) (Nat.le_of_ble_eq_true rfl) rfl ?_
  unfold g_X11_forceOf
  refine sx_aload_n d_X11_forceOf_0 0 rfl ?_
  refine sx_getI fl_StairCountModel_352 sh_255 rfl d_X11_forceOf_1 (fun v1 => ?_)
  refine sx_iconst d_X11_forceOf_4 ic4 ?_
  refine sx_icmp_ne d_X11_forceOf_5 ?_ ?_
  · refine sx_bipush d_X11_forceOf_8 bc99 ?_
    refine sx_goto d_X11_forceOf_10 ?_
    exact sx_iret rfl d_X11_forceOf_19
  · refine sx_aload_n d_X11_forceOf_13 0 rfl ?_
    refine sx_getF (a' := 261) fl_StairCountModel_25 sh_255 rfl rfl d_X11_forceOf_14 ?_
    refine sx_iload_n d_X11_forceOf_17 1 rfl ?_
    refine sx_iald sh_261 d_X11_forceOf_18 (fun v2 => ?_)
    exact sx_iret rfl d_X11_forceOf_19
theorem d_X11_manyOn_0 : DC mi_X11_manyOn 0 (.iconst 0) 1 1 := ⟨by decide +kernel, rfl⟩
theorem d_X11_manyOn_1 : DC mi_X11_manyOn 1 (.istore_n 3) 1 2 := ⟨by decide +kernel, rfl⟩
theorem d_X11_manyOn_2 : DC mi_X11_manyOn 2 (.iconst 0) 1 3 := ⟨by decide +kernel, rfl⟩
theorem d_X11_manyOn_3 : DC mi_X11_manyOn 3 (.istore 4) 2 5 := ⟨by decide +kernel, rfl⟩
theorem d_X11_manyOn_5 : DC mi_X11_manyOn 5 (.iload 4) 2 7 := ⟨by decide +kernel, rfl⟩
theorem d_X11_manyOn_7 : DC mi_X11_manyOn 7 (.aload_n 0) 1 8 := ⟨by decide +kernel, rfl⟩
theorem d_X11_manyOn_8 : DC mi_X11_manyOn 8 (.getfield 13) 3 11 := ⟨by decide +kernel, rfl⟩
theorem d_X11_manyOn_11 : DC mi_X11_manyOn 11 (.iconst 1) 1 12 := ⟨by decide +kernel, rfl⟩
theorem d_X11_manyOn_12 : DC mi_X11_manyOn 12 (.iaload) 1 13 := ⟨by decide +kernel, rfl⟩
theorem d_X11_manyOn_13 : DB mi_X11_manyOn 13 (.if_icmp .ge 33) 33 16 46 := ⟨by decide +kernel, rfl, by decide⟩
theorem d_X11_manyOn_16 : DC mi_X11_manyOn 16 (.iload_n 3) 1 17 := ⟨by decide +kernel, rfl⟩
theorem d_X11_manyOn_17 : DC mi_X11_manyOn 17 (.aload_n 0) 1 18 := ⟨by decide +kernel, rfl⟩
theorem d_X11_manyOn_18 : DC mi_X11_manyOn 18 (.getfield 81) 3 21 := ⟨by decide +kernel, rfl⟩
theorem d_X11_manyOn_21 : DC mi_X11_manyOn 21 (.bipush 6) 2 23 := ⟨by decide +kernel, rfl⟩
theorem d_X11_manyOn_23 : DC mi_X11_manyOn 23 (.iload_n 1) 1 24 := ⟨by decide +kernel, rfl⟩
theorem d_X11_manyOn_24 : DC mi_X11_manyOn 24 (.imul) 1 25 := ⟨by decide +kernel, rfl⟩
theorem d_X11_manyOn_25 : DC mi_X11_manyOn 25 (.iload 4) 2 27 := ⟨by decide +kernel, rfl⟩
theorem d_X11_manyOn_27 : DC mi_X11_manyOn 27 (.iadd) 1 28 := ⟨by decide +kernel, rfl⟩
theorem d_X11_manyOn_28 : DC mi_X11_manyOn 28 (.iaload) 1 29 := ⟨by decide +kernel, rfl⟩
theorem d_X11_manyOn_29 : DC mi_X11_manyOn 29 (.iload_n 2) 1 30 := ⟨by decide +kernel, rfl⟩
theorem d_X11_manyOn_30 : DB mi_X11_manyOn 30 (.if_icmp .ne 7) 7 33 37 := ⟨by decide +kernel, rfl, by decide⟩
theorem d_X11_manyOn_33 : DC mi_X11_manyOn 33 (.iconst 1) 1 34 := ⟨by decide +kernel, rfl⟩
theorem d_X11_manyOn_34 : DB mi_X11_manyOn 34 (.goto 4) 4 37 38 := ⟨by decide +kernel, rfl, by decide⟩
theorem d_X11_manyOn_37 : DC mi_X11_manyOn 37 (.iconst 0) 1 38 := ⟨by decide +kernel, rfl⟩
theorem d_X11_manyOn_38 : DC mi_X11_manyOn 38 (.iadd) 1 39 := ⟨by decide +kernel, rfl⟩
theorem d_X11_manyOn_39 : DC mi_X11_manyOn 39 (.istore_n 3) 1 40 := ⟨by decide +kernel, rfl⟩
theorem d_X11_manyOn_40 : DC mi_X11_manyOn 40 (.iinc 4 1) 3 43 := ⟨by decide +kernel, rfl⟩
theorem d_X11_manyOn_43 : DB mi_X11_manyOn 43 (.goto (-38)) (-38) 46 5 := ⟨by decide +kernel, rfl, by decide⟩
theorem d_X11_manyOn_46 : DC mi_X11_manyOn 46 (.iload_n 3) 1 47 := ⟨by decide +kernel, rfl⟩
theorem d_X11_manyOn_47 : DC mi_X11_manyOn 47 (.ireturn) 1 48 := ⟨by decide +kernel, rfl⟩
set_option maxHeartbeats 4000000 in
set_option maxRecDepth 100000 in
theorem sL_X11_manyOn_5 (d : Nat) (hd : 0 ≤ d) (c1 : Int32) (c2 : Int32) : ∀ (n : Nat) (x3 : Int32) (x4 : Int32) (h : HH), Sx mi_X11_manyOn d iI (g_X11_manyOn_L5 c1 c2 n x3 x4 h) 5 [(0, .ref 255), (1, .int c1), (2, .int c2), (3, .int x3), (4, .int x4)] [] h := by
  intro n
  induction n with
  | zero => intro x3 x4 h; exact sx_none
  | succ n ih =>
    intro x3 x4 h
    rw [g_X11_manyOn_L5]
    refine sx_iload d_X11_manyOn_5 4 rfl ?_
    refine sx_aload_n d_X11_manyOn_7 0 rfl ?_
    refine sx_getF (a' := 257) fl_StairCountModel_13 sh_255 rfl rfl d_X11_manyOn_8 ?_
    refine sx_iconst d_X11_manyOn_11 ic1 ?_
    refine sx_iald sh_257 d_X11_manyOn_12 (fun v1 => ?_)
    refine sx_icmp_ge d_X11_manyOn_13 ?_ ?_
    · refine sx_iload_n d_X11_manyOn_16 3 rfl ?_
      refine sx_aload_n d_X11_manyOn_17 0 rfl ?_
      refine sx_getF (a' := 278) fl_StairCountModel_81 sh_255 rfl rfl d_X11_manyOn_18 ?_
      refine sx_bipush d_X11_manyOn_21 bc6 ?_
      refine sx_iload_n d_X11_manyOn_23 1 rfl ?_
      refine sx_imul d_X11_manyOn_24 ?_
      refine sx_iload d_X11_manyOn_25 4 rfl ?_
      refine sx_iadd d_X11_manyOn_27 ?_
      refine sx_iald sh_278 d_X11_manyOn_28 (fun v2 => ?_)
      refine sx_iload_n d_X11_manyOn_29 2 rfl ?_
      refine sx_jn (fun j => ∀ (y6 : Int32) (h : HH), Sx mi_X11_manyOn d iI (j y6 h) 38 [(0, .ref 255), (1, .int c1), (2, .int c2), (4, .int x4)] [.int y6, .int x3] h) ?_ ?_
      · intro y6 h5
        refine sx_iadd d_X11_manyOn_38 ?_
        refine sx_vlI (fun v7 => ?_)
        refine sx_istore_n (i := 3) (lc' := [(3, .int v7), (0, .ref 255), (1, .int c1), (2, .int c2), (4, .int x4)]) d_X11_manyOn_39 rfl (by decide) rfl ?_
        refine sx_iincV (lc' := fun v8 => [(4, .int v8), (3, .int v7), (0, .ref 255), (1, .int c1), (2, .int c2)]) (k0 := 4) d_X11_manyOn_40 rfl ii1 (by decide) (fun _ => rfl) (fun v8 => ?_)
        refine sx_goto d_X11_manyOn_43 ?_
        refine sx_lc (lc' := [(0, .ref 255), (1, .int c1), (2, .int c2), (3, .int v7), (4, .int v8)]) [2, 3, 4, 1, 0] rfl ?_
        exact ih v7 v8 h5
      · intro j3 k4
        refine sx_icmp_ne d_X11_manyOn_30 ?_ ?_
        · refine sx_iconst d_X11_manyOn_33 ic1 ?_
          refine sx_goto d_X11_manyOn_34 ?_
          refine sx_lc (lc' := [(0, .ref 255), (1, .int c1), (2, .int c2), (4, .int x4)]) [0, 1, 2, 4] rfl ?_
          exact k4 (1 : Int32) h
        · refine sx_iconst d_X11_manyOn_37 ic0 ?_
          refine sx_lc (lc' := [(0, .ref 255), (1, .int c1), (2, .int c2), (4, .int x4)]) [0, 1, 2, 4] rfl ?_
          exact k4 (0 : Int32) h
    · refine sx_iload_n d_X11_manyOn_46 3 rfl ?_
      exact sx_iret rfl d_X11_manyOn_47
set_option maxHeartbeats 4000000 in
set_option maxRecDepth 100000 in
theorem sp_X11_manyOn (d : Nat) (hd : 0 ≤ d) (a0 : Int32) (a1 : Int32) (h : HH) : Sp mi_X11_manyOn d iI [.ref 255, .int a0, .int a1] h (g_X11_manyOn a0 a1 h) := by
  refine sp_of (lc := [(0, .ref 255), (1, .int a0), (2, .int a1)]) (by decide) (Nat.le_of_ble_eq_true rfl) rfl ?_
  unfold g_X11_manyOn
  refine sx_iconst d_X11_manyOn_0 ic0 ?_
  refine sx_istore_n (i := 3) (lc' := [(3, .int (0 : Int32)), (0, .ref 255), (1, .int a0), (2, .int a1)]) d_X11_manyOn_1 rfl (by decide) rfl ?_
  refine sx_iconst d_X11_manyOn_2 ic0 ?_
  refine sx_istore (i := 4) (lc' := [(4, .int (0 : Int32)), (3, .int (0 : Int32)), (0, .ref 255), (1, .int a0), (2, .int a1)]) d_X11_manyOn_3 (by decide) rfl ?_
  refine sx_lc (lc' := [(0, .ref 255), (1, .int a0), (2, .int a1), (3, .int (0 : Int32)), (4, .int (0 : Int32))]) [2, 3, 4, 1, 0] rfl ?_
  refine sL_X11_manyOn_5 d hd a0 a1 1024 (0 : Int32) (0 : Int32) h
theorem d_X11_tallyAt_0 : DC mi_X11_tallyAt 0 (.aload_n 0) 1 1 := ⟨by decide +kernel, rfl⟩
theorem d_X11_tallyAt_1 : DC mi_X11_tallyAt 1 (.getfield 93) 3 4 := ⟨by decide +kernel, rfl⟩
theorem d_X11_tallyAt_4 : DC mi_X11_tallyAt 4 (.bipush 36) 2 6 := ⟨by decide +kernel, rfl⟩
theorem d_X11_tallyAt_6 : DC mi_X11_tallyAt 6 (.iload_n 1) 1 7 := ⟨by decide +kernel, rfl⟩
theorem d_X11_tallyAt_7 : DC mi_X11_tallyAt 7 (.imul) 1 8 := ⟨by decide +kernel, rfl⟩
theorem d_X11_tallyAt_8 : DC mi_X11_tallyAt 8 (.bipush 6) 2 10 := ⟨by decide +kernel, rfl⟩
theorem d_X11_tallyAt_10 : DC mi_X11_tallyAt 10 (.iload_n 2) 1 11 := ⟨by decide +kernel, rfl⟩
theorem d_X11_tallyAt_11 : DC mi_X11_tallyAt 11 (.imul) 1 12 := ⟨by decide +kernel, rfl⟩
theorem d_X11_tallyAt_12 : DC mi_X11_tallyAt 12 (.iadd) 1 13 := ⟨by decide +kernel, rfl⟩
theorem d_X11_tallyAt_13 : DC mi_X11_tallyAt 13 (.iload_n 3) 1 14 := ⟨by decide +kernel, rfl⟩
theorem d_X11_tallyAt_14 : DC mi_X11_tallyAt 14 (.iadd) 1 15 := ⟨by decide +kernel, rfl⟩
theorem d_X11_tallyAt_15 : DC mi_X11_tallyAt 15 (.iaload) 1 16 := ⟨by decide +kernel, rfl⟩
theorem d_X11_tallyAt_16 : DC mi_X11_tallyAt 16 (.ireturn) 1 17 := ⟨by decide +kernel, rfl⟩
set_option maxHeartbeats 4000000 in
set_option maxRecDepth 100000 in
theorem sp_X11_tallyAt (d : Nat) (hd : 0 ≤ d) (a0 : Int32) (a1 : Int32) (a2 : Int32) (h : HH) : Sp mi_X11_tallyAt d iI [.ref 255, .int a0, .int a1, .int a2] h (g_X11_tallyAt a0 a1 a2 h) := by
  refine sp_of (lc := [(0, .ref 255), (1, .int a0), (2, .int a1), (3, .int a2)]) (by decide) (Nat.le_of_ble_eq_true rfl) rfl ?_
  unfold g_X11_tallyAt
  refine sx_aload_n d_X11_tallyAt_0 0 rfl ?_
  refine sx_getF (a' := 282) fl_StairCountModel_93 sh_255 rfl rfl d_X11_tallyAt_1 ?_
  refine sx_bipush d_X11_tallyAt_4 bc36 ?_
  refine sx_iload_n d_X11_tallyAt_6 1 rfl ?_
  refine sx_imul d_X11_tallyAt_7 ?_
  refine sx_bipush d_X11_tallyAt_8 bc6 ?_
  refine sx_iload_n d_X11_tallyAt_10 2 rfl ?_
  refine sx_imul d_X11_tallyAt_11 ?_
  refine sx_iadd d_X11_tallyAt_12 ?_
  refine sx_iload_n d_X11_tallyAt_13 3 rfl ?_
  refine sx_iadd d_X11_tallyAt_14 ?_
  refine sx_iald sh_282 d_X11_tallyAt_15 (fun v1 => ?_)
  exact sx_iret rfl d_X11_tallyAt_16
theorem d_X11_calls_0 : DC mi_X11_calls 0 (.aload_n 0) 1 1 := ⟨by decide +kernel, rfl⟩
theorem d_X11_calls_1 : DC mi_X11_calls 1 (.getfield 68) 3 4 := ⟨by decide +kernel, rfl⟩
theorem d_X11_calls_4 : DC mi_X11_calls 4 (.iconst 0) 1 5 := ⟨by decide +kernel, rfl⟩
theorem d_X11_calls_5 : DC mi_X11_calls 5 (.aload_n 0) 1 6 := ⟨by decide +kernel, rfl⟩
theorem d_X11_calls_6 : DC mi_X11_calls 6 (.iload_n 1) 1 7 := ⟨by decide +kernel, rfl⟩
theorem d_X11_calls_7 : DC mi_X11_calls 7 (.iload_n 2) 1 8 := ⟨by decide +kernel, rfl⟩
theorem d_X11_calls_8 : DC mi_X11_calls 8 (.iload_n 3) 1 9 := ⟨by decide +kernel, rfl⟩
theorem d_X11_calls_9 : DC mi_X11_calls 9 (.invokevirtual 355) 3 12 := ⟨by decide +kernel, rfl⟩
theorem d_X11_calls_12 : DC mi_X11_calls 12 (.i2l) 1 13 := ⟨by decide +kernel, rfl⟩
theorem d_X11_calls_13 : DC mi_X11_calls 13 (.lastore) 1 14 := ⟨by decide +kernel, rfl⟩
theorem d_X11_calls_14 : DC mi_X11_calls 14 (.aload_n 0) 1 15 := ⟨by decide +kernel, rfl⟩
theorem d_X11_calls_15 : DC mi_X11_calls 15 (.getfield 68) 3 18 := ⟨by decide +kernel, rfl⟩
theorem d_X11_calls_18 : DC mi_X11_calls 18 (.iconst 1) 1 19 := ⟨by decide +kernel, rfl⟩
theorem d_X11_calls_19 : DC mi_X11_calls 19 (.aload_n 0) 1 20 := ⟨by decide +kernel, rfl⟩
theorem d_X11_calls_20 : DC mi_X11_calls 20 (.getfield 16) 3 23 := ⟨by decide +kernel, rfl⟩
theorem d_X11_calls_23 : DC mi_X11_calls 23 (.iload_n 3) 1 24 := ⟨by decide +kernel, rfl⟩
theorem d_X11_calls_24 : DC mi_X11_calls 24 (.iaload) 1 25 := ⟨by decide +kernel, rfl⟩
theorem d_X11_calls_25 : DC mi_X11_calls 25 (.i2l) 1 26 := ⟨by decide +kernel, rfl⟩
theorem d_X11_calls_26 : DC mi_X11_calls 26 (.lastore) 1 27 := ⟨by decide +kernel, rfl⟩
theorem d_X11_calls_27 : DC mi_X11_calls 27 (.aload_n 0) 1 28 := ⟨by decide +kernel, rfl⟩
theorem d_X11_calls_28 : DC mi_X11_calls 28 (.getfield 68) 3 31 := ⟨by decide +kernel, rfl⟩
theorem d_X11_calls_31 : DC mi_X11_calls 31 (.iconst 2) 1 32 := ⟨by decide +kernel, rfl⟩
theorem d_X11_calls_32 : DC mi_X11_calls 32 (.iload_n 3) 1 33 := ⟨by decide +kernel, rfl⟩
theorem d_X11_calls_33 : DC mi_X11_calls 33 (.i2l) 1 34 := ⟨by decide +kernel, rfl⟩
theorem d_X11_calls_34 : DC mi_X11_calls 34 (.lastore) 1 35 := ⟨by decide +kernel, rfl⟩
theorem d_X11_calls_35 : DC mi_X11_calls 35 (.aload_n 0) 1 36 := ⟨by decide +kernel, rfl⟩
theorem d_X11_calls_36 : DC mi_X11_calls 36 (.getfield 68) 3 39 := ⟨by decide +kernel, rfl⟩
theorem d_X11_calls_39 : DC mi_X11_calls 39 (.iconst 3) 1 40 := ⟨by decide +kernel, rfl⟩
theorem d_X11_calls_40 : DC mi_X11_calls 40 (.aload_n 0) 1 41 := ⟨by decide +kernel, rfl⟩
theorem d_X11_calls_41 : DC mi_X11_calls 41 (.iload_n 2) 1 42 := ⟨by decide +kernel, rfl⟩
theorem d_X11_calls_42 : DC mi_X11_calls 42 (.invokevirtual 359) 3 45 := ⟨by decide +kernel, rfl⟩
theorem d_X11_calls_45 : DC mi_X11_calls 45 (.i2l) 1 46 := ⟨by decide +kernel, rfl⟩
theorem d_X11_calls_46 : DC mi_X11_calls 46 (.lastore) 1 47 := ⟨by decide +kernel, rfl⟩
theorem d_X11_calls_47 : DC mi_X11_calls 47 (.aload_n 0) 1 48 := ⟨by decide +kernel, rfl⟩
theorem d_X11_calls_48 : DC mi_X11_calls 48 (.getfield 68) 3 51 := ⟨by decide +kernel, rfl⟩
theorem d_X11_calls_51 : DC mi_X11_calls 51 (.iconst 4) 1 52 := ⟨by decide +kernel, rfl⟩
theorem d_X11_calls_52 : DC mi_X11_calls 52 (.aload_n 0) 1 53 := ⟨by decide +kernel, rfl⟩
theorem d_X11_calls_53 : DC mi_X11_calls 53 (.getfield 84) 3 56 := ⟨by decide +kernel, rfl⟩
theorem d_X11_calls_56 : DC mi_X11_calls 56 (.bipush 6) 2 58 := ⟨by decide +kernel, rfl⟩
theorem d_X11_calls_58 : DC mi_X11_calls 58 (.iload_n 1) 1 59 := ⟨by decide +kernel, rfl⟩
theorem d_X11_calls_59 : DC mi_X11_calls 59 (.imul) 1 60 := ⟨by decide +kernel, rfl⟩
theorem d_X11_calls_60 : DC mi_X11_calls 60 (.iload_n 2) 1 61 := ⟨by decide +kernel, rfl⟩
theorem d_X11_calls_61 : DC mi_X11_calls 61 (.iadd) 1 62 := ⟨by decide +kernel, rfl⟩
theorem d_X11_calls_62 : DC mi_X11_calls 62 (.iaload) 1 63 := ⟨by decide +kernel, rfl⟩
theorem d_X11_calls_63 : DC mi_X11_calls 63 (.i2l) 1 64 := ⟨by decide +kernel, rfl⟩
theorem d_X11_calls_64 : DC mi_X11_calls 64 (.lastore) 1 65 := ⟨by decide +kernel, rfl⟩
theorem d_X11_calls_65 : DC mi_X11_calls 65 (.aload_n 0) 1 66 := ⟨by decide +kernel, rfl⟩
theorem d_X11_calls_66 : DC mi_X11_calls 66 (.getfield 68) 3 69 := ⟨by decide +kernel, rfl⟩
theorem d_X11_calls_69 : DC mi_X11_calls 69 (.iconst 5) 1 70 := ⟨by decide +kernel, rfl⟩
theorem d_X11_calls_70 : DC mi_X11_calls 70 (.aload_n 0) 1 71 := ⟨by decide +kernel, rfl⟩
theorem d_X11_calls_71 : DC mi_X11_calls 71 (.iload_n 1) 1 72 := ⟨by decide +kernel, rfl⟩
theorem d_X11_calls_72 : DC mi_X11_calls 72 (.iload_n 3) 1 73 := ⟨by decide +kernel, rfl⟩
theorem d_X11_calls_73 : DC mi_X11_calls 73 (.invokevirtual 362) 3 76 := ⟨by decide +kernel, rfl⟩
theorem d_X11_calls_76 : DC mi_X11_calls 76 (.i2l) 1 77 := ⟨by decide +kernel, rfl⟩
theorem d_X11_calls_77 : DC mi_X11_calls 77 (.lastore) 1 78 := ⟨by decide +kernel, rfl⟩
theorem d_X11_calls_78 : DC mi_X11_calls 78 (.aload_n 0) 1 79 := ⟨by decide +kernel, rfl⟩
theorem d_X11_calls_79 : DC mi_X11_calls 79 (.getfield 68) 3 82 := ⟨by decide +kernel, rfl⟩
theorem d_X11_calls_82 : DC mi_X11_calls 82 (.bipush 6) 2 84 := ⟨by decide +kernel, rfl⟩
theorem d_X11_calls_84 : DC mi_X11_calls 84 (.aload_n 0) 1 85 := ⟨by decide +kernel, rfl⟩
theorem d_X11_calls_85 : DC mi_X11_calls 85 (.getfield 75) 3 88 := ⟨by decide +kernel, rfl⟩
theorem d_X11_calls_88 : DC mi_X11_calls 88 (.iload_n 1) 1 89 := ⟨by decide +kernel, rfl⟩
theorem d_X11_calls_89 : DC mi_X11_calls 89 (.iaload) 1 90 := ⟨by decide +kernel, rfl⟩
theorem d_X11_calls_90 : DC mi_X11_calls 90 (.i2l) 1 91 := ⟨by decide +kernel, rfl⟩
theorem d_X11_calls_91 : DC mi_X11_calls 91 (.lastore) 1 92 := ⟨by decide +kernel, rfl⟩
theorem d_X11_calls_92 : DC mi_X11_calls 92 (.return_) 1 93 := ⟨by decide +kernel, rfl⟩
set_option maxHeartbeats 4000000 in
set_option maxRecDepth 100000 in
theorem sp_X11_calls (d : Nat) (hd : 1 ≤ d) (a0 : Int32) (a1 : Int32) (a2 : Int32) (h : HH) : Sp mi_X11_calls d iU [.ref 255, .int a0, .int a1, .int a2] h (g_X11_calls a0 a1 a2 h) := by
  refine sp_of (lc := [(0, .ref 255), (1, .int a0), (2, .int a1), (3, .int a2)]) (by decide) (Nat.le_of_ble_eq_true rfl) rfl ?_
  unfold g_X11_calls
  refine sx_aload_n d_X11_calls_0 0 rfl ?_
  refine sx_getF (a' := 274) fl_StairCountModel_68 sh_255 rfl rfl d_X11_calls_1 ?_
  refine sx_iconst d_X11_calls_4 ic0 ?_
  refine sx_aload_n d_X11_calls_5 0 rfl ?_
  refine sx_iload_n d_X11_calls_6 1 rfl ?_
  refine sx_iload_n d_X11_calls_7 2 rfl ?_
  refine sx_iload_n d_X11_calls_8 3 rfl ?_
  refine sx_callV [.int a0, .int a1, .int a2] mv_X11_tallyAt lM_StairCountModel_355 sh_255 (by omega) rfl rfl (Nat.le_of_ble_eq_true rfl) d_X11_calls_9 (sp_X11_tallyAt (d - 1) (by omega) a0 a1 a2 h) (fun r2 h1 => ?_)
  refine sx_i2l d_X11_calls_12 ?_
  refine sx_last sh_274 d_X11_calls_13 (fun h3 => ?_)
  refine sx_aload_n d_X11_calls_14 0 rfl ?_
  refine sx_getF (a' := 274) fl_StairCountModel_68 sh_255 rfl rfl d_X11_calls_15 ?_
  refine sx_iconst d_X11_calls_18 ic1 ?_
  refine sx_aload_n d_X11_calls_19 0 rfl ?_
  refine sx_getF (a' := 258) fl_StairCountModel_16 sh_255 rfl rfl d_X11_calls_20 ?_
  refine sx_iload_n d_X11_calls_23 3 rfl ?_
  refine sx_iald sh_258 d_X11_calls_24 (fun v4 => ?_)
  refine sx_i2l d_X11_calls_25 ?_
  refine sx_last sh_274 d_X11_calls_26 (fun h5 => ?_)
  refine sx_aload_n d_X11_calls_27 0 rfl ?_
  refine sx_getF (a' := 274) fl_StairCountModel_68 sh_255 rfl rfl d_X11_calls_28 ?_
  refine sx_iconst d_X11_calls_31 ic2 ?_
  refine sx_iload_n d_X11_calls_32 3 rfl ?_
  refine sx_i2l d_X11_calls_33 ?_
  refine sx_last sh_274 d_X11_calls_34 (fun h6 => ?_)
  refine sx_aload_n d_X11_calls_35 0 rfl ?_
  refine sx_getF (a' := 274) fl_StairCountModel_68 sh_255 rfl rfl d_X11_calls_36 ?_
  refine sx_iconst d_X11_calls_39 ic3 ?_
  refine sx_aload_n d_X11_calls_40 0 rfl ?_
  refine sx_iload_n d_X11_calls_41 2 rfl ?_
  refine sx_callV [.int a1] mv_X11_forceOf lM_StairCountModel_359 sh_255 (by omega) rfl rfl (Nat.le_of_ble_eq_true rfl) d_X11_calls_42 (sp_X11_forceOf (d - 1) (by omega) a1 h6) (fun r8 h7 => ?_)
  refine sx_i2l d_X11_calls_45 ?_
  refine sx_last sh_274 d_X11_calls_46 (fun h9 => ?_)
  refine sx_aload_n d_X11_calls_47 0 rfl ?_
  refine sx_getF (a' := 274) fl_StairCountModel_68 sh_255 rfl rfl d_X11_calls_48 ?_
  refine sx_iconst d_X11_calls_51 ic4 ?_
  refine sx_aload_n d_X11_calls_52 0 rfl ?_
  refine sx_getF (a' := 279) fl_StairCountModel_84 sh_255 rfl rfl d_X11_calls_53 ?_
  refine sx_bipush d_X11_calls_56 bc6 ?_
  refine sx_iload_n d_X11_calls_58 1 rfl ?_
  refine sx_imul d_X11_calls_59 ?_
  refine sx_iload_n d_X11_calls_60 2 rfl ?_
  refine sx_iadd d_X11_calls_61 ?_
  refine sx_iald sh_279 d_X11_calls_62 (fun v10 => ?_)
  refine sx_i2l d_X11_calls_63 ?_
  refine sx_last sh_274 d_X11_calls_64 (fun h11 => ?_)
  refine sx_aload_n d_X11_calls_65 0 rfl ?_
  refine sx_getF (a' := 274) fl_StairCountModel_68 sh_255 rfl rfl d_X11_calls_66 ?_
  refine sx_iconst d_X11_calls_69 ic5 ?_
  refine sx_aload_n d_X11_calls_70 0 rfl ?_
  refine sx_iload_n d_X11_calls_71 1 rfl ?_
  refine sx_iload_n d_X11_calls_72 3 rfl ?_
  refine sx_callV [.int a0, .int a2] mv_X11_manyOn lM_StairCountModel_362 sh_255 (by omega) rfl rfl (Nat.le_of_ble_eq_true rfl) d_X11_calls_73 (sp_X11_manyOn (d - 1) (by omega) a0 a2 h11) (fun r13 h12 => ?_)
  refine sx_i2l d_X11_calls_76 ?_
  refine sx_last sh_274 d_X11_calls_77 (fun h14 => ?_)
  refine sx_aload_n d_X11_calls_78 0 rfl ?_
  refine sx_getF (a' := 274) fl_StairCountModel_68 sh_255 rfl rfl d_X11_calls_79 ?_
  refine sx_bipush d_X11_calls_82 bc6 ?_
  refine sx_aload_n d_X11_calls_84 0 rfl ?_
  refine sx_getF (a' := 276) fl_StairCountModel_75 sh_255 rfl rfl d_X11_calls_85 ?_
  refine sx_iload_n d_X11_calls_88 1 rfl ?_
  refine sx_iald sh_276 d_X11_calls_89 (fun v15 => ?_)
  refine sx_i2l d_X11_calls_90 ?_
  refine sx_last sh_274 d_X11_calls_91 (fun h16 => ?_)
  exact sx_vret rfl d_X11_calls_92
theorem d_X11_within_0 : DC mi_X11_within 0 (.aload_n 0) 1 1 := ⟨by decide +kernel, rfl⟩
theorem d_X11_within_1 : DC mi_X11_within 1 (.iload_n 1) 1 2 := ⟨by decide +kernel, rfl⟩
theorem d_X11_within_2 : DC mi_X11_within 2 (.invokevirtual 365) 3 5 := ⟨by decide +kernel, rfl⟩
theorem d_X11_within_5 : DB mi_X11_within 5 (.ifCond .eq 11) 11 8 16 := ⟨by decide +kernel, rfl, by decide⟩
theorem d_X11_within_8 : DC mi_X11_within 8 (.aload_n 0) 1 9 := ⟨by decide +kernel, rfl⟩
theorem d_X11_within_9 : DC mi_X11_within 9 (.iload_n 1) 1 10 := ⟨by decide +kernel, rfl⟩
theorem d_X11_within_10 : DC mi_X11_within 10 (.invokevirtual 368) 3 13 := ⟨by decide +kernel, rfl⟩
theorem d_X11_within_13 : DB mi_X11_within 13 (.ifCond .ne 6) 6 16 19 := ⟨by decide +kernel, rfl, by decide⟩
theorem d_X11_within_16 : DC mi_X11_within 16 (.iload 4) 2 18 := ⟨by decide +kernel, rfl⟩
theorem d_X11_within_18 : DC mi_X11_within 18 (.ireturn) 1 19 := ⟨by decide +kernel, rfl⟩
theorem d_X11_within_19 : DC mi_X11_within 19 (.iload_n 2) 1 20 := ⟨by decide +kernel, rfl⟩
theorem d_X11_within_20 : DC mi_X11_within 20 (.i2l) 1 21 := ⟨by decide +kernel, rfl⟩
theorem d_X11_within_21 : DC mi_X11_within 21 (.iload_n 3) 1 22 := ⟨by decide +kernel, rfl⟩
theorem d_X11_within_22 : DC mi_X11_within 22 (.i2l) 1 23 := ⟨by decide +kernel, rfl⟩
theorem d_X11_within_23 : DC mi_X11_within 23 (.aload_n 0) 1 24 := ⟨by decide +kernel, rfl⟩
theorem d_X11_within_24 : DC mi_X11_within 24 (.getfield 72) 3 27 := ⟨by decide +kernel, rfl⟩
theorem d_X11_within_27 : DC mi_X11_within 27 (.iconst 0) 1 28 := ⟨by decide +kernel, rfl⟩
theorem d_X11_within_28 : DC mi_X11_within 28 (.laload) 1 29 := ⟨by decide +kernel, rfl⟩
theorem d_X11_within_29 : DC mi_X11_within 29 (.invokestatic 371) 3 32 := ⟨by decide +kernel, rfl⟩
theorem d_X11_within_32 : DC mi_X11_within 32 (.invokestatic 375) 3 35 := ⟨by decide +kernel, rfl⟩
theorem d_X11_within_35 : DC mi_X11_within 35 (.l2i) 1 36 := ⟨by decide +kernel, rfl⟩
theorem d_X11_within_36 : DC mi_X11_within 36 (.ireturn) 1 37 := ⟨by decide +kernel, rfl⟩
set_option maxHeartbeats 4000000 in
set_option maxRecDepth 100000 in
theorem sp_X11_within (d : Nat) (hd : 3 ≤ d) (a0 : Int32) (a1 : Int32) (a2 : Int32) (a3 : Int32) (h : HH) : Sp mi_X11_within d iI [.ref 255, .int a0, .int a1, .int a2, .int a3] h (g_X11_within a0 a1 a2 a3 h) := by
  refine sp_of (lc := [(0, .ref 255), (1, .int a0), (2, .int a1), (3, .int a2), (4, .int a3)]) (by decide) (Nat.le_of_ble_eq_true rfl) rfl ?_
  unfold g_X11_within
  refine sx_aload_n d_X11_within_0 0 rfl ?_
  refine sx_iload_n d_X11_within_1 1 rfl ?_
  refine sx_callV [.int a0] mv_X11_hasLaw lM_StairCountModel_365 sh_255 (by omega) rfl rfl (Nat.le_of_ble_eq_true rfl) d_X11_within_2 (sp_X11_hasLaw (d - 1) (by omega) a0 h) (fun r2 h1 => ?_)
  refine sx_if_eq d_X11_within_5 ?_ ?_
  · refine sx_iload d_X11_within_16 4 rfl ?_
    exact sx_iret rfl d_X11_within_18
  · refine sx_aload_n d_X11_within_8 0 rfl ?_
    refine sx_iload_n d_X11_within_9 1 rfl ?_
    refine sx_callV [.int a0] mv_X11_goes lM_StairCountModel_368 sh_255 (by omega) rfl rfl (Nat.le_of_ble_eq_true rfl) d_X11_within_10 (sp_X11_goes (d - 1) (by omega) a0 h1) (fun r4 h3 => ?_)
    refine sx_if_ne d_X11_within_13 ?_ ?_
    · refine sx_iload d_X11_within_16 4 rfl ?_
      exact sx_iret rfl d_X11_within_18
    · refine sx_iload_n d_X11_within_19 2 rfl ?_
      refine sx_i2l d_X11_within_20 ?_
      refine sx_iload_n d_X11_within_21 3 rfl ?_
      refine sx_i2l d_X11_within_22 ?_
      refine sx_aload_n d_X11_within_23 0 rfl ?_
      refine sx_getF (a' := 275) fl_StairCountModel_72 sh_255 rfl rfl d_X11_within_24 ?_
      refine sx_iconst d_X11_within_27 ic0 ?_
      refine sx_lald sh_275 d_X11_within_28 (fun v5 => ?_)
      refine sx_mminL lM_StairCountModel_371 (by omega) (Nat.le_of_ble_eq_true rfl) d_X11_within_29 ?_
      refine sx_mmaxL lM_StairCountModel_375 (by omega) (Nat.le_of_ble_eq_true rfl) d_X11_within_32 ?_
      refine sx_l2i d_X11_within_35 ?_
      exact sx_iret rfl d_X11_within_36
theorem d_X11_steepWith_0 : DC mi_X11_steepWith 0 (.aload_n 0) 1 1 := ⟨by decide +kernel, rfl⟩
theorem d_X11_steepWith_1 : DC mi_X11_steepWith 1 (.iload_n 1) 1 2 := ⟨by decide +kernel, rfl⟩
theorem d_X11_steepWith_2 : DC mi_X11_steepWith 2 (.iload_n 2) 1 3 := ⟨by decide +kernel, rfl⟩
theorem d_X11_steepWith_3 : DC mi_X11_steepWith 3 (.iload_n 3) 1 4 := ⟨by decide +kernel, rfl⟩
theorem d_X11_steepWith_4 : DC mi_X11_steepWith 4 (.invokevirtual 378) 3 7 := ⟨by decide +kernel, rfl⟩
theorem d_X11_steepWith_7 : DC mi_X11_steepWith 7 (.aload_n 0) 1 8 := ⟨by decide +kernel, rfl⟩
theorem d_X11_steepWith_8 : DC mi_X11_steepWith 8 (.getfield 68) 3 11 := ⟨by decide +kernel, rfl⟩
theorem d_X11_steepWith_11 : DC mi_X11_steepWith 11 (.iconst 0) 1 12 := ⟨by decide +kernel, rfl⟩
theorem d_X11_steepWith_12 : DC mi_X11_steepWith 12 (.iload 4) 2 14 := ⟨by decide +kernel, rfl⟩
theorem d_X11_steepWith_14 : DC mi_X11_steepWith 14 (.i2l) 1 15 := ⟨by decide +kernel, rfl⟩
theorem d_X11_steepWith_15 : DC mi_X11_steepWith 15 (.lastore) 1 16 := ⟨by decide +kernel, rfl⟩
theorem d_X11_steepWith_16 : DC mi_X11_steepWith 16 (.aload_n 0) 1 17 := ⟨by decide +kernel, rfl⟩
theorem d_X11_steepWith_17 : DC mi_X11_steepWith 17 (.getfield 16) 3 20 := ⟨by decide +kernel, rfl⟩
theorem d_X11_steepWith_20 : DC mi_X11_steepWith 20 (.iload_n 3) 1 21 := ⟨by decide +kernel, rfl⟩
theorem d_X11_steepWith_21 : DC mi_X11_steepWith 21 (.iaload) 1 22 := ⟨by decide +kernel, rfl⟩
theorem d_X11_steepWith_22 : DC mi_X11_steepWith 22 (.aload_n 0) 1 23 := ⟨by decide +kernel, rfl⟩
theorem d_X11_steepWith_23 : DC mi_X11_steepWith 23 (.iconst 0) 1 24 := ⟨by decide +kernel, rfl⟩
theorem d_X11_steepWith_24 : DC mi_X11_steepWith 24 (.bipush (-99)) 2 26 := ⟨by decide +kernel, rfl⟩
theorem d_X11_steepWith_26 : DC mi_X11_steepWith 26 (.sipush 999) 3 29 := ⟨by decide +kernel, rfl⟩
theorem d_X11_steepWith_29 : DC mi_X11_steepWith 29 (.iload 4) 2 31 := ⟨by decide +kernel, rfl⟩
theorem d_X11_steepWith_31 : DC mi_X11_steepWith 31 (.invokevirtual 382) 3 34 := ⟨by decide +kernel, rfl⟩
theorem d_X11_steepWith_34 : DC mi_X11_steepWith 34 (.iadd) 1 35 := ⟨by decide +kernel, rfl⟩
theorem d_X11_steepWith_35 : DC mi_X11_steepWith 35 (.ireturn) 1 36 := ⟨by decide +kernel, rfl⟩
set_option maxHeartbeats 4000000 in
set_option maxRecDepth 100000 in
theorem sp_X11_steepWith (d : Nat) (hd : 4 ≤ d) (a0 : Int32) (a1 : Int32) (a2 : Int32) (a3 : Int32) (h : HH) : Sp mi_X11_steepWith d iI [.ref 255, .int a0, .int a1, .int a2, .int a3] h (g_X11_steepWith a0 a1 a2 a3 h) := by
  refine sp_of (lc := [(0, .ref 255), (1, .int a0), (2, .int a1), (3, .int a2), (4, .int a3)]) (by decide) (Nat.le_of_ble_eq_true rfl) rfl ?_
  unfold g_X11_steepWith
  refine sx_aload_n d_X11_steepWith_0 0 rfl ?_
  refine sx_iload_n d_X11_steepWith_1 1 rfl ?_
  refine sx_iload_n d_X11_steepWith_2 2 rfl ?_
  refine sx_iload_n d_X11_steepWith_3 3 rfl ?_
  refine sx_callV [.int a0, .int a1, .int a2] mv_X11_calls lM_StairCountModel_378 sh_255 (by omega) rfl rfl (Nat.le_of_ble_eq_true rfl) d_X11_steepWith_4 (sp_X11_calls (d - 1) (by omega) a0 a1 a2 h) (fun _ h1 => ?_)
  refine sx_aload_n d_X11_steepWith_7 0 rfl ?_
  refine sx_getF (a' := 274) fl_StairCountModel_68 sh_255 rfl rfl d_X11_steepWith_8 ?_
  refine sx_iconst d_X11_steepWith_11 ic0 ?_
  refine sx_iload d_X11_steepWith_12 4 rfl ?_
  refine sx_i2l d_X11_steepWith_14 ?_
  refine sx_last sh_274 d_X11_steepWith_15 (fun h3 => ?_)
  refine sx_aload_n d_X11_steepWith_16 0 rfl ?_
  refine sx_getF (a' := 258) fl_StairCountModel_16 sh_255 rfl rfl d_X11_steepWith_17 ?_
  refine sx_iload_n d_X11_steepWith_20 3 rfl ?_
  refine sx_iald sh_258 d_X11_steepWith_21 (fun v4 => ?_)
  refine sx_aload_n d_X11_steepWith_22 0 rfl ?_
  refine sx_iconst d_X11_steepWith_23 ic0 ?_
  refine sx_bipush d_X11_steepWith_24 bcm99 ?_
  refine sx_sipush d_X11_steepWith_26 sc999 ?_
  refine sx_iload d_X11_steepWith_29 4 rfl ?_
  refine sx_callV [.int (0 : Int32), .int (-99 : Int32), .int (999 : Int32), .int a3] mv_X11_within lM_StairCountModel_382 sh_255 (by omega) rfl rfl (Nat.le_of_ble_eq_true rfl) d_X11_steepWith_31 (sp_X11_within (d - 1) (by omega) (0 : Int32) (-99 : Int32) (999 : Int32) a3 h3) (fun r6 h5 => ?_)
  refine sx_iadd d_X11_steepWith_34 ?_
  exact sx_iret rfl d_X11_steepWith_35
theorem d_X11_steepOf_0 : DC mi_X11_steepOf 0 (.aload_n 0) 1 1 := ⟨by decide +kernel, rfl⟩
theorem d_X11_steepOf_1 : DC mi_X11_steepOf 1 (.iload_n 1) 1 2 := ⟨by decide +kernel, rfl⟩
theorem d_X11_steepOf_2 : DC mi_X11_steepOf 2 (.iload_n 2) 1 3 := ⟨by decide +kernel, rfl⟩
theorem d_X11_steepOf_3 : DC mi_X11_steepOf 3 (.iload_n 3) 1 4 := ⟨by decide +kernel, rfl⟩
theorem d_X11_steepOf_4 : DC mi_X11_steepOf 4 (.aload_n 0) 1 5 := ⟨by decide +kernel, rfl⟩
theorem d_X11_steepOf_5 : DC mi_X11_steepOf 5 (.iload_n 1) 1 6 := ⟨by decide +kernel, rfl⟩
theorem d_X11_steepOf_6 : DC mi_X11_steepOf 6 (.iload_n 2) 1 7 := ⟨by decide +kernel, rfl⟩
theorem d_X11_steepOf_7 : DC mi_X11_steepOf 7 (.iload_n 3) 1 8 := ⟨by decide +kernel, rfl⟩
theorem d_X11_steepOf_8 : DC mi_X11_steepOf 8 (.invokevirtual 355) 3 11 := ⟨by decide +kernel, rfl⟩
theorem d_X11_steepOf_11 : DC mi_X11_steepOf 11 (.invokevirtual 386) 3 14 := ⟨by decide +kernel, rfl⟩
theorem d_X11_steepOf_14 : DC mi_X11_steepOf 14 (.ireturn) 1 15 := ⟨by decide +kernel, rfl⟩
set_option maxHeartbeats 4000000 in
set_option maxRecDepth 100000 in
theorem sp_X11_steepOf (d : Nat) (hd : 5 ≤ d) (a0 : Int32) (a1 : Int32) (a2 : Int32) (h : HH) : Sp mi_X11_steepOf d iI [.ref 255, .int a0, .int a1, .int a2] h (g_X11_steepOf a0 a1 a2 h) := by
  refine sp_of (lc := [(0, .ref 255), (1, .int a0), (2, .int a1), (3, .int a2)]) (by decide) (Nat.le_of_ble_eq_true rfl) rfl ?_
  unfold g_X11_steepOf
  refine sx_aload_n d_X11_steepOf_0 0 rfl ?_
  refine sx_iload_n d_X11_steepOf_1 1 rfl ?_
  refine sx_iload_n d_X11_steepOf_2 2 rfl ?_
  refine sx_iload_n d_X11_steepOf_3 3 rfl ?_
  refine sx_aload_n d_X11_steepOf_4 0 rfl ?_
  refine sx_iload_n d_X11_steepOf_5 1 rfl ?_
  refine sx_iload_n d_X11_steepOf_6 2 rfl ?_
  refine sx_iload_n d_X11_steepOf_7 3 rfl ?_
  refine sx_callV [.int a0, .int a1, .int a2] mv_X11_tallyAt lM_StairCountModel_355 sh_255 (by omega) rfl rfl (Nat.le_of_ble_eq_true rfl) d_X11_steepOf_8 (sp_X11_tallyAt (d - 1) (by omega) a0 a1 a2 h) (fun r2 h1 => ?_)
  refine sx_callV [.int a0, .int a1, .int a2, .int r2] mv_X11_steepWith lM_StairCountModel_386 sh_255 (by omega) rfl rfl (Nat.le_of_ble_eq_true rfl) d_X11_steepOf_11 (sp_X11_steepWith (d - 1) (by omega) a0 a1 a2 r2 h1) (fun r4 h3 => ?_)
  exact sx_iret rfl d_X11_steepOf_14
theorem d_X11_canClimb_0 : DC mi_X11_canClimb 0 (.aload_n 0) 1 1 := ⟨by decide +kernel, rfl⟩
theorem d_X11_canClimb_1 : DC mi_X11_canClimb 1 (.iload_n 1) 1 2 := ⟨by decide +kernel, rfl⟩
theorem d_X11_canClimb_2 : DC mi_X11_canClimb 2 (.iload_n 2) 1 3 := ⟨by decide +kernel, rfl⟩
theorem d_X11_canClimb_3 : DC mi_X11_canClimb 3 (.iload_n 3) 1 4 := ⟨by decide +kernel, rfl⟩
theorem d_X11_canClimb_4 : DC mi_X11_canClimb 4 (.invokevirtual 389) 3 7 := ⟨by decide +kernel, rfl⟩
theorem d_X11_canClimb_7 : DC mi_X11_canClimb 7 (.aload_n 0) 1 8 := ⟨by decide +kernel, rfl⟩
theorem d_X11_canClimb_8 : DC mi_X11_canClimb 8 (.iload_n 2) 1 9 := ⟨by decide +kernel, rfl⟩
theorem d_X11_canClimb_9 : DC mi_X11_canClimb 9 (.invokevirtual 359) 3 12 := ⟨by decide +kernel, rfl⟩
theorem d_X11_canClimb_12 : DB mi_X11_canClimb 12 (.if_icmp .le 5) 5 15 17 := ⟨by decide +kernel, rfl, by decide⟩
theorem d_X11_canClimb_15 : DC mi_X11_canClimb 15 (.iconst 0) 1 16 := ⟨by decide +kernel, rfl⟩
theorem d_X11_canClimb_16 : DC mi_X11_canClimb 16 (.ireturn) 1 17 := ⟨by decide +kernel, rfl⟩
theorem d_X11_canClimb_17 : DC mi_X11_canClimb 17 (.aload_n 0) 1 18 := ⟨by decide +kernel, rfl⟩
theorem d_X11_canClimb_18 : DC mi_X11_canClimb 18 (.iload_n 1) 1 19 := ⟨by decide +kernel, rfl⟩
theorem d_X11_canClimb_19 : DC mi_X11_canClimb 19 (.iload_n 2) 1 20 := ⟨by decide +kernel, rfl⟩
theorem d_X11_canClimb_20 : DC mi_X11_canClimb 20 (.iload_n 3) 1 21 := ⟨by decide +kernel, rfl⟩
theorem d_X11_canClimb_21 : DC mi_X11_canClimb 21 (.invokevirtual 378) 3 24 := ⟨by decide +kernel, rfl⟩
theorem d_X11_canClimb_24 : DC mi_X11_canClimb 24 (.aload_n 0) 1 25 := ⟨by decide +kernel, rfl⟩
theorem d_X11_canClimb_25 : DC mi_X11_canClimb 25 (.iconst 2) 1 26 := ⟨by decide +kernel, rfl⟩
theorem d_X11_canClimb_26 : DC mi_X11_canClimb 26 (.invokevirtual 365) 3 29 := ⟨by decide +kernel, rfl⟩
theorem d_X11_canClimb_29 : DB mi_X11_canClimb 29 (.ifCond .eq 22) 22 32 51 := ⟨by decide +kernel, rfl, by decide⟩
theorem d_X11_canClimb_32 : DC mi_X11_canClimb 32 (.aload_n 0) 1 33 := ⟨by decide +kernel, rfl⟩
theorem d_X11_canClimb_33 : DC mi_X11_canClimb 33 (.iconst 2) 1 34 := ⟨by decide +kernel, rfl⟩
theorem d_X11_canClimb_34 : DC mi_X11_canClimb 34 (.invokevirtual 368) 3 37 := ⟨by decide +kernel, rfl⟩
theorem d_X11_canClimb_37 : DB mi_X11_canClimb 37 (.ifCond .eq 14) 14 40 51 := ⟨by decide +kernel, rfl, by decide⟩
theorem d_X11_canClimb_40 : DC mi_X11_canClimb 40 (.aload_n 0) 1 41 := ⟨by decide +kernel, rfl⟩
theorem d_X11_canClimb_41 : DC mi_X11_canClimb 41 (.getfield 72) 3 44 := ⟨by decide +kernel, rfl⟩
theorem d_X11_canClimb_44 : DC mi_X11_canClimb 44 (.iconst 0) 1 45 := ⟨by decide +kernel, rfl⟩
theorem d_X11_canClimb_45 : DC mi_X11_canClimb 45 (.laload) 1 46 := ⟨by decide +kernel, rfl⟩
theorem d_X11_canClimb_46 : DC mi_X11_canClimb 46 (.lconst 0) 1 47 := ⟨by decide +kernel, rfl⟩
theorem d_X11_canClimb_47 : DC mi_X11_canClimb 47 (.lcmp) 1 48 := ⟨by decide +kernel, rfl⟩
theorem d_X11_canClimb_48 : DB mi_X11_canClimb 48 (.ifCond .eq 7) 7 51 55 := ⟨by decide +kernel, rfl, by decide⟩
theorem d_X11_canClimb_51 : DC mi_X11_canClimb 51 (.iconst 1) 1 52 := ⟨by decide +kernel, rfl⟩
theorem d_X11_canClimb_52 : DB mi_X11_canClimb 52 (.goto 4) 4 55 56 := ⟨by decide +kernel, rfl, by decide⟩
theorem d_X11_canClimb_55 : DC mi_X11_canClimb 55 (.iconst 0) 1 56 := ⟨by decide +kernel, rfl⟩
theorem d_X11_canClimb_56 : DC mi_X11_canClimb 56 (.ireturn) 1 57 := ⟨by decide +kernel, rfl⟩
set_option maxHeartbeats 4000000 in
set_option maxRecDepth 100000 in
theorem sp_X11_canClimb (d : Nat) (hd : 6 ≤ d) (a0 : Int32) (a1 : Int32) (a2 : Int32) (h : HH) : Sp mi_X11_canClimb d iI [.ref 255, .int a0, .int a1, .int a2] h (g_X11_canClimb a0 a1 a2 h) := by
  refine sp_of (lc := [(0, .ref 255), (1, .int a0), (2, .int a1), (3, .int a2)]) (by decide) (Nat.le_of_ble_eq_true rfl) rfl ?_
  unfold g_X11_canClimb
  refine sx_aload_n d_X11_canClimb_0 0 rfl ?_
  refine sx_iload_n d_X11_canClimb_1 1 rfl ?_
  refine sx_iload_n d_X11_canClimb_2 2 rfl ?_
  refine sx_iload_n d_X11_canClimb_3 3 rfl ?_
  refine sx_callV [.int a0, .int a1, .int a2] mv_X11_steepOf lM_StairCountModel_389 sh_255 (by omega) rfl rfl (Nat.le_of_ble_eq_true rfl) d_X11_canClimb_4 (sp_X11_steepOf (d - 1) (by omega) a0 a1 a2 h) (fun r2 h1 => ?_)
  refine sx_aload_n d_X11_canClimb_7 0 rfl ?_
  refine sx_iload_n d_X11_canClimb_8 2 rfl ?_
  refine sx_callV [.int a1] mv_X11_forceOf lM_StairCountModel_359 sh_255 (by omega) rfl rfl (Nat.le_of_ble_eq_true rfl) d_X11_canClimb_9 (sp_X11_forceOf (d - 1) (by omega) a1 h1) (fun r4 h3 => ?_)
  refine sx_icmp_le d_X11_canClimb_12 ?_ ?_
  · refine sx_iconst d_X11_canClimb_15 ic0 ?_
    exact sx_zret (by decide) rfl d_X11_canClimb_16
  · refine sx_aload_n d_X11_canClimb_17 0 rfl ?_
    refine sx_iload_n d_X11_canClimb_18 1 rfl ?_
    refine sx_iload_n d_X11_canClimb_19 2 rfl ?_
    refine sx_iload_n d_X11_canClimb_20 3 rfl ?_
    refine sx_callV [.int a0, .int a1, .int a2] mv_X11_calls lM_StairCountModel_378 sh_255 (by omega) rfl rfl (Nat.le_of_ble_eq_true rfl) d_X11_canClimb_21 (sp_X11_calls (d - 1) (by omega) a0 a1 a2 h3) (fun _ h5 => ?_)
    refine sx_aload_n d_X11_canClimb_24 0 rfl ?_
    refine sx_iconst d_X11_canClimb_25 ic2 ?_
    refine sx_callV [.int (2 : Int32)] mv_X11_hasLaw lM_StairCountModel_365 sh_255 (by omega) rfl rfl (Nat.le_of_ble_eq_true rfl) d_X11_canClimb_26 (sp_X11_hasLaw (d - 1) (by omega) (2 : Int32) h5) (fun r8 h7 => ?_)
    refine sx_if_eq d_X11_canClimb_29 ?_ ?_
    · refine sx_iconst d_X11_canClimb_51 ic1 ?_
      refine sx_goto d_X11_canClimb_52 ?_
      exact sx_zret (by decide) rfl d_X11_canClimb_56
    · refine sx_aload_n d_X11_canClimb_32 0 rfl ?_
      refine sx_iconst d_X11_canClimb_33 ic2 ?_
      refine sx_callV [.int (2 : Int32)] mv_X11_goes lM_StairCountModel_368 sh_255 (by omega) rfl rfl (Nat.le_of_ble_eq_true rfl) d_X11_canClimb_34 (sp_X11_goes (d - 1) (by omega) (2 : Int32) h7) (fun r10 h9 => ?_)
      refine sx_if_eq d_X11_canClimb_37 ?_ ?_
      · refine sx_iconst d_X11_canClimb_51 ic1 ?_
        refine sx_goto d_X11_canClimb_52 ?_
        exact sx_zret (by decide) rfl d_X11_canClimb_56
      · refine sx_aload_n d_X11_canClimb_40 0 rfl ?_
        refine sx_getF (a' := 275) fl_StairCountModel_72 sh_255 rfl rfl d_X11_canClimb_41 ?_
        refine sx_iconst d_X11_canClimb_44 ic0 ?_
        refine sx_lald sh_275 d_X11_canClimb_45 (fun v11 => ?_)
        refine sx_lconst d_X11_canClimb_46 lc0 ?_
        refine sx_lcmp d_X11_canClimb_47 ?_
        refine sx_if_eq d_X11_canClimb_48 ?_ ?_
        · refine sx_iconst d_X11_canClimb_55 ic0 ?_
          exact sx_zret (by decide) rfl d_X11_canClimb_56
        · refine sx_iconst d_X11_canClimb_51 ic1 ?_
          refine sx_goto d_X11_canClimb_52 ?_
          exact sx_zret (by decide) rfl d_X11_canClimb_56
theorem d_X11_doesFall_0 : DC mi_X11_doesFall 0 (.aload_n 0) 1 1 := ⟨by decide +kernel, rfl⟩
theorem d_X11_doesFall_1 : DC mi_X11_doesFall 1 (.getfield 352) 3 4 := ⟨by decide +kernel, rfl⟩
theorem d_X11_doesFall_4 : DC mi_X11_doesFall 4 (.iconst 5) 1 5 := ⟨by decide +kernel, rfl⟩
theorem d_X11_doesFall_5 : DB mi_X11_doesFall 5 (.if_icmp .ne 5) 5 8 10 := ⟨by decide +kernel, rfl, by decide⟩
theorem d_X11_doesFall_8 : DC mi_X11_doesFall 8 (.iconst 0) 1 9 := ⟨by decide +kernel, rfl⟩
theorem d_X11_doesFall_9 : DC mi_X11_doesFall 9 (.ireturn) 1 10 := ⟨by decide +kernel, rfl⟩
theorem d_X11_doesFall_10 : DC mi_X11_doesFall 10 (.aload_n 0) 1 11 := ⟨by decide +kernel, rfl⟩
theorem d_X11_doesFall_11 : DC mi_X11_doesFall 11 (.getfield 13) 3 14 := ⟨by decide +kernel, rfl⟩
theorem d_X11_doesFall_14 : DC mi_X11_doesFall 14 (.iconst 4) 1 15 := ⟨by decide +kernel, rfl⟩
theorem d_X11_doesFall_15 : DC mi_X11_doesFall 15 (.iaload) 1 16 := ⟨by decide +kernel, rfl⟩
theorem d_X11_doesFall_16 : DC mi_X11_doesFall 16 (.istore_n 3) 1 17 := ⟨by decide +kernel, rfl⟩
theorem d_X11_doesFall_17 : DC mi_X11_doesFall 17 (.iload_n 2) 1 18 := ⟨by decide +kernel, rfl⟩
theorem d_X11_doesFall_18 : DB mi_X11_doesFall 18 (.ifCond .eq 13) 13 21 31 := ⟨by decide +kernel, rfl, by decide⟩
theorem d_X11_doesFall_21 : DC mi_X11_doesFall 21 (.iload_n 3) 1 22 := ⟨by decide +kernel, rfl⟩
theorem d_X11_doesFall_22 : DB mi_X11_doesFall 22 (.ifCond .eq 9) 9 25 31 := ⟨by decide +kernel, rfl, by decide⟩
theorem d_X11_doesFall_25 : DC mi_X11_doesFall 25 (.iload_n 3) 1 26 := ⟨by decide +kernel, rfl⟩
theorem d_X11_doesFall_26 : DC mi_X11_doesFall 26 (.bipush 100) 2 28 := ⟨by decide +kernel, rfl⟩
theorem d_X11_doesFall_28 : DB mi_X11_doesFall 28 (.if_icmp .ne 15) 15 31 43 := ⟨by decide +kernel, rfl, by decide⟩
theorem d_X11_doesFall_31 : DC mi_X11_doesFall 31 (.iload_n 3) 1 32 := ⟨by decide +kernel, rfl⟩
theorem d_X11_doesFall_32 : DC mi_X11_doesFall 32 (.bipush 50) 2 34 := ⟨by decide +kernel, rfl⟩
theorem d_X11_doesFall_34 : DB mi_X11_doesFall 34 (.if_icmp .lt 7) 7 37 41 := ⟨by decide +kernel, rfl, by decide⟩
theorem d_X11_doesFall_37 : DC mi_X11_doesFall 37 (.iconst 1) 1 38 := ⟨by decide +kernel, rfl⟩
theorem d_X11_doesFall_38 : DB mi_X11_doesFall 38 (.goto 4) 4 41 42 := ⟨by decide +kernel, rfl, by decide⟩
theorem d_X11_doesFall_41 : DC mi_X11_doesFall 41 (.iconst 0) 1 42 := ⟨by decide +kernel, rfl⟩
theorem d_X11_doesFall_42 : DC mi_X11_doesFall 42 (.ireturn) 1 43 := ⟨by decide +kernel, rfl⟩
theorem d_X11_doesFall_43 : DC mi_X11_doesFall 43 (.aload_n 0) 1 44 := ⟨by decide +kernel, rfl⟩
theorem d_X11_doesFall_44 : DC mi_X11_doesFall 44 (.getfield 78) 3 47 := ⟨by decide +kernel, rfl⟩
theorem d_X11_doesFall_47 : DC mi_X11_doesFall 47 (.iload_n 1) 1 48 := ⟨by decide +kernel, rfl⟩
theorem d_X11_doesFall_48 : DC mi_X11_doesFall 48 (.aload_n 0) 1 49 := ⟨by decide +kernel, rfl⟩
theorem d_X11_doesFall_49 : DC mi_X11_doesFall 49 (.getfield 78) 3 52 := ⟨by decide +kernel, rfl⟩
theorem d_X11_doesFall_52 : DC mi_X11_doesFall 52 (.iload_n 1) 1 53 := ⟨by decide +kernel, rfl⟩
theorem d_X11_doesFall_53 : DC mi_X11_doesFall 53 (.iaload) 1 54 := ⟨by decide +kernel, rfl⟩
theorem d_X11_doesFall_54 : DC mi_X11_doesFall 54 (.ldc_w 392) 3 57 := ⟨by decide +kernel, rfl⟩
theorem d_X11_doesFall_57 : DC mi_X11_doesFall 57 (.imul) 1 58 := ⟨by decide +kernel, rfl⟩
theorem d_X11_doesFall_58 : DC mi_X11_doesFall 58 (.sipush 12345) 3 61 := ⟨by decide +kernel, rfl⟩
theorem d_X11_doesFall_61 : DC mi_X11_doesFall 61 (.iadd) 1 62 := ⟨by decide +kernel, rfl⟩
theorem d_X11_doesFall_62 : DC mi_X11_doesFall 62 (.ldc_w 395) 3 65 := ⟨by decide +kernel, rfl⟩
theorem d_X11_doesFall_65 : DC mi_X11_doesFall 65 (.iand) 1 66 := ⟨by decide +kernel, rfl⟩
theorem d_X11_doesFall_66 : DC mi_X11_doesFall 66 (.iastore) 1 67 := ⟨by decide +kernel, rfl⟩
theorem d_X11_doesFall_67 : DC mi_X11_doesFall 67 (.aload_n 0) 1 68 := ⟨by decide +kernel, rfl⟩
theorem d_X11_doesFall_68 : DC mi_X11_doesFall 68 (.getfield 78) 3 71 := ⟨by decide +kernel, rfl⟩
theorem d_X11_doesFall_71 : DC mi_X11_doesFall 71 (.iload_n 1) 1 72 := ⟨by decide +kernel, rfl⟩
theorem d_X11_doesFall_72 : DC mi_X11_doesFall 72 (.iaload) 1 73 := ⟨by decide +kernel, rfl⟩
theorem d_X11_doesFall_73 : DC mi_X11_doesFall 73 (.bipush 16) 2 75 := ⟨by decide +kernel, rfl⟩
theorem d_X11_doesFall_75 : DC mi_X11_doesFall 75 (.ishr) 1 76 := ⟨by decide +kernel, rfl⟩
theorem d_X11_doesFall_76 : DC mi_X11_doesFall 76 (.bipush 100) 2 78 := ⟨by decide +kernel, rfl⟩
theorem d_X11_doesFall_78 : DC mi_X11_doesFall 78 (.irem) 1 79 := ⟨by decide +kernel, rfl⟩
theorem d_X11_doesFall_79 : DC mi_X11_doesFall 79 (.iload_n 3) 1 80 := ⟨by decide +kernel, rfl⟩
theorem d_X11_doesFall_80 : DB mi_X11_doesFall 80 (.if_icmp .ge 7) 7 83 87 := ⟨by decide +kernel, rfl, by decide⟩
theorem d_X11_doesFall_83 : DC mi_X11_doesFall 83 (.iconst 1) 1 84 := ⟨by decide +kernel, rfl⟩
theorem d_X11_doesFall_84 : DB mi_X11_doesFall 84 (.goto 4) 4 87 88 := ⟨by decide +kernel, rfl, by decide⟩
theorem d_X11_doesFall_87 : DC mi_X11_doesFall 87 (.iconst 0) 1 88 := ⟨by decide +kernel, rfl⟩
theorem d_X11_doesFall_88 : DC mi_X11_doesFall 88 (.ireturn) 1 89 := ⟨by decide +kernel, rfl⟩
set_option maxHeartbeats 4000000 in
set_option maxRecDepth 100000 in
theorem sp_X11_doesFall (d : Nat) (hd : 0 ≤ d) (a0 : Int32) (a1 : Int32) (h : HH) : Sp mi_X11_doesFall d iI [.ref 255, .int a0, .int a1] h (g_X11_doesFall a0 a1 h) := by
  refine sp_of (lc := [(0, .ref 255), (1, .int a0), (2, .int a1)]) (by decide) (Nat.le_of_ble_eq_true rfl) rfl ?_
  unfold g_X11_doesFall
  refine sx_aload_n d_X11_doesFall_0 0 rfl ?_
  refine sx_getI fl_StairCountModel_352 sh_255 rfl d_X11_doesFall_1 (fun v1 => ?_)
  refine sx_iconst d_X11_doesFall_4 ic5 ?_
  refine sx_icmp_ne d_X11_doesFall_5 ?_ ?_
  · refine sx_iconst d_X11_doesFall_8 ic0 ?_
    exact sx_zret (by decide) rfl d_X11_doesFall_9
  · refine sx_aload_n d_X11_doesFall_10 0 rfl ?_
    refine sx_getF (a' := 257) fl_StairCountModel_13 sh_255 rfl rfl d_X11_doesFall_11 ?_
    refine sx_iconst d_X11_doesFall_14 ic4 ?_
    refine sx_iald sh_257 d_X11_doesFall_15 (fun v2 => ?_)
    refine sx_istore_n (i := 3) (lc' := [(3, .int v2), (0, .ref 255), (1, .int a0), (2, .int a1)]) d_X11_doesFall_16 rfl (by decide) rfl ?_
    refine sx_iload_n d_X11_doesFall_17 3 rfl ?_
    refine sx_jn (fun j => ∀  (h : HH), Sx mi_X11_doesFall d iI (j  h) 31 [(3, .int v2)] [] h) ?_ ?_
    · intro  h5
      refine sx_iload_n d_X11_doesFall_31 0 rfl ?_
      refine sx_bipush d_X11_doesFall_32 bc50 ?_
      refine sx_icmp_lt d_X11_doesFall_34 ?_ ?_
      · refine sx_iconst d_X11_doesFall_41 ic0 ?_
        exact sx_zret (by decide) rfl d_X11_doesFall_42
      · refine sx_iconst d_X11_doesFall_37 ic1 ?_
        refine sx_goto d_X11_doesFall_38 ?_
        exact sx_zret (by decide) rfl d_X11_doesFall_42
    · intro j3 k4
      refine sx_if_eq d_X11_doesFall_18 ?_ ?_
      · refine sx_lc (lc' := [(3, .int v2)]) [0] rfl ?_
        exact k4 h
      · refine sx_iload_n d_X11_doesFall_21 0 rfl ?_
        refine sx_if_eq d_X11_doesFall_22 ?_ ?_
        · refine sx_lc (lc' := [(3, .int v2)]) [0] rfl ?_
          exact k4 h
        · refine sx_iload_n d_X11_doesFall_25 0 rfl ?_
          refine sx_bipush d_X11_doesFall_26 bc100 ?_
          refine sx_icmp_ne d_X11_doesFall_28 ?_ ?_
          · refine sx_lc (lc' := [(3, .int v2)]) [0] rfl ?_
            exact k4 h
          · refine sx_aload_n d_X11_doesFall_43 1 rfl ?_
            refine sx_getF (a' := 277) fl_StairCountModel_78 sh_255 rfl rfl d_X11_doesFall_44 ?_
            refine sx_iload_n d_X11_doesFall_47 2 rfl ?_
            refine sx_aload_n d_X11_doesFall_48 1 rfl ?_
            refine sx_getF (a' := 277) fl_StairCountModel_78 sh_255 rfl rfl d_X11_doesFall_49 ?_
            refine sx_iload_n d_X11_doesFall_52 2 rfl ?_
            refine sx_iald sh_277 d_X11_doesFall_53 (fun v6 => ?_)
            refine sx_ldcw d_X11_doesFall_54 lK_StairCountModel_392 ?_
            refine sx_imul d_X11_doesFall_57 ?_
            refine sx_sipush d_X11_doesFall_58 sc12345 ?_
            refine sx_iadd d_X11_doesFall_61 ?_
            refine sx_ldcw d_X11_doesFall_62 lK_StairCountModel_395 ?_
            refine sx_iand d_X11_doesFall_65 ?_
            refine sx_iast sh_277 d_X11_doesFall_66 (fun h7 => ?_)
            refine sx_aload_n d_X11_doesFall_67 1 rfl ?_
            refine sx_getF (a' := 277) fl_StairCountModel_78 sh_255 rfl rfl d_X11_doesFall_68 ?_
            refine sx_iload_n d_X11_doesFall_71 2 rfl ?_
            refine sx_iald sh_277 d_X11_doesFall_72 (fun v8 => ?_)
            refine sx_bipush d_X11_doesFall_73 bc16 ?_
            refine sx_ishr d_X11_doesFall_75 ?_
            refine sx_bipush d_X11_doesFall_76 bc100 ?_
            refine sx_irem d_X11_doesFall_78 (fun v9 => ?_)
            refine sx_iload_n d_X11_doesFall_79 0 rfl ?_
            refine sx_icmp_ge d_X11_doesFall_80 ?_ ?_
            · refine sx_iconst d_X11_doesFall_83 ic1 ?_
              refine sx_goto d_X11_doesFall_84 ?_
              exact sx_zret (by decide) rfl d_X11_doesFall_88
            · refine sx_iconst d_X11_doesFall_87 ic0 ?_
              exact sx_zret (by decide) rfl d_X11_doesFall_88
