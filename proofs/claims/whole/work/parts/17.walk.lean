/-! walks: X11_token, X11_wrong, X11_isWord, X11_isSign, X11_goOn, X11_numeral, X11_found, X11_fresh, X11_fresher, X11_reads, X11_personAhead, X11_isFull, X11_goingLine, X11_ladderLine, X11_knot, X11_puts, X11_expression, X11_conjunction, X11_negation, X11_sum, X11_product -/
theorem d_X11_token_0 : DC mi_X11_token 0 (.aload_n 0) 1 1 := ⟨by decide +kernel, rfl⟩
theorem d_X11_token_1 : DC mi_X11_token 1 (.invokevirtual 160) 3 4 := ⟨by decide +kernel, rfl⟩
theorem d_X11_token_4 : DC mi_X11_token 4 (.bipush 10) 2 6 := ⟨by decide +kernel, rfl⟩
theorem d_X11_token_6 : DB mi_X11_token 6 (.if_icmp .eq 12) 12 9 18 := ⟨by decide +kernel, rfl, by decide⟩
theorem d_X11_token_9 : DC mi_X11_token 9 (.aload_n 0) 1 10 := ⟨by decide +kernel, rfl⟩
theorem d_X11_token_10 : DC mi_X11_token 10 (.invokevirtual 160) 3 13 := ⟨by decide +kernel, rfl⟩
theorem d_X11_token_13 : DC mi_X11_token 13 (.bipush 32) 2 15 := ⟨by decide +kernel, rfl⟩
theorem d_X11_token_15 : DB mi_X11_token 15 (.if_icmp .ne 16) 16 18 31 := ⟨by decide +kernel, rfl, by decide⟩
theorem d_X11_token_18 : DC mi_X11_token 18 (.aload_n 0) 1 19 := ⟨by decide +kernel, rfl⟩
theorem d_X11_token_19 : DC mi_X11_token 19 (.dup) 1 20 := ⟨by decide +kernel, rfl⟩
theorem d_X11_token_20 : DC mi_X11_token 20 (.getfield 154) 3 23 := ⟨by decide +kernel, rfl⟩
theorem d_X11_token_23 : DC mi_X11_token 23 (.iconst 1) 1 24 := ⟨by decide +kernel, rfl⟩
theorem d_X11_token_24 : DC mi_X11_token 24 (.iadd) 1 25 := ⟨by decide +kernel, rfl⟩
theorem d_X11_token_25 : DC mi_X11_token 25 (.putfield 154) 3 28 := ⟨by decide +kernel, rfl⟩
theorem d_X11_token_28 : DB mi_X11_token 28 (.goto (-28)) (-28) 31 0 := ⟨by decide +kernel, rfl, by decide⟩
theorem d_X11_token_31 : DC mi_X11_token 31 (.aload_n 0) 1 32 := ⟨by decide +kernel, rfl⟩
theorem d_X11_token_32 : DC mi_X11_token 32 (.aload_n 0) 1 33 := ⟨by decide +kernel, rfl⟩
theorem d_X11_token_33 : DC mi_X11_token 33 (.getfield 154) 3 36 := ⟨by decide +kernel, rfl⟩
theorem d_X11_token_36 : DC mi_X11_token 36 (.putfield 164) 3 39 := ⟨by decide +kernel, rfl⟩
theorem d_X11_token_39 : DC mi_X11_token 39 (.aload_n 0) 1 40 := ⟨by decide +kernel, rfl⟩
theorem d_X11_token_40 : DC mi_X11_token 40 (.invokevirtual 160) 3 43 := ⟨by decide +kernel, rfl⟩
theorem d_X11_token_43 : DC mi_X11_token 43 (.istore_n 1) 1 44 := ⟨by decide +kernel, rfl⟩
theorem d_X11_token_44 : DC mi_X11_token 44 (.iload_n 1) 1 45 := ⟨by decide +kernel, rfl⟩
theorem d_X11_token_45 : DC mi_X11_token 45 (.iconst (-1)) 1 46 := ⟨by decide +kernel, rfl⟩
theorem d_X11_token_46 : DB mi_X11_token 46 (.if_icmp .ne 11) 11 49 57 := ⟨by decide +kernel, rfl, by decide⟩
theorem d_X11_token_49 : DC mi_X11_token 49 (.aload_n 0) 1 50 := ⟨by decide +kernel, rfl⟩
theorem d_X11_token_50 : DC mi_X11_token 50 (.iconst 4) 1 51 := ⟨by decide +kernel, rfl⟩
theorem d_X11_token_51 : DC mi_X11_token 51 (.putfield 167) 3 54 := ⟨by decide +kernel, rfl⟩
theorem d_X11_token_54 : DB mi_X11_token 54 (.goto 171) 171 57 225 := ⟨by decide +kernel, rfl, by decide⟩
theorem d_X11_token_57 : DC mi_X11_token 57 (.iload_n 1) 1 58 := ⟨by decide +kernel, rfl⟩
theorem d_X11_token_58 : DC mi_X11_token 58 (.invokestatic 170) 3 61 := ⟨by decide +kernel, rfl⟩
theorem d_X11_token_61 : DB mi_X11_token 61 (.ifCond .eq 84) 84 64 145 := ⟨by decide +kernel, rfl, by decide⟩
theorem d_X11_token_64 : DC mi_X11_token 64 (.aload_n 0) 1 65 := ⟨by decide +kernel, rfl⟩
theorem d_X11_token_65 : DC mi_X11_token 65 (.invokevirtual 160) 3 68 := ⟨by decide +kernel, rfl⟩
theorem d_X11_token_68 : DC mi_X11_token 68 (.invokestatic 170) 3 71 := ⟨by decide +kernel, rfl⟩
theorem d_X11_token_71 : DB mi_X11_token 71 (.ifCond .eq 16) 16 74 87 := ⟨by decide +kernel, rfl, by decide⟩
theorem d_X11_token_74 : DC mi_X11_token 74 (.aload_n 0) 1 75 := ⟨by decide +kernel, rfl⟩
theorem d_X11_token_75 : DC mi_X11_token 75 (.dup) 1 76 := ⟨by decide +kernel, rfl⟩
theorem d_X11_token_76 : DC mi_X11_token 76 (.getfield 154) 3 79 := ⟨by decide +kernel, rfl⟩
theorem d_X11_token_79 : DC mi_X11_token 79 (.iconst 1) 1 80 := ⟨by decide +kernel, rfl⟩
theorem d_X11_token_80 : DC mi_X11_token 80 (.iadd) 1 81 := ⟨by decide +kernel, rfl⟩
theorem d_X11_token_81 : DC mi_X11_token 81 (.putfield 154) 3 84 := ⟨by decide +kernel, rfl⟩
theorem d_X11_token_84 : DB mi_X11_token 84 (.goto (-20)) (-20) 87 64 := ⟨by decide +kernel, rfl, by decide⟩
theorem d_X11_token_87 : DC mi_X11_token 87 (.aload_n 0) 1 88 := ⟨by decide +kernel, rfl⟩
theorem d_X11_token_88 : DC mi_X11_token 88 (.aload_n 0) 1 89 := ⟨by decide +kernel, rfl⟩
theorem d_X11_token_89 : DC mi_X11_token 89 (.invokevirtual 174) 3 92 := ⟨by decide +kernel, rfl⟩
theorem d_X11_token_92 : DC mi_X11_token 92 (.putfield 177) 3 95 := ⟨by decide +kernel, rfl⟩
theorem d_X11_token_95 : DC mi_X11_token 95 (.aload_n 0) 1 96 := ⟨by decide +kernel, rfl⟩
theorem d_X11_token_96 : DC mi_X11_token 96 (.aload_n 0) 1 97 := ⟨by decide +kernel, rfl⟩
theorem d_X11_token_97 : DC mi_X11_token 97 (.getfield 177) 3 100 := ⟨by decide +kernel, rfl⟩
theorem d_X11_token_100 : DC mi_X11_token 100 (.iconst (-1)) 1 101 := ⟨by decide +kernel, rfl⟩
theorem d_X11_token_101 : DB mi_X11_token 101 (.if_icmp .eq 7) 7 104 108 := ⟨by decide +kernel, rfl, by decide⟩
theorem d_X11_token_104 : DC mi_X11_token 104 (.iconst 0) 1 105 := ⟨by decide +kernel, rfl⟩
theorem d_X11_token_105 : DB mi_X11_token 105 (.goto 22) 22 108 127 := ⟨by decide +kernel, rfl, by decide⟩
theorem d_X11_token_108 : DC mi_X11_token 108 (.aload_n 0) 1 109 := ⟨by decide +kernel, rfl⟩
theorem d_X11_token_109 : DC mi_X11_token 109 (.getfield 154) 3 112 := ⟨by decide +kernel, rfl⟩
theorem d_X11_token_112 : DC mi_X11_token 112 (.aload_n 0) 1 113 := ⟨by decide +kernel, rfl⟩
theorem d_X11_token_113 : DC mi_X11_token 113 (.getfield 164) 3 116 := ⟨by decide +kernel, rfl⟩
theorem d_X11_token_116 : DC mi_X11_token 116 (.isub) 1 117 := ⟨by decide +kernel, rfl⟩
theorem d_X11_token_117 : DC mi_X11_token 117 (.bipush 6) 2 119 := ⟨by decide +kernel, rfl⟩
theorem d_X11_token_119 : DB mi_X11_token 119 (.if_icmp .le 7) 7 122 126 := ⟨by decide +kernel, rfl, by decide⟩
theorem d_X11_token_122 : DC mi_X11_token 122 (.iconst 5) 1 123 := ⟨by decide +kernel, rfl⟩
theorem d_X11_token_123 : DB mi_X11_token 123 (.goto 4) 4 126 127 := ⟨by decide +kernel, rfl, by decide⟩
theorem d_X11_token_126 : DC mi_X11_token 126 (.iconst 1) 1 127 := ⟨by decide +kernel, rfl⟩
theorem d_X11_token_127 : DC mi_X11_token 127 (.putfield 167) 3 130 := ⟨by decide +kernel, rfl⟩
theorem d_X11_token_130 : DC mi_X11_token 130 (.aload_n 0) 1 131 := ⟨by decide +kernel, rfl⟩
theorem d_X11_token_131 : DC mi_X11_token 131 (.getfield 167) 3 134 := ⟨by decide +kernel, rfl⟩
theorem d_X11_token_134 : DC mi_X11_token 134 (.iconst 1) 1 135 := ⟨by decide +kernel, rfl⟩
theorem d_X11_token_135 : DB mi_X11_token 135 (.if_icmp .ne 90) 90 138 225 := ⟨by decide +kernel, rfl, by decide⟩
theorem d_X11_token_138 : DC mi_X11_token 138 (.aload_n 0) 1 139 := ⟨by decide +kernel, rfl⟩
theorem d_X11_token_139 : DC mi_X11_token 139 (.invokevirtual 180) 3 142 := ⟨by decide +kernel, rfl⟩
theorem d_X11_token_142 : DB mi_X11_token 142 (.goto 83) 83 145 225 := ⟨by decide +kernel, rfl, by decide⟩
theorem d_X11_token_145 : DC mi_X11_token 145 (.iload_n 1) 1 146 := ⟨by decide +kernel, rfl⟩
theorem d_X11_token_146 : DC mi_X11_token 146 (.invokestatic 183) 3 149 := ⟨by decide +kernel, rfl⟩
theorem d_X11_token_149 : DB mi_X11_token 149 (.ifCond .eq 71) 71 152 220 := ⟨by decide +kernel, rfl, by decide⟩
theorem d_X11_token_152 : DC mi_X11_token 152 (.aload_n 0) 1 153 := ⟨by decide +kernel, rfl⟩
theorem d_X11_token_153 : DC mi_X11_token 153 (.iconst 2) 1 154 := ⟨by decide +kernel, rfl⟩
theorem d_X11_token_154 : DC mi_X11_token 154 (.putfield 167) 3 157 := ⟨by decide +kernel, rfl⟩
theorem d_X11_token_157 : DC mi_X11_token 157 (.aload_n 0) 1 158 := ⟨by decide +kernel, rfl⟩
theorem d_X11_token_158 : DC mi_X11_token 158 (.iconst 0) 1 159 := ⟨by decide +kernel, rfl⟩
theorem d_X11_token_159 : DC mi_X11_token 159 (.putfield 177) 3 162 := ⟨by decide +kernel, rfl⟩
theorem d_X11_token_162 : DC mi_X11_token 162 (.aload_n 0) 1 163 := ⟨by decide +kernel, rfl⟩
theorem d_X11_token_163 : DC mi_X11_token 163 (.invokevirtual 160) 3 166 := ⟨by decide +kernel, rfl⟩
theorem d_X11_token_166 : DC mi_X11_token 166 (.invokestatic 183) 3 169 := ⟨by decide +kernel, rfl⟩
theorem d_X11_token_169 : DB mi_X11_token 169 (.ifCond .eq 56) 56 172 225 := ⟨by decide +kernel, rfl, by decide⟩
theorem d_X11_token_172 : DC mi_X11_token 172 (.aload_n 0) 1 173 := ⟨by decide +kernel, rfl⟩
theorem d_X11_token_173 : DC mi_X11_token 173 (.aload_n 0) 1 174 := ⟨by decide +kernel, rfl⟩
theorem d_X11_token_174 : DC mi_X11_token 174 (.getfield 177) 3 177 := ⟨by decide +kernel, rfl⟩
theorem d_X11_token_177 : DC mi_X11_token 177 (.ldc 186) 2 179 := ⟨by decide +kernel, rfl⟩
theorem d_X11_token_179 : DB mi_X11_token 179 (.if_icmp .le 10) 10 182 189 := ⟨by decide +kernel, rfl, by decide⟩
theorem d_X11_token_182 : DC mi_X11_token 182 (.aload_n 0) 1 183 := ⟨by decide +kernel, rfl⟩
theorem d_X11_token_183 : DC mi_X11_token 183 (.getfield 177) 3 186 := ⟨by decide +kernel, rfl⟩
theorem d_X11_token_186 : DB mi_X11_token 186 (.goto 18) 18 189 204 := ⟨by decide +kernel, rfl, by decide⟩
theorem d_X11_token_189 : DC mi_X11_token 189 (.bipush 10) 2 191 := ⟨by decide +kernel, rfl⟩
theorem d_X11_token_191 : DC mi_X11_token 191 (.aload_n 0) 1 192 := ⟨by decide +kernel, rfl⟩
theorem d_X11_token_192 : DC mi_X11_token 192 (.getfield 177) 3 195 := ⟨by decide +kernel, rfl⟩
theorem d_X11_token_195 : DC mi_X11_token 195 (.imul) 1 196 := ⟨by decide +kernel, rfl⟩
theorem d_X11_token_196 : DC mi_X11_token 196 (.aload_n 0) 1 197 := ⟨by decide +kernel, rfl⟩
theorem d_X11_token_197 : DC mi_X11_token 197 (.invokevirtual 160) 3 200 := ⟨by decide +kernel, rfl⟩
theorem d_X11_token_200 : DC mi_X11_token 200 (.iadd) 1 201 := ⟨by decide +kernel, rfl⟩
theorem d_X11_token_201 : DC mi_X11_token 201 (.bipush 48) 2 203 := ⟨by decide +kernel, rfl⟩
theorem d_X11_token_203 : DC mi_X11_token 203 (.isub) 1 204 := ⟨by decide +kernel, rfl⟩
theorem d_X11_token_204 : DC mi_X11_token 204 (.putfield 177) 3 207 := ⟨by decide +kernel, rfl⟩
theorem d_X11_token_207 : DC mi_X11_token 207 (.aload_n 0) 1 208 := ⟨by decide +kernel, rfl⟩
theorem d_X11_token_208 : DC mi_X11_token 208 (.dup) 1 209 := ⟨by decide +kernel, rfl⟩
theorem d_X11_token_209 : DC mi_X11_token 209 (.getfield 154) 3 212 := ⟨by decide +kernel, rfl⟩
theorem d_X11_token_212 : DC mi_X11_token 212 (.iconst 1) 1 213 := ⟨by decide +kernel, rfl⟩
theorem d_X11_token_213 : DC mi_X11_token 213 (.iadd) 1 214 := ⟨by decide +kernel, rfl⟩
theorem d_X11_token_214 : DC mi_X11_token 214 (.putfield 154) 3 217 := ⟨by decide +kernel, rfl⟩
theorem d_X11_token_217 : DB mi_X11_token 217 (.goto (-55)) (-55) 220 162 := ⟨by decide +kernel, rfl, by decide⟩
theorem d_X11_token_220 : DC mi_X11_token 220 (.aload_n 0) 1 221 := ⟨by decide +kernel, rfl⟩
theorem d_X11_token_221 : DC mi_X11_token 221 (.iload_n 1) 1 222 := ⟨by decide +kernel, rfl⟩
theorem d_X11_token_222 : DC mi_X11_token 222 (.invokevirtual 187) 3 225 := ⟨by decide +kernel, rfl⟩
theorem d_X11_token_225 : DC mi_X11_token 225 (.return_) 1 226 := ⟨by decide +kernel, rfl⟩
set_option maxHeartbeats 4000000 in
set_option maxRecDepth 100000 in
theorem sL_X11_token_0 (d : Nat) (hd : 7 ≤ d) (K31 : HH → Option (Unit × HH)) (hK31 : ∀ (h : HH), Sx mi_X11_token d iU (K31 h) 31 [(0, .ref 255)] [] h) : ∀ (n : Nat) (h : HH), Sx mi_X11_token d iU (g_X11_token_L0 K31 n h) 0 [(0, .ref 255)] [] h := by
  intro n
  induction n with
  | zero => intro h; exact sx_none
  | succ n ih =>
    intro h
    rw [g_X11_token_L0]
    refine sx_aload_n d_X11_token_0 0 rfl ?_
    refine sx_callV [] mv_X11_here lM_StairCountModel_160 sh_255 (by omega) rfl rfl (Nat.le_of_ble_eq_true rfl) d_X11_token_1 (sp_X11_here (d - 1) (by omega) h) (fun r2 h1 => ?_)
    refine sx_bipush d_X11_token_4 bc10 ?_
    refine sx_jn (fun j => ∀  (h : HH), Sx mi_X11_token d iU (j  h) 18 [(0, .ref 255)] [] h) ?_ ?_
    · intro  h5
      refine sx_aload_n d_X11_token_18 0 rfl ?_
      refine sx_dup d_X11_token_19 rfl ?_
      refine sx_getI fl_StairCountModel_154 sh_255 rfl d_X11_token_20 (fun v6 => ?_)
      refine sx_iconst d_X11_token_23 ic1 ?_
      refine sx_iadd d_X11_token_24 ?_
      refine sx_putI fl_StairCountModel_154 sh_255 rfl hty_11_23 d_X11_token_25 (fun h7 => ?_)
      refine sx_goto d_X11_token_28 ?_
      exact ih h7
    · intro j3 k4
      refine sx_icmp_eq d_X11_token_6 ?_ ?_
      · exact k4 h1
      · refine sx_aload_n d_X11_token_9 0 rfl ?_
        refine sx_callV [] mv_X11_here lM_StairCountModel_160 sh_255 (by omega) rfl rfl (Nat.le_of_ble_eq_true rfl) d_X11_token_10 (sp_X11_here (d - 1) (by omega) h1) (fun r9 h8 => ?_)
        refine sx_bipush d_X11_token_13 bc32 ?_
        refine sx_icmp_ne d_X11_token_15 ?_ ?_
        · exact k4 h8
        · exact hK31 h8
set_option maxHeartbeats 4000000 in
set_option maxRecDepth 100000 in
theorem sL_X11_token_162 (d : Nat) (hd : 7 ≤ d) : ∀ (n : Nat) (h : HH), Sx mi_X11_token d iU (g_X11_token_L162 n h) 162 [(0, .ref 255)] [] h := by
  intro n
  induction n with
  | zero => intro h; exact sx_none
  | succ n ih =>
    intro h
    rw [g_X11_token_L162]
    refine sx_aload_n d_X11_token_162 0 rfl ?_
    refine sx_callV [] mv_X11_here lM_StairCountModel_160 sh_255 (by omega) rfl rfl (Nat.le_of_ble_eq_true rfl) d_X11_token_163 (sp_X11_here (d - 1) (by omega) h) (fun r25 h24 => ?_)
    refine sx_callS [.int r25] ms_X11_isDigit lM_StairCountModel_183 (by omega) rfl rfl (Nat.le_of_ble_eq_true rfl) d_X11_token_166 (sp_X11_isDigit (d - 1) (by omega) r25 h24) (fun r27 h26 => ?_)
    refine sx_if_eq d_X11_token_169 ?_ ?_
    · exact sx_vret rfl d_X11_token_225
    · refine sx_aload_n d_X11_token_172 0 rfl ?_
      refine sx_aload_n d_X11_token_173 0 rfl ?_
      refine sx_getI fl_StairCountModel_177 sh_255 rfl d_X11_token_174 (fun v28 => ?_)
      refine sx_ldc d_X11_token_177 lK_StairCountModel_186 ?_
      refine sx_jn (fun j => ∀ (y32 : Int32) (h : HH), Sx mi_X11_token d iU (j y32 h) 204 [(0, .ref 255)] [.int y32, .ref 255] h) ?_ ?_
      · intro y32 h31
        refine sx_putI fl_StairCountModel_177 sh_255 rfl hty_11_26 d_X11_token_204 (fun h33 => ?_)
        refine sx_aload_n d_X11_token_207 0 rfl ?_
        refine sx_dup d_X11_token_208 rfl ?_
        refine sx_getI fl_StairCountModel_154 sh_255 rfl d_X11_token_209 (fun v34 => ?_)
        refine sx_iconst d_X11_token_212 ic1 ?_
        refine sx_iadd d_X11_token_213 ?_
        refine sx_putI fl_StairCountModel_154 sh_255 rfl hty_11_23 d_X11_token_214 (fun h35 => ?_)
        refine sx_goto d_X11_token_217 ?_
        exact ih h35
      · intro j29 k30
        refine sx_icmp_le d_X11_token_179 ?_ ?_
        · refine sx_aload_n d_X11_token_182 0 rfl ?_
          refine sx_getI fl_StairCountModel_177 sh_255 rfl d_X11_token_183 (fun v36 => ?_)
          refine sx_goto d_X11_token_186 ?_
          exact k30 v36 h26
        · refine sx_bipush d_X11_token_189 bc10 ?_
          refine sx_aload_n d_X11_token_191 0 rfl ?_
          refine sx_getI fl_StairCountModel_177 sh_255 rfl d_X11_token_192 (fun v37 => ?_)
          refine sx_imul d_X11_token_195 ?_
          refine sx_aload_n d_X11_token_196 0 rfl ?_
          refine sx_callV [] mv_X11_here lM_StairCountModel_160 sh_255 (by omega) rfl rfl (Nat.le_of_ble_eq_true rfl) d_X11_token_197 (sp_X11_here (d - 1) (by omega) h26) (fun r39 h38 => ?_)
          refine sx_iadd d_X11_token_200 ?_
          refine sx_bipush d_X11_token_201 bc48 ?_
          refine sx_isub d_X11_token_203 ?_
          exact k30 ((((10 : Int32) * v37) + r39) - (48 : Int32)) h38
set_option maxHeartbeats 4000000 in
set_option maxRecDepth 100000 in
theorem sL_X11_token_64 (d : Nat) (hd : 7 ≤ d) (K87 : HH → Option (Unit × HH)) (hK87 : ∀ (h : HH), Sx mi_X11_token d iU (K87 h) 87 [(0, .ref 255)] [] h) : ∀ (n : Nat) (h : HH), Sx mi_X11_token d iU (g_X11_token_L64 K87 n h) 64 [(0, .ref 255)] [] h := by
  intro n
  induction n with
  | zero => intro h; exact sx_none
  | succ n ih =>
    intro h
    rw [g_X11_token_L64]
    refine sx_aload_n d_X11_token_64 0 rfl ?_
    refine sx_callV [] mv_X11_here lM_StairCountModel_160 sh_255 (by omega) rfl rfl (Nat.le_of_ble_eq_true rfl) d_X11_token_65 (sp_X11_here (d - 1) (by omega) h) (fun r41 h40 => ?_)
    refine sx_callS [.int r41] ms_X11_isSmall lM_StairCountModel_170 (by omega) rfl rfl (Nat.le_of_ble_eq_true rfl) d_X11_token_68 (sp_X11_isSmall (d - 1) (by omega) r41 h40) (fun r43 h42 => ?_)
    refine sx_if_eq d_X11_token_71 ?_ ?_
    · exact hK87 h42
    · refine sx_aload_n d_X11_token_74 0 rfl ?_
      refine sx_dup d_X11_token_75 rfl ?_
      refine sx_getI fl_StairCountModel_154 sh_255 rfl d_X11_token_76 (fun v44 => ?_)
      refine sx_iconst d_X11_token_79 ic1 ?_
      refine sx_iadd d_X11_token_80 ?_
      refine sx_putI fl_StairCountModel_154 sh_255 rfl hty_11_23 d_X11_token_81 (fun h45 => ?_)
      refine sx_goto d_X11_token_84 ?_
      exact ih h45
set_option maxHeartbeats 4000000 in
set_option maxRecDepth 100000 in
theorem sp_X11_token (d : Nat) (hd : 7 ≤ d) (h : HH) : Sp mi_X11_token d iU [.ref 255] h (g_X11_token h) := by
  refine sp_of (lc := [(0, .ref 255)]) (by decide) (Nat.le_of_ble_eq_true rfl) rfl ?_
  unfold g_X11_token
  refine sL_X11_token_0 d hd _ ?_ 1024 h
  · intro h10
    refine sx_aload_n d_X11_token_31 0 rfl ?_
    refine sx_aload_n d_X11_token_32 0 rfl ?_
    refine sx_getI fl_StairCountModel_154 sh_255 rfl d_X11_token_33 (fun v11 => ?_)
    refine sx_putI fl_StairCountModel_164 sh_255 rfl hty_11_24 d_X11_token_36 (fun h12 => ?_)
    refine sx_aload_n d_X11_token_39 0 rfl ?_
    refine sx_callV [] mv_X11_here lM_StairCountModel_160 sh_255 (by omega) rfl rfl (Nat.le_of_ble_eq_true rfl) d_X11_token_40 (sp_X11_here (d - 1) (by omega) h12) (fun r14 h13 => ?_)
    refine sx_istore_n (i := 1) (lc' := [(1, .int r14), (0, .ref 255)]) d_X11_token_43 rfl (by decide) rfl ?_
    refine sx_iload_n d_X11_token_44 0 rfl ?_
    refine sx_iconst d_X11_token_45 icm1 ?_
    refine sx_icmp_ne d_X11_token_46 ?_ ?_
    · refine sx_aload_n d_X11_token_49 1 rfl ?_
      refine sx_iconst d_X11_token_50 ic4 ?_
      refine sx_putI fl_StairCountModel_167 sh_255 rfl hty_11_25 d_X11_token_51 (fun h15 => ?_)
      refine sx_goto d_X11_token_54 ?_
      exact sx_vret rfl d_X11_token_225
    · refine sx_iload_n d_X11_token_57 0 rfl ?_
      refine sx_callS [.int r14] ms_X11_isSmall lM_StairCountModel_170 (by omega) rfl rfl (Nat.le_of_ble_eq_true rfl) d_X11_token_58 (sp_X11_isSmall (d - 1) (by omega) r14 h13) (fun r17 h16 => ?_)
      refine sx_if_eq d_X11_token_61 ?_ ?_
      · refine sx_iload_n d_X11_token_145 0 rfl ?_
        refine sx_callS [.int r14] ms_X11_isDigit lM_StairCountModel_183 (by omega) rfl rfl (Nat.le_of_ble_eq_true rfl) d_X11_token_146 (sp_X11_isDigit (d - 1) (by omega) r14 h16) (fun r19 h18 => ?_)
        refine sx_if_eq d_X11_token_149 ?_ ?_
        · refine sx_aload_n d_X11_token_220 1 rfl ?_
          refine sx_iload_n d_X11_token_221 0 rfl ?_
          refine sx_callV [.int r14] mv_X11_sign lM_StairCountModel_187 sh_255 (by omega) rfl rfl (Nat.le_of_ble_eq_true rfl) d_X11_token_222 (sp_X11_sign (d - 1) (by omega) r14 h18) (fun _ h20 => ?_)
          exact sx_vret rfl d_X11_token_225
        · refine sx_aload_n d_X11_token_152 1 rfl ?_
          refine sx_iconst d_X11_token_153 ic2 ?_
          refine sx_putI fl_StairCountModel_167 sh_255 rfl hty_11_25 d_X11_token_154 (fun h22 => ?_)
          refine sx_aload_n d_X11_token_157 1 rfl ?_
          refine sx_iconst d_X11_token_158 ic0 ?_
          refine sx_putI fl_StairCountModel_177 sh_255 rfl hty_11_26 d_X11_token_159 (fun h23 => ?_)
          refine sx_lc (lc' := [(0, .ref 255)]) [1] rfl ?_
          refine sL_X11_token_162 d hd  1024 h23
      · refine sx_lc (lc' := [(0, .ref 255)]) [1] rfl ?_
        refine sL_X11_token_64 d hd _ ?_ 1024 h16
        · intro h46
          refine sx_aload_n d_X11_token_87 0 rfl ?_
          refine sx_aload_n d_X11_token_88 0 rfl ?_
          refine sx_callV [] mv_X11_word lM_StairCountModel_174 sh_255 (by omega) rfl rfl (Nat.le_of_ble_eq_true rfl) d_X11_token_89 (sp_X11_word (d - 1) (by omega) h46) (fun r48 h47 => ?_)
          refine sx_putI fl_StairCountModel_177 sh_255 rfl hty_11_26 d_X11_token_92 (fun h49 => ?_)
          refine sx_aload_n d_X11_token_95 0 rfl ?_
          refine sx_aload_n d_X11_token_96 0 rfl ?_
          refine sx_getI fl_StairCountModel_177 sh_255 rfl d_X11_token_97 (fun v50 => ?_)
          refine sx_iconst d_X11_token_100 icm1 ?_
          refine sx_jn (fun j => ∀ (y54 : Int32) (h : HH), Sx mi_X11_token d iU (j y54 h) 127 [(0, .ref 255)] [.int y54, .ref 255] h) ?_ ?_
          · intro y54 h53
            refine sx_putI fl_StairCountModel_167 sh_255 rfl hty_11_25 d_X11_token_127 (fun h55 => ?_)
            refine sx_aload_n d_X11_token_130 0 rfl ?_
            refine sx_getI fl_StairCountModel_167 sh_255 rfl d_X11_token_131 (fun v56 => ?_)
            refine sx_iconst d_X11_token_134 ic1 ?_
            refine sx_icmp_ne d_X11_token_135 ?_ ?_
            · refine sx_aload_n d_X11_token_138 0 rfl ?_
              refine sx_callV [] mv_X11_name lM_StairCountModel_180 sh_255 (by omega) rfl rfl (Nat.le_of_ble_eq_true rfl) d_X11_token_139 (sp_X11_name (d - 1) (by omega) h55) (fun _ h57 => ?_)
              refine sx_goto d_X11_token_142 ?_
              exact sx_vret rfl d_X11_token_225
            · exact sx_vret rfl d_X11_token_225
          · intro j51 k52
            refine sx_icmp_eq d_X11_token_101 ?_ ?_
            · refine sx_aload_n d_X11_token_108 0 rfl ?_
              refine sx_getI fl_StairCountModel_154 sh_255 rfl d_X11_token_109 (fun v59 => ?_)
              refine sx_aload_n d_X11_token_112 0 rfl ?_
              refine sx_getI fl_StairCountModel_164 sh_255 rfl d_X11_token_113 (fun v60 => ?_)
              refine sx_isub d_X11_token_116 ?_
              refine sx_bipush d_X11_token_117 bc6 ?_
              refine sx_icmp_le d_X11_token_119 ?_ ?_
              · refine sx_iconst d_X11_token_122 ic5 ?_
                refine sx_goto d_X11_token_123 ?_
                exact k52 (5 : Int32) h49
              · refine sx_iconst d_X11_token_126 ic1 ?_
                exact k52 (1 : Int32) h49
            · refine sx_iconst d_X11_token_104 ic0 ?_
              refine sx_goto d_X11_token_105 ?_
              exact k52 (0 : Int32) h49
theorem d_X11_wrong_0 : DC mi_X11_wrong 0 (.aload_n 0) 1 1 := ⟨by decide +kernel, rfl⟩
theorem d_X11_wrong_1 : DC mi_X11_wrong 1 (.getfield 202) 3 4 := ⟨by decide +kernel, rfl⟩
theorem d_X11_wrong_4 : DB mi_X11_wrong 4 (.ifCond .eq 4) 4 7 8 := ⟨by decide +kernel, rfl, by decide⟩
theorem d_X11_wrong_7 : DC mi_X11_wrong 7 (.return_) 1 8 := ⟨by decide +kernel, rfl⟩
theorem d_X11_wrong_8 : DC mi_X11_wrong 8 (.aload_n 0) 1 9 := ⟨by decide +kernel, rfl⟩
theorem d_X11_wrong_9 : DC mi_X11_wrong 9 (.iload_n 1) 1 10 := ⟨by decide +kernel, rfl⟩
theorem d_X11_wrong_10 : DC mi_X11_wrong 10 (.putfield 202) 3 13 := ⟨by decide +kernel, rfl⟩
theorem d_X11_wrong_13 : DC mi_X11_wrong 13 (.aload_n 0) 1 14 := ⟨by decide +kernel, rfl⟩
theorem d_X11_wrong_14 : DC mi_X11_wrong 14 (.aload_n 0) 1 15 := ⟨by decide +kernel, rfl⟩
theorem d_X11_wrong_15 : DC mi_X11_wrong 15 (.getfield 164) 3 18 := ⟨by decide +kernel, rfl⟩
theorem d_X11_wrong_18 : DC mi_X11_wrong 18 (.putfield 205) 3 21 := ⟨by decide +kernel, rfl⟩
theorem d_X11_wrong_21 : DC mi_X11_wrong 21 (.return_) 1 22 := ⟨by decide +kernel, rfl⟩
set_option maxHeartbeats 4000000 in
set_option maxRecDepth 100000 in
theorem sp_X11_wrong (d : Nat) (hd : 0 ≤ d) (a0 : Int32) (h : HH) : Sp mi_X11_wrong d iU [.ref 255, .int a0] h (g_X11_wrong a0 h) := by
  refine sp_of (lc := [(0, .ref 255), (1, .int a0)]) (by decide) (Nat.le_of_ble_eq_true rfl) rfl ?_
  unfold g_X11_wrong
  refine sx_aload_n d_X11_wrong_0 0 rfl ?_
  refine sx_getI fl_StairCountModel_202 sh_255 rfl d_X11_wrong_1 (fun v1 => ?_)
  refine sx_if_eq d_X11_wrong_4 ?_ ?_
  · refine sx_aload_n d_X11_wrong_8 0 rfl ?_
    refine sx_iload_n d_X11_wrong_9 1 rfl ?_
    refine sx_putI fl_StairCountModel_202 sh_255 rfl hty_11_27 d_X11_wrong_10 (fun h2 => ?_)
    refine sx_aload_n d_X11_wrong_13 0 rfl ?_
    refine sx_aload_n d_X11_wrong_14 0 rfl ?_
    refine sx_getI fl_StairCountModel_164 sh_255 rfl d_X11_wrong_15 (fun v3 => ?_)
    refine sx_putI fl_StairCountModel_205 sh_255 rfl hty_11_28 d_X11_wrong_18 (fun h4 => ?_)
    exact sx_vret rfl d_X11_wrong_21
  · exact sx_vret rfl d_X11_wrong_7
theorem d_X11_isWord_0 : DC mi_X11_isWord 0 (.aload_n 0) 1 1 := ⟨by decide +kernel, rfl⟩
theorem d_X11_isWord_1 : DC mi_X11_isWord 1 (.getfield 202) 3 4 := ⟨by decide +kernel, rfl⟩
theorem d_X11_isWord_4 : DB mi_X11_isWord 4 (.ifCond .ne 22) 22 7 26 := ⟨by decide +kernel, rfl, by decide⟩
theorem d_X11_isWord_7 : DC mi_X11_isWord 7 (.aload_n 0) 1 8 := ⟨by decide +kernel, rfl⟩
theorem d_X11_isWord_8 : DC mi_X11_isWord 8 (.getfield 167) 3 11 := ⟨by decide +kernel, rfl⟩
theorem d_X11_isWord_11 : DB mi_X11_isWord 11 (.ifCond .ne 15) 15 14 26 := ⟨by decide +kernel, rfl, by decide⟩
theorem d_X11_isWord_14 : DC mi_X11_isWord 14 (.aload_n 0) 1 15 := ⟨by decide +kernel, rfl⟩
theorem d_X11_isWord_15 : DC mi_X11_isWord 15 (.getfield 177) 3 18 := ⟨by decide +kernel, rfl⟩
theorem d_X11_isWord_18 : DC mi_X11_isWord 18 (.iload_n 1) 1 19 := ⟨by decide +kernel, rfl⟩
theorem d_X11_isWord_19 : DB mi_X11_isWord 19 (.if_icmp .ne 7) 7 22 26 := ⟨by decide +kernel, rfl, by decide⟩
theorem d_X11_isWord_22 : DC mi_X11_isWord 22 (.iconst 1) 1 23 := ⟨by decide +kernel, rfl⟩
theorem d_X11_isWord_23 : DB mi_X11_isWord 23 (.goto 4) 4 26 27 := ⟨by decide +kernel, rfl, by decide⟩
theorem d_X11_isWord_26 : DC mi_X11_isWord 26 (.iconst 0) 1 27 := ⟨by decide +kernel, rfl⟩
theorem d_X11_isWord_27 : DC mi_X11_isWord 27 (.ireturn) 1 28 := ⟨by decide +kernel, rfl⟩
set_option maxHeartbeats 4000000 in
set_option maxRecDepth 100000 in
theorem sp_X11_isWord (d : Nat) (hd : 0 ≤ d) (a0 : Int32) (h : HH) : Sp mi_X11_isWord d iI [.ref 255, .int a0] h (g_X11_isWord a0 h) := by
  refine sp_of (lc := [(0, .ref 255), (1, .int a0)]) (by decide) (Nat.le_of_ble_eq_true rfl) rfl ?_
  unfold g_X11_isWord
  refine sx_aload_n d_X11_isWord_0 0 rfl ?_
  refine sx_getI fl_StairCountModel_202 sh_255 rfl d_X11_isWord_1 (fun v1 => ?_)
  refine sx_if_ne d_X11_isWord_4 ?_ ?_
  · refine sx_aload_n d_X11_isWord_7 0 rfl ?_
    refine sx_getI fl_StairCountModel_167 sh_255 rfl d_X11_isWord_8 (fun v2 => ?_)
    refine sx_if_ne d_X11_isWord_11 ?_ ?_
    · refine sx_aload_n d_X11_isWord_14 0 rfl ?_
      refine sx_getI fl_StairCountModel_177 sh_255 rfl d_X11_isWord_15 (fun v3 => ?_)
      refine sx_iload_n d_X11_isWord_18 1 rfl ?_
      refine sx_icmp_ne d_X11_isWord_19 ?_ ?_
      · refine sx_iconst d_X11_isWord_22 ic1 ?_
        refine sx_goto d_X11_isWord_23 ?_
        exact sx_zret (by decide) rfl d_X11_isWord_27
      · refine sx_iconst d_X11_isWord_26 ic0 ?_
        exact sx_zret (by decide) rfl d_X11_isWord_27
    · refine sx_iconst d_X11_isWord_26 ic0 ?_
      exact sx_zret (by decide) rfl d_X11_isWord_27
  · refine sx_iconst d_X11_isWord_26 ic0 ?_
    exact sx_zret (by decide) rfl d_X11_isWord_27
theorem d_X11_isSign_0 : DC mi_X11_isSign 0 (.aload_n 0) 1 1 := ⟨by decide +kernel, rfl⟩
theorem d_X11_isSign_1 : DC mi_X11_isSign 1 (.getfield 202) 3 4 := ⟨by decide +kernel, rfl⟩
theorem d_X11_isSign_4 : DB mi_X11_isSign 4 (.ifCond .ne 23) 23 7 27 := ⟨by decide +kernel, rfl, by decide⟩
theorem d_X11_isSign_7 : DC mi_X11_isSign 7 (.aload_n 0) 1 8 := ⟨by decide +kernel, rfl⟩
theorem d_X11_isSign_8 : DC mi_X11_isSign 8 (.getfield 167) 3 11 := ⟨by decide +kernel, rfl⟩
theorem d_X11_isSign_11 : DC mi_X11_isSign 11 (.iconst 3) 1 12 := ⟨by decide +kernel, rfl⟩
theorem d_X11_isSign_12 : DB mi_X11_isSign 12 (.if_icmp .ne 15) 15 15 27 := ⟨by decide +kernel, rfl, by decide⟩
theorem d_X11_isSign_15 : DC mi_X11_isSign 15 (.aload_n 0) 1 16 := ⟨by decide +kernel, rfl⟩
theorem d_X11_isSign_16 : DC mi_X11_isSign 16 (.getfield 177) 3 19 := ⟨by decide +kernel, rfl⟩
theorem d_X11_isSign_19 : DC mi_X11_isSign 19 (.iload_n 1) 1 20 := ⟨by decide +kernel, rfl⟩
theorem d_X11_isSign_20 : DB mi_X11_isSign 20 (.if_icmp .ne 7) 7 23 27 := ⟨by decide +kernel, rfl, by decide⟩
theorem d_X11_isSign_23 : DC mi_X11_isSign 23 (.iconst 1) 1 24 := ⟨by decide +kernel, rfl⟩
theorem d_X11_isSign_24 : DB mi_X11_isSign 24 (.goto 4) 4 27 28 := ⟨by decide +kernel, rfl, by decide⟩
theorem d_X11_isSign_27 : DC mi_X11_isSign 27 (.iconst 0) 1 28 := ⟨by decide +kernel, rfl⟩
theorem d_X11_isSign_28 : DC mi_X11_isSign 28 (.ireturn) 1 29 := ⟨by decide +kernel, rfl⟩
set_option maxHeartbeats 4000000 in
set_option maxRecDepth 100000 in
theorem sp_X11_isSign (d : Nat) (hd : 0 ≤ d) (a0 : Int32) (h : HH) : Sp mi_X11_isSign d iI [.ref 255, .int a0] h (g_X11_isSign a0 h) := by
  refine sp_of (lc := [(0, .ref 255), (1, .int a0)]) (by decide) (Nat.le_of_ble_eq_true rfl) rfl ?_
  unfold g_X11_isSign
  refine sx_aload_n d_X11_isSign_0 0 rfl ?_
  refine sx_getI fl_StairCountModel_202 sh_255 rfl d_X11_isSign_1 (fun v1 => ?_)
  refine sx_if_ne d_X11_isSign_4 ?_ ?_
  · refine sx_aload_n d_X11_isSign_7 0 rfl ?_
    refine sx_getI fl_StairCountModel_167 sh_255 rfl d_X11_isSign_8 (fun v2 => ?_)
    refine sx_iconst d_X11_isSign_11 ic3 ?_
    refine sx_icmp_ne d_X11_isSign_12 ?_ ?_
    · refine sx_aload_n d_X11_isSign_15 0 rfl ?_
      refine sx_getI fl_StairCountModel_177 sh_255 rfl d_X11_isSign_16 (fun v3 => ?_)
      refine sx_iload_n d_X11_isSign_19 1 rfl ?_
      refine sx_icmp_ne d_X11_isSign_20 ?_ ?_
      · refine sx_iconst d_X11_isSign_23 ic1 ?_
        refine sx_goto d_X11_isSign_24 ?_
        exact sx_zret (by decide) rfl d_X11_isSign_28
      · refine sx_iconst d_X11_isSign_27 ic0 ?_
        exact sx_zret (by decide) rfl d_X11_isSign_28
    · refine sx_iconst d_X11_isSign_27 ic0 ?_
      exact sx_zret (by decide) rfl d_X11_isSign_28
  · refine sx_iconst d_X11_isSign_27 ic0 ?_
    exact sx_zret (by decide) rfl d_X11_isSign_28
theorem d_X11_goOn_0 : DC mi_X11_goOn 0 (.aload_n 0) 1 1 := ⟨by decide +kernel, rfl⟩
theorem d_X11_goOn_1 : DC mi_X11_goOn 1 (.getfield 202) 3 4 := ⟨by decide +kernel, rfl⟩
theorem d_X11_goOn_4 : DB mi_X11_goOn 4 (.ifCond .ne 7) 7 7 11 := ⟨by decide +kernel, rfl, by decide⟩
theorem d_X11_goOn_7 : DC mi_X11_goOn 7 (.aload_n 0) 1 8 := ⟨by decide +kernel, rfl⟩
theorem d_X11_goOn_8 : DC mi_X11_goOn 8 (.invokevirtual 208) 3 11 := ⟨by decide +kernel, rfl⟩
theorem d_X11_goOn_11 : DC mi_X11_goOn 11 (.return_) 1 12 := ⟨by decide +kernel, rfl⟩
set_option maxHeartbeats 4000000 in
set_option maxRecDepth 100000 in
theorem sp_X11_goOn (d : Nat) (hd : 8 ≤ d) (h : HH) : Sp mi_X11_goOn d iU [.ref 255] h (g_X11_goOn h) := by
  refine sp_of (lc := [(0, .ref 255)]) (by decide) (Nat.le_of_ble_eq_true rfl) rfl ?_
  unfold g_X11_goOn
  refine sx_aload_n d_X11_goOn_0 0 rfl ?_
  refine sx_getI fl_StairCountModel_202 sh_255 rfl d_X11_goOn_1 (fun v1 => ?_)
  refine sx_if_ne d_X11_goOn_4 ?_ ?_
  · refine sx_aload_n d_X11_goOn_7 0 rfl ?_
    refine sx_callV [] mv_X11_token lM_StairCountModel_208 sh_255 (by omega) rfl rfl (Nat.le_of_ble_eq_true rfl) d_X11_goOn_8 (sp_X11_token (d - 1) (by omega) h) (fun _ h2 => ?_)
    exact sx_vret rfl d_X11_goOn_11
  · exact sx_vret rfl d_X11_goOn_11
theorem d_X11_numeral_0 : DC mi_X11_numeral 0 (.aload_n 0) 1 1 := ⟨by decide +kernel, rfl⟩
theorem d_X11_numeral_1 : DC mi_X11_numeral 1 (.getfield 202) 3 4 := ⟨by decide +kernel, rfl⟩
theorem d_X11_numeral_4 : DB mi_X11_numeral 4 (.ifCond .eq 5) 5 7 9 := ⟨by decide +kernel, rfl, by decide⟩
theorem d_X11_numeral_7 : DC mi_X11_numeral 7 (.iload_n 1) 1 8 := ⟨by decide +kernel, rfl⟩
theorem d_X11_numeral_8 : DC mi_X11_numeral 8 (.ireturn) 1 9 := ⟨by decide +kernel, rfl⟩
theorem d_X11_numeral_9 : DC mi_X11_numeral 9 (.aload_n 0) 1 10 := ⟨by decide +kernel, rfl⟩
theorem d_X11_numeral_10 : DC mi_X11_numeral 10 (.getfield 167) 3 13 := ⟨by decide +kernel, rfl⟩
theorem d_X11_numeral_13 : DC mi_X11_numeral 13 (.iconst 2) 1 14 := ⟨by decide +kernel, rfl⟩
theorem d_X11_numeral_14 : DB mi_X11_numeral 14 (.if_icmp .eq 11) 11 17 25 := ⟨by decide +kernel, rfl, by decide⟩
theorem d_X11_numeral_17 : DC mi_X11_numeral 17 (.aload_n 0) 1 18 := ⟨by decide +kernel, rfl⟩
theorem d_X11_numeral_18 : DC mi_X11_numeral 18 (.iconst 1) 1 19 := ⟨by decide +kernel, rfl⟩
theorem d_X11_numeral_19 : DC mi_X11_numeral 19 (.invokevirtual 211) 3 22 := ⟨by decide +kernel, rfl⟩
theorem d_X11_numeral_22 : DB mi_X11_numeral 22 (.goto 24) 24 25 46 := ⟨by decide +kernel, rfl, by decide⟩
theorem d_X11_numeral_25 : DC mi_X11_numeral 25 (.aload_n 0) 1 26 := ⟨by decide +kernel, rfl⟩
theorem d_X11_numeral_26 : DC mi_X11_numeral 26 (.getfield 177) 3 29 := ⟨by decide +kernel, rfl⟩
theorem d_X11_numeral_29 : DC mi_X11_numeral 29 (.iload_n 1) 1 30 := ⟨by decide +kernel, rfl⟩
theorem d_X11_numeral_30 : DB mi_X11_numeral 30 (.if_icmp .lt 11) 11 33 41 := ⟨by decide +kernel, rfl, by decide⟩
theorem d_X11_numeral_33 : DC mi_X11_numeral 33 (.aload_n 0) 1 34 := ⟨by decide +kernel, rfl⟩
theorem d_X11_numeral_34 : DC mi_X11_numeral 34 (.getfield 177) 3 37 := ⟨by decide +kernel, rfl⟩
theorem d_X11_numeral_37 : DC mi_X11_numeral 37 (.iload_n 2) 1 38 := ⟨by decide +kernel, rfl⟩
theorem d_X11_numeral_38 : DB mi_X11_numeral 38 (.if_icmp .le 8) 8 41 46 := ⟨by decide +kernel, rfl, by decide⟩
theorem d_X11_numeral_41 : DC mi_X11_numeral 41 (.aload_n 0) 1 42 := ⟨by decide +kernel, rfl⟩
theorem d_X11_numeral_42 : DC mi_X11_numeral 42 (.iconst 2) 1 43 := ⟨by decide +kernel, rfl⟩
theorem d_X11_numeral_43 : DC mi_X11_numeral 43 (.invokevirtual 211) 3 46 := ⟨by decide +kernel, rfl⟩
theorem d_X11_numeral_46 : DC mi_X11_numeral 46 (.aload_n 0) 1 47 := ⟨by decide +kernel, rfl⟩
theorem d_X11_numeral_47 : DC mi_X11_numeral 47 (.getfield 202) 3 50 := ⟨by decide +kernel, rfl⟩
theorem d_X11_numeral_50 : DB mi_X11_numeral 50 (.ifCond .eq 5) 5 53 55 := ⟨by decide +kernel, rfl, by decide⟩
theorem d_X11_numeral_53 : DC mi_X11_numeral 53 (.iload_n 1) 1 54 := ⟨by decide +kernel, rfl⟩
theorem d_X11_numeral_54 : DC mi_X11_numeral 54 (.ireturn) 1 55 := ⟨by decide +kernel, rfl⟩
theorem d_X11_numeral_55 : DC mi_X11_numeral 55 (.aload_n 0) 1 56 := ⟨by decide +kernel, rfl⟩
theorem d_X11_numeral_56 : DC mi_X11_numeral 56 (.getfield 177) 3 59 := ⟨by decide +kernel, rfl⟩
theorem d_X11_numeral_59 : DC mi_X11_numeral 59 (.istore_n 3) 1 60 := ⟨by decide +kernel, rfl⟩
theorem d_X11_numeral_60 : DC mi_X11_numeral 60 (.aload_n 0) 1 61 := ⟨by decide +kernel, rfl⟩
theorem d_X11_numeral_61 : DC mi_X11_numeral 61 (.invokevirtual 208) 3 64 := ⟨by decide +kernel, rfl⟩
theorem d_X11_numeral_64 : DC mi_X11_numeral 64 (.iload_n 3) 1 65 := ⟨by decide +kernel, rfl⟩
theorem d_X11_numeral_65 : DC mi_X11_numeral 65 (.ireturn) 1 66 := ⟨by decide +kernel, rfl⟩
set_option maxHeartbeats 4000000 in
set_option maxRecDepth 100000 in
theorem sp_X11_numeral (d : Nat) (hd : 8 ≤ d) (a0 : Int32) (a1 : Int32) (h : HH) : Sp mi_X11_numeral d iI [.ref 255, .int a0, .int a1] h (g_X11_numeral a0 a1 h) := by
  refine sp_of (lc := [(0, .ref 255), (1, .int a0), (2, .int a1)]) (by decide) (Nat.le_of_ble_eq_true rfl) rfl ?_
  unfold g_X11_numeral
  refine sx_aload_n d_X11_numeral_0 0 rfl ?_
  refine sx_getI fl_StairCountModel_202 sh_255 rfl d_X11_numeral_1 (fun v1 => ?_)
  refine sx_if_eq d_X11_numeral_4 ?_ ?_
  · refine sx_aload_n d_X11_numeral_9 0 rfl ?_
    refine sx_getI fl_StairCountModel_167 sh_255 rfl d_X11_numeral_10 (fun v2 => ?_)
    refine sx_iconst d_X11_numeral_13 ic2 ?_
    refine sx_jn (fun j => ∀  (h : HH), Sx mi_X11_numeral d iI (j  h) 46 [(0, .ref 255), (1, .int a0)] [] h) ?_ ?_
    · intro  h5
      refine sx_aload_n d_X11_numeral_46 0 rfl ?_
      refine sx_getI fl_StairCountModel_202 sh_255 rfl d_X11_numeral_47 (fun v6 => ?_)
      refine sx_if_eq d_X11_numeral_50 ?_ ?_
      · refine sx_aload_n d_X11_numeral_55 0 rfl ?_
        refine sx_getI fl_StairCountModel_177 sh_255 rfl d_X11_numeral_56 (fun v7 => ?_)
        refine sx_istore_n (i := 3) (lc' := [(3, .int v7), (0, .ref 255), (1, .int a0)]) d_X11_numeral_59 rfl (by decide) rfl ?_
        refine sx_aload_n d_X11_numeral_60 1 rfl ?_
        refine sx_callV [] mv_X11_token lM_StairCountModel_208 sh_255 (by omega) rfl rfl (Nat.le_of_ble_eq_true rfl) d_X11_numeral_61 (sp_X11_token (d - 1) (by omega) h5) (fun _ h8 => ?_)
        refine sx_iload_n d_X11_numeral_64 0 rfl ?_
        exact sx_iret rfl d_X11_numeral_65
      · refine sx_iload_n d_X11_numeral_53 1 rfl ?_
        exact sx_iret rfl d_X11_numeral_54
    · intro j3 k4
      refine sx_icmp_eq d_X11_numeral_14 ?_ ?_
      · refine sx_aload_n d_X11_numeral_25 0 rfl ?_
        refine sx_getI fl_StairCountModel_177 sh_255 rfl d_X11_numeral_26 (fun v10 => ?_)
        refine sx_iload_n d_X11_numeral_29 1 rfl ?_
        refine sx_jn (fun j => ∀  (h : HH), Sx mi_X11_numeral d iI (j  h) 41 [(0, .ref 255), (1, .int a0)] [] h) ?_ ?_
        · intro  h13
          refine sx_aload_n d_X11_numeral_41 0 rfl ?_
          refine sx_iconst d_X11_numeral_42 ic2 ?_
          refine sx_callV [.int (2 : Int32)] mv_X11_wrong lM_StairCountModel_211 sh_255 (by omega) rfl rfl (Nat.le_of_ble_eq_true rfl) d_X11_numeral_43 (sp_X11_wrong (d - 1) (by omega) (2 : Int32) h13) (fun _ h14 => ?_)
          exact k4 h14
        · intro j11 k12
          refine sx_icmp_lt d_X11_numeral_30 ?_ ?_
          · refine sx_lc (lc' := [(0, .ref 255), (1, .int a0)]) [0, 1] rfl ?_
            exact k12 h
          · refine sx_aload_n d_X11_numeral_33 0 rfl ?_
            refine sx_getI fl_StairCountModel_177 sh_255 rfl d_X11_numeral_34 (fun v16 => ?_)
            refine sx_iload_n d_X11_numeral_37 2 rfl ?_
            refine sx_icmp_le d_X11_numeral_38 ?_ ?_
            · refine sx_lc (lc' := [(0, .ref 255), (1, .int a0)]) [0, 1] rfl ?_
              exact k12 h
            · refine sx_lc (lc' := [(0, .ref 255), (1, .int a0)]) [0, 1] rfl ?_
              exact k4 h
      · refine sx_aload_n d_X11_numeral_17 0 rfl ?_
        refine sx_iconst d_X11_numeral_18 ic1 ?_
        refine sx_callV [.int (1 : Int32)] mv_X11_wrong lM_StairCountModel_211 sh_255 (by omega) rfl rfl (Nat.le_of_ble_eq_true rfl) d_X11_numeral_19 (sp_X11_wrong (d - 1) (by omega) (1 : Int32) h) (fun _ h17 => ?_)
        refine sx_goto d_X11_numeral_22 ?_
        refine sx_lc (lc' := [(0, .ref 255), (1, .int a0)]) [0, 1] rfl ?_
        exact k4 h17
  · refine sx_iload_n d_X11_numeral_7 1 rfl ?_
    exact sx_iret rfl d_X11_numeral_8
theorem d_X11_found_0 : DC mi_X11_found 0 (.iconst 0) 1 1 := ⟨by decide +kernel, rfl⟩
theorem d_X11_found_1 : DC mi_X11_found 1 (.istore 4) 2 3 := ⟨by decide +kernel, rfl⟩
theorem d_X11_found_3 : DC mi_X11_found 3 (.iload 4) 2 5 := ⟨by decide +kernel, rfl⟩
theorem d_X11_found_5 : DC mi_X11_found 5 (.iload_n 2) 1 6 := ⟨by decide +kernel, rfl⟩
theorem d_X11_found_6 : DB mi_X11_found 6 (.if_icmp .ge 22) 22 9 28 := ⟨by decide +kernel, rfl, by decide⟩
theorem d_X11_found_9 : DC mi_X11_found 9 (.aload_n 0) 1 10 := ⟨by decide +kernel, rfl⟩
theorem d_X11_found_10 : DC mi_X11_found 10 (.iload_n 1) 1 11 := ⟨by decide +kernel, rfl⟩
theorem d_X11_found_11 : DC mi_X11_found 11 (.iload 4) 2 13 := ⟨by decide +kernel, rfl⟩
theorem d_X11_found_13 : DC mi_X11_found 13 (.iadd) 1 14 := ⟨by decide +kernel, rfl⟩
theorem d_X11_found_14 : DC mi_X11_found 14 (.iaload) 1 15 := ⟨by decide +kernel, rfl⟩
theorem d_X11_found_15 : DC mi_X11_found 15 (.iload_n 3) 1 16 := ⟨by decide +kernel, rfl⟩
theorem d_X11_found_16 : DB mi_X11_found 16 (.if_icmp .ne 6) 6 19 22 := ⟨by decide +kernel, rfl, by decide⟩
theorem d_X11_found_19 : DC mi_X11_found 19 (.iload 4) 2 21 := ⟨by decide +kernel, rfl⟩
theorem d_X11_found_21 : DC mi_X11_found 21 (.ireturn) 1 22 := ⟨by decide +kernel, rfl⟩
theorem d_X11_found_22 : DC mi_X11_found 22 (.iinc 4 1) 3 25 := ⟨by decide +kernel, rfl⟩
theorem d_X11_found_25 : DB mi_X11_found 25 (.goto (-22)) (-22) 28 3 := ⟨by decide +kernel, rfl, by decide⟩
theorem d_X11_found_28 : DC mi_X11_found 28 (.iconst (-1)) 1 29 := ⟨by decide +kernel, rfl⟩
theorem d_X11_found_29 : DC mi_X11_found 29 (.ireturn) 1 30 := ⟨by decide +kernel, rfl⟩
set_option maxHeartbeats 4000000 in
set_option maxRecDepth 100000 in
theorem sL_X11_found_3 (d : Nat) (hd : 0 ≤ d) (c1 : Int32) (c2 : Int32) (c3 : Int32) : ∀ (n : Nat) (x4 : Int32) (h : HH), Sx mi_X11_found d iI (g_X11_found_L3 c1 c2 c3 n x4 h) 3 [(0, .ref 259), (1, .int c1), (2, .int c2), (3, .int c3), (4, .int x4)] [] h := by
  intro n
  induction n with
  | zero => intro x4 h; exact sx_none
  | succ n ih =>
    intro x4 h
    rw [g_X11_found_L3]
    refine sx_iload d_X11_found_3 4 rfl ?_
    refine sx_iload_n d_X11_found_5 2 rfl ?_
    refine sx_icmp_ge d_X11_found_6 ?_ ?_
    · refine sx_aload_n d_X11_found_9 0 rfl ?_
      refine sx_iload_n d_X11_found_10 1 rfl ?_
      refine sx_iload d_X11_found_11 4 rfl ?_
      refine sx_iadd d_X11_found_13 ?_
      refine sx_iald sh_259 d_X11_found_14 (fun v1 => ?_)
      refine sx_iload_n d_X11_found_15 3 rfl ?_
      refine sx_icmp_ne d_X11_found_16 ?_ ?_
      · refine sx_iload d_X11_found_19 4 rfl ?_
        exact sx_iret rfl d_X11_found_21
      · refine sx_iincV (lc' := fun v2 => [(4, .int v2), (0, .ref 259), (1, .int c1), (2, .int c2), (3, .int c3)]) (k0 := 4) d_X11_found_22 rfl ii1 (by decide) (fun _ => rfl) (fun v2 => ?_)
        refine sx_goto d_X11_found_25 ?_
        refine sx_lc (lc' := [(0, .ref 259), (1, .int c1), (2, .int c2), (3, .int c3), (4, .int v2)]) [1, 2, 3, 4, 0] rfl ?_
        exact ih v2 h
    · refine sx_iconst d_X11_found_28 icm1 ?_
      exact sx_iret rfl d_X11_found_29
set_option maxHeartbeats 4000000 in
set_option maxRecDepth 100000 in
theorem sp_X11_found (d : Nat) (hd : 0 ≤ d) (a1 : Int32) (a2 : Int32) (a3 : Int32) (h : HH) : Sp mi_X11_found d iI [.ref 259, .int a1, .int a2, .int a3] h (g_X11_found a1 a2 a3 h) := by
  refine sp_of (lc := [(0, .ref 259), (1, .int a1), (2, .int a2), (3, .int a3)]) (by decide) (Nat.le_of_ble_eq_true rfl) rfl ?_
  unfold g_X11_found
  refine sx_iconst d_X11_found_0 ic0 ?_
  refine sx_istore (i := 4) (lc' := [(4, .int (0 : Int32)), (0, .ref 259), (1, .int a1), (2, .int a2), (3, .int a3)]) d_X11_found_1 (by decide) rfl ?_
  refine sx_lc (lc' := [(0, .ref 259), (1, .int a1), (2, .int a2), (3, .int a3), (4, .int (0 : Int32))]) [1, 2, 3, 4, 0] rfl ?_
  refine sL_X11_found_3 d hd a1 a2 a3 1024 (0 : Int32) h
theorem d_X11_fresh_0 : DC mi_X11_fresh 0 (.aload_n 0) 1 1 := ⟨by decide +kernel, rfl⟩
theorem d_X11_fresh_1 : DC mi_X11_fresh 1 (.getfield 202) 3 4 := ⟨by decide +kernel, rfl⟩
theorem d_X11_fresh_4 : DB mi_X11_fresh 4 (.ifCond .eq 5) 5 7 9 := ⟨by decide +kernel, rfl, by decide⟩
theorem d_X11_fresh_7 : DC mi_X11_fresh 7 (.iconst 0) 1 8 := ⟨by decide +kernel, rfl⟩
theorem d_X11_fresh_8 : DC mi_X11_fresh 8 (.ireturn) 1 9 := ⟨by decide +kernel, rfl⟩
theorem d_X11_fresh_9 : DC mi_X11_fresh 9 (.aload_n 0) 1 10 := ⟨by decide +kernel, rfl⟩
theorem d_X11_fresh_10 : DC mi_X11_fresh 10 (.getfield 167) 3 13 := ⟨by decide +kernel, rfl⟩
theorem d_X11_fresh_13 : DC mi_X11_fresh 13 (.iconst 1) 1 14 := ⟨by decide +kernel, rfl⟩
theorem d_X11_fresh_14 : DB mi_X11_fresh 14 (.if_icmp .eq 11) 11 17 25 := ⟨by decide +kernel, rfl, by decide⟩
theorem d_X11_fresh_17 : DC mi_X11_fresh 17 (.aload_n 0) 1 18 := ⟨by decide +kernel, rfl⟩
theorem d_X11_fresh_18 : DC mi_X11_fresh 18 (.iconst 1) 1 19 := ⟨by decide +kernel, rfl⟩
theorem d_X11_fresh_19 : DC mi_X11_fresh 19 (.invokevirtual 211) 3 22 := ⟨by decide +kernel, rfl⟩
theorem d_X11_fresh_22 : DB mi_X11_fresh 22 (.goto 22) 22 25 44 := ⟨by decide +kernel, rfl, by decide⟩
theorem d_X11_fresh_25 : DC mi_X11_fresh 25 (.aload_n 1) 1 26 := ⟨by decide +kernel, rfl⟩
theorem d_X11_fresh_26 : DC mi_X11_fresh 26 (.iload_n 2) 1 27 := ⟨by decide +kernel, rfl⟩
theorem d_X11_fresh_27 : DC mi_X11_fresh 27 (.iload_n 3) 1 28 := ⟨by decide +kernel, rfl⟩
theorem d_X11_fresh_28 : DC mi_X11_fresh 28 (.aload_n 0) 1 29 := ⟨by decide +kernel, rfl⟩
theorem d_X11_fresh_29 : DC mi_X11_fresh 29 (.getfield 177) 3 32 := ⟨by decide +kernel, rfl⟩
theorem d_X11_fresh_32 : DC mi_X11_fresh 32 (.invokestatic 214) 3 35 := ⟨by decide +kernel, rfl⟩
theorem d_X11_fresh_35 : DC mi_X11_fresh 35 (.iconst (-1)) 1 36 := ⟨by decide +kernel, rfl⟩
theorem d_X11_fresh_36 : DB mi_X11_fresh 36 (.if_icmp .eq 8) 8 39 44 := ⟨by decide +kernel, rfl, by decide⟩
theorem d_X11_fresh_39 : DC mi_X11_fresh 39 (.aload_n 0) 1 40 := ⟨by decide +kernel, rfl⟩
theorem d_X11_fresh_40 : DC mi_X11_fresh 40 (.iconst 3) 1 41 := ⟨by decide +kernel, rfl⟩
theorem d_X11_fresh_41 : DC mi_X11_fresh 41 (.invokevirtual 211) 3 44 := ⟨by decide +kernel, rfl⟩
theorem d_X11_fresh_44 : DC mi_X11_fresh 44 (.aload_n 0) 1 45 := ⟨by decide +kernel, rfl⟩
theorem d_X11_fresh_45 : DC mi_X11_fresh 45 (.getfield 202) 3 48 := ⟨by decide +kernel, rfl⟩
theorem d_X11_fresh_48 : DB mi_X11_fresh 48 (.ifCond .eq 5) 5 51 53 := ⟨by decide +kernel, rfl, by decide⟩
theorem d_X11_fresh_51 : DC mi_X11_fresh 51 (.iconst 0) 1 52 := ⟨by decide +kernel, rfl⟩
theorem d_X11_fresh_52 : DC mi_X11_fresh 52 (.ireturn) 1 53 := ⟨by decide +kernel, rfl⟩
theorem d_X11_fresh_53 : DC mi_X11_fresh 53 (.aload_n 0) 1 54 := ⟨by decide +kernel, rfl⟩
theorem d_X11_fresh_54 : DC mi_X11_fresh 54 (.getfield 177) 3 57 := ⟨by decide +kernel, rfl⟩
theorem d_X11_fresh_57 : DC mi_X11_fresh 57 (.istore 4) 2 59 := ⟨by decide +kernel, rfl⟩
theorem d_X11_fresh_59 : DC mi_X11_fresh 59 (.aload_n 0) 1 60 := ⟨by decide +kernel, rfl⟩
theorem d_X11_fresh_60 : DC mi_X11_fresh 60 (.invokevirtual 208) 3 63 := ⟨by decide +kernel, rfl⟩
theorem d_X11_fresh_63 : DC mi_X11_fresh 63 (.iload 4) 2 65 := ⟨by decide +kernel, rfl⟩
theorem d_X11_fresh_65 : DC mi_X11_fresh 65 (.ireturn) 1 66 := ⟨by decide +kernel, rfl⟩
set_option maxHeartbeats 4000000 in
set_option maxRecDepth 100000 in
theorem sp_X11_fresh (d : Nat) (hd : 8 ≤ d) (a1 : Int32) (a2 : Int32) (h : HH) : Sp mi_X11_fresh d iI [.ref 255, .ref 259, .int a1, .int a2] h (g_X11_fresh a1 a2 h) := by
  refine sp_of (lc := [(0, .ref 255), (1, .ref 259), (2, .int a1), (3, .int a2)]) (by decide) (Nat.le_of_ble_eq_true rfl) rfl ?_
  unfold g_X11_fresh
  refine sx_aload_n d_X11_fresh_0 0 rfl ?_
  refine sx_getI fl_StairCountModel_202 sh_255 rfl d_X11_fresh_1 (fun v1 => ?_)
  refine sx_if_eq d_X11_fresh_4 ?_ ?_
  · refine sx_aload_n d_X11_fresh_9 0 rfl ?_
    refine sx_getI fl_StairCountModel_167 sh_255 rfl d_X11_fresh_10 (fun v2 => ?_)
    refine sx_iconst d_X11_fresh_13 ic1 ?_
    refine sx_jn (fun j => ∀  (h : HH), Sx mi_X11_fresh d iI (j  h) 44 [(0, .ref 255)] [] h) ?_ ?_
    · intro  h5
      refine sx_aload_n d_X11_fresh_44 0 rfl ?_
      refine sx_getI fl_StairCountModel_202 sh_255 rfl d_X11_fresh_45 (fun v6 => ?_)
      refine sx_if_eq d_X11_fresh_48 ?_ ?_
      · refine sx_aload_n d_X11_fresh_53 0 rfl ?_
        refine sx_getI fl_StairCountModel_177 sh_255 rfl d_X11_fresh_54 (fun v7 => ?_)
        refine sx_istore (i := 4) (lc' := [(4, .int v7), (0, .ref 255)]) d_X11_fresh_57 (by decide) rfl ?_
        refine sx_aload_n d_X11_fresh_59 1 rfl ?_
        refine sx_callV [] mv_X11_token lM_StairCountModel_208 sh_255 (by omega) rfl rfl (Nat.le_of_ble_eq_true rfl) d_X11_fresh_60 (sp_X11_token (d - 1) (by omega) h5) (fun _ h8 => ?_)
        refine sx_iload d_X11_fresh_63 0 rfl ?_
        exact sx_iret rfl d_X11_fresh_65
      · refine sx_iconst d_X11_fresh_51 ic0 ?_
        exact sx_iret rfl d_X11_fresh_52
    · intro j3 k4
      refine sx_icmp_eq d_X11_fresh_14 ?_ ?_
      · refine sx_aload_n d_X11_fresh_25 1 rfl ?_
        refine sx_iload_n d_X11_fresh_26 2 rfl ?_
        refine sx_iload_n d_X11_fresh_27 3 rfl ?_
        refine sx_aload_n d_X11_fresh_28 0 rfl ?_
        refine sx_getI fl_StairCountModel_177 sh_255 rfl d_X11_fresh_29 (fun v10 => ?_)
        refine sx_callS [.ref 259, .int a1, .int a2, .int v10] ms_X11_found lM_StairCountModel_214 (by omega) rfl rfl (Nat.le_of_ble_eq_true rfl) d_X11_fresh_32 (sp_X11_found (d - 1) (by omega) a1 a2 v10 h) (fun r12 h11 => ?_)
        refine sx_iconst d_X11_fresh_35 icm1 ?_
        refine sx_icmp_eq d_X11_fresh_36 ?_ ?_
        · refine sx_lc (lc' := [(0, .ref 255)]) [0] rfl ?_
          exact k4 h11
        · refine sx_aload_n d_X11_fresh_39 0 rfl ?_
          refine sx_iconst d_X11_fresh_40 ic3 ?_
          refine sx_callV [.int (3 : Int32)] mv_X11_wrong lM_StairCountModel_211 sh_255 (by omega) rfl rfl (Nat.le_of_ble_eq_true rfl) d_X11_fresh_41 (sp_X11_wrong (d - 1) (by omega) (3 : Int32) h11) (fun _ h13 => ?_)
          refine sx_lc (lc' := [(0, .ref 255)]) [0] rfl ?_
          exact k4 h13
      · refine sx_aload_n d_X11_fresh_17 0 rfl ?_
        refine sx_iconst d_X11_fresh_18 ic1 ?_
        refine sx_callV [.int (1 : Int32)] mv_X11_wrong lM_StairCountModel_211 sh_255 (by omega) rfl rfl (Nat.le_of_ble_eq_true rfl) d_X11_fresh_19 (sp_X11_wrong (d - 1) (by omega) (1 : Int32) h) (fun _ h15 => ?_)
        refine sx_goto d_X11_fresh_22 ?_
        refine sx_lc (lc' := [(0, .ref 255)]) [0] rfl ?_
        exact k4 h15
  · refine sx_iconst d_X11_fresh_7 ic0 ?_
    exact sx_iret rfl d_X11_fresh_8
theorem d_X11_fresher_0 : DC mi_X11_fresher 0 (.aload_n 0) 1 1 := ⟨by decide +kernel, rfl⟩
theorem d_X11_fresher_1 : DC mi_X11_fresher 1 (.getfield 13) 3 4 := ⟨by decide +kernel, rfl⟩
theorem d_X11_fresher_4 : DC mi_X11_fresher 4 (.bipush 7) 2 6 := ⟨by decide +kernel, rfl⟩
theorem d_X11_fresher_6 : DC mi_X11_fresher 6 (.iload_n 1) 1 7 := ⟨by decide +kernel, rfl⟩
theorem d_X11_fresher_7 : DC mi_X11_fresher 7 (.iadd) 1 8 := ⟨by decide +kernel, rfl⟩
theorem d_X11_fresher_8 : DC mi_X11_fresher 8 (.iaload) 1 9 := ⟨by decide +kernel, rfl⟩
theorem d_X11_fresher_9 : DC mi_X11_fresher 9 (.ireturn) 1 10 := ⟨by decide +kernel, rfl⟩
set_option maxHeartbeats 4000000 in
set_option maxRecDepth 100000 in
theorem sp_X11_fresher (d : Nat) (hd : 0 ≤ d) (a0 : Int32) (h : HH) : Sp mi_X11_fresher d iI [.ref 255, .int a0] h (g_X11_fresher a0 h) := by
  refine sp_of (lc := [(0, .ref 255), (1, .int a0)]) (by decide) (Nat.le_of_ble_eq_true rfl) rfl ?_
  unfold g_X11_fresher
  refine sx_aload_n d_X11_fresher_0 0 rfl ?_
  refine sx_getF (a' := 257) fl_StairCountModel_13 sh_255 rfl rfl d_X11_fresher_1 ?_
  refine sx_bipush d_X11_fresher_4 bc7 ?_
  refine sx_iload_n d_X11_fresher_6 1 rfl ?_
  refine sx_iadd d_X11_fresher_7 ?_
  refine sx_iald sh_257 d_X11_fresher_8 (fun v1 => ?_)
  exact sx_iret rfl d_X11_fresher_9
theorem d_X11_reads_0 : DC mi_X11_reads 0 (.aload_n 0) 1 1 := ⟨by decide +kernel, rfl⟩
theorem d_X11_reads_1 : DC mi_X11_reads 1 (.getfield 13) 3 4 := ⟨by decide +kernel, rfl⟩
theorem d_X11_reads_4 : DC mi_X11_reads 4 (.bipush 7) 2 6 := ⟨by decide +kernel, rfl⟩
theorem d_X11_reads_6 : DC mi_X11_reads 6 (.iload_n 1) 1 7 := ⟨by decide +kernel, rfl⟩
theorem d_X11_reads_7 : DC mi_X11_reads 7 (.iadd) 1 8 := ⟨by decide +kernel, rfl⟩
theorem d_X11_reads_8 : DC mi_X11_reads 8 (.iload_n 2) 1 9 := ⟨by decide +kernel, rfl⟩
theorem d_X11_reads_9 : DC mi_X11_reads 9 (.iastore) 1 10 := ⟨by decide +kernel, rfl⟩
theorem d_X11_reads_10 : DC mi_X11_reads 10 (.return_) 1 11 := ⟨by decide +kernel, rfl⟩
set_option maxHeartbeats 4000000 in
set_option maxRecDepth 100000 in
theorem sp_X11_reads (d : Nat) (hd : 0 ≤ d) (a0 : Int32) (a1 : Int32) (h : HH) : Sp mi_X11_reads d iU [.ref 255, .int a0, .int a1] h (g_X11_reads a0 a1 h) := by
  refine sp_of (lc := [(0, .ref 255), (1, .int a0), (2, .int a1)]) (by decide) (Nat.le_of_ble_eq_true rfl) rfl ?_
  unfold g_X11_reads
  refine sx_aload_n d_X11_reads_0 0 rfl ?_
  refine sx_getF (a' := 257) fl_StairCountModel_13 sh_255 rfl rfl d_X11_reads_1 ?_
  refine sx_bipush d_X11_reads_4 bc7 ?_
  refine sx_iload_n d_X11_reads_6 1 rfl ?_
  refine sx_iadd d_X11_reads_7 ?_
  refine sx_iload_n d_X11_reads_8 2 rfl ?_
  refine sx_iast sh_257 d_X11_reads_9 (fun h1 => ?_)
  exact sx_vret rfl d_X11_reads_10
theorem d_X11_personAhead_0 : DC mi_X11_personAhead 0 (.aload_n 0) 1 1 := ⟨by decide +kernel, rfl⟩
theorem d_X11_personAhead_1 : DC mi_X11_personAhead 1 (.getfield 202) 3 4 := ⟨by decide +kernel, rfl⟩
theorem d_X11_personAhead_4 : DB mi_X11_personAhead 4 (.ifCond .eq 5) 5 7 9 := ⟨by decide +kernel, rfl, by decide⟩
theorem d_X11_personAhead_7 : DC mi_X11_personAhead 7 (.iconst 0) 1 8 := ⟨by decide +kernel, rfl⟩
theorem d_X11_personAhead_8 : DC mi_X11_personAhead 8 (.ireturn) 1 9 := ⟨by decide +kernel, rfl⟩
theorem d_X11_personAhead_9 : DC mi_X11_personAhead 9 (.aload_n 0) 1 10 := ⟨by decide +kernel, rfl⟩
theorem d_X11_personAhead_10 : DC mi_X11_personAhead 10 (.getfield 167) 3 13 := ⟨by decide +kernel, rfl⟩
theorem d_X11_personAhead_13 : DC mi_X11_personAhead 13 (.iconst 1) 1 14 := ⟨by decide +kernel, rfl⟩
theorem d_X11_personAhead_14 : DB mi_X11_personAhead 14 (.if_icmp .eq 8) 8 17 22 := ⟨by decide +kernel, rfl, by decide⟩
theorem d_X11_personAhead_17 : DC mi_X11_personAhead 17 (.aload_n 0) 1 18 := ⟨by decide +kernel, rfl⟩
theorem d_X11_personAhead_18 : DC mi_X11_personAhead 18 (.iconst 1) 1 19 := ⟨by decide +kernel, rfl⟩
theorem d_X11_personAhead_19 : DC mi_X11_personAhead 19 (.invokevirtual 211) 3 22 := ⟨by decide +kernel, rfl⟩
theorem d_X11_personAhead_22 : DC mi_X11_personAhead 22 (.aload_n 0) 1 23 := ⟨by decide +kernel, rfl⟩
theorem d_X11_personAhead_23 : DC mi_X11_personAhead 23 (.getfield 202) 3 26 := ⟨by decide +kernel, rfl⟩
theorem d_X11_personAhead_26 : DB mi_X11_personAhead 26 (.ifCond .ne 24) 24 29 50 := ⟨by decide +kernel, rfl, by decide⟩
theorem d_X11_personAhead_29 : DC mi_X11_personAhead 29 (.aload_n 0) 1 30 := ⟨by decide +kernel, rfl⟩
theorem d_X11_personAhead_30 : DC mi_X11_personAhead 30 (.getfield 19) 3 33 := ⟨by decide +kernel, rfl⟩
theorem d_X11_personAhead_33 : DC mi_X11_personAhead 33 (.bipush 6) 2 35 := ⟨by decide +kernel, rfl⟩
theorem d_X11_personAhead_35 : DC mi_X11_personAhead 35 (.aload_n 0) 1 36 := ⟨by decide +kernel, rfl⟩
theorem d_X11_personAhead_36 : DC mi_X11_personAhead 36 (.iconst 1) 1 37 := ⟨by decide +kernel, rfl⟩
theorem d_X11_personAhead_37 : DC mi_X11_personAhead 37 (.invokevirtual 218) 3 40 := ⟨by decide +kernel, rfl⟩
theorem d_X11_personAhead_40 : DC mi_X11_personAhead 40 (.aload_n 0) 1 41 := ⟨by decide +kernel, rfl⟩
theorem d_X11_personAhead_41 : DC mi_X11_personAhead 41 (.getfield 177) 3 44 := ⟨by decide +kernel, rfl⟩
theorem d_X11_personAhead_44 : DC mi_X11_personAhead 44 (.invokestatic 214) 3 47 := ⟨by decide +kernel, rfl⟩
theorem d_X11_personAhead_47 : DB mi_X11_personAhead 47 (.goto 4) 4 50 51 := ⟨by decide +kernel, rfl, by decide⟩
theorem d_X11_personAhead_50 : DC mi_X11_personAhead 50 (.iconst 0) 1 51 := ⟨by decide +kernel, rfl⟩
theorem d_X11_personAhead_51 : DC mi_X11_personAhead 51 (.istore_n 1) 1 52 := ⟨by decide +kernel, rfl⟩
theorem d_X11_personAhead_52 : DC mi_X11_personAhead 52 (.aload_n 0) 1 53 := ⟨by decide +kernel, rfl⟩
theorem d_X11_personAhead_53 : DC mi_X11_personAhead 53 (.getfield 202) 3 56 := ⟨by decide +kernel, rfl⟩
theorem d_X11_personAhead_56 : DB mi_X11_personAhead 56 (.ifCond .ne 13) 13 59 69 := ⟨by decide +kernel, rfl, by decide⟩
theorem d_X11_personAhead_59 : DC mi_X11_personAhead 59 (.iload_n 1) 1 60 := ⟨by decide +kernel, rfl⟩
theorem d_X11_personAhead_60 : DC mi_X11_personAhead 60 (.iconst (-1)) 1 61 := ⟨by decide +kernel, rfl⟩
theorem d_X11_personAhead_61 : DB mi_X11_personAhead 61 (.if_icmp .ne 8) 8 64 69 := ⟨by decide +kernel, rfl, by decide⟩
theorem d_X11_personAhead_64 : DC mi_X11_personAhead 64 (.aload_n 0) 1 65 := ⟨by decide +kernel, rfl⟩
theorem d_X11_personAhead_65 : DC mi_X11_personAhead 65 (.iconst 4) 1 66 := ⟨by decide +kernel, rfl⟩
theorem d_X11_personAhead_66 : DC mi_X11_personAhead 66 (.invokevirtual 211) 3 69 := ⟨by decide +kernel, rfl⟩
theorem d_X11_personAhead_69 : DC mi_X11_personAhead 69 (.aload_n 0) 1 70 := ⟨by decide +kernel, rfl⟩
theorem d_X11_personAhead_70 : DC mi_X11_personAhead 70 (.invokevirtual 222) 3 73 := ⟨by decide +kernel, rfl⟩
theorem d_X11_personAhead_73 : DC mi_X11_personAhead 73 (.aload_n 0) 1 74 := ⟨by decide +kernel, rfl⟩
theorem d_X11_personAhead_74 : DC mi_X11_personAhead 74 (.getfield 202) 3 77 := ⟨by decide +kernel, rfl⟩
theorem d_X11_personAhead_77 : DB mi_X11_personAhead 77 (.ifCond .eq 7) 7 80 84 := ⟨by decide +kernel, rfl, by decide⟩
theorem d_X11_personAhead_80 : DC mi_X11_personAhead 80 (.iconst 0) 1 81 := ⟨by decide +kernel, rfl⟩
theorem d_X11_personAhead_81 : DB mi_X11_personAhead 81 (.goto 4) 4 84 85 := ⟨by decide +kernel, rfl, by decide⟩
theorem d_X11_personAhead_84 : DC mi_X11_personAhead 84 (.iload_n 1) 1 85 := ⟨by decide +kernel, rfl⟩
theorem d_X11_personAhead_85 : DC mi_X11_personAhead 85 (.ireturn) 1 86 := ⟨by decide +kernel, rfl⟩
set_option maxHeartbeats 4000000 in
set_option maxRecDepth 100000 in
theorem sp_X11_personAhead (d : Nat) (hd : 9 ≤ d) (h : HH) : Sp mi_X11_personAhead d iI [.ref 255] h (g_X11_personAhead h) := by
  refine sp_of (lc := [(0, .ref 255)]) (by decide) (Nat.le_of_ble_eq_true rfl) rfl ?_
  unfold g_X11_personAhead
  refine sx_aload_n d_X11_personAhead_0 0 rfl ?_
  refine sx_getI fl_StairCountModel_202 sh_255 rfl d_X11_personAhead_1 (fun v1 => ?_)
  refine sx_if_eq d_X11_personAhead_4 ?_ ?_
  · refine sx_aload_n d_X11_personAhead_9 0 rfl ?_
    refine sx_getI fl_StairCountModel_167 sh_255 rfl d_X11_personAhead_10 (fun v2 => ?_)
    refine sx_iconst d_X11_personAhead_13 ic1 ?_
    refine sx_jn (fun j => ∀  (h : HH), Sx mi_X11_personAhead d iI (j  h) 22 [(0, .ref 255)] [] h) ?_ ?_
    · intro  h5
      refine sx_aload_n d_X11_personAhead_22 0 rfl ?_
      refine sx_getI fl_StairCountModel_202 sh_255 rfl d_X11_personAhead_23 (fun v6 => ?_)
      refine sx_jn (fun j => ∀ (y10 : Int32) (h : HH), Sx mi_X11_personAhead d iI (j y10 h) 51 [(0, .ref 255)] [.int y10] h) ?_ ?_
      · intro y10 h9
        refine sx_istore_n (i := 1) (lc' := [(1, .int y10), (0, .ref 255)]) d_X11_personAhead_51 rfl (by decide) rfl ?_
        refine sx_aload_n d_X11_personAhead_52 1 rfl ?_
        refine sx_getI fl_StairCountModel_202 sh_255 rfl d_X11_personAhead_53 (fun v11 => ?_)
        refine sx_jn (fun j => ∀  (h : HH), Sx mi_X11_personAhead d iI (j  h) 69 [(0, .ref 255), (1, .int y10)] [] h) ?_ ?_
        · intro  h14
          refine sx_aload_n d_X11_personAhead_69 0 rfl ?_
          refine sx_callV [] mv_X11_goOn lM_StairCountModel_222 sh_255 (by omega) rfl rfl (Nat.le_of_ble_eq_true rfl) d_X11_personAhead_70 (sp_X11_goOn (d - 1) (by omega) h14) (fun _ h15 => ?_)
          refine sx_aload_n d_X11_personAhead_73 0 rfl ?_
          refine sx_getI fl_StairCountModel_202 sh_255 rfl d_X11_personAhead_74 (fun v17 => ?_)
          refine sx_if_eq d_X11_personAhead_77 ?_ ?_
          · refine sx_iload_n d_X11_personAhead_84 1 rfl ?_
            exact sx_iret rfl d_X11_personAhead_85
          · refine sx_iconst d_X11_personAhead_80 ic0 ?_
            refine sx_goto d_X11_personAhead_81 ?_
            exact sx_iret rfl d_X11_personAhead_85
        · intro j12 k13
          refine sx_if_ne d_X11_personAhead_56 ?_ ?_
          · refine sx_iload_n d_X11_personAhead_59 0 rfl ?_
            refine sx_iconst d_X11_personAhead_60 icm1 ?_
            refine sx_icmp_ne d_X11_personAhead_61 ?_ ?_
            · refine sx_aload_n d_X11_personAhead_64 1 rfl ?_
              refine sx_iconst d_X11_personAhead_65 ic4 ?_
              refine sx_callV [.int (4 : Int32)] mv_X11_wrong lM_StairCountModel_211 sh_255 (by omega) rfl rfl (Nat.le_of_ble_eq_true rfl) d_X11_personAhead_66 (sp_X11_wrong (d - 1) (by omega) (4 : Int32) h9) (fun _ h18 => ?_)
              refine sx_lc (lc' := [(0, .ref 255), (1, .int y10)]) [1, 0] rfl ?_
              exact k13 h18
            · refine sx_lc (lc' := [(0, .ref 255), (1, .int y10)]) [1, 0] rfl ?_
              exact k13 h9
          · refine sx_lc (lc' := [(0, .ref 255), (1, .int y10)]) [1, 0] rfl ?_
            exact k13 h9
      · intro j7 k8
        refine sx_if_ne d_X11_personAhead_26 ?_ ?_
        · refine sx_aload_n d_X11_personAhead_29 0 rfl ?_
          refine sx_getF (a' := 259) fl_StairCountModel_19 sh_255 rfl rfl d_X11_personAhead_30 ?_
          refine sx_bipush d_X11_personAhead_33 bc6 ?_
          refine sx_aload_n d_X11_personAhead_35 0 rfl ?_
          refine sx_iconst d_X11_personAhead_36 ic1 ?_
          refine sx_callV [.int (1 : Int32)] mv_X11_fresher lM_StairCountModel_218 sh_255 (by omega) rfl rfl (Nat.le_of_ble_eq_true rfl) d_X11_personAhead_37 (sp_X11_fresher (d - 1) (by omega) (1 : Int32) h5) (fun r21 h20 => ?_)
          refine sx_aload_n d_X11_personAhead_40 0 rfl ?_
          refine sx_getI fl_StairCountModel_177 sh_255 rfl d_X11_personAhead_41 (fun v22 => ?_)
          refine sx_callS [.ref 259, .int (6 : Int32), .int r21, .int v22] ms_X11_found lM_StairCountModel_214 (by omega) rfl rfl (Nat.le_of_ble_eq_true rfl) d_X11_personAhead_44 (sp_X11_found (d - 1) (by omega) (6 : Int32) r21 v22 h20) (fun r24 h23 => ?_)
          refine sx_goto d_X11_personAhead_47 ?_
          exact k8 r24 h23
        · refine sx_iconst d_X11_personAhead_50 ic0 ?_
          exact k8 (0 : Int32) h5
    · intro j3 k4
      refine sx_icmp_eq d_X11_personAhead_14 ?_ ?_
      · exact k4 h
      · refine sx_aload_n d_X11_personAhead_17 0 rfl ?_
        refine sx_iconst d_X11_personAhead_18 ic1 ?_
        refine sx_callV [.int (1 : Int32)] mv_X11_wrong lM_StairCountModel_211 sh_255 (by omega) rfl rfl (Nat.le_of_ble_eq_true rfl) d_X11_personAhead_19 (sp_X11_wrong (d - 1) (by omega) (1 : Int32) h) (fun _ h25 => ?_)
        exact k4 h25
  · refine sx_iconst d_X11_personAhead_7 ic0 ?_
    exact sx_iret rfl d_X11_personAhead_8
theorem d_X11_isFull_0 : DC mi_X11_isFull 0 (.iload_n 1) 1 1 := ⟨by decide +kernel, rfl⟩
theorem d_X11_isFull_1 : DW mi_X11_isFull 1 (.tableswitch 111 0 7 #[47, 63, 111, 111, 79, 95, 95, 95]) := ⟨47, by decide +kernel⟩
theorem d_X11_isFull_48 : DC mi_X11_isFull 48 (.aload_n 0) 1 49 := ⟨by decide +kernel, rfl⟩
theorem d_X11_isFull_49 : DC mi_X11_isFull 49 (.iconst 0) 1 50 := ⟨by decide +kernel, rfl⟩
theorem d_X11_isFull_50 : DC mi_X11_isFull 50 (.invokevirtual 218) 3 53 := ⟨by decide +kernel, rfl⟩
theorem d_X11_isFull_53 : DC mi_X11_isFull 53 (.bipush 6) 2 55 := ⟨by decide +kernel, rfl⟩
theorem d_X11_isFull_55 : DB mi_X11_isFull 55 (.if_icmp .ne 7) 7 58 62 := ⟨by decide +kernel, rfl, by decide⟩
theorem d_X11_isFull_58 : DC mi_X11_isFull 58 (.iconst 1) 1 59 := ⟨by decide +kernel, rfl⟩
theorem d_X11_isFull_59 : DB mi_X11_isFull 59 (.goto 4) 4 62 63 := ⟨by decide +kernel, rfl, by decide⟩
theorem d_X11_isFull_62 : DC mi_X11_isFull 62 (.iconst 0) 1 63 := ⟨by decide +kernel, rfl⟩
theorem d_X11_isFull_63 : DC mi_X11_isFull 63 (.ireturn) 1 64 := ⟨by decide +kernel, rfl⟩
theorem d_X11_isFull_64 : DC mi_X11_isFull 64 (.aload_n 0) 1 65 := ⟨by decide +kernel, rfl⟩
theorem d_X11_isFull_65 : DC mi_X11_isFull 65 (.iconst 1) 1 66 := ⟨by decide +kernel, rfl⟩
theorem d_X11_isFull_66 : DC mi_X11_isFull 66 (.invokevirtual 218) 3 69 := ⟨by decide +kernel, rfl⟩
theorem d_X11_isFull_69 : DC mi_X11_isFull 69 (.bipush 6) 2 71 := ⟨by decide +kernel, rfl⟩
theorem d_X11_isFull_71 : DB mi_X11_isFull 71 (.if_icmp .ne 7) 7 74 78 := ⟨by decide +kernel, rfl, by decide⟩
theorem d_X11_isFull_74 : DC mi_X11_isFull 74 (.iconst 1) 1 75 := ⟨by decide +kernel, rfl⟩
theorem d_X11_isFull_75 : DB mi_X11_isFull 75 (.goto 4) 4 78 79 := ⟨by decide +kernel, rfl, by decide⟩
theorem d_X11_isFull_78 : DC mi_X11_isFull 78 (.iconst 0) 1 79 := ⟨by decide +kernel, rfl⟩
theorem d_X11_isFull_79 : DC mi_X11_isFull 79 (.ireturn) 1 80 := ⟨by decide +kernel, rfl⟩
theorem d_X11_isFull_80 : DC mi_X11_isFull 80 (.aload_n 0) 1 81 := ⟨by decide +kernel, rfl⟩
theorem d_X11_isFull_81 : DC mi_X11_isFull 81 (.iconst 2) 1 82 := ⟨by decide +kernel, rfl⟩
theorem d_X11_isFull_82 : DC mi_X11_isFull 82 (.invokevirtual 218) 3 85 := ⟨by decide +kernel, rfl⟩
theorem d_X11_isFull_85 : DC mi_X11_isFull 85 (.bipush 6) 2 87 := ⟨by decide +kernel, rfl⟩
theorem d_X11_isFull_87 : DB mi_X11_isFull 87 (.if_icmp .ne 7) 7 90 94 := ⟨by decide +kernel, rfl, by decide⟩
theorem d_X11_isFull_90 : DC mi_X11_isFull 90 (.iconst 1) 1 91 := ⟨by decide +kernel, rfl⟩
theorem d_X11_isFull_91 : DB mi_X11_isFull 91 (.goto 4) 4 94 95 := ⟨by decide +kernel, rfl, by decide⟩
theorem d_X11_isFull_94 : DC mi_X11_isFull 94 (.iconst 0) 1 95 := ⟨by decide +kernel, rfl⟩
theorem d_X11_isFull_95 : DC mi_X11_isFull 95 (.ireturn) 1 96 := ⟨by decide +kernel, rfl⟩
theorem d_X11_isFull_96 : DC mi_X11_isFull 96 (.aload_n 0) 1 97 := ⟨by decide +kernel, rfl⟩
theorem d_X11_isFull_97 : DC mi_X11_isFull 97 (.iconst 3) 1 98 := ⟨by decide +kernel, rfl⟩
theorem d_X11_isFull_98 : DC mi_X11_isFull 98 (.invokevirtual 218) 3 101 := ⟨by decide +kernel, rfl⟩
theorem d_X11_isFull_101 : DC mi_X11_isFull 101 (.bipush 20) 2 103 := ⟨by decide +kernel, rfl⟩
theorem d_X11_isFull_103 : DB mi_X11_isFull 103 (.if_icmp .ne 7) 7 106 110 := ⟨by decide +kernel, rfl, by decide⟩
theorem d_X11_isFull_106 : DC mi_X11_isFull 106 (.iconst 1) 1 107 := ⟨by decide +kernel, rfl⟩
theorem d_X11_isFull_107 : DB mi_X11_isFull 107 (.goto 4) 4 110 111 := ⟨by decide +kernel, rfl, by decide⟩
theorem d_X11_isFull_110 : DC mi_X11_isFull 110 (.iconst 0) 1 111 := ⟨by decide +kernel, rfl⟩
theorem d_X11_isFull_111 : DC mi_X11_isFull 111 (.ireturn) 1 112 := ⟨by decide +kernel, rfl⟩
theorem d_X11_isFull_112 : DC mi_X11_isFull 112 (.iconst 0) 1 113 := ⟨by decide +kernel, rfl⟩
theorem d_X11_isFull_113 : DC mi_X11_isFull 113 (.ireturn) 1 114 := ⟨by decide +kernel, rfl⟩
set_option maxHeartbeats 4000000 in
set_option maxRecDepth 100000 in
theorem sp_X11_isFull (d : Nat) (hd : 1 ≤ d) (a0 : Int32) (h : HH) : Sp mi_X11_isFull d iI [.ref 255, .int a0] h (g_X11_isFull a0 h) := by
  refine sp_of (lc := [(0, .ref 255), (1, .int a0)]) (by decide) (Nat.le_of_ble_eq_true rfl) rfl ?_
  unfold g_X11_isFull
  refine sx_iload_n d_X11_isFull_0 1 rfl ?_
  refine sx_if (fun e1 => ?_) (fun e1 => ?_)
  · refine sx_tsIn (off := 47) (t := 48) d_X11_isFull_1 (by rw [e1] <;> decide) (by rw [e1] <;> decide) (by rw [e1] <;> decide) (by decide) ?_
    refine sx_aload_n d_X11_isFull_48 0 rfl ?_
    refine sx_iconst d_X11_isFull_49 ic0 ?_
    refine sx_callV [.int (0 : Int32)] mv_X11_fresher lM_StairCountModel_218 sh_255 (by omega) rfl rfl (Nat.le_of_ble_eq_true rfl) d_X11_isFull_50 (sp_X11_fresher (d - 1) (by omega) (0 : Int32) h) (fun r3 h2 => ?_)
    refine sx_bipush d_X11_isFull_53 bc6 ?_
    refine sx_icmp_ne d_X11_isFull_55 ?_ ?_
    · refine sx_iconst d_X11_isFull_58 ic1 ?_
      refine sx_goto d_X11_isFull_59 ?_
      exact sx_zret (by decide) rfl d_X11_isFull_63
    · refine sx_iconst d_X11_isFull_62 ic0 ?_
      exact sx_zret (by decide) rfl d_X11_isFull_63
  · refine sx_if (fun e4 => ?_) (fun e4 => ?_)
    · refine sx_tsIn (off := 63) (t := 64) d_X11_isFull_1 (by rw [e4] <;> decide) (by rw [e4] <;> decide) (by rw [e4] <;> decide) (by decide) ?_
      refine sx_aload_n d_X11_isFull_64 0 rfl ?_
      refine sx_iconst d_X11_isFull_65 ic1 ?_
      refine sx_callV [.int (1 : Int32)] mv_X11_fresher lM_StairCountModel_218 sh_255 (by omega) rfl rfl (Nat.le_of_ble_eq_true rfl) d_X11_isFull_66 (sp_X11_fresher (d - 1) (by omega) (1 : Int32) h) (fun r6 h5 => ?_)
      refine sx_bipush d_X11_isFull_69 bc6 ?_
      refine sx_icmp_ne d_X11_isFull_71 ?_ ?_
      · refine sx_iconst d_X11_isFull_74 ic1 ?_
        refine sx_goto d_X11_isFull_75 ?_
        exact sx_zret (by decide) rfl d_X11_isFull_79
      · refine sx_iconst d_X11_isFull_78 ic0 ?_
        exact sx_zret (by decide) rfl d_X11_isFull_79
    · refine sx_if (fun e7 => ?_) (fun e7 => ?_)
      · refine sx_tsIn (off := 79) (t := 80) d_X11_isFull_1 (by rw [e7] <;> decide) (by rw [e7] <;> decide) (by rw [e7] <;> decide) (by decide) ?_
        refine sx_aload_n d_X11_isFull_80 0 rfl ?_
        refine sx_iconst d_X11_isFull_81 ic2 ?_
        refine sx_callV [.int (2 : Int32)] mv_X11_fresher lM_StairCountModel_218 sh_255 (by omega) rfl rfl (Nat.le_of_ble_eq_true rfl) d_X11_isFull_82 (sp_X11_fresher (d - 1) (by omega) (2 : Int32) h) (fun r9 h8 => ?_)
        refine sx_bipush d_X11_isFull_85 bc6 ?_
        refine sx_icmp_ne d_X11_isFull_87 ?_ ?_
        · refine sx_iconst d_X11_isFull_90 ic1 ?_
          refine sx_goto d_X11_isFull_91 ?_
          exact sx_zret (by decide) rfl d_X11_isFull_95
        · refine sx_iconst d_X11_isFull_94 ic0 ?_
          exact sx_zret (by decide) rfl d_X11_isFull_95
      · refine sx_if (fun e10 => ?_) (fun e10 => ?_)
        · refine sx_tsIn (off := 95) (t := 96) d_X11_isFull_1 (by rcases e10 with e10 | e10 | e10 <;> rw [e10] <;> decide) (by rcases e10 with e10 | e10 | e10 <;> rw [e10] <;> decide) (by rcases e10 with e10 | e10 | e10 <;> rw [e10] <;> decide) (by decide) ?_
          refine sx_aload_n d_X11_isFull_96 0 rfl ?_
          refine sx_iconst d_X11_isFull_97 ic3 ?_
          refine sx_callV [.int (3 : Int32)] mv_X11_fresher lM_StairCountModel_218 sh_255 (by omega) rfl rfl (Nat.le_of_ble_eq_true rfl) d_X11_isFull_98 (sp_X11_fresher (d - 1) (by omega) (3 : Int32) h) (fun r12 h11 => ?_)
          refine sx_bipush d_X11_isFull_101 bc20 ?_
          refine sx_icmp_ne d_X11_isFull_103 ?_ ?_
          · refine sx_iconst d_X11_isFull_106 ic1 ?_
            refine sx_goto d_X11_isFull_107 ?_
            exact sx_zret (by decide) rfl d_X11_isFull_111
          · refine sx_iconst d_X11_isFull_110 ic0 ?_
            exact sx_zret (by decide) rfl d_X11_isFull_111
        · have q0 := ne_toInt (x := a0) (c := (0 : Int32)) (k := 0) e1 ti0
          have q1 := ne_toInt (x := a0) (c := (1 : Int32)) (k := 1) e4 ti1
          have q4 := ne_toInt (x := a0) (c := (4 : Int32)) (k := 4) e7 ti4
          have q5 := ne_toInt (x := a0) (c := (5 : Int32)) (k := 5) (fun e => e10 (by simp [e])) ti5
          have q6 := ne_toInt (x := a0) (c := (6 : Int32)) (k := 6) (fun e => e10 (by simp [e])) ti6
          have q7 := ne_toInt (x := a0) (c := (7 : Int32)) (k := 7) (fun e => e10 (by simp [e])) ti7
          refine sx_tsD (t := 112) d_X11_isFull_1 ?_ (by decide) ?_
          · by_cases w2 : a0.toInt = 2
            · exact Or.inr (by rw [w2]; decide)
            by_cases w3 : a0.toInt = 3
            · exact Or.inr (by rw [w3]; decide)
            exact Or.inl (by omega)
          refine sx_iconst d_X11_isFull_112 ic0 ?_
          exact sx_zret (by decide) rfl d_X11_isFull_113
theorem d_X11_goingLine_0 : DC mi_X11_goingLine 0 (.bipush 20) 2 2 := ⟨by decide +kernel, rfl⟩
theorem d_X11_goingLine_2 : DC mi_X11_goingLine 2 (.aload_n 0) 1 3 := ⟨by decide +kernel, rfl⟩
theorem d_X11_goingLine_3 : DC mi_X11_goingLine 3 (.iconst 3) 1 4 := ⟨by decide +kernel, rfl⟩
theorem d_X11_goingLine_4 : DC mi_X11_goingLine 4 (.invokevirtual 218) 3 7 := ⟨by decide +kernel, rfl⟩
theorem d_X11_goingLine_7 : DC mi_X11_goingLine 7 (.iadd) 1 8 := ⟨by decide +kernel, rfl⟩
theorem d_X11_goingLine_8 : DC mi_X11_goingLine 8 (.istore_n 2) 1 9 := ⟨by decide +kernel, rfl⟩
theorem d_X11_goingLine_9 : DC mi_X11_goingLine 9 (.aload_n 0) 1 10 := ⟨by decide +kernel, rfl⟩
theorem d_X11_goingLine_10 : DC mi_X11_goingLine 10 (.getfield 40) 3 13 := ⟨by decide +kernel, rfl⟩
theorem d_X11_goingLine_13 : DC mi_X11_goingLine 13 (.iload_n 2) 1 14 := ⟨by decide +kernel, rfl⟩
theorem d_X11_goingLine_14 : DC mi_X11_goingLine 14 (.iload_n 1) 1 15 := ⟨by decide +kernel, rfl⟩
theorem d_X11_goingLine_15 : DC mi_X11_goingLine 15 (.iastore) 1 16 := ⟨by decide +kernel, rfl⟩
theorem d_X11_goingLine_16 : DC mi_X11_goingLine 16 (.aload_n 0) 1 17 := ⟨by decide +kernel, rfl⟩
theorem d_X11_goingLine_17 : DC mi_X11_goingLine 17 (.getfield 43) 3 20 := ⟨by decide +kernel, rfl⟩
theorem d_X11_goingLine_20 : DC mi_X11_goingLine 20 (.iload_n 2) 1 21 := ⟨by decide +kernel, rfl⟩
theorem d_X11_goingLine_21 : DC mi_X11_goingLine 21 (.aload_n 0) 1 22 := ⟨by decide +kernel, rfl⟩
theorem d_X11_goingLine_22 : DC mi_X11_goingLine 22 (.invokevirtual 264) 3 25 := ⟨by decide +kernel, rfl⟩
theorem d_X11_goingLine_25 : DC mi_X11_goingLine 25 (.iastore) 1 26 := ⟨by decide +kernel, rfl⟩
theorem d_X11_goingLine_26 : DC mi_X11_goingLine 26 (.aload_n 0) 1 27 := ⟨by decide +kernel, rfl⟩
theorem d_X11_goingLine_27 : DC mi_X11_goingLine 27 (.getfield 46) 3 30 := ⟨by decide +kernel, rfl⟩
theorem d_X11_goingLine_30 : DC mi_X11_goingLine 30 (.iload_n 2) 1 31 := ⟨by decide +kernel, rfl⟩
theorem d_X11_goingLine_31 : DC mi_X11_goingLine 31 (.aload_n 0) 1 32 := ⟨by decide +kernel, rfl⟩
theorem d_X11_goingLine_32 : DC mi_X11_goingLine 32 (.iconst 0) 1 33 := ⟨by decide +kernel, rfl⟩
theorem d_X11_goingLine_33 : DC mi_X11_goingLine 33 (.bipush 99) 2 35 := ⟨by decide +kernel, rfl⟩
theorem d_X11_goingLine_35 : DC mi_X11_goingLine 35 (.invokevirtual 231) 3 38 := ⟨by decide +kernel, rfl⟩
theorem d_X11_goingLine_38 : DC mi_X11_goingLine 38 (.iastore) 1 39 := ⟨by decide +kernel, rfl⟩
theorem d_X11_goingLine_39 : DC mi_X11_goingLine 39 (.aload_n 0) 1 40 := ⟨by decide +kernel, rfl⟩
theorem d_X11_goingLine_40 : DC mi_X11_goingLine 40 (.getfield 49) 3 43 := ⟨by decide +kernel, rfl⟩
theorem d_X11_goingLine_43 : DC mi_X11_goingLine 43 (.iload_n 2) 1 44 := ⟨by decide +kernel, rfl⟩
theorem d_X11_goingLine_44 : DC mi_X11_goingLine 44 (.iconst 0) 1 45 := ⟨by decide +kernel, rfl⟩
theorem d_X11_goingLine_45 : DC mi_X11_goingLine 45 (.iastore) 1 46 := ⟨by decide +kernel, rfl⟩
theorem d_X11_goingLine_46 : DC mi_X11_goingLine 46 (.iload_n 1) 1 47 := ⟨by decide +kernel, rfl⟩
theorem d_X11_goingLine_47 : DC mi_X11_goingLine 47 (.iconst 1) 1 48 := ⟨by decide +kernel, rfl⟩
theorem d_X11_goingLine_48 : DB mi_X11_goingLine 48 (.if_icmp .ne 44) 44 51 92 := ⟨by decide +kernel, rfl, by decide⟩
theorem d_X11_goingLine_51 : DC mi_X11_goingLine 51 (.aload_n 0) 1 52 := ⟨by decide +kernel, rfl⟩
theorem d_X11_goingLine_52 : DC mi_X11_goingLine 52 (.getfield 202) 3 55 := ⟨by decide +kernel, rfl⟩
theorem d_X11_goingLine_55 : DB mi_X11_goingLine 55 (.ifCond .ne 37) 37 58 92 := ⟨by decide +kernel, rfl, by decide⟩
theorem d_X11_goingLine_58 : DC mi_X11_goingLine 58 (.aload_n 0) 1 59 := ⟨by decide +kernel, rfl⟩
theorem d_X11_goingLine_59 : DC mi_X11_goingLine 59 (.getfield 167) 3 62 := ⟨by decide +kernel, rfl⟩
theorem d_X11_goingLine_62 : DC mi_X11_goingLine 62 (.iconst 2) 1 63 := ⟨by decide +kernel, rfl⟩
theorem d_X11_goingLine_63 : DB mi_X11_goingLine 63 (.if_icmp .ne 29) 29 66 92 := ⟨by decide +kernel, rfl, by decide⟩
theorem d_X11_goingLine_66 : DC mi_X11_goingLine 66 (.aload_n 0) 1 67 := ⟨by decide +kernel, rfl⟩
theorem d_X11_goingLine_67 : DC mi_X11_goingLine 67 (.getfield 177) 3 70 := ⟨by decide +kernel, rfl⟩
theorem d_X11_goingLine_70 : DC mi_X11_goingLine 70 (.bipush 6) 2 72 := ⟨by decide +kernel, rfl⟩
theorem d_X11_goingLine_72 : DB mi_X11_goingLine 72 (.if_icmp .ge 20) 20 75 92 := ⟨by decide +kernel, rfl, by decide⟩
theorem d_X11_goingLine_75 : DC mi_X11_goingLine 75 (.aload_n 0) 1 76 := ⟨by decide +kernel, rfl⟩
theorem d_X11_goingLine_76 : DC mi_X11_goingLine 76 (.getfield 177) 3 79 := ⟨by decide +kernel, rfl⟩
theorem d_X11_goingLine_79 : DC mi_X11_goingLine 79 (.aload_n 0) 1 80 := ⟨by decide +kernel, rfl⟩
theorem d_X11_goingLine_80 : DC mi_X11_goingLine 80 (.iconst 2) 1 81 := ⟨by decide +kernel, rfl⟩
theorem d_X11_goingLine_81 : DC mi_X11_goingLine 81 (.invokevirtual 218) 3 84 := ⟨by decide +kernel, rfl⟩
theorem d_X11_goingLine_84 : DB mi_X11_goingLine 84 (.if_icmp .lt 8) 8 87 92 := ⟨by decide +kernel, rfl, by decide⟩
theorem d_X11_goingLine_87 : DC mi_X11_goingLine 87 (.aload_n 0) 1 88 := ⟨by decide +kernel, rfl⟩
theorem d_X11_goingLine_88 : DC mi_X11_goingLine 88 (.iconst 4) 1 89 := ⟨by decide +kernel, rfl⟩
theorem d_X11_goingLine_89 : DC mi_X11_goingLine 89 (.invokevirtual 211) 3 92 := ⟨by decide +kernel, rfl⟩
theorem d_X11_goingLine_92 : DC mi_X11_goingLine 92 (.iload_n 1) 1 93 := ⟨by decide +kernel, rfl⟩
theorem d_X11_goingLine_93 : DC mi_X11_goingLine 93 (.iconst 2) 1 94 := ⟨by decide +kernel, rfl⟩
theorem d_X11_goingLine_94 : DB mi_X11_goingLine 94 (.if_icmp .ge 27) 27 97 121 := ⟨by decide +kernel, rfl, by decide⟩
theorem d_X11_goingLine_97 : DC mi_X11_goingLine 97 (.aload_n 0) 1 98 := ⟨by decide +kernel, rfl⟩
theorem d_X11_goingLine_98 : DC mi_X11_goingLine 98 (.getfield 49) 3 101 := ⟨by decide +kernel, rfl⟩
theorem d_X11_goingLine_101 : DC mi_X11_goingLine 101 (.iload_n 2) 1 102 := ⟨by decide +kernel, rfl⟩
theorem d_X11_goingLine_102 : DC mi_X11_goingLine 102 (.aload_n 0) 1 103 := ⟨by decide +kernel, rfl⟩
theorem d_X11_goingLine_103 : DC mi_X11_goingLine 103 (.iconst 0) 1 104 := ⟨by decide +kernel, rfl⟩
theorem d_X11_goingLine_104 : DC mi_X11_goingLine 104 (.iload_n 1) 1 105 := ⟨by decide +kernel, rfl⟩
theorem d_X11_goingLine_105 : DB mi_X11_goingLine 105 (.ifCond .ne 11) 11 108 116 := ⟨by decide +kernel, rfl, by decide⟩
theorem d_X11_goingLine_108 : DC mi_X11_goingLine 108 (.aload_n 0) 1 109 := ⟨by decide +kernel, rfl⟩
theorem d_X11_goingLine_109 : DC mi_X11_goingLine 109 (.iconst 0) 1 110 := ⟨by decide +kernel, rfl⟩
theorem d_X11_goingLine_110 : DC mi_X11_goingLine 110 (.invokevirtual 218) 3 113 := ⟨by decide +kernel, rfl⟩
theorem d_X11_goingLine_113 : DB mi_X11_goingLine 113 (.goto 4) 4 116 117 := ⟨by decide +kernel, rfl, by decide⟩
theorem d_X11_goingLine_116 : DC mi_X11_goingLine 116 (.iconst 5) 1 117 := ⟨by decide +kernel, rfl⟩
theorem d_X11_goingLine_117 : DC mi_X11_goingLine 117 (.invokevirtual 231) 3 120 := ⟨by decide +kernel, rfl⟩
theorem d_X11_goingLine_120 : DC mi_X11_goingLine 120 (.iastore) 1 121 := ⟨by decide +kernel, rfl⟩
theorem d_X11_goingLine_121 : DC mi_X11_goingLine 121 (.aload_n 0) 1 122 := ⟨by decide +kernel, rfl⟩
theorem d_X11_goingLine_122 : DC mi_X11_goingLine 122 (.iconst 3) 1 123 := ⟨by decide +kernel, rfl⟩
theorem d_X11_goingLine_123 : DC mi_X11_goingLine 123 (.aload_n 0) 1 124 := ⟨by decide +kernel, rfl⟩
theorem d_X11_goingLine_124 : DC mi_X11_goingLine 124 (.iconst 3) 1 125 := ⟨by decide +kernel, rfl⟩
theorem d_X11_goingLine_125 : DC mi_X11_goingLine 125 (.invokevirtual 218) 3 128 := ⟨by decide +kernel, rfl⟩
theorem d_X11_goingLine_128 : DC mi_X11_goingLine 128 (.iconst 1) 1 129 := ⟨by decide +kernel, rfl⟩
theorem d_X11_goingLine_129 : DC mi_X11_goingLine 129 (.iadd) 1 130 := ⟨by decide +kernel, rfl⟩
theorem d_X11_goingLine_130 : DC mi_X11_goingLine 130 (.invokevirtual 235) 3 133 := ⟨by decide +kernel, rfl⟩
theorem d_X11_goingLine_133 : DC mi_X11_goingLine 133 (.return_) 1 134 := ⟨by decide +kernel, rfl⟩
set_option maxHeartbeats 4000000 in
set_option maxRecDepth 100000 in
theorem sp_X11_goingLine (d : Nat) (hd : 10 ≤ d) (a0 : Int32) (h : HH) : Sp mi_X11_goingLine d iU [.ref 255, .int a0] h (g_X11_goingLine a0 h) := by
  refine sp_of (lc := [(0, .ref 255), (1, .int a0)]) (by decide) (Nat.le_of_ble_eq_true rfl) rfl ?_
  unfold g_X11_goingLine
  refine sx_bipush d_X11_goingLine_0 bc20 ?_
  refine sx_aload_n d_X11_goingLine_2 0 rfl ?_
  refine sx_iconst d_X11_goingLine_3 ic3 ?_
  refine sx_callV [.int (3 : Int32)] mv_X11_fresher lM_StairCountModel_218 sh_255 (by omega) rfl rfl (Nat.le_of_ble_eq_true rfl) d_X11_goingLine_4 (sp_X11_fresher (d - 1) (by omega) (3 : Int32) h) (fun r2 h1 => ?_)
  refine sx_iadd d_X11_goingLine_7 ?_
  refine sx_vlI (fun v3 => ?_)
  refine sx_istore_n (i := 2) (lc' := [(2, .int v3), (0, .ref 255), (1, .int a0)]) d_X11_goingLine_8 rfl (by decide) rfl ?_
  refine sx_aload_n d_X11_goingLine_9 1 rfl ?_
  refine sx_getF (a' := 266) fl_StairCountModel_40 sh_255 rfl rfl d_X11_goingLine_10 ?_
  refine sx_iload_n d_X11_goingLine_13 0 rfl ?_
  refine sx_iload_n d_X11_goingLine_14 2 rfl ?_
  refine sx_iast sh_266 d_X11_goingLine_15 (fun h4 => ?_)
  refine sx_aload_n d_X11_goingLine_16 1 rfl ?_
  refine sx_getF (a' := 267) fl_StairCountModel_43 sh_255 rfl rfl d_X11_goingLine_17 ?_
  refine sx_iload_n d_X11_goingLine_20 0 rfl ?_
  refine sx_aload_n d_X11_goingLine_21 1 rfl ?_
  refine sx_callV [] mv_X11_personAhead lM_StairCountModel_264 sh_255 (by omega) rfl rfl (Nat.le_of_ble_eq_true rfl) d_X11_goingLine_22 (sp_X11_personAhead (d - 1) (by omega) h4) (fun r6 h5 => ?_)
  refine sx_iast sh_267 d_X11_goingLine_25 (fun h7 => ?_)
  refine sx_aload_n d_X11_goingLine_26 1 rfl ?_
  refine sx_getF (a' := 268) fl_StairCountModel_46 sh_255 rfl rfl d_X11_goingLine_27 ?_
  refine sx_iload_n d_X11_goingLine_30 0 rfl ?_
  refine sx_aload_n d_X11_goingLine_31 1 rfl ?_
  refine sx_iconst d_X11_goingLine_32 ic0 ?_
  refine sx_bipush d_X11_goingLine_33 bc99 ?_
  refine sx_callV [.int (0 : Int32), .int (99 : Int32)] mv_X11_numeral lM_StairCountModel_231 sh_255 (by omega) rfl rfl (Nat.le_of_ble_eq_true rfl) d_X11_goingLine_35 (sp_X11_numeral (d - 1) (by omega) (0 : Int32) (99 : Int32) h7) (fun r9 h8 => ?_)
  refine sx_iast sh_268 d_X11_goingLine_38 (fun h10 => ?_)
  refine sx_aload_n d_X11_goingLine_39 1 rfl ?_
  refine sx_getF (a' := 269) fl_StairCountModel_49 sh_255 rfl rfl d_X11_goingLine_40 ?_
  refine sx_iload_n d_X11_goingLine_43 0 rfl ?_
  refine sx_iconst d_X11_goingLine_44 ic0 ?_
  refine sx_iast sh_269 d_X11_goingLine_45 (fun h11 => ?_)
  refine sx_iload_n d_X11_goingLine_46 2 rfl ?_
  refine sx_iconst d_X11_goingLine_47 ic1 ?_
  refine sx_jn (fun j => ∀  (h : HH), Sx mi_X11_goingLine d iU (j  h) 92 [(0, .ref 255), (1, .int a0), (2, .int v3)] [] h) ?_ ?_
  · intro  h14
    refine sx_iload_n d_X11_goingLine_92 1 rfl ?_
    refine sx_iconst d_X11_goingLine_93 ic2 ?_
    refine sx_jn (fun j => ∀  (h : HH), Sx mi_X11_goingLine d iU (j  h) 121 [(0, .ref 255)] [] h) ?_ ?_
    · intro  h17
      refine sx_aload_n d_X11_goingLine_121 0 rfl ?_
      refine sx_iconst d_X11_goingLine_122 ic3 ?_
      refine sx_aload_n d_X11_goingLine_123 0 rfl ?_
      refine sx_iconst d_X11_goingLine_124 ic3 ?_
      refine sx_callV [.int (3 : Int32)] mv_X11_fresher lM_StairCountModel_218 sh_255 (by omega) rfl rfl (Nat.le_of_ble_eq_true rfl) d_X11_goingLine_125 (sp_X11_fresher (d - 1) (by omega) (3 : Int32) h17) (fun r19 h18 => ?_)
      refine sx_iconst d_X11_goingLine_128 ic1 ?_
      refine sx_iadd d_X11_goingLine_129 ?_
      refine sx_callV [.int (3 : Int32), .int (r19 + (1 : Int32))] mv_X11_reads lM_StairCountModel_235 sh_255 (by omega) rfl rfl (Nat.le_of_ble_eq_true rfl) d_X11_goingLine_130 (sp_X11_reads (d - 1) (by omega) (3 : Int32) (r19 + (1 : Int32)) h18) (fun _ h20 => ?_)
      exact sx_vret rfl d_X11_goingLine_133
    · intro j15 k16
      refine sx_icmp_ge d_X11_goingLine_94 ?_ ?_
      · refine sx_aload_n d_X11_goingLine_97 0 rfl ?_
        refine sx_getF (a' := 269) fl_StairCountModel_49 sh_255 rfl rfl d_X11_goingLine_98 ?_
        refine sx_iload_n d_X11_goingLine_101 2 rfl ?_
        refine sx_aload_n d_X11_goingLine_102 0 rfl ?_
        refine sx_iconst d_X11_goingLine_103 ic0 ?_
        refine sx_iload_n d_X11_goingLine_104 1 rfl ?_
        refine sx_jn (fun j => ∀ (y25 : Int32) (h : HH), Sx mi_X11_goingLine d iU (j y25 h) 117 [(0, .ref 255)] [.int y25, .int (0 : Int32), .ref 255, .int v3, .ref 269] h) ?_ ?_
        · intro y25 h24
          refine sx_callV [.int (0 : Int32), .int y25] mv_X11_numeral lM_StairCountModel_231 sh_255 (by omega) rfl rfl (Nat.le_of_ble_eq_true rfl) d_X11_goingLine_117 (sp_X11_numeral (d - 1) (by omega) (0 : Int32) y25 h24) (fun r27 h26 => ?_)
          refine sx_iast sh_269 d_X11_goingLine_120 (fun h28 => ?_)
          exact k16 h28
        · intro j22 k23
          refine sx_if_ne d_X11_goingLine_105 ?_ ?_
          · refine sx_aload_n d_X11_goingLine_108 0 rfl ?_
            refine sx_iconst d_X11_goingLine_109 ic0 ?_
            refine sx_callV [.int (0 : Int32)] mv_X11_fresher lM_StairCountModel_218 sh_255 (by omega) rfl rfl (Nat.le_of_ble_eq_true rfl) d_X11_goingLine_110 (sp_X11_fresher (d - 1) (by omega) (0 : Int32) h14) (fun r30 h29 => ?_)
            refine sx_goto d_X11_goingLine_113 ?_
            refine sx_lc (lc' := [(0, .ref 255)]) [0] rfl ?_
            exact k23 r30 h29
          · refine sx_iconst d_X11_goingLine_116 ic5 ?_
            refine sx_lc (lc' := [(0, .ref 255)]) [0] rfl ?_
            exact k23 (5 : Int32) h14
      · refine sx_lc (lc' := [(0, .ref 255)]) [0] rfl ?_
        exact k16 h14
  · intro j12 k13
    refine sx_icmp_ne d_X11_goingLine_48 ?_ ?_
    · refine sx_aload_n d_X11_goingLine_51 1 rfl ?_
      refine sx_getI fl_StairCountModel_202 sh_255 rfl d_X11_goingLine_52 (fun v31 => ?_)
      refine sx_if_ne d_X11_goingLine_55 ?_ ?_
      · refine sx_aload_n d_X11_goingLine_58 1 rfl ?_
        refine sx_getI fl_StairCountModel_167 sh_255 rfl d_X11_goingLine_59 (fun v32 => ?_)
        refine sx_iconst d_X11_goingLine_62 ic2 ?_
        refine sx_icmp_ne d_X11_goingLine_63 ?_ ?_
        · refine sx_aload_n d_X11_goingLine_66 1 rfl ?_
          refine sx_getI fl_StairCountModel_177 sh_255 rfl d_X11_goingLine_67 (fun v33 => ?_)
          refine sx_bipush d_X11_goingLine_70 bc6 ?_
          refine sx_icmp_ge d_X11_goingLine_72 ?_ ?_
          · refine sx_aload_n d_X11_goingLine_75 1 rfl ?_
            refine sx_getI fl_StairCountModel_177 sh_255 rfl d_X11_goingLine_76 (fun v34 => ?_)
            refine sx_aload_n d_X11_goingLine_79 1 rfl ?_
            refine sx_iconst d_X11_goingLine_80 ic2 ?_
            refine sx_callV [.int (2 : Int32)] mv_X11_fresher lM_StairCountModel_218 sh_255 (by omega) rfl rfl (Nat.le_of_ble_eq_true rfl) d_X11_goingLine_81 (sp_X11_fresher (d - 1) (by omega) (2 : Int32) h11) (fun r36 h35 => ?_)
            refine sx_icmp_lt d_X11_goingLine_84 ?_ ?_
            · refine sx_lc (lc' := [(0, .ref 255), (1, .int a0), (2, .int v3)]) [1, 2, 0] rfl ?_
              exact k13 h35
            · refine sx_aload_n d_X11_goingLine_87 1 rfl ?_
              refine sx_iconst d_X11_goingLine_88 ic4 ?_
              refine sx_callV [.int (4 : Int32)] mv_X11_wrong lM_StairCountModel_211 sh_255 (by omega) rfl rfl (Nat.le_of_ble_eq_true rfl) d_X11_goingLine_89 (sp_X11_wrong (d - 1) (by omega) (4 : Int32) h35) (fun _ h37 => ?_)
              refine sx_lc (lc' := [(0, .ref 255), (1, .int a0), (2, .int v3)]) [1, 2, 0] rfl ?_
              exact k13 h37
          · refine sx_lc (lc' := [(0, .ref 255), (1, .int a0), (2, .int v3)]) [1, 2, 0] rfl ?_
            exact k13 h11
        · refine sx_lc (lc' := [(0, .ref 255), (1, .int a0), (2, .int v3)]) [1, 2, 0] rfl ?_
          exact k13 h11
      · refine sx_lc (lc' := [(0, .ref 255), (1, .int a0), (2, .int v3)]) [1, 2, 0] rfl ?_
        exact k13 h11
    · refine sx_lc (lc' := [(0, .ref 255), (1, .int a0), (2, .int v3)]) [1, 2, 0] rfl ?_
      exact k13 h11
theorem d_X11_ladderLine_0 : DC mi_X11_ladderLine 0 (.bipush 6) 2 2 := ⟨by decide +kernel, rfl⟩
theorem d_X11_ladderLine_2 : DC mi_X11_ladderLine 2 (.aload_n 0) 1 3 := ⟨by decide +kernel, rfl⟩
theorem d_X11_ladderLine_3 : DC mi_X11_ladderLine 3 (.iconst 2) 1 4 := ⟨by decide +kernel, rfl⟩
theorem d_X11_ladderLine_4 : DC mi_X11_ladderLine 4 (.invokevirtual 218) 3 7 := ⟨by decide +kernel, rfl⟩
theorem d_X11_ladderLine_7 : DC mi_X11_ladderLine 7 (.iadd) 1 8 := ⟨by decide +kernel, rfl⟩
theorem d_X11_ladderLine_8 : DC mi_X11_ladderLine 8 (.istore_n 1) 1 9 := ⟨by decide +kernel, rfl⟩
theorem d_X11_ladderLine_9 : DC mi_X11_ladderLine 9 (.aload_n 0) 1 10 := ⟨by decide +kernel, rfl⟩
theorem d_X11_ladderLine_10 : DC mi_X11_ladderLine 10 (.getfield 31) 3 13 := ⟨by decide +kernel, rfl⟩
theorem d_X11_ladderLine_13 : DC mi_X11_ladderLine 13 (.iload_n 1) 1 14 := ⟨by decide +kernel, rfl⟩
theorem d_X11_ladderLine_14 : DC mi_X11_ladderLine 14 (.aload_n 0) 1 15 := ⟨by decide +kernel, rfl⟩
theorem d_X11_ladderLine_15 : DC mi_X11_ladderLine 15 (.iconst 0) 1 16 := ⟨by decide +kernel, rfl⟩
theorem d_X11_ladderLine_16 : DC mi_X11_ladderLine 16 (.aload_n 0) 1 17 := ⟨by decide +kernel, rfl⟩
theorem d_X11_ladderLine_17 : DC mi_X11_ladderLine 17 (.iconst 0) 1 18 := ⟨by decide +kernel, rfl⟩
theorem d_X11_ladderLine_18 : DC mi_X11_ladderLine 18 (.invokevirtual 218) 3 21 := ⟨by decide +kernel, rfl⟩
theorem d_X11_ladderLine_21 : DC mi_X11_ladderLine 21 (.invokevirtual 231) 3 24 := ⟨by decide +kernel, rfl⟩
theorem d_X11_ladderLine_24 : DC mi_X11_ladderLine 24 (.iastore) 1 25 := ⟨by decide +kernel, rfl⟩
theorem d_X11_ladderLine_25 : DC mi_X11_ladderLine 25 (.aload_n 0) 1 26 := ⟨by decide +kernel, rfl⟩
theorem d_X11_ladderLine_26 : DC mi_X11_ladderLine 26 (.getfield 202) 3 29 := ⟨by decide +kernel, rfl⟩
theorem d_X11_ladderLine_29 : DB mi_X11_ladderLine 29 (.ifCond .ne 29) 29 32 58 := ⟨by decide +kernel, rfl, by decide⟩
theorem d_X11_ladderLine_32 : DC mi_X11_ladderLine 32 (.aload_n 0) 1 33 := ⟨by decide +kernel, rfl⟩
theorem d_X11_ladderLine_33 : DC mi_X11_ladderLine 33 (.getfield 167) 3 36 := ⟨by decide +kernel, rfl⟩
theorem d_X11_ladderLine_36 : DC mi_X11_ladderLine 36 (.iconst 2) 1 37 := ⟨by decide +kernel, rfl⟩
theorem d_X11_ladderLine_37 : DB mi_X11_ladderLine 37 (.if_icmp .ne 21) 21 40 58 := ⟨by decide +kernel, rfl, by decide⟩
theorem d_X11_ladderLine_40 : DC mi_X11_ladderLine 40 (.aload_n 0) 1 41 := ⟨by decide +kernel, rfl⟩
theorem d_X11_ladderLine_41 : DC mi_X11_ladderLine 41 (.getfield 177) 3 44 := ⟨by decide +kernel, rfl⟩
theorem d_X11_ladderLine_44 : DC mi_X11_ladderLine 44 (.aload_n 0) 1 45 := ⟨by decide +kernel, rfl⟩
theorem d_X11_ladderLine_45 : DC mi_X11_ladderLine 45 (.getfield 31) 3 48 := ⟨by decide +kernel, rfl⟩
theorem d_X11_ladderLine_48 : DC mi_X11_ladderLine 48 (.iload_n 1) 1 49 := ⟨by decide +kernel, rfl⟩
theorem d_X11_ladderLine_49 : DC mi_X11_ladderLine 49 (.iaload) 1 50 := ⟨by decide +kernel, rfl⟩
theorem d_X11_ladderLine_50 : DB mi_X11_ladderLine 50 (.if_icmp .ne 8) 8 53 58 := ⟨by decide +kernel, rfl, by decide⟩
theorem d_X11_ladderLine_53 : DC mi_X11_ladderLine 53 (.aload_n 0) 1 54 := ⟨by decide +kernel, rfl⟩
theorem d_X11_ladderLine_54 : DC mi_X11_ladderLine 54 (.iconst 5) 1 55 := ⟨by decide +kernel, rfl⟩
theorem d_X11_ladderLine_55 : DC mi_X11_ladderLine 55 (.invokevirtual 211) 3 58 := ⟨by decide +kernel, rfl⟩
theorem d_X11_ladderLine_58 : DC mi_X11_ladderLine 58 (.aload_n 0) 1 59 := ⟨by decide +kernel, rfl⟩
theorem d_X11_ladderLine_59 : DC mi_X11_ladderLine 59 (.getfield 34) 3 62 := ⟨by decide +kernel, rfl⟩
theorem d_X11_ladderLine_62 : DC mi_X11_ladderLine 62 (.iload_n 1) 1 63 := ⟨by decide +kernel, rfl⟩
theorem d_X11_ladderLine_63 : DC mi_X11_ladderLine 63 (.aload_n 0) 1 64 := ⟨by decide +kernel, rfl⟩
theorem d_X11_ladderLine_64 : DC mi_X11_ladderLine 64 (.iconst 0) 1 65 := ⟨by decide +kernel, rfl⟩
theorem d_X11_ladderLine_65 : DC mi_X11_ladderLine 65 (.aload_n 0) 1 66 := ⟨by decide +kernel, rfl⟩
theorem d_X11_ladderLine_66 : DC mi_X11_ladderLine 66 (.iconst 0) 1 67 := ⟨by decide +kernel, rfl⟩
theorem d_X11_ladderLine_67 : DC mi_X11_ladderLine 67 (.invokevirtual 218) 3 70 := ⟨by decide +kernel, rfl⟩
theorem d_X11_ladderLine_70 : DC mi_X11_ladderLine 70 (.invokevirtual 231) 3 73 := ⟨by decide +kernel, rfl⟩
theorem d_X11_ladderLine_73 : DC mi_X11_ladderLine 73 (.iastore) 1 74 := ⟨by decide +kernel, rfl⟩
theorem d_X11_ladderLine_74 : DC mi_X11_ladderLine 74 (.aload_n 0) 1 75 := ⟨by decide +kernel, rfl⟩
theorem d_X11_ladderLine_75 : DC mi_X11_ladderLine 75 (.getfield 37) 3 78 := ⟨by decide +kernel, rfl⟩
theorem d_X11_ladderLine_78 : DC mi_X11_ladderLine 78 (.iload_n 1) 1 79 := ⟨by decide +kernel, rfl⟩
theorem d_X11_ladderLine_79 : DC mi_X11_ladderLine 79 (.aload_n 0) 1 80 := ⟨by decide +kernel, rfl⟩
theorem d_X11_ladderLine_80 : DC mi_X11_ladderLine 80 (.iconst 0) 1 81 := ⟨by decide +kernel, rfl⟩
theorem d_X11_ladderLine_81 : DC mi_X11_ladderLine 81 (.bipush 99) 2 83 := ⟨by decide +kernel, rfl⟩
theorem d_X11_ladderLine_83 : DC mi_X11_ladderLine 83 (.invokevirtual 231) 3 86 := ⟨by decide +kernel, rfl⟩
theorem d_X11_ladderLine_86 : DC mi_X11_ladderLine 86 (.iastore) 1 87 := ⟨by decide +kernel, rfl⟩
theorem d_X11_ladderLine_87 : DC mi_X11_ladderLine 87 (.aload_n 0) 1 88 := ⟨by decide +kernel, rfl⟩
theorem d_X11_ladderLine_88 : DC mi_X11_ladderLine 88 (.iconst 2) 1 89 := ⟨by decide +kernel, rfl⟩
theorem d_X11_ladderLine_89 : DC mi_X11_ladderLine 89 (.aload_n 0) 1 90 := ⟨by decide +kernel, rfl⟩
theorem d_X11_ladderLine_90 : DC mi_X11_ladderLine 90 (.iconst 2) 1 91 := ⟨by decide +kernel, rfl⟩
theorem d_X11_ladderLine_91 : DC mi_X11_ladderLine 91 (.invokevirtual 218) 3 94 := ⟨by decide +kernel, rfl⟩
theorem d_X11_ladderLine_94 : DC mi_X11_ladderLine 94 (.iconst 1) 1 95 := ⟨by decide +kernel, rfl⟩
theorem d_X11_ladderLine_95 : DC mi_X11_ladderLine 95 (.iadd) 1 96 := ⟨by decide +kernel, rfl⟩
theorem d_X11_ladderLine_96 : DC mi_X11_ladderLine 96 (.invokevirtual 235) 3 99 := ⟨by decide +kernel, rfl⟩
theorem d_X11_ladderLine_99 : DC mi_X11_ladderLine 99 (.return_) 1 100 := ⟨by decide +kernel, rfl⟩
set_option maxHeartbeats 4000000 in
set_option maxRecDepth 100000 in
theorem sp_X11_ladderLine (d : Nat) (hd : 9 ≤ d) (h : HH) : Sp mi_X11_ladderLine d iU [.ref 255] h (g_X11_ladderLine h) := by
  refine sp_of (lc := [(0, .ref 255)]) (by decide) (Nat.le_of_ble_eq_true rfl) rfl ?_
  unfold g_X11_ladderLine
  refine sx_bipush d_X11_ladderLine_0 bc6 ?_
  refine sx_aload_n d_X11_ladderLine_2 0 rfl ?_
  refine sx_iconst d_X11_ladderLine_3 ic2 ?_
  refine sx_callV [.int (2 : Int32)] mv_X11_fresher lM_StairCountModel_218 sh_255 (by omega) rfl rfl (Nat.le_of_ble_eq_true rfl) d_X11_ladderLine_4 (sp_X11_fresher (d - 1) (by omega) (2 : Int32) h) (fun r2 h1 => ?_)
  refine sx_iadd d_X11_ladderLine_7 ?_
  refine sx_vlI (fun v3 => ?_)
  refine sx_istore_n (i := 1) (lc' := [(1, .int v3), (0, .ref 255)]) d_X11_ladderLine_8 rfl (by decide) rfl ?_
  refine sx_aload_n d_X11_ladderLine_9 1 rfl ?_
  refine sx_getF (a' := 263) fl_StairCountModel_31 sh_255 rfl rfl d_X11_ladderLine_10 ?_
  refine sx_iload_n d_X11_ladderLine_13 0 rfl ?_
  refine sx_aload_n d_X11_ladderLine_14 1 rfl ?_
  refine sx_iconst d_X11_ladderLine_15 ic0 ?_
  refine sx_aload_n d_X11_ladderLine_16 1 rfl ?_
  refine sx_iconst d_X11_ladderLine_17 ic0 ?_
  refine sx_callV [.int (0 : Int32)] mv_X11_fresher lM_StairCountModel_218 sh_255 (by omega) rfl rfl (Nat.le_of_ble_eq_true rfl) d_X11_ladderLine_18 (sp_X11_fresher (d - 1) (by omega) (0 : Int32) h1) (fun r5 h4 => ?_)
  refine sx_callV [.int (0 : Int32), .int r5] mv_X11_numeral lM_StairCountModel_231 sh_255 (by omega) rfl rfl (Nat.le_of_ble_eq_true rfl) d_X11_ladderLine_21 (sp_X11_numeral (d - 1) (by omega) (0 : Int32) r5 h4) (fun r7 h6 => ?_)
  refine sx_iast sh_263 d_X11_ladderLine_24 (fun h8 => ?_)
  refine sx_aload_n d_X11_ladderLine_25 1 rfl ?_
  refine sx_getI fl_StairCountModel_202 sh_255 rfl d_X11_ladderLine_26 (fun v9 => ?_)
  refine sx_jn (fun j => ∀  (h : HH), Sx mi_X11_ladderLine d iU (j  h) 58 [(0, .ref 255), (1, .int v3)] [] h) ?_ ?_
  · intro  h12
    refine sx_aload_n d_X11_ladderLine_58 0 rfl ?_
    refine sx_getF (a' := 264) fl_StairCountModel_34 sh_255 rfl rfl d_X11_ladderLine_59 ?_
    refine sx_iload_n d_X11_ladderLine_62 1 rfl ?_
    refine sx_aload_n d_X11_ladderLine_63 0 rfl ?_
    refine sx_iconst d_X11_ladderLine_64 ic0 ?_
    refine sx_aload_n d_X11_ladderLine_65 0 rfl ?_
    refine sx_iconst d_X11_ladderLine_66 ic0 ?_
    refine sx_callV [.int (0 : Int32)] mv_X11_fresher lM_StairCountModel_218 sh_255 (by omega) rfl rfl (Nat.le_of_ble_eq_true rfl) d_X11_ladderLine_67 (sp_X11_fresher (d - 1) (by omega) (0 : Int32) h12) (fun r14 h13 => ?_)
    refine sx_callV [.int (0 : Int32), .int r14] mv_X11_numeral lM_StairCountModel_231 sh_255 (by omega) rfl rfl (Nat.le_of_ble_eq_true rfl) d_X11_ladderLine_70 (sp_X11_numeral (d - 1) (by omega) (0 : Int32) r14 h13) (fun r16 h15 => ?_)
    refine sx_iast sh_264 d_X11_ladderLine_73 (fun h17 => ?_)
    refine sx_aload_n d_X11_ladderLine_74 0 rfl ?_
    refine sx_getF (a' := 265) fl_StairCountModel_37 sh_255 rfl rfl d_X11_ladderLine_75 ?_
    refine sx_iload_n d_X11_ladderLine_78 1 rfl ?_
    refine sx_aload_n d_X11_ladderLine_79 0 rfl ?_
    refine sx_iconst d_X11_ladderLine_80 ic0 ?_
    refine sx_bipush d_X11_ladderLine_81 bc99 ?_
    refine sx_callV [.int (0 : Int32), .int (99 : Int32)] mv_X11_numeral lM_StairCountModel_231 sh_255 (by omega) rfl rfl (Nat.le_of_ble_eq_true rfl) d_X11_ladderLine_83 (sp_X11_numeral (d - 1) (by omega) (0 : Int32) (99 : Int32) h17) (fun r19 h18 => ?_)
    refine sx_iast sh_265 d_X11_ladderLine_86 (fun h20 => ?_)
    refine sx_aload_n d_X11_ladderLine_87 0 rfl ?_
    refine sx_iconst d_X11_ladderLine_88 ic2 ?_
    refine sx_aload_n d_X11_ladderLine_89 0 rfl ?_
    refine sx_iconst d_X11_ladderLine_90 ic2 ?_
    refine sx_callV [.int (2 : Int32)] mv_X11_fresher lM_StairCountModel_218 sh_255 (by omega) rfl rfl (Nat.le_of_ble_eq_true rfl) d_X11_ladderLine_91 (sp_X11_fresher (d - 1) (by omega) (2 : Int32) h20) (fun r22 h21 => ?_)
    refine sx_iconst d_X11_ladderLine_94 ic1 ?_
    refine sx_iadd d_X11_ladderLine_95 ?_
    refine sx_callV [.int (2 : Int32), .int (r22 + (1 : Int32))] mv_X11_reads lM_StairCountModel_235 sh_255 (by omega) rfl rfl (Nat.le_of_ble_eq_true rfl) d_X11_ladderLine_96 (sp_X11_reads (d - 1) (by omega) (2 : Int32) (r22 + (1 : Int32)) h21) (fun _ h23 => ?_)
    exact sx_vret rfl d_X11_ladderLine_99
  · intro j10 k11
    refine sx_if_ne d_X11_ladderLine_29 ?_ ?_
    · refine sx_aload_n d_X11_ladderLine_32 1 rfl ?_
      refine sx_getI fl_StairCountModel_167 sh_255 rfl d_X11_ladderLine_33 (fun v25 => ?_)
      refine sx_iconst d_X11_ladderLine_36 ic2 ?_
      refine sx_icmp_ne d_X11_ladderLine_37 ?_ ?_
      · refine sx_aload_n d_X11_ladderLine_40 1 rfl ?_
        refine sx_getI fl_StairCountModel_177 sh_255 rfl d_X11_ladderLine_41 (fun v26 => ?_)
        refine sx_aload_n d_X11_ladderLine_44 1 rfl ?_
        refine sx_getF (a' := 263) fl_StairCountModel_31 sh_255 rfl rfl d_X11_ladderLine_45 ?_
        refine sx_iload_n d_X11_ladderLine_48 0 rfl ?_
        refine sx_iald sh_263 d_X11_ladderLine_49 (fun v27 => ?_)
        refine sx_icmp_ne d_X11_ladderLine_50 ?_ ?_
        · refine sx_aload_n d_X11_ladderLine_53 1 rfl ?_
          refine sx_iconst d_X11_ladderLine_54 ic5 ?_
          refine sx_callV [.int (5 : Int32)] mv_X11_wrong lM_StairCountModel_211 sh_255 (by omega) rfl rfl (Nat.le_of_ble_eq_true rfl) d_X11_ladderLine_55 (sp_X11_wrong (d - 1) (by omega) (5 : Int32) h8) (fun _ h28 => ?_)
          refine sx_lc (lc' := [(0, .ref 255), (1, .int v3)]) [1, 0] rfl ?_
          exact k11 h28
        · refine sx_lc (lc' := [(0, .ref 255), (1, .int v3)]) [1, 0] rfl ?_
          exact k11 h8
      · refine sx_lc (lc' := [(0, .ref 255), (1, .int v3)]) [1, 0] rfl ?_
        exact k11 h8
    · refine sx_lc (lc' := [(0, .ref 255), (1, .int v3)]) [1, 0] rfl ?_
      exact k11 h8
theorem d_X11_knot_0 : DC mi_X11_knot 0 (.aload_n 0) 1 1 := ⟨by decide +kernel, rfl⟩
theorem d_X11_knot_1 : DC mi_X11_knot 1 (.getfield 202) 3 4 := ⟨by decide +kernel, rfl⟩
theorem d_X11_knot_4 : DB mi_X11_knot 4 (.ifCond .eq 4) 4 7 8 := ⟨by decide +kernel, rfl, by decide⟩
theorem d_X11_knot_7 : DC mi_X11_knot 7 (.return_) 1 8 := ⟨by decide +kernel, rfl⟩
theorem d_X11_knot_8 : DC mi_X11_knot 8 (.aload_n 0) 1 9 := ⟨by decide +kernel, rfl⟩
theorem d_X11_knot_9 : DC mi_X11_knot 9 (.getfield 270) 3 12 := ⟨by decide +kernel, rfl⟩
theorem d_X11_knot_12 : DC mi_X11_knot 12 (.bipush 64) 2 14 := ⟨by decide +kernel, rfl⟩
theorem d_X11_knot_14 : DB mi_X11_knot 14 (.if_icmp .ne 11) 11 17 25 := ⟨by decide +kernel, rfl, by decide⟩
theorem d_X11_knot_17 : DC mi_X11_knot 17 (.aload_n 0) 1 18 := ⟨by decide +kernel, rfl⟩
theorem d_X11_knot_18 : DC mi_X11_knot 18 (.iconst 2) 1 19 := ⟨by decide +kernel, rfl⟩
theorem d_X11_knot_19 : DC mi_X11_knot 19 (.invokevirtual 211) 3 22 := ⟨by decide +kernel, rfl⟩
theorem d_X11_knot_22 : DB mi_X11_knot 22 (.goto 13) 13 25 35 := ⟨by decide +kernel, rfl, by decide⟩
theorem d_X11_knot_25 : DC mi_X11_knot 25 (.aload_n 0) 1 26 := ⟨by decide +kernel, rfl⟩
theorem d_X11_knot_26 : DC mi_X11_knot 26 (.dup) 1 27 := ⟨by decide +kernel, rfl⟩
theorem d_X11_knot_27 : DC mi_X11_knot 27 (.getfield 270) 3 30 := ⟨by decide +kernel, rfl⟩
theorem d_X11_knot_30 : DC mi_X11_knot 30 (.iconst 1) 1 31 := ⟨by decide +kernel, rfl⟩
theorem d_X11_knot_31 : DC mi_X11_knot 31 (.iadd) 1 32 := ⟨by decide +kernel, rfl⟩
theorem d_X11_knot_32 : DC mi_X11_knot 32 (.putfield 270) 3 35 := ⟨by decide +kernel, rfl⟩
theorem d_X11_knot_35 : DC mi_X11_knot 35 (.return_) 1 36 := ⟨by decide +kernel, rfl⟩
set_option maxHeartbeats 4000000 in
set_option maxRecDepth 100000 in
theorem sp_X11_knot (d : Nat) (hd : 1 ≤ d) (h : HH) : Sp mi_X11_knot d iU [.ref 255] h (g_X11_knot h) := by
  refine sp_of (lc := [(0, .ref 255)]) (by decide) (Nat.le_of_ble_eq_true rfl) rfl ?_
  unfold g_X11_knot
  refine sx_aload_n d_X11_knot_0 0 rfl ?_
  refine sx_getI fl_StairCountModel_202 sh_255 rfl d_X11_knot_1 (fun v1 => ?_)
  refine sx_if_eq d_X11_knot_4 ?_ ?_
  · refine sx_aload_n d_X11_knot_8 0 rfl ?_
    refine sx_getI fl_StairCountModel_270 sh_255 rfl d_X11_knot_9 (fun v2 => ?_)
    refine sx_bipush d_X11_knot_12 bc64 ?_
    refine sx_icmp_ne d_X11_knot_14 ?_ ?_
    · refine sx_aload_n d_X11_knot_17 0 rfl ?_
      refine sx_iconst d_X11_knot_18 ic2 ?_
      refine sx_callV [.int (2 : Int32)] mv_X11_wrong lM_StairCountModel_211 sh_255 (by omega) rfl rfl (Nat.le_of_ble_eq_true rfl) d_X11_knot_19 (sp_X11_wrong (d - 1) (by omega) (2 : Int32) h) (fun _ h3 => ?_)
      refine sx_goto d_X11_knot_22 ?_
      exact sx_vret rfl d_X11_knot_35
    · refine sx_aload_n d_X11_knot_25 0 rfl ?_
      refine sx_dup d_X11_knot_26 rfl ?_
      refine sx_getI fl_StairCountModel_270 sh_255 rfl d_X11_knot_27 (fun v5 => ?_)
      refine sx_iconst d_X11_knot_30 ic1 ?_
      refine sx_iadd d_X11_knot_31 ?_
      refine sx_putI fl_StairCountModel_270 sh_255 rfl hty_11_32 d_X11_knot_32 (fun h6 => ?_)
      exact sx_vret rfl d_X11_knot_35
  · exact sx_vret rfl d_X11_knot_7
theorem d_X11_puts_0 : DC mi_X11_puts 0 (.aload_n 0) 1 1 := ⟨by decide +kernel, rfl⟩
theorem d_X11_puts_1 : DC mi_X11_puts 1 (.getfield 202) 3 4 := ⟨by decide +kernel, rfl⟩
theorem d_X11_puts_4 : DB mi_X11_puts 4 (.ifCond .eq 4) 4 7 8 := ⟨by decide +kernel, rfl, by decide⟩
theorem d_X11_puts_7 : DC mi_X11_puts 7 (.return_) 1 8 := ⟨by decide +kernel, rfl⟩
theorem d_X11_puts_8 : DC mi_X11_puts 8 (.aload_n 0) 1 9 := ⟨by decide +kernel, rfl⟩
theorem d_X11_puts_9 : DC mi_X11_puts 9 (.getfield 58) 3 12 := ⟨by decide +kernel, rfl⟩
theorem d_X11_puts_12 : DC mi_X11_puts 12 (.bipush 64) 2 14 := ⟨by decide +kernel, rfl⟩
theorem d_X11_puts_14 : DC mi_X11_puts 14 (.aload_n 0) 1 15 := ⟨by decide +kernel, rfl⟩
theorem d_X11_puts_15 : DC mi_X11_puts 15 (.bipush 6) 2 17 := ⟨by decide +kernel, rfl⟩
theorem d_X11_puts_17 : DC mi_X11_puts 17 (.invokevirtual 218) 3 20 := ⟨by decide +kernel, rfl⟩
theorem d_X11_puts_20 : DC mi_X11_puts 20 (.iadd) 1 21 := ⟨by decide +kernel, rfl⟩
theorem d_X11_puts_21 : DC mi_X11_puts 21 (.iload_n 1) 1 22 := ⟨by decide +kernel, rfl⟩
theorem d_X11_puts_22 : DC mi_X11_puts 22 (.iastore) 1 23 := ⟨by decide +kernel, rfl⟩
theorem d_X11_puts_23 : DC mi_X11_puts 23 (.aload_n 0) 1 24 := ⟨by decide +kernel, rfl⟩
theorem d_X11_puts_24 : DC mi_X11_puts 24 (.getfield 61) 3 27 := ⟨by decide +kernel, rfl⟩
theorem d_X11_puts_27 : DC mi_X11_puts 27 (.bipush 64) 2 29 := ⟨by decide +kernel, rfl⟩
theorem d_X11_puts_29 : DC mi_X11_puts 29 (.aload_n 0) 1 30 := ⟨by decide +kernel, rfl⟩
theorem d_X11_puts_30 : DC mi_X11_puts 30 (.bipush 6) 2 32 := ⟨by decide +kernel, rfl⟩
theorem d_X11_puts_32 : DC mi_X11_puts 32 (.invokevirtual 218) 3 35 := ⟨by decide +kernel, rfl⟩
theorem d_X11_puts_35 : DC mi_X11_puts 35 (.iadd) 1 36 := ⟨by decide +kernel, rfl⟩
theorem d_X11_puts_36 : DC mi_X11_puts 36 (.iload_n 2) 1 37 := ⟨by decide +kernel, rfl⟩
theorem d_X11_puts_37 : DC mi_X11_puts 37 (.iastore) 1 38 := ⟨by decide +kernel, rfl⟩
theorem d_X11_puts_38 : DC mi_X11_puts 38 (.aload_n 0) 1 39 := ⟨by decide +kernel, rfl⟩
theorem d_X11_puts_39 : DC mi_X11_puts 39 (.bipush 6) 2 41 := ⟨by decide +kernel, rfl⟩
theorem d_X11_puts_41 : DC mi_X11_puts 41 (.aload_n 0) 1 42 := ⟨by decide +kernel, rfl⟩
theorem d_X11_puts_42 : DC mi_X11_puts 42 (.bipush 6) 2 44 := ⟨by decide +kernel, rfl⟩
theorem d_X11_puts_44 : DC mi_X11_puts 44 (.invokevirtual 218) 3 47 := ⟨by decide +kernel, rfl⟩
theorem d_X11_puts_47 : DC mi_X11_puts 47 (.iconst 1) 1 48 := ⟨by decide +kernel, rfl⟩
theorem d_X11_puts_48 : DC mi_X11_puts 48 (.iadd) 1 49 := ⟨by decide +kernel, rfl⟩
theorem d_X11_puts_49 : DC mi_X11_puts 49 (.invokevirtual 235) 3 52 := ⟨by decide +kernel, rfl⟩
theorem d_X11_puts_52 : DC mi_X11_puts 52 (.return_) 1 53 := ⟨by decide +kernel, rfl⟩
set_option maxHeartbeats 4000000 in
set_option maxRecDepth 100000 in
theorem sp_X11_puts (d : Nat) (hd : 1 ≤ d) (a0 : Int32) (a1 : Int32) (h : HH) : Sp mi_X11_puts d iU [.ref 255, .int a0, .int a1] h (g_X11_puts a0 a1 h) := by
  refine sp_of (lc := [(0, .ref 255), (1, .int a0), (2, .int a1)]) (by decide) (Nat.le_of_ble_eq_true rfl) rfl ?_
  unfold g_X11_puts
  refine sx_aload_n d_X11_puts_0 0 rfl ?_
  refine sx_getI fl_StairCountModel_202 sh_255 rfl d_X11_puts_1 (fun v1 => ?_)
  refine sx_if_eq d_X11_puts_4 ?_ ?_
  · refine sx_aload_n d_X11_puts_8 0 rfl ?_
    refine sx_getF (a' := 272) fl_StairCountModel_58 sh_255 rfl rfl d_X11_puts_9 ?_
    refine sx_bipush d_X11_puts_12 bc64 ?_
    refine sx_aload_n d_X11_puts_14 0 rfl ?_
    refine sx_bipush d_X11_puts_15 bc6 ?_
    refine sx_callV [.int (6 : Int32)] mv_X11_fresher lM_StairCountModel_218 sh_255 (by omega) rfl rfl (Nat.le_of_ble_eq_true rfl) d_X11_puts_17 (sp_X11_fresher (d - 1) (by omega) (6 : Int32) h) (fun r3 h2 => ?_)
    refine sx_iadd d_X11_puts_20 ?_
    refine sx_iload_n d_X11_puts_21 1 rfl ?_
    refine sx_iast sh_272 d_X11_puts_22 (fun h4 => ?_)
    refine sx_aload_n d_X11_puts_23 0 rfl ?_
    refine sx_getF (a' := 273) fl_StairCountModel_61 sh_255 rfl rfl d_X11_puts_24 ?_
    refine sx_bipush d_X11_puts_27 bc64 ?_
    refine sx_aload_n d_X11_puts_29 0 rfl ?_
    refine sx_bipush d_X11_puts_30 bc6 ?_
    refine sx_callV [.int (6 : Int32)] mv_X11_fresher lM_StairCountModel_218 sh_255 (by omega) rfl rfl (Nat.le_of_ble_eq_true rfl) d_X11_puts_32 (sp_X11_fresher (d - 1) (by omega) (6 : Int32) h4) (fun r6 h5 => ?_)
    refine sx_iadd d_X11_puts_35 ?_
    refine sx_iload_n d_X11_puts_36 2 rfl ?_
    refine sx_iast sh_273 d_X11_puts_37 (fun h7 => ?_)
    refine sx_aload_n d_X11_puts_38 0 rfl ?_
    refine sx_bipush d_X11_puts_39 bc6 ?_
    refine sx_aload_n d_X11_puts_41 0 rfl ?_
    refine sx_bipush d_X11_puts_42 bc6 ?_
    refine sx_callV [.int (6 : Int32)] mv_X11_fresher lM_StairCountModel_218 sh_255 (by omega) rfl rfl (Nat.le_of_ble_eq_true rfl) d_X11_puts_44 (sp_X11_fresher (d - 1) (by omega) (6 : Int32) h7) (fun r9 h8 => ?_)
    refine sx_iconst d_X11_puts_47 ic1 ?_
    refine sx_iadd d_X11_puts_48 ?_
    refine sx_callV [.int (6 : Int32), .int (r9 + (1 : Int32))] mv_X11_reads lM_StairCountModel_235 sh_255 (by omega) rfl rfl (Nat.le_of_ble_eq_true rfl) d_X11_puts_49 (sp_X11_reads (d - 1) (by omega) (6 : Int32) (r9 + (1 : Int32)) h8) (fun _ h10 => ?_)
    exact sx_vret rfl d_X11_puts_52
  · exact sx_vret rfl d_X11_puts_7
theorem d_X11_expression_0 : DC mi_X11_expression 0 (.aload_n 0) 1 1 := ⟨by decide +kernel, rfl⟩
theorem d_X11_expression_1 : DC mi_X11_expression 1 (.invokevirtual 273) 3 4 := ⟨by decide +kernel, rfl⟩
theorem d_X11_expression_4 : DC mi_X11_expression 4 (.aload_n 0) 1 5 := ⟨by decide +kernel, rfl⟩
theorem d_X11_expression_5 : DC mi_X11_expression 5 (.bipush 14) 2 7 := ⟨by decide +kernel, rfl⟩
theorem d_X11_expression_7 : DC mi_X11_expression 7 (.invokevirtual 276) 3 10 := ⟨by decide +kernel, rfl⟩
theorem d_X11_expression_10 : DB mi_X11_expression 10 (.ifCond .eq 26) 26 13 36 := ⟨by decide +kernel, rfl, by decide⟩
theorem d_X11_expression_13 : DC mi_X11_expression 13 (.aload_n 0) 1 14 := ⟨by decide +kernel, rfl⟩
theorem d_X11_expression_14 : DC mi_X11_expression 14 (.invokevirtual 279) 3 17 := ⟨by decide +kernel, rfl⟩
theorem d_X11_expression_17 : DC mi_X11_expression 17 (.aload_n 0) 1 18 := ⟨by decide +kernel, rfl⟩
theorem d_X11_expression_18 : DC mi_X11_expression 18 (.invokevirtual 222) 3 21 := ⟨by decide +kernel, rfl⟩
theorem d_X11_expression_21 : DC mi_X11_expression 21 (.aload_n 0) 1 22 := ⟨by decide +kernel, rfl⟩
theorem d_X11_expression_22 : DC mi_X11_expression 22 (.invokevirtual 273) 3 25 := ⟨by decide +kernel, rfl⟩
theorem d_X11_expression_25 : DC mi_X11_expression 25 (.aload_n 0) 1 26 := ⟨by decide +kernel, rfl⟩
theorem d_X11_expression_26 : DC mi_X11_expression 26 (.iconst 2) 1 27 := ⟨by decide +kernel, rfl⟩
theorem d_X11_expression_27 : DC mi_X11_expression 27 (.sipush 262) 3 30 := ⟨by decide +kernel, rfl⟩
theorem d_X11_expression_30 : DC mi_X11_expression 30 (.invokevirtual 282) 3 33 := ⟨by decide +kernel, rfl⟩
theorem d_X11_expression_33 : DB mi_X11_expression 33 (.goto (-29)) (-29) 36 4 := ⟨by decide +kernel, rfl, by decide⟩
theorem d_X11_expression_36 : DC mi_X11_expression 36 (.return_) 1 37 := ⟨by decide +kernel, rfl⟩
set_option maxHeartbeats 4000000 in
set_option maxRecDepth 100000 in
theorem sL_X11_expression_4 (d : Nat) (hd : 9 ≤ d) {R : Nat → HH → Option (Unit × HH)} (hR : RGok d R) : ∀ (n : Nat) (h : HH), Sx mi_X11_expression d iU (g_X11_expression_L4 R n h) 4 [(0, .ref 255)] [] h := by
  intro n
  induction n with
  | zero => intro h; exact sx_none
  | succ n ih =>
    intro h
    rw [g_X11_expression_L4]
    refine sx_aload_n d_X11_expression_4 0 rfl ?_
    refine sx_bipush d_X11_expression_5 bc14 ?_
    refine sx_callV [.int (14 : Int32)] mv_X11_isWord lM_StairCountModel_276 sh_255 (by omega) rfl rfl (Nat.le_of_ble_eq_true rfl) d_X11_expression_7 (sp_X11_isWord (d - 1) (by omega) (14 : Int32) h) (fun r4 h3 => ?_)
    refine sx_if_eq d_X11_expression_10 ?_ ?_
    · exact sx_vret rfl d_X11_expression_36
    · refine sx_aload_n d_X11_expression_13 0 rfl ?_
      refine sx_callV [] mv_X11_knot lM_StairCountModel_279 sh_255 (by omega) rfl rfl (Nat.le_of_ble_eq_true rfl) d_X11_expression_14 (sp_X11_knot (d - 1) (by omega) h3) (fun _ h5 => ?_)
      refine sx_aload_n d_X11_expression_17 0 rfl ?_
      refine sx_callV [] mv_X11_goOn lM_StairCountModel_222 sh_255 (by omega) rfl rfl (Nat.le_of_ble_eq_true rfl) d_X11_expression_18 (sp_X11_goOn (d - 1) (by omega) h5) (fun _ h7 => ?_)
      refine sx_aload_n d_X11_expression_21 0 rfl ?_
      refine sx_callV [] mv_X11_conjunction lM_StairCountModel_273 sh_255 (by omega) rfl rfl (Nat.le_of_ble_eq_true rfl) d_X11_expression_22 (hR.2.1 h7) (fun _ h9 => ?_)
      refine sx_aload_n d_X11_expression_25 0 rfl ?_
      refine sx_iconst d_X11_expression_26 ic2 ?_
      refine sx_sipush d_X11_expression_27 sc262 ?_
      refine sx_callV [.int (2 : Int32), .int (262 : Int32)] mv_X11_puts lM_StairCountModel_282 sh_255 (by omega) rfl rfl (Nat.le_of_ble_eq_true rfl) d_X11_expression_30 (sp_X11_puts (d - 1) (by omega) (2 : Int32) (262 : Int32) h9) (fun _ h11 => ?_)
      refine sx_goto d_X11_expression_33 ?_
      exact ih h11
set_option maxHeartbeats 4000000 in
set_option maxRecDepth 100000 in
theorem sb_X11_expression (d : Nat) (hd : 9 ≤ d) {R : Nat → HH → Option (Unit × HH)} (hR : RGok d R) (h : HH) : Sp mi_X11_expression d iU [.ref 255] h (g_X11_expression R h) := by
  refine sp_of (lc := [(0, .ref 255)]) (by decide) (Nat.le_of_ble_eq_true rfl) rfl ?_
  unfold g_X11_expression
  refine sx_aload_n d_X11_expression_0 0 rfl ?_
  refine sx_callV [] mv_X11_conjunction lM_StairCountModel_273 sh_255 (by omega) rfl rfl (Nat.le_of_ble_eq_true rfl) d_X11_expression_1 (hR.2.1 h) (fun _ h1 => ?_)
  refine sL_X11_expression_4 d hd hR 1024 h1
theorem d_X11_conjunction_0 : DC mi_X11_conjunction 0 (.aload_n 0) 1 1 := ⟨by decide +kernel, rfl⟩
theorem d_X11_conjunction_1 : DC mi_X11_conjunction 1 (.invokevirtual 285) 3 4 := ⟨by decide +kernel, rfl⟩
theorem d_X11_conjunction_4 : DC mi_X11_conjunction 4 (.aload_n 0) 1 5 := ⟨by decide +kernel, rfl⟩
theorem d_X11_conjunction_5 : DC mi_X11_conjunction 5 (.bipush 15) 2 7 := ⟨by decide +kernel, rfl⟩
theorem d_X11_conjunction_7 : DC mi_X11_conjunction 7 (.invokevirtual 276) 3 10 := ⟨by decide +kernel, rfl⟩
theorem d_X11_conjunction_10 : DB mi_X11_conjunction 10 (.ifCond .eq 26) 26 13 36 := ⟨by decide +kernel, rfl, by decide⟩
theorem d_X11_conjunction_13 : DC mi_X11_conjunction 13 (.aload_n 0) 1 14 := ⟨by decide +kernel, rfl⟩
theorem d_X11_conjunction_14 : DC mi_X11_conjunction 14 (.invokevirtual 279) 3 17 := ⟨by decide +kernel, rfl⟩
theorem d_X11_conjunction_17 : DC mi_X11_conjunction 17 (.aload_n 0) 1 18 := ⟨by decide +kernel, rfl⟩
theorem d_X11_conjunction_18 : DC mi_X11_conjunction 18 (.invokevirtual 222) 3 21 := ⟨by decide +kernel, rfl⟩
theorem d_X11_conjunction_21 : DC mi_X11_conjunction 21 (.aload_n 0) 1 22 := ⟨by decide +kernel, rfl⟩
theorem d_X11_conjunction_22 : DC mi_X11_conjunction 22 (.invokevirtual 285) 3 25 := ⟨by decide +kernel, rfl⟩
theorem d_X11_conjunction_25 : DC mi_X11_conjunction 25 (.aload_n 0) 1 26 := ⟨by decide +kernel, rfl⟩
theorem d_X11_conjunction_26 : DC mi_X11_conjunction 26 (.iconst 2) 1 27 := ⟨by decide +kernel, rfl⟩
theorem d_X11_conjunction_27 : DC mi_X11_conjunction 27 (.sipush 261) 3 30 := ⟨by decide +kernel, rfl⟩
theorem d_X11_conjunction_30 : DC mi_X11_conjunction 30 (.invokevirtual 282) 3 33 := ⟨by decide +kernel, rfl⟩
theorem d_X11_conjunction_33 : DB mi_X11_conjunction 33 (.goto (-29)) (-29) 36 4 := ⟨by decide +kernel, rfl, by decide⟩
theorem d_X11_conjunction_36 : DC mi_X11_conjunction 36 (.return_) 1 37 := ⟨by decide +kernel, rfl⟩
set_option maxHeartbeats 4000000 in
set_option maxRecDepth 100000 in
theorem sL_X11_conjunction_4 (d : Nat) (hd : 9 ≤ d) {R : Nat → HH → Option (Unit × HH)} (hR : RGok d R) : ∀ (n : Nat) (h : HH), Sx mi_X11_conjunction d iU (g_X11_conjunction_L4 R n h) 4 [(0, .ref 255)] [] h := by
  intro n
  induction n with
  | zero => intro h; exact sx_none
  | succ n ih =>
    intro h
    rw [g_X11_conjunction_L4]
    refine sx_aload_n d_X11_conjunction_4 0 rfl ?_
    refine sx_bipush d_X11_conjunction_5 bc15 ?_
    refine sx_callV [.int (15 : Int32)] mv_X11_isWord lM_StairCountModel_276 sh_255 (by omega) rfl rfl (Nat.le_of_ble_eq_true rfl) d_X11_conjunction_7 (sp_X11_isWord (d - 1) (by omega) (15 : Int32) h) (fun r4 h3 => ?_)
    refine sx_if_eq d_X11_conjunction_10 ?_ ?_
    · exact sx_vret rfl d_X11_conjunction_36
    · refine sx_aload_n d_X11_conjunction_13 0 rfl ?_
      refine sx_callV [] mv_X11_knot lM_StairCountModel_279 sh_255 (by omega) rfl rfl (Nat.le_of_ble_eq_true rfl) d_X11_conjunction_14 (sp_X11_knot (d - 1) (by omega) h3) (fun _ h5 => ?_)
      refine sx_aload_n d_X11_conjunction_17 0 rfl ?_
      refine sx_callV [] mv_X11_goOn lM_StairCountModel_222 sh_255 (by omega) rfl rfl (Nat.le_of_ble_eq_true rfl) d_X11_conjunction_18 (sp_X11_goOn (d - 1) (by omega) h5) (fun _ h7 => ?_)
      refine sx_aload_n d_X11_conjunction_21 0 rfl ?_
      refine sx_callV [] mv_X11_negation lM_StairCountModel_285 sh_255 (by omega) rfl rfl (Nat.le_of_ble_eq_true rfl) d_X11_conjunction_22 (hR.2.2.1 h7) (fun _ h9 => ?_)
      refine sx_aload_n d_X11_conjunction_25 0 rfl ?_
      refine sx_iconst d_X11_conjunction_26 ic2 ?_
      refine sx_sipush d_X11_conjunction_27 sc261 ?_
      refine sx_callV [.int (2 : Int32), .int (261 : Int32)] mv_X11_puts lM_StairCountModel_282 sh_255 (by omega) rfl rfl (Nat.le_of_ble_eq_true rfl) d_X11_conjunction_30 (sp_X11_puts (d - 1) (by omega) (2 : Int32) (261 : Int32) h9) (fun _ h11 => ?_)
      refine sx_goto d_X11_conjunction_33 ?_
      exact ih h11
set_option maxHeartbeats 4000000 in
set_option maxRecDepth 100000 in
theorem sb_X11_conjunction (d : Nat) (hd : 9 ≤ d) {R : Nat → HH → Option (Unit × HH)} (hR : RGok d R) (h : HH) : Sp mi_X11_conjunction d iU [.ref 255] h (g_X11_conjunction R h) := by
  refine sp_of (lc := [(0, .ref 255)]) (by decide) (Nat.le_of_ble_eq_true rfl) rfl ?_
  unfold g_X11_conjunction
  refine sx_aload_n d_X11_conjunction_0 0 rfl ?_
  refine sx_callV [] mv_X11_negation lM_StairCountModel_285 sh_255 (by omega) rfl rfl (Nat.le_of_ble_eq_true rfl) d_X11_conjunction_1 (hR.2.2.1 h) (fun _ h1 => ?_)
  refine sL_X11_conjunction_4 d hd hR 1024 h1
theorem d_X11_negation_0 : DC mi_X11_negation 0 (.aload_n 0) 1 1 := ⟨by decide +kernel, rfl⟩
theorem d_X11_negation_1 : DC mi_X11_negation 1 (.bipush 16) 2 3 := ⟨by decide +kernel, rfl⟩
theorem d_X11_negation_3 : DC mi_X11_negation 3 (.invokevirtual 276) 3 6 := ⟨by decide +kernel, rfl⟩
theorem d_X11_negation_6 : DB mi_X11_negation 6 (.ifCond .eq 24) 24 9 30 := ⟨by decide +kernel, rfl, by decide⟩
theorem d_X11_negation_9 : DC mi_X11_negation 9 (.aload_n 0) 1 10 := ⟨by decide +kernel, rfl⟩
theorem d_X11_negation_10 : DC mi_X11_negation 10 (.invokevirtual 279) 3 13 := ⟨by decide +kernel, rfl⟩
theorem d_X11_negation_13 : DC mi_X11_negation 13 (.aload_n 0) 1 14 := ⟨by decide +kernel, rfl⟩
theorem d_X11_negation_14 : DC mi_X11_negation 14 (.invokevirtual 222) 3 17 := ⟨by decide +kernel, rfl⟩
theorem d_X11_negation_17 : DC mi_X11_negation 17 (.aload_n 0) 1 18 := ⟨by decide +kernel, rfl⟩
theorem d_X11_negation_18 : DC mi_X11_negation 18 (.invokevirtual 285) 3 21 := ⟨by decide +kernel, rfl⟩
theorem d_X11_negation_21 : DC mi_X11_negation 21 (.aload_n 0) 1 22 := ⟨by decide +kernel, rfl⟩
theorem d_X11_negation_22 : DC mi_X11_negation 22 (.iconst 2) 1 23 := ⟨by decide +kernel, rfl⟩
theorem d_X11_negation_23 : DC mi_X11_negation 23 (.sipush 260) 3 26 := ⟨by decide +kernel, rfl⟩
theorem d_X11_negation_26 : DC mi_X11_negation 26 (.invokevirtual 282) 3 29 := ⟨by decide +kernel, rfl⟩
theorem d_X11_negation_29 : DC mi_X11_negation 29 (.return_) 1 30 := ⟨by decide +kernel, rfl⟩
theorem d_X11_negation_30 : DC mi_X11_negation 30 (.aload_n 0) 1 31 := ⟨by decide +kernel, rfl⟩
theorem d_X11_negation_31 : DC mi_X11_negation 31 (.invokevirtual 288) 3 34 := ⟨by decide +kernel, rfl⟩
theorem d_X11_negation_34 : DC mi_X11_negation 34 (.aload_n 0) 1 35 := ⟨by decide +kernel, rfl⟩
theorem d_X11_negation_35 : DC mi_X11_negation 35 (.getfield 202) 3 38 := ⟨by decide +kernel, rfl⟩
theorem d_X11_negation_38 : DB mi_X11_negation 38 (.ifCond .ne 48) 48 41 86 := ⟨by decide +kernel, rfl, by decide⟩
theorem d_X11_negation_41 : DC mi_X11_negation 41 (.aload_n 0) 1 42 := ⟨by decide +kernel, rfl⟩
theorem d_X11_negation_42 : DC mi_X11_negation 42 (.getfield 167) 3 45 := ⟨by decide +kernel, rfl⟩
theorem d_X11_negation_45 : DC mi_X11_negation 45 (.iconst 3) 1 46 := ⟨by decide +kernel, rfl⟩
theorem d_X11_negation_46 : DB mi_X11_negation 46 (.if_icmp .ne 40) 40 49 86 := ⟨by decide +kernel, rfl, by decide⟩
theorem d_X11_negation_49 : DC mi_X11_negation 49 (.aload_n 0) 1 50 := ⟨by decide +kernel, rfl⟩
theorem d_X11_negation_50 : DC mi_X11_negation 50 (.getfield 177) 3 53 := ⟨by decide +kernel, rfl⟩
theorem d_X11_negation_53 : DC mi_X11_negation 53 (.bipush 60) 2 55 := ⟨by decide +kernel, rfl⟩
theorem d_X11_negation_55 : DB mi_X11_negation 55 (.if_icmp .eq 32) 32 58 87 := ⟨by decide +kernel, rfl, by decide⟩
theorem d_X11_negation_58 : DC mi_X11_negation 58 (.aload_n 0) 1 59 := ⟨by decide +kernel, rfl⟩
theorem d_X11_negation_59 : DC mi_X11_negation 59 (.getfield 177) 3 62 := ⟨by decide +kernel, rfl⟩
theorem d_X11_negation_62 : DC mi_X11_negation 62 (.bipush 62) 2 64 := ⟨by decide +kernel, rfl⟩
theorem d_X11_negation_64 : DB mi_X11_negation 64 (.if_icmp .eq 23) 23 67 87 := ⟨by decide +kernel, rfl, by decide⟩
theorem d_X11_negation_67 : DC mi_X11_negation 67 (.aload_n 0) 1 68 := ⟨by decide +kernel, rfl⟩
theorem d_X11_negation_68 : DC mi_X11_negation 68 (.getfield 177) 3 71 := ⟨by decide +kernel, rfl⟩
theorem d_X11_negation_71 : DC mi_X11_negation 71 (.bipush 61) 2 73 := ⟨by decide +kernel, rfl⟩
theorem d_X11_negation_73 : DB mi_X11_negation 73 (.if_icmp .eq 14) 14 76 87 := ⟨by decide +kernel, rfl, by decide⟩
theorem d_X11_negation_76 : DC mi_X11_negation 76 (.aload_n 0) 1 77 := ⟨by decide +kernel, rfl⟩
theorem d_X11_negation_77 : DC mi_X11_negation 77 (.getfield 177) 3 80 := ⟨by decide +kernel, rfl⟩
theorem d_X11_negation_80 : DC mi_X11_negation 80 (.sipush 256) 3 83 := ⟨by decide +kernel, rfl⟩
theorem d_X11_negation_83 : DB mi_X11_negation 83 (.if_icmp .ge 4) 4 86 87 := ⟨by decide +kernel, rfl, by decide⟩
theorem d_X11_negation_86 : DC mi_X11_negation 86 (.return_) 1 87 := ⟨by decide +kernel, rfl⟩
theorem d_X11_negation_87 : DC mi_X11_negation 87 (.aload_n 0) 1 88 := ⟨by decide +kernel, rfl⟩
theorem d_X11_negation_88 : DC mi_X11_negation 88 (.getfield 177) 3 91 := ⟨by decide +kernel, rfl⟩
theorem d_X11_negation_91 : DC mi_X11_negation 91 (.istore_n 1) 1 92 := ⟨by decide +kernel, rfl⟩
theorem d_X11_negation_92 : DC mi_X11_negation 92 (.aload_n 0) 1 93 := ⟨by decide +kernel, rfl⟩
theorem d_X11_negation_93 : DC mi_X11_negation 93 (.invokevirtual 279) 3 96 := ⟨by decide +kernel, rfl⟩
theorem d_X11_negation_96 : DC mi_X11_negation 96 (.aload_n 0) 1 97 := ⟨by decide +kernel, rfl⟩
theorem d_X11_negation_97 : DC mi_X11_negation 97 (.invokevirtual 222) 3 100 := ⟨by decide +kernel, rfl⟩
theorem d_X11_negation_100 : DC mi_X11_negation 100 (.aload_n 0) 1 101 := ⟨by decide +kernel, rfl⟩
theorem d_X11_negation_101 : DC mi_X11_negation 101 (.invokevirtual 288) 3 104 := ⟨by decide +kernel, rfl⟩
theorem d_X11_negation_104 : DC mi_X11_negation 104 (.aload_n 0) 1 105 := ⟨by decide +kernel, rfl⟩
theorem d_X11_negation_105 : DC mi_X11_negation 105 (.iconst 2) 1 106 := ⟨by decide +kernel, rfl⟩
theorem d_X11_negation_106 : DC mi_X11_negation 106 (.iload_n 1) 1 107 := ⟨by decide +kernel, rfl⟩
theorem d_X11_negation_107 : DC mi_X11_negation 107 (.invokevirtual 282) 3 110 := ⟨by decide +kernel, rfl⟩
theorem d_X11_negation_110 : DC mi_X11_negation 110 (.return_) 1 111 := ⟨by decide +kernel, rfl⟩
set_option maxHeartbeats 4000000 in
set_option maxRecDepth 100000 in
theorem sb_X11_negation (d : Nat) (hd : 9 ≤ d) {R : Nat → HH → Option (Unit × HH)} (hR : RGok d R) (h : HH) : Sp mi_X11_negation d iU [.ref 255] h (g_X11_negation R h) := by
  refine sp_of (lc := [(0, .ref 255)]) (by decide) (Nat.le_of_ble_eq_true rfl) rfl ?_
  unfold g_X11_negation
  refine sx_aload_n d_X11_negation_0 0 rfl ?_
  refine sx_bipush d_X11_negation_1 bc16 ?_
  refine sx_callV [.int (16 : Int32)] mv_X11_isWord lM_StairCountModel_276 sh_255 (by omega) rfl rfl (Nat.le_of_ble_eq_true rfl) d_X11_negation_3 (sp_X11_isWord (d - 1) (by omega) (16 : Int32) h) (fun r2 h1 => ?_)
  refine sx_if_eq d_X11_negation_6 ?_ ?_
  · refine sx_aload_n d_X11_negation_30 0 rfl ?_
    refine sx_callV [] mv_X11_sum lM_StairCountModel_288 sh_255 (by omega) rfl rfl (Nat.le_of_ble_eq_true rfl) d_X11_negation_31 (hR.2.2.2.1 h1) (fun _ h3 => ?_)
    refine sx_aload_n d_X11_negation_34 0 rfl ?_
    refine sx_getI fl_StairCountModel_202 sh_255 rfl d_X11_negation_35 (fun v5 => ?_)
    refine sx_if_ne d_X11_negation_38 ?_ ?_
    · refine sx_aload_n d_X11_negation_41 0 rfl ?_
      refine sx_getI fl_StairCountModel_167 sh_255 rfl d_X11_negation_42 (fun v6 => ?_)
      refine sx_iconst d_X11_negation_45 ic3 ?_
      refine sx_icmp_ne d_X11_negation_46 ?_ ?_
      · refine sx_aload_n d_X11_negation_49 0 rfl ?_
        refine sx_getI fl_StairCountModel_177 sh_255 rfl d_X11_negation_50 (fun v7 => ?_)
        refine sx_bipush d_X11_negation_53 bc60 ?_
        refine sx_jn (fun j => ∀  (h : HH), Sx mi_X11_negation d iU (j  h) 87 [(0, .ref 255)] [] h) ?_ ?_
        · intro  h10
          refine sx_aload_n d_X11_negation_87 0 rfl ?_
          refine sx_getI fl_StairCountModel_177 sh_255 rfl d_X11_negation_88 (fun v11 => ?_)
          refine sx_istore_n (i := 1) (lc' := [(1, .int v11), (0, .ref 255)]) d_X11_negation_91 rfl (by decide) rfl ?_
          refine sx_aload_n d_X11_negation_92 1 rfl ?_
          refine sx_callV [] mv_X11_knot lM_StairCountModel_279 sh_255 (by omega) rfl rfl (Nat.le_of_ble_eq_true rfl) d_X11_negation_93 (sp_X11_knot (d - 1) (by omega) h10) (fun _ h12 => ?_)
          refine sx_aload_n d_X11_negation_96 1 rfl ?_
          refine sx_callV [] mv_X11_goOn lM_StairCountModel_222 sh_255 (by omega) rfl rfl (Nat.le_of_ble_eq_true rfl) d_X11_negation_97 (sp_X11_goOn (d - 1) (by omega) h12) (fun _ h14 => ?_)
          refine sx_aload_n d_X11_negation_100 1 rfl ?_
          refine sx_callV [] mv_X11_sum lM_StairCountModel_288 sh_255 (by omega) rfl rfl (Nat.le_of_ble_eq_true rfl) d_X11_negation_101 (hR.2.2.2.1 h14) (fun _ h16 => ?_)
          refine sx_aload_n d_X11_negation_104 1 rfl ?_
          refine sx_iconst d_X11_negation_105 ic2 ?_
          refine sx_iload_n d_X11_negation_106 0 rfl ?_
          refine sx_callV [.int (2 : Int32), .int v11] mv_X11_puts lM_StairCountModel_282 sh_255 (by omega) rfl rfl (Nat.le_of_ble_eq_true rfl) d_X11_negation_107 (sp_X11_puts (d - 1) (by omega) (2 : Int32) v11 h16) (fun _ h18 => ?_)
          exact sx_vret rfl d_X11_negation_110
        · intro j8 k9
          refine sx_icmp_eq d_X11_negation_55 ?_ ?_
          · exact k9 h3
          · refine sx_aload_n d_X11_negation_58 0 rfl ?_
            refine sx_getI fl_StairCountModel_177 sh_255 rfl d_X11_negation_59 (fun v20 => ?_)
            refine sx_bipush d_X11_negation_62 bc62 ?_
            refine sx_icmp_eq d_X11_negation_64 ?_ ?_
            · exact k9 h3
            · refine sx_aload_n d_X11_negation_67 0 rfl ?_
              refine sx_getI fl_StairCountModel_177 sh_255 rfl d_X11_negation_68 (fun v21 => ?_)
              refine sx_bipush d_X11_negation_71 bc61 ?_
              refine sx_icmp_eq d_X11_negation_73 ?_ ?_
              · exact k9 h3
              · refine sx_aload_n d_X11_negation_76 0 rfl ?_
                refine sx_getI fl_StairCountModel_177 sh_255 rfl d_X11_negation_77 (fun v22 => ?_)
                refine sx_sipush d_X11_negation_80 sc256 ?_
                refine sx_icmp_ge d_X11_negation_83 ?_ ?_
                · exact sx_vret rfl d_X11_negation_86
                · exact k9 h3
      · exact sx_vret rfl d_X11_negation_86
    · exact sx_vret rfl d_X11_negation_86
  · refine sx_aload_n d_X11_negation_9 0 rfl ?_
    refine sx_callV [] mv_X11_knot lM_StairCountModel_279 sh_255 (by omega) rfl rfl (Nat.le_of_ble_eq_true rfl) d_X11_negation_10 (sp_X11_knot (d - 1) (by omega) h1) (fun _ h23 => ?_)
    refine sx_aload_n d_X11_negation_13 0 rfl ?_
    refine sx_callV [] mv_X11_goOn lM_StairCountModel_222 sh_255 (by omega) rfl rfl (Nat.le_of_ble_eq_true rfl) d_X11_negation_14 (sp_X11_goOn (d - 1) (by omega) h23) (fun _ h25 => ?_)
    refine sx_aload_n d_X11_negation_17 0 rfl ?_
    refine sx_callV [] mv_X11_negation lM_StairCountModel_285 sh_255 (by omega) rfl rfl (Nat.le_of_ble_eq_true rfl) d_X11_negation_18 (hR.2.2.1 h25) (fun _ h27 => ?_)
    refine sx_aload_n d_X11_negation_21 0 rfl ?_
    refine sx_iconst d_X11_negation_22 ic2 ?_
    refine sx_sipush d_X11_negation_23 sc260 ?_
    refine sx_callV [.int (2 : Int32), .int (260 : Int32)] mv_X11_puts lM_StairCountModel_282 sh_255 (by omega) rfl rfl (Nat.le_of_ble_eq_true rfl) d_X11_negation_26 (sp_X11_puts (d - 1) (by omega) (2 : Int32) (260 : Int32) h27) (fun _ h29 => ?_)
    exact sx_vret rfl d_X11_negation_29
theorem d_X11_sum_0 : DC mi_X11_sum 0 (.aload_n 0) 1 1 := ⟨by decide +kernel, rfl⟩
theorem d_X11_sum_1 : DC mi_X11_sum 1 (.invokevirtual 291) 3 4 := ⟨by decide +kernel, rfl⟩
theorem d_X11_sum_4 : DC mi_X11_sum 4 (.aload_n 0) 1 5 := ⟨by decide +kernel, rfl⟩
theorem d_X11_sum_5 : DC mi_X11_sum 5 (.bipush 43) 2 7 := ⟨by decide +kernel, rfl⟩
theorem d_X11_sum_7 : DC mi_X11_sum 7 (.invokevirtual 254) 3 10 := ⟨by decide +kernel, rfl⟩
theorem d_X11_sum_10 : DB mi_X11_sum 10 (.ifCond .ne 12) 12 13 22 := ⟨by decide +kernel, rfl, by decide⟩
theorem d_X11_sum_13 : DC mi_X11_sum 13 (.aload_n 0) 1 14 := ⟨by decide +kernel, rfl⟩
theorem d_X11_sum_14 : DC mi_X11_sum 14 (.bipush 45) 2 16 := ⟨by decide +kernel, rfl⟩
theorem d_X11_sum_16 : DC mi_X11_sum 16 (.invokevirtual 254) 3 19 := ⟨by decide +kernel, rfl⟩
theorem d_X11_sum_19 : DB mi_X11_sum 19 (.ifCond .eq 29) 29 22 48 := ⟨by decide +kernel, rfl, by decide⟩
theorem d_X11_sum_22 : DC mi_X11_sum 22 (.aload_n 0) 1 23 := ⟨by decide +kernel, rfl⟩
theorem d_X11_sum_23 : DC mi_X11_sum 23 (.getfield 177) 3 26 := ⟨by decide +kernel, rfl⟩
theorem d_X11_sum_26 : DC mi_X11_sum 26 (.istore_n 1) 1 27 := ⟨by decide +kernel, rfl⟩
theorem d_X11_sum_27 : DC mi_X11_sum 27 (.aload_n 0) 1 28 := ⟨by decide +kernel, rfl⟩
theorem d_X11_sum_28 : DC mi_X11_sum 28 (.invokevirtual 279) 3 31 := ⟨by decide +kernel, rfl⟩
theorem d_X11_sum_31 : DC mi_X11_sum 31 (.aload_n 0) 1 32 := ⟨by decide +kernel, rfl⟩
theorem d_X11_sum_32 : DC mi_X11_sum 32 (.invokevirtual 222) 3 35 := ⟨by decide +kernel, rfl⟩
theorem d_X11_sum_35 : DC mi_X11_sum 35 (.aload_n 0) 1 36 := ⟨by decide +kernel, rfl⟩
theorem d_X11_sum_36 : DC mi_X11_sum 36 (.invokevirtual 291) 3 39 := ⟨by decide +kernel, rfl⟩
theorem d_X11_sum_39 : DC mi_X11_sum 39 (.aload_n 0) 1 40 := ⟨by decide +kernel, rfl⟩
theorem d_X11_sum_40 : DC mi_X11_sum 40 (.iconst 2) 1 41 := ⟨by decide +kernel, rfl⟩
theorem d_X11_sum_41 : DC mi_X11_sum 41 (.iload_n 1) 1 42 := ⟨by decide +kernel, rfl⟩
theorem d_X11_sum_42 : DC mi_X11_sum 42 (.invokevirtual 282) 3 45 := ⟨by decide +kernel, rfl⟩
theorem d_X11_sum_45 : DB mi_X11_sum 45 (.goto (-41)) (-41) 48 4 := ⟨by decide +kernel, rfl, by decide⟩
theorem d_X11_sum_48 : DC mi_X11_sum 48 (.return_) 1 49 := ⟨by decide +kernel, rfl⟩
set_option maxHeartbeats 4000000 in
set_option maxRecDepth 100000 in
theorem sL_X11_sum_4 (d : Nat) (hd : 9 ≤ d) {R : Nat → HH → Option (Unit × HH)} (hR : RGok d R) : ∀ (n : Nat) (h : HH), Sx mi_X11_sum d iU (g_X11_sum_L4 R n h) 4 [(0, .ref 255)] [] h := by
  intro n
  induction n with
  | zero => intro h; exact sx_none
  | succ n ih =>
    intro h
    rw [g_X11_sum_L4]
    refine sx_aload_n d_X11_sum_4 0 rfl ?_
    refine sx_bipush d_X11_sum_5 bc43 ?_
    refine sx_callV [.int (43 : Int32)] mv_X11_isSign lM_StairCountModel_254 sh_255 (by omega) rfl rfl (Nat.le_of_ble_eq_true rfl) d_X11_sum_7 (sp_X11_isSign (d - 1) (by omega) (43 : Int32) h) (fun r4 h3 => ?_)
    refine sx_jn (fun j => ∀  (h : HH), Sx mi_X11_sum d iU (j  h) 22 [(0, .ref 255)] [] h) ?_ ?_
    · intro  h7
      refine sx_aload_n d_X11_sum_22 0 rfl ?_
      refine sx_getI fl_StairCountModel_177 sh_255 rfl d_X11_sum_23 (fun v8 => ?_)
      refine sx_istore_n (i := 1) (lc' := [(1, .int v8), (0, .ref 255)]) d_X11_sum_26 rfl (by decide) rfl ?_
      refine sx_aload_n d_X11_sum_27 1 rfl ?_
      refine sx_callV [] mv_X11_knot lM_StairCountModel_279 sh_255 (by omega) rfl rfl (Nat.le_of_ble_eq_true rfl) d_X11_sum_28 (sp_X11_knot (d - 1) (by omega) h7) (fun _ h9 => ?_)
      refine sx_aload_n d_X11_sum_31 1 rfl ?_
      refine sx_callV [] mv_X11_goOn lM_StairCountModel_222 sh_255 (by omega) rfl rfl (Nat.le_of_ble_eq_true rfl) d_X11_sum_32 (sp_X11_goOn (d - 1) (by omega) h9) (fun _ h11 => ?_)
      refine sx_aload_n d_X11_sum_35 1 rfl ?_
      refine sx_callV [] mv_X11_product lM_StairCountModel_291 sh_255 (by omega) rfl rfl (Nat.le_of_ble_eq_true rfl) d_X11_sum_36 (hR.2.2.2.2.1 h11) (fun _ h13 => ?_)
      refine sx_aload_n d_X11_sum_39 1 rfl ?_
      refine sx_iconst d_X11_sum_40 ic2 ?_
      refine sx_iload_n d_X11_sum_41 0 rfl ?_
      refine sx_callV [.int (2 : Int32), .int v8] mv_X11_puts lM_StairCountModel_282 sh_255 (by omega) rfl rfl (Nat.le_of_ble_eq_true rfl) d_X11_sum_42 (sp_X11_puts (d - 1) (by omega) (2 : Int32) v8 h13) (fun _ h15 => ?_)
      refine sx_goto d_X11_sum_45 ?_
      refine sx_lc (lc' := [(0, .ref 255)]) [1] rfl ?_
      exact ih h15
    · intro j5 k6
      refine sx_if_ne d_X11_sum_10 ?_ ?_
      · refine sx_aload_n d_X11_sum_13 0 rfl ?_
        refine sx_bipush d_X11_sum_14 bc45 ?_
        refine sx_callV [.int (45 : Int32)] mv_X11_isSign lM_StairCountModel_254 sh_255 (by omega) rfl rfl (Nat.le_of_ble_eq_true rfl) d_X11_sum_16 (sp_X11_isSign (d - 1) (by omega) (45 : Int32) h3) (fun r18 h17 => ?_)
        refine sx_if_eq d_X11_sum_19 ?_ ?_
        · exact sx_vret rfl d_X11_sum_48
        · exact k6 h17
      · exact k6 h3
set_option maxHeartbeats 4000000 in
set_option maxRecDepth 100000 in
theorem sb_X11_sum (d : Nat) (hd : 9 ≤ d) {R : Nat → HH → Option (Unit × HH)} (hR : RGok d R) (h : HH) : Sp mi_X11_sum d iU [.ref 255] h (g_X11_sum R h) := by
  refine sp_of (lc := [(0, .ref 255)]) (by decide) (Nat.le_of_ble_eq_true rfl) rfl ?_
  unfold g_X11_sum
  refine sx_aload_n d_X11_sum_0 0 rfl ?_
  refine sx_callV [] mv_X11_product lM_StairCountModel_291 sh_255 (by omega) rfl rfl (Nat.le_of_ble_eq_true rfl) d_X11_sum_1 (hR.2.2.2.2.1 h) (fun _ h1 => ?_)
  refine sL_X11_sum_4 d hd hR 1024 h1
theorem d_X11_product_0 : DC mi_X11_product 0 (.aload_n 0) 1 1 := ⟨by decide +kernel, rfl⟩
theorem d_X11_product_1 : DC mi_X11_product 1 (.invokevirtual 294) 3 4 := ⟨by decide +kernel, rfl⟩
theorem d_X11_product_4 : DC mi_X11_product 4 (.aload_n 0) 1 5 := ⟨by decide +kernel, rfl⟩
theorem d_X11_product_5 : DC mi_X11_product 5 (.bipush 42) 2 7 := ⟨by decide +kernel, rfl⟩
theorem d_X11_product_7 : DC mi_X11_product 7 (.invokevirtual 254) 3 10 := ⟨by decide +kernel, rfl⟩
theorem d_X11_product_10 : DB mi_X11_product 10 (.ifCond .ne 12) 12 13 22 := ⟨by decide +kernel, rfl, by decide⟩
theorem d_X11_product_13 : DC mi_X11_product 13 (.aload_n 0) 1 14 := ⟨by decide +kernel, rfl⟩
theorem d_X11_product_14 : DC mi_X11_product 14 (.bipush 47) 2 16 := ⟨by decide +kernel, rfl⟩
theorem d_X11_product_16 : DC mi_X11_product 16 (.invokevirtual 254) 3 19 := ⟨by decide +kernel, rfl⟩
theorem d_X11_product_19 : DB mi_X11_product 19 (.ifCond .eq 29) 29 22 48 := ⟨by decide +kernel, rfl, by decide⟩
theorem d_X11_product_22 : DC mi_X11_product 22 (.aload_n 0) 1 23 := ⟨by decide +kernel, rfl⟩
theorem d_X11_product_23 : DC mi_X11_product 23 (.getfield 177) 3 26 := ⟨by decide +kernel, rfl⟩
theorem d_X11_product_26 : DC mi_X11_product 26 (.istore_n 1) 1 27 := ⟨by decide +kernel, rfl⟩
theorem d_X11_product_27 : DC mi_X11_product 27 (.aload_n 0) 1 28 := ⟨by decide +kernel, rfl⟩
theorem d_X11_product_28 : DC mi_X11_product 28 (.invokevirtual 279) 3 31 := ⟨by decide +kernel, rfl⟩
theorem d_X11_product_31 : DC mi_X11_product 31 (.aload_n 0) 1 32 := ⟨by decide +kernel, rfl⟩
theorem d_X11_product_32 : DC mi_X11_product 32 (.invokevirtual 222) 3 35 := ⟨by decide +kernel, rfl⟩
theorem d_X11_product_35 : DC mi_X11_product 35 (.aload_n 0) 1 36 := ⟨by decide +kernel, rfl⟩
theorem d_X11_product_36 : DC mi_X11_product 36 (.invokevirtual 294) 3 39 := ⟨by decide +kernel, rfl⟩
theorem d_X11_product_39 : DC mi_X11_product 39 (.aload_n 0) 1 40 := ⟨by decide +kernel, rfl⟩
theorem d_X11_product_40 : DC mi_X11_product 40 (.iconst 2) 1 41 := ⟨by decide +kernel, rfl⟩
theorem d_X11_product_41 : DC mi_X11_product 41 (.iload_n 1) 1 42 := ⟨by decide +kernel, rfl⟩
theorem d_X11_product_42 : DC mi_X11_product 42 (.invokevirtual 282) 3 45 := ⟨by decide +kernel, rfl⟩
theorem d_X11_product_45 : DB mi_X11_product 45 (.goto (-41)) (-41) 48 4 := ⟨by decide +kernel, rfl, by decide⟩
theorem d_X11_product_48 : DC mi_X11_product 48 (.return_) 1 49 := ⟨by decide +kernel, rfl⟩
set_option maxHeartbeats 4000000 in
set_option maxRecDepth 100000 in
theorem sL_X11_product_4 (d : Nat) (hd : 9 ≤ d) {R : Nat → HH → Option (Unit × HH)} (hR : RGok d R) : ∀ (n : Nat) (h : HH), Sx mi_X11_product d iU (g_X11_product_L4 R n h) 4 [(0, .ref 255)] [] h := by
  intro n
  induction n with
  | zero => intro h; exact sx_none
  | succ n ih =>
    intro h
    rw [g_X11_product_L4]
    refine sx_aload_n d_X11_product_4 0 rfl ?_
    refine sx_bipush d_X11_product_5 bc42 ?_
    refine sx_callV [.int (42 : Int32)] mv_X11_isSign lM_StairCountModel_254 sh_255 (by omega) rfl rfl (Nat.le_of_ble_eq_true rfl) d_X11_product_7 (sp_X11_isSign (d - 1) (by omega) (42 : Int32) h) (fun r4 h3 => ?_)
    refine sx_jn (fun j => ∀  (h : HH), Sx mi_X11_product d iU (j  h) 22 [(0, .ref 255)] [] h) ?_ ?_
    · intro  h7
      refine sx_aload_n d_X11_product_22 0 rfl ?_
      refine sx_getI fl_StairCountModel_177 sh_255 rfl d_X11_product_23 (fun v8 => ?_)
      refine sx_istore_n (i := 1) (lc' := [(1, .int v8), (0, .ref 255)]) d_X11_product_26 rfl (by decide) rfl ?_
      refine sx_aload_n d_X11_product_27 1 rfl ?_
      refine sx_callV [] mv_X11_knot lM_StairCountModel_279 sh_255 (by omega) rfl rfl (Nat.le_of_ble_eq_true rfl) d_X11_product_28 (sp_X11_knot (d - 1) (by omega) h7) (fun _ h9 => ?_)
      refine sx_aload_n d_X11_product_31 1 rfl ?_
      refine sx_callV [] mv_X11_goOn lM_StairCountModel_222 sh_255 (by omega) rfl rfl (Nat.le_of_ble_eq_true rfl) d_X11_product_32 (sp_X11_goOn (d - 1) (by omega) h9) (fun _ h11 => ?_)
      refine sx_aload_n d_X11_product_35 1 rfl ?_
      refine sx_callV [] mv_X11_primary lM_StairCountModel_294 sh_255 (by omega) rfl rfl (Nat.le_of_ble_eq_true rfl) d_X11_product_36 (hR.2.2.2.2.2 h11) (fun _ h13 => ?_)
      refine sx_aload_n d_X11_product_39 1 rfl ?_
      refine sx_iconst d_X11_product_40 ic2 ?_
      refine sx_iload_n d_X11_product_41 0 rfl ?_
      refine sx_callV [.int (2 : Int32), .int v8] mv_X11_puts lM_StairCountModel_282 sh_255 (by omega) rfl rfl (Nat.le_of_ble_eq_true rfl) d_X11_product_42 (sp_X11_puts (d - 1) (by omega) (2 : Int32) v8 h13) (fun _ h15 => ?_)
      refine sx_goto d_X11_product_45 ?_
      refine sx_lc (lc' := [(0, .ref 255)]) [1] rfl ?_
      exact ih h15
    · intro j5 k6
      refine sx_if_ne d_X11_product_10 ?_ ?_
      · refine sx_aload_n d_X11_product_13 0 rfl ?_
        refine sx_bipush d_X11_product_14 bc47 ?_
        refine sx_callV [.int (47 : Int32)] mv_X11_isSign lM_StairCountModel_254 sh_255 (by omega) rfl rfl (Nat.le_of_ble_eq_true rfl) d_X11_product_16 (sp_X11_isSign (d - 1) (by omega) (47 : Int32) h3) (fun r18 h17 => ?_)
        refine sx_if_eq d_X11_product_19 ?_ ?_
        · exact sx_vret rfl d_X11_product_48
        · exact k6 h17
      · exact k6 h3
set_option maxHeartbeats 4000000 in
set_option maxRecDepth 100000 in
theorem sb_X11_product (d : Nat) (hd : 9 ≤ d) {R : Nat → HH → Option (Unit × HH)} (hR : RGok d R) (h : HH) : Sp mi_X11_product d iU [.ref 255] h (g_X11_product R h) := by
  refine sp_of (lc := [(0, .ref 255)]) (by decide) (Nat.le_of_ble_eq_true rfl) rfl ?_
  unfold g_X11_product
  refine sx_aload_n d_X11_product_0 0 rfl ?_
  refine sx_callV [] mv_X11_primary lM_StairCountModel_294 sh_255 (by omega) rfl rfl (Nat.le_of_ble_eq_true rfl) d_X11_product_1 (hR.2.2.2.2.2 h) (fun _ h1 => ?_)
  refine sL_X11_product_4 d hd hR 1024 h1
