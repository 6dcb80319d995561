/-! walks: X11_primary, X11_lawLine, X11_personLine, X11_tallyLine, X11_line, X11_half, X11_starts, X11_begins, X11_text, X11_fault -/
theorem d_X11_primary_0 : DC mi_X11_primary 0 (.aload_n 0) 1 1 := ⟨by decide +kernel, rfl⟩
theorem d_X11_primary_1 : DC mi_X11_primary 1 (.getfield 202) 3 4 := ⟨by decide +kernel, rfl⟩
theorem d_X11_primary_4 : DB mi_X11_primary 4 (.ifCond .eq 4) 4 7 8 := ⟨by decide +kernel, rfl, by decide⟩
theorem d_X11_primary_7 : DC mi_X11_primary 7 (.return_) 1 8 := ⟨by decide +kernel, rfl⟩
theorem d_X11_primary_8 : DC mi_X11_primary 8 (.aload_n 0) 1 9 := ⟨by decide +kernel, rfl⟩
theorem d_X11_primary_9 : DC mi_X11_primary 9 (.bipush 40) 2 11 := ⟨by decide +kernel, rfl⟩
theorem d_X11_primary_11 : DC mi_X11_primary 11 (.invokevirtual 254) 3 14 := ⟨by decide +kernel, rfl⟩
theorem d_X11_primary_14 : DB mi_X11_primary 14 (.ifCond .eq 87) 87 17 101 := ⟨by decide +kernel, rfl, by decide⟩
theorem d_X11_primary_17 : DC mi_X11_primary 17 (.aload_n 0) 1 18 := ⟨by decide +kernel, rfl⟩
theorem d_X11_primary_18 : DC mi_X11_primary 18 (.getfield 297) 3 21 := ⟨by decide +kernel, rfl⟩
theorem d_X11_primary_21 : DC mi_X11_primary 21 (.bipush 8) 2 23 := ⟨by decide +kernel, rfl⟩
theorem d_X11_primary_23 : DB mi_X11_primary 23 (.if_icmp .ne 8) 8 26 31 := ⟨by decide +kernel, rfl, by decide⟩
theorem d_X11_primary_26 : DC mi_X11_primary 26 (.aload_n 0) 1 27 := ⟨by decide +kernel, rfl⟩
theorem d_X11_primary_27 : DC mi_X11_primary 27 (.iconst 2) 1 28 := ⟨by decide +kernel, rfl⟩
theorem d_X11_primary_28 : DC mi_X11_primary 28 (.invokevirtual 211) 3 31 := ⟨by decide +kernel, rfl⟩
theorem d_X11_primary_31 : DC mi_X11_primary 31 (.aload_n 0) 1 32 := ⟨by decide +kernel, rfl⟩
theorem d_X11_primary_32 : DC mi_X11_primary 32 (.getfield 202) 3 35 := ⟨by decide +kernel, rfl⟩
theorem d_X11_primary_35 : DB mi_X11_primary 35 (.ifCond .eq 4) 4 38 39 := ⟨by decide +kernel, rfl, by decide⟩
theorem d_X11_primary_38 : DC mi_X11_primary 38 (.return_) 1 39 := ⟨by decide +kernel, rfl⟩
theorem d_X11_primary_39 : DC mi_X11_primary 39 (.aload_n 0) 1 40 := ⟨by decide +kernel, rfl⟩
theorem d_X11_primary_40 : DC mi_X11_primary 40 (.dup) 1 41 := ⟨by decide +kernel, rfl⟩
theorem d_X11_primary_41 : DC mi_X11_primary 41 (.getfield 297) 3 44 := ⟨by decide +kernel, rfl⟩
theorem d_X11_primary_44 : DC mi_X11_primary 44 (.iconst 1) 1 45 := ⟨by decide +kernel, rfl⟩
theorem d_X11_primary_45 : DC mi_X11_primary 45 (.iadd) 1 46 := ⟨by decide +kernel, rfl⟩
theorem d_X11_primary_46 : DC mi_X11_primary 46 (.putfield 297) 3 49 := ⟨by decide +kernel, rfl⟩
theorem d_X11_primary_49 : DC mi_X11_primary 49 (.aload_n 0) 1 50 := ⟨by decide +kernel, rfl⟩
theorem d_X11_primary_50 : DC mi_X11_primary 50 (.invokevirtual 208) 3 53 := ⟨by decide +kernel, rfl⟩
theorem d_X11_primary_53 : DC mi_X11_primary 53 (.aload_n 0) 1 54 := ⟨by decide +kernel, rfl⟩
theorem d_X11_primary_54 : DC mi_X11_primary 54 (.invokevirtual 267) 3 57 := ⟨by decide +kernel, rfl⟩
theorem d_X11_primary_57 : DC mi_X11_primary 57 (.aload_n 0) 1 58 := ⟨by decide +kernel, rfl⟩
theorem d_X11_primary_58 : DC mi_X11_primary 58 (.getfield 202) 3 61 := ⟨by decide +kernel, rfl⟩
theorem d_X11_primary_61 : DB mi_X11_primary 61 (.ifCond .ne 17) 17 64 78 := ⟨by decide +kernel, rfl, by decide⟩
theorem d_X11_primary_64 : DC mi_X11_primary 64 (.aload_n 0) 1 65 := ⟨by decide +kernel, rfl⟩
theorem d_X11_primary_65 : DC mi_X11_primary 65 (.bipush 41) 2 67 := ⟨by decide +kernel, rfl⟩
theorem d_X11_primary_67 : DC mi_X11_primary 67 (.invokevirtual 254) 3 70 := ⟨by decide +kernel, rfl⟩
theorem d_X11_primary_70 : DB mi_X11_primary 70 (.ifCond .ne 8) 8 73 78 := ⟨by decide +kernel, rfl, by decide⟩
theorem d_X11_primary_73 : DC mi_X11_primary 73 (.aload_n 0) 1 74 := ⟨by decide +kernel, rfl⟩
theorem d_X11_primary_74 : DC mi_X11_primary 74 (.iconst 1) 1 75 := ⟨by decide +kernel, rfl⟩
theorem d_X11_primary_75 : DC mi_X11_primary 75 (.invokevirtual 211) 3 78 := ⟨by decide +kernel, rfl⟩
theorem d_X11_primary_78 : DC mi_X11_primary 78 (.aload_n 0) 1 79 := ⟨by decide +kernel, rfl⟩
theorem d_X11_primary_79 : DC mi_X11_primary 79 (.getfield 202) 3 82 := ⟨by decide +kernel, rfl⟩
theorem d_X11_primary_82 : DB mi_X11_primary 82 (.ifCond .eq 4) 4 85 86 := ⟨by decide +kernel, rfl, by decide⟩
theorem d_X11_primary_85 : DC mi_X11_primary 85 (.return_) 1 86 := ⟨by decide +kernel, rfl⟩
theorem d_X11_primary_86 : DC mi_X11_primary 86 (.aload_n 0) 1 87 := ⟨by decide +kernel, rfl⟩
theorem d_X11_primary_87 : DC mi_X11_primary 87 (.dup) 1 88 := ⟨by decide +kernel, rfl⟩
theorem d_X11_primary_88 : DC mi_X11_primary 88 (.getfield 297) 3 91 := ⟨by decide +kernel, rfl⟩
theorem d_X11_primary_91 : DC mi_X11_primary 91 (.iconst 1) 1 92 := ⟨by decide +kernel, rfl⟩
theorem d_X11_primary_92 : DC mi_X11_primary 92 (.isub) 1 93 := ⟨by decide +kernel, rfl⟩
theorem d_X11_primary_93 : DC mi_X11_primary 93 (.putfield 297) 3 96 := ⟨by decide +kernel, rfl⟩
theorem d_X11_primary_96 : DC mi_X11_primary 96 (.aload_n 0) 1 97 := ⟨by decide +kernel, rfl⟩
theorem d_X11_primary_97 : DC mi_X11_primary 97 (.invokevirtual 208) 3 100 := ⟨by decide +kernel, rfl⟩
theorem d_X11_primary_100 : DC mi_X11_primary 100 (.return_) 1 101 := ⟨by decide +kernel, rfl⟩
theorem d_X11_primary_101 : DC mi_X11_primary 101 (.aload_n 0) 1 102 := ⟨by decide +kernel, rfl⟩
theorem d_X11_primary_102 : DC mi_X11_primary 102 (.getfield 167) 3 105 := ⟨by decide +kernel, rfl⟩
theorem d_X11_primary_105 : DC mi_X11_primary 105 (.iconst 2) 1 106 := ⟨by decide +kernel, rfl⟩
theorem d_X11_primary_106 : DB mi_X11_primary 106 (.if_icmp .ne 7) 7 109 113 := ⟨by decide +kernel, rfl, by decide⟩
theorem d_X11_primary_109 : DC mi_X11_primary 109 (.iconst 1) 1 110 := ⟨by decide +kernel, rfl⟩
theorem d_X11_primary_110 : DB mi_X11_primary 110 (.goto 4) 4 113 114 := ⟨by decide +kernel, rfl, by decide⟩
theorem d_X11_primary_113 : DC mi_X11_primary 113 (.iconst 0) 1 114 := ⟨by decide +kernel, rfl⟩
theorem d_X11_primary_114 : DC mi_X11_primary 114 (.istore_n 1) 1 115 := ⟨by decide +kernel, rfl⟩
theorem d_X11_primary_115 : DC mi_X11_primary 115 (.iload_n 1) 1 116 := ⟨by decide +kernel, rfl⟩
theorem d_X11_primary_116 : DB mi_X11_primary 116 (.ifCond .eq 21) 21 119 137 := ⟨by decide +kernel, rfl, by decide⟩
theorem d_X11_primary_119 : DC mi_X11_primary 119 (.aload_n 0) 1 120 := ⟨by decide +kernel, rfl⟩
theorem d_X11_primary_120 : DC mi_X11_primary 120 (.getfield 177) 3 123 := ⟨by decide +kernel, rfl⟩
theorem d_X11_primary_123 : DC mi_X11_primary 123 (.sipush 9999) 3 126 := ⟨by decide +kernel, rfl⟩
theorem d_X11_primary_126 : DB mi_X11_primary 126 (.if_icmp .le 11) 11 129 137 := ⟨by decide +kernel, rfl, by decide⟩
theorem d_X11_primary_129 : DC mi_X11_primary 129 (.aload_n 0) 1 130 := ⟨by decide +kernel, rfl⟩
theorem d_X11_primary_130 : DC mi_X11_primary 130 (.iconst 2) 1 131 := ⟨by decide +kernel, rfl⟩
theorem d_X11_primary_131 : DC mi_X11_primary 131 (.invokevirtual 211) 3 134 := ⟨by decide +kernel, rfl⟩
theorem d_X11_primary_134 : DB mi_X11_primary 134 (.goto 28) 28 137 162 := ⟨by decide +kernel, rfl, by decide⟩
theorem d_X11_primary_137 : DC mi_X11_primary 137 (.iload_n 1) 1 138 := ⟨by decide +kernel, rfl⟩
theorem d_X11_primary_138 : DB mi_X11_primary 138 (.ifCond .ne 24) 24 141 162 := ⟨by decide +kernel, rfl, by decide⟩
theorem d_X11_primary_141 : DC mi_X11_primary 141 (.aload_n 0) 1 142 := ⟨by decide +kernel, rfl⟩
theorem d_X11_primary_142 : DC mi_X11_primary 142 (.getfield 167) 3 145 := ⟨by decide +kernel, rfl⟩
theorem d_X11_primary_145 : DB mi_X11_primary 145 (.ifCond .ne 12) 12 148 157 := ⟨by decide +kernel, rfl, by decide⟩
theorem d_X11_primary_148 : DC mi_X11_primary 148 (.aload_n 0) 1 149 := ⟨by decide +kernel, rfl⟩
theorem d_X11_primary_149 : DC mi_X11_primary 149 (.getfield 177) 3 152 := ⟨by decide +kernel, rfl⟩
theorem d_X11_primary_152 : DC mi_X11_primary 152 (.bipush 17) 2 154 := ⟨by decide +kernel, rfl⟩
theorem d_X11_primary_154 : DB mi_X11_primary 154 (.if_icmp .ge 8) 8 157 162 := ⟨by decide +kernel, rfl, by decide⟩
theorem d_X11_primary_157 : DC mi_X11_primary 157 (.aload_n 0) 1 158 := ⟨by decide +kernel, rfl⟩
theorem d_X11_primary_158 : DC mi_X11_primary 158 (.iconst 1) 1 159 := ⟨by decide +kernel, rfl⟩
theorem d_X11_primary_159 : DC mi_X11_primary 159 (.invokevirtual 211) 3 162 := ⟨by decide +kernel, rfl⟩
theorem d_X11_primary_162 : DC mi_X11_primary 162 (.aload_n 0) 1 163 := ⟨by decide +kernel, rfl⟩
theorem d_X11_primary_163 : DC mi_X11_primary 163 (.invokevirtual 279) 3 166 := ⟨by decide +kernel, rfl⟩
theorem d_X11_primary_166 : DC mi_X11_primary 166 (.aload_n 0) 1 167 := ⟨by decide +kernel, rfl⟩
theorem d_X11_primary_167 : DC mi_X11_primary 167 (.iload_n 1) 1 168 := ⟨by decide +kernel, rfl⟩
theorem d_X11_primary_168 : DB mi_X11_primary 168 (.ifCond .eq 7) 7 171 175 := ⟨by decide +kernel, rfl, by decide⟩
theorem d_X11_primary_171 : DC mi_X11_primary 171 (.iconst 0) 1 172 := ⟨by decide +kernel, rfl⟩
theorem d_X11_primary_172 : DB mi_X11_primary 172 (.goto 4) 4 175 176 := ⟨by decide +kernel, rfl, by decide⟩
theorem d_X11_primary_175 : DC mi_X11_primary 175 (.iconst 1) 1 176 := ⟨by decide +kernel, rfl⟩
theorem d_X11_primary_176 : DC mi_X11_primary 176 (.iload_n 1) 1 177 := ⟨by decide +kernel, rfl⟩
theorem d_X11_primary_177 : DB mi_X11_primary 177 (.ifCond .eq 10) 10 180 187 := ⟨by decide +kernel, rfl, by decide⟩
theorem d_X11_primary_180 : DC mi_X11_primary 180 (.aload_n 0) 1 181 := ⟨by decide +kernel, rfl⟩
theorem d_X11_primary_181 : DC mi_X11_primary 181 (.getfield 177) 3 184 := ⟨by decide +kernel, rfl⟩
theorem d_X11_primary_184 : DB mi_X11_primary 184 (.goto 10) 10 187 194 := ⟨by decide +kernel, rfl, by decide⟩
theorem d_X11_primary_187 : DC mi_X11_primary 187 (.aload_n 0) 1 188 := ⟨by decide +kernel, rfl⟩
theorem d_X11_primary_188 : DC mi_X11_primary 188 (.getfield 177) 3 191 := ⟨by decide +kernel, rfl⟩
theorem d_X11_primary_191 : DC mi_X11_primary 191 (.bipush 17) 2 193 := ⟨by decide +kernel, rfl⟩
theorem d_X11_primary_193 : DC mi_X11_primary 193 (.isub) 1 194 := ⟨by decide +kernel, rfl⟩
theorem d_X11_primary_194 : DC mi_X11_primary 194 (.invokevirtual 282) 3 197 := ⟨by decide +kernel, rfl⟩
theorem d_X11_primary_197 : DC mi_X11_primary 197 (.aload_n 0) 1 198 := ⟨by decide +kernel, rfl⟩
theorem d_X11_primary_198 : DC mi_X11_primary 198 (.invokevirtual 222) 3 201 := ⟨by decide +kernel, rfl⟩
theorem d_X11_primary_201 : DC mi_X11_primary 201 (.return_) 1 202 := ⟨by decide +kernel, rfl⟩
set_option maxHeartbeats 4000000 in
set_option maxRecDepth 100000 in
theorem sb_X11_primary (d : Nat) (hd : 9 ≤ d) {R : Nat → HH → Option (Unit × HH)} (hR : RGok d R) (h : HH) : Sp mi_X11_primary d iU [.ref 255] h (g_X11_primary R h) := by
  refine sp_of (lc := [(0, .ref 255)]) (by decide) (Nat.le_of_ble_eq_true rfl) rfl ?_
  unfold g_X11_primary
  refine sx_aload_n d_X11_primary_0 0 rfl ?_
  refine sx_getI fl_StairCountModel_202 sh_255 rfl d_X11_primary_1 (fun v1 => ?_)
  refine sx_if_eq d_X11_primary_4 ?_ ?_
  · refine sx_aload_n d_X11_primary_8 0 rfl ?_
    refine sx_bipush d_X11_primary_9 bc40 ?_
    refine sx_callV [.int (40 : Int32)] mv_X11_isSign lM_StairCountModel_254 sh_255 (by omega) rfl rfl (Nat.le_of_ble_eq_true rfl) d_X11_primary_11 (sp_X11_isSign (d - 1) (by omega) (40 : Int32) h) (fun r3 h2 => ?_)
    refine sx_if_eq d_X11_primary_14 ?_ ?_
    · refine sx_aload_n d_X11_primary_101 0 rfl ?_
      refine sx_getI fl_StairCountModel_167 sh_255 rfl d_X11_primary_102 (fun v4 => ?_)
      refine sx_iconst d_X11_primary_105 ic2 ?_
      refine sx_jn (fun j => ∀ (y8 : Int32) (h : HH), Sx mi_X11_primary d iU (j y8 h) 114 [(0, .ref 255)] [.int y8] h) ?_ ?_
      · intro y8 h7
        refine sx_istore_n (i := 1) (lc' := [(1, .int y8), (0, .ref 255)]) d_X11_primary_114 rfl (by decide) rfl ?_
        refine sx_iload_n d_X11_primary_115 0 rfl ?_
        refine sx_jn (fun j => ∀  (h : HH), Sx mi_X11_primary d iU (j  h) 162 [(0, .ref 255), (1, .int y8)] [] h) ?_ ?_
        · intro  h11
          refine sx_aload_n d_X11_primary_162 0 rfl ?_
          refine sx_callV [] mv_X11_knot lM_StairCountModel_279 sh_255 (by omega) rfl rfl (Nat.le_of_ble_eq_true rfl) d_X11_primary_163 (sp_X11_knot (d - 1) (by omega) h11) (fun _ h12 => ?_)
          refine sx_aload_n d_X11_primary_166 0 rfl ?_
          refine sx_iload_n d_X11_primary_167 1 rfl ?_
          refine sx_jn (fun j => ∀ (y17 : Int32) (h : HH), Sx mi_X11_primary d iU (j y17 h) 176 [(0, .ref 255), (1, .int y8)] [.int y17, .ref 255] h) ?_ ?_
          · intro y17 h16
            refine sx_iload_n d_X11_primary_176 1 rfl ?_
            refine sx_jn (fun j => ∀ (y21 : Int32) (h : HH), Sx mi_X11_primary d iU (j y21 h) 194 [(0, .ref 255)] [.int y21, .int y17, .ref 255] h) ?_ ?_
            · intro y21 h20
              refine sx_callV [.int y17, .int y21] mv_X11_puts lM_StairCountModel_282 sh_255 (by omega) rfl rfl (Nat.le_of_ble_eq_true rfl) d_X11_primary_194 (sp_X11_puts (d - 1) (by omega) y17 y21 h20) (fun _ h22 => ?_)
              refine sx_aload_n d_X11_primary_197 0 rfl ?_
              refine sx_callV [] mv_X11_goOn lM_StairCountModel_222 sh_255 (by omega) rfl rfl (Nat.le_of_ble_eq_true rfl) d_X11_primary_198 (sp_X11_goOn (d - 1) (by omega) h22) (fun _ h24 => ?_)
              exact sx_vret rfl d_X11_primary_201
            · intro j18 k19
              refine sx_if_eq d_X11_primary_177 ?_ ?_
              · refine sx_aload_n d_X11_primary_187 0 rfl ?_
                refine sx_getI fl_StairCountModel_177 sh_255 rfl d_X11_primary_188 (fun v26 => ?_)
                refine sx_bipush d_X11_primary_191 bc17 ?_
                refine sx_isub d_X11_primary_193 ?_
                refine sx_lc (lc' := [(0, .ref 255)]) [0] rfl ?_
                exact k19 (v26 - (17 : Int32)) h16
              · refine sx_aload_n d_X11_primary_180 0 rfl ?_
                refine sx_getI fl_StairCountModel_177 sh_255 rfl d_X11_primary_181 (fun v27 => ?_)
                refine sx_goto d_X11_primary_184 ?_
                refine sx_lc (lc' := [(0, .ref 255)]) [0] rfl ?_
                exact k19 v27 h16
          · intro j14 k15
            refine sx_if_eq d_X11_primary_168 ?_ ?_
            · refine sx_iconst d_X11_primary_175 ic1 ?_
              exact k15 (1 : Int32) h12
            · refine sx_iconst d_X11_primary_171 ic0 ?_
              refine sx_goto d_X11_primary_172 ?_
              exact k15 (0 : Int32) h12
        · intro j9 k10
          refine sx_jn (fun j => ∀  (h : HH), Sx mi_X11_primary d iU (j  h) 137 [(0, .ref 255), (1, .int y8)] [] h) ?_ ?_
          · intro  h30
            refine sx_iload_n d_X11_primary_137 1 rfl ?_
            refine sx_if_ne d_X11_primary_138 ?_ ?_
            · refine sx_aload_n d_X11_primary_141 0 rfl ?_
              refine sx_getI fl_StairCountModel_167 sh_255 rfl d_X11_primary_142 (fun v31 => ?_)
              refine sx_jn (fun j => ∀  (h : HH), Sx mi_X11_primary d iU (j  h) 157 [(0, .ref 255), (1, .int y8)] [] h) ?_ ?_
              · intro  h34
                refine sx_aload_n d_X11_primary_157 0 rfl ?_
                refine sx_iconst d_X11_primary_158 ic1 ?_
                refine sx_callV [.int (1 : Int32)] mv_X11_wrong lM_StairCountModel_211 sh_255 (by omega) rfl rfl (Nat.le_of_ble_eq_true rfl) d_X11_primary_159 (sp_X11_wrong (d - 1) (by omega) (1 : Int32) h34) (fun _ h35 => ?_)
                exact k10 h35
              · intro j32 k33
                refine sx_if_ne d_X11_primary_145 ?_ ?_
                · refine sx_aload_n d_X11_primary_148 0 rfl ?_
                  refine sx_getI fl_StairCountModel_177 sh_255 rfl d_X11_primary_149 (fun v37 => ?_)
                  refine sx_bipush d_X11_primary_152 bc17 ?_
                  refine sx_icmp_ge d_X11_primary_154 ?_ ?_
                  · exact k33 h30
                  · exact k10 h30
                · exact k33 h30
            · exact k10 h30
          · intro j28 k29
            refine sx_if_eq d_X11_primary_116 ?_ ?_
            · refine sx_lc (lc' := [(0, .ref 255), (1, .int y8)]) [1, 0] rfl ?_
              exact k29 h7
            · refine sx_aload_n d_X11_primary_119 1 rfl ?_
              refine sx_getI fl_StairCountModel_177 sh_255 rfl d_X11_primary_120 (fun v38 => ?_)
              refine sx_sipush d_X11_primary_123 sc9999 ?_
              refine sx_icmp_le d_X11_primary_126 ?_ ?_
              · refine sx_aload_n d_X11_primary_129 1 rfl ?_
                refine sx_iconst d_X11_primary_130 ic2 ?_
                refine sx_callV [.int (2 : Int32)] mv_X11_wrong lM_StairCountModel_211 sh_255 (by omega) rfl rfl (Nat.le_of_ble_eq_true rfl) d_X11_primary_131 (sp_X11_wrong (d - 1) (by omega) (2 : Int32) h7) (fun _ h39 => ?_)
                refine sx_goto d_X11_primary_134 ?_
                refine sx_lc (lc' := [(0, .ref 255), (1, .int y8)]) [1, 0] rfl ?_
                exact k10 h39
              · refine sx_lc (lc' := [(0, .ref 255), (1, .int y8)]) [1, 0] rfl ?_
                exact k29 h7
      · intro j5 k6
        refine sx_icmp_ne d_X11_primary_106 ?_ ?_
        · refine sx_iconst d_X11_primary_109 ic1 ?_
          refine sx_goto d_X11_primary_110 ?_
          exact k6 (1 : Int32) h2
        · refine sx_iconst d_X11_primary_113 ic0 ?_
          exact k6 (0 : Int32) h2
    · refine sx_aload_n d_X11_primary_17 0 rfl ?_
      refine sx_getI fl_StairCountModel_297 sh_255 rfl d_X11_primary_18 (fun v41 => ?_)
      refine sx_bipush d_X11_primary_21 bc8 ?_
      refine sx_jn (fun j => ∀  (h : HH), Sx mi_X11_primary d iU (j  h) 31 [(0, .ref 255)] [] h) ?_ ?_
      · intro  h44
        refine sx_aload_n d_X11_primary_31 0 rfl ?_
        refine sx_getI fl_StairCountModel_202 sh_255 rfl d_X11_primary_32 (fun v45 => ?_)
        refine sx_if_eq d_X11_primary_35 ?_ ?_
        · refine sx_aload_n d_X11_primary_39 0 rfl ?_
          refine sx_dup d_X11_primary_40 rfl ?_
          refine sx_getI fl_StairCountModel_297 sh_255 rfl d_X11_primary_41 (fun v46 => ?_)
          refine sx_iconst d_X11_primary_44 ic1 ?_
          refine sx_iadd d_X11_primary_45 ?_
          refine sx_putI fl_StairCountModel_297 sh_255 rfl hty_11_31 d_X11_primary_46 (fun h47 => ?_)
          refine sx_aload_n d_X11_primary_49 0 rfl ?_
          refine sx_callV [] mv_X11_token lM_StairCountModel_208 sh_255 (by omega) rfl rfl (Nat.le_of_ble_eq_true rfl) d_X11_primary_50 (sp_X11_token (d - 1) (by omega) h47) (fun _ h48 => ?_)
          refine sx_aload_n d_X11_primary_53 0 rfl ?_
          refine sx_callV [] mv_X11_expression lM_StairCountModel_267 sh_255 (by omega) rfl rfl (Nat.le_of_ble_eq_true rfl) d_X11_primary_54 (hR.1 h48) (fun _ h50 => ?_)
          refine sx_aload_n d_X11_primary_57 0 rfl ?_
          refine sx_getI fl_StairCountModel_202 sh_255 rfl d_X11_primary_58 (fun v52 => ?_)
          refine sx_jn (fun j => ∀  (h : HH), Sx mi_X11_primary d iU (j  h) 78 [(0, .ref 255)] [] h) ?_ ?_
          · intro  h55
            refine sx_aload_n d_X11_primary_78 0 rfl ?_
            refine sx_getI fl_StairCountModel_202 sh_255 rfl d_X11_primary_79 (fun v56 => ?_)
            refine sx_if_eq d_X11_primary_82 ?_ ?_
            · refine sx_aload_n d_X11_primary_86 0 rfl ?_
              refine sx_dup d_X11_primary_87 rfl ?_
              refine sx_getI fl_StairCountModel_297 sh_255 rfl d_X11_primary_88 (fun v57 => ?_)
              refine sx_iconst d_X11_primary_91 ic1 ?_
              refine sx_isub d_X11_primary_92 ?_
              refine sx_putI fl_StairCountModel_297 sh_255 rfl hty_11_31 d_X11_primary_93 (fun h58 => ?_)
              refine sx_aload_n d_X11_primary_96 0 rfl ?_
              refine sx_callV [] mv_X11_token lM_StairCountModel_208 sh_255 (by omega) rfl rfl (Nat.le_of_ble_eq_true rfl) d_X11_primary_97 (sp_X11_token (d - 1) (by omega) h58) (fun _ h59 => ?_)
              exact sx_vret rfl d_X11_primary_100
            · exact sx_vret rfl d_X11_primary_85
          · intro j53 k54
            refine sx_if_ne d_X11_primary_61 ?_ ?_
            · refine sx_aload_n d_X11_primary_64 0 rfl ?_
              refine sx_bipush d_X11_primary_65 bc41 ?_
              refine sx_callV [.int (41 : Int32)] mv_X11_isSign lM_StairCountModel_254 sh_255 (by omega) rfl rfl (Nat.le_of_ble_eq_true rfl) d_X11_primary_67 (sp_X11_isSign (d - 1) (by omega) (41 : Int32) h50) (fun r62 h61 => ?_)
              refine sx_if_ne d_X11_primary_70 ?_ ?_
              · refine sx_aload_n d_X11_primary_73 0 rfl ?_
                refine sx_iconst d_X11_primary_74 ic1 ?_
                refine sx_callV [.int (1 : Int32)] mv_X11_wrong lM_StairCountModel_211 sh_255 (by omega) rfl rfl (Nat.le_of_ble_eq_true rfl) d_X11_primary_75 (sp_X11_wrong (d - 1) (by omega) (1 : Int32) h61) (fun _ h63 => ?_)
                exact k54 h63
              · exact k54 h61
            · exact k54 h50
        · exact sx_vret rfl d_X11_primary_38
      · intro j42 k43
        refine sx_icmp_ne d_X11_primary_23 ?_ ?_
        · refine sx_aload_n d_X11_primary_26 0 rfl ?_
          refine sx_iconst d_X11_primary_27 ic2 ?_
          refine sx_callV [.int (2 : Int32)] mv_X11_wrong lM_StairCountModel_211 sh_255 (by omega) rfl rfl (Nat.le_of_ble_eq_true rfl) d_X11_primary_28 (sp_X11_wrong (d - 1) (by omega) (2 : Int32) h2) (fun _ h65 => ?_)
          exact k43 h65
        · exact k43 h2
  · exact sx_vret rfl d_X11_primary_7
theorem sp_rG : ∀ (n d : Nat), 9 + n ≤ d → (∀ h : HH, Sp mi_X11_expression d iU [.ref 255] h (rG n 0 h)) ∧ (∀ h : HH, Sp mi_X11_conjunction d iU [.ref 255] h (rG n 1 h)) ∧ (∀ h : HH, Sp mi_X11_negation d iU [.ref 255] h (rG n 2 h)) ∧ (∀ h : HH, Sp mi_X11_sum d iU [.ref 255] h (rG n 3 h)) ∧ (∀ h : HH, Sp mi_X11_product d iU [.ref 255] h (rG n 4 h)) ∧ (∀ h : HH, Sp mi_X11_primary d iU [.ref 255] h (rG n 5 h)) := by
  intro n
  induction n with
  | zero => intro d _; refine ⟨?_, ?_, ?_, ?_, ?_, ?_⟩ <;> intro h l X r h' hE <;> cases hE
  | succ n ih =>
    intro d hd
    have hR : RGok d (rG n) := ih (d - 1) (by omega)
    exact ⟨sb_X11_expression d (by omega) hR, sb_X11_conjunction d (by omega) hR, sb_X11_negation d (by omega) hR, sb_X11_sum d (by omega) hR, sb_X11_product d (by omega) hR, sb_X11_primary d (by omega) hR⟩
theorem d_X11_lawLine_0 : DC mi_X11_lawLine 0 (.aload_n 0) 1 1 := ⟨by decide +kernel, rfl⟩
theorem d_X11_lawLine_1 : DC mi_X11_lawLine 1 (.getfield 167) 3 4 := ⟨by decide +kernel, rfl⟩
theorem d_X11_lawLine_4 : DB mi_X11_lawLine 4 (.ifCond .ne 21) 21 7 25 := ⟨by decide +kernel, rfl, by decide⟩
theorem d_X11_lawLine_7 : DC mi_X11_lawLine 7 (.aload_n 0) 1 8 := ⟨by decide +kernel, rfl⟩
theorem d_X11_lawLine_8 : DC mi_X11_lawLine 8 (.getfield 177) 3 11 := ⟨by decide +kernel, rfl⟩
theorem d_X11_lawLine_11 : DC mi_X11_lawLine 11 (.bipush 11) 2 13 := ⟨by decide +kernel, rfl⟩
theorem d_X11_lawLine_13 : DB mi_X11_lawLine 13 (.if_icmp .lt 12) 12 16 25 := ⟨by decide +kernel, rfl, by decide⟩
theorem d_X11_lawLine_16 : DC mi_X11_lawLine 16 (.aload_n 0) 1 17 := ⟨by decide +kernel, rfl⟩
theorem d_X11_lawLine_17 : DC mi_X11_lawLine 17 (.getfield 177) 3 20 := ⟨by decide +kernel, rfl⟩
theorem d_X11_lawLine_20 : DC mi_X11_lawLine 20 (.bipush 13) 2 22 := ⟨by decide +kernel, rfl⟩
theorem d_X11_lawLine_22 : DB mi_X11_lawLine 22 (.if_icmp .le 8) 8 25 30 := ⟨by decide +kernel, rfl, by decide⟩
theorem d_X11_lawLine_25 : DC mi_X11_lawLine 25 (.aload_n 0) 1 26 := ⟨by decide +kernel, rfl⟩
theorem d_X11_lawLine_26 : DC mi_X11_lawLine 26 (.iconst 1) 1 27 := ⟨by decide +kernel, rfl⟩
theorem d_X11_lawLine_27 : DC mi_X11_lawLine 27 (.invokevirtual 211) 3 30 := ⟨by decide +kernel, rfl⟩
theorem d_X11_lawLine_30 : DC mi_X11_lawLine 30 (.aload_n 0) 1 31 := ⟨by decide +kernel, rfl⟩
theorem d_X11_lawLine_31 : DC mi_X11_lawLine 31 (.getfield 177) 3 34 := ⟨by decide +kernel, rfl⟩
theorem d_X11_lawLine_34 : DC mi_X11_lawLine 34 (.bipush 11) 2 36 := ⟨by decide +kernel, rfl⟩
theorem d_X11_lawLine_36 : DC mi_X11_lawLine 36 (.isub) 1 37 := ⟨by decide +kernel, rfl⟩
theorem d_X11_lawLine_37 : DC mi_X11_lawLine 37 (.istore_n 1) 1 38 := ⟨by decide +kernel, rfl⟩
theorem d_X11_lawLine_38 : DC mi_X11_lawLine 38 (.aload_n 0) 1 39 := ⟨by decide +kernel, rfl⟩
theorem d_X11_lawLine_39 : DC mi_X11_lawLine 39 (.getfield 202) 3 42 := ⟨by decide +kernel, rfl⟩
theorem d_X11_lawLine_42 : DB mi_X11_lawLine 42 (.ifCond .ne 23) 23 45 65 := ⟨by decide +kernel, rfl, by decide⟩
theorem d_X11_lawLine_45 : DC mi_X11_lawLine 45 (.aload_n 0) 1 46 := ⟨by decide +kernel, rfl⟩
theorem d_X11_lawLine_46 : DC mi_X11_lawLine 46 (.getfield 225) 3 49 := ⟨by decide +kernel, rfl⟩
theorem d_X11_lawLine_49 : DC mi_X11_lawLine 49 (.bipush 16) 2 51 := ⟨by decide +kernel, rfl⟩
theorem d_X11_lawLine_51 : DC mi_X11_lawLine 51 (.iload_n 1) 1 52 := ⟨by decide +kernel, rfl⟩
theorem d_X11_lawLine_52 : DC mi_X11_lawLine 52 (.iadd) 1 53 := ⟨by decide +kernel, rfl⟩
theorem d_X11_lawLine_53 : DC mi_X11_lawLine 53 (.ishr) 1 54 := ⟨by decide +kernel, rfl⟩
theorem d_X11_lawLine_54 : DC mi_X11_lawLine 54 (.iconst 1) 1 55 := ⟨by decide +kernel, rfl⟩
theorem d_X11_lawLine_55 : DC mi_X11_lawLine 55 (.iand) 1 56 := ⟨by decide +kernel, rfl⟩
theorem d_X11_lawLine_56 : DC mi_X11_lawLine 56 (.iconst 1) 1 57 := ⟨by decide +kernel, rfl⟩
theorem d_X11_lawLine_57 : DB mi_X11_lawLine 57 (.if_icmp .ne 8) 8 60 65 := ⟨by decide +kernel, rfl, by decide⟩
theorem d_X11_lawLine_60 : DC mi_X11_lawLine 60 (.aload_n 0) 1 61 := ⟨by decide +kernel, rfl⟩
theorem d_X11_lawLine_61 : DC mi_X11_lawLine 61 (.iconst 3) 1 62 := ⟨by decide +kernel, rfl⟩
theorem d_X11_lawLine_62 : DC mi_X11_lawLine 62 (.invokevirtual 211) 3 65 := ⟨by decide +kernel, rfl⟩
theorem d_X11_lawLine_65 : DC mi_X11_lawLine 65 (.aload_n 0) 1 66 := ⟨by decide +kernel, rfl⟩
theorem d_X11_lawLine_66 : DC mi_X11_lawLine 66 (.getfield 202) 3 69 := ⟨by decide +kernel, rfl⟩
theorem d_X11_lawLine_69 : DB mi_X11_lawLine 69 (.ifCond .eq 4) 4 72 73 := ⟨by decide +kernel, rfl, by decide⟩
theorem d_X11_lawLine_72 : DC mi_X11_lawLine 72 (.return_) 1 73 := ⟨by decide +kernel, rfl⟩
theorem d_X11_lawLine_73 : DC mi_X11_lawLine 73 (.aload_n 0) 1 74 := ⟨by decide +kernel, rfl⟩
theorem d_X11_lawLine_74 : DC mi_X11_lawLine 74 (.dup) 1 75 := ⟨by decide +kernel, rfl⟩
theorem d_X11_lawLine_75 : DC mi_X11_lawLine 75 (.getfield 225) 3 78 := ⟨by decide +kernel, rfl⟩
theorem d_X11_lawLine_78 : DC mi_X11_lawLine 78 (.iconst 1) 1 79 := ⟨by decide +kernel, rfl⟩
theorem d_X11_lawLine_79 : DC mi_X11_lawLine 79 (.bipush 16) 2 81 := ⟨by decide +kernel, rfl⟩
theorem d_X11_lawLine_81 : DC mi_X11_lawLine 81 (.iload_n 1) 1 82 := ⟨by decide +kernel, rfl⟩
theorem d_X11_lawLine_82 : DC mi_X11_lawLine 82 (.iadd) 1 83 := ⟨by decide +kernel, rfl⟩
theorem d_X11_lawLine_83 : DC mi_X11_lawLine 83 (.ishl) 1 84 := ⟨by decide +kernel, rfl⟩
theorem d_X11_lawLine_84 : DC mi_X11_lawLine 84 (.ior) 1 85 := ⟨by decide +kernel, rfl⟩
theorem d_X11_lawLine_85 : DC mi_X11_lawLine 85 (.putfield 225) 3 88 := ⟨by decide +kernel, rfl⟩
theorem d_X11_lawLine_88 : DC mi_X11_lawLine 88 (.aload_n 0) 1 89 := ⟨by decide +kernel, rfl⟩
theorem d_X11_lawLine_89 : DC mi_X11_lawLine 89 (.invokevirtual 208) 3 92 := ⟨by decide +kernel, rfl⟩
theorem d_X11_lawLine_92 : DC mi_X11_lawLine 92 (.aload_n 0) 1 93 := ⟨by decide +kernel, rfl⟩
theorem d_X11_lawLine_93 : DC mi_X11_lawLine 93 (.getfield 52) 3 96 := ⟨by decide +kernel, rfl⟩
theorem d_X11_lawLine_96 : DC mi_X11_lawLine 96 (.iconst 3) 1 97 := ⟨by decide +kernel, rfl⟩
theorem d_X11_lawLine_97 : DC mi_X11_lawLine 97 (.iload_n 1) 1 98 := ⟨by decide +kernel, rfl⟩
theorem d_X11_lawLine_98 : DC mi_X11_lawLine 98 (.iadd) 1 99 := ⟨by decide +kernel, rfl⟩
theorem d_X11_lawLine_99 : DC mi_X11_lawLine 99 (.aload_n 0) 1 100 := ⟨by decide +kernel, rfl⟩
theorem d_X11_lawLine_100 : DC mi_X11_lawLine 100 (.bipush 6) 2 102 := ⟨by decide +kernel, rfl⟩
theorem d_X11_lawLine_102 : DC mi_X11_lawLine 102 (.invokevirtual 218) 3 105 := ⟨by decide +kernel, rfl⟩
theorem d_X11_lawLine_105 : DC mi_X11_lawLine 105 (.iastore) 1 106 := ⟨by decide +kernel, rfl⟩
theorem d_X11_lawLine_106 : DC mi_X11_lawLine 106 (.aload_n 0) 1 107 := ⟨by decide +kernel, rfl⟩
theorem d_X11_lawLine_107 : DC mi_X11_lawLine 107 (.invokevirtual 267) 3 110 := ⟨by decide +kernel, rfl⟩
theorem d_X11_lawLine_110 : DC mi_X11_lawLine 110 (.aload_n 0) 1 111 := ⟨by decide +kernel, rfl⟩
theorem d_X11_lawLine_111 : DC mi_X11_lawLine 111 (.getfield 55) 3 114 := ⟨by decide +kernel, rfl⟩
theorem d_X11_lawLine_114 : DC mi_X11_lawLine 114 (.iconst 3) 1 115 := ⟨by decide +kernel, rfl⟩
theorem d_X11_lawLine_115 : DC mi_X11_lawLine 115 (.iload_n 1) 1 116 := ⟨by decide +kernel, rfl⟩
theorem d_X11_lawLine_116 : DC mi_X11_lawLine 116 (.iadd) 1 117 := ⟨by decide +kernel, rfl⟩
theorem d_X11_lawLine_117 : DC mi_X11_lawLine 117 (.aload_n 0) 1 118 := ⟨by decide +kernel, rfl⟩
theorem d_X11_lawLine_118 : DC mi_X11_lawLine 118 (.bipush 6) 2 120 := ⟨by decide +kernel, rfl⟩
theorem d_X11_lawLine_120 : DC mi_X11_lawLine 120 (.invokevirtual 218) 3 123 := ⟨by decide +kernel, rfl⟩
theorem d_X11_lawLine_123 : DC mi_X11_lawLine 123 (.iastore) 1 124 := ⟨by decide +kernel, rfl⟩
theorem d_X11_lawLine_124 : DC mi_X11_lawLine 124 (.return_) 1 125 := ⟨by decide +kernel, rfl⟩
set_option maxHeartbeats 4000000 in
set_option maxRecDepth 100000 in
theorem sp_X11_lawLine (d : Nat) (hd : 210 ≤ d) (h : HH) : Sp mi_X11_lawLine d iU [.ref 255] h (g_X11_lawLine h) := by
  refine sp_of (lc := [(0, .ref 255)]) (by decide) (Nat.le_of_ble_eq_true rfl) rfl ?_
  unfold g_X11_lawLine
  refine sx_aload_n d_X11_lawLine_0 0 rfl ?_
  refine sx_getI fl_StairCountModel_167 sh_255 rfl d_X11_lawLine_1 (fun v1 => ?_)
  refine sx_jn (fun j => ∀  (h : HH), Sx mi_X11_lawLine d iU (j  h) 30 [(0, .ref 255)] [] h) ?_ ?_
  · intro  h4
    refine sx_aload_n d_X11_lawLine_30 0 rfl ?_
    refine sx_getI fl_StairCountModel_177 sh_255 rfl d_X11_lawLine_31 (fun v5 => ?_)
    refine sx_bipush d_X11_lawLine_34 bc11 ?_
    refine sx_isub d_X11_lawLine_36 ?_
    refine sx_vlI (fun v6 => ?_)
    refine sx_istore_n (i := 1) (lc' := [(1, .int v6), (0, .ref 255)]) d_X11_lawLine_37 rfl (by decide) rfl ?_
    refine sx_aload_n d_X11_lawLine_38 1 rfl ?_
    refine sx_getI fl_StairCountModel_202 sh_255 rfl d_X11_lawLine_39 (fun v7 => ?_)
    refine sx_jn (fun j => ∀  (h : HH), Sx mi_X11_lawLine d iU (j  h) 65 [(0, .ref 255), (1, .int v6)] [] h) ?_ ?_
    · intro  h10
      refine sx_aload_n d_X11_lawLine_65 0 rfl ?_
      refine sx_getI fl_StairCountModel_202 sh_255 rfl d_X11_lawLine_66 (fun v11 => ?_)
      refine sx_if_eq d_X11_lawLine_69 ?_ ?_
      · refine sx_aload_n d_X11_lawLine_73 0 rfl ?_
        refine sx_dup d_X11_lawLine_74 rfl ?_
        refine sx_getI fl_StairCountModel_225 sh_255 rfl d_X11_lawLine_75 (fun v12 => ?_)
        refine sx_iconst d_X11_lawLine_78 ic1 ?_
        refine sx_bipush d_X11_lawLine_79 bc16 ?_
        refine sx_iload_n d_X11_lawLine_81 1 rfl ?_
        refine sx_iadd d_X11_lawLine_82 ?_
        refine sx_ishl d_X11_lawLine_83 ?_
        refine sx_ior d_X11_lawLine_84 ?_
        refine sx_putI fl_StairCountModel_225 sh_255 rfl hty_11_20 d_X11_lawLine_85 (fun h13 => ?_)
        refine sx_aload_n d_X11_lawLine_88 0 rfl ?_
        refine sx_callV [] mv_X11_token lM_StairCountModel_208 sh_255 (by omega) rfl rfl (Nat.le_of_ble_eq_true rfl) d_X11_lawLine_89 (sp_X11_token (d - 1) (by omega) h13) (fun _ h14 => ?_)
        refine sx_aload_n d_X11_lawLine_92 0 rfl ?_
        refine sx_getF (a' := 270) fl_StairCountModel_52 sh_255 rfl rfl d_X11_lawLine_93 ?_
        refine sx_iconst d_X11_lawLine_96 ic3 ?_
        refine sx_iload_n d_X11_lawLine_97 1 rfl ?_
        refine sx_iadd d_X11_lawLine_98 ?_
        refine sx_aload_n d_X11_lawLine_99 0 rfl ?_
        refine sx_bipush d_X11_lawLine_100 bc6 ?_
        refine sx_callV [.int (6 : Int32)] mv_X11_fresher lM_StairCountModel_218 sh_255 (by omega) rfl rfl (Nat.le_of_ble_eq_true rfl) d_X11_lawLine_102 (sp_X11_fresher (d - 1) (by omega) (6 : Int32) h14) (fun r17 h16 => ?_)
        refine sx_iast sh_270 d_X11_lawLine_105 (fun h18 => ?_)
        refine sx_aload_n d_X11_lawLine_106 0 rfl ?_
        refine sx_callV [] mv_X11_expression lM_StairCountModel_267 sh_255 (by omega) rfl rfl (Nat.le_of_ble_eq_true rfl) d_X11_lawLine_107 ((sp_rG 200 (d - 1) (by omega)).1 h18) (fun _ h19 => ?_)
        refine sx_aload_n d_X11_lawLine_110 0 rfl ?_
        refine sx_getF (a' := 271) fl_StairCountModel_55 sh_255 rfl rfl d_X11_lawLine_111 ?_
        refine sx_iconst d_X11_lawLine_114 ic3 ?_
        refine sx_iload_n d_X11_lawLine_115 1 rfl ?_
        refine sx_iadd d_X11_lawLine_116 ?_
        refine sx_aload_n d_X11_lawLine_117 0 rfl ?_
        refine sx_bipush d_X11_lawLine_118 bc6 ?_
        refine sx_callV [.int (6 : Int32)] mv_X11_fresher lM_StairCountModel_218 sh_255 (by omega) rfl rfl (Nat.le_of_ble_eq_true rfl) d_X11_lawLine_120 (sp_X11_fresher (d - 1) (by omega) (6 : Int32) h19) (fun r22 h21 => ?_)
        refine sx_iast sh_271 d_X11_lawLine_123 (fun h23 => ?_)
        exact sx_vret rfl d_X11_lawLine_124
      · exact sx_vret rfl d_X11_lawLine_72
    · intro j8 k9
      refine sx_if_ne d_X11_lawLine_42 ?_ ?_
      · refine sx_aload_n d_X11_lawLine_45 1 rfl ?_
        refine sx_getI fl_StairCountModel_225 sh_255 rfl d_X11_lawLine_46 (fun v24 => ?_)
        refine sx_bipush d_X11_lawLine_49 bc16 ?_
        refine sx_iload_n d_X11_lawLine_51 0 rfl ?_
        refine sx_iadd d_X11_lawLine_52 ?_
        refine sx_ishr d_X11_lawLine_53 ?_
        refine sx_iconst d_X11_lawLine_54 ic1 ?_
        refine sx_iand d_X11_lawLine_55 ?_
        refine sx_iconst d_X11_lawLine_56 ic1 ?_
        refine sx_icmp_ne d_X11_lawLine_57 ?_ ?_
        · refine sx_aload_n d_X11_lawLine_60 1 rfl ?_
          refine sx_iconst d_X11_lawLine_61 ic3 ?_
          refine sx_callV [.int (3 : Int32)] mv_X11_wrong lM_StairCountModel_211 sh_255 (by omega) rfl rfl (Nat.le_of_ble_eq_true rfl) d_X11_lawLine_62 (sp_X11_wrong (d - 1) (by omega) (3 : Int32) h4) (fun _ h25 => ?_)
          refine sx_lc (lc' := [(0, .ref 255), (1, .int v6)]) [1, 0] rfl ?_
          exact k9 h25
        · refine sx_lc (lc' := [(0, .ref 255), (1, .int v6)]) [1, 0] rfl ?_
          exact k9 h4
      · refine sx_lc (lc' := [(0, .ref 255), (1, .int v6)]) [1, 0] rfl ?_
        exact k9 h4
  · intro j2 k3
    refine sx_jn (fun j => ∀  (h : HH), Sx mi_X11_lawLine d iU (j  h) 25 [(0, .ref 255)] [] h) ?_ ?_
    · intro  h29
      refine sx_aload_n d_X11_lawLine_25 0 rfl ?_
      refine sx_iconst d_X11_lawLine_26 ic1 ?_
      refine sx_callV [.int (1 : Int32)] mv_X11_wrong lM_StairCountModel_211 sh_255 (by omega) rfl rfl (Nat.le_of_ble_eq_true rfl) d_X11_lawLine_27 (sp_X11_wrong (d - 1) (by omega) (1 : Int32) h29) (fun _ h30 => ?_)
      exact k3 h30
    · intro j27 k28
      refine sx_if_ne d_X11_lawLine_4 ?_ ?_
      · refine sx_aload_n d_X11_lawLine_7 0 rfl ?_
        refine sx_getI fl_StairCountModel_177 sh_255 rfl d_X11_lawLine_8 (fun v32 => ?_)
        refine sx_bipush d_X11_lawLine_11 bc11 ?_
        refine sx_icmp_lt d_X11_lawLine_13 ?_ ?_
        · exact k28 h
        · refine sx_aload_n d_X11_lawLine_16 0 rfl ?_
          refine sx_getI fl_StairCountModel_177 sh_255 rfl d_X11_lawLine_17 (fun v33 => ?_)
          refine sx_bipush d_X11_lawLine_20 bc13 ?_
          refine sx_icmp_le d_X11_lawLine_22 ?_ ?_
          · exact k28 h
          · exact k3 h
      · exact k28 h
theorem d_X11_personLine_0 : DC mi_X11_personLine 0 (.bipush 6) 2 2 := ⟨by decide +kernel, rfl⟩
theorem d_X11_personLine_2 : DC mi_X11_personLine 2 (.aload_n 0) 1 3 := ⟨by decide +kernel, rfl⟩
theorem d_X11_personLine_3 : DC mi_X11_personLine 3 (.iconst 1) 1 4 := ⟨by decide +kernel, rfl⟩
theorem d_X11_personLine_4 : DC mi_X11_personLine 4 (.invokevirtual 218) 3 7 := ⟨by decide +kernel, rfl⟩
theorem d_X11_personLine_7 : DC mi_X11_personLine 7 (.iadd) 1 8 := ⟨by decide +kernel, rfl⟩
theorem d_X11_personLine_8 : DC mi_X11_personLine 8 (.istore_n 1) 1 9 := ⟨by decide +kernel, rfl⟩
theorem d_X11_personLine_9 : DC mi_X11_personLine 9 (.aload_n 0) 1 10 := ⟨by decide +kernel, rfl⟩
theorem d_X11_personLine_10 : DC mi_X11_personLine 10 (.getfield 19) 3 13 := ⟨by decide +kernel, rfl⟩
theorem d_X11_personLine_13 : DC mi_X11_personLine 13 (.iload_n 1) 1 14 := ⟨by decide +kernel, rfl⟩
theorem d_X11_personLine_14 : DC mi_X11_personLine 14 (.aload_n 0) 1 15 := ⟨by decide +kernel, rfl⟩
theorem d_X11_personLine_15 : DC mi_X11_personLine 15 (.aload_n 0) 1 16 := ⟨by decide +kernel, rfl⟩
theorem d_X11_personLine_16 : DC mi_X11_personLine 16 (.getfield 19) 3 19 := ⟨by decide +kernel, rfl⟩
theorem d_X11_personLine_19 : DC mi_X11_personLine 19 (.bipush 6) 2 21 := ⟨by decide +kernel, rfl⟩
theorem d_X11_personLine_21 : DC mi_X11_personLine 21 (.aload_n 0) 1 22 := ⟨by decide +kernel, rfl⟩
theorem d_X11_personLine_22 : DC mi_X11_personLine 22 (.iconst 1) 1 23 := ⟨by decide +kernel, rfl⟩
theorem d_X11_personLine_23 : DC mi_X11_personLine 23 (.invokevirtual 218) 3 26 := ⟨by decide +kernel, rfl⟩
theorem d_X11_personLine_26 : DC mi_X11_personLine 26 (.invokevirtual 260) 3 29 := ⟨by decide +kernel, rfl⟩
theorem d_X11_personLine_29 : DC mi_X11_personLine 29 (.iastore) 1 30 := ⟨by decide +kernel, rfl⟩
theorem d_X11_personLine_30 : DC mi_X11_personLine 30 (.aload_n 0) 1 31 := ⟨by decide +kernel, rfl⟩
theorem d_X11_personLine_31 : DC mi_X11_personLine 31 (.getfield 22) 3 34 := ⟨by decide +kernel, rfl⟩
theorem d_X11_personLine_34 : DC mi_X11_personLine 34 (.iload_n 1) 1 35 := ⟨by decide +kernel, rfl⟩
theorem d_X11_personLine_35 : DC mi_X11_personLine 35 (.aload_n 0) 1 36 := ⟨by decide +kernel, rfl⟩
theorem d_X11_personLine_36 : DC mi_X11_personLine 36 (.iconst 0) 1 37 := ⟨by decide +kernel, rfl⟩
theorem d_X11_personLine_37 : DC mi_X11_personLine 37 (.aload_n 0) 1 38 := ⟨by decide +kernel, rfl⟩
theorem d_X11_personLine_38 : DC mi_X11_personLine 38 (.iconst 0) 1 39 := ⟨by decide +kernel, rfl⟩
theorem d_X11_personLine_39 : DC mi_X11_personLine 39 (.invokevirtual 218) 3 42 := ⟨by decide +kernel, rfl⟩
theorem d_X11_personLine_42 : DC mi_X11_personLine 42 (.invokevirtual 231) 3 45 := ⟨by decide +kernel, rfl⟩
theorem d_X11_personLine_45 : DC mi_X11_personLine 45 (.iastore) 1 46 := ⟨by decide +kernel, rfl⟩
theorem d_X11_personLine_46 : DC mi_X11_personLine 46 (.aload_n 0) 1 47 := ⟨by decide +kernel, rfl⟩
theorem d_X11_personLine_47 : DC mi_X11_personLine 47 (.getfield 25) 3 50 := ⟨by decide +kernel, rfl⟩
theorem d_X11_personLine_50 : DC mi_X11_personLine 50 (.iload_n 1) 1 51 := ⟨by decide +kernel, rfl⟩
theorem d_X11_personLine_51 : DC mi_X11_personLine 51 (.aload_n 0) 1 52 := ⟨by decide +kernel, rfl⟩
theorem d_X11_personLine_52 : DC mi_X11_personLine 52 (.iconst 0) 1 53 := ⟨by decide +kernel, rfl⟩
theorem d_X11_personLine_53 : DC mi_X11_personLine 53 (.bipush 99) 2 55 := ⟨by decide +kernel, rfl⟩
theorem d_X11_personLine_55 : DC mi_X11_personLine 55 (.invokevirtual 231) 3 58 := ⟨by decide +kernel, rfl⟩
theorem d_X11_personLine_58 : DC mi_X11_personLine 58 (.iastore) 1 59 := ⟨by decide +kernel, rfl⟩
theorem d_X11_personLine_59 : DC mi_X11_personLine 59 (.iconst 0) 1 60 := ⟨by decide +kernel, rfl⟩
theorem d_X11_personLine_60 : DC mi_X11_personLine 60 (.istore_n 2) 1 61 := ⟨by decide +kernel, rfl⟩
theorem d_X11_personLine_61 : DC mi_X11_personLine 61 (.iload_n 2) 1 62 := ⟨by decide +kernel, rfl⟩
theorem d_X11_personLine_62 : DC mi_X11_personLine 62 (.bipush 6) 2 64 := ⟨by decide +kernel, rfl⟩
theorem d_X11_personLine_64 : DB mi_X11_personLine 64 (.if_icmp .ge 21) 21 67 85 := ⟨by decide +kernel, rfl, by decide⟩
theorem d_X11_personLine_67 : DC mi_X11_personLine 67 (.aload_n 0) 1 68 := ⟨by decide +kernel, rfl⟩
theorem d_X11_personLine_68 : DC mi_X11_personLine 68 (.getfield 28) 3 71 := ⟨by decide +kernel, rfl⟩
theorem d_X11_personLine_71 : DC mi_X11_personLine 71 (.bipush 6) 2 73 := ⟨by decide +kernel, rfl⟩
theorem d_X11_personLine_73 : DC mi_X11_personLine 73 (.iload_n 1) 1 74 := ⟨by decide +kernel, rfl⟩
theorem d_X11_personLine_74 : DC mi_X11_personLine 74 (.imul) 1 75 := ⟨by decide +kernel, rfl⟩
theorem d_X11_personLine_75 : DC mi_X11_personLine 75 (.iload_n 2) 1 76 := ⟨by decide +kernel, rfl⟩
theorem d_X11_personLine_76 : DC mi_X11_personLine 76 (.iadd) 1 77 := ⟨by decide +kernel, rfl⟩
theorem d_X11_personLine_77 : DC mi_X11_personLine 77 (.iconst 0) 1 78 := ⟨by decide +kernel, rfl⟩
theorem d_X11_personLine_78 : DC mi_X11_personLine 78 (.iastore) 1 79 := ⟨by decide +kernel, rfl⟩
theorem d_X11_personLine_79 : DC mi_X11_personLine 79 (.iinc 2 1) 3 82 := ⟨by decide +kernel, rfl⟩
theorem d_X11_personLine_82 : DB mi_X11_personLine 82 (.goto (-21)) (-21) 85 61 := ⟨by decide +kernel, rfl, by decide⟩
theorem d_X11_personLine_85 : DC mi_X11_personLine 85 (.aload_n 0) 1 86 := ⟨by decide +kernel, rfl⟩
theorem d_X11_personLine_86 : DC mi_X11_personLine 86 (.iconst 1) 1 87 := ⟨by decide +kernel, rfl⟩
theorem d_X11_personLine_87 : DC mi_X11_personLine 87 (.aload_n 0) 1 88 := ⟨by decide +kernel, rfl⟩
theorem d_X11_personLine_88 : DC mi_X11_personLine 88 (.iconst 1) 1 89 := ⟨by decide +kernel, rfl⟩
theorem d_X11_personLine_89 : DC mi_X11_personLine 89 (.invokevirtual 218) 3 92 := ⟨by decide +kernel, rfl⟩
theorem d_X11_personLine_92 : DC mi_X11_personLine 92 (.iconst 1) 1 93 := ⟨by decide +kernel, rfl⟩
theorem d_X11_personLine_93 : DC mi_X11_personLine 93 (.iadd) 1 94 := ⟨by decide +kernel, rfl⟩
theorem d_X11_personLine_94 : DC mi_X11_personLine 94 (.invokevirtual 235) 3 97 := ⟨by decide +kernel, rfl⟩
theorem d_X11_personLine_97 : DC mi_X11_personLine 97 (.return_) 1 98 := ⟨by decide +kernel, rfl⟩
set_option maxHeartbeats 4000000 in
set_option maxRecDepth 100000 in
theorem sL_X11_personLine_61 (d : Nat) (hd : 9 ≤ d) (K85 : HH → Option (Unit × HH)) (c1 : Int32) (hK85 : ∀ (h : HH), Sx mi_X11_personLine d iU (K85 h) 85 [(0, .ref 255)] [] h) : ∀ (n : Nat) (x2 : Int32) (h : HH), Sx mi_X11_personLine d iU (g_X11_personLine_L61 K85 c1 n x2 h) 61 [(0, .ref 255), (1, .int c1), (2, .int x2)] [] h := by
  intro n
  induction n with
  | zero => intro x2 h; exact sx_none
  | succ n ih =>
    intro x2 h
    rw [g_X11_personLine_L61]
    refine sx_iload_n d_X11_personLine_61 2 rfl ?_
    refine sx_bipush d_X11_personLine_62 bc6 ?_
    refine sx_icmp_ge d_X11_personLine_64 ?_ ?_
    · refine sx_aload_n d_X11_personLine_67 0 rfl ?_
      refine sx_getF (a' := 262) fl_StairCountModel_28 sh_255 rfl rfl d_X11_personLine_68 ?_
      refine sx_bipush d_X11_personLine_71 bc6 ?_
      refine sx_iload_n d_X11_personLine_73 1 rfl ?_
      refine sx_imul d_X11_personLine_74 ?_
      refine sx_iload_n d_X11_personLine_75 2 rfl ?_
      refine sx_iadd d_X11_personLine_76 ?_
      refine sx_iconst d_X11_personLine_77 ic0 ?_
      refine sx_iast sh_262 d_X11_personLine_78 (fun h17 => ?_)
      refine sx_iincV (lc' := fun v18 => [(2, .int v18), (0, .ref 255), (1, .int c1)]) (k0 := 2) d_X11_personLine_79 rfl ii1 (by decide) (fun _ => rfl) (fun v18 => ?_)
      refine sx_goto d_X11_personLine_82 ?_
      refine sx_lc (lc' := [(0, .ref 255), (1, .int c1), (2, .int v18)]) [1, 2, 0] rfl ?_
      exact ih v18 h17
    · refine sx_lc (lc' := [(0, .ref 255)]) [0] rfl ?_
      exact hK85 h
set_option maxHeartbeats 4000000 in
set_option maxRecDepth 100000 in
theorem sp_X11_personLine (d : Nat) (hd : 9 ≤ d) (h : HH) : Sp mi_X11_personLine d iU [.ref 255] h (g_X11_personLine h) := by
  refine sp_of (lc := [(0, .ref 255)]) (by decide) (Nat.le_of_ble_eq_true rfl) rfl ?_
  unfold g_X11_personLine
  refine sx_bipush d_X11_personLine_0 bc6 ?_
  refine sx_aload_n d_X11_personLine_2 0 rfl ?_
  refine sx_iconst d_X11_personLine_3 ic1 ?_
  refine sx_callV [.int (1 : Int32)] mv_X11_fresher lM_StairCountModel_218 sh_255 (by omega) rfl rfl (Nat.le_of_ble_eq_true rfl) d_X11_personLine_4 (sp_X11_fresher (d - 1) (by omega) (1 : Int32) h) (fun r2 h1 => ?_)
  refine sx_iadd d_X11_personLine_7 ?_
  refine sx_vlI (fun v3 => ?_)
  refine sx_istore_n (i := 1) (lc' := [(1, .int v3), (0, .ref 255)]) d_X11_personLine_8 rfl (by decide) rfl ?_
  refine sx_aload_n d_X11_personLine_9 1 rfl ?_
  refine sx_getF (a' := 259) fl_StairCountModel_19 sh_255 rfl rfl d_X11_personLine_10 ?_
  refine sx_iload_n d_X11_personLine_13 0 rfl ?_
  refine sx_aload_n d_X11_personLine_14 1 rfl ?_
  refine sx_aload_n d_X11_personLine_15 1 rfl ?_
  refine sx_getF (a' := 259) fl_StairCountModel_19 sh_255 rfl rfl d_X11_personLine_16 ?_
  refine sx_bipush d_X11_personLine_19 bc6 ?_
  refine sx_aload_n d_X11_personLine_21 1 rfl ?_
  refine sx_iconst d_X11_personLine_22 ic1 ?_
  refine sx_callV [.int (1 : Int32)] mv_X11_fresher lM_StairCountModel_218 sh_255 (by omega) rfl rfl (Nat.le_of_ble_eq_true rfl) d_X11_personLine_23 (sp_X11_fresher (d - 1) (by omega) (1 : Int32) h1) (fun r5 h4 => ?_)
  refine sx_callV [.ref 259, .int (6 : Int32), .int r5] mv_X11_fresh lM_StairCountModel_260 sh_255 (by omega) rfl rfl (Nat.le_of_ble_eq_true rfl) d_X11_personLine_26 (sp_X11_fresh (d - 1) (by omega) (6 : Int32) r5 h4) (fun r7 h6 => ?_)
  refine sx_iast sh_259 d_X11_personLine_29 (fun h8 => ?_)
  refine sx_aload_n d_X11_personLine_30 1 rfl ?_
  refine sx_getF (a' := 260) fl_StairCountModel_22 sh_255 rfl rfl d_X11_personLine_31 ?_
  refine sx_iload_n d_X11_personLine_34 0 rfl ?_
  refine sx_aload_n d_X11_personLine_35 1 rfl ?_
  refine sx_iconst d_X11_personLine_36 ic0 ?_
  refine sx_aload_n d_X11_personLine_37 1 rfl ?_
  refine sx_iconst d_X11_personLine_38 ic0 ?_
  refine sx_callV [.int (0 : Int32)] mv_X11_fresher lM_StairCountModel_218 sh_255 (by omega) rfl rfl (Nat.le_of_ble_eq_true rfl) d_X11_personLine_39 (sp_X11_fresher (d - 1) (by omega) (0 : Int32) h8) (fun r10 h9 => ?_)
  refine sx_callV [.int (0 : Int32), .int r10] mv_X11_numeral lM_StairCountModel_231 sh_255 (by omega) rfl rfl (Nat.le_of_ble_eq_true rfl) d_X11_personLine_42 (sp_X11_numeral (d - 1) (by omega) (0 : Int32) r10 h9) (fun r12 h11 => ?_)
  refine sx_iast sh_260 d_X11_personLine_45 (fun h13 => ?_)
  refine sx_aload_n d_X11_personLine_46 1 rfl ?_
  refine sx_getF (a' := 261) fl_StairCountModel_25 sh_255 rfl rfl d_X11_personLine_47 ?_
  refine sx_iload_n d_X11_personLine_50 0 rfl ?_
  refine sx_aload_n d_X11_personLine_51 1 rfl ?_
  refine sx_iconst d_X11_personLine_52 ic0 ?_
  refine sx_bipush d_X11_personLine_53 bc99 ?_
  refine sx_callV [.int (0 : Int32), .int (99 : Int32)] mv_X11_numeral lM_StairCountModel_231 sh_255 (by omega) rfl rfl (Nat.le_of_ble_eq_true rfl) d_X11_personLine_55 (sp_X11_numeral (d - 1) (by omega) (0 : Int32) (99 : Int32) h13) (fun r15 h14 => ?_)
  refine sx_iast sh_261 d_X11_personLine_58 (fun h16 => ?_)
  refine sx_iconst d_X11_personLine_59 ic0 ?_
  refine sx_istore_n (i := 2) (lc' := [(2, .int (0 : Int32)), (1, .int v3), (0, .ref 255)]) d_X11_personLine_60 rfl (by decide) rfl ?_
  refine sx_lc (lc' := [(0, .ref 255), (1, .int v3), (2, .int (0 : Int32))]) [2, 1, 0] rfl ?_
  refine sL_X11_personLine_61 d hd _ v3 ?_ 1024 (0 : Int32) h16
  · intro h19
    refine sx_aload_n d_X11_personLine_85 0 rfl ?_
    refine sx_iconst d_X11_personLine_86 ic1 ?_
    refine sx_aload_n d_X11_personLine_87 0 rfl ?_
    refine sx_iconst d_X11_personLine_88 ic1 ?_
    refine sx_callV [.int (1 : Int32)] mv_X11_fresher lM_StairCountModel_218 sh_255 (by omega) rfl rfl (Nat.le_of_ble_eq_true rfl) d_X11_personLine_89 (sp_X11_fresher (d - 1) (by omega) (1 : Int32) h19) (fun r21 h20 => ?_)
    refine sx_iconst d_X11_personLine_92 ic1 ?_
    refine sx_iadd d_X11_personLine_93 ?_
    refine sx_callV [.int (1 : Int32), .int (r21 + (1 : Int32))] mv_X11_reads lM_StairCountModel_235 sh_255 (by omega) rfl rfl (Nat.le_of_ble_eq_true rfl) d_X11_personLine_94 (sp_X11_reads (d - 1) (by omega) (1 : Int32) (r21 + (1 : Int32)) h20) (fun _ h22 => ?_)
    exact sx_vret rfl d_X11_personLine_97
theorem d_X11_tallyLine_0 : DC mi_X11_tallyLine 0 (.bipush 6) 2 2 := ⟨by decide +kernel, rfl⟩
theorem d_X11_tallyLine_2 : DC mi_X11_tallyLine 2 (.aload_n 0) 1 3 := ⟨by decide +kernel, rfl⟩
theorem d_X11_tallyLine_3 : DC mi_X11_tallyLine 3 (.invokevirtual 264) 3 6 := ⟨by decide +kernel, rfl⟩
theorem d_X11_tallyLine_6 : DC mi_X11_tallyLine 6 (.iadd) 1 7 := ⟨by decide +kernel, rfl⟩
theorem d_X11_tallyLine_7 : DC mi_X11_tallyLine 7 (.istore_n 2) 1 8 := ⟨by decide +kernel, rfl⟩
theorem d_X11_tallyLine_8 : DC mi_X11_tallyLine 8 (.aload_n 0) 1 9 := ⟨by decide +kernel, rfl⟩
theorem d_X11_tallyLine_9 : DC mi_X11_tallyLine 9 (.getfield 202) 3 12 := ⟨by decide +kernel, rfl⟩
theorem d_X11_tallyLine_12 : DB mi_X11_tallyLine 12 (.ifCond .ne 45) 45 15 57 := ⟨by decide +kernel, rfl, by decide⟩
theorem d_X11_tallyLine_15 : DC mi_X11_tallyLine 15 (.aload_n 0) 1 16 := ⟨by decide +kernel, rfl⟩
theorem d_X11_tallyLine_16 : DC mi_X11_tallyLine 16 (.getfield 167) 3 19 := ⟨by decide +kernel, rfl⟩
theorem d_X11_tallyLine_19 : DC mi_X11_tallyLine 19 (.iconst 2) 1 20 := ⟨by decide +kernel, rfl⟩
theorem d_X11_tallyLine_20 : DB mi_X11_tallyLine 20 (.if_icmp .ne 37) 37 23 57 := ⟨by decide +kernel, rfl, by decide⟩
theorem d_X11_tallyLine_23 : DC mi_X11_tallyLine 23 (.aload_n 0) 1 24 := ⟨by decide +kernel, rfl⟩
theorem d_X11_tallyLine_24 : DC mi_X11_tallyLine 24 (.getfield 177) 3 27 := ⟨by decide +kernel, rfl⟩
theorem d_X11_tallyLine_27 : DC mi_X11_tallyLine 27 (.aload_n 0) 1 28 := ⟨by decide +kernel, rfl⟩
theorem d_X11_tallyLine_28 : DC mi_X11_tallyLine 28 (.iconst 0) 1 29 := ⟨by decide +kernel, rfl⟩
theorem d_X11_tallyLine_29 : DC mi_X11_tallyLine 29 (.invokevirtual 218) 3 32 := ⟨by decide +kernel, rfl⟩
theorem d_X11_tallyLine_32 : DB mi_X11_tallyLine 32 (.if_icmp .ge 25) 25 35 57 := ⟨by decide +kernel, rfl, by decide⟩
theorem d_X11_tallyLine_35 : DC mi_X11_tallyLine 35 (.aload_n 0) 1 36 := ⟨by decide +kernel, rfl⟩
theorem d_X11_tallyLine_36 : DC mi_X11_tallyLine 36 (.getfield 28) 3 39 := ⟨by decide +kernel, rfl⟩
theorem d_X11_tallyLine_39 : DC mi_X11_tallyLine 39 (.bipush 6) 2 41 := ⟨by decide +kernel, rfl⟩
theorem d_X11_tallyLine_41 : DC mi_X11_tallyLine 41 (.iload_n 2) 1 42 := ⟨by decide +kernel, rfl⟩
theorem d_X11_tallyLine_42 : DC mi_X11_tallyLine 42 (.imul) 1 43 := ⟨by decide +kernel, rfl⟩
theorem d_X11_tallyLine_43 : DC mi_X11_tallyLine 43 (.aload_n 0) 1 44 := ⟨by decide +kernel, rfl⟩
theorem d_X11_tallyLine_44 : DC mi_X11_tallyLine 44 (.getfield 177) 3 47 := ⟨by decide +kernel, rfl⟩
theorem d_X11_tallyLine_47 : DC mi_X11_tallyLine 47 (.iadd) 1 48 := ⟨by decide +kernel, rfl⟩
theorem d_X11_tallyLine_48 : DC mi_X11_tallyLine 48 (.iaload) 1 49 := ⟨by decide +kernel, rfl⟩
theorem d_X11_tallyLine_49 : DB mi_X11_tallyLine 49 (.ifCond .eq 8) 8 52 57 := ⟨by decide +kernel, rfl, by decide⟩
theorem d_X11_tallyLine_52 : DC mi_X11_tallyLine 52 (.aload_n 0) 1 53 := ⟨by decide +kernel, rfl⟩
theorem d_X11_tallyLine_53 : DC mi_X11_tallyLine 53 (.iconst 3) 1 54 := ⟨by decide +kernel, rfl⟩
theorem d_X11_tallyLine_54 : DC mi_X11_tallyLine 54 (.invokevirtual 211) 3 57 := ⟨by decide +kernel, rfl⟩
theorem d_X11_tallyLine_57 : DC mi_X11_tallyLine 57 (.aload_n 0) 1 58 := ⟨by decide +kernel, rfl⟩
theorem d_X11_tallyLine_58 : DC mi_X11_tallyLine 58 (.iconst 0) 1 59 := ⟨by decide +kernel, rfl⟩
theorem d_X11_tallyLine_59 : DC mi_X11_tallyLine 59 (.aload_n 0) 1 60 := ⟨by decide +kernel, rfl⟩
theorem d_X11_tallyLine_60 : DC mi_X11_tallyLine 60 (.iconst 0) 1 61 := ⟨by decide +kernel, rfl⟩
theorem d_X11_tallyLine_61 : DC mi_X11_tallyLine 61 (.invokevirtual 218) 3 64 := ⟨by decide +kernel, rfl⟩
theorem d_X11_tallyLine_64 : DC mi_X11_tallyLine 64 (.iconst 1) 1 65 := ⟨by decide +kernel, rfl⟩
theorem d_X11_tallyLine_65 : DC mi_X11_tallyLine 65 (.isub) 1 66 := ⟨by decide +kernel, rfl⟩
theorem d_X11_tallyLine_66 : DC mi_X11_tallyLine 66 (.invokevirtual 231) 3 69 := ⟨by decide +kernel, rfl⟩
theorem d_X11_tallyLine_69 : DC mi_X11_tallyLine 69 (.istore_n 3) 1 70 := ⟨by decide +kernel, rfl⟩
theorem d_X11_tallyLine_70 : DC mi_X11_tallyLine 70 (.aload_n 0) 1 71 := ⟨by decide +kernel, rfl⟩
theorem d_X11_tallyLine_71 : DC mi_X11_tallyLine 71 (.iconst 1) 1 72 := ⟨by decide +kernel, rfl⟩
theorem d_X11_tallyLine_72 : DC mi_X11_tallyLine 72 (.bipush 9) 2 74 := ⟨by decide +kernel, rfl⟩
theorem d_X11_tallyLine_74 : DC mi_X11_tallyLine 74 (.invokevirtual 231) 3 77 := ⟨by decide +kernel, rfl⟩
theorem d_X11_tallyLine_77 : DC mi_X11_tallyLine 77 (.istore 4) 2 79 := ⟨by decide +kernel, rfl⟩
theorem d_X11_tallyLine_79 : DC mi_X11_tallyLine 79 (.aload_n 0) 1 80 := ⟨by decide +kernel, rfl⟩
theorem d_X11_tallyLine_80 : DC mi_X11_tallyLine 80 (.getfield 202) 3 83 := ⟨by decide +kernel, rfl⟩
theorem d_X11_tallyLine_83 : DB mi_X11_tallyLine 83 (.ifCond .ne 18) 18 86 101 := ⟨by decide +kernel, rfl, by decide⟩
theorem d_X11_tallyLine_86 : DC mi_X11_tallyLine 86 (.aload_n 0) 1 87 := ⟨by decide +kernel, rfl⟩
theorem d_X11_tallyLine_87 : DC mi_X11_tallyLine 87 (.getfield 28) 3 90 := ⟨by decide +kernel, rfl⟩
theorem d_X11_tallyLine_90 : DC mi_X11_tallyLine 90 (.bipush 6) 2 92 := ⟨by decide +kernel, rfl⟩
theorem d_X11_tallyLine_92 : DC mi_X11_tallyLine 92 (.iload_n 2) 1 93 := ⟨by decide +kernel, rfl⟩
theorem d_X11_tallyLine_93 : DC mi_X11_tallyLine 93 (.imul) 1 94 := ⟨by decide +kernel, rfl⟩
theorem d_X11_tallyLine_94 : DC mi_X11_tallyLine 94 (.iload_n 3) 1 95 := ⟨by decide +kernel, rfl⟩
theorem d_X11_tallyLine_95 : DC mi_X11_tallyLine 95 (.iadd) 1 96 := ⟨by decide +kernel, rfl⟩
theorem d_X11_tallyLine_96 : DC mi_X11_tallyLine 96 (.iload_n 1) 1 97 := ⟨by decide +kernel, rfl⟩
theorem d_X11_tallyLine_97 : DC mi_X11_tallyLine 97 (.iload 4) 2 99 := ⟨by decide +kernel, rfl⟩
theorem d_X11_tallyLine_99 : DC mi_X11_tallyLine 99 (.imul) 1 100 := ⟨by decide +kernel, rfl⟩
theorem d_X11_tallyLine_100 : DC mi_X11_tallyLine 100 (.iastore) 1 101 := ⟨by decide +kernel, rfl⟩
theorem d_X11_tallyLine_101 : DC mi_X11_tallyLine 101 (.return_) 1 102 := ⟨by decide +kernel, rfl⟩
set_option maxHeartbeats 4000000 in
set_option maxRecDepth 100000 in
theorem sp_X11_tallyLine (d : Nat) (hd : 10 ≤ d) (a0 : Int32) (h : HH) : Sp mi_X11_tallyLine d iU [.ref 255, .int a0] h (g_X11_tallyLine a0 h) := by
  refine sp_of (lc := [(0, .ref 255), (1, .int a0)]) (by decide) (Nat.le_of_ble_eq_true rfl) rfl ?_
  unfold g_X11_tallyLine
  refine sx_bipush d_X11_tallyLine_0 bc6 ?_
  refine sx_aload_n d_X11_tallyLine_2 0 rfl ?_
  refine sx_callV [] mv_X11_personAhead lM_StairCountModel_264 sh_255 (by omega) rfl rfl (Nat.le_of_ble_eq_true rfl) d_X11_tallyLine_3 (sp_X11_personAhead (d - 1) (by omega) h) (fun r2 h1 => ?_)
  refine sx_iadd d_X11_tallyLine_6 ?_
  refine sx_vlI (fun v3 => ?_)
  refine sx_istore_n (i := 2) (lc' := [(2, .int v3), (0, .ref 255), (1, .int a0)]) d_X11_tallyLine_7 rfl (by decide) rfl ?_
  refine sx_aload_n d_X11_tallyLine_8 1 rfl ?_
  refine sx_getI fl_StairCountModel_202 sh_255 rfl d_X11_tallyLine_9 (fun v4 => ?_)
  refine sx_jn (fun j => ∀  (h : HH), Sx mi_X11_tallyLine d iU (j  h) 57 [(0, .ref 255), (1, .int a0), (2, .int v3)] [] h) ?_ ?_
  · intro  h7
    refine sx_aload_n d_X11_tallyLine_57 0 rfl ?_
    refine sx_iconst d_X11_tallyLine_58 ic0 ?_
    refine sx_aload_n d_X11_tallyLine_59 0 rfl ?_
    refine sx_iconst d_X11_tallyLine_60 ic0 ?_
    refine sx_callV [.int (0 : Int32)] mv_X11_fresher lM_StairCountModel_218 sh_255 (by omega) rfl rfl (Nat.le_of_ble_eq_true rfl) d_X11_tallyLine_61 (sp_X11_fresher (d - 1) (by omega) (0 : Int32) h7) (fun r9 h8 => ?_)
    refine sx_iconst d_X11_tallyLine_64 ic1 ?_
    refine sx_isub d_X11_tallyLine_65 ?_
    refine sx_callV [.int (0 : Int32), .int (r9 - (1 : Int32))] mv_X11_numeral lM_StairCountModel_231 sh_255 (by omega) rfl rfl (Nat.le_of_ble_eq_true rfl) d_X11_tallyLine_66 (sp_X11_numeral (d - 1) (by omega) (0 : Int32) (r9 - (1 : Int32)) h8) (fun r11 h10 => ?_)
    refine sx_istore_n (i := 3) (lc' := [(3, .int r11), (0, .ref 255), (1, .int a0), (2, .int v3)]) d_X11_tallyLine_69 rfl (by decide) rfl ?_
    refine sx_aload_n d_X11_tallyLine_70 1 rfl ?_
    refine sx_iconst d_X11_tallyLine_71 ic1 ?_
    refine sx_bipush d_X11_tallyLine_72 bc9 ?_
    refine sx_callV [.int (1 : Int32), .int (9 : Int32)] mv_X11_numeral lM_StairCountModel_231 sh_255 (by omega) rfl rfl (Nat.le_of_ble_eq_true rfl) d_X11_tallyLine_74 (sp_X11_numeral (d - 1) (by omega) (1 : Int32) (9 : Int32) h10) (fun r13 h12 => ?_)
    refine sx_istore (i := 4) (lc' := [(4, .int r13), (3, .int r11), (0, .ref 255), (1, .int a0), (2, .int v3)]) d_X11_tallyLine_77 (by decide) rfl ?_
    refine sx_aload_n d_X11_tallyLine_79 2 rfl ?_
    refine sx_getI fl_StairCountModel_202 sh_255 rfl d_X11_tallyLine_80 (fun v14 => ?_)
    refine sx_if_ne d_X11_tallyLine_83 ?_ ?_
    · refine sx_aload_n d_X11_tallyLine_86 2 rfl ?_
      refine sx_getF (a' := 262) fl_StairCountModel_28 sh_255 rfl rfl d_X11_tallyLine_87 ?_
      refine sx_bipush d_X11_tallyLine_90 bc6 ?_
      refine sx_iload_n d_X11_tallyLine_92 4 rfl ?_
      refine sx_imul d_X11_tallyLine_93 ?_
      refine sx_iload_n d_X11_tallyLine_94 1 rfl ?_
      refine sx_iadd d_X11_tallyLine_95 ?_
      refine sx_iload_n d_X11_tallyLine_96 3 rfl ?_
      refine sx_iload d_X11_tallyLine_97 0 rfl ?_
      refine sx_imul d_X11_tallyLine_99 ?_
      refine sx_iast sh_262 d_X11_tallyLine_100 (fun h15 => ?_)
      exact sx_vret rfl d_X11_tallyLine_101
    · exact sx_vret rfl d_X11_tallyLine_101
  · intro j5 k6
    refine sx_if_ne d_X11_tallyLine_12 ?_ ?_
    · refine sx_aload_n d_X11_tallyLine_15 1 rfl ?_
      refine sx_getI fl_StairCountModel_167 sh_255 rfl d_X11_tallyLine_16 (fun v16 => ?_)
      refine sx_iconst d_X11_tallyLine_19 ic2 ?_
      refine sx_icmp_ne d_X11_tallyLine_20 ?_ ?_
      · refine sx_aload_n d_X11_tallyLine_23 1 rfl ?_
        refine sx_getI fl_StairCountModel_177 sh_255 rfl d_X11_tallyLine_24 (fun v17 => ?_)
        refine sx_aload_n d_X11_tallyLine_27 1 rfl ?_
        refine sx_iconst d_X11_tallyLine_28 ic0 ?_
        refine sx_callV [.int (0 : Int32)] mv_X11_fresher lM_StairCountModel_218 sh_255 (by omega) rfl rfl (Nat.le_of_ble_eq_true rfl) d_X11_tallyLine_29 (sp_X11_fresher (d - 1) (by omega) (0 : Int32) h1) (fun r19 h18 => ?_)
        refine sx_icmp_ge d_X11_tallyLine_32 ?_ ?_
        · refine sx_aload_n d_X11_tallyLine_35 1 rfl ?_
          refine sx_getF (a' := 262) fl_StairCountModel_28 sh_255 rfl rfl d_X11_tallyLine_36 ?_
          refine sx_bipush d_X11_tallyLine_39 bc6 ?_
          refine sx_iload_n d_X11_tallyLine_41 0 rfl ?_
          refine sx_imul d_X11_tallyLine_42 ?_
          refine sx_aload_n d_X11_tallyLine_43 1 rfl ?_
          refine sx_getI fl_StairCountModel_177 sh_255 rfl d_X11_tallyLine_44 (fun v20 => ?_)
          refine sx_iadd d_X11_tallyLine_47 ?_
          refine sx_iald sh_262 d_X11_tallyLine_48 (fun v21 => ?_)
          refine sx_if_eq d_X11_tallyLine_49 ?_ ?_
          · refine sx_lc (lc' := [(0, .ref 255), (1, .int a0), (2, .int v3)]) [1, 2, 0] rfl ?_
            exact k6 h18
          · refine sx_aload_n d_X11_tallyLine_52 1 rfl ?_
            refine sx_iconst d_X11_tallyLine_53 ic3 ?_
            refine sx_callV [.int (3 : Int32)] mv_X11_wrong lM_StairCountModel_211 sh_255 (by omega) rfl rfl (Nat.le_of_ble_eq_true rfl) d_X11_tallyLine_54 (sp_X11_wrong (d - 1) (by omega) (3 : Int32) h18) (fun _ h22 => ?_)
            refine sx_lc (lc' := [(0, .ref 255), (1, .int a0), (2, .int v3)]) [1, 2, 0] rfl ?_
            exact k6 h22
        · refine sx_lc (lc' := [(0, .ref 255), (1, .int a0), (2, .int v3)]) [1, 2, 0] rfl ?_
          exact k6 h18
      · refine sx_lc (lc' := [(0, .ref 255), (1, .int a0), (2, .int v3)]) [1, 2, 0] rfl ?_
        exact k6 h1
    · refine sx_lc (lc' := [(0, .ref 255), (1, .int a0), (2, .int v3)]) [1, 2, 0] rfl ?_
      exact k6 h1
theorem d_X11_line_0 : DC mi_X11_line 0 (.aload_n 0) 1 1 := ⟨by decide +kernel, rfl⟩
theorem d_X11_line_1 : DC mi_X11_line 1 (.getfield 167) 3 4 := ⟨by decide +kernel, rfl⟩
theorem d_X11_line_4 : DB mi_X11_line 4 (.ifCond .ne 30) 30 7 34 := ⟨by decide +kernel, rfl, by decide⟩
theorem d_X11_line_7 : DC mi_X11_line 7 (.aload_n 0) 1 8 := ⟨by decide +kernel, rfl⟩
theorem d_X11_line_8 : DC mi_X11_line 8 (.getfield 177) 3 11 := ⟨by decide +kernel, rfl⟩
theorem d_X11_line_11 : DC mi_X11_line 11 (.bipush 10) 2 13 := ⟨by decide +kernel, rfl⟩
theorem d_X11_line_13 : DB mi_X11_line 13 (.if_icmp .gt 21) 21 16 34 := ⟨by decide +kernel, rfl, by decide⟩
theorem d_X11_line_16 : DC mi_X11_line 16 (.aload_n 0) 1 17 := ⟨by decide +kernel, rfl⟩
theorem d_X11_line_17 : DC mi_X11_line 17 (.getfield 177) 3 20 := ⟨by decide +kernel, rfl⟩
theorem d_X11_line_20 : DB mi_X11_line 20 (.ifCond .ne 20) 20 23 40 := ⟨by decide +kernel, rfl, by decide⟩
theorem d_X11_line_23 : DC mi_X11_line 23 (.aload_n 0) 1 24 := ⟨by decide +kernel, rfl⟩
theorem d_X11_line_24 : DC mi_X11_line 24 (.getfield 225) 3 27 := ⟨by decide +kernel, rfl⟩
theorem d_X11_line_27 : DC mi_X11_line 27 (.sipush 254) 3 30 := ⟨by decide +kernel, rfl⟩
theorem d_X11_line_30 : DC mi_X11_line 30 (.iand) 1 31 := ⟨by decide +kernel, rfl⟩
theorem d_X11_line_31 : DB mi_X11_line 31 (.ifCond .eq 9) 9 34 40 := ⟨by decide +kernel, rfl, by decide⟩
theorem d_X11_line_34 : DC mi_X11_line 34 (.aload_n 0) 1 35 := ⟨by decide +kernel, rfl⟩
theorem d_X11_line_35 : DC mi_X11_line 35 (.iconst 1) 1 36 := ⟨by decide +kernel, rfl⟩
theorem d_X11_line_36 : DC mi_X11_line 36 (.invokevirtual 211) 3 39 := ⟨by decide +kernel, rfl⟩
theorem d_X11_line_39 : DC mi_X11_line 39 (.return_) 1 40 := ⟨by decide +kernel, rfl⟩
theorem d_X11_line_40 : DC mi_X11_line 40 (.aload_n 0) 1 41 := ⟨by decide +kernel, rfl⟩
theorem d_X11_line_41 : DC mi_X11_line 41 (.getfield 177) 3 44 := ⟨by decide +kernel, rfl⟩
theorem d_X11_line_44 : DC mi_X11_line 44 (.istore_n 1) 1 45 := ⟨by decide +kernel, rfl⟩
theorem d_X11_line_45 : DC mi_X11_line 45 (.aload_n 0) 1 46 := ⟨by decide +kernel, rfl⟩
theorem d_X11_line_46 : DC mi_X11_line 46 (.iload_n 1) 1 47 := ⟨by decide +kernel, rfl⟩
theorem d_X11_line_47 : DC mi_X11_line 47 (.invokevirtual 228) 3 50 := ⟨by decide +kernel, rfl⟩
theorem d_X11_line_50 : DB mi_X11_line 50 (.ifCond .eq 11) 11 53 61 := ⟨by decide +kernel, rfl, by decide⟩
theorem d_X11_line_53 : DC mi_X11_line 53 (.aload_n 0) 1 54 := ⟨by decide +kernel, rfl⟩
theorem d_X11_line_54 : DC mi_X11_line 54 (.iconst 2) 1 55 := ⟨by decide +kernel, rfl⟩
theorem d_X11_line_55 : DC mi_X11_line 55 (.invokevirtual 211) 3 58 := ⟨by decide +kernel, rfl⟩
theorem d_X11_line_58 : DB mi_X11_line 58 (.goto 32) 32 61 90 := ⟨by decide +kernel, rfl, by decide⟩
theorem d_X11_line_61 : DC mi_X11_line 61 (.iload_n 1) 1 62 := ⟨by decide +kernel, rfl⟩
theorem d_X11_line_62 : DC mi_X11_line 62 (.bipush 8) 2 64 := ⟨by decide +kernel, rfl⟩
theorem d_X11_line_64 : DB mi_X11_line 64 (.if_icmp .eq 9) 9 67 73 := ⟨by decide +kernel, rfl, by decide⟩
theorem d_X11_line_67 : DC mi_X11_line 67 (.iload_n 1) 1 68 := ⟨by decide +kernel, rfl⟩
theorem d_X11_line_68 : DC mi_X11_line 68 (.bipush 9) 2 70 := ⟨by decide +kernel, rfl⟩
theorem d_X11_line_70 : DB mi_X11_line 70 (.if_icmp .ne 20) 20 73 90 := ⟨by decide +kernel, rfl, by decide⟩
theorem d_X11_line_73 : DC mi_X11_line 73 (.aload_n 0) 1 74 := ⟨by decide +kernel, rfl⟩
theorem d_X11_line_74 : DC mi_X11_line 74 (.getfield 225) 3 77 := ⟨by decide +kernel, rfl⟩
theorem d_X11_line_77 : DC mi_X11_line 77 (.iload_n 1) 1 78 := ⟨by decide +kernel, rfl⟩
theorem d_X11_line_78 : DC mi_X11_line 78 (.ishr) 1 79 := ⟨by decide +kernel, rfl⟩
theorem d_X11_line_79 : DC mi_X11_line 79 (.iconst 1) 1 80 := ⟨by decide +kernel, rfl⟩
theorem d_X11_line_80 : DC mi_X11_line 80 (.iand) 1 81 := ⟨by decide +kernel, rfl⟩
theorem d_X11_line_81 : DC mi_X11_line 81 (.iconst 1) 1 82 := ⟨by decide +kernel, rfl⟩
theorem d_X11_line_82 : DB mi_X11_line 82 (.if_icmp .ne 8) 8 85 90 := ⟨by decide +kernel, rfl, by decide⟩
theorem d_X11_line_85 : DC mi_X11_line 85 (.aload_n 0) 1 86 := ⟨by decide +kernel, rfl⟩
theorem d_X11_line_86 : DC mi_X11_line 86 (.iconst 3) 1 87 := ⟨by decide +kernel, rfl⟩
theorem d_X11_line_87 : DC mi_X11_line 87 (.invokevirtual 211) 3 90 := ⟨by decide +kernel, rfl⟩
theorem d_X11_line_90 : DC mi_X11_line 90 (.aload_n 0) 1 91 := ⟨by decide +kernel, rfl⟩
theorem d_X11_line_91 : DC mi_X11_line 91 (.getfield 202) 3 94 := ⟨by decide +kernel, rfl⟩
theorem d_X11_line_94 : DB mi_X11_line 94 (.ifCond .eq 4) 4 97 98 := ⟨by decide +kernel, rfl, by decide⟩
theorem d_X11_line_97 : DC mi_X11_line 97 (.return_) 1 98 := ⟨by decide +kernel, rfl⟩
theorem d_X11_line_98 : DC mi_X11_line 98 (.aload_n 0) 1 99 := ⟨by decide +kernel, rfl⟩
theorem d_X11_line_99 : DC mi_X11_line 99 (.dup) 1 100 := ⟨by decide +kernel, rfl⟩
theorem d_X11_line_100 : DC mi_X11_line 100 (.getfield 225) 3 103 := ⟨by decide +kernel, rfl⟩
theorem d_X11_line_103 : DC mi_X11_line 103 (.iconst 1) 1 104 := ⟨by decide +kernel, rfl⟩
theorem d_X11_line_104 : DC mi_X11_line 104 (.iload_n 1) 1 105 := ⟨by decide +kernel, rfl⟩
theorem d_X11_line_105 : DC mi_X11_line 105 (.ishl) 1 106 := ⟨by decide +kernel, rfl⟩
theorem d_X11_line_106 : DC mi_X11_line 106 (.ior) 1 107 := ⟨by decide +kernel, rfl⟩
theorem d_X11_line_107 : DC mi_X11_line 107 (.putfield 225) 3 110 := ⟨by decide +kernel, rfl⟩
theorem d_X11_line_110 : DC mi_X11_line 110 (.aload_n 0) 1 111 := ⟨by decide +kernel, rfl⟩
theorem d_X11_line_111 : DC mi_X11_line 111 (.invokevirtual 208) 3 114 := ⟨by decide +kernel, rfl⟩
theorem d_X11_line_114 : DC mi_X11_line 114 (.iload_n 1) 1 115 := ⟨by decide +kernel, rfl⟩
theorem d_X11_line_115 : DW mi_X11_line 115 (.tableswitch 160 0 9 #[53, 90, 97, 105, 113, 120, 120, 120, 130, 145]) := ⟨53, by decide +kernel⟩
theorem d_X11_line_168 : DC mi_X11_line 168 (.aload_n 0) 1 169 := ⟨by decide +kernel, rfl⟩
theorem d_X11_line_169 : DC mi_X11_line 169 (.iconst 1) 1 170 := ⟨by decide +kernel, rfl⟩
theorem d_X11_line_170 : DC mi_X11_line 170 (.bipush 20) 2 172 := ⟨by decide +kernel, rfl⟩
theorem d_X11_line_172 : DC mi_X11_line 172 (.invokevirtual 231) 3 175 := ⟨by decide +kernel, rfl⟩
theorem d_X11_line_175 : DC mi_X11_line 175 (.istore_n 2) 1 176 := ⟨by decide +kernel, rfl⟩
theorem d_X11_line_176 : DC mi_X11_line 176 (.aload_n 0) 1 177 := ⟨by decide +kernel, rfl⟩
theorem d_X11_line_177 : DC mi_X11_line 177 (.getfield 16) 3 180 := ⟨by decide +kernel, rfl⟩
theorem d_X11_line_180 : DC mi_X11_line 180 (.bipush 6) 2 182 := ⟨by decide +kernel, rfl⟩
theorem d_X11_line_182 : DC mi_X11_line 182 (.aload_n 0) 1 183 := ⟨by decide +kernel, rfl⟩
theorem d_X11_line_183 : DC mi_X11_line 183 (.iconst 0) 1 184 := ⟨by decide +kernel, rfl⟩
theorem d_X11_line_184 : DC mi_X11_line 184 (.invokevirtual 218) 3 187 := ⟨by decide +kernel, rfl⟩
theorem d_X11_line_187 : DC mi_X11_line 187 (.iadd) 1 188 := ⟨by decide +kernel, rfl⟩
theorem d_X11_line_188 : DC mi_X11_line 188 (.iload_n 2) 1 189 := ⟨by decide +kernel, rfl⟩
theorem d_X11_line_189 : DC mi_X11_line 189 (.iastore) 1 190 := ⟨by decide +kernel, rfl⟩
theorem d_X11_line_190 : DC mi_X11_line 190 (.aload_n 0) 1 191 := ⟨by decide +kernel, rfl⟩
theorem d_X11_line_191 : DC mi_X11_line 191 (.iconst 0) 1 192 := ⟨by decide +kernel, rfl⟩
theorem d_X11_line_192 : DC mi_X11_line 192 (.aload_n 0) 1 193 := ⟨by decide +kernel, rfl⟩
theorem d_X11_line_193 : DC mi_X11_line 193 (.iconst 0) 1 194 := ⟨by decide +kernel, rfl⟩
theorem d_X11_line_194 : DC mi_X11_line 194 (.invokevirtual 218) 3 197 := ⟨by decide +kernel, rfl⟩
theorem d_X11_line_197 : DC mi_X11_line 197 (.iconst 1) 1 198 := ⟨by decide +kernel, rfl⟩
theorem d_X11_line_198 : DC mi_X11_line 198 (.iadd) 1 199 := ⟨by decide +kernel, rfl⟩
theorem d_X11_line_199 : DC mi_X11_line 199 (.invokevirtual 235) 3 202 := ⟨by decide +kernel, rfl⟩
theorem d_X11_line_202 : DB mi_X11_line 202 (.goto 77) 77 205 279 := ⟨by decide +kernel, rfl, by decide⟩
theorem d_X11_line_205 : DC mi_X11_line 205 (.aload_n 0) 1 206 := ⟨by decide +kernel, rfl⟩
theorem d_X11_line_206 : DC mi_X11_line 206 (.invokevirtual 239) 3 209 := ⟨by decide +kernel, rfl⟩
theorem d_X11_line_209 : DB mi_X11_line 209 (.goto 70) 70 212 279 := ⟨by decide +kernel, rfl, by decide⟩
theorem d_X11_line_212 : DC mi_X11_line 212 (.aload_n 0) 1 213 := ⟨by decide +kernel, rfl⟩
theorem d_X11_line_213 : DC mi_X11_line 213 (.iconst 1) 1 214 := ⟨by decide +kernel, rfl⟩
theorem d_X11_line_214 : DC mi_X11_line 214 (.invokevirtual 242) 3 217 := ⟨by decide +kernel, rfl⟩
theorem d_X11_line_217 : DB mi_X11_line 217 (.goto 62) 62 220 279 := ⟨by decide +kernel, rfl, by decide⟩
theorem d_X11_line_220 : DC mi_X11_line 220 (.aload_n 0) 1 221 := ⟨by decide +kernel, rfl⟩
theorem d_X11_line_221 : DC mi_X11_line 221 (.iconst (-1)) 1 222 := ⟨by decide +kernel, rfl⟩
theorem d_X11_line_222 : DC mi_X11_line 222 (.invokevirtual 242) 3 225 := ⟨by decide +kernel, rfl⟩
theorem d_X11_line_225 : DB mi_X11_line 225 (.goto 54) 54 228 279 := ⟨by decide +kernel, rfl, by decide⟩
theorem d_X11_line_228 : DC mi_X11_line 228 (.aload_n 0) 1 229 := ⟨by decide +kernel, rfl⟩
theorem d_X11_line_229 : DC mi_X11_line 229 (.invokevirtual 245) 3 232 := ⟨by decide +kernel, rfl⟩
theorem d_X11_line_232 : DB mi_X11_line 232 (.goto 47) 47 235 279 := ⟨by decide +kernel, rfl, by decide⟩
theorem d_X11_line_235 : DC mi_X11_line 235 (.aload_n 0) 1 236 := ⟨by decide +kernel, rfl⟩
theorem d_X11_line_236 : DC mi_X11_line 236 (.iload_n 1) 1 237 := ⟨by decide +kernel, rfl⟩
theorem d_X11_line_237 : DC mi_X11_line 237 (.iconst 5) 1 238 := ⟨by decide +kernel, rfl⟩
theorem d_X11_line_238 : DC mi_X11_line 238 (.isub) 1 239 := ⟨by decide +kernel, rfl⟩
theorem d_X11_line_239 : DC mi_X11_line 239 (.invokevirtual 248) 3 242 := ⟨by decide +kernel, rfl⟩
theorem d_X11_line_242 : DB mi_X11_line 242 (.goto 37) 37 245 279 := ⟨by decide +kernel, rfl, by decide⟩
theorem d_X11_line_245 : DC mi_X11_line 245 (.aload_n 0) 1 246 := ⟨by decide +kernel, rfl⟩
theorem d_X11_line_246 : DC mi_X11_line 246 (.iconst 4) 1 247 := ⟨by decide +kernel, rfl⟩
theorem d_X11_line_247 : DC mi_X11_line 247 (.aload_n 0) 1 248 := ⟨by decide +kernel, rfl⟩
theorem d_X11_line_248 : DC mi_X11_line 248 (.iconst 0) 1 249 := ⟨by decide +kernel, rfl⟩
theorem d_X11_line_249 : DC mi_X11_line 249 (.bipush 100) 2 251 := ⟨by decide +kernel, rfl⟩
theorem d_X11_line_251 : DC mi_X11_line 251 (.invokevirtual 231) 3 254 := ⟨by decide +kernel, rfl⟩
theorem d_X11_line_254 : DC mi_X11_line 254 (.invokevirtual 235) 3 257 := ⟨by decide +kernel, rfl⟩
theorem d_X11_line_257 : DB mi_X11_line 257 (.goto 22) 22 260 279 := ⟨by decide +kernel, rfl, by decide⟩
theorem d_X11_line_260 : DC mi_X11_line 260 (.aload_n 0) 1 261 := ⟨by decide +kernel, rfl⟩
theorem d_X11_line_261 : DC mi_X11_line 261 (.iconst 5) 1 262 := ⟨by decide +kernel, rfl⟩
theorem d_X11_line_262 : DC mi_X11_line 262 (.aload_n 0) 1 263 := ⟨by decide +kernel, rfl⟩
theorem d_X11_line_263 : DC mi_X11_line 263 (.iconst 0) 1 264 := ⟨by decide +kernel, rfl⟩
theorem d_X11_line_264 : DC mi_X11_line 264 (.ldc 186) 2 266 := ⟨by decide +kernel, rfl⟩
theorem d_X11_line_266 : DC mi_X11_line 266 (.invokevirtual 231) 3 269 := ⟨by decide +kernel, rfl⟩
theorem d_X11_line_269 : DC mi_X11_line 269 (.invokevirtual 235) 3 272 := ⟨by decide +kernel, rfl⟩
theorem d_X11_line_272 : DB mi_X11_line 272 (.goto 7) 7 275 279 := ⟨by decide +kernel, rfl, by decide⟩
theorem d_X11_line_275 : DC mi_X11_line 275 (.aload_n 0) 1 276 := ⟨by decide +kernel, rfl⟩
theorem d_X11_line_276 : DC mi_X11_line 276 (.invokevirtual 251) 3 279 := ⟨by decide +kernel, rfl⟩
theorem d_X11_line_279 : DC mi_X11_line 279 (.aload_n 0) 1 280 := ⟨by decide +kernel, rfl⟩
theorem d_X11_line_280 : DC mi_X11_line 280 (.getfield 202) 3 283 := ⟨by decide +kernel, rfl⟩
theorem d_X11_line_283 : DB mi_X11_line 283 (.ifCond .eq 4) 4 286 287 := ⟨by decide +kernel, rfl, by decide⟩
theorem d_X11_line_286 : DC mi_X11_line 286 (.return_) 1 287 := ⟨by decide +kernel, rfl⟩
theorem d_X11_line_287 : DC mi_X11_line 287 (.aload_n 0) 1 288 := ⟨by decide +kernel, rfl⟩
theorem d_X11_line_288 : DC mi_X11_line 288 (.bipush 59) 2 290 := ⟨by decide +kernel, rfl⟩
theorem d_X11_line_290 : DC mi_X11_line 290 (.invokevirtual 254) 3 293 := ⟨by decide +kernel, rfl⟩
theorem d_X11_line_293 : DB mi_X11_line 293 (.ifCond .ne 11) 11 296 304 := ⟨by decide +kernel, rfl, by decide⟩
theorem d_X11_line_296 : DC mi_X11_line 296 (.aload_n 0) 1 297 := ⟨by decide +kernel, rfl⟩
theorem d_X11_line_297 : DC mi_X11_line 297 (.iconst 1) 1 298 := ⟨by decide +kernel, rfl⟩
theorem d_X11_line_298 : DC mi_X11_line 298 (.invokevirtual 211) 3 301 := ⟨by decide +kernel, rfl⟩
theorem d_X11_line_301 : DB mi_X11_line 301 (.goto 7) 7 304 308 := ⟨by decide +kernel, rfl, by decide⟩
theorem d_X11_line_304 : DC mi_X11_line 304 (.aload_n 0) 1 305 := ⟨by decide +kernel, rfl⟩
theorem d_X11_line_305 : DC mi_X11_line 305 (.invokevirtual 208) 3 308 := ⟨by decide +kernel, rfl⟩
theorem d_X11_line_308 : DC mi_X11_line 308 (.aload_n 0) 1 309 := ⟨by decide +kernel, rfl⟩
theorem d_X11_line_309 : DC mi_X11_line 309 (.dup) 1 310 := ⟨by decide +kernel, rfl⟩
theorem d_X11_line_310 : DC mi_X11_line 310 (.getfield 257) 3 313 := ⟨by decide +kernel, rfl⟩
theorem d_X11_line_313 : DC mi_X11_line 313 (.iconst 1) 1 314 := ⟨by decide +kernel, rfl⟩
theorem d_X11_line_314 : DC mi_X11_line 314 (.iadd) 1 315 := ⟨by decide +kernel, rfl⟩
theorem d_X11_line_315 : DC mi_X11_line 315 (.putfield 257) 3 318 := ⟨by decide +kernel, rfl⟩
theorem d_X11_line_318 : DC mi_X11_line 318 (.return_) 1 319 := ⟨by decide +kernel, rfl⟩
set_option maxHeartbeats 4000000 in
set_option maxRecDepth 100000 in
theorem sp_X11_line (d : Nat) (hd : 211 ≤ d) (h : HH) : Sp mi_X11_line d iU [.ref 255] h (g_X11_line h) := by
  refine sp_of (lc := [(0, .ref 255)]) (by decide) (Nat.le_of_ble_eq_true rfl) rfl ?_
  unfold g_X11_line
  refine sx_aload_n d_X11_line_0 0 rfl ?_
  refine sx_getI fl_StairCountModel_167 sh_255 rfl d_X11_line_1 (fun v1 => ?_)
  refine sx_jn (fun j => ∀  (h : HH), Sx mi_X11_line d iU (j  h) 34 [(0, .ref 255)] [] h) ?_ ?_
  · intro  h4
    refine sx_aload_n d_X11_line_34 0 rfl ?_
    refine sx_iconst d_X11_line_35 ic1 ?_
    refine sx_callV [.int (1 : Int32)] mv_X11_wrong lM_StairCountModel_211 sh_255 (by omega) rfl rfl (Nat.le_of_ble_eq_true rfl) d_X11_line_36 (sp_X11_wrong (d - 1) (by omega) (1 : Int32) h4) (fun _ h5 => ?_)
    exact sx_vret rfl d_X11_line_39
  · intro j2 k3
    refine sx_if_ne d_X11_line_4 ?_ ?_
    · refine sx_aload_n d_X11_line_7 0 rfl ?_
      refine sx_getI fl_StairCountModel_177 sh_255 rfl d_X11_line_8 (fun v7 => ?_)
      refine sx_bipush d_X11_line_11 bc10 ?_
      refine sx_icmp_gt d_X11_line_13 ?_ ?_
      · exact k3 h
      · refine sx_aload_n d_X11_line_16 0 rfl ?_
        refine sx_getI fl_StairCountModel_177 sh_255 rfl d_X11_line_17 (fun v8 => ?_)
        refine sx_jn (fun j => ∀  (h : HH), Sx mi_X11_line d iU (j  h) 40 [(0, .ref 255)] [] h) ?_ ?_
        · intro  h11
          refine sx_aload_n d_X11_line_40 0 rfl ?_
          refine sx_getI fl_StairCountModel_177 sh_255 rfl d_X11_line_41 (fun v12 => ?_)
          refine sx_istore_n (i := 1) (lc' := [(1, .int v12), (0, .ref 255)]) d_X11_line_44 rfl (by decide) rfl ?_
          refine sx_aload_n d_X11_line_45 1 rfl ?_
          refine sx_iload_n d_X11_line_46 0 rfl ?_
          refine sx_callV [.int v12] mv_X11_isFull lM_StairCountModel_228 sh_255 (by omega) rfl rfl (Nat.le_of_ble_eq_true rfl) d_X11_line_47 (sp_X11_isFull (d - 1) (by omega) v12 h11) (fun r14 h13 => ?_)
          refine sx_jn (fun j => ∀  (h : HH), Sx mi_X11_line d iU (j  h) 90 [(0, .ref 255), (1, .int v12)] [] h) ?_ ?_
          · intro  h17
            refine sx_aload_n d_X11_line_90 0 rfl ?_
            refine sx_getI fl_StairCountModel_202 sh_255 rfl d_X11_line_91 (fun v18 => ?_)
            refine sx_if_eq d_X11_line_94 ?_ ?_
            · refine sx_aload_n d_X11_line_98 0 rfl ?_
              refine sx_dup d_X11_line_99 rfl ?_
              refine sx_getI fl_StairCountModel_225 sh_255 rfl d_X11_line_100 (fun v19 => ?_)
              refine sx_iconst d_X11_line_103 ic1 ?_
              refine sx_iload_n d_X11_line_104 1 rfl ?_
              refine sx_ishl d_X11_line_105 ?_
              refine sx_ior d_X11_line_106 ?_
              refine sx_putI fl_StairCountModel_225 sh_255 rfl hty_11_20 d_X11_line_107 (fun h20 => ?_)
              refine sx_aload_n d_X11_line_110 0 rfl ?_
              refine sx_callV [] mv_X11_token lM_StairCountModel_208 sh_255 (by omega) rfl rfl (Nat.le_of_ble_eq_true rfl) d_X11_line_111 (sp_X11_token (d - 1) (by omega) h20) (fun _ h21 => ?_)
              refine sx_iload_n d_X11_line_114 1 rfl ?_
              refine sx_jn (fun j => ∀  (h : HH), Sx mi_X11_line d iU (j  h) 279 [(0, .ref 255)] [] h) ?_ ?_
              · intro  h25
                refine sx_aload_n d_X11_line_279 0 rfl ?_
                refine sx_getI fl_StairCountModel_202 sh_255 rfl d_X11_line_280 (fun v26 => ?_)
                refine sx_if_eq d_X11_line_283 ?_ ?_
                · refine sx_aload_n d_X11_line_287 0 rfl ?_
                  refine sx_bipush d_X11_line_288 bc59 ?_
                  refine sx_callV [.int (59 : Int32)] mv_X11_isSign lM_StairCountModel_254 sh_255 (by omega) rfl rfl (Nat.le_of_ble_eq_true rfl) d_X11_line_290 (sp_X11_isSign (d - 1) (by omega) (59 : Int32) h25) (fun r28 h27 => ?_)
                  refine sx_jn (fun j => ∀  (h : HH), Sx mi_X11_line d iU (j  h) 308 [(0, .ref 255)] [] h) ?_ ?_
                  · intro  h31
                    refine sx_aload_n d_X11_line_308 0 rfl ?_
                    refine sx_dup d_X11_line_309 rfl ?_
                    refine sx_getI fl_StairCountModel_257 sh_255 rfl d_X11_line_310 (fun v32 => ?_)
                    refine sx_iconst d_X11_line_313 ic1 ?_
                    refine sx_iadd d_X11_line_314 ?_
                    refine sx_putI fl_StairCountModel_257 sh_255 rfl hty_11_21 d_X11_line_315 (fun h33 => ?_)
                    exact sx_vret rfl d_X11_line_318
                  · intro j29 k30
                    refine sx_if_ne d_X11_line_293 ?_ ?_
                    · refine sx_aload_n d_X11_line_296 0 rfl ?_
                      refine sx_iconst d_X11_line_297 ic1 ?_
                      refine sx_callV [.int (1 : Int32)] mv_X11_wrong lM_StairCountModel_211 sh_255 (by omega) rfl rfl (Nat.le_of_ble_eq_true rfl) d_X11_line_298 (sp_X11_wrong (d - 1) (by omega) (1 : Int32) h27) (fun _ h34 => ?_)
                      refine sx_goto d_X11_line_301 ?_
                      exact k30 h34
                    · refine sx_aload_n d_X11_line_304 0 rfl ?_
                      refine sx_callV [] mv_X11_token lM_StairCountModel_208 sh_255 (by omega) rfl rfl (Nat.le_of_ble_eq_true rfl) d_X11_line_305 (sp_X11_token (d - 1) (by omega) h27) (fun _ h36 => ?_)
                      exact k30 h36
                · exact sx_vret rfl d_X11_line_286
              · intro j23 k24
                refine sx_if (fun e38 => ?_) (fun e38 => ?_)
                · refine sx_tsIn (off := 53) (t := 168) d_X11_line_115 (by rw [e38] <;> decide) (by rw [e38] <;> decide) (by rw [e38] <;> decide) (by decide) ?_
                  refine sx_aload_n d_X11_line_168 0 rfl ?_
                  refine sx_iconst d_X11_line_169 ic1 ?_
                  refine sx_bipush d_X11_line_170 bc20 ?_
                  refine sx_callV [.int (1 : Int32), .int (20 : Int32)] mv_X11_numeral lM_StairCountModel_231 sh_255 (by omega) rfl rfl (Nat.le_of_ble_eq_true rfl) d_X11_line_172 (sp_X11_numeral (d - 1) (by omega) (1 : Int32) (20 : Int32) h21) (fun r40 h39 => ?_)
                  refine sx_istore_n (i := 2) (lc' := [(2, .int r40), (0, .ref 255), (1, .int v12)]) d_X11_line_175 rfl (by decide) rfl ?_
                  refine sx_aload_n d_X11_line_176 1 rfl ?_
                  refine sx_getF (a' := 258) fl_StairCountModel_16 sh_255 rfl rfl d_X11_line_177 ?_
                  refine sx_bipush d_X11_line_180 bc6 ?_
                  refine sx_aload_n d_X11_line_182 1 rfl ?_
                  refine sx_iconst d_X11_line_183 ic0 ?_
                  refine sx_callV [.int (0 : Int32)] mv_X11_fresher lM_StairCountModel_218 sh_255 (by omega) rfl rfl (Nat.le_of_ble_eq_true rfl) d_X11_line_184 (sp_X11_fresher (d - 1) (by omega) (0 : Int32) h39) (fun r42 h41 => ?_)
                  refine sx_iadd d_X11_line_187 ?_
                  refine sx_iload_n d_X11_line_188 0 rfl ?_
                  refine sx_iast sh_258 d_X11_line_189 (fun h43 => ?_)
                  refine sx_aload_n d_X11_line_190 1 rfl ?_
                  refine sx_iconst d_X11_line_191 ic0 ?_
                  refine sx_aload_n d_X11_line_192 1 rfl ?_
                  refine sx_iconst d_X11_line_193 ic0 ?_
                  refine sx_callV [.int (0 : Int32)] mv_X11_fresher lM_StairCountModel_218 sh_255 (by omega) rfl rfl (Nat.le_of_ble_eq_true rfl) d_X11_line_194 (sp_X11_fresher (d - 1) (by omega) (0 : Int32) h43) (fun r45 h44 => ?_)
                  refine sx_iconst d_X11_line_197 ic1 ?_
                  refine sx_iadd d_X11_line_198 ?_
                  refine sx_callV [.int (0 : Int32), .int (r45 + (1 : Int32))] mv_X11_reads lM_StairCountModel_235 sh_255 (by omega) rfl rfl (Nat.le_of_ble_eq_true rfl) d_X11_line_199 (sp_X11_reads (d - 1) (by omega) (0 : Int32) (r45 + (1 : Int32)) h44) (fun _ h46 => ?_)
                  refine sx_goto d_X11_line_202 ?_
                  refine sx_lc (lc' := [(0, .ref 255)]) [1] rfl ?_
                  exact k24 h46
                · refine sx_if (fun e48 => ?_) (fun e48 => ?_)
                  · refine sx_tsIn (off := 90) (t := 205) d_X11_line_115 (by rw [e48] <;> decide) (by rw [e48] <;> decide) (by rw [e48] <;> decide) (by decide) ?_
                    refine sx_aload_n d_X11_line_205 0 rfl ?_
                    refine sx_callV [] mv_X11_personLine lM_StairCountModel_239 sh_255 (by omega) rfl rfl (Nat.le_of_ble_eq_true rfl) d_X11_line_206 (sp_X11_personLine (d - 1) (by omega) h21) (fun _ h49 => ?_)
                    refine sx_goto d_X11_line_209 ?_
                    refine sx_lc (lc' := [(0, .ref 255)]) [0] rfl ?_
                    exact k24 h49
                  · refine sx_if (fun e51 => ?_) (fun e51 => ?_)
                    · refine sx_tsIn (off := 97) (t := 212) d_X11_line_115 (by rw [e51] <;> decide) (by rw [e51] <;> decide) (by rw [e51] <;> decide) (by decide) ?_
                      refine sx_aload_n d_X11_line_212 0 rfl ?_
                      refine sx_iconst d_X11_line_213 ic1 ?_
                      refine sx_callV [.int (1 : Int32)] mv_X11_tallyLine lM_StairCountModel_242 sh_255 (by omega) rfl rfl (Nat.le_of_ble_eq_true rfl) d_X11_line_214 (sp_X11_tallyLine (d - 1) (by omega) (1 : Int32) h21) (fun _ h52 => ?_)
                      refine sx_goto d_X11_line_217 ?_
                      refine sx_lc (lc' := [(0, .ref 255)]) [0] rfl ?_
                      exact k24 h52
                    · refine sx_if (fun e54 => ?_) (fun e54 => ?_)
                      · refine sx_tsIn (off := 105) (t := 220) d_X11_line_115 (by rw [e54] <;> decide) (by rw [e54] <;> decide) (by rw [e54] <;> decide) (by decide) ?_
                        refine sx_aload_n d_X11_line_220 0 rfl ?_
                        refine sx_iconst d_X11_line_221 icm1 ?_
                        refine sx_callV [.int (-1 : Int32)] mv_X11_tallyLine lM_StairCountModel_242 sh_255 (by omega) rfl rfl (Nat.le_of_ble_eq_true rfl) d_X11_line_222 (sp_X11_tallyLine (d - 1) (by omega) (-1 : Int32) h21) (fun _ h55 => ?_)
                        refine sx_goto d_X11_line_225 ?_
                        refine sx_lc (lc' := [(0, .ref 255)]) [0] rfl ?_
                        exact k24 h55
                      · refine sx_if (fun e57 => ?_) (fun e57 => ?_)
                        · refine sx_tsIn (off := 113) (t := 228) d_X11_line_115 (by rw [e57] <;> decide) (by rw [e57] <;> decide) (by rw [e57] <;> decide) (by decide) ?_
                          refine sx_aload_n d_X11_line_228 0 rfl ?_
                          refine sx_callV [] mv_X11_ladderLine lM_StairCountModel_245 sh_255 (by omega) rfl rfl (Nat.le_of_ble_eq_true rfl) d_X11_line_229 (sp_X11_ladderLine (d - 1) (by omega) h21) (fun _ h58 => ?_)
                          refine sx_goto d_X11_line_232 ?_
                          refine sx_lc (lc' := [(0, .ref 255)]) [0] rfl ?_
                          exact k24 h58
                        · refine sx_if (fun e60 => ?_) (fun e60 => ?_)
                          · refine sx_tsIn (off := 120) (t := 235) d_X11_line_115 (by rcases e60 with e60 | e60 | e60 <;> rw [e60] <;> decide) (by rcases e60 with e60 | e60 | e60 <;> rw [e60] <;> decide) (by rcases e60 with e60 | e60 | e60 <;> rw [e60] <;> decide) (by decide) ?_
                            refine sx_aload_n d_X11_line_235 0 rfl ?_
                            refine sx_iload_n d_X11_line_236 1 rfl ?_
                            refine sx_iconst d_X11_line_237 ic5 ?_
                            refine sx_isub d_X11_line_238 ?_
                            refine sx_callV [.int (v12 - (5 : Int32))] mv_X11_goingLine lM_StairCountModel_248 sh_255 (by omega) rfl rfl (Nat.le_of_ble_eq_true rfl) d_X11_line_239 (sp_X11_goingLine (d - 1) (by omega) (v12 - (5 : Int32)) h21) (fun _ h61 => ?_)
                            refine sx_goto d_X11_line_242 ?_
                            refine sx_lc (lc' := [(0, .ref 255)]) [0] rfl ?_
                            exact k24 h61
                          · refine sx_if (fun e63 => ?_) (fun e63 => ?_)
                            · refine sx_tsIn (off := 130) (t := 245) d_X11_line_115 (by rw [e63] <;> decide) (by rw [e63] <;> decide) (by rw [e63] <;> decide) (by decide) ?_
                              refine sx_aload_n d_X11_line_245 0 rfl ?_
                              refine sx_iconst d_X11_line_246 ic4 ?_
                              refine sx_aload_n d_X11_line_247 0 rfl ?_
                              refine sx_iconst d_X11_line_248 ic0 ?_
                              refine sx_bipush d_X11_line_249 bc100 ?_
                              refine sx_callV [.int (0 : Int32), .int (100 : Int32)] mv_X11_numeral lM_StairCountModel_231 sh_255 (by omega) rfl rfl (Nat.le_of_ble_eq_true rfl) d_X11_line_251 (sp_X11_numeral (d - 1) (by omega) (0 : Int32) (100 : Int32) h21) (fun r65 h64 => ?_)
                              refine sx_callV [.int (4 : Int32), .int r65] mv_X11_reads lM_StairCountModel_235 sh_255 (by omega) rfl rfl (Nat.le_of_ble_eq_true rfl) d_X11_line_254 (sp_X11_reads (d - 1) (by omega) (4 : Int32) r65 h64) (fun _ h66 => ?_)
                              refine sx_goto d_X11_line_257 ?_
                              refine sx_lc (lc' := [(0, .ref 255)]) [0] rfl ?_
                              exact k24 h66
                            · refine sx_if (fun e68 => ?_) (fun e68 => ?_)
                              · refine sx_tsIn (off := 145) (t := 260) d_X11_line_115 (by rw [e68] <;> decide) (by rw [e68] <;> decide) (by rw [e68] <;> decide) (by decide) ?_
                                refine sx_aload_n d_X11_line_260 0 rfl ?_
                                refine sx_iconst d_X11_line_261 ic5 ?_
                                refine sx_aload_n d_X11_line_262 0 rfl ?_
                                refine sx_iconst d_X11_line_263 ic0 ?_
                                refine sx_ldc d_X11_line_264 lK_StairCountModel_186 ?_
                                refine sx_callV [.int (0 : Int32), .int (99999 : Int32)] mv_X11_numeral lM_StairCountModel_231 sh_255 (by omega) rfl rfl (Nat.le_of_ble_eq_true rfl) d_X11_line_266 (sp_X11_numeral (d - 1) (by omega) (0 : Int32) (99999 : Int32) h21) (fun r70 h69 => ?_)
                                refine sx_callV [.int (5 : Int32), .int r70] mv_X11_reads lM_StairCountModel_235 sh_255 (by omega) rfl rfl (Nat.le_of_ble_eq_true rfl) d_X11_line_269 (sp_X11_reads (d - 1) (by omega) (5 : Int32) r70 h69) (fun _ h71 => ?_)
                                refine sx_goto d_X11_line_272 ?_
                                refine sx_lc (lc' := [(0, .ref 255)]) [0] rfl ?_
                                exact k24 h71
                              · have q0 := ne_toInt (x := v12) (c := (0 : Int32)) (k := 0) e38 ti0
                                have q1 := ne_toInt (x := v12) (c := (1 : Int32)) (k := 1) e48 ti1
                                have q2 := ne_toInt (x := v12) (c := (2 : Int32)) (k := 2) e51 ti2
                                have q3 := ne_toInt (x := v12) (c := (3 : Int32)) (k := 3) e54 ti3
                                have q4 := ne_toInt (x := v12) (c := (4 : Int32)) (k := 4) e57 ti4
                                have q5 := ne_toInt (x := v12) (c := (5 : Int32)) (k := 5) (fun e => e60 (by simp [e])) ti5
                                have q6 := ne_toInt (x := v12) (c := (6 : Int32)) (k := 6) (fun e => e60 (by simp [e])) ti6
                                have q7 := ne_toInt (x := v12) (c := (7 : Int32)) (k := 7) (fun e => e60 (by simp [e])) ti7
                                have q8 := ne_toInt (x := v12) (c := (8 : Int32)) (k := 8) e63 ti8
                                have q9 := ne_toInt (x := v12) (c := (9 : Int32)) (k := 9) e68 ti9
                                refine sx_tsOut (t := 275) d_X11_line_115 (by omega) (by decide) ?_
                                refine sx_aload_n d_X11_line_275 0 rfl ?_
                                refine sx_callV [] mv_X11_lawLine lM_StairCountModel_251 sh_255 (by omega) rfl rfl (Nat.le_of_ble_eq_true rfl) d_X11_line_276 (sp_X11_lawLine (d - 1) (by omega) h21) (fun _ h73 => ?_)
                                refine sx_lc (lc' := [(0, .ref 255)]) [0] rfl ?_
                                exact k24 h73
            · exact sx_vret rfl d_X11_line_97
          · intro j15 k16
            refine sx_if_eq d_X11_line_50 ?_ ?_
            · refine sx_iload_n d_X11_line_61 0 rfl ?_
              refine sx_bipush d_X11_line_62 bc8 ?_
              refine sx_jn (fun j => ∀  (h : HH), Sx mi_X11_line d iU (j  h) 73 [(0, .ref 255), (1, .int v12)] [] h) ?_ ?_
              · intro  h77
                refine sx_aload_n d_X11_line_73 0 rfl ?_
                refine sx_getI fl_StairCountModel_225 sh_255 rfl d_X11_line_74 (fun v78 => ?_)
                refine sx_iload_n d_X11_line_77 1 rfl ?_
                refine sx_ishr d_X11_line_78 ?_
                refine sx_iconst d_X11_line_79 ic1 ?_
                refine sx_iand d_X11_line_80 ?_
                refine sx_iconst d_X11_line_81 ic1 ?_
                refine sx_icmp_ne d_X11_line_82 ?_ ?_
                · refine sx_aload_n d_X11_line_85 0 rfl ?_
                  refine sx_iconst d_X11_line_86 ic3 ?_
                  refine sx_callV [.int (3 : Int32)] mv_X11_wrong lM_StairCountModel_211 sh_255 (by omega) rfl rfl (Nat.le_of_ble_eq_true rfl) d_X11_line_87 (sp_X11_wrong (d - 1) (by omega) (3 : Int32) h77) (fun _ h79 => ?_)
                  exact k16 h79
                · exact k16 h77
              · intro j75 k76
                refine sx_icmp_eq d_X11_line_64 ?_ ?_
                · refine sx_lc (lc' := [(0, .ref 255), (1, .int v12)]) [1, 0] rfl ?_
                  exact k76 h13
                · refine sx_iload_n d_X11_line_67 0 rfl ?_
                  refine sx_bipush d_X11_line_68 bc9 ?_
                  refine sx_icmp_ne d_X11_line_70 ?_ ?_
                  · refine sx_lc (lc' := [(0, .ref 255), (1, .int v12)]) [1, 0] rfl ?_
                    exact k76 h13
                  · refine sx_lc (lc' := [(0, .ref 255), (1, .int v12)]) [1, 0] rfl ?_
                    exact k16 h13
            · refine sx_aload_n d_X11_line_53 1 rfl ?_
              refine sx_iconst d_X11_line_54 ic2 ?_
              refine sx_callV [.int (2 : Int32)] mv_X11_wrong lM_StairCountModel_211 sh_255 (by omega) rfl rfl (Nat.le_of_ble_eq_true rfl) d_X11_line_55 (sp_X11_wrong (d - 1) (by omega) (2 : Int32) h13) (fun _ h81 => ?_)
              refine sx_goto d_X11_line_58 ?_
              refine sx_lc (lc' := [(0, .ref 255), (1, .int v12)]) [1, 0] rfl ?_
              exact k16 h81
        · intro j9 k10
          refine sx_if_ne d_X11_line_20 ?_ ?_
          · refine sx_aload_n d_X11_line_23 0 rfl ?_
            refine sx_getI fl_StairCountModel_225 sh_255 rfl d_X11_line_24 (fun v83 => ?_)
            refine sx_sipush d_X11_line_27 sc254 ?_
            refine sx_iand d_X11_line_30 ?_
            refine sx_if_eq d_X11_line_31 ?_ ?_
            · exact k10 h
            · exact k3 h
          · exact k10 h
    · exact k3 h
theorem d_X11_half_0 : DC mi_X11_half 0 (.aload_n 0) 1 1 := ⟨by decide +kernel, rfl⟩
theorem d_X11_half_1 : DC mi_X11_half 1 (.arraylength) 1 2 := ⟨by decide +kernel, rfl⟩
theorem d_X11_half_2 : DC mi_X11_half 2 (.iconst 2) 1 3 := ⟨by decide +kernel, rfl⟩
theorem d_X11_half_3 : DC mi_X11_half 3 (.idiv) 1 4 := ⟨by decide +kernel, rfl⟩
theorem d_X11_half_4 : DC mi_X11_half 4 (.istore_n 1) 1 5 := ⟨by decide +kernel, rfl⟩
theorem d_X11_half_5 : DC mi_X11_half 5 (.iconst 0) 1 6 := ⟨by decide +kernel, rfl⟩
theorem d_X11_half_6 : DC mi_X11_half 6 (.istore_n 2) 1 7 := ⟨by decide +kernel, rfl⟩
theorem d_X11_half_7 : DC mi_X11_half 7 (.iload_n 2) 1 8 := ⟨by decide +kernel, rfl⟩
theorem d_X11_half_8 : DC mi_X11_half 8 (.iload_n 1) 1 9 := ⟨by decide +kernel, rfl⟩
theorem d_X11_half_9 : DB mi_X11_half 9 (.if_icmp .ge 17) 17 12 26 := ⟨by decide +kernel, rfl, by decide⟩
theorem d_X11_half_12 : DC mi_X11_half 12 (.aload_n 0) 1 13 := ⟨by decide +kernel, rfl⟩
theorem d_X11_half_13 : DC mi_X11_half 13 (.iload_n 2) 1 14 := ⟨by decide +kernel, rfl⟩
theorem d_X11_half_14 : DC mi_X11_half 14 (.aload_n 0) 1 15 := ⟨by decide +kernel, rfl⟩
theorem d_X11_half_15 : DC mi_X11_half 15 (.iload_n 1) 1 16 := ⟨by decide +kernel, rfl⟩
theorem d_X11_half_16 : DC mi_X11_half 16 (.iload_n 2) 1 17 := ⟨by decide +kernel, rfl⟩
theorem d_X11_half_17 : DC mi_X11_half 17 (.iadd) 1 18 := ⟨by decide +kernel, rfl⟩
theorem d_X11_half_18 : DC mi_X11_half 18 (.iaload) 1 19 := ⟨by decide +kernel, rfl⟩
theorem d_X11_half_19 : DC mi_X11_half 19 (.iastore) 1 20 := ⟨by decide +kernel, rfl⟩
theorem d_X11_half_20 : DC mi_X11_half 20 (.iinc 2 1) 3 23 := ⟨by decide +kernel, rfl⟩
theorem d_X11_half_23 : DB mi_X11_half 23 (.goto (-16)) (-16) 26 7 := ⟨by decide +kernel, rfl, by decide⟩
theorem d_X11_half_26 : DC mi_X11_half 26 (.return_) 1 27 := ⟨by decide +kernel, rfl⟩
set_option maxHeartbeats 4000000 in
set_option maxRecDepth 100000 in
theorem sL_X11_half_7 (d : Nat) (hd : 0 ≤ d) (b_a0 : Nat) (c1 : Int32) (e0 : shL[b_a0]? = some (.inr (0, lnA b_a0, 0))) : ∀ (n : Nat) (x2 : Int32) (h : HH), Sx mi_X11_half d iU (g_X11_half_L7 b_a0 c1 n x2 h) 7 [(0, .ref b_a0), (1, .int c1), (2, .int x2)] [] h := by
  intro n
  induction n with
  | zero => intro x2 h; exact sx_none
  | succ n ih =>
    intro x2 h
    rw [g_X11_half_L7]
    refine sx_iload_n d_X11_half_7 2 rfl ?_
    refine sx_iload_n d_X11_half_8 1 rfl ?_
    refine sx_icmp_ge d_X11_half_9 ?_ ?_
    · refine sx_aload_n d_X11_half_12 0 rfl ?_
      refine sx_iload_n d_X11_half_13 2 rfl ?_
      refine sx_aload_n d_X11_half_14 0 rfl ?_
      refine sx_iload_n d_X11_half_15 1 rfl ?_
      refine sx_iload_n d_X11_half_16 2 rfl ?_
      refine sx_iadd d_X11_half_17 ?_
      refine sx_iald e0 d_X11_half_18 (fun v2 => ?_)
      refine sx_iast e0 d_X11_half_19 (fun h3 => ?_)
      refine sx_iincV (lc' := fun v4 => [(2, .int v4), (0, .ref b_a0), (1, .int c1)]) (k0 := 2) d_X11_half_20 rfl ii1 (by decide) (fun _ => rfl) (fun v4 => ?_)
      refine sx_goto d_X11_half_23 ?_
      refine sx_lc (lc' := [(0, .ref b_a0), (1, .int c1), (2, .int v4)]) [1, 2, 0] rfl ?_
      exact ih v4 h3
    · exact sx_vret rfl d_X11_half_26
set_option maxHeartbeats 4000000 in
set_option maxRecDepth 100000 in
theorem sp_X11_half (d : Nat) (hd : 0 ≤ d) (a0 : Nat) (h : HH) : Sp mi_X11_half d iU [.ref a0] h (g_X11_half a0 h) := by
  refine sp_of (lc := [(0, .ref a0)]) (by decide) (Nat.le_of_ble_eq_true rfl) rfl ?_
  unfold g_X11_half
  refine sx_ckA (fun ha0 => ?_)
  refine sx_aload_n d_X11_half_0 0 rfl ?_
  refine sx_alen (v := (Int32.ofNat (lnA a0))) ha0 rfl d_X11_half_1 ?_
  refine sx_iconst d_X11_half_2 ic2 ?_
  refine sx_idiv d_X11_half_3 (fun v1 => ?_)
  refine sx_istore_n (i := 1) (lc' := [(1, .int v1), (0, .ref a0)]) d_X11_half_4 rfl (by decide) rfl ?_
  refine sx_iconst d_X11_half_5 ic0 ?_
  refine sx_istore_n (i := 2) (lc' := [(2, .int (0 : Int32)), (1, .int v1), (0, .ref a0)]) d_X11_half_6 rfl (by decide) rfl ?_
  refine sx_lc (lc' := [(0, .ref a0), (1, .int v1), (2, .int (0 : Int32))]) [2, 1, 0] rfl ?_
  refine sL_X11_half_7 d hd a0 v1 (ha0) 1024 (0 : Int32) h
theorem d_X11_starts_0 : DC mi_X11_starts 0 (.aload_n 0) 1 1 := ⟨by decide +kernel, rfl⟩
theorem d_X11_starts_1 : DC mi_X11_starts 1 (.getfield 75) 3 4 := ⟨by decide +kernel, rfl⟩
theorem d_X11_starts_4 : DC mi_X11_starts 4 (.iload_n 1) 1 5 := ⟨by decide +kernel, rfl⟩
theorem d_X11_starts_5 : DC mi_X11_starts 5 (.iconst 0) 1 6 := ⟨by decide +kernel, rfl⟩
theorem d_X11_starts_6 : DC mi_X11_starts 6 (.iastore) 1 7 := ⟨by decide +kernel, rfl⟩
theorem d_X11_starts_7 : DC mi_X11_starts 7 (.aload_n 0) 1 8 := ⟨by decide +kernel, rfl⟩
theorem d_X11_starts_8 : DC mi_X11_starts 8 (.getfield 78) 3 11 := ⟨by decide +kernel, rfl⟩
theorem d_X11_starts_11 : DC mi_X11_starts 11 (.iload_n 1) 1 12 := ⟨by decide +kernel, rfl⟩
theorem d_X11_starts_12 : DC mi_X11_starts 12 (.aload_n 0) 1 13 := ⟨by decide +kernel, rfl⟩
theorem d_X11_starts_13 : DC mi_X11_starts 13 (.getfield 13) 3 16 := ⟨by decide +kernel, rfl⟩
theorem d_X11_starts_16 : DC mi_X11_starts 16 (.iconst 5) 1 17 := ⟨by decide +kernel, rfl⟩
theorem d_X11_starts_17 : DC mi_X11_starts 17 (.iaload) 1 18 := ⟨by decide +kernel, rfl⟩
theorem d_X11_starts_18 : DC mi_X11_starts 18 (.iastore) 1 19 := ⟨by decide +kernel, rfl⟩
theorem d_X11_starts_19 : DC mi_X11_starts 19 (.iconst 0) 1 20 := ⟨by decide +kernel, rfl⟩
theorem d_X11_starts_20 : DC mi_X11_starts 20 (.istore_n 2) 1 21 := ⟨by decide +kernel, rfl⟩
theorem d_X11_starts_21 : DC mi_X11_starts 21 (.iload_n 2) 1 22 := ⟨by decide +kernel, rfl⟩
theorem d_X11_starts_22 : DC mi_X11_starts 22 (.bipush 6) 2 24 := ⟨by decide +kernel, rfl⟩
theorem d_X11_starts_24 : DB mi_X11_starts 24 (.if_icmp .ge 140) 140 27 164 := ⟨by decide +kernel, rfl, by decide⟩
theorem d_X11_starts_27 : DC mi_X11_starts 27 (.aload_n 0) 1 28 := ⟨by decide +kernel, rfl⟩
theorem d_X11_starts_28 : DC mi_X11_starts 28 (.getfield 81) 3 31 := ⟨by decide +kernel, rfl⟩
theorem d_X11_starts_31 : DC mi_X11_starts 31 (.bipush 6) 2 33 := ⟨by decide +kernel, rfl⟩
theorem d_X11_starts_33 : DC mi_X11_starts 33 (.iload_n 1) 1 34 := ⟨by decide +kernel, rfl⟩
theorem d_X11_starts_34 : DC mi_X11_starts 34 (.imul) 1 35 := ⟨by decide +kernel, rfl⟩
theorem d_X11_starts_35 : DC mi_X11_starts 35 (.iload_n 2) 1 36 := ⟨by decide +kernel, rfl⟩
theorem d_X11_starts_36 : DC mi_X11_starts 36 (.iadd) 1 37 := ⟨by decide +kernel, rfl⟩
theorem d_X11_starts_37 : DC mi_X11_starts 37 (.aload_n 0) 1 38 := ⟨by decide +kernel, rfl⟩
theorem d_X11_starts_38 : DC mi_X11_starts 38 (.getfield 22) 3 41 := ⟨by decide +kernel, rfl⟩
theorem d_X11_starts_41 : DC mi_X11_starts 41 (.iload_n 2) 1 42 := ⟨by decide +kernel, rfl⟩
theorem d_X11_starts_42 : DC mi_X11_starts 42 (.iaload) 1 43 := ⟨by decide +kernel, rfl⟩
theorem d_X11_starts_43 : DC mi_X11_starts 43 (.iastore) 1 44 := ⟨by decide +kernel, rfl⟩
theorem d_X11_starts_44 : DC mi_X11_starts 44 (.aload_n 0) 1 45 := ⟨by decide +kernel, rfl⟩
theorem d_X11_starts_45 : DC mi_X11_starts 45 (.getfield 84) 3 48 := ⟨by decide +kernel, rfl⟩
theorem d_X11_starts_48 : DC mi_X11_starts 48 (.bipush 6) 2 50 := ⟨by decide +kernel, rfl⟩
theorem d_X11_starts_50 : DC mi_X11_starts 50 (.iload_n 1) 1 51 := ⟨by decide +kernel, rfl⟩
theorem d_X11_starts_51 : DC mi_X11_starts 51 (.imul) 1 52 := ⟨by decide +kernel, rfl⟩
theorem d_X11_starts_52 : DC mi_X11_starts 52 (.iload_n 2) 1 53 := ⟨by decide +kernel, rfl⟩
theorem d_X11_starts_53 : DC mi_X11_starts 53 (.iadd) 1 54 := ⟨by decide +kernel, rfl⟩
theorem d_X11_starts_54 : DC mi_X11_starts 54 (.iconst 0) 1 55 := ⟨by decide +kernel, rfl⟩
theorem d_X11_starts_55 : DC mi_X11_starts 55 (.iastore) 1 56 := ⟨by decide +kernel, rfl⟩
theorem d_X11_starts_56 : DC mi_X11_starts 56 (.aload_n 0) 1 57 := ⟨by decide +kernel, rfl⟩
theorem d_X11_starts_57 : DC mi_X11_starts 57 (.getfield 87) 3 60 := ⟨by decide +kernel, rfl⟩
theorem d_X11_starts_60 : DC mi_X11_starts 60 (.bipush 6) 2 62 := ⟨by decide +kernel, rfl⟩
theorem d_X11_starts_62 : DC mi_X11_starts 62 (.iload_n 1) 1 63 := ⟨by decide +kernel, rfl⟩
theorem d_X11_starts_63 : DC mi_X11_starts 63 (.imul) 1 64 := ⟨by decide +kernel, rfl⟩
theorem d_X11_starts_64 : DC mi_X11_starts 64 (.iload_n 2) 1 65 := ⟨by decide +kernel, rfl⟩
theorem d_X11_starts_65 : DC mi_X11_starts 65 (.iadd) 1 66 := ⟨by decide +kernel, rfl⟩
theorem d_X11_starts_66 : DC mi_X11_starts 66 (.iconst 0) 1 67 := ⟨by decide +kernel, rfl⟩
theorem d_X11_starts_67 : DC mi_X11_starts 67 (.iastore) 1 68 := ⟨by decide +kernel, rfl⟩
theorem d_X11_starts_68 : DC mi_X11_starts 68 (.aload_n 0) 1 69 := ⟨by decide +kernel, rfl⟩
theorem d_X11_starts_69 : DC mi_X11_starts 69 (.getfield 90) 3 72 := ⟨by decide +kernel, rfl⟩
theorem d_X11_starts_72 : DC mi_X11_starts 72 (.bipush 6) 2 74 := ⟨by decide +kernel, rfl⟩
theorem d_X11_starts_74 : DC mi_X11_starts 74 (.iload_n 1) 1 75 := ⟨by decide +kernel, rfl⟩
theorem d_X11_starts_75 : DC mi_X11_starts 75 (.imul) 1 76 := ⟨by decide +kernel, rfl⟩
theorem d_X11_starts_76 : DC mi_X11_starts 76 (.iload_n 2) 1 77 := ⟨by decide +kernel, rfl⟩
theorem d_X11_starts_77 : DC mi_X11_starts 77 (.iadd) 1 78 := ⟨by decide +kernel, rfl⟩
theorem d_X11_starts_78 : DC mi_X11_starts 78 (.iconst 0) 1 79 := ⟨by decide +kernel, rfl⟩
theorem d_X11_starts_79 : DC mi_X11_starts 79 (.iastore) 1 80 := ⟨by decide +kernel, rfl⟩
theorem d_X11_starts_80 : DC mi_X11_starts 80 (.iconst 0) 1 81 := ⟨by decide +kernel, rfl⟩
theorem d_X11_starts_81 : DC mi_X11_starts 81 (.istore_n 3) 1 82 := ⟨by decide +kernel, rfl⟩
theorem d_X11_starts_82 : DC mi_X11_starts 82 (.iload_n 3) 1 83 := ⟨by decide +kernel, rfl⟩
theorem d_X11_starts_83 : DC mi_X11_starts 83 (.bipush 6) 2 85 := ⟨by decide +kernel, rfl⟩
theorem d_X11_starts_85 : DB mi_X11_starts 85 (.if_icmp .ge 73) 73 88 158 := ⟨by decide +kernel, rfl, by decide⟩
theorem d_X11_starts_88 : DC mi_X11_starts 88 (.aload_n 0) 1 89 := ⟨by decide +kernel, rfl⟩
theorem d_X11_starts_89 : DC mi_X11_starts 89 (.getfield 93) 3 92 := ⟨by decide +kernel, rfl⟩
theorem d_X11_starts_92 : DC mi_X11_starts 92 (.bipush 36) 2 94 := ⟨by decide +kernel, rfl⟩
theorem d_X11_starts_94 : DC mi_X11_starts 94 (.iload_n 1) 1 95 := ⟨by decide +kernel, rfl⟩
theorem d_X11_starts_95 : DC mi_X11_starts 95 (.imul) 1 96 := ⟨by decide +kernel, rfl⟩
theorem d_X11_starts_96 : DC mi_X11_starts 96 (.bipush 6) 2 98 := ⟨by decide +kernel, rfl⟩
theorem d_X11_starts_98 : DC mi_X11_starts 98 (.iload_n 2) 1 99 := ⟨by decide +kernel, rfl⟩
theorem d_X11_starts_99 : DC mi_X11_starts 99 (.imul) 1 100 := ⟨by decide +kernel, rfl⟩
theorem d_X11_starts_100 : DC mi_X11_starts 100 (.iadd) 1 101 := ⟨by decide +kernel, rfl⟩
theorem d_X11_starts_101 : DC mi_X11_starts 101 (.iload_n 3) 1 102 := ⟨by decide +kernel, rfl⟩
theorem d_X11_starts_102 : DC mi_X11_starts 102 (.iadd) 1 103 := ⟨by decide +kernel, rfl⟩
theorem d_X11_starts_103 : DC mi_X11_starts 103 (.iload_n 2) 1 104 := ⟨by decide +kernel, rfl⟩
theorem d_X11_starts_104 : DC mi_X11_starts 104 (.aload_n 0) 1 105 := ⟨by decide +kernel, rfl⟩
theorem d_X11_starts_105 : DC mi_X11_starts 105 (.getfield 13) 3 108 := ⟨by decide +kernel, rfl⟩
theorem d_X11_starts_108 : DC mi_X11_starts 108 (.iconst 1) 1 109 := ⟨by decide +kernel, rfl⟩
theorem d_X11_starts_109 : DC mi_X11_starts 109 (.iaload) 1 110 := ⟨by decide +kernel, rfl⟩
theorem d_X11_starts_110 : DB mi_X11_starts 110 (.if_icmp .lt 7) 7 113 117 := ⟨by decide +kernel, rfl, by decide⟩
theorem d_X11_starts_113 : DC mi_X11_starts 113 (.iconst 0) 1 114 := ⟨by decide +kernel, rfl⟩
theorem d_X11_starts_114 : DB mi_X11_starts 114 (.goto 37) 37 117 151 := ⟨by decide +kernel, rfl, by decide⟩
theorem d_X11_starts_117 : DC mi_X11_starts 117 (.iload_n 2) 1 118 := ⟨by decide +kernel, rfl⟩
theorem d_X11_starts_118 : DC mi_X11_starts 118 (.aload_n 0) 1 119 := ⟨by decide +kernel, rfl⟩
theorem d_X11_starts_119 : DC mi_X11_starts 119 (.getfield 96) 3 122 := ⟨by decide +kernel, rfl⟩
theorem d_X11_starts_122 : DB mi_X11_starts 122 (.if_icmp .ne 18) 18 125 140 := ⟨by decide +kernel, rfl, by decide⟩
theorem d_X11_starts_125 : DC mi_X11_starts 125 (.iload_n 3) 1 126 := ⟨by decide +kernel, rfl⟩
theorem d_X11_starts_126 : DC mi_X11_starts 126 (.aload_n 0) 1 127 := ⟨by decide +kernel, rfl⟩
theorem d_X11_starts_127 : DC mi_X11_starts 127 (.getfield 99) 3 130 := ⟨by decide +kernel, rfl⟩
theorem d_X11_starts_130 : DB mi_X11_starts 130 (.if_icmp .ne 10) 10 133 140 := ⟨by decide +kernel, rfl, by decide⟩
theorem d_X11_starts_133 : DC mi_X11_starts 133 (.aload_n 0) 1 134 := ⟨by decide +kernel, rfl⟩
theorem d_X11_starts_134 : DC mi_X11_starts 134 (.getfield 340) 3 137 := ⟨by decide +kernel, rfl⟩
theorem d_X11_starts_137 : DB mi_X11_starts 137 (.goto 14) 14 140 151 := ⟨by decide +kernel, rfl, by decide⟩
theorem d_X11_starts_140 : DC mi_X11_starts 140 (.aload_n 0) 1 141 := ⟨by decide +kernel, rfl⟩
theorem d_X11_starts_141 : DC mi_X11_starts 141 (.getfield 28) 3 144 := ⟨by decide +kernel, rfl⟩
theorem d_X11_starts_144 : DC mi_X11_starts 144 (.bipush 6) 2 146 := ⟨by decide +kernel, rfl⟩
theorem d_X11_starts_146 : DC mi_X11_starts 146 (.iload_n 2) 1 147 := ⟨by decide +kernel, rfl⟩
theorem d_X11_starts_147 : DC mi_X11_starts 147 (.imul) 1 148 := ⟨by decide +kernel, rfl⟩
theorem d_X11_starts_148 : DC mi_X11_starts 148 (.iload_n 3) 1 149 := ⟨by decide +kernel, rfl⟩
theorem d_X11_starts_149 : DC mi_X11_starts 149 (.iadd) 1 150 := ⟨by decide +kernel, rfl⟩
theorem d_X11_starts_150 : DC mi_X11_starts 150 (.iaload) 1 151 := ⟨by decide +kernel, rfl⟩
theorem d_X11_starts_151 : DC mi_X11_starts 151 (.iastore) 1 152 := ⟨by decide +kernel, rfl⟩
theorem d_X11_starts_152 : DC mi_X11_starts 152 (.iinc 3 1) 3 155 := ⟨by decide +kernel, rfl⟩
theorem d_X11_starts_155 : DB mi_X11_starts 155 (.goto (-73)) (-73) 158 82 := ⟨by decide +kernel, rfl, by decide⟩
theorem d_X11_starts_158 : DC mi_X11_starts 158 (.iinc 2 1) 3 161 := ⟨by decide +kernel, rfl⟩
theorem d_X11_starts_161 : DB mi_X11_starts 161 (.goto (-140)) (-140) 164 21 := ⟨by decide +kernel, rfl, by decide⟩
theorem d_X11_starts_164 : DC mi_X11_starts 164 (.return_) 1 165 := ⟨by decide +kernel, rfl⟩
set_option maxHeartbeats 4000000 in
set_option maxRecDepth 100000 in
theorem sL_X11_starts_82 (d : Nat) (hd : 0 ≤ d) (K158 : HH → Option (Unit × HH)) (c1 : Int32) (c2 : Int32) (hK158 : ∀ (h : HH), Sx mi_X11_starts d iU (K158 h) 158 [(0, .ref 255), (1, .int c1), (2, .int c2)] [] h) : ∀ (n : Nat) (x3 : Int32) (h : HH), Sx mi_X11_starts d iU (g_X11_starts_L82 K158 c1 c2 n x3 h) 82 [(0, .ref 255), (1, .int c1), (2, .int c2), (3, .int x3)] [] h := by
  intro n
  induction n with
  | zero => intro x3 h; exact sx_none
  | succ n ih =>
    intro x3 h
    rw [g_X11_starts_L82]
    refine sx_iload_n d_X11_starts_82 3 rfl ?_
    refine sx_bipush d_X11_starts_83 bc6 ?_
    refine sx_icmp_ge d_X11_starts_85 ?_ ?_
    · refine sx_aload_n d_X11_starts_88 0 rfl ?_
      refine sx_getF (a' := 282) fl_StairCountModel_93 sh_255 rfl rfl d_X11_starts_89 ?_
      refine sx_bipush d_X11_starts_92 bc36 ?_
      refine sx_iload_n d_X11_starts_94 1 rfl ?_
      refine sx_imul d_X11_starts_95 ?_
      refine sx_bipush d_X11_starts_96 bc6 ?_
      refine sx_iload_n d_X11_starts_98 2 rfl ?_
      refine sx_imul d_X11_starts_99 ?_
      refine sx_iadd d_X11_starts_100 ?_
      refine sx_iload_n d_X11_starts_101 3 rfl ?_
      refine sx_iadd d_X11_starts_102 ?_
      refine sx_iload_n d_X11_starts_103 2 rfl ?_
      refine sx_aload_n d_X11_starts_104 0 rfl ?_
      refine sx_getF (a' := 257) fl_StairCountModel_13 sh_255 rfl rfl d_X11_starts_105 ?_
      refine sx_iconst d_X11_starts_108 ic1 ?_
      refine sx_iald sh_257 d_X11_starts_109 (fun v9 => ?_)
      refine sx_jn (fun j => ∀ (y13 : Int32) (h : HH), Sx mi_X11_starts d iU (j y13 h) 151 [(0, .ref 255), (1, .int c1), (2, .int c2), (3, .int x3)] [.int y13, .int ((((36 : Int32) * c1) + ((6 : Int32) * c2)) + x3), .ref 282] h) ?_ ?_
      · intro y13 h12
        refine sx_iast sh_282 d_X11_starts_151 (fun h14 => ?_)
        refine sx_iincV (lc' := fun v15 => [(3, .int v15), (0, .ref 255), (1, .int c1), (2, .int c2)]) (k0 := 3) d_X11_starts_152 rfl ii1 (by decide) (fun _ => rfl) (fun v15 => ?_)
        refine sx_goto d_X11_starts_155 ?_
        refine sx_lc (lc' := [(0, .ref 255), (1, .int c1), (2, .int c2), (3, .int v15)]) [1, 2, 3, 0] rfl ?_
        exact ih v15 h14
      · intro j10 k11
        refine sx_icmp_lt d_X11_starts_110 ?_ ?_
        · refine sx_iload_n d_X11_starts_117 2 rfl ?_
          refine sx_aload_n d_X11_starts_118 0 rfl ?_
          refine sx_getI fl_StairCountModel_96 sh_255 rfl d_X11_starts_119 (fun v16 => ?_)
          refine sx_jn (fun j => ∀  (h : HH), Sx mi_X11_starts d iU (j  h) 140 [(0, .ref 255), (1, .int c1), (2, .int c2), (3, .int x3)] [.int ((((36 : Int32) * c1) + ((6 : Int32) * c2)) + x3), .ref 282] h) ?_ ?_
          · intro  h19
            refine sx_aload_n d_X11_starts_140 0 rfl ?_
            refine sx_getF (a' := 262) fl_StairCountModel_28 sh_255 rfl rfl d_X11_starts_141 ?_
            refine sx_bipush d_X11_starts_144 bc6 ?_
            refine sx_iload_n d_X11_starts_146 2 rfl ?_
            refine sx_imul d_X11_starts_147 ?_
            refine sx_iload_n d_X11_starts_148 3 rfl ?_
            refine sx_iadd d_X11_starts_149 ?_
            refine sx_iald sh_262 d_X11_starts_150 (fun v20 => ?_)
            exact k11 v20 h19
          · intro j17 k18
            refine sx_icmp_ne d_X11_starts_122 ?_ ?_
            · refine sx_iload_n d_X11_starts_125 3 rfl ?_
              refine sx_aload_n d_X11_starts_126 0 rfl ?_
              refine sx_getI fl_StairCountModel_99 sh_255 rfl d_X11_starts_127 (fun v21 => ?_)
              refine sx_icmp_ne d_X11_starts_130 ?_ ?_
              · refine sx_aload_n d_X11_starts_133 0 rfl ?_
                refine sx_getI fl_StairCountModel_340 sh_255 rfl d_X11_starts_134 (fun v22 => ?_)
                refine sx_goto d_X11_starts_137 ?_
                exact k11 v22 h
              · exact k18 h
            · exact k18 h
        · refine sx_iconst d_X11_starts_113 ic0 ?_
          refine sx_goto d_X11_starts_114 ?_
          exact k11 (0 : Int32) h
    · refine sx_lc (lc' := [(0, .ref 255), (1, .int c1), (2, .int c2)]) [0, 1, 2] rfl ?_
      exact hK158 h
set_option maxHeartbeats 4000000 in
set_option maxRecDepth 100000 in
theorem sL_X11_starts_21 (d : Nat) (hd : 0 ≤ d) (c1 : Int32) : ∀ (n : Nat) (x2 : Int32) (h : HH), Sx mi_X11_starts d iU (g_X11_starts_L21 c1 n x2 h) 21 [(0, .ref 255), (1, .int c1), (2, .int x2)] [] h := by
  intro n
  induction n with
  | zero => intro x2 h; exact sx_none
  | succ n ih =>
    intro x2 h
    rw [g_X11_starts_L21]
    refine sx_iload_n d_X11_starts_21 2 rfl ?_
    refine sx_bipush d_X11_starts_22 bc6 ?_
    refine sx_icmp_ge d_X11_starts_24 ?_ ?_
    · refine sx_aload_n d_X11_starts_27 0 rfl ?_
      refine sx_getF (a' := 278) fl_StairCountModel_81 sh_255 rfl rfl d_X11_starts_28 ?_
      refine sx_bipush d_X11_starts_31 bc6 ?_
      refine sx_iload_n d_X11_starts_33 1 rfl ?_
      refine sx_imul d_X11_starts_34 ?_
      refine sx_iload_n d_X11_starts_35 2 rfl ?_
      refine sx_iadd d_X11_starts_36 ?_
      refine sx_aload_n d_X11_starts_37 0 rfl ?_
      refine sx_getF (a' := 260) fl_StairCountModel_22 sh_255 rfl rfl d_X11_starts_38 ?_
      refine sx_iload_n d_X11_starts_41 2 rfl ?_
      refine sx_iald sh_260 d_X11_starts_42 (fun v4 => ?_)
      refine sx_iast sh_278 d_X11_starts_43 (fun h5 => ?_)
      refine sx_aload_n d_X11_starts_44 0 rfl ?_
      refine sx_getF (a' := 279) fl_StairCountModel_84 sh_255 rfl rfl d_X11_starts_45 ?_
      refine sx_bipush d_X11_starts_48 bc6 ?_
      refine sx_iload_n d_X11_starts_50 1 rfl ?_
      refine sx_imul d_X11_starts_51 ?_
      refine sx_iload_n d_X11_starts_52 2 rfl ?_
      refine sx_iadd d_X11_starts_53 ?_
      refine sx_iconst d_X11_starts_54 ic0 ?_
      refine sx_iast sh_279 d_X11_starts_55 (fun h6 => ?_)
      refine sx_aload_n d_X11_starts_56 0 rfl ?_
      refine sx_getF (a' := 280) fl_StairCountModel_87 sh_255 rfl rfl d_X11_starts_57 ?_
      refine sx_bipush d_X11_starts_60 bc6 ?_
      refine sx_iload_n d_X11_starts_62 1 rfl ?_
      refine sx_imul d_X11_starts_63 ?_
      refine sx_iload_n d_X11_starts_64 2 rfl ?_
      refine sx_iadd d_X11_starts_65 ?_
      refine sx_iconst d_X11_starts_66 ic0 ?_
      refine sx_iast sh_280 d_X11_starts_67 (fun h7 => ?_)
      refine sx_aload_n d_X11_starts_68 0 rfl ?_
      refine sx_getF (a' := 281) fl_StairCountModel_90 sh_255 rfl rfl d_X11_starts_69 ?_
      refine sx_bipush d_X11_starts_72 bc6 ?_
      refine sx_iload_n d_X11_starts_74 1 rfl ?_
      refine sx_imul d_X11_starts_75 ?_
      refine sx_iload_n d_X11_starts_76 2 rfl ?_
      refine sx_iadd d_X11_starts_77 ?_
      refine sx_iconst d_X11_starts_78 ic0 ?_
      refine sx_iast sh_281 d_X11_starts_79 (fun h8 => ?_)
      refine sx_iconst d_X11_starts_80 ic0 ?_
      refine sx_istore_n (i := 3) (lc' := [(3, .int (0 : Int32)), (0, .ref 255), (1, .int c1), (2, .int x2)]) d_X11_starts_81 rfl (by decide) rfl ?_
      refine sx_lc (lc' := [(0, .ref 255), (1, .int c1), (2, .int x2), (3, .int (0 : Int32))]) [1, 2, 3, 0] rfl ?_
      refine sL_X11_starts_82 d hd _ c1 x2 ?_ 1024 (0 : Int32) h8
      · intro h23
        refine sx_iincV (lc' := fun v24 => [(2, .int v24), (0, .ref 255), (1, .int c1)]) (k0 := 2) d_X11_starts_158 rfl ii1 (by decide) (fun _ => rfl) (fun v24 => ?_)
        refine sx_goto d_X11_starts_161 ?_
        refine sx_lc (lc' := [(0, .ref 255), (1, .int c1), (2, .int v24)]) [1, 2, 0] rfl ?_
        exact ih v24 h23
    · exact sx_vret rfl d_X11_starts_164
set_option maxHeartbeats 4000000 in
set_option maxRecDepth 100000 in
theorem sp_X11_starts (d : Nat) (hd : 0 ≤ d) (a0 : Int32) (h : HH) : Sp mi_X11_starts d iU [.ref 255, .int a0] h (g_X11_starts a0 h) := by
  refine sp_of (lc := [(0, .ref 255), (1, .int a0)]) (by decide) (Nat.le_of_ble_eq_true rfl) rfl ?_
  unfold g_X11_starts
  refine sx_aload_n d_X11_starts_0 0 rfl ?_
  refine sx_getF (a' := 276) fl_StairCountModel_75 sh_255 rfl rfl d_X11_starts_1 ?_
  refine sx_iload_n d_X11_starts_4 1 rfl ?_
  refine sx_iconst d_X11_starts_5 ic0 ?_
  refine sx_iast sh_276 d_X11_starts_6 (fun h1 => ?_)
  refine sx_aload_n d_X11_starts_7 0 rfl ?_
  refine sx_getF (a' := 277) fl_StairCountModel_78 sh_255 rfl rfl d_X11_starts_8 ?_
  refine sx_iload_n d_X11_starts_11 1 rfl ?_
  refine sx_aload_n d_X11_starts_12 0 rfl ?_
  refine sx_getF (a' := 257) fl_StairCountModel_13 sh_255 rfl rfl d_X11_starts_13 ?_
  refine sx_iconst d_X11_starts_16 ic5 ?_
  refine sx_iald sh_257 d_X11_starts_17 (fun v2 => ?_)
  refine sx_iast sh_277 d_X11_starts_18 (fun h3 => ?_)
  refine sx_iconst d_X11_starts_19 ic0 ?_
  refine sx_istore_n (i := 2) (lc' := [(2, .int (0 : Int32)), (0, .ref 255), (1, .int a0)]) d_X11_starts_20 rfl (by decide) rfl ?_
  refine sx_lc (lc' := [(0, .ref 255), (1, .int a0), (2, .int (0 : Int32))]) [1, 2, 0] rfl ?_
  refine sL_X11_starts_21 d hd a0 1024 (0 : Int32) h3
theorem d_X11_begins_0 : DC mi_X11_begins 0 (.aload_n 0) 1 1 := ⟨by decide +kernel, rfl⟩
theorem d_X11_begins_1 : DC mi_X11_begins 1 (.iconst 0) 1 2 := ⟨by decide +kernel, rfl⟩
theorem d_X11_begins_2 : DC mi_X11_begins 2 (.invokevirtual 343) 3 5 := ⟨by decide +kernel, rfl⟩
theorem d_X11_begins_5 : DC mi_X11_begins 5 (.return_) 1 6 := ⟨by decide +kernel, rfl⟩
set_option maxHeartbeats 4000000 in
set_option maxRecDepth 100000 in
theorem sp_X11_begins (d : Nat) (hd : 1 ≤ d) (h : HH) : Sp mi_X11_begins d iU [.ref 255] h (g_X11_begins h) := by
  refine sp_of (lc := [(0, .ref 255)]) (by decide) (Nat.le_of_ble_eq_true rfl) rfl ?_
  unfold g_X11_begins
  refine sx_aload_n d_X11_begins_0 0 rfl ?_
  refine sx_iconst d_X11_begins_1 ic0 ?_
  refine sx_callV [.int (0 : Int32)] mv_X11_starts lM_StairCountModel_343 sh_255 (by omega) rfl rfl (Nat.le_of_ble_eq_true rfl) d_X11_begins_2 (sp_X11_starts (d - 1) (by omega) (0 : Int32) h) (fun _ h1 => ?_)
  exact sx_vret rfl d_X11_begins_5
theorem d_X11_text_0 : DC mi_X11_text 0 (.aload_n 0) 1 1 := ⟨by decide +kernel, rfl⟩
theorem d_X11_text_1 : DC mi_X11_text 1 (.iconst 0) 1 2 := ⟨by decide +kernel, rfl⟩
theorem d_X11_text_2 : DC mi_X11_text 2 (.putfield 148) 3 5 := ⟨by decide +kernel, rfl⟩
theorem d_X11_text_5 : DC mi_X11_text 5 (.iload_n 1) 1 6 := ⟨by decide +kernel, rfl⟩
theorem d_X11_text_6 : DB mi_X11_text 6 (.ifCond .lt 11) 11 9 17 := ⟨by decide +kernel, rfl, by decide⟩
theorem d_X11_text_9 : DC mi_X11_text 9 (.iload_n 1) 1 10 := ⟨by decide +kernel, rfl⟩
theorem d_X11_text_10 : DC mi_X11_text 10 (.aload_n 0) 1 11 := ⟨by decide +kernel, rfl⟩
theorem d_X11_text_11 : DC mi_X11_text 11 (.getfield 151) 3 14 := ⟨by decide +kernel, rfl⟩
theorem d_X11_text_14 : DB mi_X11_text 14 (.if_icmp .le 6) 6 17 20 := ⟨by decide +kernel, rfl, by decide⟩
theorem d_X11_text_17 : DC mi_X11_text 17 (.bipush (-2)) 2 19 := ⟨by decide +kernel, rfl⟩
theorem d_X11_text_19 : DC mi_X11_text 19 (.ireturn) 1 20 := ⟨by decide +kernel, rfl⟩
theorem d_X11_text_20 : DC mi_X11_text 20 (.aload_n 0) 1 21 := ⟨by decide +kernel, rfl⟩
theorem d_X11_text_21 : DC mi_X11_text 21 (.iload_n 1) 1 22 := ⟨by decide +kernel, rfl⟩
theorem d_X11_text_22 : DC mi_X11_text 22 (.putfield 157) 3 25 := ⟨by decide +kernel, rfl⟩
theorem d_X11_text_25 : DC mi_X11_text 25 (.aload_n 0) 1 26 := ⟨by decide +kernel, rfl⟩
theorem d_X11_text_26 : DC mi_X11_text 26 (.iconst 0) 1 27 := ⟨by decide +kernel, rfl⟩
theorem d_X11_text_27 : DC mi_X11_text 27 (.putfield 151) 3 30 := ⟨by decide +kernel, rfl⟩
theorem d_X11_text_30 : DC mi_X11_text 30 (.aload_n 0) 1 31 := ⟨by decide +kernel, rfl⟩
theorem d_X11_text_31 : DC mi_X11_text 31 (.iconst 0) 1 32 := ⟨by decide +kernel, rfl⟩
theorem d_X11_text_32 : DC mi_X11_text 32 (.putfield 154) 3 35 := ⟨by decide +kernel, rfl⟩
theorem d_X11_text_35 : DC mi_X11_text 35 (.aload_n 0) 1 36 := ⟨by decide +kernel, rfl⟩
theorem d_X11_text_36 : DC mi_X11_text 36 (.iconst 0) 1 37 := ⟨by decide +kernel, rfl⟩
theorem d_X11_text_37 : DC mi_X11_text 37 (.putfield 202) 3 40 := ⟨by decide +kernel, rfl⟩
theorem d_X11_text_40 : DC mi_X11_text 40 (.aload_n 0) 1 41 := ⟨by decide +kernel, rfl⟩
theorem d_X11_text_41 : DC mi_X11_text 41 (.iconst (-1)) 1 42 := ⟨by decide +kernel, rfl⟩
theorem d_X11_text_42 : DC mi_X11_text 42 (.putfield 205) 3 45 := ⟨by decide +kernel, rfl⟩
theorem d_X11_text_45 : DC mi_X11_text 45 (.iconst 0) 1 46 := ⟨by decide +kernel, rfl⟩
theorem d_X11_text_46 : DC mi_X11_text 46 (.istore_n 2) 1 47 := ⟨by decide +kernel, rfl⟩
theorem d_X11_text_47 : DC mi_X11_text 47 (.iload_n 2) 1 48 := ⟨by decide +kernel, rfl⟩
theorem d_X11_text_48 : DC mi_X11_text 48 (.bipush 7) 2 50 := ⟨by decide +kernel, rfl⟩
theorem d_X11_text_50 : DB mi_X11_text 50 (.if_icmp .ge 15) 15 53 65 := ⟨by decide +kernel, rfl, by decide⟩
theorem d_X11_text_53 : DC mi_X11_text 53 (.aload_n 0) 1 54 := ⟨by decide +kernel, rfl⟩
theorem d_X11_text_54 : DC mi_X11_text 54 (.iload_n 2) 1 55 := ⟨by decide +kernel, rfl⟩
theorem d_X11_text_55 : DC mi_X11_text 55 (.iconst 0) 1 56 := ⟨by decide +kernel, rfl⟩
theorem d_X11_text_56 : DC mi_X11_text 56 (.invokevirtual 235) 3 59 := ⟨by decide +kernel, rfl⟩
theorem d_X11_text_59 : DC mi_X11_text 59 (.iinc 2 1) 3 62 := ⟨by decide +kernel, rfl⟩
theorem d_X11_text_62 : DB mi_X11_text 62 (.goto (-15)) (-15) 65 47 := ⟨by decide +kernel, rfl, by decide⟩
theorem d_X11_text_65 : DC mi_X11_text 65 (.iconst 3) 1 66 := ⟨by decide +kernel, rfl⟩
theorem d_X11_text_66 : DC mi_X11_text 66 (.istore_n 2) 1 67 := ⟨by decide +kernel, rfl⟩
theorem d_X11_text_67 : DC mi_X11_text 67 (.iload_n 2) 1 68 := ⟨by decide +kernel, rfl⟩
theorem d_X11_text_68 : DC mi_X11_text 68 (.bipush 6) 2 70 := ⟨by decide +kernel, rfl⟩
theorem d_X11_text_70 : DB mi_X11_text 70 (.if_icmp .ge 23) 23 73 93 := ⟨by decide +kernel, rfl, by decide⟩
theorem d_X11_text_73 : DC mi_X11_text 73 (.aload_n 0) 1 74 := ⟨by decide +kernel, rfl⟩
theorem d_X11_text_74 : DC mi_X11_text 74 (.getfield 52) 3 77 := ⟨by decide +kernel, rfl⟩
theorem d_X11_text_77 : DC mi_X11_text 77 (.iload_n 2) 1 78 := ⟨by decide +kernel, rfl⟩
theorem d_X11_text_78 : DC mi_X11_text 78 (.iconst 0) 1 79 := ⟨by decide +kernel, rfl⟩
theorem d_X11_text_79 : DC mi_X11_text 79 (.iastore) 1 80 := ⟨by decide +kernel, rfl⟩
theorem d_X11_text_80 : DC mi_X11_text 80 (.aload_n 0) 1 81 := ⟨by decide +kernel, rfl⟩
theorem d_X11_text_81 : DC mi_X11_text 81 (.getfield 55) 3 84 := ⟨by decide +kernel, rfl⟩
theorem d_X11_text_84 : DC mi_X11_text 84 (.iload_n 2) 1 85 := ⟨by decide +kernel, rfl⟩
theorem d_X11_text_85 : DC mi_X11_text 85 (.iconst 0) 1 86 := ⟨by decide +kernel, rfl⟩
theorem d_X11_text_86 : DC mi_X11_text 86 (.iastore) 1 87 := ⟨by decide +kernel, rfl⟩
theorem d_X11_text_87 : DC mi_X11_text 87 (.iinc 2 1) 3 90 := ⟨by decide +kernel, rfl⟩
theorem d_X11_text_90 : DB mi_X11_text 90 (.goto (-23)) (-23) 93 67 := ⟨by decide +kernel, rfl, by decide⟩
theorem d_X11_text_93 : DC mi_X11_text 93 (.aload_n 0) 1 94 := ⟨by decide +kernel, rfl⟩
theorem d_X11_text_94 : DC mi_X11_text 94 (.iconst 0) 1 95 := ⟨by decide +kernel, rfl⟩
theorem d_X11_text_95 : DC mi_X11_text 95 (.putfield 225) 3 98 := ⟨by decide +kernel, rfl⟩
theorem d_X11_text_98 : DC mi_X11_text 98 (.aload_n 0) 1 99 := ⟨by decide +kernel, rfl⟩
theorem d_X11_text_99 : DC mi_X11_text 99 (.iconst 0) 1 100 := ⟨by decide +kernel, rfl⟩
theorem d_X11_text_100 : DC mi_X11_text 100 (.putfield 257) 3 103 := ⟨by decide +kernel, rfl⟩
theorem d_X11_text_103 : DC mi_X11_text 103 (.aload_n 0) 1 104 := ⟨by decide +kernel, rfl⟩
theorem d_X11_text_104 : DC mi_X11_text 104 (.iconst 0) 1 105 := ⟨by decide +kernel, rfl⟩
theorem d_X11_text_105 : DC mi_X11_text 105 (.putfield 297) 3 108 := ⟨by decide +kernel, rfl⟩
theorem d_X11_text_108 : DC mi_X11_text 108 (.aload_n 0) 1 109 := ⟨by decide +kernel, rfl⟩
theorem d_X11_text_109 : DC mi_X11_text 109 (.iconst 0) 1 110 := ⟨by decide +kernel, rfl⟩
theorem d_X11_text_110 : DC mi_X11_text 110 (.putfield 270) 3 113 := ⟨by decide +kernel, rfl⟩
theorem d_X11_text_113 : DC mi_X11_text 113 (.aload_n 0) 1 114 := ⟨by decide +kernel, rfl⟩
theorem d_X11_text_114 : DC mi_X11_text 114 (.invokevirtual 208) 3 117 := ⟨by decide +kernel, rfl⟩
theorem d_X11_text_117 : DC mi_X11_text 117 (.aload_n 0) 1 118 := ⟨by decide +kernel, rfl⟩
theorem d_X11_text_118 : DC mi_X11_text 118 (.getfield 202) 3 121 := ⟨by decide +kernel, rfl⟩
theorem d_X11_text_121 : DB mi_X11_text 121 (.ifCond .ne 18) 18 124 139 := ⟨by decide +kernel, rfl, by decide⟩
theorem d_X11_text_124 : DC mi_X11_text 124 (.aload_n 0) 1 125 := ⟨by decide +kernel, rfl⟩
theorem d_X11_text_125 : DC mi_X11_text 125 (.getfield 167) 3 128 := ⟨by decide +kernel, rfl⟩
theorem d_X11_text_128 : DC mi_X11_text 128 (.iconst 4) 1 129 := ⟨by decide +kernel, rfl⟩
theorem d_X11_text_129 : DB mi_X11_text 129 (.if_icmp .eq 10) 10 132 139 := ⟨by decide +kernel, rfl, by decide⟩
theorem d_X11_text_132 : DC mi_X11_text 132 (.aload_n 0) 1 133 := ⟨by decide +kernel, rfl⟩
theorem d_X11_text_133 : DC mi_X11_text 133 (.invokevirtual 300) 3 136 := ⟨by decide +kernel, rfl⟩
theorem d_X11_text_136 : DB mi_X11_text 136 (.goto (-19)) (-19) 139 117 := ⟨by decide +kernel, rfl, by decide⟩
theorem d_X11_text_139 : DC mi_X11_text 139 (.aload_n 0) 1 140 := ⟨by decide +kernel, rfl⟩
theorem d_X11_text_140 : DC mi_X11_text 140 (.aload_n 0) 1 141 := ⟨by decide +kernel, rfl⟩
theorem d_X11_text_141 : DC mi_X11_text 141 (.getfield 202) 3 144 := ⟨by decide +kernel, rfl⟩
theorem d_X11_text_144 : DC mi_X11_text 144 (.putfield 303) 3 147 := ⟨by decide +kernel, rfl⟩
theorem d_X11_text_147 : DC mi_X11_text 147 (.aload_n 0) 1 148 := ⟨by decide +kernel, rfl⟩
theorem d_X11_text_148 : DC mi_X11_text 148 (.aload_n 0) 1 149 := ⟨by decide +kernel, rfl⟩
theorem d_X11_text_149 : DC mi_X11_text 149 (.getfield 205) 3 152 := ⟨by decide +kernel, rfl⟩
theorem d_X11_text_152 : DC mi_X11_text 152 (.putfield 64) 3 155 := ⟨by decide +kernel, rfl⟩
theorem d_X11_text_155 : DC mi_X11_text 155 (.aload_n 0) 1 156 := ⟨by decide +kernel, rfl⟩
theorem d_X11_text_156 : DC mi_X11_text 156 (.getfield 202) 3 159 := ⟨by decide +kernel, rfl⟩
theorem d_X11_text_159 : DB mi_X11_text 159 (.ifCond .eq 5) 5 162 164 := ⟨by decide +kernel, rfl, by decide⟩
theorem d_X11_text_162 : DC mi_X11_text 162 (.iconst (-1)) 1 163 := ⟨by decide +kernel, rfl⟩
theorem d_X11_text_163 : DC mi_X11_text 163 (.ireturn) 1 164 := ⟨by decide +kernel, rfl⟩
theorem d_X11_text_164 : DC mi_X11_text 164 (.aload_n 0) 1 165 := ⟨by decide +kernel, rfl⟩
theorem d_X11_text_165 : DC mi_X11_text 165 (.getfield 13) 3 168 := ⟨by decide +kernel, rfl⟩
theorem d_X11_text_168 : DC mi_X11_text 168 (.invokestatic 306) 3 171 := ⟨by decide +kernel, rfl⟩
theorem d_X11_text_171 : DC mi_X11_text 171 (.aload_n 0) 1 172 := ⟨by decide +kernel, rfl⟩
theorem d_X11_text_172 : DC mi_X11_text 172 (.getfield 16) 3 175 := ⟨by decide +kernel, rfl⟩
theorem d_X11_text_175 : DC mi_X11_text 175 (.invokestatic 306) 3 178 := ⟨by decide +kernel, rfl⟩
theorem d_X11_text_178 : DC mi_X11_text 178 (.aload_n 0) 1 179 := ⟨by decide +kernel, rfl⟩
theorem d_X11_text_179 : DC mi_X11_text 179 (.getfield 19) 3 182 := ⟨by decide +kernel, rfl⟩
theorem d_X11_text_182 : DC mi_X11_text 182 (.invokestatic 306) 3 185 := ⟨by decide +kernel, rfl⟩
theorem d_X11_text_185 : DC mi_X11_text 185 (.aload_n 0) 1 186 := ⟨by decide +kernel, rfl⟩
theorem d_X11_text_186 : DC mi_X11_text 186 (.getfield 22) 3 189 := ⟨by decide +kernel, rfl⟩
theorem d_X11_text_189 : DC mi_X11_text 189 (.invokestatic 306) 3 192 := ⟨by decide +kernel, rfl⟩
theorem d_X11_text_192 : DC mi_X11_text 192 (.aload_n 0) 1 193 := ⟨by decide +kernel, rfl⟩
theorem d_X11_text_193 : DC mi_X11_text 193 (.getfield 25) 3 196 := ⟨by decide +kernel, rfl⟩
theorem d_X11_text_196 : DC mi_X11_text 196 (.invokestatic 306) 3 199 := ⟨by decide +kernel, rfl⟩
theorem d_X11_text_199 : DC mi_X11_text 199 (.aload_n 0) 1 200 := ⟨by decide +kernel, rfl⟩
theorem d_X11_text_200 : DC mi_X11_text 200 (.getfield 28) 3 203 := ⟨by decide +kernel, rfl⟩
theorem d_X11_text_203 : DC mi_X11_text 203 (.invokestatic 306) 3 206 := ⟨by decide +kernel, rfl⟩
theorem d_X11_text_206 : DC mi_X11_text 206 (.aload_n 0) 1 207 := ⟨by decide +kernel, rfl⟩
theorem d_X11_text_207 : DC mi_X11_text 207 (.getfield 31) 3 210 := ⟨by decide +kernel, rfl⟩
theorem d_X11_text_210 : DC mi_X11_text 210 (.invokestatic 306) 3 213 := ⟨by decide +kernel, rfl⟩
theorem d_X11_text_213 : DC mi_X11_text 213 (.aload_n 0) 1 214 := ⟨by decide +kernel, rfl⟩
theorem d_X11_text_214 : DC mi_X11_text 214 (.getfield 34) 3 217 := ⟨by decide +kernel, rfl⟩
theorem d_X11_text_217 : DC mi_X11_text 217 (.invokestatic 306) 3 220 := ⟨by decide +kernel, rfl⟩
theorem d_X11_text_220 : DC mi_X11_text 220 (.aload_n 0) 1 221 := ⟨by decide +kernel, rfl⟩
theorem d_X11_text_221 : DC mi_X11_text 221 (.getfield 37) 3 224 := ⟨by decide +kernel, rfl⟩
theorem d_X11_text_224 : DC mi_X11_text 224 (.invokestatic 306) 3 227 := ⟨by decide +kernel, rfl⟩
theorem d_X11_text_227 : DC mi_X11_text 227 (.aload_n 0) 1 228 := ⟨by decide +kernel, rfl⟩
theorem d_X11_text_228 : DC mi_X11_text 228 (.getfield 40) 3 231 := ⟨by decide +kernel, rfl⟩
theorem d_X11_text_231 : DC mi_X11_text 231 (.invokestatic 306) 3 234 := ⟨by decide +kernel, rfl⟩
theorem d_X11_text_234 : DC mi_X11_text 234 (.aload_n 0) 1 235 := ⟨by decide +kernel, rfl⟩
theorem d_X11_text_235 : DC mi_X11_text 235 (.getfield 43) 3 238 := ⟨by decide +kernel, rfl⟩
theorem d_X11_text_238 : DC mi_X11_text 238 (.invokestatic 306) 3 241 := ⟨by decide +kernel, rfl⟩
theorem d_X11_text_241 : DC mi_X11_text 241 (.aload_n 0) 1 242 := ⟨by decide +kernel, rfl⟩
theorem d_X11_text_242 : DC mi_X11_text 242 (.getfield 46) 3 245 := ⟨by decide +kernel, rfl⟩
theorem d_X11_text_245 : DC mi_X11_text 245 (.invokestatic 306) 3 248 := ⟨by decide +kernel, rfl⟩
theorem d_X11_text_248 : DC mi_X11_text 248 (.aload_n 0) 1 249 := ⟨by decide +kernel, rfl⟩
theorem d_X11_text_249 : DC mi_X11_text 249 (.getfield 49) 3 252 := ⟨by decide +kernel, rfl⟩
theorem d_X11_text_252 : DC mi_X11_text 252 (.invokestatic 306) 3 255 := ⟨by decide +kernel, rfl⟩
theorem d_X11_text_255 : DC mi_X11_text 255 (.aload_n 0) 1 256 := ⟨by decide +kernel, rfl⟩
theorem d_X11_text_256 : DC mi_X11_text 256 (.getfield 52) 3 259 := ⟨by decide +kernel, rfl⟩
theorem d_X11_text_259 : DC mi_X11_text 259 (.invokestatic 306) 3 262 := ⟨by decide +kernel, rfl⟩
theorem d_X11_text_262 : DC mi_X11_text 262 (.aload_n 0) 1 263 := ⟨by decide +kernel, rfl⟩
theorem d_X11_text_263 : DC mi_X11_text 263 (.getfield 55) 3 266 := ⟨by decide +kernel, rfl⟩
theorem d_X11_text_266 : DC mi_X11_text 266 (.invokestatic 306) 3 269 := ⟨by decide +kernel, rfl⟩
theorem d_X11_text_269 : DC mi_X11_text 269 (.aload_n 0) 1 270 := ⟨by decide +kernel, rfl⟩
theorem d_X11_text_270 : DC mi_X11_text 270 (.getfield 58) 3 273 := ⟨by decide +kernel, rfl⟩
theorem d_X11_text_273 : DC mi_X11_text 273 (.invokestatic 306) 3 276 := ⟨by decide +kernel, rfl⟩
theorem d_X11_text_276 : DC mi_X11_text 276 (.aload_n 0) 1 277 := ⟨by decide +kernel, rfl⟩
theorem d_X11_text_277 : DC mi_X11_text 277 (.getfield 61) 3 280 := ⟨by decide +kernel, rfl⟩
theorem d_X11_text_280 : DC mi_X11_text 280 (.invokestatic 306) 3 283 := ⟨by decide +kernel, rfl⟩
theorem d_X11_text_283 : DC mi_X11_text 283 (.aload_n 0) 1 284 := ⟨by decide +kernel, rfl⟩
theorem d_X11_text_284 : DC mi_X11_text 284 (.iconst 0) 1 285 := ⟨by decide +kernel, rfl⟩
theorem d_X11_text_285 : DC mi_X11_text 285 (.putfield 310) 3 288 := ⟨by decide +kernel, rfl⟩
theorem d_X11_text_288 : DC mi_X11_text 288 (.aload_n 0) 1 289 := ⟨by decide +kernel, rfl⟩
theorem d_X11_text_289 : DC mi_X11_text 289 (.iconst (-1)) 1 290 := ⟨by decide +kernel, rfl⟩
theorem d_X11_text_290 : DC mi_X11_text 290 (.putfield 120) 3 293 := ⟨by decide +kernel, rfl⟩
theorem d_X11_text_293 : DC mi_X11_text 293 (.aload_n 0) 1 294 := ⟨by decide +kernel, rfl⟩
theorem d_X11_text_294 : DC mi_X11_text 294 (.iconst 0) 1 295 := ⟨by decide +kernel, rfl⟩
theorem d_X11_text_295 : DC mi_X11_text 295 (.putfield 313) 3 298 := ⟨by decide +kernel, rfl⟩
theorem d_X11_text_298 : DC mi_X11_text 298 (.aload_n 0) 1 299 := ⟨by decide +kernel, rfl⟩
theorem d_X11_text_299 : DC mi_X11_text 299 (.iconst 0) 1 300 := ⟨by decide +kernel, rfl⟩
theorem d_X11_text_300 : DC mi_X11_text 300 (.putfield 317) 3 303 := ⟨by decide +kernel, rfl⟩
theorem d_X11_text_303 : DC mi_X11_text 303 (.aload_n 0) 1 304 := ⟨by decide +kernel, rfl⟩
theorem d_X11_text_304 : DC mi_X11_text 304 (.invokevirtual 145) 3 307 := ⟨by decide +kernel, rfl⟩
theorem d_X11_text_307 : DC mi_X11_text 307 (.aload_n 0) 1 308 := ⟨by decide +kernel, rfl⟩
theorem d_X11_text_308 : DC mi_X11_text 308 (.getfield 257) 3 311 := ⟨by decide +kernel, rfl⟩
theorem d_X11_text_311 : DC mi_X11_text 311 (.ireturn) 1 312 := ⟨by decide +kernel, rfl⟩
set_option maxHeartbeats 4000000 in
set_option maxRecDepth 100000 in
theorem sL_X11_text_47 (d : Nat) (hd : 212 ≤ d) (K65 : HH → Option (Int32 × HH)) (hK65 : ∀ (h : HH), Sx mi_X11_text d iI (K65 h) 65 [(0, .ref 255)] [] h) : ∀ (n : Nat) (x2 : Int32) (h : HH), Sx mi_X11_text d iI (g_X11_text_L47 K65 n x2 h) 47 [(0, .ref 255), (2, .int x2)] [] h := by
  intro n
  induction n with
  | zero => intro x2 h; exact sx_none
  | succ n ih =>
    intro x2 h
    rw [g_X11_text_L47]
    refine sx_iload_n d_X11_text_47 1 rfl ?_
    refine sx_bipush d_X11_text_48 bc7 ?_
    refine sx_icmp_ge d_X11_text_50 ?_ ?_
    · refine sx_aload_n d_X11_text_53 0 rfl ?_
      refine sx_iload_n d_X11_text_54 1 rfl ?_
      refine sx_iconst d_X11_text_55 ic0 ?_
      refine sx_callV [.int x2, .int (0 : Int32)] mv_X11_reads lM_StairCountModel_235 sh_255 (by omega) rfl rfl (Nat.le_of_ble_eq_true rfl) d_X11_text_56 (sp_X11_reads (d - 1) (by omega) x2 (0 : Int32) h) (fun _ h8 => ?_)
      refine sx_iincV (lc' := fun v10 => [(2, .int v10), (0, .ref 255)]) (k0 := 1) d_X11_text_59 rfl ii1 (by decide) (fun _ => rfl) (fun v10 => ?_)
      refine sx_goto d_X11_text_62 ?_
      refine sx_lc (lc' := [(0, .ref 255), (2, .int v10)]) [1, 0] rfl ?_
      exact ih v10 h8
    · refine sx_lc (lc' := [(0, .ref 255)]) [0] rfl ?_
      exact hK65 h
set_option maxHeartbeats 4000000 in
set_option maxRecDepth 100000 in
theorem sL_X11_text_67 (d : Nat) (hd : 212 ≤ d) (K93 : HH → Option (Int32 × HH)) (hK93 : ∀ (h : HH), Sx mi_X11_text d iI (K93 h) 93 [(0, .ref 255)] [] h) : ∀ (n : Nat) (x2 : Int32) (h : HH), Sx mi_X11_text d iI (g_X11_text_L67 K93 n x2 h) 67 [(0, .ref 255), (2, .int x2)] [] h := by
  intro n
  induction n with
  | zero => intro x2 h; exact sx_none
  | succ n ih =>
    intro x2 h
    rw [g_X11_text_L67]
    refine sx_iload_n d_X11_text_67 1 rfl ?_
    refine sx_bipush d_X11_text_68 bc6 ?_
    refine sx_icmp_ge d_X11_text_70 ?_ ?_
    · refine sx_aload_n d_X11_text_73 0 rfl ?_
      refine sx_getF (a' := 270) fl_StairCountModel_52 sh_255 rfl rfl d_X11_text_74 ?_
      refine sx_iload_n d_X11_text_77 1 rfl ?_
      refine sx_iconst d_X11_text_78 ic0 ?_
      refine sx_iast sh_270 d_X11_text_79 (fun h12 => ?_)
      refine sx_aload_n d_X11_text_80 0 rfl ?_
      refine sx_getF (a' := 271) fl_StairCountModel_55 sh_255 rfl rfl d_X11_text_81 ?_
      refine sx_iload_n d_X11_text_84 1 rfl ?_
      refine sx_iconst d_X11_text_85 ic0 ?_
      refine sx_iast sh_271 d_X11_text_86 (fun h13 => ?_)
      refine sx_iincV (lc' := fun v14 => [(2, .int v14), (0, .ref 255)]) (k0 := 1) d_X11_text_87 rfl ii1 (by decide) (fun _ => rfl) (fun v14 => ?_)
      refine sx_goto d_X11_text_90 ?_
      refine sx_lc (lc' := [(0, .ref 255), (2, .int v14)]) [1, 0] rfl ?_
      exact ih v14 h13
    · refine sx_lc (lc' := [(0, .ref 255)]) [0] rfl ?_
      exact hK93 h
set_option maxHeartbeats 4000000 in
set_option maxRecDepth 100000 in
theorem sL_X11_text_117 (d : Nat) (hd : 212 ≤ d) (K139 : HH → Option (Int32 × HH)) (hK139 : ∀ (h : HH), Sx mi_X11_text d iI (K139 h) 139 [(0, .ref 255)] [] h) : ∀ (n : Nat) (h : HH), Sx mi_X11_text d iI (g_X11_text_L117 K139 n h) 117 [(0, .ref 255)] [] h := by
  intro n
  induction n with
  | zero => intro h; exact sx_none
  | succ n ih =>
    intro h
    rw [g_X11_text_L117]
    refine sx_aload_n d_X11_text_117 0 rfl ?_
    refine sx_getI fl_StairCountModel_202 sh_255 rfl d_X11_text_118 (fun v22 => ?_)
    refine sx_if_ne d_X11_text_121 ?_ ?_
    · refine sx_aload_n d_X11_text_124 0 rfl ?_
      refine sx_getI fl_StairCountModel_167 sh_255 rfl d_X11_text_125 (fun v23 => ?_)
      refine sx_iconst d_X11_text_128 ic4 ?_
      refine sx_icmp_eq d_X11_text_129 ?_ ?_
      · exact hK139 h
      · refine sx_aload_n d_X11_text_132 0 rfl ?_
        refine sx_callV [] mv_X11_line lM_StairCountModel_300 sh_255 (by omega) rfl rfl (Nat.le_of_ble_eq_true rfl) d_X11_text_133 (sp_X11_line (d - 1) (by omega) h) (fun _ h24 => ?_)
        refine sx_goto d_X11_text_136 ?_
        exact ih h24
    · exact hK139 h
set_option maxHeartbeats 4000000 in
set_option maxRecDepth 100000 in
theorem sp_X11_text (d : Nat) (hd : 212 ≤ d) (a0 : Int32) (h : HH) : Sp mi_X11_text d iI [.ref 255, .int a0] h (g_X11_text a0 h) := by
  refine sp_of (lc := [(0, .ref 255), (1, .int a0)]) (by decide) (Nat.le_of_ble_eq_true rfl) rfl ?_
  unfold g_X11_text
  refine sx_aload_n d_X11_text_0 0 rfl ?_
  refine sx_iconst d_X11_text_1 ic0 ?_
  refine sx_putI fl_StairCountModel_148 sh_255 rfl hty_11_0 d_X11_text_2 (fun h1 => ?_)
  refine sx_iload_n d_X11_text_5 1 rfl ?_
  refine sx_if_lt d_X11_text_6 ?_ ?_
  · refine sx_bipush d_X11_text_17 bcm2 ?_
    exact sx_iret rfl d_X11_text_19
  · refine sx_iload_n d_X11_text_9 1 rfl ?_
    refine sx_aload_n d_X11_text_10 0 rfl ?_
    refine sx_getI fl_StairCountModel_151 sh_255 rfl d_X11_text_11 (fun v2 => ?_)
    refine sx_icmp_le d_X11_text_14 ?_ ?_
    · refine sx_bipush d_X11_text_17 bcm2 ?_
      exact sx_iret rfl d_X11_text_19
    · refine sx_aload_n d_X11_text_20 0 rfl ?_
      refine sx_iload_n d_X11_text_21 1 rfl ?_
      refine sx_putI fl_StairCountModel_157 sh_255 rfl hty_11_22 d_X11_text_22 (fun h3 => ?_)
      refine sx_aload_n d_X11_text_25 0 rfl ?_
      refine sx_iconst d_X11_text_26 ic0 ?_
      refine sx_putI fl_StairCountModel_151 sh_255 rfl hty_11_2 d_X11_text_27 (fun h4 => ?_)
      refine sx_aload_n d_X11_text_30 0 rfl ?_
      refine sx_iconst d_X11_text_31 ic0 ?_
      refine sx_putI fl_StairCountModel_154 sh_255 rfl hty_11_23 d_X11_text_32 (fun h5 => ?_)
      refine sx_aload_n d_X11_text_35 0 rfl ?_
      refine sx_iconst d_X11_text_36 ic0 ?_
      refine sx_putI fl_StairCountModel_202 sh_255 rfl hty_11_27 d_X11_text_37 (fun h6 => ?_)
      refine sx_aload_n d_X11_text_40 0 rfl ?_
      refine sx_iconst d_X11_text_41 icm1 ?_
      refine sx_putI fl_StairCountModel_205 sh_255 rfl hty_11_28 d_X11_text_42 (fun h7 => ?_)
      refine sx_iconst d_X11_text_45 ic0 ?_
      refine sx_istore_n (i := 2) (lc' := [(2, .int (0 : Int32)), (0, .ref 255), (1, .int a0)]) d_X11_text_46 rfl (by decide) rfl ?_
      refine sx_lc (lc' := [(0, .ref 255), (2, .int (0 : Int32))]) [1, 0] rfl ?_
      refine sL_X11_text_47 d hd _ ?_ 1024 (0 : Int32) h7
      · intro h11
        refine sx_iconst d_X11_text_65 ic3 ?_
        refine sx_istore_n (i := 2) (lc' := [(2, .int (3 : Int32)), (0, .ref 255)]) d_X11_text_66 rfl (by decide) rfl ?_
        refine sx_lc (lc' := [(0, .ref 255), (2, .int (3 : Int32))]) [1, 0] rfl ?_
        refine sL_X11_text_67 d hd _ ?_ 1024 (3 : Int32) h11
        · intro h15
          refine sx_aload_n d_X11_text_93 0 rfl ?_
          refine sx_iconst d_X11_text_94 ic0 ?_
          refine sx_putI fl_StairCountModel_225 sh_255 rfl hty_11_20 d_X11_text_95 (fun h16 => ?_)
          refine sx_aload_n d_X11_text_98 0 rfl ?_
          refine sx_iconst d_X11_text_99 ic0 ?_
          refine sx_putI fl_StairCountModel_257 sh_255 rfl hty_11_21 d_X11_text_100 (fun h17 => ?_)
          refine sx_aload_n d_X11_text_103 0 rfl ?_
          refine sx_iconst d_X11_text_104 ic0 ?_
          refine sx_putI fl_StairCountModel_297 sh_255 rfl hty_11_31 d_X11_text_105 (fun h18 => ?_)
          refine sx_aload_n d_X11_text_108 0 rfl ?_
          refine sx_iconst d_X11_text_109 ic0 ?_
          refine sx_putI fl_StairCountModel_270 sh_255 rfl hty_11_32 d_X11_text_110 (fun h19 => ?_)
          refine sx_aload_n d_X11_text_113 0 rfl ?_
          refine sx_callV [] mv_X11_token lM_StairCountModel_208 sh_255 (by omega) rfl rfl (Nat.le_of_ble_eq_true rfl) d_X11_text_114 (sp_X11_token (d - 1) (by omega) h19) (fun _ h20 => ?_)
          refine sL_X11_text_117 d hd _ ?_ 1024 h20
          · intro h26
            refine sx_aload_n d_X11_text_139 0 rfl ?_
            refine sx_aload_n d_X11_text_140 0 rfl ?_
            refine sx_getI fl_StairCountModel_202 sh_255 rfl d_X11_text_141 (fun v27 => ?_)
            refine sx_putI fl_StairCountModel_303 sh_255 rfl hty_11_29 d_X11_text_144 (fun h28 => ?_)
            refine sx_aload_n d_X11_text_147 0 rfl ?_
            refine sx_aload_n d_X11_text_148 0 rfl ?_
            refine sx_getI fl_StairCountModel_205 sh_255 rfl d_X11_text_149 (fun v29 => ?_)
            refine sx_putI fl_StairCountModel_64 sh_255 rfl hty_11_30 d_X11_text_152 (fun h30 => ?_)
            refine sx_aload_n d_X11_text_155 0 rfl ?_
            refine sx_getI fl_StairCountModel_202 sh_255 rfl d_X11_text_156 (fun v31 => ?_)
            refine sx_if_eq d_X11_text_159 ?_ ?_
            · refine sx_aload_n d_X11_text_164 0 rfl ?_
              refine sx_getF (a' := 257) fl_StairCountModel_13 sh_255 rfl rfl d_X11_text_165 ?_
              refine sx_callS [.ref 257] ms_X11_half lM_StairCountModel_306 (by omega) rfl rfl (Nat.le_of_ble_eq_true rfl) d_X11_text_168 (sp_X11_half (d - 1) (by omega) 257 h30) (fun _ h32 => ?_)
              refine sx_aload_n d_X11_text_171 0 rfl ?_
              refine sx_getF (a' := 258) fl_StairCountModel_16 sh_255 rfl rfl d_X11_text_172 ?_
              refine sx_callS [.ref 258] ms_X11_half lM_StairCountModel_306 (by omega) rfl rfl (Nat.le_of_ble_eq_true rfl) d_X11_text_175 (sp_X11_half (d - 1) (by omega) 258 h32) (fun _ h34 => ?_)
              refine sx_aload_n d_X11_text_178 0 rfl ?_
              refine sx_getF (a' := 259) fl_StairCountModel_19 sh_255 rfl rfl d_X11_text_179 ?_
              refine sx_callS [.ref 259] ms_X11_half lM_StairCountModel_306 (by omega) rfl rfl (Nat.le_of_ble_eq_true rfl) d_X11_text_182 (sp_X11_half (d - 1) (by omega) 259 h34) (fun _ h36 => ?_)
              refine sx_aload_n d_X11_text_185 0 rfl ?_
              refine sx_getF (a' := 260) fl_StairCountModel_22 sh_255 rfl rfl d_X11_text_186 ?_
              refine sx_callS [.ref 260] ms_X11_half lM_StairCountModel_306 (by omega) rfl rfl (Nat.le_of_ble_eq_true rfl) d_X11_text_189 (sp_X11_half (d - 1) (by omega) 260 h36) (fun _ h38 => ?_)
              refine sx_aload_n d_X11_text_192 0 rfl ?_
              refine sx_getF (a' := 261) fl_StairCountModel_25 sh_255 rfl rfl d_X11_text_193 ?_
              refine sx_callS [.ref 261] ms_X11_half lM_StairCountModel_306 (by omega) rfl rfl (Nat.le_of_ble_eq_true rfl) d_X11_text_196 (sp_X11_half (d - 1) (by omega) 261 h38) (fun _ h40 => ?_)
              refine sx_aload_n d_X11_text_199 0 rfl ?_
              refine sx_getF (a' := 262) fl_StairCountModel_28 sh_255 rfl rfl d_X11_text_200 ?_
              refine sx_callS [.ref 262] ms_X11_half lM_StairCountModel_306 (by omega) rfl rfl (Nat.le_of_ble_eq_true rfl) d_X11_text_203 (sp_X11_half (d - 1) (by omega) 262 h40) (fun _ h42 => ?_)
              refine sx_aload_n d_X11_text_206 0 rfl ?_
              refine sx_getF (a' := 263) fl_StairCountModel_31 sh_255 rfl rfl d_X11_text_207 ?_
              refine sx_callS [.ref 263] ms_X11_half lM_StairCountModel_306 (by omega) rfl rfl (Nat.le_of_ble_eq_true rfl) d_X11_text_210 (sp_X11_half (d - 1) (by omega) 263 h42) (fun _ h44 => ?_)
              refine sx_aload_n d_X11_text_213 0 rfl ?_
              refine sx_getF (a' := 264) fl_StairCountModel_34 sh_255 rfl rfl d_X11_text_214 ?_
              refine sx_callS [.ref 264] ms_X11_half lM_StairCountModel_306 (by omega) rfl rfl (Nat.le_of_ble_eq_true rfl) d_X11_text_217 (sp_X11_half (d - 1) (by omega) 264 h44) (fun _ h46 => ?_)
              refine sx_aload_n d_X11_text_220 0 rfl ?_
              refine sx_getF (a' := 265) fl_StairCountModel_37 sh_255 rfl rfl d_X11_text_221 ?_
              refine sx_callS [.ref 265] ms_X11_half lM_StairCountModel_306 (by omega) rfl rfl (Nat.le_of_ble_eq_true rfl) d_X11_text_224 (sp_X11_half (d - 1) (by omega) 265 h46) (fun _ h48 => ?_)
              refine sx_aload_n d_X11_text_227 0 rfl ?_
              refine sx_getF (a' := 266) fl_StairCountModel_40 sh_255 rfl rfl d_X11_text_228 ?_
              refine sx_callS [.ref 266] ms_X11_half lM_StairCountModel_306 (by omega) rfl rfl (Nat.le_of_ble_eq_true rfl) d_X11_text_231 (sp_X11_half (d - 1) (by omega) 266 h48) (fun _ h50 => ?_)
              refine sx_aload_n d_X11_text_234 0 rfl ?_
              refine sx_getF (a' := 267) fl_StairCountModel_43 sh_255 rfl rfl d_X11_text_235 ?_
              refine sx_callS [.ref 267] ms_X11_half lM_StairCountModel_306 (by omega) rfl rfl (Nat.le_of_ble_eq_true rfl) d_X11_text_238 (sp_X11_half (d - 1) (by omega) 267 h50) (fun _ h52 => ?_)
              refine sx_aload_n d_X11_text_241 0 rfl ?_
              refine sx_getF (a' := 268) fl_StairCountModel_46 sh_255 rfl rfl d_X11_text_242 ?_
              refine sx_callS [.ref 268] ms_X11_half lM_StairCountModel_306 (by omega) rfl rfl (Nat.le_of_ble_eq_true rfl) d_X11_text_245 (sp_X11_half (d - 1) (by omega) 268 h52) (fun _ h54 => ?_)
              refine sx_aload_n d_X11_text_248 0 rfl ?_
              refine sx_getF (a' := 269) fl_StairCountModel_49 sh_255 rfl rfl d_X11_text_249 ?_
              refine sx_callS [.ref 269] ms_X11_half lM_StairCountModel_306 (by omega) rfl rfl (Nat.le_of_ble_eq_true rfl) d_X11_text_252 (sp_X11_half (d - 1) (by omega) 269 h54) (fun _ h56 => ?_)
              refine sx_aload_n d_X11_text_255 0 rfl ?_
              refine sx_getF (a' := 270) fl_StairCountModel_52 sh_255 rfl rfl d_X11_text_256 ?_
              refine sx_callS [.ref 270] ms_X11_half lM_StairCountModel_306 (by omega) rfl rfl (Nat.le_of_ble_eq_true rfl) d_X11_text_259 (sp_X11_half (d - 1) (by omega) 270 h56) (fun _ h58 => ?_)
              refine sx_aload_n d_X11_text_262 0 rfl ?_
              refine sx_getF (a' := 271) fl_StairCountModel_55 sh_255 rfl rfl d_X11_text_263 ?_
              refine sx_callS [.ref 271] ms_X11_half lM_StairCountModel_306 (by omega) rfl rfl (Nat.le_of_ble_eq_true rfl) d_X11_text_266 (sp_X11_half (d - 1) (by omega) 271 h58) (fun _ h60 => ?_)
              refine sx_aload_n d_X11_text_269 0 rfl ?_
              refine sx_getF (a' := 272) fl_StairCountModel_58 sh_255 rfl rfl d_X11_text_270 ?_
              refine sx_callS [.ref 272] ms_X11_half lM_StairCountModel_306 (by omega) rfl rfl (Nat.le_of_ble_eq_true rfl) d_X11_text_273 (sp_X11_half (d - 1) (by omega) 272 h60) (fun _ h62 => ?_)
              refine sx_aload_n d_X11_text_276 0 rfl ?_
              refine sx_getF (a' := 273) fl_StairCountModel_61 sh_255 rfl rfl d_X11_text_277 ?_
              refine sx_callS [.ref 273] ms_X11_half lM_StairCountModel_306 (by omega) rfl rfl (Nat.le_of_ble_eq_true rfl) d_X11_text_280 (sp_X11_half (d - 1) (by omega) 273 h62) (fun _ h64 => ?_)
              refine sx_aload_n d_X11_text_283 0 rfl ?_
              refine sx_iconst d_X11_text_284 ic0 ?_
              refine sx_putI fl_StairCountModel_310 sh_255 rfl hty_11_56 d_X11_text_285 (fun h66 => ?_)
              refine sx_aload_n d_X11_text_288 0 rfl ?_
              refine sx_iconst d_X11_text_289 icm1 ?_
              refine sx_putI fl_StairCountModel_120 sh_255 rfl hty_11_57 d_X11_text_290 (fun h67 => ?_)
              refine sx_aload_n d_X11_text_293 0 rfl ?_
              refine sx_iconst d_X11_text_294 ic0 ?_
              refine sx_putZ (by decide) fl_StairCountModel_313 sh_255 rfl hty_11_43 d_X11_text_295 (fun h68 => ?_)
              refine sx_aload_n d_X11_text_298 0 rfl ?_
              refine sx_iconst d_X11_text_299 ic0 ?_
              refine sx_putI fl_StairCountModel_317 sh_255 rfl hty_11_44 d_X11_text_300 (fun h69 => ?_)
              refine sx_aload_n d_X11_text_303 0 rfl ?_
              refine sx_callV [] mv_X11_begins lM_StairCountModel_145 sh_255 (by omega) rfl rfl (Nat.le_of_ble_eq_true rfl) d_X11_text_304 (sp_X11_begins (d - 1) (by omega) h69) (fun _ h70 => ?_)
              refine sx_aload_n d_X11_text_307 0 rfl ?_
              refine sx_getI fl_StairCountModel_257 sh_255 rfl d_X11_text_308 (fun v72 => ?_)
              exact sx_iret rfl d_X11_text_311
            · refine sx_iconst d_X11_text_162 icm1 ?_
              exact sx_iret rfl d_X11_text_163
theorem d_X11_fault_0 : DC mi_X11_fault 0 (.aload_n 0) 1 1 := ⟨by decide +kernel, rfl⟩
theorem d_X11_fault_1 : DC mi_X11_fault 1 (.iconst 0) 1 2 := ⟨by decide +kernel, rfl⟩
theorem d_X11_fault_2 : DC mi_X11_fault 2 (.putfield 148) 3 5 := ⟨by decide +kernel, rfl⟩
theorem d_X11_fault_5 : DC mi_X11_fault 5 (.iload_n 1) 1 6 := ⟨by decide +kernel, rfl⟩
theorem d_X11_fault_6 : DB mi_X11_fault 6 (.ifCond .ne 10) 10 9 16 := ⟨by decide +kernel, rfl, by decide⟩
theorem d_X11_fault_9 : DC mi_X11_fault 9 (.aload_n 0) 1 10 := ⟨by decide +kernel, rfl⟩
theorem d_X11_fault_10 : DC mi_X11_fault 10 (.getfield 303) 3 13 := ⟨by decide +kernel, rfl⟩
theorem d_X11_fault_13 : DB mi_X11_fault 13 (.goto 16) 16 16 29 := ⟨by decide +kernel, rfl, by decide⟩
theorem d_X11_fault_16 : DC mi_X11_fault 16 (.iload_n 1) 1 17 := ⟨by decide +kernel, rfl⟩
theorem d_X11_fault_17 : DC mi_X11_fault 17 (.iconst 1) 1 18 := ⟨by decide +kernel, rfl⟩
theorem d_X11_fault_18 : DB mi_X11_fault 18 (.if_icmp .ne 10) 10 21 28 := ⟨by decide +kernel, rfl, by decide⟩
theorem d_X11_fault_21 : DC mi_X11_fault 21 (.aload_n 0) 1 22 := ⟨by decide +kernel, rfl⟩
theorem d_X11_fault_22 : DC mi_X11_fault 22 (.getfield 64) 3 25 := ⟨by decide +kernel, rfl⟩
theorem d_X11_fault_25 : DB mi_X11_fault 25 (.goto 4) 4 28 29 := ⟨by decide +kernel, rfl, by decide⟩
theorem d_X11_fault_28 : DC mi_X11_fault 28 (.iconst (-1)) 1 29 := ⟨by decide +kernel, rfl⟩
theorem d_X11_fault_29 : DC mi_X11_fault 29 (.ireturn) 1 30 := ⟨by decide +kernel, rfl⟩
set_option maxHeartbeats 4000000 in
set_option maxRecDepth 100000 in
theorem sp_X11_fault (d : Nat) (hd : 0 ≤ d) (a0 : Int32) (h : HH) : Sp mi_X11_fault d iI [.ref 255, .int a0] h (g_X11_fault a0 h) := by
  refine sp_of (lc := [(0, .ref 255), (1, .int a0)]) (by decide) (Nat.le_of_ble_eq_true rfl) rfl ?_
  unfold g_X11_fault
  refine sx_aload_n d_X11_fault_0 0 rfl ?_
  refine sx_iconst d_X11_fault_1 ic0 ?_
  refine sx_putI fl_StairCountModel_148 sh_255 rfl hty_11_0 d_X11_fault_2 (fun h1 => ?_)
  refine sx_iload_n d_X11_fault_5 1 rfl ?_
  refine sx_if_ne d_X11_fault_6 ?_ ?_
  · refine sx_aload_n d_X11_fault_9 0 rfl ?_
    refine sx_getI fl_StairCountModel_303 sh_255 rfl d_X11_fault_10 (fun v2 => ?_)
    refine sx_goto d_X11_fault_13 ?_
    exact sx_iret rfl d_X11_fault_29
  · refine sx_iload_n d_X11_fault_16 1 rfl ?_
    refine sx_iconst d_X11_fault_17 ic1 ?_
    refine sx_icmp_ne d_X11_fault_18 ?_ ?_
    · refine sx_aload_n d_X11_fault_21 0 rfl ?_
      refine sx_getI fl_StairCountModel_64 sh_255 rfl d_X11_fault_22 (fun v3 => ?_)
      refine sx_goto d_X11_fault_25 ?_
      exact sx_iret rfl d_X11_fault_29
    · refine sx_iconst d_X11_fault_28 icm1 ?_
      exact sx_iret rfl d_X11_fault_29
