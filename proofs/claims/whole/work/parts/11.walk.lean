/-! walks: X0_rise, X0_walkTo, X0_passOne, X5_firstHour, X0_pass, X0_costUp, X3_hold, X7_take, X1_possible, J7_fill_53178, X1_worst, X2_clear, X2_hasLaw, X2_put, X3_clear, X3_add, X3_addStrike, X3_knownBy, X3_weigh, X4_clear -/
theorem d_X0_rise_0 : DC mi_X0_rise 0 (.aload_n 0) 1 1 := ⟨by decide +kernel, rfl⟩
theorem d_X0_rise_1 : DC mi_X0_rise 1 (.iload_n 1) 1 2 := ⟨by decide +kernel, rfl⟩
theorem d_X0_rise_2 : DC mi_X0_rise 2 (.iload_n 2) 1 3 := ⟨by decide +kernel, rfl⟩
theorem d_X0_rise_3 : DC mi_X0_rise 3 (.iconst 0) 1 4 := ⟨by decide +kernel, rfl⟩
theorem d_X0_rise_4 : DC mi_X0_rise 4 (.invokevirtual 141) 3 7 := ⟨by decide +kernel, rfl⟩
theorem d_X0_rise_7 : DC mi_X0_rise 7 (.istore_n 3) 1 8 := ⟨by decide +kernel, rfl⟩
theorem d_X0_rise_8 : DC mi_X0_rise 8 (.iload_n 3) 1 9 := ⟨by decide +kernel, rfl⟩
theorem d_X0_rise_9 : DC mi_X0_rise 9 (.aload_n 0) 1 10 := ⟨by decide +kernel, rfl⟩
theorem d_X0_rise_10 : DC mi_X0_rise 10 (.getfield 41) 3 13 := ⟨by decide +kernel, rfl⟩
theorem d_X0_rise_13 : DC mi_X0_rise 13 (.iload_n 1) 1 14 := ⟨by decide +kernel, rfl⟩
theorem d_X0_rise_14 : DC mi_X0_rise 14 (.iaload) 1 15 := ⟨by decide +kernel, rfl⟩
theorem d_X0_rise_15 : DB mi_X0_rise 15 (.if_icmp .gt 16) 16 18 31 := ⟨by decide +kernel, rfl, by decide⟩
theorem d_X0_rise_18 : DC mi_X0_rise 18 (.aload_n 0) 1 19 := ⟨by decide +kernel, rfl⟩
theorem d_X0_rise_19 : DC mi_X0_rise 19 (.iconst 2) 1 20 := ⟨by decide +kernel, rfl⟩
theorem d_X0_rise_20 : DC mi_X0_rise 20 (.iload_n 1) 1 21 := ⟨by decide +kernel, rfl⟩
theorem d_X0_rise_21 : DC mi_X0_rise 21 (.iload_n 2) 1 22 := ⟨by decide +kernel, rfl⟩
theorem d_X0_rise_22 : DC mi_X0_rise 22 (.iconst 0) 1 23 := ⟨by decide +kernel, rfl⟩
theorem d_X0_rise_23 : DC mi_X0_rise 23 (.invokevirtual 145) 3 26 := ⟨by decide +kernel, rfl⟩
theorem d_X0_rise_26 : DC mi_X0_rise 26 (.lconst 0) 1 27 := ⟨by decide +kernel, rfl⟩
theorem d_X0_rise_27 : DC mi_X0_rise 27 (.lcmp) 1 28 := ⟨by decide +kernel, rfl⟩
theorem d_X0_rise_28 : DB mi_X0_rise 28 (.ifCond .ne 18) 18 31 46 := ⟨by decide +kernel, rfl, by decide⟩
theorem d_X0_rise_31 : DC mi_X0_rise 31 (.aload_n 0) 1 32 := ⟨by decide +kernel, rfl⟩
theorem d_X0_rise_32 : DC mi_X0_rise 32 (.getfield 35) 3 35 := ⟨by decide +kernel, rfl⟩
theorem d_X0_rise_35 : DC mi_X0_rise 35 (.getfield 119) 3 38 := ⟨by decide +kernel, rfl⟩
theorem d_X0_rise_38 : DC mi_X0_rise 38 (.iload_n 1) 1 39 := ⟨by decide +kernel, rfl⟩
theorem d_X0_rise_39 : DC mi_X0_rise 39 (.dup2) 1 40 := ⟨by decide +kernel, rfl⟩
theorem d_X0_rise_40 : DC mi_X0_rise 40 (.iaload) 1 41 := ⟨by decide +kernel, rfl⟩
theorem d_X0_rise_41 : DC mi_X0_rise 41 (.iconst 1) 1 42 := ⟨by decide +kernel, rfl⟩
theorem d_X0_rise_42 : DC mi_X0_rise 42 (.iadd) 1 43 := ⟨by decide +kernel, rfl⟩
theorem d_X0_rise_43 : DC mi_X0_rise 43 (.iastore) 1 44 := ⟨by decide +kernel, rfl⟩
theorem d_X0_rise_44 : DC mi_X0_rise 44 (.iconst 0) 1 45 := ⟨by decide +kernel, rfl⟩
theorem d_X0_rise_45 : DC mi_X0_rise 45 (.ireturn) 1 46 := ⟨by decide +kernel, rfl⟩
theorem d_X0_rise_46 : DC mi_X0_rise 46 (.aload_n 0) 1 47 := ⟨by decide +kernel, rfl⟩
theorem d_X0_rise_47 : DC mi_X0_rise 47 (.invokevirtual 149) 3 50 := ⟨by decide +kernel, rfl⟩
theorem d_X0_rise_50 : DB mi_X0_rise 50 (.ifCond .eq 28) 28 53 78 := ⟨by decide +kernel, rfl, by decide⟩
theorem d_X0_rise_53 : DC mi_X0_rise 53 (.aload_n 0) 1 54 := ⟨by decide +kernel, rfl⟩
theorem d_X0_rise_54 : DC mi_X0_rise 54 (.getfield 35) 3 57 := ⟨by decide +kernel, rfl⟩
theorem d_X0_rise_57 : DC mi_X0_rise 57 (.getfield 153) 3 60 := ⟨by decide +kernel, rfl⟩
theorem d_X0_rise_60 : DC mi_X0_rise 60 (.iload_n 1) 1 61 := ⟨by decide +kernel, rfl⟩
theorem d_X0_rise_61 : DC mi_X0_rise 61 (.dup2) 1 62 := ⟨by decide +kernel, rfl⟩
theorem d_X0_rise_62 : DC mi_X0_rise 62 (.iaload) 1 63 := ⟨by decide +kernel, rfl⟩
theorem d_X0_rise_63 : DC mi_X0_rise 63 (.iconst 1) 1 64 := ⟨by decide +kernel, rfl⟩
theorem d_X0_rise_64 : DC mi_X0_rise 64 (.iadd) 1 65 := ⟨by decide +kernel, rfl⟩
theorem d_X0_rise_65 : DC mi_X0_rise 65 (.iastore) 1 66 := ⟨by decide +kernel, rfl⟩
theorem d_X0_rise_66 : DC mi_X0_rise 66 (.aload_n 0) 1 67 := ⟨by decide +kernel, rfl⟩
theorem d_X0_rise_67 : DC mi_X0_rise 67 (.getfield 35) 3 70 := ⟨by decide +kernel, rfl⟩
theorem d_X0_rise_70 : DC mi_X0_rise 70 (.getfield 98) 3 73 := ⟨by decide +kernel, rfl⟩
theorem d_X0_rise_73 : DC mi_X0_rise 73 (.iload_n 1) 1 74 := ⟨by decide +kernel, rfl⟩
theorem d_X0_rise_74 : DC mi_X0_rise 74 (.iconst 0) 1 75 := ⟨by decide +kernel, rfl⟩
theorem d_X0_rise_75 : DC mi_X0_rise 75 (.iastore) 1 76 := ⟨by decide +kernel, rfl⟩
theorem d_X0_rise_76 : DC mi_X0_rise 76 (.iconst 0) 1 77 := ⟨by decide +kernel, rfl⟩
theorem d_X0_rise_77 : DC mi_X0_rise 77 (.ireturn) 1 78 := ⟨by decide +kernel, rfl⟩
theorem d_X0_rise_78 : DC mi_X0_rise 78 (.aload_n 0) 1 79 := ⟨by decide +kernel, rfl⟩
theorem d_X0_rise_79 : DC mi_X0_rise 79 (.iconst 1) 1 80 := ⟨by decide +kernel, rfl⟩
theorem d_X0_rise_80 : DC mi_X0_rise 80 (.iload_n 1) 1 81 := ⟨by decide +kernel, rfl⟩
theorem d_X0_rise_81 : DC mi_X0_rise 81 (.iload_n 2) 1 82 := ⟨by decide +kernel, rfl⟩
theorem d_X0_rise_82 : DC mi_X0_rise 82 (.iconst 0) 1 83 := ⟨by decide +kernel, rfl⟩
theorem d_X0_rise_83 : DC mi_X0_rise 83 (.invokevirtual 145) 3 86 := ⟨by decide +kernel, rfl⟩
theorem d_X0_rise_86 : DC mi_X0_rise 86 (.lstore 4) 2 88 := ⟨by decide +kernel, rfl⟩
theorem d_X0_rise_88 : DC mi_X0_rise 88 (.aload_n 0) 1 89 := ⟨by decide +kernel, rfl⟩
theorem d_X0_rise_89 : DC mi_X0_rise 89 (.getfield 35) 3 92 := ⟨by decide +kernel, rfl⟩
theorem d_X0_rise_92 : DC mi_X0_rise 92 (.iload_n 1) 1 93 := ⟨by decide +kernel, rfl⟩
theorem d_X0_rise_93 : DC mi_X0_rise 93 (.lload 4) 2 95 := ⟨by decide +kernel, rfl⟩
theorem d_X0_rise_95 : DC mi_X0_rise 95 (.ldc2_w 156) 3 98 := ⟨by decide +kernel, rfl⟩
theorem d_X0_rise_98 : DC mi_X0_rise 98 (.lcmp) 1 99 := ⟨by decide +kernel, rfl⟩
theorem d_X0_rise_99 : DB mi_X0_rise 99 (.ifCond .ne 11) 11 102 110 := ⟨by decide +kernel, rfl, by decide⟩
theorem d_X0_rise_102 : DC mi_X0_rise 102 (.iconst 0) 1 103 := ⟨by decide +kernel, rfl⟩
theorem d_X0_rise_103 : DC mi_X0_rise 103 (.iload_n 3) 1 104 := ⟨by decide +kernel, rfl⟩
theorem d_X0_rise_104 : DC mi_X0_rise 104 (.invokestatic 158) 3 107 := ⟨by decide +kernel, rfl⟩
theorem d_X0_rise_107 : DB mi_X0_rise 107 (.goto 16) 16 110 123 := ⟨by decide +kernel, rfl, by decide⟩
theorem d_X0_rise_110 : DC mi_X0_rise 110 (.lconst 0) 1 111 := ⟨by decide +kernel, rfl⟩
theorem d_X0_rise_111 : DC mi_X0_rise 111 (.ldc2_w 163) 3 114 := ⟨by decide +kernel, rfl⟩
theorem d_X0_rise_114 : DC mi_X0_rise 114 (.lload 4) 2 116 := ⟨by decide +kernel, rfl⟩
theorem d_X0_rise_116 : DC mi_X0_rise 116 (.invokestatic 165) 3 119 := ⟨by decide +kernel, rfl⟩
theorem d_X0_rise_119 : DC mi_X0_rise 119 (.invokestatic 169) 3 122 := ⟨by decide +kernel, rfl⟩
theorem d_X0_rise_122 : DC mi_X0_rise 122 (.l2i) 1 123 := ⟨by decide +kernel, rfl⟩
theorem d_X0_rise_123 : DC mi_X0_rise 123 (.invokevirtual 125) 3 126 := ⟨by decide +kernel, rfl⟩
theorem d_X0_rise_126 : DC mi_X0_rise 126 (.aload_n 0) 1 127 := ⟨by decide +kernel, rfl⟩
theorem d_X0_rise_127 : DC mi_X0_rise 127 (.getfield 35) 3 130 := ⟨by decide +kernel, rfl⟩
theorem d_X0_rise_130 : DC mi_X0_rise 130 (.iload_n 1) 1 131 := ⟨by decide +kernel, rfl⟩
theorem d_X0_rise_131 : DC mi_X0_rise 131 (.iload_n 2) 1 132 := ⟨by decide +kernel, rfl⟩
theorem d_X0_rise_132 : DC mi_X0_rise 132 (.invokestatic 131) 3 135 := ⟨by decide +kernel, rfl⟩
theorem d_X0_rise_135 : DC mi_X0_rise 135 (.iconst 1) 1 136 := ⟨by decide +kernel, rfl⟩
theorem d_X0_rise_136 : DC mi_X0_rise 136 (.invokevirtual 135) 3 139 := ⟨by decide +kernel, rfl⟩
theorem d_X0_rise_139 : DC mi_X0_rise 139 (.aload_n 0) 1 140 := ⟨by decide +kernel, rfl⟩
theorem d_X0_rise_140 : DC mi_X0_rise 140 (.getfield 35) 3 143 := ⟨by decide +kernel, rfl⟩
theorem d_X0_rise_143 : DC mi_X0_rise 143 (.getfield 98) 3 146 := ⟨by decide +kernel, rfl⟩
theorem d_X0_rise_146 : DC mi_X0_rise 146 (.iload_n 1) 1 147 := ⟨by decide +kernel, rfl⟩
theorem d_X0_rise_147 : DC mi_X0_rise 147 (.iload_n 2) 1 148 := ⟨by decide +kernel, rfl⟩
theorem d_X0_rise_148 : DC mi_X0_rise 148 (.iconst 1) 1 149 := ⟨by decide +kernel, rfl⟩
theorem d_X0_rise_149 : DC mi_X0_rise 149 (.iadd) 1 150 := ⟨by decide +kernel, rfl⟩
theorem d_X0_rise_150 : DC mi_X0_rise 150 (.iastore) 1 151 := ⟨by decide +kernel, rfl⟩
theorem d_X0_rise_151 : DC mi_X0_rise 151 (.iconst 1) 1 152 := ⟨by decide +kernel, rfl⟩
theorem d_X0_rise_152 : DC mi_X0_rise 152 (.ireturn) 1 153 := ⟨by decide +kernel, rfl⟩
set_option maxHeartbeats 4000000 in
set_option maxRecDepth 100000 in
theorem sp_X0_rise (d : Nat) (hd : 3 ≤ d) (a0 : Int32) (a1 : Int32) (h : HH) : Sp mi_X0_rise d iI [.ref 193, .int a0, .int a1] h (g_X0_rise a0 a1 h) := by
  refine sp_of (lc := [(0, .ref 193), (1, .int a0), (2, .int a1)]) (by decide) (Nat.le_of_ble_eq_true rfl) rfl ?_
  unfold g_X0_rise
  refine sx_aload_n d_X0_rise_0 0 rfl ?_
  refine sx_iload_n d_X0_rise_1 1 rfl ?_
  refine sx_iload_n d_X0_rise_2 2 rfl ?_
  refine sx_iconst d_X0_rise_3 ic0 ?_
  refine sx_callV [.int a0, .int a1, .int (0 : Int32)] mv_X0_steepOf lM_StairCount_Course_141 sh_193 (by omega) rfl rfl (Nat.le_of_ble_eq_true rfl) d_X0_rise_4 (sp_X0_steepOf (d - 1) (by omega) a0 a1 (0 : Int32) h) (fun r2 h1 => ?_)
  refine sx_istore_n (i := 3) (lc' := [(3, .int r2), (0, .ref 193), (1, .int a0), (2, .int a1)]) d_X0_rise_7 rfl (by decide) rfl ?_
  refine sx_iload_n d_X0_rise_8 0 rfl ?_
  refine sx_aload_n d_X0_rise_9 1 rfl ?_
  refine sx_getR fl_StairCount_Course_41 sh_193 rfl d_X0_rise_10 (fun p3 => ?_)
  refine sx_ckH (fun ep3 => ?_)
  refine sx_iload_n d_X0_rise_13 2 rfl ?_
  refine sx_iald ep3 d_X0_rise_14 (fun v4 => ?_)
  refine sx_jn (fun j => ∀  (h : HH), Sx mi_X0_rise d iI (j  h) 31 [(0, .ref 193), (1, .int a0)] [] h) ?_ ?_
  · intro  h7
    refine sx_aload_n d_X0_rise_31 0 rfl ?_
    refine sx_getR fl_StairCount_Course_35 sh_193 rfl d_X0_rise_32 (fun p8 => ?_)
    refine sx_ckH (fun ep8 => ?_)
    refine sx_getF (a' := (p8 + 3)) fl_StairCount_Course_119 ep8 rfl rfl d_X0_rise_35 ?_
    refine sx_iload_n d_X0_rise_38 1 rfl ?_
    refine sx_dup2 d_X0_rise_39 rfl rfl ?_
    refine sx_iald (shf_7_2 ep8) d_X0_rise_40 (fun v9 => ?_)
    refine sx_iconst d_X0_rise_41 ic1 ?_
    refine sx_iadd d_X0_rise_42 ?_
    refine sx_iast (shf_7_2 ep8) d_X0_rise_43 (fun h10 => ?_)
    refine sx_iconst d_X0_rise_44 ic0 ?_
    exact sx_zret (by decide) rfl d_X0_rise_45
  · intro j5 k6
    refine sx_icmp_gt d_X0_rise_15 ?_ ?_
    · refine sx_lc (lc' := [(0, .ref 193), (1, .int a0)]) [1, 2] rfl ?_
      exact k6 h1
    · refine sx_aload_n d_X0_rise_18 1 rfl ?_
      refine sx_iconst d_X0_rise_19 ic2 ?_
      refine sx_iload_n d_X0_rise_20 2 rfl ?_
      refine sx_iload_n d_X0_rise_21 3 rfl ?_
      refine sx_iconst d_X0_rise_22 ic0 ?_
      refine sx_callV [.int (2 : Int32), .int a0, .int a1, .int (0 : Int32)] mv_X0_valueOf lM_StairCount_Course_145 sh_193 (by omega) rfl rfl (Nat.le_of_ble_eq_true rfl) d_X0_rise_23 (sp_X0_valueOf (d - 1) (by omega) (2 : Int32) a0 a1 (0 : Int32) h1) (fun r12 h11 => ?_)
      refine sx_lconst d_X0_rise_26 lc0 ?_
      refine sx_lcmp d_X0_rise_27 ?_
      refine sx_if_ne d_X0_rise_28 ?_ ?_
      · refine sx_lc (lc' := [(0, .ref 193), (1, .int a0)]) [1, 2] rfl ?_
        exact k6 h11
      · refine sx_aload_n d_X0_rise_46 1 rfl ?_
        refine sx_callV [] mv_X0_slips lM_StairCount_Course_149 sh_193 (by omega) rfl rfl (Nat.le_of_ble_eq_true rfl) d_X0_rise_47 (sp_X0_slips (d - 1) (by omega) h11) (fun r14 h13 => ?_)
        refine sx_if_eq d_X0_rise_50 ?_ ?_
        · refine sx_aload_n d_X0_rise_78 1 rfl ?_
          refine sx_iconst d_X0_rise_79 ic1 ?_
          refine sx_iload_n d_X0_rise_80 2 rfl ?_
          refine sx_iload_n d_X0_rise_81 3 rfl ?_
          refine sx_iconst d_X0_rise_82 ic0 ?_
          refine sx_callV [.int (1 : Int32), .int a0, .int a1, .int (0 : Int32)] mv_X0_valueOf lM_StairCount_Course_145 sh_193 (by omega) rfl rfl (Nat.le_of_ble_eq_true rfl) d_X0_rise_83 (sp_X0_valueOf (d - 1) (by omega) (1 : Int32) a0 a1 (0 : Int32) h13) (fun r16 h15 => ?_)
          refine sx_lstore (i := 4) (lc' := [(4, .long r16), (3, .int r2), (0, .ref 193), (1, .int a0), (2, .int a1)]) d_X0_rise_86 (by decide) rfl ?_
          refine sx_aload_n d_X0_rise_88 2 rfl ?_
          refine sx_getR fl_StairCount_Course_35 sh_193 rfl d_X0_rise_89 (fun p17 => ?_)
          refine sx_ckH (fun ep17 => ?_)
          refine sx_iload_n d_X0_rise_92 3 rfl ?_
          refine sx_lload d_X0_rise_93 0 rfl ?_
          refine sx_ldc2 d_X0_rise_95 lQ_StairCount_Course_156 ?_
          refine sx_lcmp d_X0_rise_98 ?_
          refine sx_jn (fun j => ∀ (y21 : Int32) (h : HH), Sx mi_X0_rise d iI (j y21 h) 123 [(0, .ref 193), (1, .int a0), (2, .int a1)] [.int y21, .int a0, .ref p17] h) ?_ ?_
          · intro y21 h20
            refine sx_callV [.int a0, .int y21] mv_X7_addTired lM_StairCount_Course_125 ep17 (by omega) rfl rfl (Nat.le_of_ble_eq_true rfl) d_X0_rise_123 (sp_X7_addTired (d - 1) (by omega) p17 a0 y21 h20) (fun _ h22 => ?_)
            refine sx_aload_n d_X0_rise_126 0 rfl ?_
            refine sx_getR fl_StairCount_Course_35 sh_193 rfl d_X0_rise_127 (fun p24 => ?_)
            refine sx_ckH (fun ep24 => ?_)
            refine sx_iload_n d_X0_rise_130 1 rfl ?_
            refine sx_iload_n d_X0_rise_131 2 rfl ?_
            refine sx_callSN [.int a0, .int a1] ms_X10_cell lM_StairCount_Course_131 (by omega) rfl rfl (Nat.le_of_ble_eq_true rfl) d_X0_rise_132 (sp_X10_cell (d - 1) (by omega) a0 a1 h22) (fun r26 h25 => ?_)
            refine sx_iconst d_X0_rise_135 ic1 ?_
            refine sx_callV [.int r26, .int (1 : Int32)] mv_X7_addTally lM_StairCount_Course_135 ep24 (by omega) rfl rfl (Nat.le_of_ble_eq_true rfl) d_X0_rise_136 (sp_X7_addTally (d - 1) (by omega) p24 r26 (1 : Int32) h25) (fun _ h27 => ?_)
            refine sx_aload_n d_X0_rise_139 0 rfl ?_
            refine sx_getR fl_StairCount_Course_35 sh_193 rfl d_X0_rise_140 (fun p29 => ?_)
            refine sx_ckH (fun ep29 => ?_)
            refine sx_getF (a' := (p29 + 1)) fl_StairCount_Course_98 ep29 rfl rfl d_X0_rise_143 ?_
            refine sx_iload_n d_X0_rise_146 1 rfl ?_
            refine sx_iload_n d_X0_rise_147 2 rfl ?_
            refine sx_iconst d_X0_rise_148 ic1 ?_
            refine sx_iadd d_X0_rise_149 ?_
            refine sx_iast (shf_7_0 ep29) d_X0_rise_150 (fun h30 => ?_)
            refine sx_iconst d_X0_rise_151 ic1 ?_
            exact sx_zret (by decide) rfl d_X0_rise_152
          · intro j18 k19
            refine sx_if_ne d_X0_rise_99 ?_ ?_
            · refine sx_iconst d_X0_rise_102 ic0 ?_
              refine sx_iload_n d_X0_rise_103 1 rfl ?_
              refine sx_mmax lM_StairCount_Course_158 (by omega) (Nat.le_of_ble_eq_true rfl) d_X0_rise_104 ?_
              refine sx_goto d_X0_rise_107 ?_
              refine sx_lc (lc' := [(0, .ref 193), (1, .int a0), (2, .int a1)]) [2, 3, 4] rfl ?_
              exact k19 (mxI (0 : Int32) r2) h15
            · refine sx_lconst d_X0_rise_110 lc0 ?_
              refine sx_ldc2 d_X0_rise_111 lQ_StairCount_Course_163 ?_
              refine sx_lload d_X0_rise_114 0 rfl ?_
              refine sx_mminL lM_StairCount_Course_165 (by omega) (Nat.le_of_ble_eq_true rfl) d_X0_rise_116 ?_
              refine sx_mmaxL lM_StairCount_Course_169 (by omega) (Nat.le_of_ble_eq_true rfl) d_X0_rise_119 ?_
              refine sx_l2i d_X0_rise_122 ?_
              refine sx_lc (lc' := [(0, .ref 193), (1, .int a0), (2, .int a1)]) [2, 3, 4] rfl ?_
              exact k19 (Int64.toInt32 (mxL (0 : Int64) (mnL (99 : Int64) r16))) h15
        · refine sx_aload_n d_X0_rise_53 1 rfl ?_
          refine sx_getR fl_StairCount_Course_35 sh_193 rfl d_X0_rise_54 (fun p31 => ?_)
          refine sx_ckH (fun ep31 => ?_)
          refine sx_getF (a' := (p31 + 4)) fl_StairCount_Course_153 ep31 rfl rfl d_X0_rise_57 ?_
          refine sx_iload_n d_X0_rise_60 2 rfl ?_
          refine sx_dup2 d_X0_rise_61 rfl rfl ?_
          refine sx_iald (shf_7_3 ep31) d_X0_rise_62 (fun v32 => ?_)
          refine sx_iconst d_X0_rise_63 ic1 ?_
          refine sx_iadd d_X0_rise_64 ?_
          refine sx_iast (shf_7_3 ep31) d_X0_rise_65 (fun h33 => ?_)
          refine sx_aload_n d_X0_rise_66 1 rfl ?_
          refine sx_getR fl_StairCount_Course_35 sh_193 rfl d_X0_rise_67 (fun p34 => ?_)
          refine sx_ckH (fun ep34 => ?_)
          refine sx_getF (a' := (p34 + 1)) fl_StairCount_Course_98 ep34 rfl rfl d_X0_rise_70 ?_
          refine sx_iload_n d_X0_rise_73 2 rfl ?_
          refine sx_iconst d_X0_rise_74 ic0 ?_
          refine sx_iast (shf_7_0 ep34) d_X0_rise_75 (fun h35 => ?_)
          refine sx_iconst d_X0_rise_76 ic0 ?_
          exact sx_zret (by decide) rfl d_X0_rise_77
theorem d_X0_walkTo_0 : DC mi_X0_walkTo 0 (.aload_n 0) 1 1 := ⟨by decide +kernel, rfl⟩
theorem d_X0_walkTo_1 : DC mi_X0_walkTo 1 (.getfield 31) 3 4 := ⟨by decide +kernel, rfl⟩
theorem d_X0_walkTo_4 : DC mi_X0_walkTo 4 (.getfield 128) 3 7 := ⟨by decide +kernel, rfl⟩
theorem d_X0_walkTo_7 : DC mi_X0_walkTo 7 (.istore_n 3) 1 8 := ⟨by decide +kernel, rfl⟩
theorem d_X0_walkTo_8 : DC mi_X0_walkTo 8 (.iload_n 3) 1 9 := ⟨by decide +kernel, rfl⟩
theorem d_X0_walkTo_9 : DB mi_X0_walkTo 9 (.ifCond .le 56) 56 12 65 := ⟨by decide +kernel, rfl, by decide⟩
theorem d_X0_walkTo_12 : DC mi_X0_walkTo 12 (.aload_n 0) 1 13 := ⟨by decide +kernel, rfl⟩
theorem d_X0_walkTo_13 : DC mi_X0_walkTo 13 (.getfield 35) 3 16 := ⟨by decide +kernel, rfl⟩
theorem d_X0_walkTo_16 : DC mi_X0_walkTo 16 (.getfield 98) 3 19 := ⟨by decide +kernel, rfl⟩
theorem d_X0_walkTo_19 : DC mi_X0_walkTo 19 (.iload_n 1) 1 20 := ⟨by decide +kernel, rfl⟩
theorem d_X0_walkTo_20 : DC mi_X0_walkTo 20 (.iaload) 1 21 := ⟨by decide +kernel, rfl⟩
theorem d_X0_walkTo_21 : DC mi_X0_walkTo 21 (.iload_n 2) 1 22 := ⟨by decide +kernel, rfl⟩
theorem d_X0_walkTo_22 : DB mi_X0_walkTo 22 (.if_icmp .le 43) 43 25 65 := ⟨by decide +kernel, rfl, by decide⟩
theorem d_X0_walkTo_25 : DC mi_X0_walkTo 25 (.aload_n 0) 1 26 := ⟨by decide +kernel, rfl⟩
theorem d_X0_walkTo_26 : DC mi_X0_walkTo 26 (.getfield 35) 3 29 := ⟨by decide +kernel, rfl⟩
theorem d_X0_walkTo_29 : DC mi_X0_walkTo 29 (.getfield 98) 3 32 := ⟨by decide +kernel, rfl⟩
theorem d_X0_walkTo_32 : DC mi_X0_walkTo 32 (.iload_n 1) 1 33 := ⟨by decide +kernel, rfl⟩
theorem d_X0_walkTo_33 : DC mi_X0_walkTo 33 (.dup2) 1 34 := ⟨by decide +kernel, rfl⟩
theorem d_X0_walkTo_34 : DC mi_X0_walkTo 34 (.iaload) 1 35 := ⟨by decide +kernel, rfl⟩
theorem d_X0_walkTo_35 : DC mi_X0_walkTo 35 (.iconst 1) 1 36 := ⟨by decide +kernel, rfl⟩
theorem d_X0_walkTo_36 : DC mi_X0_walkTo 36 (.isub) 1 37 := ⟨by decide +kernel, rfl⟩
theorem d_X0_walkTo_37 : DC mi_X0_walkTo 37 (.iastore) 1 38 := ⟨by decide +kernel, rfl⟩
theorem d_X0_walkTo_38 : DC mi_X0_walkTo 38 (.aload_n 0) 1 39 := ⟨by decide +kernel, rfl⟩
theorem d_X0_walkTo_39 : DC mi_X0_walkTo 39 (.getfield 35) 3 42 := ⟨by decide +kernel, rfl⟩
theorem d_X0_walkTo_42 : DC mi_X0_walkTo 42 (.iload_n 1) 1 43 := ⟨by decide +kernel, rfl⟩
theorem d_X0_walkTo_43 : DC mi_X0_walkTo 43 (.aload_n 0) 1 44 := ⟨by decide +kernel, rfl⟩
theorem d_X0_walkTo_44 : DC mi_X0_walkTo 44 (.getfield 35) 3 47 := ⟨by decide +kernel, rfl⟩
theorem d_X0_walkTo_47 : DC mi_X0_walkTo 47 (.getfield 98) 3 50 := ⟨by decide +kernel, rfl⟩
theorem d_X0_walkTo_50 : DC mi_X0_walkTo 50 (.iload_n 1) 1 51 := ⟨by decide +kernel, rfl⟩
theorem d_X0_walkTo_51 : DC mi_X0_walkTo 51 (.iaload) 1 52 := ⟨by decide +kernel, rfl⟩
theorem d_X0_walkTo_52 : DC mi_X0_walkTo 52 (.invokestatic 131) 3 55 := ⟨by decide +kernel, rfl⟩
theorem d_X0_walkTo_55 : DC mi_X0_walkTo 55 (.iconst (-1)) 1 56 := ⟨by decide +kernel, rfl⟩
theorem d_X0_walkTo_56 : DC mi_X0_walkTo 56 (.invokevirtual 135) 3 59 := ⟨by decide +kernel, rfl⟩
theorem d_X0_walkTo_59 : DC mi_X0_walkTo 59 (.iinc 3 (-1)) 3 62 := ⟨by decide +kernel, rfl⟩
theorem d_X0_walkTo_62 : DB mi_X0_walkTo 62 (.goto (-54)) (-54) 65 8 := ⟨by decide +kernel, rfl, by decide⟩
theorem d_X0_walkTo_65 : DC mi_X0_walkTo 65 (.aload_n 0) 1 66 := ⟨by decide +kernel, rfl⟩
theorem d_X0_walkTo_66 : DC mi_X0_walkTo 66 (.getfield 31) 3 69 := ⟨by decide +kernel, rfl⟩
theorem d_X0_walkTo_69 : DC mi_X0_walkTo 69 (.getfield 128) 3 72 := ⟨by decide +kernel, rfl⟩
theorem d_X0_walkTo_72 : DC mi_X0_walkTo 72 (.istore_n 3) 1 73 := ⟨by decide +kernel, rfl⟩
theorem d_X0_walkTo_73 : DC mi_X0_walkTo 73 (.iload_n 3) 1 74 := ⟨by decide +kernel, rfl⟩
theorem d_X0_walkTo_74 : DB mi_X0_walkTo 74 (.ifCond .le 41) 41 77 115 := ⟨by decide +kernel, rfl, by decide⟩
theorem d_X0_walkTo_77 : DC mi_X0_walkTo 77 (.aload_n 0) 1 78 := ⟨by decide +kernel, rfl⟩
theorem d_X0_walkTo_78 : DC mi_X0_walkTo 78 (.getfield 35) 3 81 := ⟨by decide +kernel, rfl⟩
theorem d_X0_walkTo_81 : DC mi_X0_walkTo 81 (.getfield 98) 3 84 := ⟨by decide +kernel, rfl⟩
theorem d_X0_walkTo_84 : DC mi_X0_walkTo 84 (.iload_n 1) 1 85 := ⟨by decide +kernel, rfl⟩
theorem d_X0_walkTo_85 : DC mi_X0_walkTo 85 (.iaload) 1 86 := ⟨by decide +kernel, rfl⟩
theorem d_X0_walkTo_86 : DC mi_X0_walkTo 86 (.iload_n 2) 1 87 := ⟨by decide +kernel, rfl⟩
theorem d_X0_walkTo_87 : DB mi_X0_walkTo 87 (.if_icmp .ge 28) 28 90 115 := ⟨by decide +kernel, rfl, by decide⟩
theorem d_X0_walkTo_90 : DC mi_X0_walkTo 90 (.aload_n 0) 1 91 := ⟨by decide +kernel, rfl⟩
theorem d_X0_walkTo_91 : DC mi_X0_walkTo 91 (.iload_n 1) 1 92 := ⟨by decide +kernel, rfl⟩
theorem d_X0_walkTo_92 : DC mi_X0_walkTo 92 (.aload_n 0) 1 93 := ⟨by decide +kernel, rfl⟩
theorem d_X0_walkTo_93 : DC mi_X0_walkTo 93 (.getfield 35) 3 96 := ⟨by decide +kernel, rfl⟩
theorem d_X0_walkTo_96 : DC mi_X0_walkTo 96 (.getfield 98) 3 99 := ⟨by decide +kernel, rfl⟩
theorem d_X0_walkTo_99 : DC mi_X0_walkTo 99 (.iload_n 1) 1 100 := ⟨by decide +kernel, rfl⟩
theorem d_X0_walkTo_100 : DC mi_X0_walkTo 100 (.iaload) 1 101 := ⟨by decide +kernel, rfl⟩
theorem d_X0_walkTo_101 : DC mi_X0_walkTo 101 (.invokevirtual 138) 3 104 := ⟨by decide +kernel, rfl⟩
theorem d_X0_walkTo_104 : DB mi_X0_walkTo 104 (.ifCond .ne 5) 5 107 109 := ⟨by decide +kernel, rfl, by decide⟩
theorem d_X0_walkTo_107 : DC mi_X0_walkTo 107 (.iconst 0) 1 108 := ⟨by decide +kernel, rfl⟩
theorem d_X0_walkTo_108 : DC mi_X0_walkTo 108 (.ireturn) 1 109 := ⟨by decide +kernel, rfl⟩
theorem d_X0_walkTo_109 : DC mi_X0_walkTo 109 (.iinc 3 (-1)) 3 112 := ⟨by decide +kernel, rfl⟩
theorem d_X0_walkTo_112 : DB mi_X0_walkTo 112 (.goto (-39)) (-39) 115 73 := ⟨by decide +kernel, rfl, by decide⟩
theorem d_X0_walkTo_115 : DC mi_X0_walkTo 115 (.iconst 1) 1 116 := ⟨by decide +kernel, rfl⟩
theorem d_X0_walkTo_116 : DC mi_X0_walkTo 116 (.ireturn) 1 117 := ⟨by decide +kernel, rfl⟩
set_option maxHeartbeats 4000000 in
set_option maxRecDepth 100000 in
theorem sL_X0_walkTo_8 (d : Nat) (hd : 4 ≤ d) (K65 : HH → Option (Int32 × HH)) (c1 : Int32) (c2 : Int32) (hK65 : ∀ (h : HH), Sx mi_X0_walkTo d iI (K65 h) 65 [(0, .ref 193), (1, .int c1), (2, .int c2)] [] h) : ∀ (n : Nat) (x3 : Int32) (h : HH), Sx mi_X0_walkTo d iI (g_X0_walkTo_L8 K65 c1 c2 n x3 h) 8 [(0, .ref 193), (1, .int c1), (2, .int c2), (3, .int x3)] [] h := by
  intro n
  induction n with
  | zero => intro x3 h; exact sx_none
  | succ n ih =>
    intro x3 h
    rw [g_X0_walkTo_L8]
    refine sx_iload_n d_X0_walkTo_8 3 rfl ?_
    refine sx_if_le d_X0_walkTo_9 ?_ ?_
    · refine sx_aload_n d_X0_walkTo_12 0 rfl ?_
      refine sx_getR fl_StairCount_Course_35 sh_193 rfl d_X0_walkTo_13 (fun p3 => ?_)
      refine sx_ckH (fun ep3 => ?_)
      refine sx_getF (a' := (p3 + 1)) fl_StairCount_Course_98 ep3 rfl rfl d_X0_walkTo_16 ?_
      refine sx_iload_n d_X0_walkTo_19 1 rfl ?_
      refine sx_iald (shf_7_0 ep3) d_X0_walkTo_20 (fun v4 => ?_)
      refine sx_iload_n d_X0_walkTo_21 2 rfl ?_
      refine sx_icmp_le d_X0_walkTo_22 ?_ ?_
      · refine sx_aload_n d_X0_walkTo_25 0 rfl ?_
        refine sx_getR fl_StairCount_Course_35 sh_193 rfl d_X0_walkTo_26 (fun p5 => ?_)
        refine sx_ckH (fun ep5 => ?_)
        refine sx_getF (a' := (p5 + 1)) fl_StairCount_Course_98 ep5 rfl rfl d_X0_walkTo_29 ?_
        refine sx_iload_n d_X0_walkTo_32 1 rfl ?_
        refine sx_dup2 d_X0_walkTo_33 rfl rfl ?_
        refine sx_iald (shf_7_0 ep5) d_X0_walkTo_34 (fun v6 => ?_)
        refine sx_iconst d_X0_walkTo_35 ic1 ?_
        refine sx_isub d_X0_walkTo_36 ?_
        refine sx_iast (shf_7_0 ep5) d_X0_walkTo_37 (fun h7 => ?_)
        refine sx_aload_n d_X0_walkTo_38 0 rfl ?_
        refine sx_getR fl_StairCount_Course_35 sh_193 rfl d_X0_walkTo_39 (fun p8 => ?_)
        refine sx_ckH (fun ep8 => ?_)
        refine sx_iload_n d_X0_walkTo_42 1 rfl ?_
        refine sx_aload_n d_X0_walkTo_43 0 rfl ?_
        refine sx_getR fl_StairCount_Course_35 sh_193 rfl d_X0_walkTo_44 (fun p9 => ?_)
        refine sx_ckH (fun ep9 => ?_)
        refine sx_getF (a' := (p9 + 1)) fl_StairCount_Course_98 ep9 rfl rfl d_X0_walkTo_47 ?_
        refine sx_iload_n d_X0_walkTo_50 1 rfl ?_
        refine sx_iald (shf_7_0 ep9) d_X0_walkTo_51 (fun v10 => ?_)
        refine sx_callSN [.int c1, .int v10] ms_X10_cell lM_StairCount_Course_131 (by omega) rfl rfl (Nat.le_of_ble_eq_true rfl) d_X0_walkTo_52 (sp_X10_cell (d - 1) (by omega) c1 v10 h7) (fun r12 h11 => ?_)
        refine sx_iconst d_X0_walkTo_55 icm1 ?_
        refine sx_callV [.int r12, .int (-1 : Int32)] mv_X7_addTally lM_StairCount_Course_135 ep8 (by omega) rfl rfl (Nat.le_of_ble_eq_true rfl) d_X0_walkTo_56 (sp_X7_addTally (d - 1) (by omega) p8 r12 (-1 : Int32) h11) (fun _ h13 => ?_)
        refine sx_iincV (lc' := fun v15 => [(3, .int v15), (0, .ref 193), (1, .int c1), (2, .int c2)]) (k0 := 3) d_X0_walkTo_59 rfl iim1 (by decide) (fun _ => rfl) (fun v15 => ?_)
        refine sx_goto d_X0_walkTo_62 ?_
        refine sx_lc (lc' := [(0, .ref 193), (1, .int c1), (2, .int c2), (3, .int v15)]) [1, 2, 3, 0] rfl ?_
        exact ih v15 h13
      · refine sx_lc (lc' := [(0, .ref 193), (1, .int c1), (2, .int c2)]) [0, 1, 2] rfl ?_
        exact hK65 h
    · refine sx_lc (lc' := [(0, .ref 193), (1, .int c1), (2, .int c2)]) [0, 1, 2] rfl ?_
      exact hK65 h
set_option maxHeartbeats 4000000 in
set_option maxRecDepth 100000 in
theorem sL_X0_walkTo_73 (d : Nat) (hd : 4 ≤ d) (c1 : Int32) (c2 : Int32) : ∀ (n : Nat) (x3 : Int32) (h : HH), Sx mi_X0_walkTo d iI (g_X0_walkTo_L73 c1 c2 n x3 h) 73 [(0, .ref 193), (1, .int c1), (2, .int c2), (3, .int x3)] [] h := by
  intro n
  induction n with
  | zero => intro x3 h; exact sx_none
  | succ n ih =>
    intro x3 h
    rw [g_X0_walkTo_L73]
    refine sx_iload_n d_X0_walkTo_73 3 rfl ?_
    refine sx_if_le d_X0_walkTo_74 ?_ ?_
    · refine sx_aload_n d_X0_walkTo_77 0 rfl ?_
      refine sx_getR fl_StairCount_Course_35 sh_193 rfl d_X0_walkTo_78 (fun p19 => ?_)
      refine sx_ckH (fun ep19 => ?_)
      refine sx_getF (a' := (p19 + 1)) fl_StairCount_Course_98 ep19 rfl rfl d_X0_walkTo_81 ?_
      refine sx_iload_n d_X0_walkTo_84 1 rfl ?_
      refine sx_iald (shf_7_0 ep19) d_X0_walkTo_85 (fun v20 => ?_)
      refine sx_iload_n d_X0_walkTo_86 2 rfl ?_
      refine sx_icmp_ge d_X0_walkTo_87 ?_ ?_
      · refine sx_aload_n d_X0_walkTo_90 0 rfl ?_
        refine sx_iload_n d_X0_walkTo_91 1 rfl ?_
        refine sx_aload_n d_X0_walkTo_92 0 rfl ?_
        refine sx_getR fl_StairCount_Course_35 sh_193 rfl d_X0_walkTo_93 (fun p21 => ?_)
        refine sx_ckH (fun ep21 => ?_)
        refine sx_getF (a' := (p21 + 1)) fl_StairCount_Course_98 ep21 rfl rfl d_X0_walkTo_96 ?_
        refine sx_iload_n d_X0_walkTo_99 1 rfl ?_
        refine sx_iald (shf_7_0 ep21) d_X0_walkTo_100 (fun v22 => ?_)
        refine sx_callV [.int c1, .int v22] mv_X0_rise lM_StairCount_Course_138 sh_193 (by omega) rfl rfl (Nat.le_of_ble_eq_true rfl) d_X0_walkTo_101 (sp_X0_rise (d - 1) (by omega) c1 v22 h) (fun r24 h23 => ?_)
        refine sx_if_ne d_X0_walkTo_104 ?_ ?_
        · refine sx_iconst d_X0_walkTo_107 ic0 ?_
          exact sx_zret (by decide) rfl d_X0_walkTo_108
        · refine sx_iincV (lc' := fun v25 => [(3, .int v25), (0, .ref 193), (1, .int c1), (2, .int c2)]) (k0 := 3) d_X0_walkTo_109 rfl iim1 (by decide) (fun _ => rfl) (fun v25 => ?_)
          refine sx_goto d_X0_walkTo_112 ?_
          refine sx_lc (lc' := [(0, .ref 193), (1, .int c1), (2, .int c2), (3, .int v25)]) [1, 2, 3, 0] rfl ?_
          exact ih v25 h23
      · refine sx_iconst d_X0_walkTo_115 ic1 ?_
        exact sx_zret (by decide) rfl d_X0_walkTo_116
    · refine sx_iconst d_X0_walkTo_115 ic1 ?_
      exact sx_zret (by decide) rfl d_X0_walkTo_116
set_option maxHeartbeats 4000000 in
set_option maxRecDepth 100000 in
theorem sp_X0_walkTo (d : Nat) (hd : 4 ≤ d) (a0 : Int32) (a1 : Int32) (h : HH) : Sp mi_X0_walkTo d iI [.ref 193, .int a0, .int a1] h (g_X0_walkTo a0 a1 h) := by
  refine sp_of (lc := [(0, .ref 193), (1, .int a0), (2, .int a1)]) (by decide) (Nat.le_of_ble_eq_true rfl) rfl ?_
  unfold g_X0_walkTo
  refine sx_aload_n d_X0_walkTo_0 0 rfl ?_
  refine sx_getR fl_StairCount_Course_31 sh_193 rfl d_X0_walkTo_1 (fun p1 => ?_)
  refine sx_ckH (fun ep1 => ?_)
  refine sx_getI fl_StairCount_Course_128 ep1 rfl d_X0_walkTo_4 (fun v2 => ?_)
  refine sx_istore_n (i := 3) (lc' := [(3, .int v2), (0, .ref 193), (1, .int a0), (2, .int a1)]) d_X0_walkTo_7 rfl (by decide) rfl ?_
  refine sx_lc (lc' := [(0, .ref 193), (1, .int a0), (2, .int a1), (3, .int v2)]) [1, 2, 3, 0] rfl ?_
  refine sL_X0_walkTo_8 d hd _ a0 a1 ?_ 1024 v2 h
  · intro h16
    refine sx_aload_n d_X0_walkTo_65 0 rfl ?_
    refine sx_getR fl_StairCount_Course_31 sh_193 rfl d_X0_walkTo_66 (fun p17 => ?_)
    refine sx_ckH (fun ep17 => ?_)
    refine sx_getI fl_StairCount_Course_128 ep17 rfl d_X0_walkTo_69 (fun v18 => ?_)
    refine sx_istore_n (i := 3) (lc' := [(3, .int v18), (0, .ref 193), (1, .int a0), (2, .int a1)]) d_X0_walkTo_72 rfl (by decide) rfl ?_
    refine sx_lc (lc' := [(0, .ref 193), (1, .int a0), (2, .int a1), (3, .int v18)]) [1, 2, 3, 0] rfl ?_
    refine sL_X0_walkTo_73 d hd a0 a1 1024 v18 h16
theorem d_X0_passOne_0 : DC mi_X0_passOne 0 (.aload_n 0) 1 1 := ⟨by decide +kernel, rfl⟩
theorem d_X0_passOne_1 : DC mi_X0_passOne 1 (.aload_n 0) 1 2 := ⟨by decide +kernel, rfl⟩
theorem d_X0_passOne_2 : DC mi_X0_passOne 2 (.getfield 35) 3 5 := ⟨by decide +kernel, rfl⟩
theorem d_X0_passOne_5 : DC mi_X0_passOne 5 (.getfield 62) 3 8 := ⟨by decide +kernel, rfl⟩
theorem d_X0_passOne_8 : DC mi_X0_passOne 8 (.invokevirtual 72) 3 11 := ⟨by decide +kernel, rfl⟩
theorem d_X0_passOne_11 : DC mi_X0_passOne 11 (.iconst 0) 1 12 := ⟨by decide +kernel, rfl⟩
theorem d_X0_passOne_12 : DC mi_X0_passOne 12 (.istore_n 1) 1 13 := ⟨by decide +kernel, rfl⟩
theorem d_X0_passOne_13 : DC mi_X0_passOne 13 (.iload_n 1) 1 14 := ⟨by decide +kernel, rfl⟩
theorem d_X0_passOne_14 : DC mi_X0_passOne 14 (.aload_n 0) 1 15 := ⟨by decide +kernel, rfl⟩
theorem d_X0_passOne_15 : DC mi_X0_passOne 15 (.getfield 76) 3 18 := ⟨by decide +kernel, rfl⟩
theorem d_X0_passOne_18 : DB mi_X0_passOne 18 (.if_icmp .ge 98) 98 21 116 := ⟨by decide +kernel, rfl, by decide⟩
theorem d_X0_passOne_21 : DC mi_X0_passOne 21 (.aload_n 0) 1 22 := ⟨by decide +kernel, rfl⟩
theorem d_X0_passOne_22 : DC mi_X0_passOne 22 (.getfield 31) 3 25 := ⟨by decide +kernel, rfl⟩
theorem d_X0_passOne_25 : DC mi_X0_passOne 25 (.getfield 79) 3 28 := ⟨by decide +kernel, rfl⟩
theorem d_X0_passOne_28 : DC mi_X0_passOne 28 (.aload_n 0) 1 29 := ⟨by decide +kernel, rfl⟩
theorem d_X0_passOne_29 : DC mi_X0_passOne 29 (.getfield 11) 3 32 := ⟨by decide +kernel, rfl⟩
theorem d_X0_passOne_32 : DC mi_X0_passOne 32 (.iload_n 1) 1 33 := ⟨by decide +kernel, rfl⟩
theorem d_X0_passOne_33 : DC mi_X0_passOne 33 (.iaload) 1 34 := ⟨by decide +kernel, rfl⟩
theorem d_X0_passOne_34 : DC mi_X0_passOne 34 (.iaload) 1 35 := ⟨by decide +kernel, rfl⟩
theorem d_X0_passOne_35 : DC mi_X0_passOne 35 (.istore_n 2) 1 36 := ⟨by decide +kernel, rfl⟩
theorem d_X0_passOne_36 : DC mi_X0_passOne 36 (.aload_n 0) 1 37 := ⟨by decide +kernel, rfl⟩
theorem d_X0_passOne_37 : DC mi_X0_passOne 37 (.getfield 31) 3 40 := ⟨by decide +kernel, rfl⟩
theorem d_X0_passOne_40 : DC mi_X0_passOne 40 (.getfield 82) 3 43 := ⟨by decide +kernel, rfl⟩
theorem d_X0_passOne_43 : DC mi_X0_passOne 43 (.aload_n 0) 1 44 := ⟨by decide +kernel, rfl⟩
theorem d_X0_passOne_44 : DC mi_X0_passOne 44 (.getfield 11) 3 47 := ⟨by decide +kernel, rfl⟩
theorem d_X0_passOne_47 : DC mi_X0_passOne 47 (.iload_n 1) 1 48 := ⟨by decide +kernel, rfl⟩
theorem d_X0_passOne_48 : DC mi_X0_passOne 48 (.iaload) 1 49 := ⟨by decide +kernel, rfl⟩
theorem d_X0_passOne_49 : DC mi_X0_passOne 49 (.iaload) 1 50 := ⟨by decide +kernel, rfl⟩
theorem d_X0_passOne_50 : DC mi_X0_passOne 50 (.istore_n 3) 1 51 := ⟨by decide +kernel, rfl⟩
theorem d_X0_passOne_51 : DC mi_X0_passOne 51 (.aload_n 0) 1 52 := ⟨by decide +kernel, rfl⟩
theorem d_X0_passOne_52 : DC mi_X0_passOne 52 (.getfield 31) 3 55 := ⟨by decide +kernel, rfl⟩
theorem d_X0_passOne_55 : DC mi_X0_passOne 55 (.getfield 85) 3 58 := ⟨by decide +kernel, rfl⟩
theorem d_X0_passOne_58 : DC mi_X0_passOne 58 (.aload_n 0) 1 59 := ⟨by decide +kernel, rfl⟩
theorem d_X0_passOne_59 : DC mi_X0_passOne 59 (.getfield 11) 3 62 := ⟨by decide +kernel, rfl⟩
theorem d_X0_passOne_62 : DC mi_X0_passOne 62 (.iload_n 1) 1 63 := ⟨by decide +kernel, rfl⟩
theorem d_X0_passOne_63 : DC mi_X0_passOne 63 (.iaload) 1 64 := ⟨by decide +kernel, rfl⟩
theorem d_X0_passOne_64 : DC mi_X0_passOne 64 (.iaload) 1 65 := ⟨by decide +kernel, rfl⟩
theorem d_X0_passOne_65 : DC mi_X0_passOne 65 (.istore 4) 2 67 := ⟨by decide +kernel, rfl⟩
theorem d_X0_passOne_67 : DC mi_X0_passOne 67 (.iload 4) 2 69 := ⟨by decide +kernel, rfl⟩
theorem d_X0_passOne_69 : DC mi_X0_passOne 69 (.bipush 22) 2 71 := ⟨by decide +kernel, rfl⟩
theorem d_X0_passOne_71 : DB mi_X0_passOne 71 (.if_icmp .ne 13) 13 74 84 := ⟨by decide +kernel, rfl, by decide⟩
theorem d_X0_passOne_74 : DC mi_X0_passOne 74 (.aload_n 0) 1 75 := ⟨by decide +kernel, rfl⟩
theorem d_X0_passOne_75 : DC mi_X0_passOne 75 (.iload_n 2) 1 76 := ⟨by decide +kernel, rfl⟩
theorem d_X0_passOne_76 : DC mi_X0_passOne 76 (.iload_n 3) 1 77 := ⟨by decide +kernel, rfl⟩
theorem d_X0_passOne_77 : DC mi_X0_passOne 77 (.invokevirtual 90) 3 80 := ⟨by decide +kernel, rfl⟩
theorem d_X0_passOne_80 : DC mi_X0_passOne 80 (.pop) 1 81 := ⟨by decide +kernel, rfl⟩
theorem d_X0_passOne_81 : DB mi_X0_passOne 81 (.goto 29) 29 84 110 := ⟨by decide +kernel, rfl, by decide⟩
theorem d_X0_passOne_84 : DC mi_X0_passOne 84 (.iload 4) 2 86 := ⟨by decide +kernel, rfl⟩
theorem d_X0_passOne_86 : DC mi_X0_passOne 86 (.bipush 23) 2 88 := ⟨by decide +kernel, rfl⟩
theorem d_X0_passOne_88 : DB mi_X0_passOne 88 (.if_icmp .ne 12) 12 91 100 := ⟨by decide +kernel, rfl, by decide⟩
theorem d_X0_passOne_91 : DC mi_X0_passOne 91 (.aload_n 0) 1 92 := ⟨by decide +kernel, rfl⟩
theorem d_X0_passOne_92 : DC mi_X0_passOne 92 (.iload_n 2) 1 93 := ⟨by decide +kernel, rfl⟩
theorem d_X0_passOne_93 : DC mi_X0_passOne 93 (.iload_n 3) 1 94 := ⟨by decide +kernel, rfl⟩
theorem d_X0_passOne_94 : DC mi_X0_passOne 94 (.invokevirtual 94) 3 97 := ⟨by decide +kernel, rfl⟩
theorem d_X0_passOne_97 : DB mi_X0_passOne 97 (.goto 13) 13 100 110 := ⟨by decide +kernel, rfl, by decide⟩
theorem d_X0_passOne_100 : DC mi_X0_passOne 100 (.aload_n 0) 1 101 := ⟨by decide +kernel, rfl⟩
theorem d_X0_passOne_101 : DC mi_X0_passOne 101 (.getfield 35) 3 104 := ⟨by decide +kernel, rfl⟩
theorem d_X0_passOne_104 : DC mi_X0_passOne 104 (.getfield 98) 3 107 := ⟨by decide +kernel, rfl⟩
theorem d_X0_passOne_107 : DC mi_X0_passOne 107 (.iload_n 2) 1 108 := ⟨by decide +kernel, rfl⟩
theorem d_X0_passOne_108 : DC mi_X0_passOne 108 (.iconst 0) 1 109 := ⟨by decide +kernel, rfl⟩
theorem d_X0_passOne_109 : DC mi_X0_passOne 109 (.iastore) 1 110 := ⟨by decide +kernel, rfl⟩
theorem d_X0_passOne_110 : DC mi_X0_passOne 110 (.iinc 1 1) 3 113 := ⟨by decide +kernel, rfl⟩
theorem d_X0_passOne_113 : DB mi_X0_passOne 113 (.goto (-100)) (-100) 116 13 := ⟨by decide +kernel, rfl, by decide⟩
theorem d_X0_passOne_116 : DC mi_X0_passOne 116 (.aload_n 0) 1 117 := ⟨by decide +kernel, rfl⟩
theorem d_X0_passOne_117 : DC mi_X0_passOne 117 (.getfield 35) 3 120 := ⟨by decide +kernel, rfl⟩
theorem d_X0_passOne_120 : DC mi_X0_passOne 120 (.dup) 1 121 := ⟨by decide +kernel, rfl⟩
theorem d_X0_passOne_121 : DC mi_X0_passOne 121 (.getfield 62) 3 124 := ⟨by decide +kernel, rfl⟩
theorem d_X0_passOne_124 : DC mi_X0_passOne 124 (.iconst 1) 1 125 := ⟨by decide +kernel, rfl⟩
theorem d_X0_passOne_125 : DC mi_X0_passOne 125 (.iadd) 1 126 := ⟨by decide +kernel, rfl⟩
theorem d_X0_passOne_126 : DC mi_X0_passOne 126 (.putfield 62) 3 129 := ⟨by decide +kernel, rfl⟩
theorem d_X0_passOne_129 : DC mi_X0_passOne 129 (.return_) 1 130 := ⟨by decide +kernel, rfl⟩
set_option maxHeartbeats 4000000 in
set_option maxRecDepth 100000 in
theorem sL_X0_passOne_13 (d : Nat) (hd : 5 ≤ d) (K116 : HH → Option (Unit × HH)) (hK116 : ∀ (h : HH), Sx mi_X0_passOne d iU (K116 h) 116 [(0, .ref 193)] [] h) : ∀ (n : Nat) (x1 : Int32) (h : HH), Sx mi_X0_passOne d iU (g_X0_passOne_L13 K116 n x1 h) 13 [(0, .ref 193), (1, .int x1)] [] h := by
  intro n
  induction n with
  | zero => intro x1 h; exact sx_none
  | succ n ih =>
    intro x1 h
    rw [g_X0_passOne_L13]
    refine sx_iload_n d_X0_passOne_13 1 rfl ?_
    refine sx_aload_n d_X0_passOne_14 0 rfl ?_
    refine sx_getI fl_StairCount_Course_76 sh_193 rfl d_X0_passOne_15 (fun v5 => ?_)
    refine sx_icmp_ge d_X0_passOne_18 ?_ ?_
    · refine sx_aload_n d_X0_passOne_21 0 rfl ?_
      refine sx_getR fl_StairCount_Course_31 sh_193 rfl d_X0_passOne_22 (fun p6 => ?_)
      refine sx_ckH (fun ep6 => ?_)
      refine sx_getF (a' := (p6 + 8)) fl_StairCount_Course_79 ep6 rfl rfl d_X0_passOne_25 ?_
      refine sx_aload_n d_X0_passOne_28 0 rfl ?_
      refine sx_getF (a' := 194) fl_StairCount_Course_11 sh_193 rfl rfl d_X0_passOne_29 ?_
      refine sx_iload_n d_X0_passOne_32 1 rfl ?_
      refine sx_iald sh_194 d_X0_passOne_33 (fun v7 => ?_)
      refine sx_iald (shf_5_11 ep6) d_X0_passOne_34 (fun v8 => ?_)
      refine sx_istore_n (i := 2) (lc' := [(2, .int v8), (0, .ref 193), (1, .int x1)]) d_X0_passOne_35 rfl (by decide) rfl ?_
      refine sx_aload_n d_X0_passOne_36 1 rfl ?_
      refine sx_getR fl_StairCount_Course_31 sh_193 rfl d_X0_passOne_37 (fun p9 => ?_)
      refine sx_ckH (fun ep9 => ?_)
      refine sx_getF (a' := (p9 + 10)) fl_StairCount_Course_82 ep9 rfl rfl d_X0_passOne_40 ?_
      refine sx_aload_n d_X0_passOne_43 1 rfl ?_
      refine sx_getF (a' := 194) fl_StairCount_Course_11 sh_193 rfl rfl d_X0_passOne_44 ?_
      refine sx_iload_n d_X0_passOne_47 2 rfl ?_
      refine sx_iald sh_194 d_X0_passOne_48 (fun v10 => ?_)
      refine sx_iald (shf_5_13 ep9) d_X0_passOne_49 (fun v11 => ?_)
      refine sx_istore_n (i := 3) (lc' := [(3, .int v11), (2, .int v8), (0, .ref 193), (1, .int x1)]) d_X0_passOne_50 rfl (by decide) rfl ?_
      refine sx_aload_n d_X0_passOne_51 2 rfl ?_
      refine sx_getR fl_StairCount_Course_31 sh_193 rfl d_X0_passOne_52 (fun p12 => ?_)
      refine sx_ckH (fun ep12 => ?_)
      refine sx_getF (a' := (p12 + 7)) fl_StairCount_Course_85 ep12 rfl rfl d_X0_passOne_55 ?_
      refine sx_aload_n d_X0_passOne_58 2 rfl ?_
      refine sx_getF (a' := 194) fl_StairCount_Course_11 sh_193 rfl rfl d_X0_passOne_59 ?_
      refine sx_iload_n d_X0_passOne_62 3 rfl ?_
      refine sx_iald sh_194 d_X0_passOne_63 (fun v13 => ?_)
      refine sx_iald (shf_5_10 ep12) d_X0_passOne_64 (fun v14 => ?_)
      refine sx_istore (i := 4) (lc' := [(4, .int v14), (3, .int v11), (2, .int v8), (0, .ref 193), (1, .int x1)]) d_X0_passOne_65 (by decide) rfl ?_
      refine sx_iload d_X0_passOne_67 0 rfl ?_
      refine sx_bipush d_X0_passOne_69 bc22 ?_
      refine sx_jn (fun j => ∀  (h : HH), Sx mi_X0_passOne d iU (j  h) 110 [(0, .ref 193), (1, .int x1)] [] h) ?_ ?_
      · intro  h17
        refine sx_iincV (lc' := fun v18 => [(1, .int v18), (0, .ref 193)]) (k0 := 1) d_X0_passOne_110 rfl ii1 (by decide) (fun _ => rfl) (fun v18 => ?_)
        refine sx_goto d_X0_passOne_113 ?_
        refine sx_lc (lc' := [(0, .ref 193), (1, .int v18)]) [1, 0] rfl ?_
        exact ih v18 h17
      · intro j15 k16
        refine sx_icmp_ne d_X0_passOne_71 ?_ ?_
        · refine sx_aload_n d_X0_passOne_74 3 rfl ?_
          refine sx_iload_n d_X0_passOne_75 2 rfl ?_
          refine sx_iload_n d_X0_passOne_76 1 rfl ?_
          refine sx_callV [.int v8, .int v11] mv_X0_walkTo lM_StairCount_Course_90 sh_193 (by omega) rfl rfl (Nat.le_of_ble_eq_true rfl) d_X0_passOne_77 (sp_X0_walkTo (d - 1) (by omega) v8 v11 h) (fun r20 h19 => ?_)
          refine sx_pop d_X0_passOne_80 rfl ?_
          refine sx_goto d_X0_passOne_81 ?_
          refine sx_lc (lc' := [(0, .ref 193), (1, .int x1)]) [3, 4] rfl ?_
          exact k16 h19
        · refine sx_iload d_X0_passOne_84 0 rfl ?_
          refine sx_bipush d_X0_passOne_86 bc23 ?_
          refine sx_icmp_ne d_X0_passOne_88 ?_ ?_
          · refine sx_aload_n d_X0_passOne_91 3 rfl ?_
            refine sx_iload_n d_X0_passOne_92 2 rfl ?_
            refine sx_iload_n d_X0_passOne_93 1 rfl ?_
            refine sx_callV [.int v8, .int v11] mv_X0_swing lM_StairCount_Course_94 sh_193 (by omega) rfl rfl (Nat.le_of_ble_eq_true rfl) d_X0_passOne_94 (sp_X0_swing (d - 1) (by omega) v8 v11 h) (fun _ h21 => ?_)
            refine sx_goto d_X0_passOne_97 ?_
            refine sx_lc (lc' := [(0, .ref 193), (1, .int x1)]) [3, 4] rfl ?_
            exact k16 h21
          · refine sx_aload_n d_X0_passOne_100 3 rfl ?_
            refine sx_getR fl_StairCount_Course_35 sh_193 rfl d_X0_passOne_101 (fun p23 => ?_)
            refine sx_ckH (fun ep23 => ?_)
            refine sx_getF (a' := (p23 + 1)) fl_StairCount_Course_98 ep23 rfl rfl d_X0_passOne_104 ?_
            refine sx_iload_n d_X0_passOne_107 2 rfl ?_
            refine sx_iconst d_X0_passOne_108 ic0 ?_
            refine sx_iast (shf_7_0 ep23) d_X0_passOne_109 (fun h24 => ?_)
            refine sx_lc (lc' := [(0, .ref 193), (1, .int x1)]) [3, 4] rfl ?_
            exact k16 h24
    · refine sx_lc (lc' := [(0, .ref 193)]) [0] rfl ?_
      exact hK116 h
set_option maxHeartbeats 4000000 in
set_option maxRecDepth 100000 in
theorem sp_X0_passOne (d : Nat) (hd : 5 ≤ d) (h : HH) : Sp mi_X0_passOne d iU [.ref 193] h (g_X0_passOne h) := by
  refine sp_of (lc := [(0, .ref 193)]) (by decide) (Nat.le_of_ble_eq_true rfl) rfl ?_
  unfold g_X0_passOne
  refine sx_aload_n d_X0_passOne_0 0 rfl ?_
  refine sx_aload_n d_X0_passOne_1 0 rfl ?_
  refine sx_getR fl_StairCount_Course_35 sh_193 rfl d_X0_passOne_2 (fun p1 => ?_)
  refine sx_ckH (fun ep1 => ?_)
  refine sx_getI fl_StairCount_Course_62 ep1 rfl d_X0_passOne_5 (fun v2 => ?_)
  refine sx_callV [.int v2] mv_X0_lineUp lM_StairCount_Course_72 sh_193 (by omega) rfl rfl (Nat.le_of_ble_eq_true rfl) d_X0_passOne_8 (sp_X0_lineUp (d - 1) (by omega) v2 h) (fun _ h3 => ?_)
  refine sx_iconst d_X0_passOne_11 ic0 ?_
  refine sx_istore_n (i := 1) (lc' := [(1, .int (0 : Int32)), (0, .ref 193)]) d_X0_passOne_12 rfl (by decide) rfl ?_
  refine sx_lc (lc' := [(0, .ref 193), (1, .int (0 : Int32))]) [1, 0] rfl ?_
  refine sL_X0_passOne_13 d hd _ ?_ 1024 (0 : Int32) h3
  · intro h25
    refine sx_aload_n d_X0_passOne_116 0 rfl ?_
    refine sx_getR fl_StairCount_Course_35 sh_193 rfl d_X0_passOne_117 (fun p26 => ?_)
    refine sx_ckH (fun ep26 => ?_)
    refine sx_dup d_X0_passOne_120 rfl ?_
    refine sx_getI fl_StairCount_Course_62 ep26 rfl d_X0_passOne_121 (fun v27 => ?_)
    refine sx_iconst d_X0_passOne_124 ic1 ?_
    refine sx_iadd d_X0_passOne_125 ?_
    refine sx_putI fl_StairCount_Course_62 ep26 rfl hty_7_5 d_X0_passOne_126 (fun h28 => ?_)
    exact sx_vret rfl d_X0_passOne_129
theorem d_X5_firstHour_0 : DC mi_X5_firstHour 0 (.iconst (-1)) 1 1 := ⟨by decide +kernel, rfl⟩
theorem d_X5_firstHour_1 : DC mi_X5_firstHour 1 (.istore_n 2) 1 2 := ⟨by decide +kernel, rfl⟩
theorem d_X5_firstHour_2 : DC mi_X5_firstHour 2 (.iconst 0) 1 3 := ⟨by decide +kernel, rfl⟩
theorem d_X5_firstHour_3 : DC mi_X5_firstHour 3 (.istore_n 3) 1 4 := ⟨by decide +kernel, rfl⟩
theorem d_X5_firstHour_4 : DC mi_X5_firstHour 4 (.iload_n 3) 1 5 := ⟨by decide +kernel, rfl⟩
theorem d_X5_firstHour_5 : DC mi_X5_firstHour 5 (.aload_n 0) 1 6 := ⟨by decide +kernel, rfl⟩
theorem d_X5_firstHour_6 : DC mi_X5_firstHour 6 (.getfield 66) 3 9 := ⟨by decide +kernel, rfl⟩
theorem d_X5_firstHour_9 : DB mi_X5_firstHour 9 (.if_icmp .ge 41) 41 12 50 := ⟨by decide +kernel, rfl, by decide⟩
theorem d_X5_firstHour_12 : DC mi_X5_firstHour 12 (.aload_n 0) 1 13 := ⟨by decide +kernel, rfl⟩
theorem d_X5_firstHour_13 : DC mi_X5_firstHour 13 (.getfield 36) 3 16 := ⟨by decide +kernel, rfl⟩
theorem d_X5_firstHour_16 : DC mi_X5_firstHour 16 (.iload_n 3) 1 17 := ⟨by decide +kernel, rfl⟩
theorem d_X5_firstHour_17 : DC mi_X5_firstHour 17 (.iaload) 1 18 := ⟨by decide +kernel, rfl⟩
theorem d_X5_firstHour_18 : DC mi_X5_firstHour 18 (.iload_n 1) 1 19 := ⟨by decide +kernel, rfl⟩
theorem d_X5_firstHour_19 : DB mi_X5_firstHour 19 (.if_icmp .lt 25) 25 22 44 := ⟨by decide +kernel, rfl, by decide⟩
theorem d_X5_firstHour_22 : DC mi_X5_firstHour 22 (.iload_n 2) 1 23 := ⟨by decide +kernel, rfl⟩
theorem d_X5_firstHour_23 : DC mi_X5_firstHour 23 (.iconst (-1)) 1 24 := ⟨by decide +kernel, rfl⟩
theorem d_X5_firstHour_24 : DB mi_X5_firstHour 24 (.if_icmp .eq 13) 13 27 37 := ⟨by decide +kernel, rfl, by decide⟩
theorem d_X5_firstHour_27 : DC mi_X5_firstHour 27 (.aload_n 0) 1 28 := ⟨by decide +kernel, rfl⟩
theorem d_X5_firstHour_28 : DC mi_X5_firstHour 28 (.getfield 36) 3 31 := ⟨by decide +kernel, rfl⟩
theorem d_X5_firstHour_31 : DC mi_X5_firstHour 31 (.iload_n 3) 1 32 := ⟨by decide +kernel, rfl⟩
theorem d_X5_firstHour_32 : DC mi_X5_firstHour 32 (.iaload) 1 33 := ⟨by decide +kernel, rfl⟩
theorem d_X5_firstHour_33 : DC mi_X5_firstHour 33 (.iload_n 2) 1 34 := ⟨by decide +kernel, rfl⟩
theorem d_X5_firstHour_34 : DB mi_X5_firstHour 34 (.if_icmp .ge 10) 10 37 44 := ⟨by decide +kernel, rfl, by decide⟩
theorem d_X5_firstHour_37 : DC mi_X5_firstHour 37 (.aload_n 0) 1 38 := ⟨by decide +kernel, rfl⟩
theorem d_X5_firstHour_38 : DC mi_X5_firstHour 38 (.getfield 36) 3 41 := ⟨by decide +kernel, rfl⟩
theorem d_X5_firstHour_41 : DC mi_X5_firstHour 41 (.iload_n 3) 1 42 := ⟨by decide +kernel, rfl⟩
theorem d_X5_firstHour_42 : DC mi_X5_firstHour 42 (.iaload) 1 43 := ⟨by decide +kernel, rfl⟩
theorem d_X5_firstHour_43 : DC mi_X5_firstHour 43 (.istore_n 2) 1 44 := ⟨by decide +kernel, rfl⟩
theorem d_X5_firstHour_44 : DC mi_X5_firstHour 44 (.iinc 3 1) 3 47 := ⟨by decide +kernel, rfl⟩
theorem d_X5_firstHour_47 : DB mi_X5_firstHour 47 (.goto (-43)) (-43) 50 4 := ⟨by decide +kernel, rfl, by decide⟩
theorem d_X5_firstHour_50 : DC mi_X5_firstHour 50 (.iload_n 2) 1 51 := ⟨by decide +kernel, rfl⟩
theorem d_X5_firstHour_51 : DC mi_X5_firstHour 51 (.ireturn) 1 52 := ⟨by decide +kernel, rfl⟩
set_option maxHeartbeats 4000000 in
set_option maxRecDepth 100000 in
theorem sL_X5_firstHour_4 (d : Nat) (hd : 0 ≤ d) (b_this : Nat) (c1 : Int32) (e0 : shL[b_this]? = some (.inl 5)) : ∀ (n : Nat) (x2 : Int32) (x3 : Int32) (h : HH), Sx mi_X5_firstHour d iI (g_X5_firstHour_L4 b_this c1 n x2 x3 h) 4 [(0, .ref b_this), (1, .int c1), (2, .int x2), (3, .int x3)] [] h := by
  intro n
  induction n with
  | zero => intro x2 x3 h; exact sx_none
  | succ n ih =>
    intro x2 x3 h
    rw [g_X5_firstHour_L4]
    refine sx_iload_n d_X5_firstHour_4 3 rfl ?_
    refine sx_aload_n d_X5_firstHour_5 0 rfl ?_
    refine sx_getI fl_StairCount_Plan_66 e0 rfl d_X5_firstHour_6 (fun v1 => ?_)
    refine sx_icmp_ge d_X5_firstHour_9 ?_ ?_
    · refine sx_aload_n d_X5_firstHour_12 0 rfl ?_
      refine sx_getF (a' := (b_this + 9)) fl_StairCount_Plan_36 e0 rfl rfl d_X5_firstHour_13 ?_
      refine sx_iload_n d_X5_firstHour_16 3 rfl ?_
      refine sx_iald (shf_5_12 e0) d_X5_firstHour_17 (fun v2 => ?_)
      refine sx_iload_n d_X5_firstHour_18 1 rfl ?_
      refine sx_jn (fun j => ∀ (u6 : Int32) (h : HH), Sx mi_X5_firstHour d iI (j u6 h) 44 [(0, .ref b_this), (1, .int c1), (2, .int u6), (3, .int x3)] [] h) ?_ ?_
      · intro u6 h5
        refine sx_iincV (lc' := fun v7 => [(3, .int v7), (0, .ref b_this), (1, .int c1), (2, .int u6)]) (k0 := 3) d_X5_firstHour_44 rfl ii1 (by decide) (fun _ => rfl) (fun v7 => ?_)
        refine sx_goto d_X5_firstHour_47 ?_
        refine sx_lc (lc' := [(0, .ref b_this), (1, .int c1), (2, .int u6), (3, .int v7)]) [1, 2, 3, 0] rfl ?_
        exact ih u6 v7 h5
      · intro j3 k4
        refine sx_icmp_lt d_X5_firstHour_19 ?_ ?_
        · exact k4 x2 h
        · refine sx_iload_n d_X5_firstHour_22 2 rfl ?_
          refine sx_iconst d_X5_firstHour_23 icm1 ?_
          refine sx_jn (fun j => ∀  (h : HH), Sx mi_X5_firstHour d iI (j  h) 37 [(0, .ref b_this), (1, .int c1), (3, .int x3)] [] h) ?_ ?_
          · intro  h10
            refine sx_aload_n d_X5_firstHour_37 0 rfl ?_
            refine sx_getF (a' := (b_this + 9)) fl_StairCount_Plan_36 e0 rfl rfl d_X5_firstHour_38 ?_
            refine sx_iload_n d_X5_firstHour_41 2 rfl ?_
            refine sx_iald (shf_5_12 e0) d_X5_firstHour_42 (fun v11 => ?_)
            refine sx_istore_n (i := 2) (lc' := [(2, .int v11), (0, .ref b_this), (1, .int c1), (3, .int x3)]) d_X5_firstHour_43 rfl (by decide) rfl ?_
            refine sx_lc (lc' := [(0, .ref b_this), (1, .int c1), (2, .int v11), (3, .int x3)]) [1, 2, 0, 3] rfl ?_
            exact k4 v11 h10
          · intro j8 k9
            refine sx_icmp_eq d_X5_firstHour_24 ?_ ?_
            · refine sx_lc (lc' := [(0, .ref b_this), (1, .int c1), (3, .int x3)]) [0, 1, 3] rfl ?_
              exact k9 h
            · refine sx_aload_n d_X5_firstHour_27 0 rfl ?_
              refine sx_getF (a' := (b_this + 9)) fl_StairCount_Plan_36 e0 rfl rfl d_X5_firstHour_28 ?_
              refine sx_iload_n d_X5_firstHour_31 3 rfl ?_
              refine sx_iald (shf_5_12 e0) d_X5_firstHour_32 (fun v12 => ?_)
              refine sx_iload_n d_X5_firstHour_33 2 rfl ?_
              refine sx_icmp_ge d_X5_firstHour_34 ?_ ?_
              · refine sx_lc (lc' := [(0, .ref b_this), (1, .int c1), (3, .int x3)]) [0, 1, 3] rfl ?_
                exact k9 h
              · exact k4 x2 h
    · refine sx_iload_n d_X5_firstHour_50 2 rfl ?_
      exact sx_iret rfl d_X5_firstHour_51
set_option maxHeartbeats 4000000 in
set_option maxRecDepth 100000 in
theorem sp_X5_firstHour (d : Nat) (hd : 0 ≤ d) (this : Nat) (a0 : Int32) (h : HH) : Sp mi_X5_firstHour d iI [.ref this, .int a0] h (g_X5_firstHour this a0 h) := by
  refine sp_of (lc := [(0, .ref this), (1, .int a0)]) (by decide) (Nat.le_of_ble_eq_true rfl) rfl ?_
  unfold g_X5_firstHour
  refine sx_ckH (fun hthis => ?_)
  refine sx_iconst d_X5_firstHour_0 icm1 ?_
  refine sx_istore_n (i := 2) (lc' := [(2, .int (-1 : Int32)), (0, .ref this), (1, .int a0)]) d_X5_firstHour_1 rfl (by decide) rfl ?_
  refine sx_iconst d_X5_firstHour_2 ic0 ?_
  refine sx_istore_n (i := 3) (lc' := [(3, .int (0 : Int32)), (2, .int (-1 : Int32)), (0, .ref this), (1, .int a0)]) d_X5_firstHour_3 rfl (by decide) rfl ?_
  refine sx_lc (lc' := [(0, .ref this), (1, .int a0), (2, .int (-1 : Int32)), (3, .int (0 : Int32))]) [2, 3, 1, 0] rfl ?_
  refine sL_X5_firstHour_4 d hd this a0 (hthis) 1024 (-1 : Int32) (0 : Int32) h
theorem d_X0_pass_0 : DC mi_X0_pass 0 (.aload_n 0) 1 1 := ⟨by decide +kernel, rfl⟩
theorem d_X0_pass_1 : DC mi_X0_pass 1 (.getfield 35) 3 4 := ⟨by decide +kernel, rfl⟩
theorem d_X0_pass_4 : DC mi_X0_pass 4 (.getfield 62) 3 7 := ⟨by decide +kernel, rfl⟩
theorem d_X0_pass_7 : DC mi_X0_pass 7 (.iload_n 1) 1 8 := ⟨by decide +kernel, rfl⟩
theorem d_X0_pass_8 : DC mi_X0_pass 8 (.iadd) 1 9 := ⟨by decide +kernel, rfl⟩
theorem d_X0_pass_9 : DC mi_X0_pass 9 (.istore_n 2) 1 10 := ⟨by decide +kernel, rfl⟩
theorem d_X0_pass_10 : DC mi_X0_pass 10 (.iload_n 1) 1 11 := ⟨by decide +kernel, rfl⟩
theorem d_X0_pass_11 : DC mi_X0_pass 11 (.istore_n 3) 1 12 := ⟨by decide +kernel, rfl⟩
theorem d_X0_pass_12 : DC mi_X0_pass 12 (.iload_n 3) 1 13 := ⟨by decide +kernel, rfl⟩
theorem d_X0_pass_13 : DB mi_X0_pass 13 (.ifCond .le 53) 53 16 66 := ⟨by decide +kernel, rfl, by decide⟩
theorem d_X0_pass_16 : DC mi_X0_pass 16 (.aload_n 0) 1 17 := ⟨by decide +kernel, rfl⟩
theorem d_X0_pass_17 : DC mi_X0_pass 17 (.getfield 31) 3 20 := ⟨by decide +kernel, rfl⟩
theorem d_X0_pass_20 : DC mi_X0_pass 20 (.aload_n 0) 1 21 := ⟨by decide +kernel, rfl⟩
theorem d_X0_pass_21 : DC mi_X0_pass 21 (.getfield 35) 3 24 := ⟨by decide +kernel, rfl⟩
theorem d_X0_pass_24 : DC mi_X0_pass 24 (.getfield 62) 3 27 := ⟨by decide +kernel, rfl⟩
theorem d_X0_pass_27 : DC mi_X0_pass 27 (.invokevirtual 65) 3 30 := ⟨by decide +kernel, rfl⟩
theorem d_X0_pass_30 : DC mi_X0_pass 30 (.istore 4) 2 32 := ⟨by decide +kernel, rfl⟩
theorem d_X0_pass_32 : DC mi_X0_pass 32 (.iload 4) 2 34 := ⟨by decide +kernel, rfl⟩
theorem d_X0_pass_34 : DC mi_X0_pass 34 (.iconst (-1)) 1 35 := ⟨by decide +kernel, rfl⟩
theorem d_X0_pass_35 : DB mi_X0_pass 35 (.if_icmp .eq 31) 31 38 66 := ⟨by decide +kernel, rfl, by decide⟩
theorem d_X0_pass_38 : DC mi_X0_pass 38 (.iload 4) 2 40 := ⟨by decide +kernel, rfl⟩
theorem d_X0_pass_40 : DC mi_X0_pass 40 (.iload_n 2) 1 41 := ⟨by decide +kernel, rfl⟩
theorem d_X0_pass_41 : DB mi_X0_pass 41 (.if_icmp .lt 6) 6 44 47 := ⟨by decide +kernel, rfl, by decide⟩
theorem d_X0_pass_44 : DB mi_X0_pass 44 (.goto 22) 22 47 66 := ⟨by decide +kernel, rfl, by decide⟩
theorem d_X0_pass_47 : DC mi_X0_pass 47 (.aload_n 0) 1 48 := ⟨by decide +kernel, rfl⟩
theorem d_X0_pass_48 : DC mi_X0_pass 48 (.getfield 35) 3 51 := ⟨by decide +kernel, rfl⟩
theorem d_X0_pass_51 : DC mi_X0_pass 51 (.iload 4) 2 53 := ⟨by decide +kernel, rfl⟩
theorem d_X0_pass_53 : DC mi_X0_pass 53 (.putfield 62) 3 56 := ⟨by decide +kernel, rfl⟩
theorem d_X0_pass_56 : DC mi_X0_pass 56 (.aload_n 0) 1 57 := ⟨by decide +kernel, rfl⟩
theorem d_X0_pass_57 : DC mi_X0_pass 57 (.invokevirtual 69) 3 60 := ⟨by decide +kernel, rfl⟩
theorem d_X0_pass_60 : DC mi_X0_pass 60 (.iinc 3 (-1)) 3 63 := ⟨by decide +kernel, rfl⟩
theorem d_X0_pass_63 : DB mi_X0_pass 63 (.goto (-51)) (-51) 66 12 := ⟨by decide +kernel, rfl, by decide⟩
theorem d_X0_pass_66 : DC mi_X0_pass 66 (.aload_n 0) 1 67 := ⟨by decide +kernel, rfl⟩
theorem d_X0_pass_67 : DC mi_X0_pass 67 (.getfield 35) 3 70 := ⟨by decide +kernel, rfl⟩
theorem d_X0_pass_70 : DC mi_X0_pass 70 (.iload_n 2) 1 71 := ⟨by decide +kernel, rfl⟩
theorem d_X0_pass_71 : DC mi_X0_pass 71 (.putfield 62) 3 74 := ⟨by decide +kernel, rfl⟩
theorem d_X0_pass_74 : DC mi_X0_pass 74 (.return_) 1 75 := ⟨by decide +kernel, rfl⟩
set_option maxHeartbeats 4000000 in
set_option maxRecDepth 100000 in
theorem sL_X0_pass_12 (d : Nat) (hd : 6 ≤ d) (K66 : HH → Option (Unit × HH)) (K44 : HH → Option (Unit × HH)) (c2 : Int32) (hK66 : ∀ (h : HH), Sx mi_X0_pass d iU (K66 h) 66 [(0, .ref 193), (2, .int c2)] [] h) (hK44 : ∀ (h : HH), Sx mi_X0_pass d iU (K44 h) 44 [(0, .ref 193), (2, .int c2)] [] h) : ∀ (n : Nat) (x3 : Int32) (h : HH), Sx mi_X0_pass d iU (g_X0_pass_L12 K66 K44 c2 n x3 h) 12 [(0, .ref 193), (2, .int c2), (3, .int x3)] [] h := by
  intro n
  induction n with
  | zero => intro x3 h; exact sx_none
  | succ n ih =>
    intro x3 h
    rw [g_X0_pass_L12]
    refine sx_iload_n d_X0_pass_12 2 rfl ?_
    refine sx_if_le d_X0_pass_13 ?_ ?_
    · refine sx_aload_n d_X0_pass_16 0 rfl ?_
      refine sx_getR fl_StairCount_Course_31 sh_193 rfl d_X0_pass_17 (fun p4 => ?_)
      refine sx_ckH (fun ep4 => ?_)
      refine sx_aload_n d_X0_pass_20 0 rfl ?_
      refine sx_getR fl_StairCount_Course_35 sh_193 rfl d_X0_pass_21 (fun p5 => ?_)
      refine sx_ckH (fun ep5 => ?_)
      refine sx_getI fl_StairCount_Course_62 ep5 rfl d_X0_pass_24 (fun v6 => ?_)
      refine sx_callV [.int v6] mv_X5_firstHour lM_StairCount_Course_65 ep4 (by omega) rfl rfl (Nat.le_of_ble_eq_true rfl) d_X0_pass_27 (sp_X5_firstHour (d - 1) (by omega) p4 v6 h) (fun r8 h7 => ?_)
      refine sx_istore (i := 4) (lc' := [(4, .int r8), (0, .ref 193), (2, .int c2), (3, .int x3)]) d_X0_pass_30 (by decide) rfl ?_
      refine sx_iload d_X0_pass_32 0 rfl ?_
      refine sx_iconst d_X0_pass_34 icm1 ?_
      refine sx_icmp_eq d_X0_pass_35 ?_ ?_
      · refine sx_lc (lc' := [(0, .ref 193), (2, .int c2)]) [1, 2] rfl ?_
        exact hK66 h7
      · refine sx_iload d_X0_pass_38 0 rfl ?_
        refine sx_iload_n d_X0_pass_40 2 rfl ?_
        refine sx_icmp_lt d_X0_pass_41 ?_ ?_
        · refine sx_aload_n d_X0_pass_47 1 rfl ?_
          refine sx_getR fl_StairCount_Course_35 sh_193 rfl d_X0_pass_48 (fun p9 => ?_)
          refine sx_ckH (fun ep9 => ?_)
          refine sx_iload d_X0_pass_51 0 rfl ?_
          refine sx_putI fl_StairCount_Course_62 ep9 rfl hty_7_5 d_X0_pass_53 (fun h10 => ?_)
          refine sx_aload_n d_X0_pass_56 1 rfl ?_
          refine sx_callV [] mv_X0_passOne lM_StairCount_Course_69 sh_193 (by omega) rfl rfl (Nat.le_of_ble_eq_true rfl) d_X0_pass_57 (sp_X0_passOne (d - 1) (by omega) h10) (fun _ h11 => ?_)
          refine sx_iincV (lc' := fun v13 => [(3, .int v13), (4, .int r8), (0, .ref 193), (2, .int c2)]) (k0 := 3) d_X0_pass_60 rfl iim1 (by decide) (fun _ => rfl) (fun v13 => ?_)
          refine sx_goto d_X0_pass_63 ?_
          refine sx_lc (lc' := [(0, .ref 193), (2, .int c2), (3, .int v13)]) [2, 3, 0] rfl ?_
          exact ih v13 h11
        · refine sx_lc (lc' := [(0, .ref 193), (2, .int c2)]) [1, 2] rfl ?_
          exact hK44 h7
    · refine sx_lc (lc' := [(0, .ref 193), (2, .int c2)]) [0, 1] rfl ?_
      exact hK66 h
set_option maxHeartbeats 4000000 in
set_option maxRecDepth 100000 in
theorem sp_X0_pass (d : Nat) (hd : 6 ≤ d) (a0 : Int32) (h : HH) : Sp mi_X0_pass d iU [.ref 193, .int a0] h (g_X0_pass a0 h) := by
  refine sp_of (lc := [(0, .ref 193), (1, .int a0)]) (by decide) (Nat.le_of_ble_eq_true rfl) rfl ?_
  unfold g_X0_pass
  refine sx_aload_n d_X0_pass_0 0 rfl ?_
  refine sx_getR fl_StairCount_Course_35 sh_193 rfl d_X0_pass_1 (fun p1 => ?_)
  refine sx_ckH (fun ep1 => ?_)
  refine sx_getI fl_StairCount_Course_62 ep1 rfl d_X0_pass_4 (fun v2 => ?_)
  refine sx_iload_n d_X0_pass_7 1 rfl ?_
  refine sx_iadd d_X0_pass_8 ?_
  refine sx_vlI (fun v3 => ?_)
  refine sx_istore_n (i := 2) (lc' := [(2, .int v3), (0, .ref 193), (1, .int a0)]) d_X0_pass_9 rfl (by decide) rfl ?_
  refine sx_iload_n d_X0_pass_10 2 rfl ?_
  refine sx_istore_n (i := 3) (lc' := [(3, .int a0), (2, .int v3), (0, .ref 193), (1, .int a0)]) d_X0_pass_11 rfl (by decide) rfl ?_
  refine sx_lc (lc' := [(0, .ref 193), (2, .int v3), (3, .int a0)]) [2, 1, 0] rfl ?_
  refine sL_X0_pass_12 d hd _ _ v3 ?_ ?_ 1024 a0 h
  · intro h14
    refine sx_aload_n d_X0_pass_66 0 rfl ?_
    refine sx_getR fl_StairCount_Course_35 sh_193 rfl d_X0_pass_67 (fun p15 => ?_)
    refine sx_ckH (fun ep15 => ?_)
    refine sx_iload_n d_X0_pass_70 1 rfl ?_
    refine sx_putI fl_StairCount_Course_62 ep15 rfl hty_7_5 d_X0_pass_71 (fun h16 => ?_)
    exact sx_vret rfl d_X0_pass_74
  · intro h17
    refine sx_goto d_X0_pass_44 ?_
    refine sx_aload_n d_X0_pass_66 0 rfl ?_
    refine sx_getR fl_StairCount_Course_35 sh_193 rfl d_X0_pass_67 (fun p18 => ?_)
    refine sx_ckH (fun ep18 => ?_)
    refine sx_iload_n d_X0_pass_70 1 rfl ?_
    refine sx_putI fl_StairCount_Course_62 ep18 rfl hty_7_5 d_X0_pass_71 (fun h19 => ?_)
    exact sx_vret rfl d_X0_pass_74
theorem d_X0_costUp_0 : DC mi_X0_costUp 0 (.aload_n 0) 1 1 := ⟨by decide +kernel, rfl⟩
theorem d_X0_costUp_1 : DC mi_X0_costUp 1 (.iload_n 1) 1 2 := ⟨by decide +kernel, rfl⟩
theorem d_X0_costUp_2 : DC mi_X0_costUp 2 (.iload_n 2) 1 3 := ⟨by decide +kernel, rfl⟩
theorem d_X0_costUp_3 : DC mi_X0_costUp 3 (.iconst 0) 1 4 := ⟨by decide +kernel, rfl⟩
theorem d_X0_costUp_4 : DC mi_X0_costUp 4 (.invokevirtual 141) 3 7 := ⟨by decide +kernel, rfl⟩
theorem d_X0_costUp_7 : DC mi_X0_costUp 7 (.istore_n 3) 1 8 := ⟨by decide +kernel, rfl⟩
theorem d_X0_costUp_8 : DC mi_X0_costUp 8 (.iload_n 3) 1 9 := ⟨by decide +kernel, rfl⟩
theorem d_X0_costUp_9 : DC mi_X0_costUp 9 (.aload_n 0) 1 10 := ⟨by decide +kernel, rfl⟩
theorem d_X0_costUp_10 : DC mi_X0_costUp 10 (.getfield 41) 3 13 := ⟨by decide +kernel, rfl⟩
theorem d_X0_costUp_13 : DC mi_X0_costUp 13 (.iload_n 1) 1 14 := ⟨by decide +kernel, rfl⟩
theorem d_X0_costUp_14 : DC mi_X0_costUp 14 (.iaload) 1 15 := ⟨by decide +kernel, rfl⟩
theorem d_X0_costUp_15 : DB mi_X0_costUp 15 (.if_icmp .gt 16) 16 18 31 := ⟨by decide +kernel, rfl, by decide⟩
theorem d_X0_costUp_18 : DC mi_X0_costUp 18 (.aload_n 0) 1 19 := ⟨by decide +kernel, rfl⟩
theorem d_X0_costUp_19 : DC mi_X0_costUp 19 (.iconst 2) 1 20 := ⟨by decide +kernel, rfl⟩
theorem d_X0_costUp_20 : DC mi_X0_costUp 20 (.iload_n 1) 1 21 := ⟨by decide +kernel, rfl⟩
theorem d_X0_costUp_21 : DC mi_X0_costUp 21 (.iload_n 2) 1 22 := ⟨by decide +kernel, rfl⟩
theorem d_X0_costUp_22 : DC mi_X0_costUp 22 (.iconst 0) 1 23 := ⟨by decide +kernel, rfl⟩
theorem d_X0_costUp_23 : DC mi_X0_costUp 23 (.invokevirtual 145) 3 26 := ⟨by decide +kernel, rfl⟩
theorem d_X0_costUp_26 : DC mi_X0_costUp 26 (.lconst 0) 1 27 := ⟨by decide +kernel, rfl⟩
theorem d_X0_costUp_27 : DC mi_X0_costUp 27 (.lcmp) 1 28 := ⟨by decide +kernel, rfl⟩
theorem d_X0_costUp_28 : DB mi_X0_costUp 28 (.ifCond .ne 5) 5 31 33 := ⟨by decide +kernel, rfl, by decide⟩
theorem d_X0_costUp_31 : DC mi_X0_costUp 31 (.iconst (-1)) 1 32 := ⟨by decide +kernel, rfl⟩
theorem d_X0_costUp_32 : DC mi_X0_costUp 32 (.ireturn) 1 33 := ⟨by decide +kernel, rfl⟩
theorem d_X0_costUp_33 : DC mi_X0_costUp 33 (.iconst 0) 1 34 := ⟨by decide +kernel, rfl⟩
theorem d_X0_costUp_34 : DC mi_X0_costUp 34 (.iload_n 3) 1 35 := ⟨by decide +kernel, rfl⟩
theorem d_X0_costUp_35 : DC mi_X0_costUp 35 (.invokestatic 158) 3 38 := ⟨by decide +kernel, rfl⟩
theorem d_X0_costUp_38 : DC mi_X0_costUp 38 (.ireturn) 1 39 := ⟨by decide +kernel, rfl⟩
set_option maxHeartbeats 4000000 in
set_option maxRecDepth 100000 in
theorem sp_X0_costUp (d : Nat) (hd : 3 ≤ d) (a0 : Int32) (a1 : Int32) (h : HH) : Sp mi_X0_costUp d iI [.ref 193, .int a0, .int a1] h (g_X0_costUp a0 a1 h) := by
  refine sp_of (lc := [(0, .ref 193), (1, .int a0), (2, .int a1)]) (by decide) (Nat.le_of_ble_eq_true rfl) rfl ?_
  unfold g_X0_costUp
  refine sx_aload_n d_X0_costUp_0 0 rfl ?_
  refine sx_iload_n d_X0_costUp_1 1 rfl ?_
  refine sx_iload_n d_X0_costUp_2 2 rfl ?_
  refine sx_iconst d_X0_costUp_3 ic0 ?_
  refine sx_callV [.int a0, .int a1, .int (0 : Int32)] mv_X0_steepOf lM_StairCount_Course_141 sh_193 (by omega) rfl rfl (Nat.le_of_ble_eq_true rfl) d_X0_costUp_4 (sp_X0_steepOf (d - 1) (by omega) a0 a1 (0 : Int32) h) (fun r2 h1 => ?_)
  refine sx_istore_n (i := 3) (lc' := [(3, .int r2), (0, .ref 193), (1, .int a0), (2, .int a1)]) d_X0_costUp_7 rfl (by decide) rfl ?_
  refine sx_iload_n d_X0_costUp_8 0 rfl ?_
  refine sx_aload_n d_X0_costUp_9 1 rfl ?_
  refine sx_getR fl_StairCount_Course_41 sh_193 rfl d_X0_costUp_10 (fun p3 => ?_)
  refine sx_ckH (fun ep3 => ?_)
  refine sx_iload_n d_X0_costUp_13 2 rfl ?_
  refine sx_iald ep3 d_X0_costUp_14 (fun v4 => ?_)
  refine sx_icmp_gt d_X0_costUp_15 ?_ ?_
  · refine sx_iconst d_X0_costUp_31 icm1 ?_
    exact sx_iret rfl d_X0_costUp_32
  · refine sx_aload_n d_X0_costUp_18 1 rfl ?_
    refine sx_iconst d_X0_costUp_19 ic2 ?_
    refine sx_iload_n d_X0_costUp_20 2 rfl ?_
    refine sx_iload_n d_X0_costUp_21 3 rfl ?_
    refine sx_iconst d_X0_costUp_22 ic0 ?_
    refine sx_callV [.int (2 : Int32), .int a0, .int a1, .int (0 : Int32)] mv_X0_valueOf lM_StairCount_Course_145 sh_193 (by omega) rfl rfl (Nat.le_of_ble_eq_true rfl) d_X0_costUp_23 (sp_X0_valueOf (d - 1) (by omega) (2 : Int32) a0 a1 (0 : Int32) h1) (fun r6 h5 => ?_)
    refine sx_lconst d_X0_costUp_26 lc0 ?_
    refine sx_lcmp d_X0_costUp_27 ?_
    refine sx_if_ne d_X0_costUp_28 ?_ ?_
    · refine sx_iconst d_X0_costUp_31 icm1 ?_
      exact sx_iret rfl d_X0_costUp_32
    · refine sx_iconst d_X0_costUp_33 ic0 ?_
      refine sx_iload_n d_X0_costUp_34 0 rfl ?_
      refine sx_mmax lM_StairCount_Course_158 (by omega) (Nat.le_of_ble_eq_true rfl) d_X0_costUp_35 ?_
      exact sx_iret rfl d_X0_costUp_38
theorem d_X3_hold_0 : DC mi_X3_hold 0 (.iconst 0) 1 1 := ⟨by decide +kernel, rfl⟩
theorem d_X3_hold_1 : DC mi_X3_hold 1 (.istore_n 3) 1 2 := ⟨by decide +kernel, rfl⟩
theorem d_X3_hold_2 : DC mi_X3_hold 2 (.iload_n 3) 1 3 := ⟨by decide +kernel, rfl⟩
theorem d_X3_hold_3 : DC mi_X3_hold 3 (.aload_n 0) 1 4 := ⟨by decide +kernel, rfl⟩
theorem d_X3_hold_4 : DC mi_X3_hold 4 (.getfield 35) 3 7 := ⟨by decide +kernel, rfl⟩
theorem d_X3_hold_7 : DB mi_X3_hold 7 (.if_icmp .ge 76) 76 10 83 := ⟨by decide +kernel, rfl, by decide⟩
theorem d_X3_hold_10 : DC mi_X3_hold 10 (.aload_n 0) 1 11 := ⟨by decide +kernel, rfl⟩
theorem d_X3_hold_11 : DC mi_X3_hold 11 (.getfield 28) 3 14 := ⟨by decide +kernel, rfl⟩
theorem d_X3_hold_14 : DC mi_X3_hold 14 (.iload_n 3) 1 15 := ⟨by decide +kernel, rfl⟩
theorem d_X3_hold_15 : DC mi_X3_hold 15 (.baload) 1 16 := ⟨by decide +kernel, rfl⟩
theorem d_X3_hold_16 : DB mi_X3_hold 16 (.ifCond .eq 17) 17 19 33 := ⟨by decide +kernel, rfl, by decide⟩
theorem d_X3_hold_19 : DC mi_X3_hold 19 (.aload_n 0) 1 20 := ⟨by decide +kernel, rfl⟩
theorem d_X3_hold_20 : DC mi_X3_hold 20 (.getfield 9) 3 23 := ⟨by decide +kernel, rfl⟩
theorem d_X3_hold_23 : DC mi_X3_hold 23 (.iload_n 3) 1 24 := ⟨by decide +kernel, rfl⟩
theorem d_X3_hold_24 : DC mi_X3_hold 24 (.iaload) 1 25 := ⟨by decide +kernel, rfl⟩
theorem d_X3_hold_25 : DC mi_X3_hold 25 (.iload_n 1) 1 26 := ⟨by decide +kernel, rfl⟩
theorem d_X3_hold_26 : DB mi_X3_hold 26 (.if_icmp .ne 7) 7 29 33 := ⟨by decide +kernel, rfl, by decide⟩
theorem d_X3_hold_29 : DC mi_X3_hold 29 (.iconst 1) 1 30 := ⟨by decide +kernel, rfl⟩
theorem d_X3_hold_30 : DB mi_X3_hold 30 (.goto 4) 4 33 34 := ⟨by decide +kernel, rfl, by decide⟩
theorem d_X3_hold_33 : DC mi_X3_hold 33 (.iconst 0) 1 34 := ⟨by decide +kernel, rfl⟩
theorem d_X3_hold_34 : DC mi_X3_hold 34 (.istore 4) 2 36 := ⟨by decide +kernel, rfl⟩
theorem d_X3_hold_36 : DC mi_X3_hold 36 (.iload 4) 2 38 := ⟨by decide +kernel, rfl⟩
theorem d_X3_hold_38 : DB mi_X3_hold 38 (.ifCond .eq 39) 39 41 77 := ⟨by decide +kernel, rfl, by decide⟩
theorem d_X3_hold_41 : DC mi_X3_hold 41 (.aload_n 2) 1 42 := ⟨by decide +kernel, rfl⟩
theorem d_X3_hold_42 : DC mi_X3_hold 42 (.getfield 42) 3 45 := ⟨by decide +kernel, rfl⟩
theorem d_X3_hold_45 : DC mi_X3_hold 45 (.aload_n 0) 1 46 := ⟨by decide +kernel, rfl⟩
theorem d_X3_hold_46 : DC mi_X3_hold 46 (.getfield 15) 3 49 := ⟨by decide +kernel, rfl⟩
theorem d_X3_hold_49 : DC mi_X3_hold 49 (.iload_n 3) 1 50 := ⟨by decide +kernel, rfl⟩
theorem d_X3_hold_50 : DC mi_X3_hold 50 (.iaload) 1 51 := ⟨by decide +kernel, rfl⟩
theorem d_X3_hold_51 : DC mi_X3_hold 51 (.iaload) 1 52 := ⟨by decide +kernel, rfl⟩
theorem d_X3_hold_52 : DC mi_X3_hold 52 (.aload_n 0) 1 53 := ⟨by decide +kernel, rfl⟩
theorem d_X3_hold_53 : DC mi_X3_hold 53 (.getfield 18) 3 56 := ⟨by decide +kernel, rfl⟩
theorem d_X3_hold_56 : DC mi_X3_hold 56 (.iload_n 3) 1 57 := ⟨by decide +kernel, rfl⟩
theorem d_X3_hold_57 : DC mi_X3_hold 57 (.iaload) 1 58 := ⟨by decide +kernel, rfl⟩
theorem d_X3_hold_58 : DB mi_X3_hold 58 (.if_icmp .ne 7) 7 61 65 := ⟨by decide +kernel, rfl, by decide⟩
theorem d_X3_hold_61 : DC mi_X3_hold 61 (.iconst 1) 1 62 := ⟨by decide +kernel, rfl⟩
theorem d_X3_hold_62 : DB mi_X3_hold 62 (.goto 4) 4 65 66 := ⟨by decide +kernel, rfl, by decide⟩
theorem d_X3_hold_65 : DC mi_X3_hold 65 (.iconst 0) 1 66 := ⟨by decide +kernel, rfl⟩
theorem d_X3_hold_66 : DC mi_X3_hold 66 (.aload_n 0) 1 67 := ⟨by decide +kernel, rfl⟩
theorem d_X3_hold_67 : DC mi_X3_hold 67 (.getfield 21) 3 70 := ⟨by decide +kernel, rfl⟩
theorem d_X3_hold_70 : DC mi_X3_hold 70 (.iload_n 3) 1 71 := ⟨by decide +kernel, rfl⟩
theorem d_X3_hold_71 : DC mi_X3_hold 71 (.baload) 1 72 := ⟨by decide +kernel, rfl⟩
theorem d_X3_hold_72 : DB mi_X3_hold 72 (.if_icmp .eq 5) 5 75 77 := ⟨by decide +kernel, rfl, by decide⟩
theorem d_X3_hold_75 : DC mi_X3_hold 75 (.iconst 0) 1 76 := ⟨by decide +kernel, rfl⟩
theorem d_X3_hold_76 : DC mi_X3_hold 76 (.ireturn) 1 77 := ⟨by decide +kernel, rfl⟩
theorem d_X3_hold_77 : DC mi_X3_hold 77 (.iinc 3 1) 3 80 := ⟨by decide +kernel, rfl⟩
theorem d_X3_hold_80 : DB mi_X3_hold 80 (.goto (-78)) (-78) 83 2 := ⟨by decide +kernel, rfl, by decide⟩
theorem d_X3_hold_83 : DC mi_X3_hold 83 (.iconst 1) 1 84 := ⟨by decide +kernel, rfl⟩
theorem d_X3_hold_84 : DC mi_X3_hold 84 (.ireturn) 1 85 := ⟨by decide +kernel, rfl⟩
set_option maxHeartbeats 4000000 in
set_option maxRecDepth 100000 in
theorem sL_X3_hold_2 (d : Nat) (hd : 0 ≤ d) (c1 : Int32) (b_a1 : Nat) (e2 : shL[b_a1]? = some (.inl 7)) : ∀ (n : Nat) (x3 : Int32) (h : HH), Sx mi_X3_hold d iI (g_X3_hold_L2 c1 b_a1 n x3 h) 2 [(0, .ref 186), (1, .int c1), (2, .ref b_a1), (3, .int x3)] [] h := by
  intro n
  induction n with
  | zero => intro x3 h; exact sx_none
  | succ n ih =>
    intro x3 h
    rw [g_X3_hold_L2]
    refine sx_iload_n d_X3_hold_2 3 rfl ?_
    refine sx_aload_n d_X3_hold_3 0 rfl ?_
    refine sx_getI fl_StairCount_Notes_35 sh_186 rfl d_X3_hold_4 (fun v1 => ?_)
    refine sx_icmp_ge d_X3_hold_7 ?_ ?_
    · refine sx_aload_n d_X3_hold_10 0 rfl ?_
      refine sx_getF (a' := 192) fl_StairCount_Notes_28 sh_186 rfl rfl d_X3_hold_11 ?_
      refine sx_iload_n d_X3_hold_14 3 rfl ?_
      refine sx_zald sh_192 d_X3_hold_15 (fun v2 => ?_)
      refine sx_jn (fun j => ∀ (y6 : Int32) (h : HH), Sx mi_X3_hold d iI (j y6 h) 34 [(0, .ref 186), (1, .int c1), (2, .ref b_a1), (3, .int x3)] [.int y6] h) ?_ ?_
      · intro y6 h5
        refine sx_istore (i := 4) (lc' := [(4, .int y6), (0, .ref 186), (1, .int c1), (2, .ref b_a1), (3, .int x3)]) d_X3_hold_34 (by decide) rfl ?_
        refine sx_iload d_X3_hold_36 0 rfl ?_
        refine sx_jn (fun j => ∀  (h : HH), Sx mi_X3_hold d iI (j  h) 77 [(0, .ref 186), (1, .int c1), (2, .ref b_a1), (3, .int x3)] [] h) ?_ ?_
        · intro  h9
          refine sx_iincV (lc' := fun v10 => [(3, .int v10), (0, .ref 186), (1, .int c1), (2, .ref b_a1)]) (k0 := 3) d_X3_hold_77 rfl ii1 (by decide) (fun _ => rfl) (fun v10 => ?_)
          refine sx_goto d_X3_hold_80 ?_
          refine sx_lc (lc' := [(0, .ref 186), (1, .int c1), (2, .ref b_a1), (3, .int v10)]) [1, 2, 3, 0] rfl ?_
          exact ih v10 h9
        · intro j7 k8
          refine sx_if_eq d_X3_hold_38 ?_ ?_
          · refine sx_lc (lc' := [(0, .ref 186), (1, .int c1), (2, .ref b_a1), (3, .int x3)]) [1, 2, 3, 4] rfl ?_
            exact k8 h5
          · refine sx_aload_n d_X3_hold_41 3 rfl ?_
            refine sx_getF (a' := (b_a1 + 1)) fl_StairCount_Notes_42 e2 rfl rfl d_X3_hold_42 ?_
            refine sx_aload_n d_X3_hold_45 1 rfl ?_
            refine sx_getF (a' := 188) fl_StairCount_Notes_15 sh_186 rfl rfl d_X3_hold_46 ?_
            refine sx_iload_n d_X3_hold_49 4 rfl ?_
            refine sx_iald sh_188 d_X3_hold_50 (fun v11 => ?_)
            refine sx_iald (shf_7_0 e2) d_X3_hold_51 (fun v12 => ?_)
            refine sx_aload_n d_X3_hold_52 1 rfl ?_
            refine sx_getF (a' := 189) fl_StairCount_Notes_18 sh_186 rfl rfl d_X3_hold_53 ?_
            refine sx_iload_n d_X3_hold_56 4 rfl ?_
            refine sx_iald sh_189 d_X3_hold_57 (fun v13 => ?_)
            refine sx_jn (fun j => ∀ (y17 : Int32) (h : HH), Sx mi_X3_hold d iI (j y17 h) 66 [(0, .ref 186), (1, .int c1), (2, .ref b_a1), (3, .int x3)] [.int y17] h) ?_ ?_
            · intro y17 h16
              refine sx_aload_n d_X3_hold_66 0 rfl ?_
              refine sx_getF (a' := 190) fl_StairCount_Notes_21 sh_186 rfl rfl d_X3_hold_67 ?_
              refine sx_iload_n d_X3_hold_70 3 rfl ?_
              refine sx_zald sh_190 d_X3_hold_71 (fun v18 => ?_)
              refine sx_icmp_eq d_X3_hold_72 ?_ ?_
              · exact k8 h16
              · refine sx_iconst d_X3_hold_75 ic0 ?_
                exact sx_zret (by decide) rfl d_X3_hold_76
            · intro j14 k15
              refine sx_icmp_ne d_X3_hold_58 ?_ ?_
              · refine sx_iconst d_X3_hold_61 ic1 ?_
                refine sx_goto d_X3_hold_62 ?_
                refine sx_lc (lc' := [(0, .ref 186), (1, .int c1), (2, .ref b_a1), (3, .int x3)]) [1, 2, 3, 4] rfl ?_
                exact k15 (1 : Int32) h5
              · refine sx_iconst d_X3_hold_65 ic0 ?_
                refine sx_lc (lc' := [(0, .ref 186), (1, .int c1), (2, .ref b_a1), (3, .int x3)]) [1, 2, 3, 4] rfl ?_
                exact k15 (0 : Int32) h5
      · intro j3 k4
        refine sx_jn (fun j => ∀  (h : HH), Sx mi_X3_hold d iI (j  h) 33 [(0, .ref 186), (1, .int c1), (2, .ref b_a1), (3, .int x3)] [] h) ?_ ?_
        · intro  h21
          refine sx_iconst d_X3_hold_33 ic0 ?_
          exact k4 (0 : Int32) h21
        · intro j19 k20
          refine sx_if_eq d_X3_hold_16 ?_ ?_
          · exact k20 h
          · refine sx_aload_n d_X3_hold_19 0 rfl ?_
            refine sx_getF (a' := 187) fl_StairCount_Notes_9 sh_186 rfl rfl d_X3_hold_20 ?_
            refine sx_iload_n d_X3_hold_23 3 rfl ?_
            refine sx_iald sh_187 d_X3_hold_24 (fun v22 => ?_)
            refine sx_iload_n d_X3_hold_25 1 rfl ?_
            refine sx_icmp_ne d_X3_hold_26 ?_ ?_
            · refine sx_iconst d_X3_hold_29 ic1 ?_
              refine sx_goto d_X3_hold_30 ?_
              exact k4 (1 : Int32) h
            · exact k20 h
    · refine sx_iconst d_X3_hold_83 ic1 ?_
      exact sx_zret (by decide) rfl d_X3_hold_84
set_option maxHeartbeats 4000000 in
set_option maxRecDepth 100000 in
theorem sp_X3_hold (d : Nat) (hd : 0 ≤ d) (a0 : Int32) (a1 : Nat) (h : HH) : Sp mi_X3_hold d iI [.ref 186, .int a0, .ref a1] h (g_X3_hold a0 a1 h) := by
  refine sp_of (lc := [(0, .ref 186), (1, .int a0), (2, .ref a1)]) (by decide) (Nat.le_of_ble_eq_true rfl) rfl ?_
  unfold g_X3_hold
  refine sx_ckH (fun ha1 => ?_)
  refine sx_iconst d_X3_hold_0 ic0 ?_
  refine sx_istore_n (i := 3) (lc' := [(3, .int (0 : Int32)), (0, .ref 186), (1, .int a0), (2, .ref a1)]) d_X3_hold_1 rfl (by decide) rfl ?_
  refine sx_lc (lc' := [(0, .ref 186), (1, .int a0), (2, .ref a1), (3, .int (0 : Int32))]) [1, 2, 3, 0] rfl ?_
  refine sL_X3_hold_2 d hd a0 a1 (ha1) 1024 (0 : Int32) h
theorem d_X7_take_0 : DC mi_X7_take 0 (.aload_n 1) 1 1 := ⟨by decide +kernel, rfl⟩
theorem d_X7_take_1 : DC mi_X7_take 1 (.getfield 9) 3 4 := ⟨by decide +kernel, rfl⟩
theorem d_X7_take_4 : DC mi_X7_take 4 (.iconst 0) 1 5 := ⟨by decide +kernel, rfl⟩
theorem d_X7_take_5 : DC mi_X7_take 5 (.aload_n 0) 1 6 := ⟨by decide +kernel, rfl⟩
theorem d_X7_take_6 : DC mi_X7_take 6 (.getfield 9) 3 9 := ⟨by decide +kernel, rfl⟩
theorem d_X7_take_9 : DC mi_X7_take 9 (.iconst 0) 1 10 := ⟨by decide +kernel, rfl⟩
theorem d_X7_take_10 : DC mi_X7_take 10 (.aload_n 0) 1 11 := ⟨by decide +kernel, rfl⟩
theorem d_X7_take_11 : DC mi_X7_take 11 (.getfield 9) 3 14 := ⟨by decide +kernel, rfl⟩
theorem d_X7_take_14 : DC mi_X7_take 14 (.arraylength) 1 15 := ⟨by decide +kernel, rfl⟩
theorem d_X7_take_15 : DC mi_X7_take 15 (.invokestatic 40) 3 18 := ⟨by decide +kernel, rfl⟩
theorem d_X7_take_18 : DC mi_X7_take 18 (.aload_n 1) 1 19 := ⟨by decide +kernel, rfl⟩
theorem d_X7_take_19 : DC mi_X7_take 19 (.getfield 15) 3 22 := ⟨by decide +kernel, rfl⟩
theorem d_X7_take_22 : DC mi_X7_take 22 (.iconst 0) 1 23 := ⟨by decide +kernel, rfl⟩
theorem d_X7_take_23 : DC mi_X7_take 23 (.aload_n 0) 1 24 := ⟨by decide +kernel, rfl⟩
theorem d_X7_take_24 : DC mi_X7_take 24 (.getfield 15) 3 27 := ⟨by decide +kernel, rfl⟩
theorem d_X7_take_27 : DC mi_X7_take 27 (.iconst 0) 1 28 := ⟨by decide +kernel, rfl⟩
theorem d_X7_take_28 : DC mi_X7_take 28 (.aload_n 0) 1 29 := ⟨by decide +kernel, rfl⟩
theorem d_X7_take_29 : DC mi_X7_take 29 (.getfield 15) 3 32 := ⟨by decide +kernel, rfl⟩
theorem d_X7_take_32 : DC mi_X7_take 32 (.arraylength) 1 33 := ⟨by decide +kernel, rfl⟩
theorem d_X7_take_33 : DC mi_X7_take 33 (.invokestatic 40) 3 36 := ⟨by decide +kernel, rfl⟩
theorem d_X7_take_36 : DC mi_X7_take 36 (.aload_n 1) 1 37 := ⟨by decide +kernel, rfl⟩
theorem d_X7_take_37 : DC mi_X7_take 37 (.getfield 18) 3 40 := ⟨by decide +kernel, rfl⟩
theorem d_X7_take_40 : DC mi_X7_take 40 (.iconst 0) 1 41 := ⟨by decide +kernel, rfl⟩
theorem d_X7_take_41 : DC mi_X7_take 41 (.aload_n 0) 1 42 := ⟨by decide +kernel, rfl⟩
theorem d_X7_take_42 : DC mi_X7_take 42 (.getfield 18) 3 45 := ⟨by decide +kernel, rfl⟩
theorem d_X7_take_45 : DC mi_X7_take 45 (.iconst 0) 1 46 := ⟨by decide +kernel, rfl⟩
theorem d_X7_take_46 : DC mi_X7_take 46 (.aload_n 0) 1 47 := ⟨by decide +kernel, rfl⟩
theorem d_X7_take_47 : DC mi_X7_take 47 (.getfield 18) 3 50 := ⟨by decide +kernel, rfl⟩
theorem d_X7_take_50 : DC mi_X7_take 50 (.arraylength) 1 51 := ⟨by decide +kernel, rfl⟩
theorem d_X7_take_51 : DC mi_X7_take 51 (.invokestatic 40) 3 54 := ⟨by decide +kernel, rfl⟩
theorem d_X7_take_54 : DC mi_X7_take 54 (.aload_n 1) 1 55 := ⟨by decide +kernel, rfl⟩
theorem d_X7_take_55 : DC mi_X7_take 55 (.getfield 21) 3 58 := ⟨by decide +kernel, rfl⟩
theorem d_X7_take_58 : DC mi_X7_take 58 (.iconst 0) 1 59 := ⟨by decide +kernel, rfl⟩
theorem d_X7_take_59 : DC mi_X7_take 59 (.aload_n 0) 1 60 := ⟨by decide +kernel, rfl⟩
theorem d_X7_take_60 : DC mi_X7_take 60 (.getfield 21) 3 63 := ⟨by decide +kernel, rfl⟩
theorem d_X7_take_63 : DC mi_X7_take 63 (.iconst 0) 1 64 := ⟨by decide +kernel, rfl⟩
theorem d_X7_take_64 : DC mi_X7_take 64 (.aload_n 0) 1 65 := ⟨by decide +kernel, rfl⟩
theorem d_X7_take_65 : DC mi_X7_take 65 (.getfield 21) 3 68 := ⟨by decide +kernel, rfl⟩
theorem d_X7_take_68 : DC mi_X7_take 68 (.arraylength) 1 69 := ⟨by decide +kernel, rfl⟩
theorem d_X7_take_69 : DC mi_X7_take 69 (.invokestatic 40) 3 72 := ⟨by decide +kernel, rfl⟩
theorem d_X7_take_72 : DC mi_X7_take 72 (.aload_n 1) 1 73 := ⟨by decide +kernel, rfl⟩
theorem d_X7_take_73 : DC mi_X7_take 73 (.getfield 24) 3 76 := ⟨by decide +kernel, rfl⟩
theorem d_X7_take_76 : DC mi_X7_take 76 (.iconst 0) 1 77 := ⟨by decide +kernel, rfl⟩
theorem d_X7_take_77 : DC mi_X7_take 77 (.aload_n 0) 1 78 := ⟨by decide +kernel, rfl⟩
theorem d_X7_take_78 : DC mi_X7_take 78 (.getfield 24) 3 81 := ⟨by decide +kernel, rfl⟩
theorem d_X7_take_81 : DC mi_X7_take 81 (.iconst 0) 1 82 := ⟨by decide +kernel, rfl⟩
theorem d_X7_take_82 : DC mi_X7_take 82 (.aload_n 0) 1 83 := ⟨by decide +kernel, rfl⟩
theorem d_X7_take_83 : DC mi_X7_take 83 (.getfield 24) 3 86 := ⟨by decide +kernel, rfl⟩
theorem d_X7_take_86 : DC mi_X7_take 86 (.arraylength) 1 87 := ⟨by decide +kernel, rfl⟩
theorem d_X7_take_87 : DC mi_X7_take 87 (.invokestatic 40) 3 90 := ⟨by decide +kernel, rfl⟩
theorem d_X7_take_90 : DC mi_X7_take 90 (.aload_n 0) 1 91 := ⟨by decide +kernel, rfl⟩
theorem d_X7_take_91 : DC mi_X7_take 91 (.aload_n 1) 1 92 := ⟨by decide +kernel, rfl⟩
theorem d_X7_take_92 : DC mi_X7_take 92 (.getfield 33) 3 95 := ⟨by decide +kernel, rfl⟩
theorem d_X7_take_95 : DC mi_X7_take 95 (.putfield 33) 3 98 := ⟨by decide +kernel, rfl⟩
theorem d_X7_take_98 : DC mi_X7_take 98 (.aload_n 0) 1 99 := ⟨by decide +kernel, rfl⟩
theorem d_X7_take_99 : DC mi_X7_take 99 (.aload_n 1) 1 100 := ⟨by decide +kernel, rfl⟩
theorem d_X7_take_100 : DC mi_X7_take 100 (.getfield 37) 3 103 := ⟨by decide +kernel, rfl⟩
theorem d_X7_take_103 : DC mi_X7_take 103 (.putfield 37) 3 106 := ⟨by decide +kernel, rfl⟩
theorem d_X7_take_106 : DC mi_X7_take 106 (.return_) 1 107 := ⟨by decide +kernel, rfl⟩
set_option maxHeartbeats 4000000 in
set_option maxRecDepth 100000 in
theorem sp_X7_take (d : Nat) (hd : 1 ≤ d) (this : Nat) (a0 : Nat) (h : HH) : Sp mi_X7_take d iU [.ref this, .ref a0] h (g_X7_take this a0 h) := by
  refine sp_of (lc := [(0, .ref this), (1, .ref a0)]) (by decide) (Nat.le_of_ble_eq_true rfl) rfl ?_
  unfold g_X7_take
  refine sx_ckH (fun hthis => ?_)
  refine sx_ckH (fun ha0 => ?_)
  refine sx_aload_n d_X7_take_0 1 rfl ?_
  refine sx_getF (a' := (a0 + 1)) fl_StairCount_State_9 ha0 rfl rfl d_X7_take_1 ?_
  refine sx_iconst d_X7_take_4 ic0 ?_
  refine sx_aload_n d_X7_take_5 0 rfl ?_
  refine sx_getF (a' := (this + 1)) fl_StairCount_State_9 hthis rfl rfl d_X7_take_6 ?_
  refine sx_iconst d_X7_take_9 ic0 ?_
  refine sx_aload_n d_X7_take_10 0 rfl ?_
  refine sx_getF (a' := (this + 1)) fl_StairCount_State_9 hthis rfl rfl d_X7_take_11 ?_
  refine sx_alen (v := (6 : Int32)) (shf_7_0 hthis) nl6 d_X7_take_14 ?_
  refine sx_copy (shf_7_0 ha0) (shf_7_0 hthis) nl6 (by decide) lM_StairCount_State_40 (by omega) (Nat.le_of_ble_eq_true rfl) d_X7_take_15 (fun h1 => ?_)
  refine sx_aload_n d_X7_take_18 1 rfl ?_
  refine sx_getF (a' := (a0 + 2)) fl_StairCount_State_15 ha0 rfl rfl d_X7_take_19 ?_
  refine sx_iconst d_X7_take_22 ic0 ?_
  refine sx_aload_n d_X7_take_23 0 rfl ?_
  refine sx_getF (a' := (this + 2)) fl_StairCount_State_15 hthis rfl rfl d_X7_take_24 ?_
  refine sx_iconst d_X7_take_27 ic0 ?_
  refine sx_aload_n d_X7_take_28 0 rfl ?_
  refine sx_getF (a' := (this + 2)) fl_StairCount_State_15 hthis rfl rfl d_X7_take_29 ?_
  refine sx_alen (v := (6 : Int32)) (shf_7_1 hthis) nl6 d_X7_take_32 ?_
  refine sx_copy (shf_7_1 ha0) (shf_7_1 hthis) nl6 (by decide) lM_StairCount_State_40 (by omega) (Nat.le_of_ble_eq_true rfl) d_X7_take_33 (fun h2 => ?_)
  refine sx_aload_n d_X7_take_36 1 rfl ?_
  refine sx_getF (a' := (a0 + 3)) fl_StairCount_State_18 ha0 rfl rfl d_X7_take_37 ?_
  refine sx_iconst d_X7_take_40 ic0 ?_
  refine sx_aload_n d_X7_take_41 0 rfl ?_
  refine sx_getF (a' := (this + 3)) fl_StairCount_State_18 hthis rfl rfl d_X7_take_42 ?_
  refine sx_iconst d_X7_take_45 ic0 ?_
  refine sx_aload_n d_X7_take_46 0 rfl ?_
  refine sx_getF (a' := (this + 3)) fl_StairCount_State_18 hthis rfl rfl d_X7_take_47 ?_
  refine sx_alen (v := (6 : Int32)) (shf_7_2 hthis) nl6 d_X7_take_50 ?_
  refine sx_copy (shf_7_2 ha0) (shf_7_2 hthis) nl6 (by decide) lM_StairCount_State_40 (by omega) (Nat.le_of_ble_eq_true rfl) d_X7_take_51 (fun h3 => ?_)
  refine sx_aload_n d_X7_take_54 1 rfl ?_
  refine sx_getF (a' := (a0 + 4)) fl_StairCount_State_21 ha0 rfl rfl d_X7_take_55 ?_
  refine sx_iconst d_X7_take_58 ic0 ?_
  refine sx_aload_n d_X7_take_59 0 rfl ?_
  refine sx_getF (a' := (this + 4)) fl_StairCount_State_21 hthis rfl rfl d_X7_take_60 ?_
  refine sx_iconst d_X7_take_63 ic0 ?_
  refine sx_aload_n d_X7_take_64 0 rfl ?_
  refine sx_getF (a' := (this + 4)) fl_StairCount_State_21 hthis rfl rfl d_X7_take_65 ?_
  refine sx_alen (v := (6 : Int32)) (shf_7_3 hthis) nl6 d_X7_take_68 ?_
  refine sx_copy (shf_7_3 ha0) (shf_7_3 hthis) nl6 (by decide) lM_StairCount_State_40 (by omega) (Nat.le_of_ble_eq_true rfl) d_X7_take_69 (fun h4 => ?_)
  refine sx_aload_n d_X7_take_72 1 rfl ?_
  refine sx_getF (a' := (a0 + 5)) fl_StairCount_State_24 ha0 rfl rfl d_X7_take_73 ?_
  refine sx_iconst d_X7_take_76 ic0 ?_
  refine sx_aload_n d_X7_take_77 0 rfl ?_
  refine sx_getF (a' := (this + 5)) fl_StairCount_State_24 hthis rfl rfl d_X7_take_78 ?_
  refine sx_iconst d_X7_take_81 ic0 ?_
  refine sx_aload_n d_X7_take_82 0 rfl ?_
  refine sx_getF (a' := (this + 5)) fl_StairCount_State_24 hthis rfl rfl d_X7_take_83 ?_
  refine sx_alen (v := (36 : Int32)) (shf_7_4 hthis) nl36 d_X7_take_86 ?_
  refine sx_copy (shf_7_4 ha0) (shf_7_4 hthis) nl36 (by decide) lM_StairCount_State_40 (by omega) (Nat.le_of_ble_eq_true rfl) d_X7_take_87 (fun h5 => ?_)
  refine sx_aload_n d_X7_take_90 0 rfl ?_
  refine sx_aload_n d_X7_take_91 1 rfl ?_
  refine sx_getI fl_StairCount_State_33 ha0 rfl d_X7_take_92 (fun v6 => ?_)
  refine sx_putI fl_StairCount_State_33 hthis rfl hty_7_5 d_X7_take_95 (fun h7 => ?_)
  refine sx_aload_n d_X7_take_98 0 rfl ?_
  refine sx_aload_n d_X7_take_99 1 rfl ?_
  refine sx_getI fl_StairCount_State_37 ha0 rfl d_X7_take_100 (fun v8 => ?_)
  refine sx_putI fl_StairCount_State_37 hthis rfl hty_7_6 d_X7_take_103 (fun h9 => ?_)
  exact sx_vret rfl d_X7_take_106
theorem d_X1_possible_0 : DC mi_X1_possible 0 (.iconst 0) 1 1 := ⟨by decide +kernel, rfl⟩
theorem d_X1_possible_1 : DC mi_X1_possible 1 (.istore 5) 2 3 := ⟨by decide +kernel, rfl⟩
theorem d_X1_possible_3 : DC mi_X1_possible 3 (.iconst 0) 1 4 := ⟨by decide +kernel, rfl⟩
theorem d_X1_possible_4 : DC mi_X1_possible 4 (.istore 6) 2 6 := ⟨by decide +kernel, rfl⟩
theorem d_X1_possible_6 : DC mi_X1_possible 6 (.iload 6) 2 8 := ⟨by decide +kernel, rfl⟩
theorem d_X1_possible_8 : DC mi_X1_possible 8 (.bipush 19) 2 10 := ⟨by decide +kernel, rfl⟩
theorem d_X1_possible_10 : DB mi_X1_possible 10 (.if_icmp .ge 121) 121 13 131 := ⟨by decide +kernel, rfl, by decide⟩
theorem d_X1_possible_13 : DC mi_X1_possible 13 (.aload_n 1) 1 14 := ⟨by decide +kernel, rfl⟩
theorem d_X1_possible_14 : DC mi_X1_possible 14 (.getfield 20) 3 17 := ⟨by decide +kernel, rfl⟩
theorem d_X1_possible_17 : DC mi_X1_possible 17 (.astore 7) 2 19 := ⟨by decide +kernel, rfl⟩
theorem d_X1_possible_19 : DC mi_X1_possible 19 (.aload 7) 2 21 := ⟨by decide +kernel, rfl⟩
theorem d_X1_possible_21 : DC mi_X1_possible 21 (.aload_n 1) 1 22 := ⟨by decide +kernel, rfl⟩
theorem d_X1_possible_22 : DC mi_X1_possible 22 (.getfield 26) 3 25 := ⟨by decide +kernel, rfl⟩
theorem d_X1_possible_25 : DC mi_X1_possible 25 (.getfield 30) 3 28 := ⟨by decide +kernel, rfl⟩
theorem d_X1_possible_28 : DC mi_X1_possible 28 (.invokevirtual 35) 3 31 := ⟨by decide +kernel, rfl⟩
theorem d_X1_possible_31 : DC mi_X1_possible 31 (.aload 7) 2 33 := ⟨by decide +kernel, rfl⟩
theorem d_X1_possible_33 : DC mi_X1_possible 33 (.getfield 41) 3 36 := ⟨by decide +kernel, rfl⟩
theorem d_X1_possible_36 : DC mi_X1_possible 36 (.iload_n 3) 1 37 := ⟨by decide +kernel, rfl⟩
theorem d_X1_possible_37 : DC mi_X1_possible 37 (.iload 4) 2 39 := ⟨by decide +kernel, rfl⟩
theorem d_X1_possible_39 : DC mi_X1_possible 39 (.invokestatic 44) 3 42 := ⟨by decide +kernel, rfl⟩
theorem d_X1_possible_42 : DC mi_X1_possible 42 (.iload 6) 2 44 := ⟨by decide +kernel, rfl⟩
theorem d_X1_possible_44 : DC mi_X1_possible 44 (.bipush 9) 2 46 := ⟨by decide +kernel, rfl⟩
theorem d_X1_possible_46 : DC mi_X1_possible 46 (.isub) 1 47 := ⟨by decide +kernel, rfl⟩
theorem d_X1_possible_47 : DC mi_X1_possible 47 (.iastore) 1 48 := ⟨by decide +kernel, rfl⟩
theorem d_X1_possible_48 : DC mi_X1_possible 48 (.iconst 1) 1 49 := ⟨by decide +kernel, rfl⟩
theorem d_X1_possible_49 : DC mi_X1_possible 49 (.istore 8) 2 51 := ⟨by decide +kernel, rfl⟩
theorem d_X1_possible_51 : DC mi_X1_possible 51 (.iconst 1) 1 52 := ⟨by decide +kernel, rfl⟩
theorem d_X1_possible_52 : DC mi_X1_possible 52 (.istore 9) 2 54 := ⟨by decide +kernel, rfl⟩
theorem d_X1_possible_54 : DC mi_X1_possible 54 (.iload 9) 2 56 := ⟨by decide +kernel, rfl⟩
theorem d_X1_possible_56 : DC mi_X1_possible 56 (.bipush 40) 2 58 := ⟨by decide +kernel, rfl⟩
theorem d_X1_possible_58 : DB mi_X1_possible 58 (.if_icmp .gt 53) 53 61 111 := ⟨by decide +kernel, rfl, by decide⟩
theorem d_X1_possible_61 : DC mi_X1_possible 61 (.aload_n 1) 1 62 := ⟨by decide +kernel, rfl⟩
theorem d_X1_possible_62 : DC mi_X1_possible 62 (.invokevirtual 48) 3 65 := ⟨by decide +kernel, rfl⟩
theorem d_X1_possible_65 : DC mi_X1_possible 65 (.aload_n 0) 1 66 := ⟨by decide +kernel, rfl⟩
theorem d_X1_possible_66 : DC mi_X1_possible 66 (.getfield 11) 3 69 := ⟨by decide +kernel, rfl⟩
theorem d_X1_possible_69 : DC mi_X1_possible 69 (.iload 6) 2 71 := ⟨by decide +kernel, rfl⟩
theorem d_X1_possible_71 : DC mi_X1_possible 71 (.aaload) 1 72 := ⟨by decide +kernel, rfl⟩
theorem d_X1_possible_72 : DC mi_X1_possible 72 (.iload 9) 2 74 := ⟨by decide +kernel, rfl⟩
theorem d_X1_possible_74 : DC mi_X1_possible 74 (.aload 7) 2 76 := ⟨by decide +kernel, rfl⟩
theorem d_X1_possible_76 : DC mi_X1_possible 76 (.getfield 51) 3 79 := ⟨by decide +kernel, rfl⟩
theorem d_X1_possible_79 : DC mi_X1_possible 79 (.iload_n 3) 1 80 := ⟨by decide +kernel, rfl⟩
theorem d_X1_possible_80 : DC mi_X1_possible 80 (.iaload) 1 81 := ⟨by decide +kernel, rfl⟩
theorem d_X1_possible_81 : DC mi_X1_possible 81 (.iastore) 1 82 := ⟨by decide +kernel, rfl⟩
theorem d_X1_possible_82 : DC mi_X1_possible 82 (.iload 8) 2 84 := ⟨by decide +kernel, rfl⟩
theorem d_X1_possible_84 : DB mi_X1_possible 84 (.ifCond .eq 18) 18 87 102 := ⟨by decide +kernel, rfl, by decide⟩
theorem d_X1_possible_87 : DC mi_X1_possible 87 (.aload_n 2) 1 88 := ⟨by decide +kernel, rfl⟩
theorem d_X1_possible_88 : DC mi_X1_possible 88 (.iload 9) 2 90 := ⟨by decide +kernel, rfl⟩
theorem d_X1_possible_90 : DC mi_X1_possible 90 (.aload 7) 2 92 := ⟨by decide +kernel, rfl⟩
theorem d_X1_possible_92 : DC mi_X1_possible 92 (.invokevirtual 54) 3 95 := ⟨by decide +kernel, rfl⟩
theorem d_X1_possible_95 : DB mi_X1_possible 95 (.ifCond .eq 7) 7 98 102 := ⟨by decide +kernel, rfl, by decide⟩
theorem d_X1_possible_98 : DC mi_X1_possible 98 (.iconst 1) 1 99 := ⟨by decide +kernel, rfl⟩
theorem d_X1_possible_99 : DB mi_X1_possible 99 (.goto 4) 4 102 103 := ⟨by decide +kernel, rfl, by decide⟩
theorem d_X1_possible_102 : DC mi_X1_possible 102 (.iconst 0) 1 103 := ⟨by decide +kernel, rfl⟩
theorem d_X1_possible_103 : DC mi_X1_possible 103 (.istore 8) 2 105 := ⟨by decide +kernel, rfl⟩
theorem d_X1_possible_105 : DC mi_X1_possible 105 (.iinc 9 1) 3 108 := ⟨by decide +kernel, rfl⟩
theorem d_X1_possible_108 : DB mi_X1_possible 108 (.goto (-54)) (-54) 111 54 := ⟨by decide +kernel, rfl, by decide⟩
theorem d_X1_possible_111 : DC mi_X1_possible 111 (.iload 8) 2 113 := ⟨by decide +kernel, rfl⟩
theorem d_X1_possible_113 : DB mi_X1_possible 113 (.ifCond .eq 12) 12 116 125 := ⟨by decide +kernel, rfl, by decide⟩
theorem d_X1_possible_116 : DC mi_X1_possible 116 (.iload 5) 2 118 := ⟨by decide +kernel, rfl⟩
theorem d_X1_possible_118 : DC mi_X1_possible 118 (.iconst 1) 1 119 := ⟨by decide +kernel, rfl⟩
theorem d_X1_possible_119 : DC mi_X1_possible 119 (.iload 6) 2 121 := ⟨by decide +kernel, rfl⟩
theorem d_X1_possible_121 : DC mi_X1_possible 121 (.ishl) 1 122 := ⟨by decide +kernel, rfl⟩
theorem d_X1_possible_122 : DC mi_X1_possible 122 (.ior) 1 123 := ⟨by decide +kernel, rfl⟩
theorem d_X1_possible_123 : DC mi_X1_possible 123 (.istore 5) 2 125 := ⟨by decide +kernel, rfl⟩
theorem d_X1_possible_125 : DC mi_X1_possible 125 (.iinc 6 1) 3 128 := ⟨by decide +kernel, rfl⟩
theorem d_X1_possible_128 : DB mi_X1_possible 128 (.goto (-122)) (-122) 131 6 := ⟨by decide +kernel, rfl, by decide⟩
theorem d_X1_possible_131 : DC mi_X1_possible 131 (.iload 5) 2 133 := ⟨by decide +kernel, rfl⟩
theorem d_X1_possible_133 : DC mi_X1_possible 133 (.ireturn) 1 134 := ⟨by decide +kernel, rfl⟩
set_option maxHeartbeats 4000000 in
set_option maxRecDepth 100000 in
theorem sL_X1_possible_54 (d : Nat) (hd : 6 ≤ d) (K111 : Int32 → HH → Option (Int32 × HH)) (c3 : Int32) (c4 : Int32) (c5 : Int32) (c6 : Int32) (b_p1 : Nat) (e7 : shL[b_p1]? = some (.inl 7)) (hK111 : ∀ (z8 : Int32) (h : HH), Sx mi_X1_possible d iI (K111 z8 h) 111 [(0, .ref 225), (1, .ref 193), (2, .ref 186), (3, .int c3), (4, .int c4), (5, .int c5), (6, .int c6), (8, .int z8)] [] h) : ∀ (n : Nat) (x8 : Int32) (x9 : Int32) (h : HH), Sx mi_X1_possible d iI (g_X1_possible_L54 K111 c3 c4 c5 c6 b_p1 n x8 x9 h) 54 [(0, .ref 225), (1, .ref 193), (2, .ref 186), (3, .int c3), (4, .int c4), (5, .int c5), (6, .int c6), (7, .ref b_p1), (8, .int x8), (9, .int x9)] [] h := by
  intro n
  induction n with
  | zero => intro x8 x9 h; exact sx_none
  | succ n ih =>
    intro x8 x9 h
    rw [g_X1_possible_L54]
    refine sx_iload d_X1_possible_54 9 rfl ?_
    refine sx_bipush d_X1_possible_56 bc40 ?_
    refine sx_icmp_gt d_X1_possible_58 ?_ ?_
    · refine sx_lc (lc' := [(0, .ref 225), (1, .ref 193), (2, .ref 186), (3, .int c3), (4, .int c4), (5, .int c5), (6, .int c6), (8, .int x8)]) [0, 1, 2, 3, 4, 5, 6, 8] rfl ?_
      exact hK111 x8 h
    · refine sx_aload_n d_X1_possible_61 1 rfl ?_
      refine sx_callV [] mv_X0_passOne lM_StairCount_Guess_48 sh_193 (by omega) rfl rfl (Nat.le_of_ble_eq_true rfl) d_X1_possible_62 (sp_X0_passOne (d - 1) (by omega) h) (fun _ h8 => ?_)
      refine sx_aload_n d_X1_possible_65 0 rfl ?_
      refine sx_getF (a' := 226) fl_StairCount_Guess_11 sh_225 rfl rfl d_X1_possible_66 ?_
      refine sx_iload d_X1_possible_69 6 rfl ?_
      refine sx_aald sh_226 rfl d_X1_possible_71 (fun p10 => ?_)
      refine sx_ckH (fun ep10 => ?_)
      refine sx_iload d_X1_possible_72 9 rfl ?_
      refine sx_aload d_X1_possible_74 7 rfl ?_
      refine sx_getF (a' := (b_p1 + 1)) fl_StairCount_Guess_51 e7 rfl rfl d_X1_possible_76 ?_
      refine sx_iload_n d_X1_possible_79 3 rfl ?_
      refine sx_iald (shf_7_0 e7) d_X1_possible_80 (fun v11 => ?_)
      refine sx_iast ep10 d_X1_possible_81 (fun h12 => ?_)
      refine sx_iload d_X1_possible_82 8 rfl ?_
      refine sx_jn (fun j => ∀ (y16 : Int32) (h : HH), Sx mi_X1_possible d iI (j y16 h) 103 [(0, .ref 225), (1, .ref 193), (2, .ref 186), (3, .int c3), (4, .int c4), (5, .int c5), (6, .int c6), (7, .ref b_p1), (9, .int x9)] [.int y16] h) ?_ ?_
      · intro y16 h15
        refine sx_istore (i := 8) (lc' := [(8, .int y16), (0, .ref 225), (1, .ref 193), (2, .ref 186), (3, .int c3), (4, .int c4), (5, .int c5), (6, .int c6), (7, .ref b_p1), (9, .int x9)]) d_X1_possible_103 (by decide) rfl ?_
        refine sx_iincV (lc' := fun v17 => [(9, .int v17), (8, .int y16), (0, .ref 225), (1, .ref 193), (2, .ref 186), (3, .int c3), (4, .int c4), (5, .int c5), (6, .int c6), (7, .ref b_p1)]) (k0 := 9) d_X1_possible_105 rfl ii1 (by decide) (fun _ => rfl) (fun v17 => ?_)
        refine sx_goto d_X1_possible_108 ?_
        refine sx_lc (lc' := [(0, .ref 225), (1, .ref 193), (2, .ref 186), (3, .int c3), (4, .int c4), (5, .int c5), (6, .int c6), (7, .ref b_p1), (8, .int y16), (9, .int v17)]) [2, 3, 4, 5, 6, 7, 8, 9, 1, 0] rfl ?_
        exact ih y16 v17 h15
      · intro j13 k14
        refine sx_jn (fun j => ∀  (h : HH), Sx mi_X1_possible d iI (j  h) 102 [(0, .ref 225), (1, .ref 193), (2, .ref 186), (3, .int c3), (4, .int c4), (5, .int c5), (6, .int c6), (7, .ref b_p1), (9, .int x9)] [] h) ?_ ?_
        · intro  h20
          refine sx_iconst d_X1_possible_102 ic0 ?_
          exact k14 (0 : Int32) h20
        · intro j18 k19
          refine sx_if_eq d_X1_possible_84 ?_ ?_
          · refine sx_lc (lc' := [(0, .ref 225), (1, .ref 193), (2, .ref 186), (3, .int c3), (4, .int c4), (5, .int c5), (6, .int c6), (7, .ref b_p1), (9, .int x9)]) [0, 1, 2, 3, 4, 5, 6, 7, 9] rfl ?_
            exact k19 h12
          · refine sx_aload_n d_X1_possible_87 2 rfl ?_
            refine sx_iload d_X1_possible_88 9 rfl ?_
            refine sx_aload d_X1_possible_90 7 rfl ?_
            refine sx_callV [.int x9, .ref b_p1] mv_X3_hold lM_StairCount_Guess_54 sh_186 (by omega) rfl rfl (Nat.le_of_ble_eq_true rfl) d_X1_possible_92 (sp_X3_hold (d - 1) (by omega) x9 b_p1 h12) (fun r22 h21 => ?_)
            refine sx_if_eq d_X1_possible_95 ?_ ?_
            · refine sx_lc (lc' := [(0, .ref 225), (1, .ref 193), (2, .ref 186), (3, .int c3), (4, .int c4), (5, .int c5), (6, .int c6), (7, .ref b_p1), (9, .int x9)]) [0, 1, 2, 3, 4, 5, 6, 7, 9] rfl ?_
              exact k19 h21
            · refine sx_iconst d_X1_possible_98 ic1 ?_
              refine sx_goto d_X1_possible_99 ?_
              refine sx_lc (lc' := [(0, .ref 225), (1, .ref 193), (2, .ref 186), (3, .int c3), (4, .int c4), (5, .int c5), (6, .int c6), (7, .ref b_p1), (9, .int x9)]) [0, 1, 2, 3, 4, 5, 6, 7, 9] rfl ?_
              exact k14 (1 : Int32) h21
set_option maxHeartbeats 4000000 in
set_option maxRecDepth 100000 in
theorem sL_X1_possible_6 (d : Nat) (hd : 6 ≤ d) (c3 : Int32) (c4 : Int32) : ∀ (n : Nat) (x5 : Int32) (x6 : Int32) (h : HH), Sx mi_X1_possible d iI (g_X1_possible_L6 c3 c4 n x5 x6 h) 6 [(0, .ref 225), (1, .ref 193), (2, .ref 186), (3, .int c3), (4, .int c4), (5, .int x5), (6, .int x6)] [] h := by
  intro n
  induction n with
  | zero => intro x5 x6 h; exact sx_none
  | succ n ih =>
    intro x5 x6 h
    rw [g_X1_possible_L6]
    refine sx_iload d_X1_possible_6 6 rfl ?_
    refine sx_bipush d_X1_possible_8 bc19 ?_
    refine sx_icmp_ge d_X1_possible_10 ?_ ?_
    · refine sx_aload_n d_X1_possible_13 1 rfl ?_
      refine sx_getR fl_StairCount_Guess_20 sh_193 rfl d_X1_possible_14 (fun p1 => ?_)
      refine sx_ckH (fun ep1 => ?_)
      refine sx_astore (i := 7) (lc' := [(7, .ref p1), (0, .ref 225), (1, .ref 193), (2, .ref 186), (3, .int c3), (4, .int c4), (5, .int x5), (6, .int x6)]) d_X1_possible_17 (by decide) rfl ?_
      refine sx_aload d_X1_possible_19 0 rfl ?_
      refine sx_aload_n d_X1_possible_21 2 rfl ?_
      refine sx_getR fl_StairCount_Guess_26 sh_193 rfl d_X1_possible_22 (fun p2 => ?_)
      refine sx_ckH (fun ep2 => ?_)
      refine sx_getF (a' := (p2 + 16)) fl_StairCount_Guess_30 ep2 rfl rfl d_X1_possible_25 ?_
      refine sx_callV [.ref (p2 + 16)] mv_X7_take lM_StairCount_Guess_35 ep1 (by omega) rfl rfl (Nat.le_of_ble_eq_true rfl) d_X1_possible_28 (sp_X7_take (d - 1) (by omega) p1 (p2 + 16) h) (fun _ h3 => ?_)
      refine sx_aload d_X1_possible_31 0 rfl ?_
      refine sx_getF (a' := (p1 + 5)) fl_StairCount_Guess_41 ep1 rfl rfl d_X1_possible_33 ?_
      refine sx_iload_n d_X1_possible_36 4 rfl ?_
      refine sx_iload d_X1_possible_37 5 rfl ?_
      refine sx_callSN [.int c3, .int c4] ms_X10_cell lM_StairCount_Guess_44 (by omega) rfl rfl (Nat.le_of_ble_eq_true rfl) d_X1_possible_39 (sp_X10_cell (d - 1) (by omega) c3 c4 h3) (fun r6 h5 => ?_)
      refine sx_iload d_X1_possible_42 7 rfl ?_
      refine sx_bipush d_X1_possible_44 bc9 ?_
      refine sx_isub d_X1_possible_46 ?_
      refine sx_iast (shf_7_4 ep1) d_X1_possible_47 (fun h7 => ?_)
      refine sx_iconst d_X1_possible_48 ic1 ?_
      refine sx_istore (i := 8) (lc' := [(8, .int (1 : Int32)), (7, .ref p1), (0, .ref 225), (1, .ref 193), (2, .ref 186), (3, .int c3), (4, .int c4), (5, .int x5), (6, .int x6)]) d_X1_possible_49 (by decide) rfl ?_
      refine sx_iconst d_X1_possible_51 ic1 ?_
      refine sx_istore (i := 9) (lc' := [(9, .int (1 : Int32)), (8, .int (1 : Int32)), (7, .ref p1), (0, .ref 225), (1, .ref 193), (2, .ref 186), (3, .int c3), (4, .int c4), (5, .int x5), (6, .int x6)]) d_X1_possible_52 (by decide) rfl ?_
      refine sx_lc (lc' := [(0, .ref 225), (1, .ref 193), (2, .ref 186), (3, .int c3), (4, .int c4), (5, .int x5), (6, .int x6), (7, .ref p1), (8, .int (1 : Int32)), (9, .int (1 : Int32))]) [3, 4, 5, 6, 7, 8, 9, 2, 1, 0] rfl ?_
      refine sL_X1_possible_54 d hd _ c3 c4 x5 x6 p1 (ep1) ?_ 1024 (1 : Int32) (1 : Int32) h7
      · intro z24 h23
        refine sx_iload d_X1_possible_111 7 rfl ?_
        refine sx_jn (fun j => ∀ (u28 : Int32) (h : HH), Sx mi_X1_possible d iI (j u28 h) 125 [(0, .ref 225), (1, .ref 193), (2, .ref 186), (3, .int c3), (4, .int c4), (5, .int u28), (6, .int x6)] [] h) ?_ ?_
        · intro u28 h27
          refine sx_iincV (lc' := fun v29 => [(6, .int v29), (0, .ref 225), (1, .ref 193), (2, .ref 186), (3, .int c3), (4, .int c4), (5, .int u28)]) (k0 := 6) d_X1_possible_125 rfl ii1 (by decide) (fun _ => rfl) (fun v29 => ?_)
          refine sx_goto d_X1_possible_128 ?_
          refine sx_lc (lc' := [(0, .ref 225), (1, .ref 193), (2, .ref 186), (3, .int c3), (4, .int c4), (5, .int u28), (6, .int v29)]) [1, 2, 3, 4, 5, 6, 0] rfl ?_
          exact ih u28 v29 h27
        · intro j25 k26
          refine sx_if_eq d_X1_possible_113 ?_ ?_
          · refine sx_lc (lc' := [(0, .ref 225), (1, .ref 193), (2, .ref 186), (3, .int c3), (4, .int c4), (5, .int x5), (6, .int x6)]) [0, 1, 2, 3, 4, 5, 6] rfl ?_
            exact k26 x5 h23
          · refine sx_iload d_X1_possible_116 5 rfl ?_
            refine sx_iconst d_X1_possible_118 ic1 ?_
            refine sx_iload d_X1_possible_119 6 rfl ?_
            refine sx_ishl d_X1_possible_121 ?_
            refine sx_ior d_X1_possible_122 ?_
            refine sx_vlI (fun v30 => ?_)
            refine sx_istore (i := 5) (lc' := [(5, .int v30), (0, .ref 225), (1, .ref 193), (2, .ref 186), (3, .int c3), (4, .int c4), (6, .int x6), (8, .int z24)]) d_X1_possible_123 (by decide) rfl ?_
            refine sx_lc (lc' := [(0, .ref 225), (1, .ref 193), (2, .ref 186), (3, .int c3), (4, .int c4), (5, .int v30), (6, .int x6)]) [1, 2, 3, 4, 5, 0, 6] rfl ?_
            exact k26 v30 h23
    · refine sx_iload d_X1_possible_131 5 rfl ?_
      exact sx_iret rfl d_X1_possible_133
set_option maxHeartbeats 4000000 in
set_option maxRecDepth 100000 in
theorem sp_X1_possible (d : Nat) (hd : 6 ≤ d) (a2 : Int32) (a3 : Int32) (h : HH) : Sp mi_X1_possible d iI [.ref 225, .ref 193, .ref 186, .int a2, .int a3] h (g_X1_possible a2 a3 h) := by
  refine sp_of (lc := [(0, .ref 225), (1, .ref 193), (2, .ref 186), (3, .int a2), (4, .int a3)]) (by decide) (Nat.le_of_ble_eq_true rfl) rfl ?_
  unfold g_X1_possible
  refine sx_iconst d_X1_possible_0 ic0 ?_
  refine sx_istore (i := 5) (lc' := [(5, .int (0 : Int32)), (0, .ref 225), (1, .ref 193), (2, .ref 186), (3, .int a2), (4, .int a3)]) d_X1_possible_1 (by decide) rfl ?_
  refine sx_iconst d_X1_possible_3 ic0 ?_
  refine sx_istore (i := 6) (lc' := [(6, .int (0 : Int32)), (5, .int (0 : Int32)), (0, .ref 225), (1, .ref 193), (2, .ref 186), (3, .int a2), (4, .int a3)]) d_X1_possible_4 (by decide) rfl ?_
  refine sx_lc (lc' := [(0, .ref 225), (1, .ref 193), (2, .ref 186), (3, .int a2), (4, .int a3), (5, .int (0 : Int32)), (6, .int (0 : Int32))]) [2, 3, 4, 5, 6, 1, 0] rfl ?_
  refine sL_X1_possible_6 d hd a2 a3 1024 (0 : Int32) (0 : Int32) h
theorem d_J7_fill_53178_0 : DC mi_J7_fill_53178 0 (.iconst 0) 1 1 := ⟨by decide +kernel, rfl⟩
theorem d_J7_fill_53178_1 : DC mi_J7_fill_53178 1 (.istore_n 2) 1 2 := ⟨by decide +kernel, rfl⟩
theorem d_J7_fill_53178_2 : DC mi_J7_fill_53178 2 (.aload_n 0) 1 3 := ⟨by decide +kernel, rfl⟩
theorem d_J7_fill_53178_3 : DC mi_J7_fill_53178 3 (.arraylength) 1 4 := ⟨by decide +kernel, rfl⟩
theorem d_J7_fill_53178_4 : DC mi_J7_fill_53178 4 (.istore_n 3) 1 5 := ⟨by decide +kernel, rfl⟩
theorem d_J7_fill_53178_5 : DC mi_J7_fill_53178 5 (.iload_n 2) 1 6 := ⟨by decide +kernel, rfl⟩
theorem d_J7_fill_53178_6 : DC mi_J7_fill_53178 6 (.iload_n 3) 1 7 := ⟨by decide +kernel, rfl⟩
theorem d_J7_fill_53178_7 : DB mi_J7_fill_53178 7 (.if_icmp .ge 13) 13 10 20 := ⟨by decide +kernel, rfl, by decide⟩
theorem d_J7_fill_53178_10 : DC mi_J7_fill_53178 10 (.aload_n 0) 1 11 := ⟨by decide +kernel, rfl⟩
theorem d_J7_fill_53178_11 : DC mi_J7_fill_53178 11 (.iload_n 2) 1 12 := ⟨by decide +kernel, rfl⟩
theorem d_J7_fill_53178_12 : DC mi_J7_fill_53178 12 (.iload_n 1) 1 13 := ⟨by decide +kernel, rfl⟩
theorem d_J7_fill_53178_13 : DC mi_J7_fill_53178 13 (.iastore) 1 14 := ⟨by decide +kernel, rfl⟩
theorem d_J7_fill_53178_14 : DC mi_J7_fill_53178 14 (.iinc 2 1) 3 17 := ⟨by decide +kernel, rfl⟩
theorem d_J7_fill_53178_17 : DB mi_J7_fill_53178 17 (.goto (-12)) (-12) 20 5 := ⟨by decide +kernel, rfl, by decide⟩
theorem d_J7_fill_53178_20 : DC mi_J7_fill_53178 20 (.return_) 1 21 := ⟨by decide +kernel, rfl⟩
set_option maxHeartbeats 4000000 in
set_option maxRecDepth 100000 in
theorem sL_J7_fill_53178_5 (d : Nat) (hd : 0 ≤ d) (b_a0 : Nat) (c1 : Int32) (c3 : Int32) (e0 : shL[b_a0]? = some (.inr (0, lnA b_a0, 0))) : ∀ (n : Nat) (x2 : Int32) (h : HH), Sx mi_J7_fill_53178 d iU (g_J7_fill_53178_L5 b_a0 c1 c3 n x2 h) 5 [(0, .ref b_a0), (1, .int c1), (2, .int x2), (3, .int c3)] [] h := by
  intro n
  induction n with
  | zero => intro x2 h; exact sx_none
  | succ n ih =>
    intro x2 h
    rw [g_J7_fill_53178_L5]
    refine sx_iload_n d_J7_fill_53178_5 2 rfl ?_
    refine sx_iload_n d_J7_fill_53178_6 3 rfl ?_
    refine sx_icmp_ge d_J7_fill_53178_7 ?_ ?_
    · refine sx_aload_n d_J7_fill_53178_10 0 rfl ?_
      refine sx_iload_n d_J7_fill_53178_11 2 rfl ?_
      refine sx_iload_n d_J7_fill_53178_12 1 rfl ?_
      refine sx_iast e0 d_J7_fill_53178_13 (fun h2 => ?_)
      refine sx_iincV (lc' := fun v3 => [(2, .int v3), (0, .ref b_a0), (1, .int c1), (3, .int c3)]) (k0 := 2) d_J7_fill_53178_14 rfl ii1 (by decide) (fun _ => rfl) (fun v3 => ?_)
      refine sx_goto d_J7_fill_53178_17 ?_
      refine sx_lc (lc' := [(0, .ref b_a0), (1, .int c1), (2, .int v3), (3, .int c3)]) [1, 2, 0, 3] rfl ?_
      exact ih v3 h2
    · exact sx_vret rfl d_J7_fill_53178_20
set_option maxHeartbeats 4000000 in
set_option maxRecDepth 100000 in
theorem sp_J7_fill_53178 (d : Nat) (hd : 0 ≤ d) (a0 : Nat) (a1 : Int32) (h : HH) : Sp mi_J7_fill_53178 d iU [.ref a0, .int a1] h (g_J7_fill_53178 a0 a1 h) := by
  refine sp_of (lc := [(0, .ref a0), (1, .int a1)]) (by decide) (Nat.le_of_ble_eq_true rfl) rfl ?_
  unfold g_J7_fill_53178
  refine sx_ckA (fun ha0 => ?_)
  refine sx_iconst d_J7_fill_53178_0 ic0 ?_
  refine sx_istore_n (i := 2) (lc' := [(2, .int (0 : Int32)), (0, .ref a0), (1, .int a1)]) d_J7_fill_53178_1 rfl (by decide) rfl ?_
  refine sx_aload_n d_J7_fill_53178_2 1 rfl ?_
  refine sx_alen (v := (Int32.ofNat (lnA a0))) ha0 rfl d_J7_fill_53178_3 ?_
  refine sx_vlI (fun v1 => ?_)
  refine sx_istore_n (i := 3) (lc' := [(3, .int v1), (2, .int (0 : Int32)), (0, .ref a0), (1, .int a1)]) d_J7_fill_53178_4 rfl (by decide) rfl ?_
  refine sx_lc (lc' := [(0, .ref a0), (1, .int a1), (2, .int (0 : Int32)), (3, .int v1)]) [2, 3, 1, 0] rfl ?_
  refine sL_J7_fill_53178_5 d hd a0 a1 v1 (ha0) 1024 (0 : Int32) h
theorem d_X1_worst_0 : DC mi_X1_worst 0 (.aload_n 0) 1 1 := ⟨by decide +kernel, rfl⟩
theorem d_X1_worst_1 : DC mi_X1_worst 1 (.getfield 16) 3 4 := ⟨by decide +kernel, rfl⟩
theorem d_X1_worst_4 : DC mi_X1_worst 4 (.iconst 0) 1 5 := ⟨by decide +kernel, rfl⟩
theorem d_X1_worst_5 : DC mi_X1_worst 5 (.invokestatic 60) 3 8 := ⟨by decide +kernel, rfl⟩
theorem d_X1_worst_8 : DC mi_X1_worst 8 (.iconst 0) 1 9 := ⟨by decide +kernel, rfl⟩
theorem d_X1_worst_9 : DC mi_X1_worst 9 (.istore_n 3) 1 10 := ⟨by decide +kernel, rfl⟩
theorem d_X1_worst_10 : DC mi_X1_worst 10 (.iconst 0) 1 11 := ⟨by decide +kernel, rfl⟩
theorem d_X1_worst_11 : DC mi_X1_worst 11 (.istore 4) 2 13 := ⟨by decide +kernel, rfl⟩
theorem d_X1_worst_13 : DC mi_X1_worst 13 (.iload 4) 2 15 := ⟨by decide +kernel, rfl⟩
theorem d_X1_worst_15 : DC mi_X1_worst 15 (.bipush 19) 2 17 := ⟨by decide +kernel, rfl⟩
theorem d_X1_worst_17 : DB mi_X1_worst 17 (.if_icmp .ge 52) 52 20 69 := ⟨by decide +kernel, rfl, by decide⟩
theorem d_X1_worst_20 : DC mi_X1_worst 20 (.iload_n 1) 1 21 := ⟨by decide +kernel, rfl⟩
theorem d_X1_worst_21 : DC mi_X1_worst 21 (.iload 4) 2 23 := ⟨by decide +kernel, rfl⟩
theorem d_X1_worst_23 : DC mi_X1_worst 23 (.ishr) 1 24 := ⟨by decide +kernel, rfl⟩
theorem d_X1_worst_24 : DC mi_X1_worst 24 (.iconst 1) 1 25 := ⟨by decide +kernel, rfl⟩
theorem d_X1_worst_25 : DC mi_X1_worst 25 (.iand) 1 26 := ⟨by decide +kernel, rfl⟩
theorem d_X1_worst_26 : DB mi_X1_worst 26 (.ifCond .eq 37) 37 29 63 := ⟨by decide +kernel, rfl, by decide⟩
theorem d_X1_worst_29 : DC mi_X1_worst 29 (.aload_n 0) 1 30 := ⟨by decide +kernel, rfl⟩
theorem d_X1_worst_30 : DC mi_X1_worst 30 (.getfield 11) 3 33 := ⟨by decide +kernel, rfl⟩
theorem d_X1_worst_33 : DC mi_X1_worst 33 (.iload 4) 2 35 := ⟨by decide +kernel, rfl⟩
theorem d_X1_worst_35 : DC mi_X1_worst 35 (.aaload) 1 36 := ⟨by decide +kernel, rfl⟩
theorem d_X1_worst_36 : DC mi_X1_worst 36 (.iload_n 2) 1 37 := ⟨by decide +kernel, rfl⟩
theorem d_X1_worst_37 : DC mi_X1_worst 37 (.iaload) 1 38 := ⟨by decide +kernel, rfl⟩
theorem d_X1_worst_38 : DC mi_X1_worst 38 (.istore 5) 2 40 := ⟨by decide +kernel, rfl⟩
theorem d_X1_worst_40 : DC mi_X1_worst 40 (.aload_n 0) 1 41 := ⟨by decide +kernel, rfl⟩
theorem d_X1_worst_41 : DC mi_X1_worst 41 (.getfield 16) 3 44 := ⟨by decide +kernel, rfl⟩
theorem d_X1_worst_44 : DC mi_X1_worst 44 (.iload 5) 2 46 := ⟨by decide +kernel, rfl⟩
theorem d_X1_worst_46 : DC mi_X1_worst 46 (.dup2) 1 47 := ⟨by decide +kernel, rfl⟩
theorem d_X1_worst_47 : DC mi_X1_worst 47 (.iaload) 1 48 := ⟨by decide +kernel, rfl⟩
theorem d_X1_worst_48 : DC mi_X1_worst 48 (.iconst 1) 1 49 := ⟨by decide +kernel, rfl⟩
theorem d_X1_worst_49 : DC mi_X1_worst 49 (.iadd) 1 50 := ⟨by decide +kernel, rfl⟩
theorem d_X1_worst_50 : DC mi_X1_worst 50 (.iastore) 1 51 := ⟨by decide +kernel, rfl⟩
theorem d_X1_worst_51 : DC mi_X1_worst 51 (.iload_n 3) 1 52 := ⟨by decide +kernel, rfl⟩
theorem d_X1_worst_52 : DC mi_X1_worst 52 (.aload_n 0) 1 53 := ⟨by decide +kernel, rfl⟩
theorem d_X1_worst_53 : DC mi_X1_worst 53 (.getfield 16) 3 56 := ⟨by decide +kernel, rfl⟩
theorem d_X1_worst_56 : DC mi_X1_worst 56 (.iload 5) 2 58 := ⟨by decide +kernel, rfl⟩
theorem d_X1_worst_58 : DC mi_X1_worst 58 (.iaload) 1 59 := ⟨by decide +kernel, rfl⟩
theorem d_X1_worst_59 : DC mi_X1_worst 59 (.invokestatic 66) 3 62 := ⟨by decide +kernel, rfl⟩
theorem d_X1_worst_62 : DC mi_X1_worst 62 (.istore_n 3) 1 63 := ⟨by decide +kernel, rfl⟩
theorem d_X1_worst_63 : DC mi_X1_worst 63 (.iinc 4 1) 3 66 := ⟨by decide +kernel, rfl⟩
theorem d_X1_worst_66 : DB mi_X1_worst 66 (.goto (-53)) (-53) 69 13 := ⟨by decide +kernel, rfl, by decide⟩
theorem d_X1_worst_69 : DC mi_X1_worst 69 (.iload_n 3) 1 70 := ⟨by decide +kernel, rfl⟩
theorem d_X1_worst_70 : DC mi_X1_worst 70 (.ireturn) 1 71 := ⟨by decide +kernel, rfl⟩
set_option maxHeartbeats 4000000 in
set_option maxRecDepth 100000 in
theorem sL_X1_worst_13 (d : Nat) (hd : 1 ≤ d) (c1 : Int32) (c2 : Int32) : ∀ (n : Nat) (x3 : Int32) (x4 : Int32) (h : HH), Sx mi_X1_worst d iI (g_X1_worst_L13 c1 c2 n x3 x4 h) 13 [(0, .ref 225), (1, .int c1), (2, .int c2), (3, .int x3), (4, .int x4)] [] h := by
  intro n
  induction n with
  | zero => intro x3 x4 h; exact sx_none
  | succ n ih =>
    intro x3 x4 h
    rw [g_X1_worst_L13]
    refine sx_iload d_X1_worst_13 4 rfl ?_
    refine sx_bipush d_X1_worst_15 bc19 ?_
    refine sx_icmp_ge d_X1_worst_17 ?_ ?_
    · refine sx_iload_n d_X1_worst_20 1 rfl ?_
      refine sx_iload d_X1_worst_21 4 rfl ?_
      refine sx_ishr d_X1_worst_23 ?_
      refine sx_iconst d_X1_worst_24 ic1 ?_
      refine sx_iand d_X1_worst_25 ?_
      refine sx_jn (fun j => ∀ (u6 : Int32) (h : HH), Sx mi_X1_worst d iI (j u6 h) 63 [(0, .ref 225), (1, .int c1), (2, .int c2), (3, .int u6), (4, .int x4)] [] h) ?_ ?_
      · intro u6 h5
        refine sx_iincV (lc' := fun v7 => [(4, .int v7), (0, .ref 225), (1, .int c1), (2, .int c2), (3, .int u6)]) (k0 := 4) d_X1_worst_63 rfl ii1 (by decide) (fun _ => rfl) (fun v7 => ?_)
        refine sx_goto d_X1_worst_66 ?_
        refine sx_lc (lc' := [(0, .ref 225), (1, .int c1), (2, .int c2), (3, .int u6), (4, .int v7)]) [1, 2, 3, 4, 0] rfl ?_
        exact ih u6 v7 h5
      · intro j3 k4
        refine sx_if_eq d_X1_worst_26 ?_ ?_
        · exact k4 x3 h
        · refine sx_aload_n d_X1_worst_29 0 rfl ?_
          refine sx_getF (a' := 226) fl_StairCount_Guess_11 sh_225 rfl rfl d_X1_worst_30 ?_
          refine sx_iload d_X1_worst_33 4 rfl ?_
          refine sx_aald sh_226 rfl d_X1_worst_35 (fun p8 => ?_)
          refine sx_ckH (fun ep8 => ?_)
          refine sx_iload_n d_X1_worst_36 2 rfl ?_
          refine sx_iald ep8 d_X1_worst_37 (fun v9 => ?_)
          refine sx_istore (i := 5) (lc' := [(5, .int v9), (0, .ref 225), (1, .int c1), (2, .int c2), (3, .int x3), (4, .int x4)]) d_X1_worst_38 (by decide) rfl ?_
          refine sx_aload_n d_X1_worst_40 1 rfl ?_
          refine sx_getF (a' := 246) fl_StairCount_Guess_16 sh_225 rfl rfl d_X1_worst_41 ?_
          refine sx_iload d_X1_worst_44 0 rfl ?_
          refine sx_dup2 d_X1_worst_46 rfl rfl ?_
          refine sx_iald sh_246 d_X1_worst_47 (fun v10 => ?_)
          refine sx_iconst d_X1_worst_48 ic1 ?_
          refine sx_iadd d_X1_worst_49 ?_
          refine sx_iast sh_246 d_X1_worst_50 (fun h11 => ?_)
          refine sx_iload_n d_X1_worst_51 4 rfl ?_
          refine sx_aload_n d_X1_worst_52 1 rfl ?_
          refine sx_getF (a' := 246) fl_StairCount_Guess_16 sh_225 rfl rfl d_X1_worst_53 ?_
          refine sx_iload d_X1_worst_56 0 rfl ?_
          refine sx_iald sh_246 d_X1_worst_58 (fun v12 => ?_)
          refine sx_mmax lM_StairCount_Guess_66 (by omega) (Nat.le_of_ble_eq_true rfl) d_X1_worst_59 ?_
          refine sx_vlI (fun v13 => ?_)
          refine sx_istore_n (i := 3) (lc' := [(3, .int v13), (5, .int v9), (0, .ref 225), (1, .int c1), (2, .int c2), (4, .int x4)]) d_X1_worst_62 rfl (by decide) rfl ?_
          refine sx_lc (lc' := [(0, .ref 225), (1, .int c1), (2, .int c2), (3, .int v13), (4, .int x4)]) [2, 3, 4, 0, 5] rfl ?_
          exact k4 v13 h11
    · refine sx_iload_n d_X1_worst_69 3 rfl ?_
      exact sx_iret rfl d_X1_worst_70
set_option maxHeartbeats 4000000 in
set_option maxRecDepth 100000 in
theorem sp_X1_worst (d : Nat) (hd : 1 ≤ d) (a0 : Int32) (a1 : Int32) (h : HH) : Sp mi_X1_worst d iI [.ref 225, .int a0, .int a1] h (g_X1_worst a0 a1 h) := by
  refine sp_of (lc := [(0, .ref 225), (1, .int a0), (2, .int a1)]) (by decide) (Nat.le_of_ble_eq_true rfl) rfl ?_
  unfold g_X1_worst
  refine sx_aload_n d_X1_worst_0 0 rfl ?_
  refine sx_getF (a' := 246) fl_StairCount_Guess_16 sh_225 rfl rfl d_X1_worst_1 ?_
  refine sx_iconst d_X1_worst_4 ic0 ?_
  refine sx_callS [.ref 246, .int (0 : Int32)] ms_J7_fill_53178 lM_StairCount_Guess_60 (by omega) rfl rfl (Nat.le_of_ble_eq_true rfl) d_X1_worst_5 (sp_J7_fill_53178 (d - 1) (by omega) 246 (0 : Int32) h) (fun _ h1 => ?_)
  refine sx_iconst d_X1_worst_8 ic0 ?_
  refine sx_istore_n (i := 3) (lc' := [(3, .int (0 : Int32)), (0, .ref 225), (1, .int a0), (2, .int a1)]) d_X1_worst_9 rfl (by decide) rfl ?_
  refine sx_iconst d_X1_worst_10 ic0 ?_
  refine sx_istore (i := 4) (lc' := [(4, .int (0 : Int32)), (3, .int (0 : Int32)), (0, .ref 225), (1, .int a0), (2, .int a1)]) d_X1_worst_11 (by decide) rfl ?_
  refine sx_lc (lc' := [(0, .ref 225), (1, .int a0), (2, .int a1), (3, .int (0 : Int32)), (4, .int (0 : Int32))]) [2, 3, 4, 1, 0] rfl ?_
  refine sL_X1_worst_13 d hd a0 a1 1024 (0 : Int32) (0 : Int32) h1
theorem d_X2_clear_0 : DC mi_X2_clear 0 (.aload_n 0) 1 1 := ⟨by decide +kernel, rfl⟩
theorem d_X2_clear_1 : DC mi_X2_clear 1 (.iconst 0) 1 2 := ⟨by decide +kernel, rfl⟩
theorem d_X2_clear_2 : DC mi_X2_clear 2 (.putfield 24) 3 5 := ⟨by decide +kernel, rfl⟩
theorem d_X2_clear_5 : DC mi_X2_clear 5 (.aload_n 0) 1 6 := ⟨by decide +kernel, rfl⟩
theorem d_X2_clear_6 : DC mi_X2_clear 6 (.getfield 18) 3 9 := ⟨by decide +kernel, rfl⟩
theorem d_X2_clear_9 : DC mi_X2_clear 9 (.iconst 0) 1 10 := ⟨by decide +kernel, rfl⟩
theorem d_X2_clear_10 : DC mi_X2_clear 10 (.invokestatic 28) 3 13 := ⟨by decide +kernel, rfl⟩
theorem d_X2_clear_13 : DC mi_X2_clear 13 (.aload_n 0) 1 14 := ⟨by decide +kernel, rfl⟩
theorem d_X2_clear_14 : DC mi_X2_clear 14 (.getfield 21) 3 17 := ⟨by decide +kernel, rfl⟩
theorem d_X2_clear_17 : DC mi_X2_clear 17 (.iconst 0) 1 18 := ⟨by decide +kernel, rfl⟩
theorem d_X2_clear_18 : DC mi_X2_clear 18 (.invokestatic 28) 3 21 := ⟨by decide +kernel, rfl⟩
theorem d_X2_clear_21 : DC mi_X2_clear 21 (.return_) 1 22 := ⟨by decide +kernel, rfl⟩
set_option maxHeartbeats 4000000 in
set_option maxRecDepth 100000 in
theorem sp_X2_clear (d : Nat) (hd : 1 ≤ d) (this : Nat) (h : HH) : Sp mi_X2_clear d iU [.ref this] h (g_X2_clear this h) := by
  refine sp_of (lc := [(0, .ref this)]) (by decide) (Nat.le_of_ble_eq_true rfl) rfl ?_
  unfold g_X2_clear
  refine sx_ckH (fun hthis => ?_)
  refine sx_aload_n d_X2_clear_0 0 rfl ?_
  refine sx_iconst d_X2_clear_1 ic0 ?_
  refine sx_putI fl_StairCount_Laws_24 hthis rfl hty_2_2 d_X2_clear_2 (fun h1 => ?_)
  refine sx_aload_n d_X2_clear_5 0 rfl ?_
  refine sx_getF (a' := (this + 3)) fl_StairCount_Laws_18 hthis rfl rfl d_X2_clear_6 ?_
  refine sx_iconst d_X2_clear_9 ic0 ?_
  refine sx_callS [.ref (this + 3), .int (0 : Int32)] ms_J7_fill_53178 lM_StairCount_Laws_28 (by omega) rfl rfl (Nat.le_of_ble_eq_true rfl) d_X2_clear_10 (sp_J7_fill_53178 (d - 1) (by omega) (this + 3) (0 : Int32) h1) (fun _ h2 => ?_)
  refine sx_aload_n d_X2_clear_13 0 rfl ?_
  refine sx_getF (a' := (this + 4)) fl_StairCount_Laws_21 hthis rfl rfl d_X2_clear_14 ?_
  refine sx_iconst d_X2_clear_17 ic0 ?_
  refine sx_callS [.ref (this + 4), .int (0 : Int32)] ms_J7_fill_53178 lM_StairCount_Laws_28 (by omega) rfl rfl (Nat.le_of_ble_eq_true rfl) d_X2_clear_18 (sp_J7_fill_53178 (d - 1) (by omega) (this + 4) (0 : Int32) h2) (fun _ h4 => ?_)
  exact sx_vret rfl d_X2_clear_21
theorem d_X2_hasLaw_0 : DC mi_X2_hasLaw 0 (.aload_n 0) 1 1 := ⟨by decide +kernel, rfl⟩
theorem d_X2_hasLaw_1 : DC mi_X2_hasLaw 1 (.getfield 21) 3 4 := ⟨by decide +kernel, rfl⟩
theorem d_X2_hasLaw_4 : DC mi_X2_hasLaw 4 (.iload_n 1) 1 5 := ⟨by decide +kernel, rfl⟩
theorem d_X2_hasLaw_5 : DC mi_X2_hasLaw 5 (.iaload) 1 6 := ⟨by decide +kernel, rfl⟩
theorem d_X2_hasLaw_6 : DC mi_X2_hasLaw 6 (.aload_n 0) 1 7 := ⟨by decide +kernel, rfl⟩
theorem d_X2_hasLaw_7 : DC mi_X2_hasLaw 7 (.getfield 18) 3 10 := ⟨by decide +kernel, rfl⟩
theorem d_X2_hasLaw_10 : DC mi_X2_hasLaw 10 (.iload_n 1) 1 11 := ⟨by decide +kernel, rfl⟩
theorem d_X2_hasLaw_11 : DC mi_X2_hasLaw 11 (.iaload) 1 12 := ⟨by decide +kernel, rfl⟩
theorem d_X2_hasLaw_12 : DB mi_X2_hasLaw 12 (.if_icmp .le 7) 7 15 19 := ⟨by decide +kernel, rfl, by decide⟩
theorem d_X2_hasLaw_15 : DC mi_X2_hasLaw 15 (.iconst 1) 1 16 := ⟨by decide +kernel, rfl⟩
theorem d_X2_hasLaw_16 : DB mi_X2_hasLaw 16 (.goto 4) 4 19 20 := ⟨by decide +kernel, rfl, by decide⟩
theorem d_X2_hasLaw_19 : DC mi_X2_hasLaw 19 (.iconst 0) 1 20 := ⟨by decide +kernel, rfl⟩
theorem d_X2_hasLaw_20 : DC mi_X2_hasLaw 20 (.ireturn) 1 21 := ⟨by decide +kernel, rfl⟩
set_option maxHeartbeats 4000000 in
set_option maxRecDepth 100000 in
theorem sp_X2_hasLaw (d : Nat) (hd : 0 ≤ d) (this : Nat) (a0 : Int32) (h : HH) : Sp mi_X2_hasLaw d iI [.ref this, .int a0] h (g_X2_hasLaw this a0 h) := by
  refine sp_of (lc := [(0, .ref this), (1, .int a0)]) (by decide) (Nat.le_of_ble_eq_true rfl) rfl ?_
  unfold g_X2_hasLaw
  refine sx_ckH (fun hthis => ?_)
  refine sx_aload_n d_X2_hasLaw_0 0 rfl ?_
  refine sx_getF (a' := (this + 4)) fl_StairCount_Laws_21 hthis rfl rfl d_X2_hasLaw_1 ?_
  refine sx_iload_n d_X2_hasLaw_4 1 rfl ?_
  refine sx_iald (shf_2_4 hthis) d_X2_hasLaw_5 (fun v1 => ?_)
  refine sx_aload_n d_X2_hasLaw_6 0 rfl ?_
  refine sx_getF (a' := (this + 3)) fl_StairCount_Laws_18 hthis rfl rfl d_X2_hasLaw_7 ?_
  refine sx_iload_n d_X2_hasLaw_10 1 rfl ?_
  refine sx_iald (shf_2_3 hthis) d_X2_hasLaw_11 (fun v2 => ?_)
  refine sx_icmp_le d_X2_hasLaw_12 ?_ ?_
  · refine sx_iconst d_X2_hasLaw_15 ic1 ?_
    refine sx_goto d_X2_hasLaw_16 ?_
    exact sx_zret (by decide) rfl d_X2_hasLaw_20
  · refine sx_iconst d_X2_hasLaw_19 ic0 ?_
    exact sx_zret (by decide) rfl d_X2_hasLaw_20
theorem d_X2_put_0 : DC mi_X2_put 0 (.aload_n 0) 1 1 := ⟨by decide +kernel, rfl⟩
theorem d_X2_put_1 : DC mi_X2_put 1 (.getfield 24) 3 4 := ⟨by decide +kernel, rfl⟩
theorem d_X2_put_4 : DC mi_X2_put 4 (.bipush 64) 2 6 := ⟨by decide +kernel, rfl⟩
theorem d_X2_put_6 : DB mi_X2_put 6 (.if_icmp .ge 33) 33 9 39 := ⟨by decide +kernel, rfl, by decide⟩
theorem d_X2_put_9 : DC mi_X2_put 9 (.aload_n 0) 1 10 := ⟨by decide +kernel, rfl⟩
theorem d_X2_put_10 : DC mi_X2_put 10 (.getfield 9) 3 13 := ⟨by decide +kernel, rfl⟩
theorem d_X2_put_13 : DC mi_X2_put 13 (.aload_n 0) 1 14 := ⟨by decide +kernel, rfl⟩
theorem d_X2_put_14 : DC mi_X2_put 14 (.getfield 24) 3 17 := ⟨by decide +kernel, rfl⟩
theorem d_X2_put_17 : DC mi_X2_put 17 (.iload_n 1) 1 18 := ⟨by decide +kernel, rfl⟩
theorem d_X2_put_18 : DC mi_X2_put 18 (.iastore) 1 19 := ⟨by decide +kernel, rfl⟩
theorem d_X2_put_19 : DC mi_X2_put 19 (.aload_n 0) 1 20 := ⟨by decide +kernel, rfl⟩
theorem d_X2_put_20 : DC mi_X2_put 20 (.getfield 15) 3 23 := ⟨by decide +kernel, rfl⟩
theorem d_X2_put_23 : DC mi_X2_put 23 (.aload_n 0) 1 24 := ⟨by decide +kernel, rfl⟩
theorem d_X2_put_24 : DC mi_X2_put 24 (.getfield 24) 3 27 := ⟨by decide +kernel, rfl⟩
theorem d_X2_put_27 : DC mi_X2_put 27 (.iload_n 2) 1 28 := ⟨by decide +kernel, rfl⟩
theorem d_X2_put_28 : DC mi_X2_put 28 (.iastore) 1 29 := ⟨by decide +kernel, rfl⟩
theorem d_X2_put_29 : DC mi_X2_put 29 (.aload_n 0) 1 30 := ⟨by decide +kernel, rfl⟩
theorem d_X2_put_30 : DC mi_X2_put 30 (.dup) 1 31 := ⟨by decide +kernel, rfl⟩
theorem d_X2_put_31 : DC mi_X2_put 31 (.getfield 24) 3 34 := ⟨by decide +kernel, rfl⟩
theorem d_X2_put_34 : DC mi_X2_put 34 (.iconst 1) 1 35 := ⟨by decide +kernel, rfl⟩
theorem d_X2_put_35 : DC mi_X2_put 35 (.iadd) 1 36 := ⟨by decide +kernel, rfl⟩
theorem d_X2_put_36 : DC mi_X2_put 36 (.putfield 24) 3 39 := ⟨by decide +kernel, rfl⟩
theorem d_X2_put_39 : DC mi_X2_put 39 (.return_) 1 40 := ⟨by decide +kernel, rfl⟩
set_option maxHeartbeats 4000000 in
set_option maxRecDepth 100000 in
theorem sp_X2_put (d : Nat) (hd : 0 ≤ d) (this : Nat) (a0 : Int32) (a1 : Int32) (h : HH) : Sp mi_X2_put d iU [.ref this, .int a0, .int a1] h (g_X2_put this a0 a1 h) := by
  refine sp_of (lc := [(0, .ref this), (1, .int a0), (2, .int a1)]) (by decide) (Nat.le_of_ble_eq_true rfl) rfl ?_
  unfold g_X2_put
  refine sx_ckH (fun hthis => ?_)
  refine sx_aload_n d_X2_put_0 0 rfl ?_
  refine sx_getI fl_StairCount_Laws_24 hthis rfl d_X2_put_1 (fun v1 => ?_)
  refine sx_bipush d_X2_put_4 bc64 ?_
  refine sx_icmp_ge d_X2_put_6 ?_ ?_
  · refine sx_aload_n d_X2_put_9 0 rfl ?_
    refine sx_getF (a' := (this + 1)) fl_StairCount_Laws_9 hthis rfl rfl d_X2_put_10 ?_
    refine sx_aload_n d_X2_put_13 0 rfl ?_
    refine sx_getI fl_StairCount_Laws_24 hthis rfl d_X2_put_14 (fun v2 => ?_)
    refine sx_iload_n d_X2_put_17 1 rfl ?_
    refine sx_iast (shf_2_0 hthis) d_X2_put_18 (fun h3 => ?_)
    refine sx_aload_n d_X2_put_19 0 rfl ?_
    refine sx_getF (a' := (this + 2)) fl_StairCount_Laws_15 hthis rfl rfl d_X2_put_20 ?_
    refine sx_aload_n d_X2_put_23 0 rfl ?_
    refine sx_getI fl_StairCount_Laws_24 hthis rfl d_X2_put_24 (fun v4 => ?_)
    refine sx_iload_n d_X2_put_27 2 rfl ?_
    refine sx_iast (shf_2_1 hthis) d_X2_put_28 (fun h5 => ?_)
    refine sx_aload_n d_X2_put_29 0 rfl ?_
    refine sx_dup d_X2_put_30 rfl ?_
    refine sx_getI fl_StairCount_Laws_24 hthis rfl d_X2_put_31 (fun v6 => ?_)
    refine sx_iconst d_X2_put_34 ic1 ?_
    refine sx_iadd d_X2_put_35 ?_
    refine sx_putI fl_StairCount_Laws_24 hthis rfl hty_2_2 d_X2_put_36 (fun h7 => ?_)
    exact sx_vret rfl d_X2_put_39
  · exact sx_vret rfl d_X2_put_39
theorem d_X3_clear_0 : DC mi_X3_clear 0 (.aload_n 0) 1 1 := ⟨by decide +kernel, rfl⟩
theorem d_X3_clear_1 : DC mi_X3_clear 1 (.iconst 0) 1 2 := ⟨by decide +kernel, rfl⟩
theorem d_X3_clear_2 : DC mi_X3_clear 2 (.putfield 35) 3 5 := ⟨by decide +kernel, rfl⟩
theorem d_X3_clear_5 : DC mi_X3_clear 5 (.aload_n 0) 1 6 := ⟨by decide +kernel, rfl⟩
theorem d_X3_clear_6 : DC mi_X3_clear 6 (.iconst (-1)) 1 7 := ⟨by decide +kernel, rfl⟩
theorem d_X3_clear_7 : DC mi_X3_clear 7 (.putfield 31) 3 10 := ⟨by decide +kernel, rfl⟩
theorem d_X3_clear_10 : DC mi_X3_clear 10 (.return_) 1 11 := ⟨by decide +kernel, rfl⟩
set_option maxHeartbeats 4000000 in
set_option maxRecDepth 100000 in
theorem sp_X3_clear (d : Nat) (hd : 0 ≤ d) (h : HH) : Sp mi_X3_clear d iU [.ref 186] h (g_X3_clear h) := by
  refine sp_of (lc := [(0, .ref 186)]) (by decide) (Nat.le_of_ble_eq_true rfl) rfl ?_
  unfold g_X3_clear
  refine sx_aload_n d_X3_clear_0 0 rfl ?_
  refine sx_iconst d_X3_clear_1 ic0 ?_
  refine sx_putI fl_StairCount_Notes_35 sh_186 rfl hty_3_6 d_X3_clear_2 (fun h1 => ?_)
  refine sx_aload_n d_X3_clear_5 0 rfl ?_
  refine sx_iconst d_X3_clear_6 icm1 ?_
  refine sx_putI fl_StairCount_Notes_31 sh_186 rfl hty_3_7 d_X3_clear_7 (fun h2 => ?_)
  exact sx_vret rfl d_X3_clear_10
theorem d_X3_add_0 : DC mi_X3_add 0 (.aload_n 0) 1 1 := ⟨by decide +kernel, rfl⟩
theorem d_X3_add_1 : DC mi_X3_add 1 (.getfield 35) 3 4 := ⟨by decide +kernel, rfl⟩
theorem d_X3_add_4 : DC mi_X3_add 4 (.bipush 24) 2 6 := ⟨by decide +kernel, rfl⟩
theorem d_X3_add_6 : DB mi_X3_add 6 (.if_icmp .lt 5) 5 9 11 := ⟨by decide +kernel, rfl, by decide⟩
theorem d_X3_add_9 : DC mi_X3_add 9 (.iconst (-1)) 1 10 := ⟨by decide +kernel, rfl⟩
theorem d_X3_add_10 : DC mi_X3_add 10 (.ireturn) 1 11 := ⟨by decide +kernel, rfl⟩
theorem d_X3_add_11 : DC mi_X3_add 11 (.aload_n 0) 1 12 := ⟨by decide +kernel, rfl⟩
theorem d_X3_add_12 : DC mi_X3_add 12 (.getfield 9) 3 15 := ⟨by decide +kernel, rfl⟩
theorem d_X3_add_15 : DC mi_X3_add 15 (.aload_n 0) 1 16 := ⟨by decide +kernel, rfl⟩
theorem d_X3_add_16 : DC mi_X3_add 16 (.getfield 35) 3 19 := ⟨by decide +kernel, rfl⟩
theorem d_X3_add_19 : DC mi_X3_add 19 (.iload_n 1) 1 20 := ⟨by decide +kernel, rfl⟩
theorem d_X3_add_20 : DC mi_X3_add 20 (.iastore) 1 21 := ⟨by decide +kernel, rfl⟩
theorem d_X3_add_21 : DC mi_X3_add 21 (.aload_n 0) 1 22 := ⟨by decide +kernel, rfl⟩
theorem d_X3_add_22 : DC mi_X3_add 22 (.getfield 15) 3 25 := ⟨by decide +kernel, rfl⟩
theorem d_X3_add_25 : DC mi_X3_add 25 (.aload_n 0) 1 26 := ⟨by decide +kernel, rfl⟩
theorem d_X3_add_26 : DC mi_X3_add 26 (.getfield 35) 3 29 := ⟨by decide +kernel, rfl⟩
theorem d_X3_add_29 : DC mi_X3_add 29 (.iload_n 2) 1 30 := ⟨by decide +kernel, rfl⟩
theorem d_X3_add_30 : DC mi_X3_add 30 (.iastore) 1 31 := ⟨by decide +kernel, rfl⟩
theorem d_X3_add_31 : DC mi_X3_add 31 (.aload_n 0) 1 32 := ⟨by decide +kernel, rfl⟩
theorem d_X3_add_32 : DC mi_X3_add 32 (.getfield 18) 3 35 := ⟨by decide +kernel, rfl⟩
theorem d_X3_add_35 : DC mi_X3_add 35 (.aload_n 0) 1 36 := ⟨by decide +kernel, rfl⟩
theorem d_X3_add_36 : DC mi_X3_add 36 (.getfield 35) 3 39 := ⟨by decide +kernel, rfl⟩
theorem d_X3_add_39 : DC mi_X3_add 39 (.iload_n 3) 1 40 := ⟨by decide +kernel, rfl⟩
theorem d_X3_add_40 : DC mi_X3_add 40 (.iastore) 1 41 := ⟨by decide +kernel, rfl⟩
theorem d_X3_add_41 : DC mi_X3_add 41 (.aload_n 0) 1 42 := ⟨by decide +kernel, rfl⟩
theorem d_X3_add_42 : DC mi_X3_add 42 (.getfield 21) 3 45 := ⟨by decide +kernel, rfl⟩
theorem d_X3_add_45 : DC mi_X3_add 45 (.aload_n 0) 1 46 := ⟨by decide +kernel, rfl⟩
theorem d_X3_add_46 : DC mi_X3_add 46 (.getfield 35) 3 49 := ⟨by decide +kernel, rfl⟩
theorem d_X3_add_49 : DC mi_X3_add 49 (.iload 4) 2 51 := ⟨by decide +kernel, rfl⟩
theorem d_X3_add_51 : DC mi_X3_add 51 (.bastore) 1 52 := ⟨by decide +kernel, rfl⟩
theorem d_X3_add_52 : DC mi_X3_add 52 (.aload_n 0) 1 53 := ⟨by decide +kernel, rfl⟩
theorem d_X3_add_53 : DC mi_X3_add 53 (.getfield 25) 3 56 := ⟨by decide +kernel, rfl⟩
theorem d_X3_add_56 : DC mi_X3_add 56 (.aload_n 0) 1 57 := ⟨by decide +kernel, rfl⟩
theorem d_X3_add_57 : DC mi_X3_add 57 (.getfield 35) 3 60 := ⟨by decide +kernel, rfl⟩
theorem d_X3_add_60 : DC mi_X3_add 60 (.iconst (-1)) 1 61 := ⟨by decide +kernel, rfl⟩
theorem d_X3_add_61 : DC mi_X3_add 61 (.iastore) 1 62 := ⟨by decide +kernel, rfl⟩
theorem d_X3_add_62 : DC mi_X3_add 62 (.aload_n 0) 1 63 := ⟨by decide +kernel, rfl⟩
theorem d_X3_add_63 : DC mi_X3_add 63 (.dup) 1 64 := ⟨by decide +kernel, rfl⟩
theorem d_X3_add_64 : DC mi_X3_add 64 (.getfield 35) 3 67 := ⟨by decide +kernel, rfl⟩
theorem d_X3_add_67 : DC mi_X3_add 67 (.iconst 1) 1 68 := ⟨by decide +kernel, rfl⟩
theorem d_X3_add_68 : DC mi_X3_add 68 (.iadd) 1 69 := ⟨by decide +kernel, rfl⟩
theorem d_X3_add_69 : DC mi_X3_add 69 (.putfield 35) 3 72 := ⟨by decide +kernel, rfl⟩
theorem d_X3_add_72 : DC mi_X3_add 72 (.aload_n 0) 1 73 := ⟨by decide +kernel, rfl⟩
theorem d_X3_add_73 : DC mi_X3_add 73 (.getfield 35) 3 76 := ⟨by decide +kernel, rfl⟩
theorem d_X3_add_76 : DC mi_X3_add 76 (.iconst 1) 1 77 := ⟨by decide +kernel, rfl⟩
theorem d_X3_add_77 : DC mi_X3_add 77 (.isub) 1 78 := ⟨by decide +kernel, rfl⟩
theorem d_X3_add_78 : DC mi_X3_add 78 (.ireturn) 1 79 := ⟨by decide +kernel, rfl⟩
set_option maxHeartbeats 4000000 in
set_option maxRecDepth 100000 in
theorem sp_X3_add (d : Nat) (hd : 0 ≤ d) (a0 : Int32) (a1 : Int32) (a2 : Int32) (a3 : Int32) (h : HH) : Sp mi_X3_add d iI [.ref 186, .int a0, .int a1, .int a2, .int a3] h (g_X3_add a0 a1 a2 a3 h) := by
  refine sp_of (lc := [(0, .ref 186), (1, .int a0), (2, .int a1), (3, .int a2), (4, .int a3)]) (by decide) (Nat.le_of_ble_eq_true rfl) rfl ?_
  unfold g_X3_add
  refine sx_aload_n d_X3_add_0 0 rfl ?_
  refine sx_getI fl_StairCount_Notes_35 sh_186 rfl d_X3_add_1 (fun v1 => ?_)
  refine sx_bipush d_X3_add_4 bc24 ?_
  refine sx_icmp_lt d_X3_add_6 ?_ ?_
  · refine sx_aload_n d_X3_add_11 0 rfl ?_
    refine sx_getF (a' := 187) fl_StairCount_Notes_9 sh_186 rfl rfl d_X3_add_12 ?_
    refine sx_aload_n d_X3_add_15 0 rfl ?_
    refine sx_getI fl_StairCount_Notes_35 sh_186 rfl d_X3_add_16 (fun v2 => ?_)
    refine sx_iload_n d_X3_add_19 1 rfl ?_
    refine sx_iast sh_187 d_X3_add_20 (fun h3 => ?_)
    refine sx_aload_n d_X3_add_21 0 rfl ?_
    refine sx_getF (a' := 188) fl_StairCount_Notes_15 sh_186 rfl rfl d_X3_add_22 ?_
    refine sx_aload_n d_X3_add_25 0 rfl ?_
    refine sx_getI fl_StairCount_Notes_35 sh_186 rfl d_X3_add_26 (fun v4 => ?_)
    refine sx_iload_n d_X3_add_29 2 rfl ?_
    refine sx_iast sh_188 d_X3_add_30 (fun h5 => ?_)
    refine sx_aload_n d_X3_add_31 0 rfl ?_
    refine sx_getF (a' := 189) fl_StairCount_Notes_18 sh_186 rfl rfl d_X3_add_32 ?_
    refine sx_aload_n d_X3_add_35 0 rfl ?_
    refine sx_getI fl_StairCount_Notes_35 sh_186 rfl d_X3_add_36 (fun v6 => ?_)
    refine sx_iload_n d_X3_add_39 3 rfl ?_
    refine sx_iast sh_189 d_X3_add_40 (fun h7 => ?_)
    refine sx_aload_n d_X3_add_41 0 rfl ?_
    refine sx_getF (a' := 190) fl_StairCount_Notes_21 sh_186 rfl rfl d_X3_add_42 ?_
    refine sx_aload_n d_X3_add_45 0 rfl ?_
    refine sx_getI fl_StairCount_Notes_35 sh_186 rfl d_X3_add_46 (fun v8 => ?_)
    refine sx_iload d_X3_add_49 4 rfl ?_
    refine sx_zast sh_190 d_X3_add_51 (fun h9 => ?_)
    refine sx_aload_n d_X3_add_52 0 rfl ?_
    refine sx_getF (a' := 191) fl_StairCount_Notes_25 sh_186 rfl rfl d_X3_add_53 ?_
    refine sx_aload_n d_X3_add_56 0 rfl ?_
    refine sx_getI fl_StairCount_Notes_35 sh_186 rfl d_X3_add_57 (fun v10 => ?_)
    refine sx_iconst d_X3_add_60 icm1 ?_
    refine sx_iast sh_191 d_X3_add_61 (fun h11 => ?_)
    refine sx_aload_n d_X3_add_62 0 rfl ?_
    refine sx_dup d_X3_add_63 rfl ?_
    refine sx_getI fl_StairCount_Notes_35 sh_186 rfl d_X3_add_64 (fun v12 => ?_)
    refine sx_iconst d_X3_add_67 ic1 ?_
    refine sx_iadd d_X3_add_68 ?_
    refine sx_putI fl_StairCount_Notes_35 sh_186 rfl hty_3_6 d_X3_add_69 (fun h13 => ?_)
    refine sx_aload_n d_X3_add_72 0 rfl ?_
    refine sx_getI fl_StairCount_Notes_35 sh_186 rfl d_X3_add_73 (fun v14 => ?_)
    refine sx_iconst d_X3_add_76 ic1 ?_
    refine sx_isub d_X3_add_77 ?_
    exact sx_iret rfl d_X3_add_78
  · refine sx_iconst d_X3_add_9 icm1 ?_
    exact sx_iret rfl d_X3_add_10
theorem d_X3_addStrike_0 : DC mi_X3_addStrike 0 (.iload_n 1) 1 1 := ⟨by decide +kernel, rfl⟩
theorem d_X3_addStrike_1 : DB mi_X3_addStrike 1 (.ifCond .lt 20) 20 4 21 := ⟨by decide +kernel, rfl, by decide⟩
theorem d_X3_addStrike_4 : DC mi_X3_addStrike 4 (.iload_n 1) 1 5 := ⟨by decide +kernel, rfl⟩
theorem d_X3_addStrike_5 : DC mi_X3_addStrike 5 (.aload_n 0) 1 6 := ⟨by decide +kernel, rfl⟩
theorem d_X3_addStrike_6 : DC mi_X3_addStrike 6 (.getfield 35) 3 9 := ⟨by decide +kernel, rfl⟩
theorem d_X3_addStrike_9 : DB mi_X3_addStrike 9 (.if_icmp .ge 12) 12 12 21 := ⟨by decide +kernel, rfl, by decide⟩
theorem d_X3_addStrike_12 : DC mi_X3_addStrike 12 (.aload_n 0) 1 13 := ⟨by decide +kernel, rfl⟩
theorem d_X3_addStrike_13 : DC mi_X3_addStrike 13 (.getfield 35) 3 16 := ⟨by decide +kernel, rfl⟩
theorem d_X3_addStrike_16 : DC mi_X3_addStrike 16 (.bipush 24) 2 18 := ⟨by decide +kernel, rfl⟩
theorem d_X3_addStrike_18 : DB mi_X3_addStrike 18 (.if_icmp .lt 5) 5 21 23 := ⟨by decide +kernel, rfl, by decide⟩
theorem d_X3_addStrike_21 : DC mi_X3_addStrike 21 (.iconst (-1)) 1 22 := ⟨by decide +kernel, rfl⟩
theorem d_X3_addStrike_22 : DC mi_X3_addStrike 22 (.ireturn) 1 23 := ⟨by decide +kernel, rfl⟩
theorem d_X3_addStrike_23 : DC mi_X3_addStrike 23 (.aload_n 0) 1 24 := ⟨by decide +kernel, rfl⟩
theorem d_X3_addStrike_24 : DC mi_X3_addStrike 24 (.getfield 9) 3 27 := ⟨by decide +kernel, rfl⟩
theorem d_X3_addStrike_27 : DC mi_X3_addStrike 27 (.aload_n 0) 1 28 := ⟨by decide +kernel, rfl⟩
theorem d_X3_addStrike_28 : DC mi_X3_addStrike 28 (.getfield 35) 3 31 := ⟨by decide +kernel, rfl⟩
theorem d_X3_addStrike_31 : DC mi_X3_addStrike 31 (.iconst 0) 1 32 := ⟨by decide +kernel, rfl⟩
theorem d_X3_addStrike_32 : DC mi_X3_addStrike 32 (.iastore) 1 33 := ⟨by decide +kernel, rfl⟩
theorem d_X3_addStrike_33 : DC mi_X3_addStrike 33 (.aload_n 0) 1 34 := ⟨by decide +kernel, rfl⟩
theorem d_X3_addStrike_34 : DC mi_X3_addStrike 34 (.getfield 25) 3 37 := ⟨by decide +kernel, rfl⟩
theorem d_X3_addStrike_37 : DC mi_X3_addStrike 37 (.aload_n 0) 1 38 := ⟨by decide +kernel, rfl⟩
theorem d_X3_addStrike_38 : DC mi_X3_addStrike 38 (.getfield 35) 3 41 := ⟨by decide +kernel, rfl⟩
theorem d_X3_addStrike_41 : DC mi_X3_addStrike 41 (.iload_n 1) 1 42 := ⟨by decide +kernel, rfl⟩
theorem d_X3_addStrike_42 : DC mi_X3_addStrike 42 (.iastore) 1 43 := ⟨by decide +kernel, rfl⟩
theorem d_X3_addStrike_43 : DC mi_X3_addStrike 43 (.aload_n 0) 1 44 := ⟨by decide +kernel, rfl⟩
theorem d_X3_addStrike_44 : DC mi_X3_addStrike 44 (.dup) 1 45 := ⟨by decide +kernel, rfl⟩
theorem d_X3_addStrike_45 : DC mi_X3_addStrike 45 (.getfield 35) 3 48 := ⟨by decide +kernel, rfl⟩
theorem d_X3_addStrike_48 : DC mi_X3_addStrike 48 (.iconst 1) 1 49 := ⟨by decide +kernel, rfl⟩
theorem d_X3_addStrike_49 : DC mi_X3_addStrike 49 (.iadd) 1 50 := ⟨by decide +kernel, rfl⟩
theorem d_X3_addStrike_50 : DC mi_X3_addStrike 50 (.putfield 35) 3 53 := ⟨by decide +kernel, rfl⟩
theorem d_X3_addStrike_53 : DC mi_X3_addStrike 53 (.aload_n 0) 1 54 := ⟨by decide +kernel, rfl⟩
theorem d_X3_addStrike_54 : DC mi_X3_addStrike 54 (.getfield 35) 3 57 := ⟨by decide +kernel, rfl⟩
theorem d_X3_addStrike_57 : DC mi_X3_addStrike 57 (.iconst 1) 1 58 := ⟨by decide +kernel, rfl⟩
theorem d_X3_addStrike_58 : DC mi_X3_addStrike 58 (.isub) 1 59 := ⟨by decide +kernel, rfl⟩
theorem d_X3_addStrike_59 : DC mi_X3_addStrike 59 (.ireturn) 1 60 := ⟨by decide +kernel, rfl⟩
set_option maxHeartbeats 4000000 in
set_option maxRecDepth 100000 in
theorem sp_X3_addStrike (d : Nat) (hd : 0 ≤ d) (a0 : Int32) (h : HH) : Sp mi_X3_addStrike d iI [.ref 186, .int a0] h (g_X3_addStrike a0 h) := by
  refine sp_of (lc := [(0, .ref 186), (1, .int a0)]) (by decide) (Nat.le_of_ble_eq_true rfl) rfl ?_
  unfold g_X3_addStrike
  refine sx_iload_n d_X3_addStrike_0 1 rfl ?_
  refine sx_if_lt d_X3_addStrike_1 ?_ ?_
  · refine sx_iconst d_X3_addStrike_21 icm1 ?_
    exact sx_iret rfl d_X3_addStrike_22
  · refine sx_iload_n d_X3_addStrike_4 1 rfl ?_
    refine sx_aload_n d_X3_addStrike_5 0 rfl ?_
    refine sx_getI fl_StairCount_Notes_35 sh_186 rfl d_X3_addStrike_6 (fun v1 => ?_)
    refine sx_icmp_ge d_X3_addStrike_9 ?_ ?_
    · refine sx_aload_n d_X3_addStrike_12 0 rfl ?_
      refine sx_getI fl_StairCount_Notes_35 sh_186 rfl d_X3_addStrike_13 (fun v2 => ?_)
      refine sx_bipush d_X3_addStrike_16 bc24 ?_
      refine sx_icmp_lt d_X3_addStrike_18 ?_ ?_
      · refine sx_aload_n d_X3_addStrike_23 0 rfl ?_
        refine sx_getF (a' := 187) fl_StairCount_Notes_9 sh_186 rfl rfl d_X3_addStrike_24 ?_
        refine sx_aload_n d_X3_addStrike_27 0 rfl ?_
        refine sx_getI fl_StairCount_Notes_35 sh_186 rfl d_X3_addStrike_28 (fun v3 => ?_)
        refine sx_iconst d_X3_addStrike_31 ic0 ?_
        refine sx_iast sh_187 d_X3_addStrike_32 (fun h4 => ?_)
        refine sx_aload_n d_X3_addStrike_33 0 rfl ?_
        refine sx_getF (a' := 191) fl_StairCount_Notes_25 sh_186 rfl rfl d_X3_addStrike_34 ?_
        refine sx_aload_n d_X3_addStrike_37 0 rfl ?_
        refine sx_getI fl_StairCount_Notes_35 sh_186 rfl d_X3_addStrike_38 (fun v5 => ?_)
        refine sx_iload_n d_X3_addStrike_41 1 rfl ?_
        refine sx_iast sh_191 d_X3_addStrike_42 (fun h6 => ?_)
        refine sx_aload_n d_X3_addStrike_43 0 rfl ?_
        refine sx_dup d_X3_addStrike_44 rfl ?_
        refine sx_getI fl_StairCount_Notes_35 sh_186 rfl d_X3_addStrike_45 (fun v7 => ?_)
        refine sx_iconst d_X3_addStrike_48 ic1 ?_
        refine sx_iadd d_X3_addStrike_49 ?_
        refine sx_putI fl_StairCount_Notes_35 sh_186 rfl hty_3_6 d_X3_addStrike_50 (fun h8 => ?_)
        refine sx_aload_n d_X3_addStrike_53 0 rfl ?_
        refine sx_getI fl_StairCount_Notes_35 sh_186 rfl d_X3_addStrike_54 (fun v9 => ?_)
        refine sx_iconst d_X3_addStrike_57 ic1 ?_
        refine sx_isub d_X3_addStrike_58 ?_
        exact sx_iret rfl d_X3_addStrike_59
      · refine sx_iconst d_X3_addStrike_21 icm1 ?_
        exact sx_iret rfl d_X3_addStrike_22
    · refine sx_iconst d_X3_addStrike_21 icm1 ?_
      exact sx_iret rfl d_X3_addStrike_22
theorem d_X3_knownBy_0 : DC mi_X3_knownBy 0 (.aload_n 0) 1 1 := ⟨by decide +kernel, rfl⟩
theorem d_X3_knownBy_1 : DC mi_X3_knownBy 1 (.getfield 31) 3 4 := ⟨by decide +kernel, rfl⟩
theorem d_X3_knownBy_4 : DC mi_X3_knownBy 4 (.iconst (-1)) 1 5 := ⟨by decide +kernel, rfl⟩
theorem d_X3_knownBy_5 : DB mi_X3_knownBy 5 (.if_icmp .ne 10) 10 8 15 := ⟨by decide +kernel, rfl, by decide⟩
theorem d_X3_knownBy_8 : DC mi_X3_knownBy 8 (.aload_n 0) 1 9 := ⟨by decide +kernel, rfl⟩
theorem d_X3_knownBy_9 : DC mi_X3_knownBy 9 (.getfield 35) 3 12 := ⟨by decide +kernel, rfl⟩
theorem d_X3_knownBy_12 : DB mi_X3_knownBy 12 (.goto 7) 7 15 19 := ⟨by decide +kernel, rfl, by decide⟩
theorem d_X3_knownBy_15 : DC mi_X3_knownBy 15 (.aload_n 0) 1 16 := ⟨by decide +kernel, rfl⟩
theorem d_X3_knownBy_16 : DC mi_X3_knownBy 16 (.getfield 31) 3 19 := ⟨by decide +kernel, rfl⟩
theorem d_X3_knownBy_19 : DC mi_X3_knownBy 19 (.ireturn) 1 20 := ⟨by decide +kernel, rfl⟩
set_option maxHeartbeats 4000000 in
set_option maxRecDepth 100000 in
theorem sp_X3_knownBy (d : Nat) (hd : 0 ≤ d) (h : HH) : Sp mi_X3_knownBy d iI [.ref 186] h (g_X3_knownBy h) := by
  refine sp_of (lc := [(0, .ref 186)]) (by decide) (Nat.le_of_ble_eq_true rfl) rfl ?_
  unfold g_X3_knownBy
  refine sx_aload_n d_X3_knownBy_0 0 rfl ?_
  refine sx_getI fl_StairCount_Notes_31 sh_186 rfl d_X3_knownBy_1 (fun v1 => ?_)
  refine sx_iconst d_X3_knownBy_4 icm1 ?_
  refine sx_icmp_ne d_X3_knownBy_5 ?_ ?_
  · refine sx_aload_n d_X3_knownBy_8 0 rfl ?_
    refine sx_getI fl_StairCount_Notes_35 sh_186 rfl d_X3_knownBy_9 (fun v2 => ?_)
    refine sx_goto d_X3_knownBy_12 ?_
    exact sx_iret rfl d_X3_knownBy_19
  · refine sx_aload_n d_X3_knownBy_15 0 rfl ?_
    refine sx_getI fl_StairCount_Notes_31 sh_186 rfl d_X3_knownBy_16 (fun v3 => ?_)
    exact sx_iret rfl d_X3_knownBy_19
theorem d_X3_weigh_0 : DC mi_X3_weigh 0 (.iconst 0) 1 1 := ⟨by decide +kernel, rfl⟩
theorem d_X3_weigh_1 : DC mi_X3_weigh 1 (.istore_n 1) 1 2 := ⟨by decide +kernel, rfl⟩
theorem d_X3_weigh_2 : DC mi_X3_weigh 2 (.iload_n 1) 1 3 := ⟨by decide +kernel, rfl⟩
theorem d_X3_weigh_3 : DC mi_X3_weigh 3 (.bipush 24) 2 5 := ⟨by decide +kernel, rfl⟩
theorem d_X3_weigh_5 : DB mi_X3_weigh 5 (.if_icmp .ge 28) 28 8 33 := ⟨by decide +kernel, rfl, by decide⟩
theorem d_X3_weigh_8 : DC mi_X3_weigh 8 (.aload_n 0) 1 9 := ⟨by decide +kernel, rfl⟩
theorem d_X3_weigh_9 : DC mi_X3_weigh 9 (.getfield 28) 3 12 := ⟨by decide +kernel, rfl⟩
theorem d_X3_weigh_12 : DC mi_X3_weigh 12 (.iload_n 1) 1 13 := ⟨by decide +kernel, rfl⟩
theorem d_X3_weigh_13 : DC mi_X3_weigh 13 (.iload_n 1) 1 14 := ⟨by decide +kernel, rfl⟩
theorem d_X3_weigh_14 : DC mi_X3_weigh 14 (.aload_n 0) 1 15 := ⟨by decide +kernel, rfl⟩
theorem d_X3_weigh_15 : DC mi_X3_weigh 15 (.invokevirtual 38) 3 18 := ⟨by decide +kernel, rfl⟩
theorem d_X3_weigh_18 : DB mi_X3_weigh 18 (.if_icmp .ge 7) 7 21 25 := ⟨by decide +kernel, rfl, by decide⟩
theorem d_X3_weigh_21 : DC mi_X3_weigh 21 (.iconst 1) 1 22 := ⟨by decide +kernel, rfl⟩
theorem d_X3_weigh_22 : DB mi_X3_weigh 22 (.goto 4) 4 25 26 := ⟨by decide +kernel, rfl, by decide⟩
theorem d_X3_weigh_25 : DC mi_X3_weigh 25 (.iconst 0) 1 26 := ⟨by decide +kernel, rfl⟩
theorem d_X3_weigh_26 : DC mi_X3_weigh 26 (.bastore) 1 27 := ⟨by decide +kernel, rfl⟩
theorem d_X3_weigh_27 : DC mi_X3_weigh 27 (.iinc 1 1) 3 30 := ⟨by decide +kernel, rfl⟩
theorem d_X3_weigh_30 : DB mi_X3_weigh 30 (.goto (-28)) (-28) 33 2 := ⟨by decide +kernel, rfl, by decide⟩
theorem d_X3_weigh_33 : DC mi_X3_weigh 33 (.aload_n 0) 1 34 := ⟨by decide +kernel, rfl⟩
theorem d_X3_weigh_34 : DC mi_X3_weigh 34 (.invokevirtual 38) 3 37 := ⟨by decide +kernel, rfl⟩
theorem d_X3_weigh_37 : DC mi_X3_weigh 37 (.iconst 1) 1 38 := ⟨by decide +kernel, rfl⟩
theorem d_X3_weigh_38 : DC mi_X3_weigh 38 (.isub) 1 39 := ⟨by decide +kernel, rfl⟩
theorem d_X3_weigh_39 : DC mi_X3_weigh 39 (.istore_n 1) 1 40 := ⟨by decide +kernel, rfl⟩
theorem d_X3_weigh_40 : DC mi_X3_weigh 40 (.iload_n 1) 1 41 := ⟨by decide +kernel, rfl⟩
theorem d_X3_weigh_41 : DB mi_X3_weigh 41 (.ifCond .lt 40) 40 44 81 := ⟨by decide +kernel, rfl, by decide⟩
theorem d_X3_weigh_44 : DC mi_X3_weigh 44 (.aload_n 0) 1 45 := ⟨by decide +kernel, rfl⟩
theorem d_X3_weigh_45 : DC mi_X3_weigh 45 (.getfield 28) 3 48 := ⟨by decide +kernel, rfl⟩
theorem d_X3_weigh_48 : DC mi_X3_weigh 48 (.iload_n 1) 1 49 := ⟨by decide +kernel, rfl⟩
theorem d_X3_weigh_49 : DC mi_X3_weigh 49 (.baload) 1 50 := ⟨by decide +kernel, rfl⟩
theorem d_X3_weigh_50 : DB mi_X3_weigh 50 (.ifCond .eq 25) 25 53 75 := ⟨by decide +kernel, rfl, by decide⟩
theorem d_X3_weigh_53 : DC mi_X3_weigh 53 (.aload_n 0) 1 54 := ⟨by decide +kernel, rfl⟩
theorem d_X3_weigh_54 : DC mi_X3_weigh 54 (.getfield 25) 3 57 := ⟨by decide +kernel, rfl⟩
theorem d_X3_weigh_57 : DC mi_X3_weigh 57 (.iload_n 1) 1 58 := ⟨by decide +kernel, rfl⟩
theorem d_X3_weigh_58 : DC mi_X3_weigh 58 (.iaload) 1 59 := ⟨by decide +kernel, rfl⟩
theorem d_X3_weigh_59 : DC mi_X3_weigh 59 (.iconst (-1)) 1 60 := ⟨by decide +kernel, rfl⟩
theorem d_X3_weigh_60 : DB mi_X3_weigh 60 (.if_icmp .eq 15) 15 63 75 := ⟨by decide +kernel, rfl, by decide⟩
theorem d_X3_weigh_63 : DC mi_X3_weigh 63 (.aload_n 0) 1 64 := ⟨by decide +kernel, rfl⟩
theorem d_X3_weigh_64 : DC mi_X3_weigh 64 (.getfield 28) 3 67 := ⟨by decide +kernel, rfl⟩
theorem d_X3_weigh_67 : DC mi_X3_weigh 67 (.aload_n 0) 1 68 := ⟨by decide +kernel, rfl⟩
theorem d_X3_weigh_68 : DC mi_X3_weigh 68 (.getfield 25) 3 71 := ⟨by decide +kernel, rfl⟩
theorem d_X3_weigh_71 : DC mi_X3_weigh 71 (.iload_n 1) 1 72 := ⟨by decide +kernel, rfl⟩
theorem d_X3_weigh_72 : DC mi_X3_weigh 72 (.iaload) 1 73 := ⟨by decide +kernel, rfl⟩
theorem d_X3_weigh_73 : DC mi_X3_weigh 73 (.iconst 0) 1 74 := ⟨by decide +kernel, rfl⟩
theorem d_X3_weigh_74 : DC mi_X3_weigh 74 (.bastore) 1 75 := ⟨by decide +kernel, rfl⟩
theorem d_X3_weigh_75 : DC mi_X3_weigh 75 (.iinc 1 (-1)) 3 78 := ⟨by decide +kernel, rfl⟩
theorem d_X3_weigh_78 : DB mi_X3_weigh 78 (.goto (-38)) (-38) 81 40 := ⟨by decide +kernel, rfl, by decide⟩
theorem d_X3_weigh_81 : DC mi_X3_weigh 81 (.return_) 1 82 := ⟨by decide +kernel, rfl⟩
set_option maxHeartbeats 4000000 in
set_option maxRecDepth 100000 in
theorem sL_X3_weigh_2 (d : Nat) (hd : 1 ≤ d) (K33 : HH → Option (Unit × HH)) (hK33 : ∀ (h : HH), Sx mi_X3_weigh d iU (K33 h) 33 [(0, .ref 186)] [] h) : ∀ (n : Nat) (x1 : Int32) (h : HH), Sx mi_X3_weigh d iU (g_X3_weigh_L2 K33 n x1 h) 2 [(0, .ref 186), (1, .int x1)] [] h := by
  intro n
  induction n with
  | zero => intro x1 h; exact sx_none
  | succ n ih =>
    intro x1 h
    rw [g_X3_weigh_L2]
    refine sx_iload_n d_X3_weigh_2 1 rfl ?_
    refine sx_bipush d_X3_weigh_3 bc24 ?_
    refine sx_icmp_ge d_X3_weigh_5 ?_ ?_
    · refine sx_aload_n d_X3_weigh_8 0 rfl ?_
      refine sx_getF (a' := 192) fl_StairCount_Notes_28 sh_186 rfl rfl d_X3_weigh_9 ?_
      refine sx_iload_n d_X3_weigh_12 1 rfl ?_
      refine sx_iload_n d_X3_weigh_13 1 rfl ?_
      refine sx_aload_n d_X3_weigh_14 0 rfl ?_
      refine sx_callV [] mv_X3_knownBy lM_StairCount_Notes_38 sh_186 (by omega) rfl rfl (Nat.le_of_ble_eq_true rfl) d_X3_weigh_15 (sp_X3_knownBy (d - 1) (by omega) h) (fun r2 h1 => ?_)
      refine sx_jn (fun j => ∀ (y6 : Int32) (h : HH), Sx mi_X3_weigh d iU (j y6 h) 26 [(0, .ref 186), (1, .int x1)] [.int y6, .int x1, .ref 192] h) ?_ ?_
      · intro y6 h5
        refine sx_zast sh_192 d_X3_weigh_26 (fun h7 => ?_)
        refine sx_iincV (lc' := fun v8 => [(1, .int v8), (0, .ref 186)]) (k0 := 1) d_X3_weigh_27 rfl ii1 (by decide) (fun _ => rfl) (fun v8 => ?_)
        refine sx_goto d_X3_weigh_30 ?_
        refine sx_lc (lc' := [(0, .ref 186), (1, .int v8)]) [1, 0] rfl ?_
        exact ih v8 h7
      · intro j3 k4
        refine sx_icmp_ge d_X3_weigh_18 ?_ ?_
        · refine sx_iconst d_X3_weigh_21 ic1 ?_
          refine sx_goto d_X3_weigh_22 ?_
          exact k4 (1 : Int32) h1
        · refine sx_iconst d_X3_weigh_25 ic0 ?_
          exact k4 (0 : Int32) h1
    · refine sx_lc (lc' := [(0, .ref 186)]) [0] rfl ?_
      exact hK33 h
set_option maxHeartbeats 4000000 in
set_option maxRecDepth 100000 in
theorem sL_X3_weigh_40 (d : Nat) (hd : 1 ≤ d) : ∀ (n : Nat) (x1 : Int32) (h : HH), Sx mi_X3_weigh d iU (g_X3_weigh_L40 n x1 h) 40 [(0, .ref 186), (1, .int x1)] [] h := by
  intro n
  induction n with
  | zero => intro x1 h; exact sx_none
  | succ n ih =>
    intro x1 h
    rw [g_X3_weigh_L40]
    refine sx_iload_n d_X3_weigh_40 1 rfl ?_
    refine sx_if_lt d_X3_weigh_41 ?_ ?_
    · exact sx_vret rfl d_X3_weigh_81
    · refine sx_aload_n d_X3_weigh_44 0 rfl ?_
      refine sx_getF (a' := 192) fl_StairCount_Notes_28 sh_186 rfl rfl d_X3_weigh_45 ?_
      refine sx_iload_n d_X3_weigh_48 1 rfl ?_
      refine sx_zald sh_192 d_X3_weigh_49 (fun v13 => ?_)
      refine sx_jn (fun j => ∀  (h : HH), Sx mi_X3_weigh d iU (j  h) 75 [(0, .ref 186), (1, .int x1)] [] h) ?_ ?_
      · intro  h16
        refine sx_iincV (lc' := fun v17 => [(1, .int v17), (0, .ref 186)]) (k0 := 1) d_X3_weigh_75 rfl iim1 (by decide) (fun _ => rfl) (fun v17 => ?_)
        refine sx_goto d_X3_weigh_78 ?_
        refine sx_lc (lc' := [(0, .ref 186), (1, .int v17)]) [1, 0] rfl ?_
        exact ih v17 h16
      · intro j14 k15
        refine sx_if_eq d_X3_weigh_50 ?_ ?_
        · exact k15 h
        · refine sx_aload_n d_X3_weigh_53 0 rfl ?_
          refine sx_getF (a' := 191) fl_StairCount_Notes_25 sh_186 rfl rfl d_X3_weigh_54 ?_
          refine sx_iload_n d_X3_weigh_57 1 rfl ?_
          refine sx_iald sh_191 d_X3_weigh_58 (fun v18 => ?_)
          refine sx_iconst d_X3_weigh_59 icm1 ?_
          refine sx_icmp_eq d_X3_weigh_60 ?_ ?_
          · exact k15 h
          · refine sx_aload_n d_X3_weigh_63 0 rfl ?_
            refine sx_getF (a' := 192) fl_StairCount_Notes_28 sh_186 rfl rfl d_X3_weigh_64 ?_
            refine sx_aload_n d_X3_weigh_67 0 rfl ?_
            refine sx_getF (a' := 191) fl_StairCount_Notes_25 sh_186 rfl rfl d_X3_weigh_68 ?_
            refine sx_iload_n d_X3_weigh_71 1 rfl ?_
            refine sx_iald sh_191 d_X3_weigh_72 (fun v19 => ?_)
            refine sx_iconst d_X3_weigh_73 ic0 ?_
            refine sx_zast sh_192 d_X3_weigh_74 (fun h20 => ?_)
            exact k15 h20
set_option maxHeartbeats 4000000 in
set_option maxRecDepth 100000 in
theorem sp_X3_weigh (d : Nat) (hd : 1 ≤ d) (h : HH) : Sp mi_X3_weigh d iU [.ref 186] h (g_X3_weigh h) := by
  refine sp_of (lc := [(0, .ref 186)]) (by decide) (Nat.le_of_ble_eq_true rfl) rfl ?_
  unfold g_X3_weigh
  refine sx_iconst d_X3_weigh_0 ic0 ?_
  refine sx_istore_n (i := 1) (lc' := [(1, .int (0 : Int32)), (0, .ref 186)]) d_X3_weigh_1 rfl (by decide) rfl ?_
  refine sx_lc (lc' := [(0, .ref 186), (1, .int (0 : Int32))]) [1, 0] rfl ?_
  refine sL_X3_weigh_2 d hd _ ?_ 1024 (0 : Int32) h
  · intro h9
    refine sx_aload_n d_X3_weigh_33 0 rfl ?_
    refine sx_callV [] mv_X3_knownBy lM_StairCount_Notes_38 sh_186 (by omega) rfl rfl (Nat.le_of_ble_eq_true rfl) d_X3_weigh_34 (sp_X3_knownBy (d - 1) (by omega) h9) (fun r11 h10 => ?_)
    refine sx_iconst d_X3_weigh_37 ic1 ?_
    refine sx_isub d_X3_weigh_38 ?_
    refine sx_vlI (fun v12 => ?_)
    refine sx_istore_n (i := 1) (lc' := [(1, .int v12), (0, .ref 186)]) d_X3_weigh_39 rfl (by decide) rfl ?_
    refine sx_lc (lc' := [(0, .ref 186), (1, .int v12)]) [1, 0] rfl ?_
    refine sL_X3_weigh_40 d hd  1024 v12 h10
theorem d_X4_clear_0 : DC mi_X4_clear 0 (.aload_n 0) 1 1 := ⟨by decide +kernel, rfl⟩
theorem d_X4_clear_1 : DC mi_X4_clear 1 (.iconst 0) 1 2 := ⟨by decide +kernel, rfl⟩
theorem d_X4_clear_2 : DC mi_X4_clear 2 (.putfield 18) 3 5 := ⟨by decide +kernel, rfl⟩
theorem d_X4_clear_5 : DC mi_X4_clear 5 (.return_) 1 6 := ⟨by decide +kernel, rfl⟩
set_option maxHeartbeats 4000000 in
set_option maxRecDepth 100000 in
theorem sp_X4_clear (d : Nat) (hd : 0 ≤ d) (h : HH) : Sp mi_X4_clear d iU [.ref 64] h (g_X4_clear h) := by
  refine sp_of (lc := [(0, .ref 64)]) (by decide) (Nat.le_of_ble_eq_true rfl) rfl ?_
  unfold g_X4_clear
  refine sx_aload_n d_X4_clear_0 0 rfl ?_
  refine sx_iconst d_X4_clear_1 ic0 ?_
  refine sx_putI fl_StairCount_Past_18 sh_64 rfl hty_4_2 d_X4_clear_2 (fun h1 => ?_)
  exact sx_vret rfl d_X4_clear_5
