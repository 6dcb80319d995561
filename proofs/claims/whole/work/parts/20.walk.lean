/-! walks: X11_goesUp, X11_goesTo, X11_ropes, X11_does, X11_isAhead, X11_laysOrder, X11_passes, X11_goesOn, X11_sumOf, X11_entries, X11_person, X11_tally, X11_steep, X11_outward, X11_entry, X11_beside, X11_isStronger -/
theorem d_X11_goesUp_0 : DC mi_X11_goesUp 0 (.bipush 6) 2 2 := ⟨by decide +kernel, rfl⟩
theorem d_X11_goesUp_2 : DC mi_X11_goesUp 2 (.iload_n 1) 1 3 := ⟨by decide +kernel, rfl⟩
theorem d_X11_goesUp_3 : DC mi_X11_goesUp 3 (.imul) 1 4 := ⟨by decide +kernel, rfl⟩
theorem d_X11_goesUp_4 : DC mi_X11_goesUp 4 (.iload_n 2) 1 5 := ⟨by decide +kernel, rfl⟩
theorem d_X11_goesUp_5 : DC mi_X11_goesUp 5 (.iadd) 1 6 := ⟨by decide +kernel, rfl⟩
theorem d_X11_goesUp_6 : DC mi_X11_goesUp 6 (.istore 4) 2 8 := ⟨by decide +kernel, rfl⟩
theorem d_X11_goesUp_8 : DC mi_X11_goesUp 8 (.aload_n 0) 1 9 := ⟨by decide +kernel, rfl⟩
theorem d_X11_goesUp_9 : DC mi_X11_goesUp 9 (.getfield 81) 3 12 := ⟨by decide +kernel, rfl⟩
theorem d_X11_goesUp_12 : DC mi_X11_goesUp 12 (.iload 4) 2 14 := ⟨by decide +kernel, rfl⟩
theorem d_X11_goesUp_14 : DC mi_X11_goesUp 14 (.iaload) 1 15 := ⟨by decide +kernel, rfl⟩
theorem d_X11_goesUp_15 : DC mi_X11_goesUp 15 (.istore 5) 2 17 := ⟨by decide +kernel, rfl⟩
theorem d_X11_goesUp_17 : DC mi_X11_goesUp 17 (.bipush 36) 2 19 := ⟨by decide +kernel, rfl⟩
theorem d_X11_goesUp_19 : DC mi_X11_goesUp 19 (.iload_n 1) 1 20 := ⟨by decide +kernel, rfl⟩
theorem d_X11_goesUp_20 : DC mi_X11_goesUp 20 (.imul) 1 21 := ⟨by decide +kernel, rfl⟩
theorem d_X11_goesUp_21 : DC mi_X11_goesUp 21 (.bipush 6) 2 23 := ⟨by decide +kernel, rfl⟩
theorem d_X11_goesUp_23 : DC mi_X11_goesUp 23 (.iload_n 2) 1 24 := ⟨by decide +kernel, rfl⟩
theorem d_X11_goesUp_24 : DC mi_X11_goesUp 24 (.imul) 1 25 := ⟨by decide +kernel, rfl⟩
theorem d_X11_goesUp_25 : DC mi_X11_goesUp 25 (.iadd) 1 26 := ⟨by decide +kernel, rfl⟩
theorem d_X11_goesUp_26 : DC mi_X11_goesUp 26 (.iload 5) 2 28 := ⟨by decide +kernel, rfl⟩
theorem d_X11_goesUp_28 : DC mi_X11_goesUp 28 (.iadd) 1 29 := ⟨by decide +kernel, rfl⟩
theorem d_X11_goesUp_29 : DC mi_X11_goesUp 29 (.istore 6) 2 31 := ⟨by decide +kernel, rfl⟩
theorem d_X11_goesUp_31 : DC mi_X11_goesUp 31 (.aload_n 0) 1 32 := ⟨by decide +kernel, rfl⟩
theorem d_X11_goesUp_32 : DC mi_X11_goesUp 32 (.iload_n 1) 1 33 := ⟨by decide +kernel, rfl⟩
theorem d_X11_goesUp_33 : DC mi_X11_goesUp 33 (.iload_n 2) 1 34 := ⟨by decide +kernel, rfl⟩
theorem d_X11_goesUp_34 : DC mi_X11_goesUp 34 (.iload 5) 2 36 := ⟨by decide +kernel, rfl⟩
theorem d_X11_goesUp_36 : DC mi_X11_goesUp 36 (.invokevirtual 396) 3 39 := ⟨by decide +kernel, rfl⟩
theorem d_X11_goesUp_39 : DB mi_X11_goesUp 39 (.ifCond .ne 16) 16 42 55 := ⟨by decide +kernel, rfl, by decide⟩
theorem d_X11_goesUp_42 : DC mi_X11_goesUp 42 (.aload_n 0) 1 43 := ⟨by decide +kernel, rfl⟩
theorem d_X11_goesUp_43 : DC mi_X11_goesUp 43 (.getfield 87) 3 46 := ⟨by decide +kernel, rfl⟩
theorem d_X11_goesUp_46 : DC mi_X11_goesUp 46 (.iload 4) 2 48 := ⟨by decide +kernel, rfl⟩
theorem d_X11_goesUp_48 : DC mi_X11_goesUp 48 (.dup2) 1 49 := ⟨by decide +kernel, rfl⟩
theorem d_X11_goesUp_49 : DC mi_X11_goesUp 49 (.iaload) 1 50 := ⟨by decide +kernel, rfl⟩
theorem d_X11_goesUp_50 : DC mi_X11_goesUp 50 (.iconst 1) 1 51 := ⟨by decide +kernel, rfl⟩
theorem d_X11_goesUp_51 : DC mi_X11_goesUp 51 (.iadd) 1 52 := ⟨by decide +kernel, rfl⟩
theorem d_X11_goesUp_52 : DC mi_X11_goesUp 52 (.iastore) 1 53 := ⟨by decide +kernel, rfl⟩
theorem d_X11_goesUp_53 : DC mi_X11_goesUp 53 (.iconst 0) 1 54 := ⟨by decide +kernel, rfl⟩
theorem d_X11_goesUp_54 : DC mi_X11_goesUp 54 (.ireturn) 1 55 := ⟨by decide +kernel, rfl⟩
theorem d_X11_goesUp_55 : DC mi_X11_goesUp 55 (.aload_n 0) 1 56 := ⟨by decide +kernel, rfl⟩
theorem d_X11_goesUp_56 : DC mi_X11_goesUp 56 (.iload_n 1) 1 57 := ⟨by decide +kernel, rfl⟩
theorem d_X11_goesUp_57 : DC mi_X11_goesUp 57 (.iload_n 3) 1 58 := ⟨by decide +kernel, rfl⟩
theorem d_X11_goesUp_58 : DC mi_X11_goesUp 58 (.invokevirtual 400) 3 61 := ⟨by decide +kernel, rfl⟩
theorem d_X11_goesUp_61 : DB mi_X11_goesUp 61 (.ifCond .eq 24) 24 64 85 := ⟨by decide +kernel, rfl, by decide⟩
theorem d_X11_goesUp_64 : DC mi_X11_goesUp 64 (.aload_n 0) 1 65 := ⟨by decide +kernel, rfl⟩
theorem d_X11_goesUp_65 : DC mi_X11_goesUp 65 (.getfield 90) 3 68 := ⟨by decide +kernel, rfl⟩
theorem d_X11_goesUp_68 : DC mi_X11_goesUp 68 (.iload 4) 2 70 := ⟨by decide +kernel, rfl⟩
theorem d_X11_goesUp_70 : DC mi_X11_goesUp 70 (.dup2) 1 71 := ⟨by decide +kernel, rfl⟩
theorem d_X11_goesUp_71 : DC mi_X11_goesUp 71 (.iaload) 1 72 := ⟨by decide +kernel, rfl⟩
theorem d_X11_goesUp_72 : DC mi_X11_goesUp 72 (.iconst 1) 1 73 := ⟨by decide +kernel, rfl⟩
theorem d_X11_goesUp_73 : DC mi_X11_goesUp 73 (.iadd) 1 74 := ⟨by decide +kernel, rfl⟩
theorem d_X11_goesUp_74 : DC mi_X11_goesUp 74 (.iastore) 1 75 := ⟨by decide +kernel, rfl⟩
theorem d_X11_goesUp_75 : DC mi_X11_goesUp 75 (.aload_n 0) 1 76 := ⟨by decide +kernel, rfl⟩
theorem d_X11_goesUp_76 : DC mi_X11_goesUp 76 (.getfield 81) 3 79 := ⟨by decide +kernel, rfl⟩
theorem d_X11_goesUp_79 : DC mi_X11_goesUp 79 (.iload 4) 2 81 := ⟨by decide +kernel, rfl⟩
theorem d_X11_goesUp_81 : DC mi_X11_goesUp 81 (.iconst 0) 1 82 := ⟨by decide +kernel, rfl⟩
theorem d_X11_goesUp_82 : DC mi_X11_goesUp 82 (.iastore) 1 83 := ⟨by decide +kernel, rfl⟩
theorem d_X11_goesUp_83 : DC mi_X11_goesUp 83 (.iconst 0) 1 84 := ⟨by decide +kernel, rfl⟩
theorem d_X11_goesUp_84 : DC mi_X11_goesUp 84 (.ireturn) 1 85 := ⟨by decide +kernel, rfl⟩
theorem d_X11_goesUp_85 : DC mi_X11_goesUp 85 (.aload_n 0) 1 86 := ⟨by decide +kernel, rfl⟩
theorem d_X11_goesUp_86 : DC mi_X11_goesUp 86 (.iload_n 1) 1 87 := ⟨by decide +kernel, rfl⟩
theorem d_X11_goesUp_87 : DC mi_X11_goesUp 87 (.iload_n 2) 1 88 := ⟨by decide +kernel, rfl⟩
theorem d_X11_goesUp_88 : DC mi_X11_goesUp 88 (.iload 5) 2 90 := ⟨by decide +kernel, rfl⟩
theorem d_X11_goesUp_90 : DC mi_X11_goesUp 90 (.invokevirtual 389) 3 93 := ⟨by decide +kernel, rfl⟩
theorem d_X11_goesUp_93 : DC mi_X11_goesUp 93 (.istore 7) 2 95 := ⟨by decide +kernel, rfl⟩
theorem d_X11_goesUp_95 : DC mi_X11_goesUp 95 (.aload_n 0) 1 96 := ⟨by decide +kernel, rfl⟩
theorem d_X11_goesUp_96 : DC mi_X11_goesUp 96 (.iload_n 1) 1 97 := ⟨by decide +kernel, rfl⟩
theorem d_X11_goesUp_97 : DC mi_X11_goesUp 97 (.iload_n 2) 1 98 := ⟨by decide +kernel, rfl⟩
theorem d_X11_goesUp_98 : DC mi_X11_goesUp 98 (.iload 5) 2 100 := ⟨by decide +kernel, rfl⟩
theorem d_X11_goesUp_100 : DC mi_X11_goesUp 100 (.invokevirtual 378) 3 103 := ⟨by decide +kernel, rfl⟩
theorem d_X11_goesUp_103 : DC mi_X11_goesUp 103 (.aload_n 0) 1 104 := ⟨by decide +kernel, rfl⟩
theorem d_X11_goesUp_104 : DC mi_X11_goesUp 104 (.getfield 84) 3 107 := ⟨by decide +kernel, rfl⟩
theorem d_X11_goesUp_107 : DC mi_X11_goesUp 107 (.iload 4) 2 109 := ⟨by decide +kernel, rfl⟩
theorem d_X11_goesUp_109 : DC mi_X11_goesUp 109 (.ldc 186) 2 111 := ⟨by decide +kernel, rfl⟩
theorem d_X11_goesUp_111 : DC mi_X11_goesUp 111 (.aload_n 0) 1 112 := ⟨by decide +kernel, rfl⟩
theorem d_X11_goesUp_112 : DC mi_X11_goesUp 112 (.getfield 84) 3 115 := ⟨by decide +kernel, rfl⟩
theorem d_X11_goesUp_115 : DC mi_X11_goesUp 115 (.iload 4) 2 117 := ⟨by decide +kernel, rfl⟩
theorem d_X11_goesUp_117 : DC mi_X11_goesUp 117 (.iaload) 1 118 := ⟨by decide +kernel, rfl⟩
theorem d_X11_goesUp_118 : DC mi_X11_goesUp 118 (.aload_n 0) 1 119 := ⟨by decide +kernel, rfl⟩
theorem d_X11_goesUp_119 : DC mi_X11_goesUp 119 (.iconst 1) 1 120 := ⟨by decide +kernel, rfl⟩
theorem d_X11_goesUp_120 : DC mi_X11_goesUp 120 (.iconst 0) 1 121 := ⟨by decide +kernel, rfl⟩
theorem d_X11_goesUp_121 : DC mi_X11_goesUp 121 (.bipush 99) 2 123 := ⟨by decide +kernel, rfl⟩
theorem d_X11_goesUp_123 : DC mi_X11_goesUp 123 (.iconst 0) 1 124 := ⟨by decide +kernel, rfl⟩
theorem d_X11_goesUp_124 : DC mi_X11_goesUp 124 (.iload 7) 2 126 := ⟨by decide +kernel, rfl⟩
theorem d_X11_goesUp_126 : DC mi_X11_goesUp 126 (.invokestatic 404) 3 129 := ⟨by decide +kernel, rfl⟩
theorem d_X11_goesUp_129 : DC mi_X11_goesUp 129 (.invokevirtual 382) 3 132 := ⟨by decide +kernel, rfl⟩
theorem d_X11_goesUp_132 : DC mi_X11_goesUp 132 (.iadd) 1 133 := ⟨by decide +kernel, rfl⟩
theorem d_X11_goesUp_133 : DC mi_X11_goesUp 133 (.invokestatic 406) 3 136 := ⟨by decide +kernel, rfl⟩
theorem d_X11_goesUp_136 : DC mi_X11_goesUp 136 (.iastore) 1 137 := ⟨by decide +kernel, rfl⟩
theorem d_X11_goesUp_137 : DC mi_X11_goesUp 137 (.aload_n 0) 1 138 := ⟨by decide +kernel, rfl⟩
theorem d_X11_goesUp_138 : DC mi_X11_goesUp 138 (.getfield 93) 3 141 := ⟨by decide +kernel, rfl⟩
theorem d_X11_goesUp_141 : DC mi_X11_goesUp 141 (.iload 6) 2 143 := ⟨by decide +kernel, rfl⟩
theorem d_X11_goesUp_143 : DC mi_X11_goesUp 143 (.sipush 999) 3 146 := ⟨by decide +kernel, rfl⟩
theorem d_X11_goesUp_146 : DC mi_X11_goesUp 146 (.aload_n 0) 1 147 := ⟨by decide +kernel, rfl⟩
theorem d_X11_goesUp_147 : DC mi_X11_goesUp 147 (.getfield 93) 3 150 := ⟨by decide +kernel, rfl⟩
theorem d_X11_goesUp_150 : DC mi_X11_goesUp 150 (.iload 6) 2 152 := ⟨by decide +kernel, rfl⟩
theorem d_X11_goesUp_152 : DC mi_X11_goesUp 152 (.iaload) 1 153 := ⟨by decide +kernel, rfl⟩
theorem d_X11_goesUp_153 : DC mi_X11_goesUp 153 (.iconst 1) 1 154 := ⟨by decide +kernel, rfl⟩
theorem d_X11_goesUp_154 : DC mi_X11_goesUp 154 (.iadd) 1 155 := ⟨by decide +kernel, rfl⟩
theorem d_X11_goesUp_155 : DC mi_X11_goesUp 155 (.invokestatic 406) 3 158 := ⟨by decide +kernel, rfl⟩
theorem d_X11_goesUp_158 : DC mi_X11_goesUp 158 (.iastore) 1 159 := ⟨by decide +kernel, rfl⟩
theorem d_X11_goesUp_159 : DC mi_X11_goesUp 159 (.aload_n 0) 1 160 := ⟨by decide +kernel, rfl⟩
theorem d_X11_goesUp_160 : DC mi_X11_goesUp 160 (.getfield 81) 3 163 := ⟨by decide +kernel, rfl⟩
theorem d_X11_goesUp_163 : DC mi_X11_goesUp 163 (.iload 4) 2 165 := ⟨by decide +kernel, rfl⟩
theorem d_X11_goesUp_165 : DC mi_X11_goesUp 165 (.dup2) 1 166 := ⟨by decide +kernel, rfl⟩
theorem d_X11_goesUp_166 : DC mi_X11_goesUp 166 (.iaload) 1 167 := ⟨by decide +kernel, rfl⟩
theorem d_X11_goesUp_167 : DC mi_X11_goesUp 167 (.iconst 1) 1 168 := ⟨by decide +kernel, rfl⟩
theorem d_X11_goesUp_168 : DC mi_X11_goesUp 168 (.iadd) 1 169 := ⟨by decide +kernel, rfl⟩
theorem d_X11_goesUp_169 : DC mi_X11_goesUp 169 (.iastore) 1 170 := ⟨by decide +kernel, rfl⟩
theorem d_X11_goesUp_170 : DC mi_X11_goesUp 170 (.iconst 1) 1 171 := ⟨by decide +kernel, rfl⟩
theorem d_X11_goesUp_171 : DC mi_X11_goesUp 171 (.ireturn) 1 172 := ⟨by decide +kernel, rfl⟩
set_option maxHeartbeats 4000000 in
set_option maxRecDepth 100000 in
theorem sp_X11_goesUp (d : Nat) (hd : 7 ≤ d) (a0 : Int32) (a1 : Int32) (a2 : Int32) (h : HH) : Sp mi_X11_goesUp d iI [.ref 255, .int a0, .int a1, .int a2] h (g_X11_goesUp a0 a1 a2 h) := by
  refine sp_of (lc := [(0, .ref 255), (1, .int a0), (2, .int a1), (3, .int a2)]) (by decide) (Nat.le_of_ble_eq_true rfl) rfl ?_
  unfold g_X11_goesUp
  refine sx_bipush d_X11_goesUp_0 bc6 ?_
  refine sx_iload_n d_X11_goesUp_2 1 rfl ?_
  refine sx_imul d_X11_goesUp_3 ?_
  refine sx_iload_n d_X11_goesUp_4 2 rfl ?_
  refine sx_iadd d_X11_goesUp_5 ?_
  refine sx_vlI (fun v1 => ?_)
  refine sx_istore (i := 4) (lc' := [(4, .int v1), (0, .ref 255), (1, .int a0), (2, .int a1), (3, .int a2)]) d_X11_goesUp_6 (by decide) rfl ?_
  refine sx_aload_n d_X11_goesUp_8 1 rfl ?_
  refine sx_getF (a' := 278) fl_StairCountModel_81 sh_255 rfl rfl d_X11_goesUp_9 ?_
  refine sx_iload d_X11_goesUp_12 0 rfl ?_
  refine sx_iald sh_278 d_X11_goesUp_14 (fun v2 => ?_)
  refine sx_istore (i := 5) (lc' := [(5, .int v2), (4, .int v1), (0, .ref 255), (1, .int a0), (2, .int a1), (3, .int a2)]) d_X11_goesUp_15 (by decide) rfl ?_
  refine sx_bipush d_X11_goesUp_17 bc36 ?_
  refine sx_iload_n d_X11_goesUp_19 3 rfl ?_
  refine sx_imul d_X11_goesUp_20 ?_
  refine sx_bipush d_X11_goesUp_21 bc6 ?_
  refine sx_iload_n d_X11_goesUp_23 4 rfl ?_
  refine sx_imul d_X11_goesUp_24 ?_
  refine sx_iadd d_X11_goesUp_25 ?_
  refine sx_iload d_X11_goesUp_26 0 rfl ?_
  refine sx_iadd d_X11_goesUp_28 ?_
  refine sx_vlI (fun v3 => ?_)
  refine sx_istore (i := 6) (lc' := [(6, .int v3), (5, .int v2), (4, .int v1), (0, .ref 255), (1, .int a0), (2, .int a1), (3, .int a2)]) d_X11_goesUp_29 (by decide) rfl ?_
  refine sx_aload_n d_X11_goesUp_31 3 rfl ?_
  refine sx_iload_n d_X11_goesUp_32 4 rfl ?_
  refine sx_iload_n d_X11_goesUp_33 5 rfl ?_
  refine sx_iload d_X11_goesUp_34 1 rfl ?_
  refine sx_callV [.int a0, .int a1, .int v2] mv_X11_canClimb lM_StairCountModel_396 sh_255 (by omega) rfl rfl (Nat.le_of_ble_eq_true rfl) d_X11_goesUp_36 (sp_X11_canClimb (d - 1) (by omega) a0 a1 v2 h) (fun r5 h4 => ?_)
  refine sx_if_ne d_X11_goesUp_39 ?_ ?_
  · refine sx_aload_n d_X11_goesUp_42 3 rfl ?_
    refine sx_getF (a' := 280) fl_StairCountModel_87 sh_255 rfl rfl d_X11_goesUp_43 ?_
    refine sx_iload d_X11_goesUp_46 2 rfl ?_
    refine sx_dup2 d_X11_goesUp_48 rfl rfl ?_
    refine sx_iald sh_280 d_X11_goesUp_49 (fun v6 => ?_)
    refine sx_iconst d_X11_goesUp_50 ic1 ?_
    refine sx_iadd d_X11_goesUp_51 ?_
    refine sx_iast sh_280 d_X11_goesUp_52 (fun h7 => ?_)
    refine sx_iconst d_X11_goesUp_53 ic0 ?_
    exact sx_zret (by decide) rfl d_X11_goesUp_54
  · refine sx_aload_n d_X11_goesUp_55 3 rfl ?_
    refine sx_iload_n d_X11_goesUp_56 4 rfl ?_
    refine sx_iload_n d_X11_goesUp_57 6 rfl ?_
    refine sx_callV [.int a0, .int a2] mv_X11_doesFall lM_StairCountModel_400 sh_255 (by omega) rfl rfl (Nat.le_of_ble_eq_true rfl) d_X11_goesUp_58 (sp_X11_doesFall (d - 1) (by omega) a0 a2 h4) (fun r9 h8 => ?_)
    refine sx_if_eq d_X11_goesUp_61 ?_ ?_
    · refine sx_aload_n d_X11_goesUp_85 3 rfl ?_
      refine sx_iload_n d_X11_goesUp_86 4 rfl ?_
      refine sx_iload_n d_X11_goesUp_87 5 rfl ?_
      refine sx_iload d_X11_goesUp_88 1 rfl ?_
      refine sx_callV [.int a0, .int a1, .int v2] mv_X11_steepOf lM_StairCountModel_389 sh_255 (by omega) rfl rfl (Nat.le_of_ble_eq_true rfl) d_X11_goesUp_90 (sp_X11_steepOf (d - 1) (by omega) a0 a1 v2 h8) (fun r11 h10 => ?_)
      refine sx_istore (i := 7) (lc' := [(7, .int r11), (6, .int v3), (5, .int v2), (4, .int v1), (0, .ref 255), (1, .int a0), (2, .int a1), (3, .int a2)]) d_X11_goesUp_93 (by decide) rfl ?_
      refine sx_aload_n d_X11_goesUp_95 4 rfl ?_
      refine sx_iload_n d_X11_goesUp_96 5 rfl ?_
      refine sx_iload_n d_X11_goesUp_97 6 rfl ?_
      refine sx_iload d_X11_goesUp_98 2 rfl ?_
      refine sx_callV [.int a0, .int a1, .int v2] mv_X11_calls lM_StairCountModel_378 sh_255 (by omega) rfl rfl (Nat.le_of_ble_eq_true rfl) d_X11_goesUp_100 (sp_X11_calls (d - 1) (by omega) a0 a1 v2 h10) (fun _ h12 => ?_)
      refine sx_aload_n d_X11_goesUp_103 4 rfl ?_
      refine sx_getF (a' := 279) fl_StairCountModel_84 sh_255 rfl rfl d_X11_goesUp_104 ?_
      refine sx_iload d_X11_goesUp_107 3 rfl ?_
      refine sx_ldc d_X11_goesUp_109 lK_StairCountModel_186 ?_
      refine sx_aload_n d_X11_goesUp_111 4 rfl ?_
      refine sx_getF (a' := 279) fl_StairCountModel_84 sh_255 rfl rfl d_X11_goesUp_112 ?_
      refine sx_iload d_X11_goesUp_115 3 rfl ?_
      refine sx_iald sh_279 d_X11_goesUp_117 (fun v14 => ?_)
      refine sx_aload_n d_X11_goesUp_118 4 rfl ?_
      refine sx_iconst d_X11_goesUp_119 ic1 ?_
      refine sx_iconst d_X11_goesUp_120 ic0 ?_
      refine sx_bipush d_X11_goesUp_121 bc99 ?_
      refine sx_iconst d_X11_goesUp_123 ic0 ?_
      refine sx_iload d_X11_goesUp_124 0 rfl ?_
      refine sx_mmax lM_StairCountModel_404 (by omega) (Nat.le_of_ble_eq_true rfl) d_X11_goesUp_126 ?_
      refine sx_callV [.int (1 : Int32), .int (0 : Int32), .int (99 : Int32), .int (mxI (0 : Int32) r11)] mv_X11_within lM_StairCountModel_382 sh_255 (by omega) rfl rfl (Nat.le_of_ble_eq_true rfl) d_X11_goesUp_129 (sp_X11_within (d - 1) (by omega) (1 : Int32) (0 : Int32) (99 : Int32) (mxI (0 : Int32) r11) h12) (fun r16 h15 => ?_)
      refine sx_iadd d_X11_goesUp_132 ?_
      refine sx_mmin lM_StairCountModel_406 (by omega) (Nat.le_of_ble_eq_true rfl) d_X11_goesUp_133 ?_
      refine sx_iast sh_279 d_X11_goesUp_136 (fun h17 => ?_)
      refine sx_aload_n d_X11_goesUp_137 4 rfl ?_
      refine sx_getF (a' := 282) fl_StairCountModel_93 sh_255 rfl rfl d_X11_goesUp_138 ?_
      refine sx_iload d_X11_goesUp_141 1 rfl ?_
      refine sx_sipush d_X11_goesUp_143 sc999 ?_
      refine sx_aload_n d_X11_goesUp_146 4 rfl ?_
      refine sx_getF (a' := 282) fl_StairCountModel_93 sh_255 rfl rfl d_X11_goesUp_147 ?_
      refine sx_iload d_X11_goesUp_150 1 rfl ?_
      refine sx_iald sh_282 d_X11_goesUp_152 (fun v18 => ?_)
      refine sx_iconst d_X11_goesUp_153 ic1 ?_
      refine sx_iadd d_X11_goesUp_154 ?_
      refine sx_mmin lM_StairCountModel_406 (by omega) (Nat.le_of_ble_eq_true rfl) d_X11_goesUp_155 ?_
      refine sx_iast sh_282 d_X11_goesUp_158 (fun h19 => ?_)
      refine sx_aload_n d_X11_goesUp_159 4 rfl ?_
      refine sx_getF (a' := 278) fl_StairCountModel_81 sh_255 rfl rfl d_X11_goesUp_160 ?_
      refine sx_iload d_X11_goesUp_163 3 rfl ?_
      refine sx_dup2 d_X11_goesUp_165 rfl rfl ?_
      refine sx_iald sh_278 d_X11_goesUp_166 (fun v20 => ?_)
      refine sx_iconst d_X11_goesUp_167 ic1 ?_
      refine sx_iadd d_X11_goesUp_168 ?_
      refine sx_iast sh_278 d_X11_goesUp_169 (fun h21 => ?_)
      refine sx_iconst d_X11_goesUp_170 ic1 ?_
      exact sx_zret (by decide) rfl d_X11_goesUp_171
    · refine sx_aload_n d_X11_goesUp_64 3 rfl ?_
      refine sx_getF (a' := 281) fl_StairCountModel_90 sh_255 rfl rfl d_X11_goesUp_65 ?_
      refine sx_iload d_X11_goesUp_68 2 rfl ?_
      refine sx_dup2 d_X11_goesUp_70 rfl rfl ?_
      refine sx_iald sh_281 d_X11_goesUp_71 (fun v22 => ?_)
      refine sx_iconst d_X11_goesUp_72 ic1 ?_
      refine sx_iadd d_X11_goesUp_73 ?_
      refine sx_iast sh_281 d_X11_goesUp_74 (fun h23 => ?_)
      refine sx_aload_n d_X11_goesUp_75 3 rfl ?_
      refine sx_getF (a' := 278) fl_StairCountModel_81 sh_255 rfl rfl d_X11_goesUp_76 ?_
      refine sx_iload d_X11_goesUp_79 2 rfl ?_
      refine sx_iconst d_X11_goesUp_81 ic0 ?_
      refine sx_iast sh_278 d_X11_goesUp_82 (fun h24 => ?_)
      refine sx_iconst d_X11_goesUp_83 ic0 ?_
      exact sx_zret (by decide) rfl d_X11_goesUp_84
theorem d_X11_goesTo_0 : DC mi_X11_goesTo 0 (.bipush 6) 2 2 := ⟨by decide +kernel, rfl⟩
theorem d_X11_goesTo_2 : DC mi_X11_goesTo 2 (.iload_n 1) 1 3 := ⟨by decide +kernel, rfl⟩
theorem d_X11_goesTo_3 : DC mi_X11_goesTo 3 (.imul) 1 4 := ⟨by decide +kernel, rfl⟩
theorem d_X11_goesTo_4 : DC mi_X11_goesTo 4 (.iload_n 2) 1 5 := ⟨by decide +kernel, rfl⟩
theorem d_X11_goesTo_5 : DC mi_X11_goesTo 5 (.iadd) 1 6 := ⟨by decide +kernel, rfl⟩
theorem d_X11_goesTo_6 : DC mi_X11_goesTo 6 (.istore 5) 2 8 := ⟨by decide +kernel, rfl⟩
theorem d_X11_goesTo_8 : DC mi_X11_goesTo 8 (.aload_n 0) 1 9 := ⟨by decide +kernel, rfl⟩
theorem d_X11_goesTo_9 : DC mi_X11_goesTo 9 (.getfield 81) 3 12 := ⟨by decide +kernel, rfl⟩
theorem d_X11_goesTo_12 : DC mi_X11_goesTo 12 (.iload 5) 2 14 := ⟨by decide +kernel, rfl⟩
theorem d_X11_goesTo_14 : DC mi_X11_goesTo 14 (.iaload) 1 15 := ⟨by decide +kernel, rfl⟩
theorem d_X11_goesTo_15 : DC mi_X11_goesTo 15 (.iload_n 3) 1 16 := ⟨by decide +kernel, rfl⟩
theorem d_X11_goesTo_16 : DB mi_X11_goesTo 16 (.if_icmp .le 57) 57 19 73 := ⟨by decide +kernel, rfl, by decide⟩
theorem d_X11_goesTo_19 : DC mi_X11_goesTo 19 (.aload_n 0) 1 20 := ⟨by decide +kernel, rfl⟩
theorem d_X11_goesTo_20 : DC mi_X11_goesTo 20 (.getfield 81) 3 23 := ⟨by decide +kernel, rfl⟩
theorem d_X11_goesTo_23 : DC mi_X11_goesTo 23 (.iload 5) 2 25 := ⟨by decide +kernel, rfl⟩
theorem d_X11_goesTo_25 : DC mi_X11_goesTo 25 (.dup2) 1 26 := ⟨by decide +kernel, rfl⟩
theorem d_X11_goesTo_26 : DC mi_X11_goesTo 26 (.iaload) 1 27 := ⟨by decide +kernel, rfl⟩
theorem d_X11_goesTo_27 : DC mi_X11_goesTo 27 (.iconst 1) 1 28 := ⟨by decide +kernel, rfl⟩
theorem d_X11_goesTo_28 : DC mi_X11_goesTo 28 (.isub) 1 29 := ⟨by decide +kernel, rfl⟩
theorem d_X11_goesTo_29 : DC mi_X11_goesTo 29 (.iastore) 1 30 := ⟨by decide +kernel, rfl⟩
theorem d_X11_goesTo_30 : DC mi_X11_goesTo 30 (.bipush 36) 2 32 := ⟨by decide +kernel, rfl⟩
theorem d_X11_goesTo_32 : DC mi_X11_goesTo 32 (.iload_n 1) 1 33 := ⟨by decide +kernel, rfl⟩
theorem d_X11_goesTo_33 : DC mi_X11_goesTo 33 (.imul) 1 34 := ⟨by decide +kernel, rfl⟩
theorem d_X11_goesTo_34 : DC mi_X11_goesTo 34 (.bipush 6) 2 36 := ⟨by decide +kernel, rfl⟩
theorem d_X11_goesTo_36 : DC mi_X11_goesTo 36 (.iload_n 2) 1 37 := ⟨by decide +kernel, rfl⟩
theorem d_X11_goesTo_37 : DC mi_X11_goesTo 37 (.imul) 1 38 := ⟨by decide +kernel, rfl⟩
theorem d_X11_goesTo_38 : DC mi_X11_goesTo 38 (.iadd) 1 39 := ⟨by decide +kernel, rfl⟩
theorem d_X11_goesTo_39 : DC mi_X11_goesTo 39 (.aload_n 0) 1 40 := ⟨by decide +kernel, rfl⟩
theorem d_X11_goesTo_40 : DC mi_X11_goesTo 40 (.getfield 81) 3 43 := ⟨by decide +kernel, rfl⟩
theorem d_X11_goesTo_43 : DC mi_X11_goesTo 43 (.iload 5) 2 45 := ⟨by decide +kernel, rfl⟩
theorem d_X11_goesTo_45 : DC mi_X11_goesTo 45 (.iaload) 1 46 := ⟨by decide +kernel, rfl⟩
theorem d_X11_goesTo_46 : DC mi_X11_goesTo 46 (.iadd) 1 47 := ⟨by decide +kernel, rfl⟩
theorem d_X11_goesTo_47 : DC mi_X11_goesTo 47 (.istore 6) 2 49 := ⟨by decide +kernel, rfl⟩
theorem d_X11_goesTo_49 : DC mi_X11_goesTo 49 (.aload_n 0) 1 50 := ⟨by decide +kernel, rfl⟩
theorem d_X11_goesTo_50 : DC mi_X11_goesTo 50 (.getfield 93) 3 53 := ⟨by decide +kernel, rfl⟩
theorem d_X11_goesTo_53 : DC mi_X11_goesTo 53 (.iload 6) 2 55 := ⟨by decide +kernel, rfl⟩
theorem d_X11_goesTo_55 : DC mi_X11_goesTo 55 (.bipush (-99)) 2 57 := ⟨by decide +kernel, rfl⟩
theorem d_X11_goesTo_57 : DC mi_X11_goesTo 57 (.aload_n 0) 1 58 := ⟨by decide +kernel, rfl⟩
theorem d_X11_goesTo_58 : DC mi_X11_goesTo 58 (.getfield 93) 3 61 := ⟨by decide +kernel, rfl⟩
theorem d_X11_goesTo_61 : DC mi_X11_goesTo 61 (.iload 6) 2 63 := ⟨by decide +kernel, rfl⟩
theorem d_X11_goesTo_63 : DC mi_X11_goesTo 63 (.iaload) 1 64 := ⟨by decide +kernel, rfl⟩
theorem d_X11_goesTo_64 : DC mi_X11_goesTo 64 (.iconst 1) 1 65 := ⟨by decide +kernel, rfl⟩
theorem d_X11_goesTo_65 : DC mi_X11_goesTo 65 (.isub) 1 66 := ⟨by decide +kernel, rfl⟩
theorem d_X11_goesTo_66 : DC mi_X11_goesTo 66 (.invokestatic 404) 3 69 := ⟨by decide +kernel, rfl⟩
theorem d_X11_goesTo_69 : DC mi_X11_goesTo 69 (.iastore) 1 70 := ⟨by decide +kernel, rfl⟩
theorem d_X11_goesTo_70 : DB mi_X11_goesTo 70 (.goto (-62)) (-62) 73 8 := ⟨by decide +kernel, rfl, by decide⟩
theorem d_X11_goesTo_73 : DC mi_X11_goesTo 73 (.iconst 1) 1 74 := ⟨by decide +kernel, rfl⟩
theorem d_X11_goesTo_74 : DC mi_X11_goesTo 74 (.istore 6) 2 76 := ⟨by decide +kernel, rfl⟩
theorem d_X11_goesTo_76 : DC mi_X11_goesTo 76 (.iload 6) 2 78 := ⟨by decide +kernel, rfl⟩
theorem d_X11_goesTo_78 : DB mi_X11_goesTo 78 (.ifCond .eq 27) 27 81 105 := ⟨by decide +kernel, rfl, by decide⟩
theorem d_X11_goesTo_81 : DC mi_X11_goesTo 81 (.aload_n 0) 1 82 := ⟨by decide +kernel, rfl⟩
theorem d_X11_goesTo_82 : DC mi_X11_goesTo 82 (.getfield 81) 3 85 := ⟨by decide +kernel, rfl⟩
theorem d_X11_goesTo_85 : DC mi_X11_goesTo 85 (.iload 5) 2 87 := ⟨by decide +kernel, rfl⟩
theorem d_X11_goesTo_87 : DC mi_X11_goesTo 87 (.iaload) 1 88 := ⟨by decide +kernel, rfl⟩
theorem d_X11_goesTo_88 : DC mi_X11_goesTo 88 (.iload_n 3) 1 89 := ⟨by decide +kernel, rfl⟩
theorem d_X11_goesTo_89 : DB mi_X11_goesTo 89 (.if_icmp .ge 16) 16 92 105 := ⟨by decide +kernel, rfl, by decide⟩
theorem d_X11_goesTo_92 : DC mi_X11_goesTo 92 (.aload_n 0) 1 93 := ⟨by decide +kernel, rfl⟩
theorem d_X11_goesTo_93 : DC mi_X11_goesTo 93 (.iload_n 1) 1 94 := ⟨by decide +kernel, rfl⟩
theorem d_X11_goesTo_94 : DC mi_X11_goesTo 94 (.iload_n 2) 1 95 := ⟨by decide +kernel, rfl⟩
theorem d_X11_goesTo_95 : DC mi_X11_goesTo 95 (.iload 4) 2 97 := ⟨by decide +kernel, rfl⟩
theorem d_X11_goesTo_97 : DC mi_X11_goesTo 97 (.invokevirtual 408) 3 100 := ⟨by decide +kernel, rfl⟩
theorem d_X11_goesTo_100 : DC mi_X11_goesTo 100 (.istore 6) 2 102 := ⟨by decide +kernel, rfl⟩
theorem d_X11_goesTo_102 : DB mi_X11_goesTo 102 (.goto (-26)) (-26) 105 76 := ⟨by decide +kernel, rfl, by decide⟩
theorem d_X11_goesTo_105 : DC mi_X11_goesTo 105 (.return_) 1 106 := ⟨by decide +kernel, rfl⟩
set_option maxHeartbeats 4000000 in
set_option maxRecDepth 100000 in
theorem sL_X11_goesTo_8 (d : Nat) (hd : 8 ≤ d) (K73 : HH → Option (Unit × HH)) (c1 : Int32) (c2 : Int32) (c3 : Int32) (c4 : Int32) (c5 : Int32) (hK73 : ∀ (h : HH), Sx mi_X11_goesTo d iU (K73 h) 73 [(0, .ref 255), (1, .int c1), (2, .int c2), (3, .int c3), (4, .int c4), (5, .int c5)] [] h) : ∀ (n : Nat) (h : HH), Sx mi_X11_goesTo d iU (g_X11_goesTo_L8 K73 c1 c2 c3 c4 c5 n h) 8 [(0, .ref 255), (1, .int c1), (2, .int c2), (3, .int c3), (4, .int c4), (5, .int c5)] [] h := by
  intro n
  induction n with
  | zero => intro h; exact sx_none
  | succ n ih =>
    intro h
    rw [g_X11_goesTo_L8]
    refine sx_aload_n d_X11_goesTo_8 0 rfl ?_
    refine sx_getF (a' := 278) fl_StairCountModel_81 sh_255 rfl rfl d_X11_goesTo_9 ?_
    refine sx_iload d_X11_goesTo_12 5 rfl ?_
    refine sx_iald sh_278 d_X11_goesTo_14 (fun v2 => ?_)
    refine sx_iload_n d_X11_goesTo_15 3 rfl ?_
    refine sx_icmp_le d_X11_goesTo_16 ?_ ?_
    · refine sx_aload_n d_X11_goesTo_19 0 rfl ?_
      refine sx_getF (a' := 278) fl_StairCountModel_81 sh_255 rfl rfl d_X11_goesTo_20 ?_
      refine sx_iload d_X11_goesTo_23 5 rfl ?_
      refine sx_dup2 d_X11_goesTo_25 rfl rfl ?_
      refine sx_iald sh_278 d_X11_goesTo_26 (fun v3 => ?_)
      refine sx_iconst d_X11_goesTo_27 ic1 ?_
      refine sx_isub d_X11_goesTo_28 ?_
      refine sx_iast sh_278 d_X11_goesTo_29 (fun h4 => ?_)
      refine sx_bipush d_X11_goesTo_30 bc36 ?_
      refine sx_iload_n d_X11_goesTo_32 1 rfl ?_
      refine sx_imul d_X11_goesTo_33 ?_
      refine sx_bipush d_X11_goesTo_34 bc6 ?_
      refine sx_iload_n d_X11_goesTo_36 2 rfl ?_
      refine sx_imul d_X11_goesTo_37 ?_
      refine sx_iadd d_X11_goesTo_38 ?_
      refine sx_aload_n d_X11_goesTo_39 0 rfl ?_
      refine sx_getF (a' := 278) fl_StairCountModel_81 sh_255 rfl rfl d_X11_goesTo_40 ?_
      refine sx_iload d_X11_goesTo_43 5 rfl ?_
      refine sx_iald sh_278 d_X11_goesTo_45 (fun v5 => ?_)
      refine sx_iadd d_X11_goesTo_46 ?_
      refine sx_vlI (fun v6 => ?_)
      refine sx_istore (i := 6) (lc' := [(6, .int v6), (0, .ref 255), (1, .int c1), (2, .int c2), (3, .int c3), (4, .int c4), (5, .int c5)]) d_X11_goesTo_47 (by decide) rfl ?_
      refine sx_aload_n d_X11_goesTo_49 1 rfl ?_
      refine sx_getF (a' := 282) fl_StairCountModel_93 sh_255 rfl rfl d_X11_goesTo_50 ?_
      refine sx_iload d_X11_goesTo_53 0 rfl ?_
      refine sx_bipush d_X11_goesTo_55 bcm99 ?_
      refine sx_aload_n d_X11_goesTo_57 1 rfl ?_
      refine sx_getF (a' := 282) fl_StairCountModel_93 sh_255 rfl rfl d_X11_goesTo_58 ?_
      refine sx_iload d_X11_goesTo_61 0 rfl ?_
      refine sx_iald sh_282 d_X11_goesTo_63 (fun v7 => ?_)
      refine sx_iconst d_X11_goesTo_64 ic1 ?_
      refine sx_isub d_X11_goesTo_65 ?_
      refine sx_mmax lM_StairCountModel_404 (by omega) (Nat.le_of_ble_eq_true rfl) d_X11_goesTo_66 ?_
      refine sx_iast sh_282 d_X11_goesTo_69 (fun h8 => ?_)
      refine sx_goto d_X11_goesTo_70 ?_
      refine sx_lc (lc' := [(0, .ref 255), (1, .int c1), (2, .int c2), (3, .int c3), (4, .int c4), (5, .int c5)]) [1, 2, 3, 4, 5, 6] rfl ?_
      exact ih h8
    · exact hK73 h
set_option maxHeartbeats 4000000 in
set_option maxRecDepth 100000 in
theorem sL_X11_goesTo_76 (d : Nat) (hd : 8 ≤ d) (c1 : Int32) (c2 : Int32) (c3 : Int32) (c4 : Int32) (c5 : Int32) : ∀ (n : Nat) (x6 : Int32) (h : HH), Sx mi_X11_goesTo d iU (g_X11_goesTo_L76 c1 c2 c3 c4 c5 n x6 h) 76 [(0, .ref 255), (1, .int c1), (2, .int c2), (3, .int c3), (4, .int c4), (5, .int c5), (6, .int x6)] [] h := by
  intro n
  induction n with
  | zero => intro x6 h; exact sx_none
  | succ n ih =>
    intro x6 h
    rw [g_X11_goesTo_L76]
    refine sx_iload d_X11_goesTo_76 6 rfl ?_
    refine sx_if_eq d_X11_goesTo_78 ?_ ?_
    · exact sx_vret rfl d_X11_goesTo_105
    · refine sx_aload_n d_X11_goesTo_81 0 rfl ?_
      refine sx_getF (a' := 278) fl_StairCountModel_81 sh_255 rfl rfl d_X11_goesTo_82 ?_
      refine sx_iload d_X11_goesTo_85 5 rfl ?_
      refine sx_iald sh_278 d_X11_goesTo_87 (fun v10 => ?_)
      refine sx_iload_n d_X11_goesTo_88 3 rfl ?_
      refine sx_icmp_ge d_X11_goesTo_89 ?_ ?_
      · refine sx_aload_n d_X11_goesTo_92 0 rfl ?_
        refine sx_iload_n d_X11_goesTo_93 1 rfl ?_
        refine sx_iload_n d_X11_goesTo_94 2 rfl ?_
        refine sx_iload d_X11_goesTo_95 4 rfl ?_
        refine sx_callV [.int c1, .int c2, .int c4] mv_X11_goesUp lM_StairCountModel_408 sh_255 (by omega) rfl rfl (Nat.le_of_ble_eq_true rfl) d_X11_goesTo_97 (sp_X11_goesUp (d - 1) (by omega) c1 c2 c4 h) (fun r12 h11 => ?_)
        refine sx_istore (i := 6) (lc' := [(6, .int r12), (0, .ref 255), (1, .int c1), (2, .int c2), (3, .int c3), (4, .int c4), (5, .int c5)]) d_X11_goesTo_100 (by decide) rfl ?_
        refine sx_goto d_X11_goesTo_102 ?_
        refine sx_lc (lc' := [(0, .ref 255), (1, .int c1), (2, .int c2), (3, .int c3), (4, .int c4), (5, .int c5), (6, .int r12)]) [1, 2, 3, 4, 5, 6, 0] rfl ?_
        exact ih r12 h11
      · exact sx_vret rfl d_X11_goesTo_105
set_option maxHeartbeats 4000000 in
set_option maxRecDepth 100000 in
theorem sp_X11_goesTo (d : Nat) (hd : 8 ≤ d) (a0 : Int32) (a1 : Int32) (a2 : Int32) (a3 : Int32) (h : HH) : Sp mi_X11_goesTo d iU [.ref 255, .int a0, .int a1, .int a2, .int a3] h (g_X11_goesTo a0 a1 a2 a3 h) := by
  refine sp_of (lc := [(0, .ref 255), (1, .int a0), (2, .int a1), (3, .int a2), (4, .int a3)]) (by decide) (Nat.le_of_ble_eq_true rfl) rfl ?_
  unfold g_X11_goesTo
  refine sx_bipush d_X11_goesTo_0 bc6 ?_
  refine sx_iload_n d_X11_goesTo_2 1 rfl ?_
  refine sx_imul d_X11_goesTo_3 ?_
  refine sx_iload_n d_X11_goesTo_4 2 rfl ?_
  refine sx_iadd d_X11_goesTo_5 ?_
  refine sx_vlI (fun v1 => ?_)
  refine sx_istore (i := 5) (lc' := [(5, .int v1), (0, .ref 255), (1, .int a0), (2, .int a1), (3, .int a2), (4, .int a3)]) d_X11_goesTo_6 (by decide) rfl ?_
  refine sx_lc (lc' := [(0, .ref 255), (1, .int a0), (2, .int a1), (3, .int a2), (4, .int a3), (5, .int v1)]) [1, 2, 3, 4, 5, 0] rfl ?_
  refine sL_X11_goesTo_8 d hd _ a0 a1 a2 a3 v1 ?_ 1024 h
  · intro h9
    refine sx_iconst d_X11_goesTo_73 ic1 ?_
    refine sx_istore (i := 6) (lc' := [(6, .int (1 : Int32)), (0, .ref 255), (1, .int a0), (2, .int a1), (3, .int a2), (4, .int a3), (5, .int v1)]) d_X11_goesTo_74 (by decide) rfl ?_
    refine sx_lc (lc' := [(0, .ref 255), (1, .int a0), (2, .int a1), (3, .int a2), (4, .int a3), (5, .int v1), (6, .int (1 : Int32))]) [1, 2, 3, 4, 5, 6, 0] rfl ?_
    refine sL_X11_goesTo_76 d hd a0 a1 a2 a3 v1 1024 (1 : Int32) h9
theorem d_X11_ropes_0 : DC mi_X11_ropes 0 (.bipush 6) 2 2 := ⟨by decide +kernel, rfl⟩
theorem d_X11_ropes_2 : DC mi_X11_ropes 2 (.iload_n 1) 1 3 := ⟨by decide +kernel, rfl⟩
theorem d_X11_ropes_3 : DC mi_X11_ropes 3 (.imul) 1 4 := ⟨by decide +kernel, rfl⟩
theorem d_X11_ropes_4 : DC mi_X11_ropes 4 (.iload_n 2) 1 5 := ⟨by decide +kernel, rfl⟩
theorem d_X11_ropes_5 : DC mi_X11_ropes 5 (.iadd) 1 6 := ⟨by decide +kernel, rfl⟩
theorem d_X11_ropes_6 : DC mi_X11_ropes 6 (.istore 4) 2 8 := ⟨by decide +kernel, rfl⟩
theorem d_X11_ropes_8 : DC mi_X11_ropes 8 (.aload_n 0) 1 9 := ⟨by decide +kernel, rfl⟩
theorem d_X11_ropes_9 : DC mi_X11_ropes 9 (.getfield 81) 3 12 := ⟨by decide +kernel, rfl⟩
theorem d_X11_ropes_12 : DC mi_X11_ropes 12 (.iload 4) 2 14 := ⟨by decide +kernel, rfl⟩
theorem d_X11_ropes_14 : DC mi_X11_ropes 14 (.iaload) 1 15 := ⟨by decide +kernel, rfl⟩
theorem d_X11_ropes_15 : DC mi_X11_ropes 15 (.aload_n 0) 1 16 := ⟨by decide +kernel, rfl⟩
theorem d_X11_ropes_16 : DC mi_X11_ropes 16 (.getfield 31) 3 19 := ⟨by decide +kernel, rfl⟩
theorem d_X11_ropes_19 : DC mi_X11_ropes 19 (.iload_n 3) 1 20 := ⟨by decide +kernel, rfl⟩
theorem d_X11_ropes_20 : DC mi_X11_ropes 20 (.iaload) 1 21 := ⟨by decide +kernel, rfl⟩
theorem d_X11_ropes_21 : DB mi_X11_ropes 21 (.if_icmp .ne 7) 7 24 28 := ⟨by decide +kernel, rfl, by decide⟩
theorem d_X11_ropes_24 : DC mi_X11_ropes 24 (.iconst 1) 1 25 := ⟨by decide +kernel, rfl⟩
theorem d_X11_ropes_25 : DB mi_X11_ropes 25 (.goto 4) 4 28 29 := ⟨by decide +kernel, rfl, by decide⟩
theorem d_X11_ropes_28 : DC mi_X11_ropes 28 (.iconst 0) 1 29 := ⟨by decide +kernel, rfl⟩
theorem d_X11_ropes_29 : DC mi_X11_ropes 29 (.istore 5) 2 31 := ⟨by decide +kernel, rfl⟩
theorem d_X11_ropes_31 : DC mi_X11_ropes 31 (.aload_n 0) 1 32 := ⟨by decide +kernel, rfl⟩
theorem d_X11_ropes_32 : DC mi_X11_ropes 32 (.getfield 352) 3 35 := ⟨by decide +kernel, rfl⟩
theorem d_X11_ropes_35 : DC mi_X11_ropes 35 (.iconst 3) 1 36 := ⟨by decide +kernel, rfl⟩
theorem d_X11_ropes_36 : DB mi_X11_ropes 36 (.if_icmp .eq 24) 24 39 60 := ⟨by decide +kernel, rfl, by decide⟩
theorem d_X11_ropes_39 : DC mi_X11_ropes 39 (.iload 5) 2 41 := ⟨by decide +kernel, rfl⟩
theorem d_X11_ropes_41 : DB mi_X11_ropes 41 (.ifCond .ne 31) 31 44 72 := ⟨by decide +kernel, rfl, by decide⟩
theorem d_X11_ropes_44 : DC mi_X11_ropes 44 (.aload_n 0) 1 45 := ⟨by decide +kernel, rfl⟩
theorem d_X11_ropes_45 : DC mi_X11_ropes 45 (.getfield 81) 3 48 := ⟨by decide +kernel, rfl⟩
theorem d_X11_ropes_48 : DC mi_X11_ropes 48 (.iload 4) 2 50 := ⟨by decide +kernel, rfl⟩
theorem d_X11_ropes_50 : DC mi_X11_ropes 50 (.iaload) 1 51 := ⟨by decide +kernel, rfl⟩
theorem d_X11_ropes_51 : DC mi_X11_ropes 51 (.aload_n 0) 1 52 := ⟨by decide +kernel, rfl⟩
theorem d_X11_ropes_52 : DC mi_X11_ropes 52 (.getfield 34) 3 55 := ⟨by decide +kernel, rfl⟩
theorem d_X11_ropes_55 : DC mi_X11_ropes 55 (.iload_n 3) 1 56 := ⟨by decide +kernel, rfl⟩
theorem d_X11_ropes_56 : DC mi_X11_ropes 56 (.iaload) 1 57 := ⟨by decide +kernel, rfl⟩
theorem d_X11_ropes_57 : DB mi_X11_ropes 57 (.if_icmp .eq 15) 15 60 72 := ⟨by decide +kernel, rfl, by decide⟩
theorem d_X11_ropes_60 : DC mi_X11_ropes 60 (.aload_n 0) 1 61 := ⟨by decide +kernel, rfl⟩
theorem d_X11_ropes_61 : DC mi_X11_ropes 61 (.getfield 87) 3 64 := ⟨by decide +kernel, rfl⟩
theorem d_X11_ropes_64 : DC mi_X11_ropes 64 (.iload 4) 2 66 := ⟨by decide +kernel, rfl⟩
theorem d_X11_ropes_66 : DC mi_X11_ropes 66 (.dup2) 1 67 := ⟨by decide +kernel, rfl⟩
theorem d_X11_ropes_67 : DC mi_X11_ropes 67 (.iaload) 1 68 := ⟨by decide +kernel, rfl⟩
theorem d_X11_ropes_68 : DC mi_X11_ropes 68 (.iconst 1) 1 69 := ⟨by decide +kernel, rfl⟩
theorem d_X11_ropes_69 : DC mi_X11_ropes 69 (.iadd) 1 70 := ⟨by decide +kernel, rfl⟩
theorem d_X11_ropes_70 : DC mi_X11_ropes 70 (.iastore) 1 71 := ⟨by decide +kernel, rfl⟩
theorem d_X11_ropes_71 : DC mi_X11_ropes 71 (.return_) 1 72 := ⟨by decide +kernel, rfl⟩
theorem d_X11_ropes_72 : DC mi_X11_ropes 72 (.aload_n 0) 1 73 := ⟨by decide +kernel, rfl⟩
theorem d_X11_ropes_73 : DC mi_X11_ropes 73 (.getfield 81) 3 76 := ⟨by decide +kernel, rfl⟩
theorem d_X11_ropes_76 : DC mi_X11_ropes 76 (.iload 4) 2 78 := ⟨by decide +kernel, rfl⟩
theorem d_X11_ropes_78 : DC mi_X11_ropes 78 (.iload 5) 2 80 := ⟨by decide +kernel, rfl⟩
theorem d_X11_ropes_80 : DB mi_X11_ropes 80 (.ifCond .eq 12) 12 83 92 := ⟨by decide +kernel, rfl, by decide⟩
theorem d_X11_ropes_83 : DC mi_X11_ropes 83 (.aload_n 0) 1 84 := ⟨by decide +kernel, rfl⟩
theorem d_X11_ropes_84 : DC mi_X11_ropes 84 (.getfield 34) 3 87 := ⟨by decide +kernel, rfl⟩
theorem d_X11_ropes_87 : DC mi_X11_ropes 87 (.iload_n 3) 1 88 := ⟨by decide +kernel, rfl⟩
theorem d_X11_ropes_88 : DC mi_X11_ropes 88 (.iaload) 1 89 := ⟨by decide +kernel, rfl⟩
theorem d_X11_ropes_89 : DB mi_X11_ropes 89 (.goto 9) 9 92 98 := ⟨by decide +kernel, rfl, by decide⟩
theorem d_X11_ropes_92 : DC mi_X11_ropes 92 (.aload_n 0) 1 93 := ⟨by decide +kernel, rfl⟩
theorem d_X11_ropes_93 : DC mi_X11_ropes 93 (.getfield 31) 3 96 := ⟨by decide +kernel, rfl⟩
theorem d_X11_ropes_96 : DC mi_X11_ropes 96 (.iload_n 3) 1 97 := ⟨by decide +kernel, rfl⟩
theorem d_X11_ropes_97 : DC mi_X11_ropes 97 (.iaload) 1 98 := ⟨by decide +kernel, rfl⟩
theorem d_X11_ropes_98 : DC mi_X11_ropes 98 (.iastore) 1 99 := ⟨by decide +kernel, rfl⟩
theorem d_X11_ropes_99 : DC mi_X11_ropes 99 (.aload_n 0) 1 100 := ⟨by decide +kernel, rfl⟩
theorem d_X11_ropes_100 : DC mi_X11_ropes 100 (.getfield 84) 3 103 := ⟨by decide +kernel, rfl⟩
theorem d_X11_ropes_103 : DC mi_X11_ropes 103 (.iload 4) 2 105 := ⟨by decide +kernel, rfl⟩
theorem d_X11_ropes_105 : DC mi_X11_ropes 105 (.ldc 186) 2 107 := ⟨by decide +kernel, rfl⟩
theorem d_X11_ropes_107 : DC mi_X11_ropes 107 (.aload_n 0) 1 108 := ⟨by decide +kernel, rfl⟩
theorem d_X11_ropes_108 : DC mi_X11_ropes 108 (.getfield 84) 3 111 := ⟨by decide +kernel, rfl⟩
theorem d_X11_ropes_111 : DC mi_X11_ropes 111 (.iload 4) 2 113 := ⟨by decide +kernel, rfl⟩
theorem d_X11_ropes_113 : DC mi_X11_ropes 113 (.iaload) 1 114 := ⟨by decide +kernel, rfl⟩
theorem d_X11_ropes_114 : DC mi_X11_ropes 114 (.aload_n 0) 1 115 := ⟨by decide +kernel, rfl⟩
theorem d_X11_ropes_115 : DC mi_X11_ropes 115 (.getfield 37) 3 118 := ⟨by decide +kernel, rfl⟩
theorem d_X11_ropes_118 : DC mi_X11_ropes 118 (.iload_n 3) 1 119 := ⟨by decide +kernel, rfl⟩
theorem d_X11_ropes_119 : DC mi_X11_ropes 119 (.iaload) 1 120 := ⟨by decide +kernel, rfl⟩
theorem d_X11_ropes_120 : DC mi_X11_ropes 120 (.iadd) 1 121 := ⟨by decide +kernel, rfl⟩
theorem d_X11_ropes_121 : DC mi_X11_ropes 121 (.invokestatic 406) 3 124 := ⟨by decide +kernel, rfl⟩
theorem d_X11_ropes_124 : DC mi_X11_ropes 124 (.iastore) 1 125 := ⟨by decide +kernel, rfl⟩
theorem d_X11_ropes_125 : DC mi_X11_ropes 125 (.return_) 1 126 := ⟨by decide +kernel, rfl⟩
set_option maxHeartbeats 4000000 in
set_option maxRecDepth 100000 in
theorem sp_X11_ropes (d : Nat) (hd : 1 ≤ d) (a0 : Int32) (a1 : Int32) (a2 : Int32) (h : HH) : Sp mi_X11_ropes d iU [.ref 255, .int a0, .int a1, .int a2] h (g_X11_ropes a0 a1 a2 h) := by
  refine sp_of (lc := [(0, .ref 255), (1, .int a0), (2, .int a1), (3, .int a2)]) (by decide) (Nat.le_of_ble_eq_true rfl) rfl ?_
  unfold g_X11_ropes
  refine sx_bipush d_X11_ropes_0 bc6 ?_
  refine sx_iload_n d_X11_ropes_2 1 rfl ?_
  refine sx_imul d_X11_ropes_3 ?_
  refine sx_iload_n d_X11_ropes_4 2 rfl ?_
  refine sx_iadd d_X11_ropes_5 ?_
  refine sx_vlI (fun v1 => ?_)
  refine sx_istore (i := 4) (lc' := [(4, .int v1), (0, .ref 255), (1, .int a0), (2, .int a1), (3, .int a2)]) d_X11_ropes_6 (by decide) rfl ?_
  refine sx_aload_n d_X11_ropes_8 1 rfl ?_
  refine sx_getF (a' := 278) fl_StairCountModel_81 sh_255 rfl rfl d_X11_ropes_9 ?_
  refine sx_iload d_X11_ropes_12 0 rfl ?_
  refine sx_iald sh_278 d_X11_ropes_14 (fun v2 => ?_)
  refine sx_aload_n d_X11_ropes_15 1 rfl ?_
  refine sx_getF (a' := 263) fl_StairCountModel_31 sh_255 rfl rfl d_X11_ropes_16 ?_
  refine sx_iload_n d_X11_ropes_19 4 rfl ?_
  refine sx_iald sh_263 d_X11_ropes_20 (fun v3 => ?_)
  refine sx_jn (fun j => ∀ (y7 : Int32) (h : HH), Sx mi_X11_ropes d iU (j y7 h) 29 [(0, .ref 255), (3, .int a2), (4, .int v1)] [.int y7] h) ?_ ?_
  · intro y7 h6
    refine sx_istore (i := 5) (lc' := [(5, .int y7), (0, .ref 255), (3, .int a2), (4, .int v1)]) d_X11_ropes_29 (by decide) rfl ?_
    refine sx_aload_n d_X11_ropes_31 1 rfl ?_
    refine sx_getI fl_StairCountModel_352 sh_255 rfl d_X11_ropes_32 (fun v8 => ?_)
    refine sx_iconst d_X11_ropes_35 ic3 ?_
    refine sx_jn (fun j => ∀  (h : HH), Sx mi_X11_ropes d iU (j  h) 60 [(0, .ref 255), (4, .int v1)] [] h) ?_ ?_
    · intro  h11
      refine sx_aload_n d_X11_ropes_60 0 rfl ?_
      refine sx_getF (a' := 280) fl_StairCountModel_87 sh_255 rfl rfl d_X11_ropes_61 ?_
      refine sx_iload d_X11_ropes_64 1 rfl ?_
      refine sx_dup2 d_X11_ropes_66 rfl rfl ?_
      refine sx_iald sh_280 d_X11_ropes_67 (fun v12 => ?_)
      refine sx_iconst d_X11_ropes_68 ic1 ?_
      refine sx_iadd d_X11_ropes_69 ?_
      refine sx_iast sh_280 d_X11_ropes_70 (fun h13 => ?_)
      exact sx_vret rfl d_X11_ropes_71
    · intro j9 k10
      refine sx_icmp_eq d_X11_ropes_36 ?_ ?_
      · refine sx_lc (lc' := [(0, .ref 255), (4, .int v1)]) [1, 3] rfl ?_
        exact k10 h6
      · refine sx_iload d_X11_ropes_39 0 rfl ?_
        refine sx_jn (fun j => ∀  (h : HH), Sx mi_X11_ropes d iU (j  h) 72 [(0, .ref 255), (3, .int a2), (4, .int v1), (5, .int y7)] [] h) ?_ ?_
        · intro  h16
          refine sx_aload_n d_X11_ropes_72 0 rfl ?_
          refine sx_getF (a' := 278) fl_StairCountModel_81 sh_255 rfl rfl d_X11_ropes_73 ?_
          refine sx_iload d_X11_ropes_76 2 rfl ?_
          refine sx_iload d_X11_ropes_78 3 rfl ?_
          refine sx_jn (fun j => ∀ (y20 : Int32) (h : HH), Sx mi_X11_ropes d iU (j y20 h) 98 [(0, .ref 255), (3, .int a2), (4, .int v1)] [.int y20, .int v1, .ref 278] h) ?_ ?_
          · intro y20 h19
            refine sx_iast sh_278 d_X11_ropes_98 (fun h21 => ?_)
            refine sx_aload_n d_X11_ropes_99 0 rfl ?_
            refine sx_getF (a' := 279) fl_StairCountModel_84 sh_255 rfl rfl d_X11_ropes_100 ?_
            refine sx_iload d_X11_ropes_103 2 rfl ?_
            refine sx_ldc d_X11_ropes_105 lK_StairCountModel_186 ?_
            refine sx_aload_n d_X11_ropes_107 0 rfl ?_
            refine sx_getF (a' := 279) fl_StairCountModel_84 sh_255 rfl rfl d_X11_ropes_108 ?_
            refine sx_iload d_X11_ropes_111 2 rfl ?_
            refine sx_iald sh_279 d_X11_ropes_113 (fun v22 => ?_)
            refine sx_aload_n d_X11_ropes_114 0 rfl ?_
            refine sx_getF (a' := 265) fl_StairCountModel_37 sh_255 rfl rfl d_X11_ropes_115 ?_
            refine sx_iload_n d_X11_ropes_118 1 rfl ?_
            refine sx_iald sh_265 d_X11_ropes_119 (fun v23 => ?_)
            refine sx_iadd d_X11_ropes_120 ?_
            refine sx_mmin lM_StairCountModel_406 (by omega) (Nat.le_of_ble_eq_true rfl) d_X11_ropes_121 ?_
            refine sx_iast sh_279 d_X11_ropes_124 (fun h24 => ?_)
            exact sx_vret rfl d_X11_ropes_125
          · intro j17 k18
            refine sx_if_eq d_X11_ropes_80 ?_ ?_
            · refine sx_aload_n d_X11_ropes_92 0 rfl ?_
              refine sx_getF (a' := 263) fl_StairCountModel_31 sh_255 rfl rfl d_X11_ropes_93 ?_
              refine sx_iload_n d_X11_ropes_96 1 rfl ?_
              refine sx_iald sh_263 d_X11_ropes_97 (fun v25 => ?_)
              refine sx_lc (lc' := [(0, .ref 255), (3, .int a2), (4, .int v1)]) [0, 1, 2] rfl ?_
              exact k18 v25 h16
            · refine sx_aload_n d_X11_ropes_83 0 rfl ?_
              refine sx_getF (a' := 264) fl_StairCountModel_34 sh_255 rfl rfl d_X11_ropes_84 ?_
              refine sx_iload_n d_X11_ropes_87 1 rfl ?_
              refine sx_iald sh_264 d_X11_ropes_88 (fun v26 => ?_)
              refine sx_goto d_X11_ropes_89 ?_
              refine sx_lc (lc' := [(0, .ref 255), (3, .int a2), (4, .int v1)]) [0, 1, 2] rfl ?_
              exact k18 v26 h16
        · intro j14 k15
          refine sx_if_ne d_X11_ropes_41 ?_ ?_
          · refine sx_aload_n d_X11_ropes_44 1 rfl ?_
            refine sx_getF (a' := 278) fl_StairCountModel_81 sh_255 rfl rfl d_X11_ropes_45 ?_
            refine sx_iload d_X11_ropes_48 3 rfl ?_
            refine sx_iald sh_278 d_X11_ropes_50 (fun v27 => ?_)
            refine sx_aload_n d_X11_ropes_51 1 rfl ?_
            refine sx_getF (a' := 264) fl_StairCountModel_34 sh_255 rfl rfl d_X11_ropes_52 ?_
            refine sx_iload_n d_X11_ropes_55 2 rfl ?_
            refine sx_iald sh_264 d_X11_ropes_56 (fun v28 => ?_)
            refine sx_icmp_eq d_X11_ropes_57 ?_ ?_
            · refine sx_lc (lc' := [(0, .ref 255), (3, .int a2), (4, .int v1), (5, .int y7)]) [1, 2, 3, 0] rfl ?_
              exact k15 h6
            · refine sx_lc (lc' := [(0, .ref 255), (4, .int v1)]) [1, 3] rfl ?_
              exact k10 h6
          · refine sx_lc (lc' := [(0, .ref 255), (3, .int a2), (4, .int v1), (5, .int y7)]) [1, 2, 3, 0] rfl ?_
            exact k15 h6
  · intro j4 k5
    refine sx_icmp_ne d_X11_ropes_21 ?_ ?_
    · refine sx_iconst d_X11_ropes_24 ic1 ?_
      refine sx_goto d_X11_ropes_25 ?_
      refine sx_lc (lc' := [(0, .ref 255), (3, .int a2), (4, .int v1)]) [1, 4, 0] rfl ?_
      exact k5 (1 : Int32) h
    · refine sx_iconst d_X11_ropes_28 ic0 ?_
      refine sx_lc (lc' := [(0, .ref 255), (3, .int a2), (4, .int v1)]) [1, 4, 0] rfl ?_
      exact k5 (0 : Int32) h
theorem d_X11_does_0 : DC mi_X11_does 0 (.aload_n 0) 1 1 := ⟨by decide +kernel, rfl⟩
theorem d_X11_does_1 : DC mi_X11_does 1 (.getfield 43) 3 4 := ⟨by decide +kernel, rfl⟩
theorem d_X11_does_4 : DC mi_X11_does 4 (.iload_n 2) 1 5 := ⟨by decide +kernel, rfl⟩
theorem d_X11_does_5 : DC mi_X11_does 5 (.iaload) 1 6 := ⟨by decide +kernel, rfl⟩
theorem d_X11_does_6 : DC mi_X11_does 6 (.istore 4) 2 8 := ⟨by decide +kernel, rfl⟩
theorem d_X11_does_8 : DC mi_X11_does 8 (.aload_n 0) 1 9 := ⟨by decide +kernel, rfl⟩
theorem d_X11_does_9 : DC mi_X11_does 9 (.getfield 40) 3 12 := ⟨by decide +kernel, rfl⟩
theorem d_X11_does_12 : DC mi_X11_does 12 (.iload_n 2) 1 13 := ⟨by decide +kernel, rfl⟩
theorem d_X11_does_13 : DC mi_X11_does 13 (.iaload) 1 14 := ⟨by decide +kernel, rfl⟩
theorem d_X11_does_14 : DB mi_X11_does 14 (.ifCond .ne 20) 20 17 34 := ⟨by decide +kernel, rfl, by decide⟩
theorem d_X11_does_17 : DC mi_X11_does 17 (.aload_n 0) 1 18 := ⟨by decide +kernel, rfl⟩
theorem d_X11_does_18 : DC mi_X11_does 18 (.iload_n 1) 1 19 := ⟨by decide +kernel, rfl⟩
theorem d_X11_does_19 : DC mi_X11_does 19 (.iload 4) 2 21 := ⟨by decide +kernel, rfl⟩
theorem d_X11_does_21 : DC mi_X11_does 21 (.aload_n 0) 1 22 := ⟨by decide +kernel, rfl⟩
theorem d_X11_does_22 : DC mi_X11_does 22 (.getfield 49) 3 25 := ⟨by decide +kernel, rfl⟩
theorem d_X11_does_25 : DC mi_X11_does 25 (.iload_n 2) 1 26 := ⟨by decide +kernel, rfl⟩
theorem d_X11_does_26 : DC mi_X11_does 26 (.iaload) 1 27 := ⟨by decide +kernel, rfl⟩
theorem d_X11_does_27 : DC mi_X11_does 27 (.iload_n 3) 1 28 := ⟨by decide +kernel, rfl⟩
theorem d_X11_does_28 : DC mi_X11_does 28 (.invokevirtual 412) 3 31 := ⟨by decide +kernel, rfl⟩
theorem d_X11_does_31 : DB mi_X11_does 31 (.goto 42) 42 34 73 := ⟨by decide +kernel, rfl, by decide⟩
theorem d_X11_does_34 : DC mi_X11_does 34 (.aload_n 0) 1 35 := ⟨by decide +kernel, rfl⟩
theorem d_X11_does_35 : DC mi_X11_does 35 (.getfield 40) 3 38 := ⟨by decide +kernel, rfl⟩
theorem d_X11_does_38 : DC mi_X11_does 38 (.iload_n 2) 1 39 := ⟨by decide +kernel, rfl⟩
theorem d_X11_does_39 : DC mi_X11_does 39 (.iaload) 1 40 := ⟨by decide +kernel, rfl⟩
theorem d_X11_does_40 : DC mi_X11_does 40 (.iconst 1) 1 41 := ⟨by decide +kernel, rfl⟩
theorem d_X11_does_41 : DB mi_X11_does 41 (.if_icmp .ne 19) 19 44 60 := ⟨by decide +kernel, rfl, by decide⟩
theorem d_X11_does_44 : DC mi_X11_does 44 (.aload_n 0) 1 45 := ⟨by decide +kernel, rfl⟩
theorem d_X11_does_45 : DC mi_X11_does 45 (.iload_n 1) 1 46 := ⟨by decide +kernel, rfl⟩
theorem d_X11_does_46 : DC mi_X11_does 46 (.iload 4) 2 48 := ⟨by decide +kernel, rfl⟩
theorem d_X11_does_48 : DC mi_X11_does 48 (.aload_n 0) 1 49 := ⟨by decide +kernel, rfl⟩
theorem d_X11_does_49 : DC mi_X11_does 49 (.getfield 49) 3 52 := ⟨by decide +kernel, rfl⟩
theorem d_X11_does_52 : DC mi_X11_does 52 (.iload_n 2) 1 53 := ⟨by decide +kernel, rfl⟩
theorem d_X11_does_53 : DC mi_X11_does 53 (.iaload) 1 54 := ⟨by decide +kernel, rfl⟩
theorem d_X11_does_54 : DC mi_X11_does 54 (.invokevirtual 416) 3 57 := ⟨by decide +kernel, rfl⟩
theorem d_X11_does_57 : DB mi_X11_does 57 (.goto 16) 16 60 73 := ⟨by decide +kernel, rfl, by decide⟩
theorem d_X11_does_60 : DC mi_X11_does 60 (.aload_n 0) 1 61 := ⟨by decide +kernel, rfl⟩
theorem d_X11_does_61 : DC mi_X11_does 61 (.getfield 81) 3 64 := ⟨by decide +kernel, rfl⟩
theorem d_X11_does_64 : DC mi_X11_does 64 (.bipush 6) 2 66 := ⟨by decide +kernel, rfl⟩
theorem d_X11_does_66 : DC mi_X11_does 66 (.iload_n 1) 1 67 := ⟨by decide +kernel, rfl⟩
theorem d_X11_does_67 : DC mi_X11_does 67 (.imul) 1 68 := ⟨by decide +kernel, rfl⟩
theorem d_X11_does_68 : DC mi_X11_does 68 (.iload 4) 2 70 := ⟨by decide +kernel, rfl⟩
theorem d_X11_does_70 : DC mi_X11_does 70 (.iadd) 1 71 := ⟨by decide +kernel, rfl⟩
theorem d_X11_does_71 : DC mi_X11_does 71 (.iconst 0) 1 72 := ⟨by decide +kernel, rfl⟩
theorem d_X11_does_72 : DC mi_X11_does 72 (.iastore) 1 73 := ⟨by decide +kernel, rfl⟩
theorem d_X11_does_73 : DC mi_X11_does 73 (.return_) 1 74 := ⟨by decide +kernel, rfl⟩
set_option maxHeartbeats 4000000 in
set_option maxRecDepth 100000 in
theorem sp_X11_does (d : Nat) (hd : 9 ≤ d) (a0 : Int32) (a1 : Int32) (a2 : Int32) (h : HH) : Sp mi_X11_does d iU [.ref 255, .int a0, .int a1, .int a2] h (g_X11_does a0 a1 a2 h) := by
  refine sp_of (lc := [(0, .ref 255), (1, .int a0), (2, .int a1), (3, .int a2)]) (by decide) (Nat.le_of_ble_eq_true rfl) rfl ?_
  unfold g_X11_does
  refine sx_aload_n d_X11_does_0 0 rfl ?_
  refine sx_getF (a' := 267) fl_StairCountModel_43 sh_255 rfl rfl d_X11_does_1 ?_
  refine sx_iload_n d_X11_does_4 2 rfl ?_
  refine sx_iald sh_267 d_X11_does_5 (fun v1 => ?_)
  refine sx_istore (i := 4) (lc' := [(4, .int v1), (0, .ref 255), (1, .int a0), (2, .int a1), (3, .int a2)]) d_X11_does_6 (by decide) rfl ?_
  refine sx_aload_n d_X11_does_8 1 rfl ?_
  refine sx_getF (a' := 266) fl_StairCountModel_40 sh_255 rfl rfl d_X11_does_9 ?_
  refine sx_iload_n d_X11_does_12 3 rfl ?_
  refine sx_iald sh_266 d_X11_does_13 (fun v2 => ?_)
  refine sx_if_ne d_X11_does_14 ?_ ?_
  · refine sx_aload_n d_X11_does_17 1 rfl ?_
    refine sx_iload_n d_X11_does_18 2 rfl ?_
    refine sx_iload d_X11_does_19 0 rfl ?_
    refine sx_aload_n d_X11_does_21 1 rfl ?_
    refine sx_getF (a' := 269) fl_StairCountModel_49 sh_255 rfl rfl d_X11_does_22 ?_
    refine sx_iload_n d_X11_does_25 3 rfl ?_
    refine sx_iald sh_269 d_X11_does_26 (fun v3 => ?_)
    refine sx_iload_n d_X11_does_27 4 rfl ?_
    refine sx_callV [.int a0, .int v1, .int v3, .int a2] mv_X11_goesTo lM_StairCountModel_412 sh_255 (by omega) rfl rfl (Nat.le_of_ble_eq_true rfl) d_X11_does_28 (sp_X11_goesTo (d - 1) (by omega) a0 v1 v3 a2 h) (fun _ h4 => ?_)
    refine sx_goto d_X11_does_31 ?_
    exact sx_vret rfl d_X11_does_73
  · refine sx_aload_n d_X11_does_34 1 rfl ?_
    refine sx_getF (a' := 266) fl_StairCountModel_40 sh_255 rfl rfl d_X11_does_35 ?_
    refine sx_iload_n d_X11_does_38 3 rfl ?_
    refine sx_iald sh_266 d_X11_does_39 (fun v6 => ?_)
    refine sx_iconst d_X11_does_40 ic1 ?_
    refine sx_icmp_ne d_X11_does_41 ?_ ?_
    · refine sx_aload_n d_X11_does_44 1 rfl ?_
      refine sx_iload_n d_X11_does_45 2 rfl ?_
      refine sx_iload d_X11_does_46 0 rfl ?_
      refine sx_aload_n d_X11_does_48 1 rfl ?_
      refine sx_getF (a' := 269) fl_StairCountModel_49 sh_255 rfl rfl d_X11_does_49 ?_
      refine sx_iload_n d_X11_does_52 3 rfl ?_
      refine sx_iald sh_269 d_X11_does_53 (fun v7 => ?_)
      refine sx_callV [.int a0, .int v1, .int v7] mv_X11_ropes lM_StairCountModel_416 sh_255 (by omega) rfl rfl (Nat.le_of_ble_eq_true rfl) d_X11_does_54 (sp_X11_ropes (d - 1) (by omega) a0 v1 v7 h) (fun _ h8 => ?_)
      refine sx_goto d_X11_does_57 ?_
      exact sx_vret rfl d_X11_does_73
    · refine sx_aload_n d_X11_does_60 1 rfl ?_
      refine sx_getF (a' := 278) fl_StairCountModel_81 sh_255 rfl rfl d_X11_does_61 ?_
      refine sx_bipush d_X11_does_64 bc6 ?_
      refine sx_iload_n d_X11_does_66 2 rfl ?_
      refine sx_imul d_X11_does_67 ?_
      refine sx_iload d_X11_does_68 0 rfl ?_
      refine sx_iadd d_X11_does_70 ?_
      refine sx_iconst d_X11_does_71 ic0 ?_
      refine sx_iast sh_278 d_X11_does_72 (fun h10 => ?_)
      exact sx_vret rfl d_X11_does_73
theorem d_X11_isAhead_0 : DC mi_X11_isAhead 0 (.aload_n 0) 1 1 := ⟨by decide +kernel, rfl⟩
theorem d_X11_isAhead_1 : DC mi_X11_isAhead 1 (.getfield 105) 3 4 := ⟨by decide +kernel, rfl⟩
theorem d_X11_isAhead_4 : DC mi_X11_isAhead 4 (.iload_n 1) 1 5 := ⟨by decide +kernel, rfl⟩
theorem d_X11_isAhead_5 : DC mi_X11_isAhead 5 (.iaload) 1 6 := ⟨by decide +kernel, rfl⟩
theorem d_X11_isAhead_6 : DC mi_X11_isAhead 6 (.aload_n 0) 1 7 := ⟨by decide +kernel, rfl⟩
theorem d_X11_isAhead_7 : DC mi_X11_isAhead 7 (.getfield 105) 3 10 := ⟨by decide +kernel, rfl⟩
theorem d_X11_isAhead_10 : DC mi_X11_isAhead 10 (.iload_n 2) 1 11 := ⟨by decide +kernel, rfl⟩
theorem d_X11_isAhead_11 : DC mi_X11_isAhead 11 (.iaload) 1 12 := ⟨by decide +kernel, rfl⟩
theorem d_X11_isAhead_12 : DB mi_X11_isAhead 12 (.if_icmp .eq 24) 24 15 36 := ⟨by decide +kernel, rfl, by decide⟩
theorem d_X11_isAhead_15 : DC mi_X11_isAhead 15 (.aload_n 0) 1 16 := ⟨by decide +kernel, rfl⟩
theorem d_X11_isAhead_16 : DC mi_X11_isAhead 16 (.getfield 105) 3 19 := ⟨by decide +kernel, rfl⟩
theorem d_X11_isAhead_19 : DC mi_X11_isAhead 19 (.iload_n 1) 1 20 := ⟨by decide +kernel, rfl⟩
theorem d_X11_isAhead_20 : DC mi_X11_isAhead 20 (.iaload) 1 21 := ⟨by decide +kernel, rfl⟩
theorem d_X11_isAhead_21 : DC mi_X11_isAhead 21 (.aload_n 0) 1 22 := ⟨by decide +kernel, rfl⟩
theorem d_X11_isAhead_22 : DC mi_X11_isAhead 22 (.getfield 105) 3 25 := ⟨by decide +kernel, rfl⟩
theorem d_X11_isAhead_25 : DC mi_X11_isAhead 25 (.iload_n 2) 1 26 := ⟨by decide +kernel, rfl⟩
theorem d_X11_isAhead_26 : DC mi_X11_isAhead 26 (.iaload) 1 27 := ⟨by decide +kernel, rfl⟩
theorem d_X11_isAhead_27 : DB mi_X11_isAhead 27 (.if_icmp .ge 7) 7 30 34 := ⟨by decide +kernel, rfl, by decide⟩
theorem d_X11_isAhead_30 : DC mi_X11_isAhead 30 (.iconst 1) 1 31 := ⟨by decide +kernel, rfl⟩
theorem d_X11_isAhead_31 : DB mi_X11_isAhead 31 (.goto 4) 4 34 35 := ⟨by decide +kernel, rfl, by decide⟩
theorem d_X11_isAhead_34 : DC mi_X11_isAhead 34 (.iconst 0) 1 35 := ⟨by decide +kernel, rfl⟩
theorem d_X11_isAhead_35 : DC mi_X11_isAhead 35 (.ireturn) 1 36 := ⟨by decide +kernel, rfl⟩
theorem d_X11_isAhead_36 : DC mi_X11_isAhead 36 (.aload_n 0) 1 37 := ⟨by decide +kernel, rfl⟩
theorem d_X11_isAhead_37 : DC mi_X11_isAhead 37 (.aload_n 0) 1 38 := ⟨by decide +kernel, rfl⟩
theorem d_X11_isAhead_38 : DC mi_X11_isAhead 38 (.getfield 43) 3 41 := ⟨by decide +kernel, rfl⟩
theorem d_X11_isAhead_41 : DC mi_X11_isAhead 41 (.iload_n 1) 1 42 := ⟨by decide +kernel, rfl⟩
theorem d_X11_isAhead_42 : DC mi_X11_isAhead 42 (.iaload) 1 43 := ⟨by decide +kernel, rfl⟩
theorem d_X11_isAhead_43 : DC mi_X11_isAhead 43 (.invokevirtual 359) 3 46 := ⟨by decide +kernel, rfl⟩
theorem d_X11_isAhead_46 : DC mi_X11_isAhead 46 (.istore_n 3) 1 47 := ⟨by decide +kernel, rfl⟩
theorem d_X11_isAhead_47 : DC mi_X11_isAhead 47 (.aload_n 0) 1 48 := ⟨by decide +kernel, rfl⟩
theorem d_X11_isAhead_48 : DC mi_X11_isAhead 48 (.aload_n 0) 1 49 := ⟨by decide +kernel, rfl⟩
theorem d_X11_isAhead_49 : DC mi_X11_isAhead 49 (.getfield 43) 3 52 := ⟨by decide +kernel, rfl⟩
theorem d_X11_isAhead_52 : DC mi_X11_isAhead 52 (.iload_n 2) 1 53 := ⟨by decide +kernel, rfl⟩
theorem d_X11_isAhead_53 : DC mi_X11_isAhead 53 (.iaload) 1 54 := ⟨by decide +kernel, rfl⟩
theorem d_X11_isAhead_54 : DC mi_X11_isAhead 54 (.invokevirtual 359) 3 57 := ⟨by decide +kernel, rfl⟩
theorem d_X11_isAhead_57 : DC mi_X11_isAhead 57 (.istore 4) 2 59 := ⟨by decide +kernel, rfl⟩
theorem d_X11_isAhead_59 : DC mi_X11_isAhead 59 (.iload_n 3) 1 60 := ⟨by decide +kernel, rfl⟩
theorem d_X11_isAhead_60 : DC mi_X11_isAhead 60 (.iload 4) 2 62 := ⟨by decide +kernel, rfl⟩
theorem d_X11_isAhead_62 : DB mi_X11_isAhead 62 (.if_icmp .eq 17) 17 65 79 := ⟨by decide +kernel, rfl, by decide⟩
theorem d_X11_isAhead_65 : DC mi_X11_isAhead 65 (.iload_n 3) 1 66 := ⟨by decide +kernel, rfl⟩
theorem d_X11_isAhead_66 : DC mi_X11_isAhead 66 (.iload 4) 2 68 := ⟨by decide +kernel, rfl⟩
theorem d_X11_isAhead_68 : DB mi_X11_isAhead 68 (.if_icmp .le 7) 7 71 75 := ⟨by decide +kernel, rfl, by decide⟩
theorem d_X11_isAhead_71 : DC mi_X11_isAhead 71 (.iconst 1) 1 72 := ⟨by decide +kernel, rfl⟩
theorem d_X11_isAhead_72 : DB mi_X11_isAhead 72 (.goto 17) 17 75 89 := ⟨by decide +kernel, rfl, by decide⟩
theorem d_X11_isAhead_75 : DC mi_X11_isAhead 75 (.iconst 0) 1 76 := ⟨by decide +kernel, rfl⟩
theorem d_X11_isAhead_76 : DB mi_X11_isAhead 76 (.goto 13) 13 79 89 := ⟨by decide +kernel, rfl, by decide⟩
theorem d_X11_isAhead_79 : DC mi_X11_isAhead 79 (.iload_n 1) 1 80 := ⟨by decide +kernel, rfl⟩
theorem d_X11_isAhead_80 : DC mi_X11_isAhead 80 (.iload_n 2) 1 81 := ⟨by decide +kernel, rfl⟩
theorem d_X11_isAhead_81 : DB mi_X11_isAhead 81 (.if_icmp .ge 7) 7 84 88 := ⟨by decide +kernel, rfl, by decide⟩
theorem d_X11_isAhead_84 : DC mi_X11_isAhead 84 (.iconst 1) 1 85 := ⟨by decide +kernel, rfl⟩
theorem d_X11_isAhead_85 : DB mi_X11_isAhead 85 (.goto 4) 4 88 89 := ⟨by decide +kernel, rfl, by decide⟩
theorem d_X11_isAhead_88 : DC mi_X11_isAhead 88 (.iconst 0) 1 89 := ⟨by decide +kernel, rfl⟩
theorem d_X11_isAhead_89 : DC mi_X11_isAhead 89 (.ireturn) 1 90 := ⟨by decide +kernel, rfl⟩
set_option maxHeartbeats 4000000 in
set_option maxRecDepth 100000 in
theorem sp_X11_isAhead (d : Nat) (hd : 1 ≤ d) (a0 : Int32) (a1 : Int32) (h : HH) : Sp mi_X11_isAhead d iI [.ref 255, .int a0, .int a1] h (g_X11_isAhead a0 a1 h) := by
  refine sp_of (lc := [(0, .ref 255), (1, .int a0), (2, .int a1)]) (by decide) (Nat.le_of_ble_eq_true rfl) rfl ?_
  unfold g_X11_isAhead
  refine sx_aload_n d_X11_isAhead_0 0 rfl ?_
  refine sx_getF (a' := 283) fl_StairCountModel_105 sh_255 rfl rfl d_X11_isAhead_1 ?_
  refine sx_iload_n d_X11_isAhead_4 1 rfl ?_
  refine sx_iald sh_283 d_X11_isAhead_5 (fun v1 => ?_)
  refine sx_aload_n d_X11_isAhead_6 0 rfl ?_
  refine sx_getF (a' := 283) fl_StairCountModel_105 sh_255 rfl rfl d_X11_isAhead_7 ?_
  refine sx_iload_n d_X11_isAhead_10 2 rfl ?_
  refine sx_iald sh_283 d_X11_isAhead_11 (fun v2 => ?_)
  refine sx_icmp_eq d_X11_isAhead_12 ?_ ?_
  · refine sx_aload_n d_X11_isAhead_36 0 rfl ?_
    refine sx_aload_n d_X11_isAhead_37 0 rfl ?_
    refine sx_getF (a' := 267) fl_StairCountModel_43 sh_255 rfl rfl d_X11_isAhead_38 ?_
    refine sx_iload_n d_X11_isAhead_41 1 rfl ?_
    refine sx_iald sh_267 d_X11_isAhead_42 (fun v3 => ?_)
    refine sx_callV [.int v3] mv_X11_forceOf lM_StairCountModel_359 sh_255 (by omega) rfl rfl (Nat.le_of_ble_eq_true rfl) d_X11_isAhead_43 (sp_X11_forceOf (d - 1) (by omega) v3 h) (fun r5 h4 => ?_)
    refine sx_istore_n (i := 3) (lc' := [(3, .int r5), (0, .ref 255), (1, .int a0), (2, .int a1)]) d_X11_isAhead_46 rfl (by decide) rfl ?_
    refine sx_aload_n d_X11_isAhead_47 1 rfl ?_
    refine sx_aload_n d_X11_isAhead_48 1 rfl ?_
    refine sx_getF (a' := 267) fl_StairCountModel_43 sh_255 rfl rfl d_X11_isAhead_49 ?_
    refine sx_iload_n d_X11_isAhead_52 3 rfl ?_
    refine sx_iald sh_267 d_X11_isAhead_53 (fun v6 => ?_)
    refine sx_callV [.int v6] mv_X11_forceOf lM_StairCountModel_359 sh_255 (by omega) rfl rfl (Nat.le_of_ble_eq_true rfl) d_X11_isAhead_54 (sp_X11_forceOf (d - 1) (by omega) v6 h4) (fun r8 h7 => ?_)
    refine sx_istore (i := 4) (lc' := [(4, .int r8), (3, .int r5), (0, .ref 255), (1, .int a0), (2, .int a1)]) d_X11_isAhead_57 (by decide) rfl ?_
    refine sx_iload_n d_X11_isAhead_59 1 rfl ?_
    refine sx_iload d_X11_isAhead_60 0 rfl ?_
    refine sx_icmp_eq d_X11_isAhead_62 ?_ ?_
    · refine sx_iload_n d_X11_isAhead_79 3 rfl ?_
      refine sx_iload_n d_X11_isAhead_80 4 rfl ?_
      refine sx_icmp_ge d_X11_isAhead_81 ?_ ?_
      · refine sx_iconst d_X11_isAhead_84 ic1 ?_
        refine sx_goto d_X11_isAhead_85 ?_
        exact sx_zret (by decide) rfl d_X11_isAhead_89
      · refine sx_iconst d_X11_isAhead_88 ic0 ?_
        exact sx_zret (by decide) rfl d_X11_isAhead_89
    · refine sx_iload_n d_X11_isAhead_65 1 rfl ?_
      refine sx_iload d_X11_isAhead_66 0 rfl ?_
      refine sx_icmp_le d_X11_isAhead_68 ?_ ?_
      · refine sx_iconst d_X11_isAhead_71 ic1 ?_
        refine sx_goto d_X11_isAhead_72 ?_
        exact sx_zret (by decide) rfl d_X11_isAhead_89
      · refine sx_iconst d_X11_isAhead_75 ic0 ?_
        refine sx_goto d_X11_isAhead_76 ?_
        exact sx_zret (by decide) rfl d_X11_isAhead_89
  · refine sx_aload_n d_X11_isAhead_15 0 rfl ?_
    refine sx_getF (a' := 283) fl_StairCountModel_105 sh_255 rfl rfl d_X11_isAhead_16 ?_
    refine sx_iload_n d_X11_isAhead_19 1 rfl ?_
    refine sx_iald sh_283 d_X11_isAhead_20 (fun v9 => ?_)
    refine sx_aload_n d_X11_isAhead_21 0 rfl ?_
    refine sx_getF (a' := 283) fl_StairCountModel_105 sh_255 rfl rfl d_X11_isAhead_22 ?_
    refine sx_iload_n d_X11_isAhead_25 2 rfl ?_
    refine sx_iald sh_283 d_X11_isAhead_26 (fun v10 => ?_)
    refine sx_icmp_ge d_X11_isAhead_27 ?_ ?_
    · refine sx_iconst d_X11_isAhead_30 ic1 ?_
      refine sx_goto d_X11_isAhead_31 ?_
      exact sx_zret (by decide) rfl d_X11_isAhead_35
    · refine sx_iconst d_X11_isAhead_34 ic0 ?_
      exact sx_zret (by decide) rfl d_X11_isAhead_35
theorem d_X11_laysOrder_0 : DC mi_X11_laysOrder 0 (.aload_n 0) 1 1 := ⟨by decide +kernel, rfl⟩
theorem d_X11_laysOrder_1 : DC mi_X11_laysOrder 1 (.iconst 0) 1 2 := ⟨by decide +kernel, rfl⟩
theorem d_X11_laysOrder_2 : DC mi_X11_laysOrder 2 (.putfield 419) 3 5 := ⟨by decide +kernel, rfl⟩
theorem d_X11_laysOrder_5 : DC mi_X11_laysOrder 5 (.iconst 0) 1 6 := ⟨by decide +kernel, rfl⟩
theorem d_X11_laysOrder_6 : DC mi_X11_laysOrder 6 (.istore_n 3) 1 7 := ⟨by decide +kernel, rfl⟩
theorem d_X11_laysOrder_7 : DC mi_X11_laysOrder 7 (.iload_n 3) 1 8 := ⟨by decide +kernel, rfl⟩
theorem d_X11_laysOrder_8 : DC mi_X11_laysOrder 8 (.aload_n 0) 1 9 := ⟨by decide +kernel, rfl⟩
theorem d_X11_laysOrder_9 : DC mi_X11_laysOrder 9 (.getfield 13) 3 12 := ⟨by decide +kernel, rfl⟩
theorem d_X11_laysOrder_12 : DC mi_X11_laysOrder 12 (.iconst 3) 1 13 := ⟨by decide +kernel, rfl⟩
theorem d_X11_laysOrder_13 : DC mi_X11_laysOrder 13 (.iaload) 1 14 := ⟨by decide +kernel, rfl⟩
theorem d_X11_laysOrder_14 : DB mi_X11_laysOrder 14 (.if_icmp .ge 170) 170 17 184 := ⟨by decide +kernel, rfl, by decide⟩
theorem d_X11_laysOrder_17 : DC mi_X11_laysOrder 17 (.aload_n 0) 1 18 := ⟨by decide +kernel, rfl⟩
theorem d_X11_laysOrder_18 : DC mi_X11_laysOrder 18 (.getfield 46) 3 21 := ⟨by decide +kernel, rfl⟩
theorem d_X11_laysOrder_21 : DC mi_X11_laysOrder 21 (.iload_n 3) 1 22 := ⟨by decide +kernel, rfl⟩
theorem d_X11_laysOrder_22 : DC mi_X11_laysOrder 22 (.iaload) 1 23 := ⟨by decide +kernel, rfl⟩
theorem d_X11_laysOrder_23 : DC mi_X11_laysOrder 23 (.iload_n 2) 1 24 := ⟨by decide +kernel, rfl⟩
theorem d_X11_laysOrder_24 : DB mi_X11_laysOrder 24 (.if_icmp .ne 154) 154 27 178 := ⟨by decide +kernel, rfl, by decide⟩
theorem d_X11_laysOrder_27 : DC mi_X11_laysOrder 27 (.aload_n 0) 1 28 := ⟨by decide +kernel, rfl⟩
theorem d_X11_laysOrder_28 : DC mi_X11_laysOrder 28 (.getfield 352) 3 31 := ⟨by decide +kernel, rfl⟩
theorem d_X11_laysOrder_31 : DC mi_X11_laysOrder 31 (.iconst 2) 1 32 := ⟨by decide +kernel, rfl⟩
theorem d_X11_laysOrder_32 : DB mi_X11_laysOrder 32 (.if_icmp .ne 19) 19 35 51 := ⟨by decide +kernel, rfl, by decide⟩
theorem d_X11_laysOrder_35 : DC mi_X11_laysOrder 35 (.aload_n 0) 1 36 := ⟨by decide +kernel, rfl⟩
theorem d_X11_laysOrder_36 : DC mi_X11_laysOrder 36 (.getfield 43) 3 39 := ⟨by decide +kernel, rfl⟩
theorem d_X11_laysOrder_39 : DC mi_X11_laysOrder 39 (.iload_n 3) 1 40 := ⟨by decide +kernel, rfl⟩
theorem d_X11_laysOrder_40 : DC mi_X11_laysOrder 40 (.iaload) 1 41 := ⟨by decide +kernel, rfl⟩
theorem d_X11_laysOrder_41 : DC mi_X11_laysOrder 41 (.aload_n 0) 1 42 := ⟨by decide +kernel, rfl⟩
theorem d_X11_laysOrder_42 : DC mi_X11_laysOrder 42 (.getfield 102) 3 45 := ⟨by decide +kernel, rfl⟩
theorem d_X11_laysOrder_45 : DB mi_X11_laysOrder 45 (.if_icmp .ne 6) 6 48 51 := ⟨by decide +kernel, rfl, by decide⟩
theorem d_X11_laysOrder_48 : DB mi_X11_laysOrder 48 (.goto 130) 130 51 178 := ⟨by decide +kernel, rfl, by decide⟩
theorem d_X11_laysOrder_51 : DC mi_X11_laysOrder 51 (.aload_n 0) 1 52 := ⟨by decide +kernel, rfl⟩
theorem d_X11_laysOrder_52 : DC mi_X11_laysOrder 52 (.getfield 105) 3 55 := ⟨by decide +kernel, rfl⟩
theorem d_X11_laysOrder_55 : DC mi_X11_laysOrder 55 (.iload_n 3) 1 56 := ⟨by decide +kernel, rfl⟩
theorem d_X11_laysOrder_56 : DC mi_X11_laysOrder 56 (.aload_n 0) 1 57 := ⟨by decide +kernel, rfl⟩
theorem d_X11_laysOrder_57 : DC mi_X11_laysOrder 57 (.getfield 40) 3 60 := ⟨by decide +kernel, rfl⟩
theorem d_X11_laysOrder_60 : DC mi_X11_laysOrder 60 (.iload_n 3) 1 61 := ⟨by decide +kernel, rfl⟩
theorem d_X11_laysOrder_61 : DC mi_X11_laysOrder 61 (.iaload) 1 62 := ⟨by decide +kernel, rfl⟩
theorem d_X11_laysOrder_62 : DC mi_X11_laysOrder 62 (.iconst 2) 1 63 := ⟨by decide +kernel, rfl⟩
theorem d_X11_laysOrder_63 : DB mi_X11_laysOrder 63 (.if_icmp .ne 7) 7 66 70 := ⟨by decide +kernel, rfl, by decide⟩
theorem d_X11_laysOrder_66 : DC mi_X11_laysOrder 66 (.iconst 0) 1 67 := ⟨by decide +kernel, rfl⟩
theorem d_X11_laysOrder_67 : DB mi_X11_laysOrder 67 (.goto 42) 42 70 109 := ⟨by decide +kernel, rfl, by decide⟩
theorem d_X11_laysOrder_70 : DC mi_X11_laysOrder 70 (.aload_n 0) 1 71 := ⟨by decide +kernel, rfl⟩
theorem d_X11_laysOrder_71 : DC mi_X11_laysOrder 71 (.getfield 40) 3 74 := ⟨by decide +kernel, rfl⟩
theorem d_X11_laysOrder_74 : DC mi_X11_laysOrder 74 (.iload_n 3) 1 75 := ⟨by decide +kernel, rfl⟩
theorem d_X11_laysOrder_75 : DC mi_X11_laysOrder 75 (.iaload) 1 76 := ⟨by decide +kernel, rfl⟩
theorem d_X11_laysOrder_76 : DB mi_X11_laysOrder 76 (.ifCond .ne 32) 32 79 108 := ⟨by decide +kernel, rfl, by decide⟩
theorem d_X11_laysOrder_79 : DC mi_X11_laysOrder 79 (.aload_n 0) 1 80 := ⟨by decide +kernel, rfl⟩
theorem d_X11_laysOrder_80 : DC mi_X11_laysOrder 80 (.getfield 49) 3 83 := ⟨by decide +kernel, rfl⟩
theorem d_X11_laysOrder_83 : DC mi_X11_laysOrder 83 (.iload_n 3) 1 84 := ⟨by decide +kernel, rfl⟩
theorem d_X11_laysOrder_84 : DC mi_X11_laysOrder 84 (.iaload) 1 85 := ⟨by decide +kernel, rfl⟩
theorem d_X11_laysOrder_85 : DC mi_X11_laysOrder 85 (.aload_n 0) 1 86 := ⟨by decide +kernel, rfl⟩
theorem d_X11_laysOrder_86 : DC mi_X11_laysOrder 86 (.getfield 81) 3 89 := ⟨by decide +kernel, rfl⟩
theorem d_X11_laysOrder_89 : DC mi_X11_laysOrder 89 (.bipush 6) 2 91 := ⟨by decide +kernel, rfl⟩
theorem d_X11_laysOrder_91 : DC mi_X11_laysOrder 91 (.iload_n 1) 1 92 := ⟨by decide +kernel, rfl⟩
theorem d_X11_laysOrder_92 : DC mi_X11_laysOrder 92 (.imul) 1 93 := ⟨by decide +kernel, rfl⟩
theorem d_X11_laysOrder_93 : DC mi_X11_laysOrder 93 (.aload_n 0) 1 94 := ⟨by decide +kernel, rfl⟩
theorem d_X11_laysOrder_94 : DC mi_X11_laysOrder 94 (.getfield 43) 3 97 := ⟨by decide +kernel, rfl⟩
theorem d_X11_laysOrder_97 : DC mi_X11_laysOrder 97 (.iload_n 3) 1 98 := ⟨by decide +kernel, rfl⟩
theorem d_X11_laysOrder_98 : DC mi_X11_laysOrder 98 (.iaload) 1 99 := ⟨by decide +kernel, rfl⟩
theorem d_X11_laysOrder_99 : DC mi_X11_laysOrder 99 (.iadd) 1 100 := ⟨by decide +kernel, rfl⟩
theorem d_X11_laysOrder_100 : DC mi_X11_laysOrder 100 (.iaload) 1 101 := ⟨by decide +kernel, rfl⟩
theorem d_X11_laysOrder_101 : DB mi_X11_laysOrder 101 (.if_icmp .ge 7) 7 104 108 := ⟨by decide +kernel, rfl, by decide⟩
theorem d_X11_laysOrder_104 : DC mi_X11_laysOrder 104 (.iconst 1) 1 105 := ⟨by decide +kernel, rfl⟩
theorem d_X11_laysOrder_105 : DB mi_X11_laysOrder 105 (.goto 4) 4 108 109 := ⟨by decide +kernel, rfl, by decide⟩
theorem d_X11_laysOrder_108 : DC mi_X11_laysOrder 108 (.iconst 2) 1 109 := ⟨by decide +kernel, rfl⟩
theorem d_X11_laysOrder_109 : DC mi_X11_laysOrder 109 (.iastore) 1 110 := ⟨by decide +kernel, rfl⟩
theorem d_X11_laysOrder_110 : DC mi_X11_laysOrder 110 (.aload_n 0) 1 111 := ⟨by decide +kernel, rfl⟩
theorem d_X11_laysOrder_111 : DC mi_X11_laysOrder 111 (.getfield 419) 3 114 := ⟨by decide +kernel, rfl⟩
theorem d_X11_laysOrder_114 : DC mi_X11_laysOrder 114 (.istore 4) 2 116 := ⟨by decide +kernel, rfl⟩
theorem d_X11_laysOrder_116 : DC mi_X11_laysOrder 116 (.iload 4) 2 118 := ⟨by decide +kernel, rfl⟩
theorem d_X11_laysOrder_118 : DB mi_X11_laysOrder 118 (.ifCond .le 42) 42 121 160 := ⟨by decide +kernel, rfl, by decide⟩
theorem d_X11_laysOrder_121 : DC mi_X11_laysOrder 121 (.aload_n 0) 1 122 := ⟨by decide +kernel, rfl⟩
theorem d_X11_laysOrder_122 : DC mi_X11_laysOrder 122 (.iload_n 3) 1 123 := ⟨by decide +kernel, rfl⟩
theorem d_X11_laysOrder_123 : DC mi_X11_laysOrder 123 (.aload_n 0) 1 124 := ⟨by decide +kernel, rfl⟩
theorem d_X11_laysOrder_124 : DC mi_X11_laysOrder 124 (.getfield 108) 3 127 := ⟨by decide +kernel, rfl⟩
theorem d_X11_laysOrder_127 : DC mi_X11_laysOrder 127 (.iload 4) 2 129 := ⟨by decide +kernel, rfl⟩
theorem d_X11_laysOrder_129 : DC mi_X11_laysOrder 129 (.iconst 1) 1 130 := ⟨by decide +kernel, rfl⟩
theorem d_X11_laysOrder_130 : DC mi_X11_laysOrder 130 (.isub) 1 131 := ⟨by decide +kernel, rfl⟩
theorem d_X11_laysOrder_131 : DC mi_X11_laysOrder 131 (.iaload) 1 132 := ⟨by decide +kernel, rfl⟩
theorem d_X11_laysOrder_132 : DC mi_X11_laysOrder 132 (.invokevirtual 422) 3 135 := ⟨by decide +kernel, rfl⟩
theorem d_X11_laysOrder_135 : DB mi_X11_laysOrder 135 (.ifCond .eq 25) 25 138 160 := ⟨by decide +kernel, rfl, by decide⟩
theorem d_X11_laysOrder_138 : DC mi_X11_laysOrder 138 (.aload_n 0) 1 139 := ⟨by decide +kernel, rfl⟩
theorem d_X11_laysOrder_139 : DC mi_X11_laysOrder 139 (.getfield 108) 3 142 := ⟨by decide +kernel, rfl⟩
theorem d_X11_laysOrder_142 : DC mi_X11_laysOrder 142 (.iload 4) 2 144 := ⟨by decide +kernel, rfl⟩
theorem d_X11_laysOrder_144 : DC mi_X11_laysOrder 144 (.aload_n 0) 1 145 := ⟨by decide +kernel, rfl⟩
theorem d_X11_laysOrder_145 : DC mi_X11_laysOrder 145 (.getfield 108) 3 148 := ⟨by decide +kernel, rfl⟩
theorem d_X11_laysOrder_148 : DC mi_X11_laysOrder 148 (.iload 4) 2 150 := ⟨by decide +kernel, rfl⟩
theorem d_X11_laysOrder_150 : DC mi_X11_laysOrder 150 (.iconst 1) 1 151 := ⟨by decide +kernel, rfl⟩
theorem d_X11_laysOrder_151 : DC mi_X11_laysOrder 151 (.isub) 1 152 := ⟨by decide +kernel, rfl⟩
theorem d_X11_laysOrder_152 : DC mi_X11_laysOrder 152 (.iaload) 1 153 := ⟨by decide +kernel, rfl⟩
theorem d_X11_laysOrder_153 : DC mi_X11_laysOrder 153 (.iastore) 1 154 := ⟨by decide +kernel, rfl⟩
theorem d_X11_laysOrder_154 : DC mi_X11_laysOrder 154 (.iinc 4 (-1)) 3 157 := ⟨by decide +kernel, rfl⟩
theorem d_X11_laysOrder_157 : DB mi_X11_laysOrder 157 (.goto (-41)) (-41) 160 116 := ⟨by decide +kernel, rfl, by decide⟩
theorem d_X11_laysOrder_160 : DC mi_X11_laysOrder 160 (.aload_n 0) 1 161 := ⟨by decide +kernel, rfl⟩
theorem d_X11_laysOrder_161 : DC mi_X11_laysOrder 161 (.getfield 108) 3 164 := ⟨by decide +kernel, rfl⟩
theorem d_X11_laysOrder_164 : DC mi_X11_laysOrder 164 (.iload 4) 2 166 := ⟨by decide +kernel, rfl⟩
theorem d_X11_laysOrder_166 : DC mi_X11_laysOrder 166 (.iload_n 3) 1 167 := ⟨by decide +kernel, rfl⟩
theorem d_X11_laysOrder_167 : DC mi_X11_laysOrder 167 (.iastore) 1 168 := ⟨by decide +kernel, rfl⟩
theorem d_X11_laysOrder_168 : DC mi_X11_laysOrder 168 (.aload_n 0) 1 169 := ⟨by decide +kernel, rfl⟩
theorem d_X11_laysOrder_169 : DC mi_X11_laysOrder 169 (.dup) 1 170 := ⟨by decide +kernel, rfl⟩
theorem d_X11_laysOrder_170 : DC mi_X11_laysOrder 170 (.getfield 419) 3 173 := ⟨by decide +kernel, rfl⟩
theorem d_X11_laysOrder_173 : DC mi_X11_laysOrder 173 (.iconst 1) 1 174 := ⟨by decide +kernel, rfl⟩
theorem d_X11_laysOrder_174 : DC mi_X11_laysOrder 174 (.iadd) 1 175 := ⟨by decide +kernel, rfl⟩
theorem d_X11_laysOrder_175 : DC mi_X11_laysOrder 175 (.putfield 419) 3 178 := ⟨by decide +kernel, rfl⟩
theorem d_X11_laysOrder_178 : DC mi_X11_laysOrder 178 (.iinc 3 1) 3 181 := ⟨by decide +kernel, rfl⟩
theorem d_X11_laysOrder_181 : DB mi_X11_laysOrder 181 (.goto (-174)) (-174) 184 7 := ⟨by decide +kernel, rfl, by decide⟩
theorem d_X11_laysOrder_184 : DC mi_X11_laysOrder 184 (.return_) 1 185 := ⟨by decide +kernel, rfl⟩
set_option maxHeartbeats 4000000 in
set_option maxRecDepth 100000 in
theorem sL_X11_laysOrder_116 (d : Nat) (hd : 2 ≤ d) (K160 : Int32 → HH → Option (Unit × HH)) (c1 : Int32) (c2 : Int32) (c3 : Int32) (hK160 : ∀ (z4 : Int32) (h : HH), Sx mi_X11_laysOrder d iU (K160 z4 h) 160 [(0, .ref 255), (1, .int c1), (2, .int c2), (3, .int c3), (4, .int z4)] [] h) : ∀ (n : Nat) (x4 : Int32) (h : HH), Sx mi_X11_laysOrder d iU (g_X11_laysOrder_L116 K160 c1 c2 c3 n x4 h) 116 [(0, .ref 255), (1, .int c1), (2, .int c2), (3, .int c3), (4, .int x4)] [] h := by
  intro n
  induction n with
  | zero => intro x4 h; exact sx_none
  | succ n ih =>
    intro x4 h
    rw [g_X11_laysOrder_L116]
    refine sx_iload d_X11_laysOrder_116 4 rfl ?_
    refine sx_if_le d_X11_laysOrder_118 ?_ ?_
    · refine sx_aload_n d_X11_laysOrder_121 0 rfl ?_
      refine sx_iload_n d_X11_laysOrder_122 3 rfl ?_
      refine sx_aload_n d_X11_laysOrder_123 0 rfl ?_
      refine sx_getF (a' := 284) fl_StairCountModel_108 sh_255 rfl rfl d_X11_laysOrder_124 ?_
      refine sx_iload d_X11_laysOrder_127 4 rfl ?_
      refine sx_iconst d_X11_laysOrder_129 ic1 ?_
      refine sx_isub d_X11_laysOrder_130 ?_
      refine sx_iald sh_284 d_X11_laysOrder_131 (fun v19 => ?_)
      refine sx_callV [.int c3, .int v19] mv_X11_isAhead lM_StairCountModel_422 sh_255 (by omega) rfl rfl (Nat.le_of_ble_eq_true rfl) d_X11_laysOrder_132 (sp_X11_isAhead (d - 1) (by omega) c3 v19 h) (fun r21 h20 => ?_)
      refine sx_if_eq d_X11_laysOrder_135 ?_ ?_
      · exact hK160 x4 h20
      · refine sx_aload_n d_X11_laysOrder_138 0 rfl ?_
        refine sx_getF (a' := 284) fl_StairCountModel_108 sh_255 rfl rfl d_X11_laysOrder_139 ?_
        refine sx_iload d_X11_laysOrder_142 4 rfl ?_
        refine sx_aload_n d_X11_laysOrder_144 0 rfl ?_
        refine sx_getF (a' := 284) fl_StairCountModel_108 sh_255 rfl rfl d_X11_laysOrder_145 ?_
        refine sx_iload d_X11_laysOrder_148 4 rfl ?_
        refine sx_iconst d_X11_laysOrder_150 ic1 ?_
        refine sx_isub d_X11_laysOrder_151 ?_
        refine sx_iald sh_284 d_X11_laysOrder_152 (fun v22 => ?_)
        refine sx_iast sh_284 d_X11_laysOrder_153 (fun h23 => ?_)
        refine sx_iincV (lc' := fun v24 => [(4, .int v24), (0, .ref 255), (1, .int c1), (2, .int c2), (3, .int c3)]) (k0 := 4) d_X11_laysOrder_154 rfl iim1 (by decide) (fun _ => rfl) (fun v24 => ?_)
        refine sx_goto d_X11_laysOrder_157 ?_
        refine sx_lc (lc' := [(0, .ref 255), (1, .int c1), (2, .int c2), (3, .int c3), (4, .int v24)]) [1, 2, 3, 4, 0] rfl ?_
        exact ih v24 h23
    · exact hK160 x4 h
set_option maxHeartbeats 4000000 in
set_option maxRecDepth 100000 in
theorem sL_X11_laysOrder_7 (d : Nat) (hd : 2 ≤ d) (c1 : Int32) (c2 : Int32) : ∀ (n : Nat) (x3 : Int32) (h : HH), Sx mi_X11_laysOrder d iU (g_X11_laysOrder_L7 c1 c2 n x3 h) 7 [(0, .ref 255), (1, .int c1), (2, .int c2), (3, .int x3)] [] h := by
  intro n
  induction n with
  | zero => intro x3 h; exact sx_none
  | succ n ih =>
    intro x3 h
    rw [g_X11_laysOrder_L7]
    refine sx_iload_n d_X11_laysOrder_7 3 rfl ?_
    refine sx_aload_n d_X11_laysOrder_8 0 rfl ?_
    refine sx_getF (a' := 257) fl_StairCountModel_13 sh_255 rfl rfl d_X11_laysOrder_9 ?_
    refine sx_iconst d_X11_laysOrder_12 ic3 ?_
    refine sx_iald sh_257 d_X11_laysOrder_13 (fun v2 => ?_)
    refine sx_icmp_ge d_X11_laysOrder_14 ?_ ?_
    · refine sx_aload_n d_X11_laysOrder_17 0 rfl ?_
      refine sx_getF (a' := 268) fl_StairCountModel_46 sh_255 rfl rfl d_X11_laysOrder_18 ?_
      refine sx_iload_n d_X11_laysOrder_21 3 rfl ?_
      refine sx_iald sh_268 d_X11_laysOrder_22 (fun v3 => ?_)
      refine sx_iload_n d_X11_laysOrder_23 2 rfl ?_
      refine sx_jn (fun j => ∀  (h : HH), Sx mi_X11_laysOrder d iU (j  h) 178 [(0, .ref 255), (1, .int c1), (2, .int c2), (3, .int x3)] [] h) ?_ ?_
      · intro  h6
        refine sx_iincV (lc' := fun v7 => [(3, .int v7), (0, .ref 255), (1, .int c1), (2, .int c2)]) (k0 := 3) d_X11_laysOrder_178 rfl ii1 (by decide) (fun _ => rfl) (fun v7 => ?_)
        refine sx_goto d_X11_laysOrder_181 ?_
        refine sx_lc (lc' := [(0, .ref 255), (1, .int c1), (2, .int c2), (3, .int v7)]) [1, 2, 3, 0] rfl ?_
        exact ih v7 h6
      · intro j4 k5
        refine sx_icmp_ne d_X11_laysOrder_24 ?_ ?_
        · refine sx_aload_n d_X11_laysOrder_27 0 rfl ?_
          refine sx_getI fl_StairCountModel_352 sh_255 rfl d_X11_laysOrder_28 (fun v8 => ?_)
          refine sx_iconst d_X11_laysOrder_31 ic2 ?_
          refine sx_jn (fun j => ∀  (h : HH), Sx mi_X11_laysOrder d iU (j  h) 51 [(0, .ref 255), (1, .int c1), (2, .int c2), (3, .int x3)] [] h) ?_ ?_
          · intro  h11
            refine sx_aload_n d_X11_laysOrder_51 0 rfl ?_
            refine sx_getF (a' := 283) fl_StairCountModel_105 sh_255 rfl rfl d_X11_laysOrder_52 ?_
            refine sx_iload_n d_X11_laysOrder_55 3 rfl ?_
            refine sx_aload_n d_X11_laysOrder_56 0 rfl ?_
            refine sx_getF (a' := 266) fl_StairCountModel_40 sh_255 rfl rfl d_X11_laysOrder_57 ?_
            refine sx_iload_n d_X11_laysOrder_60 3 rfl ?_
            refine sx_iald sh_266 d_X11_laysOrder_61 (fun v12 => ?_)
            refine sx_iconst d_X11_laysOrder_62 ic2 ?_
            refine sx_jn (fun j => ∀ (y16 : Int32) (h : HH), Sx mi_X11_laysOrder d iU (j y16 h) 109 [(0, .ref 255), (1, .int c1), (2, .int c2), (3, .int x3)] [.int y16, .int x3, .ref 283] h) ?_ ?_
            · intro y16 h15
              refine sx_iast sh_283 d_X11_laysOrder_109 (fun h17 => ?_)
              refine sx_aload_n d_X11_laysOrder_110 0 rfl ?_
              refine sx_getI fl_StairCountModel_419 sh_255 rfl d_X11_laysOrder_111 (fun v18 => ?_)
              refine sx_istore (i := 4) (lc' := [(4, .int v18), (0, .ref 255), (1, .int c1), (2, .int c2), (3, .int x3)]) d_X11_laysOrder_114 (by decide) rfl ?_
              refine sx_lc (lc' := [(0, .ref 255), (1, .int c1), (2, .int c2), (3, .int x3), (4, .int v18)]) [1, 2, 3, 4, 0] rfl ?_
              refine sL_X11_laysOrder_116 d hd _ c1 c2 x3 ?_ 1024 v18 h17
              · intro z26 h25
                refine sx_aload_n d_X11_laysOrder_160 0 rfl ?_
                refine sx_getF (a' := 284) fl_StairCountModel_108 sh_255 rfl rfl d_X11_laysOrder_161 ?_
                refine sx_iload d_X11_laysOrder_164 4 rfl ?_
                refine sx_iload_n d_X11_laysOrder_166 3 rfl ?_
                refine sx_iast sh_284 d_X11_laysOrder_167 (fun h27 => ?_)
                refine sx_aload_n d_X11_laysOrder_168 0 rfl ?_
                refine sx_dup d_X11_laysOrder_169 rfl ?_
                refine sx_getI fl_StairCountModel_419 sh_255 rfl d_X11_laysOrder_170 (fun v28 => ?_)
                refine sx_iconst d_X11_laysOrder_173 ic1 ?_
                refine sx_iadd d_X11_laysOrder_174 ?_
                refine sx_putI fl_StairCountModel_419 sh_255 rfl hty_11_52 d_X11_laysOrder_175 (fun h29 => ?_)
                refine sx_lc (lc' := [(0, .ref 255), (1, .int c1), (2, .int c2), (3, .int x3)]) [0, 1, 2, 3] rfl ?_
                exact k5 h29
            · intro j13 k14
              refine sx_icmp_ne d_X11_laysOrder_63 ?_ ?_
              · refine sx_iconst d_X11_laysOrder_66 ic0 ?_
                refine sx_goto d_X11_laysOrder_67 ?_
                exact k14 (0 : Int32) h11
              · refine sx_aload_n d_X11_laysOrder_70 0 rfl ?_
                refine sx_getF (a' := 266) fl_StairCountModel_40 sh_255 rfl rfl d_X11_laysOrder_71 ?_
                refine sx_iload_n d_X11_laysOrder_74 3 rfl ?_
                refine sx_iald sh_266 d_X11_laysOrder_75 (fun v30 => ?_)
                refine sx_jn (fun j => ∀  (h : HH), Sx mi_X11_laysOrder d iU (j  h) 108 [(0, .ref 255), (1, .int c1), (2, .int c2), (3, .int x3)] [.int x3, .ref 283] h) ?_ ?_
                · intro  h33
                  refine sx_iconst d_X11_laysOrder_108 ic2 ?_
                  exact k14 (2 : Int32) h33
                · intro j31 k32
                  refine sx_if_ne d_X11_laysOrder_76 ?_ ?_
                  · refine sx_aload_n d_X11_laysOrder_79 0 rfl ?_
                    refine sx_getF (a' := 269) fl_StairCountModel_49 sh_255 rfl rfl d_X11_laysOrder_80 ?_
                    refine sx_iload_n d_X11_laysOrder_83 3 rfl ?_
                    refine sx_iald sh_269 d_X11_laysOrder_84 (fun v34 => ?_)
                    refine sx_aload_n d_X11_laysOrder_85 0 rfl ?_
                    refine sx_getF (a' := 278) fl_StairCountModel_81 sh_255 rfl rfl d_X11_laysOrder_86 ?_
                    refine sx_bipush d_X11_laysOrder_89 bc6 ?_
                    refine sx_iload_n d_X11_laysOrder_91 1 rfl ?_
                    refine sx_imul d_X11_laysOrder_92 ?_
                    refine sx_aload_n d_X11_laysOrder_93 0 rfl ?_
                    refine sx_getF (a' := 267) fl_StairCountModel_43 sh_255 rfl rfl d_X11_laysOrder_94 ?_
                    refine sx_iload_n d_X11_laysOrder_97 3 rfl ?_
                    refine sx_iald sh_267 d_X11_laysOrder_98 (fun v35 => ?_)
                    refine sx_iadd d_X11_laysOrder_99 ?_
                    refine sx_iald sh_278 d_X11_laysOrder_100 (fun v36 => ?_)
                    refine sx_icmp_ge d_X11_laysOrder_101 ?_ ?_
                    · refine sx_iconst d_X11_laysOrder_104 ic1 ?_
                      refine sx_goto d_X11_laysOrder_105 ?_
                      exact k14 (1 : Int32) h11
                    · exact k32 h11
                  · exact k32 h11
          · intro j9 k10
            refine sx_icmp_ne d_X11_laysOrder_32 ?_ ?_
            · refine sx_aload_n d_X11_laysOrder_35 0 rfl ?_
              refine sx_getF (a' := 267) fl_StairCountModel_43 sh_255 rfl rfl d_X11_laysOrder_36 ?_
              refine sx_iload_n d_X11_laysOrder_39 3 rfl ?_
              refine sx_iald sh_267 d_X11_laysOrder_40 (fun v37 => ?_)
              refine sx_aload_n d_X11_laysOrder_41 0 rfl ?_
              refine sx_getI fl_StairCountModel_102 sh_255 rfl d_X11_laysOrder_42 (fun v38 => ?_)
              refine sx_icmp_ne d_X11_laysOrder_45 ?_ ?_
              · refine sx_goto d_X11_laysOrder_48 ?_
                exact k5 h
              · exact k10 h
            · exact k10 h
        · exact k5 h
    · exact sx_vret rfl d_X11_laysOrder_184
set_option maxHeartbeats 4000000 in
set_option maxRecDepth 100000 in
theorem sp_X11_laysOrder (d : Nat) (hd : 2 ≤ d) (a0 : Int32) (a1 : Int32) (h : HH) : Sp mi_X11_laysOrder d iU [.ref 255, .int a0, .int a1] h (g_X11_laysOrder a0 a1 h) := by
  refine sp_of (lc := [(0, .ref 255), (1, .int a0), (2, .int a1)]) (by decide) (Nat.le_of_ble_eq_true rfl) rfl ?_
  unfold g_X11_laysOrder
  refine sx_aload_n d_X11_laysOrder_0 0 rfl ?_
  refine sx_iconst d_X11_laysOrder_1 ic0 ?_
  refine sx_putI fl_StairCountModel_419 sh_255 rfl hty_11_52 d_X11_laysOrder_2 (fun h1 => ?_)
  refine sx_iconst d_X11_laysOrder_5 ic0 ?_
  refine sx_istore_n (i := 3) (lc' := [(3, .int (0 : Int32)), (0, .ref 255), (1, .int a0), (2, .int a1)]) d_X11_laysOrder_6 rfl (by decide) rfl ?_
  refine sx_lc (lc' := [(0, .ref 255), (1, .int a0), (2, .int a1), (3, .int (0 : Int32))]) [1, 2, 3, 0] rfl ?_
  refine sL_X11_laysOrder_7 d hd a0 a1 1024 (0 : Int32) h1
theorem d_X11_passes_0 : DC mi_X11_passes 0 (.aload_n 0) 1 1 := ⟨by decide +kernel, rfl⟩
theorem d_X11_passes_1 : DC mi_X11_passes 1 (.iload_n 1) 1 2 := ⟨by decide +kernel, rfl⟩
theorem d_X11_passes_2 : DC mi_X11_passes 2 (.aload_n 0) 1 3 := ⟨by decide +kernel, rfl⟩
theorem d_X11_passes_3 : DC mi_X11_passes 3 (.getfield 75) 3 6 := ⟨by decide +kernel, rfl⟩
theorem d_X11_passes_6 : DC mi_X11_passes 6 (.iload_n 1) 1 7 := ⟨by decide +kernel, rfl⟩
theorem d_X11_passes_7 : DC mi_X11_passes 7 (.iaload) 1 8 := ⟨by decide +kernel, rfl⟩
theorem d_X11_passes_8 : DC mi_X11_passes 8 (.invokevirtual 426) 3 11 := ⟨by decide +kernel, rfl⟩
theorem d_X11_passes_11 : DC mi_X11_passes 11 (.iconst 0) 1 12 := ⟨by decide +kernel, rfl⟩
theorem d_X11_passes_12 : DC mi_X11_passes 12 (.istore_n 3) 1 13 := ⟨by decide +kernel, rfl⟩
theorem d_X11_passes_13 : DC mi_X11_passes 13 (.iload_n 3) 1 14 := ⟨by decide +kernel, rfl⟩
theorem d_X11_passes_14 : DC mi_X11_passes 14 (.aload_n 0) 1 15 := ⟨by decide +kernel, rfl⟩
theorem d_X11_passes_15 : DC mi_X11_passes 15 (.getfield 419) 3 18 := ⟨by decide +kernel, rfl⟩
theorem d_X11_passes_18 : DB mi_X11_passes 18 (.if_icmp .ge 21) 21 21 39 := ⟨by decide +kernel, rfl, by decide⟩
theorem d_X11_passes_21 : DC mi_X11_passes 21 (.aload_n 0) 1 22 := ⟨by decide +kernel, rfl⟩
theorem d_X11_passes_22 : DC mi_X11_passes 22 (.iload_n 1) 1 23 := ⟨by decide +kernel, rfl⟩
theorem d_X11_passes_23 : DC mi_X11_passes 23 (.aload_n 0) 1 24 := ⟨by decide +kernel, rfl⟩
theorem d_X11_passes_24 : DC mi_X11_passes 24 (.getfield 108) 3 27 := ⟨by decide +kernel, rfl⟩
theorem d_X11_passes_27 : DC mi_X11_passes 27 (.iload_n 3) 1 28 := ⟨by decide +kernel, rfl⟩
theorem d_X11_passes_28 : DC mi_X11_passes 28 (.iaload) 1 29 := ⟨by decide +kernel, rfl⟩
theorem d_X11_passes_29 : DC mi_X11_passes 29 (.iload_n 2) 1 30 := ⟨by decide +kernel, rfl⟩
theorem d_X11_passes_30 : DC mi_X11_passes 30 (.invokevirtual 429) 3 33 := ⟨by decide +kernel, rfl⟩
theorem d_X11_passes_33 : DC mi_X11_passes 33 (.iinc 3 1) 3 36 := ⟨by decide +kernel, rfl⟩
theorem d_X11_passes_36 : DB mi_X11_passes 36 (.goto (-23)) (-23) 39 13 := ⟨by decide +kernel, rfl, by decide⟩
theorem d_X11_passes_39 : DC mi_X11_passes 39 (.aload_n 0) 1 40 := ⟨by decide +kernel, rfl⟩
theorem d_X11_passes_40 : DC mi_X11_passes 40 (.getfield 75) 3 43 := ⟨by decide +kernel, rfl⟩
theorem d_X11_passes_43 : DC mi_X11_passes 43 (.iload_n 1) 1 44 := ⟨by decide +kernel, rfl⟩
theorem d_X11_passes_44 : DC mi_X11_passes 44 (.dup2) 1 45 := ⟨by decide +kernel, rfl⟩
theorem d_X11_passes_45 : DC mi_X11_passes 45 (.iaload) 1 46 := ⟨by decide +kernel, rfl⟩
theorem d_X11_passes_46 : DC mi_X11_passes 46 (.iconst 1) 1 47 := ⟨by decide +kernel, rfl⟩
theorem d_X11_passes_47 : DC mi_X11_passes 47 (.iadd) 1 48 := ⟨by decide +kernel, rfl⟩
theorem d_X11_passes_48 : DC mi_X11_passes 48 (.iastore) 1 49 := ⟨by decide +kernel, rfl⟩
theorem d_X11_passes_49 : DC mi_X11_passes 49 (.return_) 1 50 := ⟨by decide +kernel, rfl⟩
set_option maxHeartbeats 4000000 in
set_option maxRecDepth 100000 in
theorem sL_X11_passes_13 (d : Nat) (hd : 10 ≤ d) (K39 : HH → Option (Unit × HH)) (c1 : Int32) (c2 : Int32) (hK39 : ∀ (h : HH), Sx mi_X11_passes d iU (K39 h) 39 [(0, .ref 255), (1, .int c1)] [] h) : ∀ (n : Nat) (x3 : Int32) (h : HH), Sx mi_X11_passes d iU (g_X11_passes_L13 K39 c1 c2 n x3 h) 13 [(0, .ref 255), (1, .int c1), (2, .int c2), (3, .int x3)] [] h := by
  intro n
  induction n with
  | zero => intro x3 h; exact sx_none
  | succ n ih =>
    intro x3 h
    rw [g_X11_passes_L13]
    refine sx_iload_n d_X11_passes_13 3 rfl ?_
    refine sx_aload_n d_X11_passes_14 0 rfl ?_
    refine sx_getI fl_StairCountModel_419 sh_255 rfl d_X11_passes_15 (fun v4 => ?_)
    refine sx_icmp_ge d_X11_passes_18 ?_ ?_
    · refine sx_aload_n d_X11_passes_21 0 rfl ?_
      refine sx_iload_n d_X11_passes_22 1 rfl ?_
      refine sx_aload_n d_X11_passes_23 0 rfl ?_
      refine sx_getF (a' := 284) fl_StairCountModel_108 sh_255 rfl rfl d_X11_passes_24 ?_
      refine sx_iload_n d_X11_passes_27 3 rfl ?_
      refine sx_iald sh_284 d_X11_passes_28 (fun v5 => ?_)
      refine sx_iload_n d_X11_passes_29 2 rfl ?_
      refine sx_callV [.int c1, .int v5, .int c2] mv_X11_does lM_StairCountModel_429 sh_255 (by omega) rfl rfl (Nat.le_of_ble_eq_true rfl) d_X11_passes_30 (sp_X11_does (d - 1) (by omega) c1 v5 c2 h) (fun _ h6 => ?_)
      refine sx_iincV (lc' := fun v8 => [(3, .int v8), (0, .ref 255), (1, .int c1), (2, .int c2)]) (k0 := 3) d_X11_passes_33 rfl ii1 (by decide) (fun _ => rfl) (fun v8 => ?_)
      refine sx_goto d_X11_passes_36 ?_
      refine sx_lc (lc' := [(0, .ref 255), (1, .int c1), (2, .int c2), (3, .int v8)]) [1, 2, 3, 0] rfl ?_
      exact ih v8 h6
    · refine sx_lc (lc' := [(0, .ref 255), (1, .int c1)]) [0, 1] rfl ?_
      exact hK39 h
set_option maxHeartbeats 4000000 in
set_option maxRecDepth 100000 in
theorem sp_X11_passes (d : Nat) (hd : 10 ≤ d) (a0 : Int32) (a1 : Int32) (h : HH) : Sp mi_X11_passes d iU [.ref 255, .int a0, .int a1] h (g_X11_passes a0 a1 h) := by
  refine sp_of (lc := [(0, .ref 255), (1, .int a0), (2, .int a1)]) (by decide) (Nat.le_of_ble_eq_true rfl) rfl ?_
  unfold g_X11_passes
  refine sx_aload_n d_X11_passes_0 0 rfl ?_
  refine sx_iload_n d_X11_passes_1 1 rfl ?_
  refine sx_aload_n d_X11_passes_2 0 rfl ?_
  refine sx_getF (a' := 276) fl_StairCountModel_75 sh_255 rfl rfl d_X11_passes_3 ?_
  refine sx_iload_n d_X11_passes_6 1 rfl ?_
  refine sx_iald sh_276 d_X11_passes_7 (fun v1 => ?_)
  refine sx_callV [.int a0, .int v1] mv_X11_laysOrder lM_StairCountModel_426 sh_255 (by omega) rfl rfl (Nat.le_of_ble_eq_true rfl) d_X11_passes_8 (sp_X11_laysOrder (d - 1) (by omega) a0 v1 h) (fun _ h2 => ?_)
  refine sx_iconst d_X11_passes_11 ic0 ?_
  refine sx_istore_n (i := 3) (lc' := [(3, .int (0 : Int32)), (0, .ref 255), (1, .int a0), (2, .int a1)]) d_X11_passes_12 rfl (by decide) rfl ?_
  refine sx_lc (lc' := [(0, .ref 255), (1, .int a0), (2, .int a1), (3, .int (0 : Int32))]) [1, 2, 3, 0] rfl ?_
  refine sL_X11_passes_13 d hd _ a0 a1 ?_ 1024 (0 : Int32) h2
  · intro h9
    refine sx_aload_n d_X11_passes_39 0 rfl ?_
    refine sx_getF (a' := 276) fl_StairCountModel_75 sh_255 rfl rfl d_X11_passes_40 ?_
    refine sx_iload_n d_X11_passes_43 1 rfl ?_
    refine sx_dup2 d_X11_passes_44 rfl rfl ?_
    refine sx_iald sh_276 d_X11_passes_45 (fun v10 => ?_)
    refine sx_iconst d_X11_passes_46 ic1 ?_
    refine sx_iadd d_X11_passes_47 ?_
    refine sx_iast sh_276 d_X11_passes_48 (fun h11 => ?_)
    exact sx_vret rfl d_X11_passes_49
theorem d_X11_goesOn_0 : DC mi_X11_goesOn 0 (.iconst 0) 1 1 := ⟨by decide +kernel, rfl⟩
theorem d_X11_goesOn_1 : DC mi_X11_goesOn 1 (.istore_n 2) 1 2 := ⟨by decide +kernel, rfl⟩
theorem d_X11_goesOn_2 : DC mi_X11_goesOn 2 (.iload_n 2) 1 3 := ⟨by decide +kernel, rfl⟩
theorem d_X11_goesOn_3 : DC mi_X11_goesOn 3 (.iload_n 1) 1 4 := ⟨by decide +kernel, rfl⟩
theorem d_X11_goesOn_4 : DB mi_X11_goesOn 4 (.if_icmp .ge 15) 15 7 19 := ⟨by decide +kernel, rfl, by decide⟩
theorem d_X11_goesOn_7 : DC mi_X11_goesOn 7 (.aload_n 0) 1 8 := ⟨by decide +kernel, rfl⟩
theorem d_X11_goesOn_8 : DC mi_X11_goesOn 8 (.iconst 1) 1 9 := ⟨by decide +kernel, rfl⟩
theorem d_X11_goesOn_9 : DC mi_X11_goesOn 9 (.iconst 0) 1 10 := ⟨by decide +kernel, rfl⟩
theorem d_X11_goesOn_10 : DC mi_X11_goesOn 10 (.invokevirtual 433) 3 13 := ⟨by decide +kernel, rfl⟩
theorem d_X11_goesOn_13 : DC mi_X11_goesOn 13 (.iinc 2 1) 3 16 := ⟨by decide +kernel, rfl⟩
theorem d_X11_goesOn_16 : DB mi_X11_goesOn 16 (.goto (-14)) (-14) 19 2 := ⟨by decide +kernel, rfl, by decide⟩
theorem d_X11_goesOn_19 : DC mi_X11_goesOn 19 (.return_) 1 20 := ⟨by decide +kernel, rfl⟩
set_option maxHeartbeats 4000000 in
set_option maxRecDepth 100000 in
theorem sL_X11_goesOn_2 (d : Nat) (hd : 11 ≤ d) (c1 : Int32) : ∀ (n : Nat) (x2 : Int32) (h : HH), Sx mi_X11_goesOn d iU (g_X11_goesOn_L2 c1 n x2 h) 2 [(0, .ref 255), (1, .int c1), (2, .int x2)] [] h := by
  intro n
  induction n with
  | zero => intro x2 h; exact sx_none
  | succ n ih =>
    intro x2 h
    rw [g_X11_goesOn_L2]
    refine sx_iload_n d_X11_goesOn_2 2 rfl ?_
    refine sx_iload_n d_X11_goesOn_3 1 rfl ?_
    refine sx_icmp_ge d_X11_goesOn_4 ?_ ?_
    · refine sx_aload_n d_X11_goesOn_7 0 rfl ?_
      refine sx_iconst d_X11_goesOn_8 ic1 ?_
      refine sx_iconst d_X11_goesOn_9 ic0 ?_
      refine sx_callV [.int (1 : Int32), .int (0 : Int32)] mv_X11_passes lM_StairCountModel_433 sh_255 (by omega) rfl rfl (Nat.le_of_ble_eq_true rfl) d_X11_goesOn_10 (sp_X11_passes (d - 1) (by omega) (1 : Int32) (0 : Int32) h) (fun _ h1 => ?_)
      refine sx_iincV (lc' := fun v3 => [(2, .int v3), (0, .ref 255), (1, .int c1)]) (k0 := 2) d_X11_goesOn_13 rfl ii1 (by decide) (fun _ => rfl) (fun v3 => ?_)
      refine sx_goto d_X11_goesOn_16 ?_
      refine sx_lc (lc' := [(0, .ref 255), (1, .int c1), (2, .int v3)]) [1, 2, 0] rfl ?_
      exact ih v3 h1
    · exact sx_vret rfl d_X11_goesOn_19
set_option maxHeartbeats 4000000 in
set_option maxRecDepth 100000 in
theorem sp_X11_goesOn (d : Nat) (hd : 11 ≤ d) (a0 : Int32) (h : HH) : Sp mi_X11_goesOn d iU [.ref 255, .int a0] h (g_X11_goesOn a0 h) := by
  refine sp_of (lc := [(0, .ref 255), (1, .int a0)]) (by decide) (Nat.le_of_ble_eq_true rfl) rfl ?_
  unfold g_X11_goesOn
  refine sx_iconst d_X11_goesOn_0 ic0 ?_
  refine sx_istore_n (i := 2) (lc' := [(2, .int (0 : Int32)), (0, .ref 255), (1, .int a0)]) d_X11_goesOn_1 rfl (by decide) rfl ?_
  refine sx_lc (lc' := [(0, .ref 255), (1, .int a0), (2, .int (0 : Int32))]) [1, 2, 0] rfl ?_
  refine sL_X11_goesOn_2 d hd a0 1024 (0 : Int32) h
theorem d_X11_sumOf_0 : DC mi_X11_sumOf 0 (.iconst 0) 1 1 := ⟨by decide +kernel, rfl⟩
theorem d_X11_sumOf_1 : DC mi_X11_sumOf 1 (.istore_n 3) 1 2 := ⟨by decide +kernel, rfl⟩
theorem d_X11_sumOf_2 : DC mi_X11_sumOf 2 (.iconst 0) 1 3 := ⟨by decide +kernel, rfl⟩
theorem d_X11_sumOf_3 : DC mi_X11_sumOf 3 (.istore 4) 2 5 := ⟨by decide +kernel, rfl⟩
theorem d_X11_sumOf_5 : DC mi_X11_sumOf 5 (.iload 4) 2 7 := ⟨by decide +kernel, rfl⟩
theorem d_X11_sumOf_7 : DC mi_X11_sumOf 7 (.aload_n 0) 1 8 := ⟨by decide +kernel, rfl⟩
theorem d_X11_sumOf_8 : DC mi_X11_sumOf 8 (.getfield 13) 3 11 := ⟨by decide +kernel, rfl⟩
theorem d_X11_sumOf_11 : DC mi_X11_sumOf 11 (.iconst 1) 1 12 := ⟨by decide +kernel, rfl⟩
theorem d_X11_sumOf_12 : DC mi_X11_sumOf 12 (.iaload) 1 13 := ⟨by decide +kernel, rfl⟩
theorem d_X11_sumOf_13 : DB mi_X11_sumOf 13 (.if_icmp .ge 21) 21 16 34 := ⟨by decide +kernel, rfl, by decide⟩
theorem d_X11_sumOf_16 : DC mi_X11_sumOf 16 (.iload_n 3) 1 17 := ⟨by decide +kernel, rfl⟩
theorem d_X11_sumOf_17 : DC mi_X11_sumOf 17 (.aload_n 1) 1 18 := ⟨by decide +kernel, rfl⟩
theorem d_X11_sumOf_18 : DC mi_X11_sumOf 18 (.bipush 6) 2 20 := ⟨by decide +kernel, rfl⟩
theorem d_X11_sumOf_20 : DC mi_X11_sumOf 20 (.iload_n 2) 1 21 := ⟨by decide +kernel, rfl⟩
theorem d_X11_sumOf_21 : DC mi_X11_sumOf 21 (.imul) 1 22 := ⟨by decide +kernel, rfl⟩
theorem d_X11_sumOf_22 : DC mi_X11_sumOf 22 (.iload 4) 2 24 := ⟨by decide +kernel, rfl⟩
theorem d_X11_sumOf_24 : DC mi_X11_sumOf 24 (.iadd) 1 25 := ⟨by decide +kernel, rfl⟩
theorem d_X11_sumOf_25 : DC mi_X11_sumOf 25 (.iaload) 1 26 := ⟨by decide +kernel, rfl⟩
theorem d_X11_sumOf_26 : DC mi_X11_sumOf 26 (.iadd) 1 27 := ⟨by decide +kernel, rfl⟩
theorem d_X11_sumOf_27 : DC mi_X11_sumOf 27 (.istore_n 3) 1 28 := ⟨by decide +kernel, rfl⟩
theorem d_X11_sumOf_28 : DC mi_X11_sumOf 28 (.iinc 4 1) 3 31 := ⟨by decide +kernel, rfl⟩
theorem d_X11_sumOf_31 : DB mi_X11_sumOf 31 (.goto (-26)) (-26) 34 5 := ⟨by decide +kernel, rfl, by decide⟩
theorem d_X11_sumOf_34 : DC mi_X11_sumOf 34 (.iload_n 3) 1 35 := ⟨by decide +kernel, rfl⟩
theorem d_X11_sumOf_35 : DC mi_X11_sumOf 35 (.ireturn) 1 36 := ⟨by decide +kernel, rfl⟩
set_option maxHeartbeats 4000000 in
set_option maxRecDepth 100000 in
theorem sL_X11_sumOf_5 (d : Nat) (hd : 0 ≤ d) (b_a0 : Nat) (c2 : Int32) (e1 : shL[b_a0]? = some (.inr (0, 138, 0))) : ∀ (n : Nat) (x3 : Int32) (x4 : Int32) (h : HH), Sx mi_X11_sumOf d iI (g_X11_sumOf_L5 b_a0 c2 n x3 x4 h) 5 [(0, .ref 255), (1, .ref b_a0), (2, .int c2), (3, .int x3), (4, .int x4)] [] h := by
  intro n
  induction n with
  | zero => intro x3 x4 h; exact sx_none
  | succ n ih =>
    intro x3 x4 h
    rw [g_X11_sumOf_L5]
    refine sx_iload d_X11_sumOf_5 4 rfl ?_
    refine sx_aload_n d_X11_sumOf_7 0 rfl ?_
    refine sx_getF (a' := 257) fl_StairCountModel_13 sh_255 rfl rfl d_X11_sumOf_8 ?_
    refine sx_iconst d_X11_sumOf_11 ic1 ?_
    refine sx_iald sh_257 d_X11_sumOf_12 (fun v1 => ?_)
    refine sx_icmp_ge d_X11_sumOf_13 ?_ ?_
    · refine sx_iload_n d_X11_sumOf_16 3 rfl ?_
      refine sx_aload_n d_X11_sumOf_17 1 rfl ?_
      refine sx_bipush d_X11_sumOf_18 bc6 ?_
      refine sx_iload_n d_X11_sumOf_20 2 rfl ?_
      refine sx_imul d_X11_sumOf_21 ?_
      refine sx_iload d_X11_sumOf_22 4 rfl ?_
      refine sx_iadd d_X11_sumOf_24 ?_
      refine sx_iald e1 d_X11_sumOf_25 (fun v2 => ?_)
      refine sx_iadd d_X11_sumOf_26 ?_
      refine sx_vlI (fun v3 => ?_)
      refine sx_istore_n (i := 3) (lc' := [(3, .int v3), (0, .ref 255), (1, .ref b_a0), (2, .int c2), (4, .int x4)]) d_X11_sumOf_27 rfl (by decide) rfl ?_
      refine sx_iincV (lc' := fun v4 => [(4, .int v4), (3, .int v3), (0, .ref 255), (1, .ref b_a0), (2, .int c2)]) (k0 := 4) d_X11_sumOf_28 rfl ii1 (by decide) (fun _ => rfl) (fun v4 => ?_)
      refine sx_goto d_X11_sumOf_31 ?_
      refine sx_lc (lc' := [(0, .ref 255), (1, .ref b_a0), (2, .int c2), (3, .int v3), (4, .int v4)]) [2, 3, 4, 1, 0] rfl ?_
      exact ih v3 v4 h
    · refine sx_iload_n d_X11_sumOf_34 3 rfl ?_
      exact sx_iret rfl d_X11_sumOf_35
set_option maxHeartbeats 4000000 in
set_option maxRecDepth 100000 in
theorem sp_X11_sumOf (d : Nat) (hd : 0 ≤ d) (a0 : Nat) (a1 : Int32) (h : HH) : Sp mi_X11_sumOf d iI [.ref 255, .ref a0, .int a1] h (g_X11_sumOf a0 a1 h) := by
  refine sp_of (lc := [(0, .ref 255), (1, .ref a0), (2, .int a1)]) (by decide) (Nat.le_of_ble_eq_true rfl) rfl ?_
  unfold g_X11_sumOf
  refine sx_ckH (fun ha0 => ?_)
  refine sx_iconst d_X11_sumOf_0 ic0 ?_
  refine sx_istore_n (i := 3) (lc' := [(3, .int (0 : Int32)), (0, .ref 255), (1, .ref a0), (2, .int a1)]) d_X11_sumOf_1 rfl (by decide) rfl ?_
  refine sx_iconst d_X11_sumOf_2 ic0 ?_
  refine sx_istore (i := 4) (lc' := [(4, .int (0 : Int32)), (3, .int (0 : Int32)), (0, .ref 255), (1, .ref a0), (2, .int a1)]) d_X11_sumOf_3 (by decide) rfl ?_
  refine sx_lc (lc' := [(0, .ref 255), (1, .ref a0), (2, .int a1), (3, .int (0 : Int32)), (4, .int (0 : Int32))]) [2, 3, 4, 1, 0] rfl ?_
  refine sL_X11_sumOf_5 d hd a0 a1 (ha0) 1024 (0 : Int32) (0 : Int32) h
theorem d_X11_entries_0 : DC mi_X11_entries 0 (.iconst 0) 1 1 := ⟨by decide +kernel, rfl⟩
theorem d_X11_entries_1 : DC mi_X11_entries 1 (.istore_n 2) 1 2 := ⟨by decide +kernel, rfl⟩
theorem d_X11_entries_2 : DC mi_X11_entries 2 (.iconst 0) 1 3 := ⟨by decide +kernel, rfl⟩
theorem d_X11_entries_3 : DC mi_X11_entries 3 (.istore_n 3) 1 4 := ⟨by decide +kernel, rfl⟩
theorem d_X11_entries_4 : DC mi_X11_entries 4 (.iload_n 3) 1 5 := ⟨by decide +kernel, rfl⟩
theorem d_X11_entries_5 : DC mi_X11_entries 5 (.bipush 36) 2 7 := ⟨by decide +kernel, rfl⟩
theorem d_X11_entries_7 : DB mi_X11_entries 7 (.if_icmp .ge 31) 31 10 38 := ⟨by decide +kernel, rfl, by decide⟩
theorem d_X11_entries_10 : DC mi_X11_entries 10 (.iload_n 2) 1 11 := ⟨by decide +kernel, rfl⟩
theorem d_X11_entries_11 : DC mi_X11_entries 11 (.aload_n 0) 1 12 := ⟨by decide +kernel, rfl⟩
theorem d_X11_entries_12 : DC mi_X11_entries 12 (.getfield 93) 3 15 := ⟨by decide +kernel, rfl⟩
theorem d_X11_entries_15 : DC mi_X11_entries 15 (.bipush 36) 2 17 := ⟨by decide +kernel, rfl⟩
theorem d_X11_entries_17 : DC mi_X11_entries 17 (.iload_n 1) 1 18 := ⟨by decide +kernel, rfl⟩
theorem d_X11_entries_18 : DC mi_X11_entries 18 (.imul) 1 19 := ⟨by decide +kernel, rfl⟩
theorem d_X11_entries_19 : DC mi_X11_entries 19 (.iload_n 3) 1 20 := ⟨by decide +kernel, rfl⟩
theorem d_X11_entries_20 : DC mi_X11_entries 20 (.iadd) 1 21 := ⟨by decide +kernel, rfl⟩
theorem d_X11_entries_21 : DC mi_X11_entries 21 (.iaload) 1 22 := ⟨by decide +kernel, rfl⟩
theorem d_X11_entries_22 : DB mi_X11_entries 22 (.ifCond .eq 7) 7 25 29 := ⟨by decide +kernel, rfl, by decide⟩
theorem d_X11_entries_25 : DC mi_X11_entries 25 (.iconst 1) 1 26 := ⟨by decide +kernel, rfl⟩
theorem d_X11_entries_26 : DB mi_X11_entries 26 (.goto 4) 4 29 30 := ⟨by decide +kernel, rfl, by decide⟩
theorem d_X11_entries_29 : DC mi_X11_entries 29 (.iconst 0) 1 30 := ⟨by decide +kernel, rfl⟩
theorem d_X11_entries_30 : DC mi_X11_entries 30 (.iadd) 1 31 := ⟨by decide +kernel, rfl⟩
theorem d_X11_entries_31 : DC mi_X11_entries 31 (.istore_n 2) 1 32 := ⟨by decide +kernel, rfl⟩
theorem d_X11_entries_32 : DC mi_X11_entries 32 (.iinc 3 1) 3 35 := ⟨by decide +kernel, rfl⟩
theorem d_X11_entries_35 : DB mi_X11_entries 35 (.goto (-31)) (-31) 38 4 := ⟨by decide +kernel, rfl, by decide⟩
theorem d_X11_entries_38 : DC mi_X11_entries 38 (.iload_n 2) 1 39 := ⟨by decide +kernel, rfl⟩
theorem d_X11_entries_39 : DC mi_X11_entries 39 (.ireturn) 1 40 := ⟨by decide +kernel, rfl⟩
set_option maxHeartbeats 4000000 in
set_option maxRecDepth 100000 in
theorem sL_X11_entries_4 (d : Nat) (hd : 0 ≤ d) (c1 : Int32) : ∀ (n : Nat) (x2 : Int32) (x3 : Int32) (h : HH), Sx mi_X11_entries d iI (g_X11_entries_L4 c1 n x2 x3 h) 4 [(0, .ref 255), (1, .int c1), (2, .int x2), (3, .int x3)] [] h := by
  intro n
  induction n with
  | zero => intro x2 x3 h; exact sx_none
  | succ n ih =>
    intro x2 x3 h
    rw [g_X11_entries_L4]
    refine sx_iload_n d_X11_entries_4 3 rfl ?_
    refine sx_bipush d_X11_entries_5 bc36 ?_
    refine sx_icmp_ge d_X11_entries_7 ?_ ?_
    · refine sx_iload_n d_X11_entries_10 2 rfl ?_
      refine sx_aload_n d_X11_entries_11 0 rfl ?_
      refine sx_getF (a' := 282) fl_StairCountModel_93 sh_255 rfl rfl d_X11_entries_12 ?_
      refine sx_bipush d_X11_entries_15 bc36 ?_
      refine sx_iload_n d_X11_entries_17 1 rfl ?_
      refine sx_imul d_X11_entries_18 ?_
      refine sx_iload_n d_X11_entries_19 3 rfl ?_
      refine sx_iadd d_X11_entries_20 ?_
      refine sx_iald sh_282 d_X11_entries_21 (fun v1 => ?_)
      refine sx_jn (fun j => ∀ (y5 : Int32) (h : HH), Sx mi_X11_entries d iI (j y5 h) 30 [(0, .ref 255), (1, .int c1), (3, .int x3)] [.int y5, .int x2] h) ?_ ?_
      · intro y5 h4
        refine sx_iadd d_X11_entries_30 ?_
        refine sx_vlI (fun v6 => ?_)
        refine sx_istore_n (i := 2) (lc' := [(2, .int v6), (0, .ref 255), (1, .int c1), (3, .int x3)]) d_X11_entries_31 rfl (by decide) rfl ?_
        refine sx_iincV (lc' := fun v7 => [(3, .int v7), (2, .int v6), (0, .ref 255), (1, .int c1)]) (k0 := 3) d_X11_entries_32 rfl ii1 (by decide) (fun _ => rfl) (fun v7 => ?_)
        refine sx_goto d_X11_entries_35 ?_
        refine sx_lc (lc' := [(0, .ref 255), (1, .int c1), (2, .int v6), (3, .int v7)]) [2, 3, 1, 0] rfl ?_
        exact ih v6 v7 h4
      · intro j2 k3
        refine sx_if_eq d_X11_entries_22 ?_ ?_
        · refine sx_iconst d_X11_entries_29 ic0 ?_
          refine sx_lc (lc' := [(0, .ref 255), (1, .int c1), (3, .int x3)]) [0, 1, 3] rfl ?_
          exact k3 (0 : Int32) h
        · refine sx_iconst d_X11_entries_25 ic1 ?_
          refine sx_goto d_X11_entries_26 ?_
          refine sx_lc (lc' := [(0, .ref 255), (1, .int c1), (3, .int x3)]) [0, 1, 3] rfl ?_
          exact k3 (1 : Int32) h
    · refine sx_iload_n d_X11_entries_38 2 rfl ?_
      exact sx_iret rfl d_X11_entries_39
set_option maxHeartbeats 4000000 in
set_option maxRecDepth 100000 in
theorem sp_X11_entries (d : Nat) (hd : 0 ≤ d) (a0 : Int32) (h : HH) : Sp mi_X11_entries d iI [.ref 255, .int a0] h (g_X11_entries a0 h) := by
  refine sp_of (lc := [(0, .ref 255), (1, .int a0)]) (by decide) (Nat.le_of_ble_eq_true rfl) rfl ?_
  unfold g_X11_entries
  refine sx_iconst d_X11_entries_0 ic0 ?_
  refine sx_istore_n (i := 2) (lc' := [(2, .int (0 : Int32)), (0, .ref 255), (1, .int a0)]) d_X11_entries_1 rfl (by decide) rfl ?_
  refine sx_iconst d_X11_entries_2 ic0 ?_
  refine sx_istore_n (i := 3) (lc' := [(3, .int (0 : Int32)), (2, .int (0 : Int32)), (0, .ref 255), (1, .int a0)]) d_X11_entries_3 rfl (by decide) rfl ?_
  refine sx_lc (lc' := [(0, .ref 255), (1, .int a0), (2, .int (0 : Int32)), (3, .int (0 : Int32))]) [2, 3, 1, 0] rfl ?_
  refine sL_X11_entries_4 d hd a0 1024 (0 : Int32) (0 : Int32) h
theorem d_X11_person_0 : DC mi_X11_person 0 (.aload_n 0) 1 1 := ⟨by decide +kernel, rfl⟩
theorem d_X11_person_1 : DC mi_X11_person 1 (.aload_n 0) 1 2 := ⟨by decide +kernel, rfl⟩
theorem d_X11_person_2 : DC mi_X11_person 2 (.iload_n 1) 1 3 := ⟨by decide +kernel, rfl⟩
theorem d_X11_person_3 : DC mi_X11_person 3 (.invokevirtual 346) 3 6 := ⟨by decide +kernel, rfl⟩
theorem d_X11_person_6 : DB mi_X11_person 6 (.ifCond .ne 7) 7 9 13 := ⟨by decide +kernel, rfl, by decide⟩
theorem d_X11_person_9 : DC mi_X11_person 9 (.iconst 1) 1 10 := ⟨by decide +kernel, rfl⟩
theorem d_X11_person_10 : DB mi_X11_person 10 (.goto 17) 17 13 27 := ⟨by decide +kernel, rfl, by decide⟩
theorem d_X11_person_13 : DC mi_X11_person 13 (.iload_n 2) 1 14 := ⟨by decide +kernel, rfl⟩
theorem d_X11_person_14 : DB mi_X11_person 14 (.ifCond .lt 8) 8 17 22 := ⟨by decide +kernel, rfl, by decide⟩
theorem d_X11_person_17 : DC mi_X11_person 17 (.iload_n 2) 1 18 := ⟨by decide +kernel, rfl⟩
theorem d_X11_person_18 : DC mi_X11_person 18 (.iconst 4) 1 19 := ⟨by decide +kernel, rfl⟩
theorem d_X11_person_19 : DB mi_X11_person 19 (.if_icmp .le 7) 7 22 26 := ⟨by decide +kernel, rfl, by decide⟩
theorem d_X11_person_22 : DC mi_X11_person 22 (.iconst 2) 1 23 := ⟨by decide +kernel, rfl⟩
theorem d_X11_person_23 : DB mi_X11_person 23 (.goto 4) 4 26 27 := ⟨by decide +kernel, rfl, by decide⟩
theorem d_X11_person_26 : DC mi_X11_person 26 (.iconst 0) 1 27 := ⟨by decide +kernel, rfl⟩
theorem d_X11_person_27 : DC mi_X11_person 27 (.putfield 148) 3 30 := ⟨by decide +kernel, rfl⟩
theorem d_X11_person_30 : DC mi_X11_person 30 (.aload_n 0) 1 31 := ⟨by decide +kernel, rfl⟩
theorem d_X11_person_31 : DC mi_X11_person 31 (.getfield 148) 3 34 := ⟨by decide +kernel, rfl⟩
theorem d_X11_person_34 : DB mi_X11_person 34 (.ifCond .eq 5) 5 37 39 := ⟨by decide +kernel, rfl, by decide⟩
theorem d_X11_person_37 : DC mi_X11_person 37 (.iconst 0) 1 38 := ⟨by decide +kernel, rfl⟩
theorem d_X11_person_38 : DC mi_X11_person 38 (.ireturn) 1 39 := ⟨by decide +kernel, rfl⟩
theorem d_X11_person_39 : DC mi_X11_person 39 (.iload_n 2) 1 40 := ⟨by decide +kernel, rfl⟩
theorem d_X11_person_40 : DW mi_X11_person 40 (.tableswitch 60 0 3 #[32, 39, 46, 53]) := ⟨32, by decide +kernel⟩
theorem d_X11_person_72 : DC mi_X11_person 72 (.aload_n 0) 1 73 := ⟨by decide +kernel, rfl⟩
theorem d_X11_person_73 : DC mi_X11_person 73 (.getfield 81) 3 76 := ⟨by decide +kernel, rfl⟩
theorem d_X11_person_76 : DC mi_X11_person 76 (.iload_n 1) 1 77 := ⟨by decide +kernel, rfl⟩
theorem d_X11_person_77 : DC mi_X11_person 77 (.iaload) 1 78 := ⟨by decide +kernel, rfl⟩
theorem d_X11_person_78 : DC mi_X11_person 78 (.ireturn) 1 79 := ⟨by decide +kernel, rfl⟩
theorem d_X11_person_79 : DC mi_X11_person 79 (.aload_n 0) 1 80 := ⟨by decide +kernel, rfl⟩
theorem d_X11_person_80 : DC mi_X11_person 80 (.getfield 25) 3 83 := ⟨by decide +kernel, rfl⟩
theorem d_X11_person_83 : DC mi_X11_person 83 (.iload_n 1) 1 84 := ⟨by decide +kernel, rfl⟩
theorem d_X11_person_84 : DC mi_X11_person 84 (.iaload) 1 85 := ⟨by decide +kernel, rfl⟩
theorem d_X11_person_85 : DC mi_X11_person 85 (.ireturn) 1 86 := ⟨by decide +kernel, rfl⟩
theorem d_X11_person_86 : DC mi_X11_person 86 (.aload_n 0) 1 87 := ⟨by decide +kernel, rfl⟩
theorem d_X11_person_87 : DC mi_X11_person 87 (.getfield 84) 3 90 := ⟨by decide +kernel, rfl⟩
theorem d_X11_person_90 : DC mi_X11_person 90 (.iload_n 1) 1 91 := ⟨by decide +kernel, rfl⟩
theorem d_X11_person_91 : DC mi_X11_person 91 (.iaload) 1 92 := ⟨by decide +kernel, rfl⟩
theorem d_X11_person_92 : DC mi_X11_person 92 (.ireturn) 1 93 := ⟨by decide +kernel, rfl⟩
theorem d_X11_person_93 : DC mi_X11_person 93 (.aload_n 0) 1 94 := ⟨by decide +kernel, rfl⟩
theorem d_X11_person_94 : DC mi_X11_person 94 (.getfield 87) 3 97 := ⟨by decide +kernel, rfl⟩
theorem d_X11_person_97 : DC mi_X11_person 97 (.iload_n 1) 1 98 := ⟨by decide +kernel, rfl⟩
theorem d_X11_person_98 : DC mi_X11_person 98 (.iaload) 1 99 := ⟨by decide +kernel, rfl⟩
theorem d_X11_person_99 : DC mi_X11_person 99 (.ireturn) 1 100 := ⟨by decide +kernel, rfl⟩
theorem d_X11_person_100 : DC mi_X11_person 100 (.aload_n 0) 1 101 := ⟨by decide +kernel, rfl⟩
theorem d_X11_person_101 : DC mi_X11_person 101 (.getfield 90) 3 104 := ⟨by decide +kernel, rfl⟩
theorem d_X11_person_104 : DC mi_X11_person 104 (.iload_n 1) 1 105 := ⟨by decide +kernel, rfl⟩
theorem d_X11_person_105 : DC mi_X11_person 105 (.iaload) 1 106 := ⟨by decide +kernel, rfl⟩
theorem d_X11_person_106 : DC mi_X11_person 106 (.ireturn) 1 107 := ⟨by decide +kernel, rfl⟩
set_option maxHeartbeats 4000000 in
set_option maxRecDepth 100000 in
theorem sp_X11_person (d : Nat) (hd : 1 ≤ d) (a0 : Int32) (a1 : Int32) (h : HH) : Sp mi_X11_person d iI [.ref 255, .int a0, .int a1] h (g_X11_person a0 a1 h) := by
  refine sp_of (lc := [(0, .ref 255), (1, .int a0), (2, .int a1)]) (by decide) (Nat.le_of_ble_eq_true rfl) rfl ?_
  unfold g_X11_person
  refine sx_aload_n d_X11_person_0 0 rfl ?_
  refine sx_aload_n d_X11_person_1 0 rfl ?_
  refine sx_iload_n d_X11_person_2 1 rfl ?_
  refine sx_callV [.int a0] mv_X11_isPerson lM_StairCountModel_346 sh_255 (by omega) rfl rfl (Nat.le_of_ble_eq_true rfl) d_X11_person_3 (sp_X11_isPerson (d - 1) (by omega) a0 h) (fun r2 h1 => ?_)
  refine sx_jn (fun j => ∀ (y6 : Int32) (h : HH), Sx mi_X11_person d iI (j y6 h) 27 [(0, .ref 255), (1, .int a0), (2, .int a1)] [.int y6, .ref 255] h) ?_ ?_
  · intro y6 h5
    refine sx_putI fl_StairCountModel_148 sh_255 rfl hty_11_0 d_X11_person_27 (fun h7 => ?_)
    refine sx_aload_n d_X11_person_30 0 rfl ?_
    refine sx_getI fl_StairCountModel_148 sh_255 rfl d_X11_person_31 (fun v8 => ?_)
    refine sx_if_eq d_X11_person_34 ?_ ?_
    · refine sx_iload_n d_X11_person_39 2 rfl ?_
      refine sx_if (fun e9 => ?_) (fun e9 => ?_)
      · refine sx_tsIn (off := 32) (t := 72) d_X11_person_40 (by rw [e9] <;> decide) (by rw [e9] <;> decide) (by rw [e9] <;> decide) (by decide) ?_
        refine sx_aload_n d_X11_person_72 0 rfl ?_
        refine sx_getF (a' := 278) fl_StairCountModel_81 sh_255 rfl rfl d_X11_person_73 ?_
        refine sx_iload_n d_X11_person_76 1 rfl ?_
        refine sx_iald sh_278 d_X11_person_77 (fun v10 => ?_)
        exact sx_iret rfl d_X11_person_78
      · refine sx_if (fun e11 => ?_) (fun e11 => ?_)
        · refine sx_tsIn (off := 39) (t := 79) d_X11_person_40 (by rw [e11] <;> decide) (by rw [e11] <;> decide) (by rw [e11] <;> decide) (by decide) ?_
          refine sx_aload_n d_X11_person_79 0 rfl ?_
          refine sx_getF (a' := 261) fl_StairCountModel_25 sh_255 rfl rfl d_X11_person_80 ?_
          refine sx_iload_n d_X11_person_83 1 rfl ?_
          refine sx_iald sh_261 d_X11_person_84 (fun v12 => ?_)
          exact sx_iret rfl d_X11_person_85
        · refine sx_if (fun e13 => ?_) (fun e13 => ?_)
          · refine sx_tsIn (off := 46) (t := 86) d_X11_person_40 (by rw [e13] <;> decide) (by rw [e13] <;> decide) (by rw [e13] <;> decide) (by decide) ?_
            refine sx_aload_n d_X11_person_86 0 rfl ?_
            refine sx_getF (a' := 279) fl_StairCountModel_84 sh_255 rfl rfl d_X11_person_87 ?_
            refine sx_iload_n d_X11_person_90 1 rfl ?_
            refine sx_iald sh_279 d_X11_person_91 (fun v14 => ?_)
            exact sx_iret rfl d_X11_person_92
          · refine sx_if (fun e15 => ?_) (fun e15 => ?_)
            · refine sx_tsIn (off := 53) (t := 93) d_X11_person_40 (by rw [e15] <;> decide) (by rw [e15] <;> decide) (by rw [e15] <;> decide) (by decide) ?_
              refine sx_aload_n d_X11_person_93 0 rfl ?_
              refine sx_getF (a' := 280) fl_StairCountModel_87 sh_255 rfl rfl d_X11_person_94 ?_
              refine sx_iload_n d_X11_person_97 1 rfl ?_
              refine sx_iald sh_280 d_X11_person_98 (fun v16 => ?_)
              exact sx_iret rfl d_X11_person_99
            · have q0 := ne_toInt (x := a1) (c := (0 : Int32)) (k := 0) e9 ti0
              have q1 := ne_toInt (x := a1) (c := (1 : Int32)) (k := 1) e11 ti1
              have q2 := ne_toInt (x := a1) (c := (2 : Int32)) (k := 2) e13 ti2
              have q3 := ne_toInt (x := a1) (c := (3 : Int32)) (k := 3) e15 ti3
              refine sx_tsOut (t := 100) d_X11_person_40 (by omega) (by decide) ?_
              refine sx_aload_n d_X11_person_100 0 rfl ?_
              refine sx_getF (a' := 281) fl_StairCountModel_90 sh_255 rfl rfl d_X11_person_101 ?_
              refine sx_iload_n d_X11_person_104 1 rfl ?_
              refine sx_iald sh_281 d_X11_person_105 (fun v17 => ?_)
              exact sx_iret rfl d_X11_person_106
    · refine sx_iconst d_X11_person_37 ic0 ?_
      exact sx_iret rfl d_X11_person_38
  · intro j3 k4
    refine sx_if_ne d_X11_person_6 ?_ ?_
    · refine sx_iconst d_X11_person_9 ic1 ?_
      refine sx_goto d_X11_person_10 ?_
      exact k4 (1 : Int32) h1
    · refine sx_iload_n d_X11_person_13 2 rfl ?_
      refine sx_jn (fun j => ∀  (h : HH), Sx mi_X11_person d iI (j  h) 22 [(0, .ref 255), (1, .int a0), (2, .int a1)] [.ref 255] h) ?_ ?_
      · intro  h20
        refine sx_iconst d_X11_person_22 ic2 ?_
        refine sx_goto d_X11_person_23 ?_
        exact k4 (2 : Int32) h20
      · intro j18 k19
        refine sx_if_lt d_X11_person_14 ?_ ?_
        · exact k19 h1
        · refine sx_iload_n d_X11_person_17 2 rfl ?_
          refine sx_iconst d_X11_person_18 ic4 ?_
          refine sx_icmp_le d_X11_person_19 ?_ ?_
          · exact k19 h1
          · refine sx_iconst d_X11_person_26 ic0 ?_
            exact k4 (0 : Int32) h1
theorem d_X11_tally_0 : DC mi_X11_tally 0 (.aload_n 0) 1 1 := ⟨by decide +kernel, rfl⟩
theorem d_X11_tally_1 : DC mi_X11_tally 1 (.iconst 0) 1 2 := ⟨by decide +kernel, rfl⟩
theorem d_X11_tally_2 : DC mi_X11_tally 2 (.putfield 148) 3 5 := ⟨by decide +kernel, rfl⟩
theorem d_X11_tally_5 : DC mi_X11_tally 5 (.aload_n 0) 1 6 := ⟨by decide +kernel, rfl⟩
theorem d_X11_tally_6 : DC mi_X11_tally 6 (.iload_n 1) 1 7 := ⟨by decide +kernel, rfl⟩
theorem d_X11_tally_7 : DC mi_X11_tally 7 (.iload_n 2) 1 8 := ⟨by decide +kernel, rfl⟩
theorem d_X11_tally_8 : DC mi_X11_tally 8 (.invokevirtual 437) 3 11 := ⟨by decide +kernel, rfl⟩
theorem d_X11_tally_11 : DB mi_X11_tally 11 (.ifCond .eq 13) 13 14 24 := ⟨by decide +kernel, rfl, by decide⟩
theorem d_X11_tally_14 : DC mi_X11_tally 14 (.aload_n 0) 1 15 := ⟨by decide +kernel, rfl⟩
theorem d_X11_tally_15 : DC mi_X11_tally 15 (.iconst 0) 1 16 := ⟨by decide +kernel, rfl⟩
theorem d_X11_tally_16 : DC mi_X11_tally 16 (.iload_n 1) 1 17 := ⟨by decide +kernel, rfl⟩
theorem d_X11_tally_17 : DC mi_X11_tally 17 (.iload_n 2) 1 18 := ⟨by decide +kernel, rfl⟩
theorem d_X11_tally_18 : DC mi_X11_tally 18 (.invokevirtual 355) 3 21 := ⟨by decide +kernel, rfl⟩
theorem d_X11_tally_21 : DB mi_X11_tally 21 (.goto 6) 6 24 27 := ⟨by decide +kernel, rfl, by decide⟩
theorem d_X11_tally_24 : DC mi_X11_tally 24 (.ldc_w 440) 3 27 := ⟨by decide +kernel, rfl⟩
theorem d_X11_tally_27 : DC mi_X11_tally 27 (.ireturn) 1 28 := ⟨by decide +kernel, rfl⟩
set_option maxHeartbeats 4000000 in
set_option maxRecDepth 100000 in
theorem sp_X11_tally (d : Nat) (hd : 2 ≤ d) (a0 : Int32) (a1 : Int32) (h : HH) : Sp mi_X11_tally d iI [.ref 255, .int a0, .int a1] h (g_X11_tally a0 a1 h) := by
  refine sp_of (lc := [(0, .ref 255), (1, .int a0), (2, .int a1)]) (by decide) (Nat.le_of_ble_eq_true rfl) rfl ?_
  unfold g_X11_tally
  refine sx_aload_n d_X11_tally_0 0 rfl ?_
  refine sx_iconst d_X11_tally_1 ic0 ?_
  refine sx_putI fl_StairCountModel_148 sh_255 rfl hty_11_0 d_X11_tally_2 (fun h1 => ?_)
  refine sx_aload_n d_X11_tally_5 0 rfl ?_
  refine sx_iload_n d_X11_tally_6 1 rfl ?_
  refine sx_iload_n d_X11_tally_7 2 rfl ?_
  refine sx_callV [.int a0, .int a1] mv_X11_areOf lM_StairCountModel_437 sh_255 (by omega) rfl rfl (Nat.le_of_ble_eq_true rfl) d_X11_tally_8 (sp_X11_areOf (d - 1) (by omega) a0 a1 h1) (fun r3 h2 => ?_)
  refine sx_if_eq d_X11_tally_11 ?_ ?_
  · refine sx_ldcw d_X11_tally_24 lK_StairCountModel_440 ?_
    exact sx_iret rfl d_X11_tally_27
  · refine sx_aload_n d_X11_tally_14 0 rfl ?_
    refine sx_iconst d_X11_tally_15 ic0 ?_
    refine sx_iload_n d_X11_tally_16 1 rfl ?_
    refine sx_iload_n d_X11_tally_17 2 rfl ?_
    refine sx_callV [.int (0 : Int32), .int a0, .int a1] mv_X11_tallyAt lM_StairCountModel_355 sh_255 (by omega) rfl rfl (Nat.le_of_ble_eq_true rfl) d_X11_tally_18 (sp_X11_tallyAt (d - 1) (by omega) (0 : Int32) a0 a1 h2) (fun r5 h4 => ?_)
    refine sx_goto d_X11_tally_21 ?_
    exact sx_iret rfl d_X11_tally_27
theorem d_X11_steep_0 : DC mi_X11_steep 0 (.aload_n 0) 1 1 := ⟨by decide +kernel, rfl⟩
theorem d_X11_steep_1 : DC mi_X11_steep 1 (.iconst 0) 1 2 := ⟨by decide +kernel, rfl⟩
theorem d_X11_steep_2 : DC mi_X11_steep 2 (.putfield 148) 3 5 := ⟨by decide +kernel, rfl⟩
theorem d_X11_steep_5 : DC mi_X11_steep 5 (.aload_n 0) 1 6 := ⟨by decide +kernel, rfl⟩
theorem d_X11_steep_6 : DC mi_X11_steep 6 (.iload_n 1) 1 7 := ⟨by decide +kernel, rfl⟩
theorem d_X11_steep_7 : DC mi_X11_steep 7 (.iload_n 2) 1 8 := ⟨by decide +kernel, rfl⟩
theorem d_X11_steep_8 : DC mi_X11_steep 8 (.invokevirtual 437) 3 11 := ⟨by decide +kernel, rfl⟩
theorem d_X11_steep_11 : DB mi_X11_steep 11 (.ifCond .eq 13) 13 14 24 := ⟨by decide +kernel, rfl, by decide⟩
theorem d_X11_steep_14 : DC mi_X11_steep 14 (.aload_n 0) 1 15 := ⟨by decide +kernel, rfl⟩
theorem d_X11_steep_15 : DC mi_X11_steep 15 (.iconst 0) 1 16 := ⟨by decide +kernel, rfl⟩
theorem d_X11_steep_16 : DC mi_X11_steep 16 (.iload_n 1) 1 17 := ⟨by decide +kernel, rfl⟩
theorem d_X11_steep_17 : DC mi_X11_steep 17 (.iload_n 2) 1 18 := ⟨by decide +kernel, rfl⟩
theorem d_X11_steep_18 : DC mi_X11_steep 18 (.invokevirtual 389) 3 21 := ⟨by decide +kernel, rfl⟩
theorem d_X11_steep_21 : DB mi_X11_steep 21 (.goto 6) 6 24 27 := ⟨by decide +kernel, rfl, by decide⟩
theorem d_X11_steep_24 : DC mi_X11_steep 24 (.ldc_w 440) 3 27 := ⟨by decide +kernel, rfl⟩
theorem d_X11_steep_27 : DC mi_X11_steep 27 (.ireturn) 1 28 := ⟨by decide +kernel, rfl⟩
set_option maxHeartbeats 4000000 in
set_option maxRecDepth 100000 in
theorem sp_X11_steep (d : Nat) (hd : 6 ≤ d) (a0 : Int32) (a1 : Int32) (h : HH) : Sp mi_X11_steep d iI [.ref 255, .int a0, .int a1] h (g_X11_steep a0 a1 h) := by
  refine sp_of (lc := [(0, .ref 255), (1, .int a0), (2, .int a1)]) (by decide) (Nat.le_of_ble_eq_true rfl) rfl ?_
  unfold g_X11_steep
  refine sx_aload_n d_X11_steep_0 0 rfl ?_
  refine sx_iconst d_X11_steep_1 ic0 ?_
  refine sx_putI fl_StairCountModel_148 sh_255 rfl hty_11_0 d_X11_steep_2 (fun h1 => ?_)
  refine sx_aload_n d_X11_steep_5 0 rfl ?_
  refine sx_iload_n d_X11_steep_6 1 rfl ?_
  refine sx_iload_n d_X11_steep_7 2 rfl ?_
  refine sx_callV [.int a0, .int a1] mv_X11_areOf lM_StairCountModel_437 sh_255 (by omega) rfl rfl (Nat.le_of_ble_eq_true rfl) d_X11_steep_8 (sp_X11_areOf (d - 1) (by omega) a0 a1 h1) (fun r3 h2 => ?_)
  refine sx_if_eq d_X11_steep_11 ?_ ?_
  · refine sx_ldcw d_X11_steep_24 lK_StairCountModel_440 ?_
    exact sx_iret rfl d_X11_steep_27
  · refine sx_aload_n d_X11_steep_14 0 rfl ?_
    refine sx_iconst d_X11_steep_15 ic0 ?_
    refine sx_iload_n d_X11_steep_16 1 rfl ?_
    refine sx_iload_n d_X11_steep_17 2 rfl ?_
    refine sx_callV [.int (0 : Int32), .int a0, .int a1] mv_X11_steepOf lM_StairCountModel_389 sh_255 (by omega) rfl rfl (Nat.le_of_ble_eq_true rfl) d_X11_steep_18 (sp_X11_steepOf (d - 1) (by omega) (0 : Int32) a0 a1 h2) (fun r5 h4 => ?_)
    refine sx_goto d_X11_steep_21 ?_
    exact sx_iret rfl d_X11_steep_27
theorem d_X11_outward_0 : DC mi_X11_outward 0 (.bipush 10) 2 2 := ⟨by decide +kernel, rfl⟩
theorem d_X11_outward_2 : DC mi_X11_outward 2 (.iload_n 0) 1 3 := ⟨by decide +kernel, rfl⟩
theorem d_X11_outward_3 : DC mi_X11_outward 3 (.bipush 6) 2 5 := ⟨by decide +kernel, rfl⟩
theorem d_X11_outward_5 : DC mi_X11_outward 5 (.idiv) 1 6 := ⟨by decide +kernel, rfl⟩
theorem d_X11_outward_6 : DC mi_X11_outward 6 (.imul) 1 7 := ⟨by decide +kernel, rfl⟩
theorem d_X11_outward_7 : DC mi_X11_outward 7 (.iload_n 0) 1 8 := ⟨by decide +kernel, rfl⟩
theorem d_X11_outward_8 : DC mi_X11_outward 8 (.bipush 6) 2 10 := ⟨by decide +kernel, rfl⟩
theorem d_X11_outward_10 : DC mi_X11_outward 10 (.irem) 1 11 := ⟨by decide +kernel, rfl⟩
theorem d_X11_outward_11 : DC mi_X11_outward 11 (.iadd) 1 12 := ⟨by decide +kernel, rfl⟩
theorem d_X11_outward_12 : DC mi_X11_outward 12 (.ireturn) 1 13 := ⟨by decide +kernel, rfl⟩
set_option maxHeartbeats 4000000 in
set_option maxRecDepth 100000 in
theorem sp_X11_outward (d : Nat) (hd : 0 ≤ d) (a0 : Int32) (h : HH) : Sp mi_X11_outward d iI [.int a0] h (g_X11_outward a0 h) := by
  refine sp_of (lc := [(0, .int a0)]) (by decide) (Nat.le_of_ble_eq_true rfl) rfl ?_
  unfold g_X11_outward
  refine sx_bipush d_X11_outward_0 bc10 ?_
  refine sx_iload_n d_X11_outward_2 0 rfl ?_
  refine sx_bipush d_X11_outward_3 bc6 ?_
  refine sx_idiv d_X11_outward_5 (fun v1 => ?_)
  refine sx_imul d_X11_outward_6 ?_
  refine sx_iload_n d_X11_outward_7 0 rfl ?_
  refine sx_bipush d_X11_outward_8 bc6 ?_
  refine sx_irem d_X11_outward_10 (fun v2 => ?_)
  refine sx_iadd d_X11_outward_11 ?_
  exact sx_iret rfl d_X11_outward_12
theorem d_X11_entry_0 : DC mi_X11_entry 0 (.aload_n 0) 1 1 := ⟨by decide +kernel, rfl⟩
theorem d_X11_entry_1 : DC mi_X11_entry 1 (.iconst 0) 1 2 := ⟨by decide +kernel, rfl⟩
theorem d_X11_entry_2 : DC mi_X11_entry 2 (.putfield 148) 3 5 := ⟨by decide +kernel, rfl⟩
theorem d_X11_entry_5 : DC mi_X11_entry 5 (.iload_n 1) 1 6 := ⟨by decide +kernel, rfl⟩
theorem d_X11_entry_6 : DB mi_X11_entry 6 (.ifCond .ge 5) 5 9 11 := ⟨by decide +kernel, rfl, by decide⟩
theorem d_X11_entry_9 : DC mi_X11_entry 9 (.iconst (-1)) 1 10 := ⟨by decide +kernel, rfl⟩
theorem d_X11_entry_10 : DC mi_X11_entry 10 (.ireturn) 1 11 := ⟨by decide +kernel, rfl⟩
theorem d_X11_entry_11 : DC mi_X11_entry 11 (.iload_n 1) 1 12 := ⟨by decide +kernel, rfl⟩
theorem d_X11_entry_12 : DC mi_X11_entry 12 (.istore_n 2) 1 13 := ⟨by decide +kernel, rfl⟩
theorem d_X11_entry_13 : DC mi_X11_entry 13 (.iconst 0) 1 14 := ⟨by decide +kernel, rfl⟩
theorem d_X11_entry_14 : DC mi_X11_entry 14 (.istore_n 3) 1 15 := ⟨by decide +kernel, rfl⟩
theorem d_X11_entry_15 : DC mi_X11_entry 15 (.iload_n 3) 1 16 := ⟨by decide +kernel, rfl⟩
theorem d_X11_entry_16 : DC mi_X11_entry 16 (.bipush 36) 2 18 := ⟨by decide +kernel, rfl⟩
theorem d_X11_entry_18 : DB mi_X11_entry 18 (.if_icmp .ge 33) 33 21 51 := ⟨by decide +kernel, rfl, by decide⟩
theorem d_X11_entry_21 : DC mi_X11_entry 21 (.aload_n 0) 1 22 := ⟨by decide +kernel, rfl⟩
theorem d_X11_entry_22 : DC mi_X11_entry 22 (.getfield 93) 3 25 := ⟨by decide +kernel, rfl⟩
theorem d_X11_entry_25 : DC mi_X11_entry 25 (.iload_n 3) 1 26 := ⟨by decide +kernel, rfl⟩
theorem d_X11_entry_26 : DC mi_X11_entry 26 (.iaload) 1 27 := ⟨by decide +kernel, rfl⟩
theorem d_X11_entry_27 : DB mi_X11_entry 27 (.ifCond .ne 6) 6 30 33 := ⟨by decide +kernel, rfl, by decide⟩
theorem d_X11_entry_30 : DB mi_X11_entry 30 (.goto 15) 15 33 45 := ⟨by decide +kernel, rfl, by decide⟩
theorem d_X11_entry_33 : DC mi_X11_entry 33 (.iload_n 2) 1 34 := ⟨by decide +kernel, rfl⟩
theorem d_X11_entry_34 : DB mi_X11_entry 34 (.ifCond .ne 8) 8 37 42 := ⟨by decide +kernel, rfl, by decide⟩
theorem d_X11_entry_37 : DC mi_X11_entry 37 (.iload_n 3) 1 38 := ⟨by decide +kernel, rfl⟩
theorem d_X11_entry_38 : DC mi_X11_entry 38 (.invokestatic 441) 3 41 := ⟨by decide +kernel, rfl⟩
theorem d_X11_entry_41 : DC mi_X11_entry 41 (.ireturn) 1 42 := ⟨by decide +kernel, rfl⟩
theorem d_X11_entry_42 : DC mi_X11_entry 42 (.iinc 2 (-1)) 3 45 := ⟨by decide +kernel, rfl⟩
theorem d_X11_entry_45 : DC mi_X11_entry 45 (.iinc 3 1) 3 48 := ⟨by decide +kernel, rfl⟩
theorem d_X11_entry_48 : DB mi_X11_entry 48 (.goto (-33)) (-33) 51 15 := ⟨by decide +kernel, rfl, by decide⟩
theorem d_X11_entry_51 : DC mi_X11_entry 51 (.bipush (-2)) 2 53 := ⟨by decide +kernel, rfl⟩
theorem d_X11_entry_53 : DC mi_X11_entry 53 (.ireturn) 1 54 := ⟨by decide +kernel, rfl⟩
set_option maxHeartbeats 4000000 in
set_option maxRecDepth 100000 in
theorem sL_X11_entry_15 (d : Nat) (hd : 1 ≤ d) (K37 : Int32 → HH → Option (Int32 × HH)) (hK37 : ∀ (z3 : Int32) (h : HH), Sx mi_X11_entry d iI (K37 z3 h) 37 [(3, .int z3)] [] h) : ∀ (n : Nat) (x2 : Int32) (x3 : Int32) (h : HH), Sx mi_X11_entry d iI (g_X11_entry_L15 K37 n x2 x3 h) 15 [(0, .ref 255), (2, .int x2), (3, .int x3)] [] h := by
  intro n
  induction n with
  | zero => intro x2 x3 h; exact sx_none
  | succ n ih =>
    intro x2 x3 h
    rw [g_X11_entry_L15]
    refine sx_iload_n d_X11_entry_15 2 rfl ?_
    refine sx_bipush d_X11_entry_16 bc36 ?_
    refine sx_icmp_ge d_X11_entry_18 ?_ ?_
    · refine sx_aload_n d_X11_entry_21 0 rfl ?_
      refine sx_getF (a' := 282) fl_StairCountModel_93 sh_255 rfl rfl d_X11_entry_22 ?_
      refine sx_iload_n d_X11_entry_25 2 rfl ?_
      refine sx_iald sh_282 d_X11_entry_26 (fun v2 => ?_)
      refine sx_jn (fun j => ∀ (u6 : Int32) (h : HH), Sx mi_X11_entry d iI (j u6 h) 45 [(0, .ref 255), (2, .int u6), (3, .int x3)] [] h) ?_ ?_
      · intro u6 h5
        refine sx_iincV (lc' := fun v7 => [(3, .int v7), (0, .ref 255), (2, .int u6)]) (k0 := 2) d_X11_entry_45 rfl ii1 (by decide) (fun _ => rfl) (fun v7 => ?_)
        refine sx_goto d_X11_entry_48 ?_
        refine sx_lc (lc' := [(0, .ref 255), (2, .int u6), (3, .int v7)]) [1, 2, 0] rfl ?_
        exact ih u6 v7 h5
      · intro j3 k4
        refine sx_if_ne d_X11_entry_27 ?_ ?_
        · refine sx_goto d_X11_entry_30 ?_
          exact k4 x2 h
        · refine sx_iload_n d_X11_entry_33 1 rfl ?_
          refine sx_if_ne d_X11_entry_34 ?_ ?_
          · refine sx_lc (lc' := [(3, .int x3)]) [2] rfl ?_
            exact hK37 x3 h
          · refine sx_iincV (lc' := fun v8 => [(2, .int v8), (0, .ref 255), (3, .int x3)]) (k0 := 1) d_X11_entry_42 rfl iim1 (by decide) (fun _ => rfl) (fun v8 => ?_)
            refine sx_lc (lc' := [(0, .ref 255), (2, .int v8), (3, .int x3)]) [1, 0, 2] rfl ?_
            exact k4 v8 h
    · refine sx_bipush d_X11_entry_51 bcm2 ?_
      exact sx_iret rfl d_X11_entry_53
set_option maxHeartbeats 4000000 in
set_option maxRecDepth 100000 in
theorem sp_X11_entry (d : Nat) (hd : 1 ≤ d) (a0 : Int32) (h : HH) : Sp mi_X11_entry d iI [.ref 255, .int a0] h (g_X11_entry a0 h) := by
  refine sp_of (lc := [(0, .ref 255), (1, .int a0)]) (by decide) (Nat.le_of_ble_eq_true rfl) rfl ?_
  unfold g_X11_entry
  refine sx_aload_n d_X11_entry_0 0 rfl ?_
  refine sx_iconst d_X11_entry_1 ic0 ?_
  refine sx_putI fl_StairCountModel_148 sh_255 rfl hty_11_0 d_X11_entry_2 (fun h1 => ?_)
  refine sx_iload_n d_X11_entry_5 1 rfl ?_
  refine sx_if_ge d_X11_entry_6 ?_ ?_
  · refine sx_iconst d_X11_entry_9 icm1 ?_
    exact sx_iret rfl d_X11_entry_10
  · refine sx_iload_n d_X11_entry_11 1 rfl ?_
    refine sx_istore_n (i := 2) (lc' := [(2, .int a0), (0, .ref 255), (1, .int a0)]) d_X11_entry_12 rfl (by decide) rfl ?_
    refine sx_iconst d_X11_entry_13 ic0 ?_
    refine sx_istore_n (i := 3) (lc' := [(3, .int (0 : Int32)), (2, .int a0), (0, .ref 255), (1, .int a0)]) d_X11_entry_14 rfl (by decide) rfl ?_
    refine sx_lc (lc' := [(0, .ref 255), (2, .int a0), (3, .int (0 : Int32))]) [2, 1, 0] rfl ?_
    refine sL_X11_entry_15 d hd _ ?_ 1024 a0 (0 : Int32) h1
    · intro z10 h9
      refine sx_iload_n d_X11_entry_37 0 rfl ?_
      refine sx_callS [.int z10] ms_X11_outward lM_StairCountModel_441 (by omega) rfl rfl (Nat.le_of_ble_eq_true rfl) d_X11_entry_38 (sp_X11_outward (d - 1) (by omega) z10 h9) (fun r12 h11 => ?_)
      exact sx_iret rfl d_X11_entry_41
theorem d_X11_beside_0 : DC mi_X11_beside 0 (.aload_n 0) 1 1 := ⟨by decide +kernel, rfl⟩
theorem d_X11_beside_1 : DC mi_X11_beside 1 (.iconst 0) 1 2 := ⟨by decide +kernel, rfl⟩
theorem d_X11_beside_2 : DC mi_X11_beside 2 (.putfield 148) 3 5 := ⟨by decide +kernel, rfl⟩
theorem d_X11_beside_5 : DC mi_X11_beside 5 (.aload_n 0) 1 6 := ⟨by decide +kernel, rfl⟩
theorem d_X11_beside_6 : DC mi_X11_beside 6 (.iload_n 1) 1 7 := ⟨by decide +kernel, rfl⟩
theorem d_X11_beside_7 : DC mi_X11_beside 7 (.iload_n 2) 1 8 := ⟨by decide +kernel, rfl⟩
theorem d_X11_beside_8 : DC mi_X11_beside 8 (.invokevirtual 437) 3 11 := ⟨by decide +kernel, rfl⟩
theorem d_X11_beside_11 : DB mi_X11_beside 11 (.ifCond .eq 12) 12 14 23 := ⟨by decide +kernel, rfl, by decide⟩
theorem d_X11_beside_14 : DC mi_X11_beside 14 (.iload_n 3) 1 15 := ⟨by decide +kernel, rfl⟩
theorem d_X11_beside_15 : DB mi_X11_beside 15 (.ifCond .lt 8) 8 18 23 := ⟨by decide +kernel, rfl, by decide⟩
theorem d_X11_beside_18 : DC mi_X11_beside 18 (.iload_n 3) 1 19 := ⟨by decide +kernel, rfl⟩
theorem d_X11_beside_19 : DC mi_X11_beside 19 (.iconst 1) 1 20 := ⟨by decide +kernel, rfl⟩
theorem d_X11_beside_20 : DB mi_X11_beside 20 (.if_icmp .le 5) 5 23 25 := ⟨by decide +kernel, rfl, by decide⟩
theorem d_X11_beside_23 : DC mi_X11_beside 23 (.iconst (-1)) 1 24 := ⟨by decide +kernel, rfl⟩
theorem d_X11_beside_24 : DC mi_X11_beside 24 (.ireturn) 1 25 := ⟨by decide +kernel, rfl⟩
theorem d_X11_beside_25 : DC mi_X11_beside 25 (.iload_n 3) 1 26 := ⟨by decide +kernel, rfl⟩
theorem d_X11_beside_26 : DB mi_X11_beside 26 (.ifCond .ne 7) 7 29 33 := ⟨by decide +kernel, rfl, by decide⟩
theorem d_X11_beside_29 : DC mi_X11_beside 29 (.iconst 1) 1 30 := ⟨by decide +kernel, rfl⟩
theorem d_X11_beside_30 : DB mi_X11_beside 30 (.goto 4) 4 33 34 := ⟨by decide +kernel, rfl, by decide⟩
theorem d_X11_beside_33 : DC mi_X11_beside 33 (.iconst (-1)) 1 34 := ⟨by decide +kernel, rfl⟩
theorem d_X11_beside_34 : DC mi_X11_beside 34 (.istore 4) 2 36 := ⟨by decide +kernel, rfl⟩
theorem d_X11_beside_36 : DC mi_X11_beside 36 (.bipush 6) 2 38 := ⟨by decide +kernel, rfl⟩
theorem d_X11_beside_38 : DC mi_X11_beside 38 (.iload_n 1) 1 39 := ⟨by decide +kernel, rfl⟩
theorem d_X11_beside_39 : DC mi_X11_beside 39 (.imul) 1 40 := ⟨by decide +kernel, rfl⟩
theorem d_X11_beside_40 : DC mi_X11_beside 40 (.iload_n 2) 1 41 := ⟨by decide +kernel, rfl⟩
theorem d_X11_beside_41 : DC mi_X11_beside 41 (.iadd) 1 42 := ⟨by decide +kernel, rfl⟩
theorem d_X11_beside_42 : DC mi_X11_beside 42 (.iload 4) 2 44 := ⟨by decide +kernel, rfl⟩
theorem d_X11_beside_44 : DC mi_X11_beside 44 (.iadd) 1 45 := ⟨by decide +kernel, rfl⟩
theorem d_X11_beside_45 : DC mi_X11_beside 45 (.istore 5) 2 47 := ⟨by decide +kernel, rfl⟩
theorem d_X11_beside_47 : DC mi_X11_beside 47 (.iload 5) 2 49 := ⟨by decide +kernel, rfl⟩
theorem d_X11_beside_49 : DB mi_X11_beside 49 (.ifCond .lt 36) 36 52 85 := ⟨by decide +kernel, rfl, by decide⟩
theorem d_X11_beside_52 : DC mi_X11_beside 52 (.iload 5) 2 54 := ⟨by decide +kernel, rfl⟩
theorem d_X11_beside_54 : DC mi_X11_beside 54 (.bipush 36) 2 56 := ⟨by decide +kernel, rfl⟩
theorem d_X11_beside_56 : DB mi_X11_beside 56 (.if_icmp .ge 29) 29 59 85 := ⟨by decide +kernel, rfl, by decide⟩
theorem d_X11_beside_59 : DC mi_X11_beside 59 (.aload_n 0) 1 60 := ⟨by decide +kernel, rfl⟩
theorem d_X11_beside_60 : DC mi_X11_beside 60 (.getfield 93) 3 63 := ⟨by decide +kernel, rfl⟩
theorem d_X11_beside_63 : DC mi_X11_beside 63 (.iload 5) 2 65 := ⟨by decide +kernel, rfl⟩
theorem d_X11_beside_65 : DC mi_X11_beside 65 (.iaload) 1 66 := ⟨by decide +kernel, rfl⟩
theorem d_X11_beside_66 : DB mi_X11_beside 66 (.ifCond .eq 9) 9 69 75 := ⟨by decide +kernel, rfl, by decide⟩
theorem d_X11_beside_69 : DC mi_X11_beside 69 (.iload 5) 2 71 := ⟨by decide +kernel, rfl⟩
theorem d_X11_beside_71 : DC mi_X11_beside 71 (.invokestatic 441) 3 74 := ⟨by decide +kernel, rfl⟩
theorem d_X11_beside_74 : DC mi_X11_beside 74 (.ireturn) 1 75 := ⟨by decide +kernel, rfl⟩
theorem d_X11_beside_75 : DC mi_X11_beside 75 (.iload 5) 2 77 := ⟨by decide +kernel, rfl⟩
theorem d_X11_beside_77 : DC mi_X11_beside 77 (.iload 4) 2 79 := ⟨by decide +kernel, rfl⟩
theorem d_X11_beside_79 : DC mi_X11_beside 79 (.iadd) 1 80 := ⟨by decide +kernel, rfl⟩
theorem d_X11_beside_80 : DC mi_X11_beside 80 (.istore 5) 2 82 := ⟨by decide +kernel, rfl⟩
theorem d_X11_beside_82 : DB mi_X11_beside 82 (.goto (-35)) (-35) 85 47 := ⟨by decide +kernel, rfl, by decide⟩
theorem d_X11_beside_85 : DC mi_X11_beside 85 (.bipush (-2)) 2 87 := ⟨by decide +kernel, rfl⟩
theorem d_X11_beside_87 : DC mi_X11_beside 87 (.ireturn) 1 88 := ⟨by decide +kernel, rfl⟩
set_option maxHeartbeats 4000000 in
set_option maxRecDepth 100000 in
theorem sL_X11_beside_47 (d : Nat) (hd : 2 ≤ d) (K69 : Int32 → HH → Option (Int32 × HH)) (c4 : Int32) (hK69 : ∀ (z5 : Int32) (h : HH), Sx mi_X11_beside d iI (K69 z5 h) 69 [(5, .int z5)] [] h) : ∀ (n : Nat) (x5 : Int32) (h : HH), Sx mi_X11_beside d iI (g_X11_beside_L47 K69 c4 n x5 h) 47 [(0, .ref 255), (4, .int c4), (5, .int x5)] [] h := by
  intro n
  induction n with
  | zero => intro x5 h; exact sx_none
  | succ n ih =>
    intro x5 h
    rw [g_X11_beside_L47]
    refine sx_iload d_X11_beside_47 2 rfl ?_
    refine sx_if_lt d_X11_beside_49 ?_ ?_
    · refine sx_bipush d_X11_beside_85 bcm2 ?_
      exact sx_iret rfl d_X11_beside_87
    · refine sx_iload d_X11_beside_52 2 rfl ?_
      refine sx_bipush d_X11_beside_54 bc36 ?_
      refine sx_icmp_ge d_X11_beside_56 ?_ ?_
      · refine sx_aload_n d_X11_beside_59 0 rfl ?_
        refine sx_getF (a' := 282) fl_StairCountModel_93 sh_255 rfl rfl d_X11_beside_60 ?_
        refine sx_iload d_X11_beside_63 2 rfl ?_
        refine sx_iald sh_282 d_X11_beside_65 (fun v9 => ?_)
        refine sx_if_eq d_X11_beside_66 ?_ ?_
        · refine sx_iload d_X11_beside_75 2 rfl ?_
          refine sx_iload d_X11_beside_77 1 rfl ?_
          refine sx_iadd d_X11_beside_79 ?_
          refine sx_vlI (fun v10 => ?_)
          refine sx_istore (i := 5) (lc' := [(5, .int v10), (0, .ref 255), (4, .int c4)]) d_X11_beside_80 (by decide) rfl ?_
          refine sx_goto d_X11_beside_82 ?_
          refine sx_lc (lc' := [(0, .ref 255), (4, .int c4), (5, .int v10)]) [1, 2, 0] rfl ?_
          exact ih v10 h
        · refine sx_lc (lc' := [(5, .int x5)]) [2] rfl ?_
          exact hK69 x5 h
      · refine sx_bipush d_X11_beside_85 bcm2 ?_
        exact sx_iret rfl d_X11_beside_87
set_option maxHeartbeats 4000000 in
set_option maxRecDepth 100000 in
theorem sp_X11_beside (d : Nat) (hd : 2 ≤ d) (a0 : Int32) (a1 : Int32) (a2 : Int32) (h : HH) : Sp mi_X11_beside d iI [.ref 255, .int a0, .int a1, .int a2] h (g_X11_beside a0 a1 a2 h) := by
  refine sp_of (lc := [(0, .ref 255), (1, .int a0), (2, .int a1), (3, .int a2)]) (by decide) (Nat.le_of_ble_eq_true rfl) rfl ?_
  unfold g_X11_beside
  refine sx_aload_n d_X11_beside_0 0 rfl ?_
  refine sx_iconst d_X11_beside_1 ic0 ?_
  refine sx_putI fl_StairCountModel_148 sh_255 rfl hty_11_0 d_X11_beside_2 (fun h1 => ?_)
  refine sx_aload_n d_X11_beside_5 0 rfl ?_
  refine sx_iload_n d_X11_beside_6 1 rfl ?_
  refine sx_iload_n d_X11_beside_7 2 rfl ?_
  refine sx_callV [.int a0, .int a1] mv_X11_areOf lM_StairCountModel_437 sh_255 (by omega) rfl rfl (Nat.le_of_ble_eq_true rfl) d_X11_beside_8 (sp_X11_areOf (d - 1) (by omega) a0 a1 h1) (fun r3 h2 => ?_)
  refine sx_if_eq d_X11_beside_11 ?_ ?_
  · refine sx_iconst d_X11_beside_23 icm1 ?_
    exact sx_iret rfl d_X11_beside_24
  · refine sx_iload_n d_X11_beside_14 3 rfl ?_
    refine sx_if_lt d_X11_beside_15 ?_ ?_
    · refine sx_iconst d_X11_beside_23 icm1 ?_
      exact sx_iret rfl d_X11_beside_24
    · refine sx_iload_n d_X11_beside_18 3 rfl ?_
      refine sx_iconst d_X11_beside_19 ic1 ?_
      refine sx_icmp_le d_X11_beside_20 ?_ ?_
      · refine sx_iconst d_X11_beside_23 icm1 ?_
        exact sx_iret rfl d_X11_beside_24
      · refine sx_iload_n d_X11_beside_25 3 rfl ?_
        refine sx_jn (fun j => ∀ (y7 : Int32) (h : HH), Sx mi_X11_beside d iI (j y7 h) 34 [(0, .ref 255), (1, .int a0), (2, .int a1)] [.int y7] h) ?_ ?_
        · intro y7 h6
          refine sx_istore (i := 4) (lc' := [(4, .int y7), (0, .ref 255), (1, .int a0), (2, .int a1)]) d_X11_beside_34 (by decide) rfl ?_
          refine sx_bipush d_X11_beside_36 bc6 ?_
          refine sx_iload_n d_X11_beside_38 2 rfl ?_
          refine sx_imul d_X11_beside_39 ?_
          refine sx_iload_n d_X11_beside_40 3 rfl ?_
          refine sx_iadd d_X11_beside_41 ?_
          refine sx_iload d_X11_beside_42 0 rfl ?_
          refine sx_iadd d_X11_beside_44 ?_
          refine sx_vlI (fun v8 => ?_)
          refine sx_istore (i := 5) (lc' := [(5, .int v8), (4, .int y7), (0, .ref 255), (1, .int a0), (2, .int a1)]) d_X11_beside_45 (by decide) rfl ?_
          refine sx_lc (lc' := [(0, .ref 255), (4, .int y7), (5, .int v8)]) [2, 1, 0] rfl ?_
          refine sL_X11_beside_47 d hd _ y7 ?_ 1024 v8 h6
          · intro z12 h11
            refine sx_iload d_X11_beside_69 0 rfl ?_
            refine sx_callS [.int z12] ms_X11_outward lM_StairCountModel_441 (by omega) rfl rfl (Nat.le_of_ble_eq_true rfl) d_X11_beside_71 (sp_X11_outward (d - 1) (by omega) z12 h11) (fun r14 h13 => ?_)
            exact sx_iret rfl d_X11_beside_74
        · intro j4 k5
          refine sx_if_ne d_X11_beside_26 ?_ ?_
          · refine sx_iconst d_X11_beside_29 ic1 ?_
            refine sx_goto d_X11_beside_30 ?_
            refine sx_lc (lc' := [(0, .ref 255), (1, .int a0), (2, .int a1)]) [0, 1, 2] rfl ?_
            exact k5 (1 : Int32) h2
          · refine sx_iconst d_X11_beside_33 icm1 ?_
            refine sx_lc (lc' := [(0, .ref 255), (1, .int a0), (2, .int a1)]) [0, 1, 2] rfl ?_
            exact k5 (-1 : Int32) h2
theorem d_X11_isStronger_0 : DC mi_X11_isStronger 0 (.aload_n 0) 1 1 := ⟨by decide +kernel, rfl⟩
theorem d_X11_isStronger_1 : DC mi_X11_isStronger 1 (.getfield 25) 3 4 := ⟨by decide +kernel, rfl⟩
theorem d_X11_isStronger_4 : DC mi_X11_isStronger 4 (.iload_n 1) 1 5 := ⟨by decide +kernel, rfl⟩
theorem d_X11_isStronger_5 : DC mi_X11_isStronger 5 (.iaload) 1 6 := ⟨by decide +kernel, rfl⟩
theorem d_X11_isStronger_6 : DC mi_X11_isStronger 6 (.aload_n 0) 1 7 := ⟨by decide +kernel, rfl⟩
theorem d_X11_isStronger_7 : DC mi_X11_isStronger 7 (.getfield 25) 3 10 := ⟨by decide +kernel, rfl⟩
theorem d_X11_isStronger_10 : DC mi_X11_isStronger 10 (.iload_n 2) 1 11 := ⟨by decide +kernel, rfl⟩
theorem d_X11_isStronger_11 : DC mi_X11_isStronger 11 (.iaload) 1 12 := ⟨by decide +kernel, rfl⟩
theorem d_X11_isStronger_12 : DB mi_X11_isStronger 12 (.if_icmp .eq 26) 26 15 38 := ⟨by decide +kernel, rfl, by decide⟩
theorem d_X11_isStronger_15 : DC mi_X11_isStronger 15 (.aload_n 0) 1 16 := ⟨by decide +kernel, rfl⟩
theorem d_X11_isStronger_16 : DC mi_X11_isStronger 16 (.getfield 25) 3 19 := ⟨by decide +kernel, rfl⟩
theorem d_X11_isStronger_19 : DC mi_X11_isStronger 19 (.iload_n 1) 1 20 := ⟨by decide +kernel, rfl⟩
theorem d_X11_isStronger_20 : DC mi_X11_isStronger 20 (.iaload) 1 21 := ⟨by decide +kernel, rfl⟩
theorem d_X11_isStronger_21 : DC mi_X11_isStronger 21 (.aload_n 0) 1 22 := ⟨by decide +kernel, rfl⟩
theorem d_X11_isStronger_22 : DC mi_X11_isStronger 22 (.getfield 25) 3 25 := ⟨by decide +kernel, rfl⟩
theorem d_X11_isStronger_25 : DC mi_X11_isStronger 25 (.iload_n 2) 1 26 := ⟨by decide +kernel, rfl⟩
theorem d_X11_isStronger_26 : DC mi_X11_isStronger 26 (.iaload) 1 27 := ⟨by decide +kernel, rfl⟩
theorem d_X11_isStronger_27 : DB mi_X11_isStronger 27 (.if_icmp .le 7) 7 30 34 := ⟨by decide +kernel, rfl, by decide⟩
theorem d_X11_isStronger_30 : DC mi_X11_isStronger 30 (.iconst 1) 1 31 := ⟨by decide +kernel, rfl⟩
theorem d_X11_isStronger_31 : DB mi_X11_isStronger 31 (.goto 17) 17 34 48 := ⟨by decide +kernel, rfl, by decide⟩
theorem d_X11_isStronger_34 : DC mi_X11_isStronger 34 (.iconst 0) 1 35 := ⟨by decide +kernel, rfl⟩
theorem d_X11_isStronger_35 : DB mi_X11_isStronger 35 (.goto 13) 13 38 48 := ⟨by decide +kernel, rfl, by decide⟩
theorem d_X11_isStronger_38 : DC mi_X11_isStronger 38 (.iload_n 1) 1 39 := ⟨by decide +kernel, rfl⟩
theorem d_X11_isStronger_39 : DC mi_X11_isStronger 39 (.iload_n 2) 1 40 := ⟨by decide +kernel, rfl⟩
theorem d_X11_isStronger_40 : DB mi_X11_isStronger 40 (.if_icmp .ge 7) 7 43 47 := ⟨by decide +kernel, rfl, by decide⟩
theorem d_X11_isStronger_43 : DC mi_X11_isStronger 43 (.iconst 1) 1 44 := ⟨by decide +kernel, rfl⟩
theorem d_X11_isStronger_44 : DB mi_X11_isStronger 44 (.goto 4) 4 47 48 := ⟨by decide +kernel, rfl, by decide⟩
theorem d_X11_isStronger_47 : DC mi_X11_isStronger 47 (.iconst 0) 1 48 := ⟨by decide +kernel, rfl⟩
theorem d_X11_isStronger_48 : DC mi_X11_isStronger 48 (.ireturn) 1 49 := ⟨by decide +kernel, rfl⟩
set_option maxHeartbeats 4000000 in
set_option maxRecDepth 100000 in
theorem sp_X11_isStronger (d : Nat) (hd : 0 ≤ d) (a0 : Int32) (a1 : Int32) (h : HH) : Sp mi_X11_isStronger d iI [.ref 255, .int a0, .int a1] h (g_X11_isStronger a0 a1 h) := by
  refine sp_of (lc := [(0, .ref 255), (1, .int a0), (2, .int a1)]) (by decide) (Nat.le_of_ble_eq_true rfl) rfl ?_
  unfold g_X11_isStronger
  refine sx_aload_n d_X11_isStronger_0 0 rfl ?_
  refine sx_getF (a' := 261) fl_StairCountModel_25 sh_255 rfl rfl d_X11_isStronger_1 ?_
  refine sx_iload_n d_X11_isStronger_4 1 rfl ?_
  refine sx_iald sh_261 d_X11_isStronger_5 (fun v1 => ?_)
  refine sx_aload_n d_X11_isStronger_6 0 rfl ?_
  refine sx_getF (a' := 261) fl_StairCountModel_25 sh_255 rfl rfl d_X11_isStronger_7 ?_
  refine sx_iload_n d_X11_isStronger_10 2 rfl ?_
  refine sx_iald sh_261 d_X11_isStronger_11 (fun v2 => ?_)
  refine sx_icmp_eq d_X11_isStronger_12 ?_ ?_
  · refine sx_iload_n d_X11_isStronger_38 1 rfl ?_
    refine sx_iload_n d_X11_isStronger_39 2 rfl ?_
    refine sx_icmp_ge d_X11_isStronger_40 ?_ ?_
    · refine sx_iconst d_X11_isStronger_43 ic1 ?_
      refine sx_goto d_X11_isStronger_44 ?_
      exact sx_zret (by decide) rfl d_X11_isStronger_48
    · refine sx_iconst d_X11_isStronger_47 ic0 ?_
      exact sx_zret (by decide) rfl d_X11_isStronger_48
  · refine sx_aload_n d_X11_isStronger_15 0 rfl ?_
    refine sx_getF (a' := 261) fl_StairCountModel_25 sh_255 rfl rfl d_X11_isStronger_16 ?_
    refine sx_iload_n d_X11_isStronger_19 1 rfl ?_
    refine sx_iald sh_261 d_X11_isStronger_20 (fun v3 => ?_)
    refine sx_aload_n d_X11_isStronger_21 0 rfl ?_
    refine sx_getF (a' := 261) fl_StairCountModel_25 sh_255 rfl rfl d_X11_isStronger_22 ?_
    refine sx_iload_n d_X11_isStronger_25 2 rfl ?_
    refine sx_iald sh_261 d_X11_isStronger_26 (fun v4 => ?_)
    refine sx_icmp_le d_X11_isStronger_27 ?_ ?_
    · refine sx_iconst d_X11_isStronger_30 ic1 ?_
      refine sx_goto d_X11_isStronger_31 ?_
      exact sx_zret (by decide) rfl d_X11_isStronger_48
    · refine sx_iconst d_X11_isStronger_34 ic0 ?_
      refine sx_goto d_X11_isStronger_35 ?_
      exact sx_zret (by decide) rfl d_X11_isStronger_48
