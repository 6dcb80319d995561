/-! walks: X10_carry, X10_right, X10_go, X10_undo, X10_keep, X10_back, X10_startTrial, X10_ahead, X10_there, X10_highest, X10_climbs, X10_level, X10_ease, X10_way, X10_meet, X10_steepest, X10_wall, J6_bitCount_0f7a4, X10_gain, X10_restBits -/
theorem d_X10_carry_0 : DC mi_X10_carry 0 (.aload_n 0) 1 1 := ⟨by decide +kernel, rfl⟩
theorem d_X10_carry_1 : DC mi_X10_carry 1 (.iload_n 1) 1 2 := ⟨by decide +kernel, rfl⟩
theorem d_X10_carry_2 : DC mi_X10_carry 2 (.invokevirtual 115) 3 5 := ⟨by decide +kernel, rfl⟩
theorem d_X10_carry_5 : DB mi_X10_carry 5 (.ifCond .eq 24) 24 8 29 := ⟨by decide +kernel, rfl, by decide⟩
theorem d_X10_carry_8 : DC mi_X10_carry 8 (.aload_n 0) 1 9 := ⟨by decide +kernel, rfl⟩
theorem d_X10_carry_9 : DC mi_X10_carry 9 (.iload_n 2) 1 10 := ⟨by decide +kernel, rfl⟩
theorem d_X10_carry_10 : DC mi_X10_carry 10 (.invokevirtual 177) 3 13 := ⟨by decide +kernel, rfl⟩
theorem d_X10_carry_13 : DB mi_X10_carry 13 (.ifCond .eq 16) 16 16 29 := ⟨by decide +kernel, rfl, by decide⟩
theorem d_X10_carry_16 : DC mi_X10_carry 16 (.aload_n 0) 1 17 := ⟨by decide +kernel, rfl⟩
theorem d_X10_carry_17 : DC mi_X10_carry 17 (.getfield 30) 3 20 := ⟨by decide +kernel, rfl⟩
theorem d_X10_carry_20 : DC mi_X10_carry 20 (.getfield 134) 3 23 := ⟨by decide +kernel, rfl⟩
theorem d_X10_carry_23 : DC mi_X10_carry 23 (.iload_n 1) 1 24 := ⟨by decide +kernel, rfl⟩
theorem d_X10_carry_24 : DC mi_X10_carry 24 (.iaload) 1 25 := ⟨by decide +kernel, rfl⟩
theorem d_X10_carry_25 : DC mi_X10_carry 25 (.iload_n 2) 1 26 := ⟨by decide +kernel, rfl⟩
theorem d_X10_carry_26 : DB mi_X10_carry 26 (.if_icmp .ne 5) 5 29 31 := ⟨by decide +kernel, rfl, by decide⟩
theorem d_X10_carry_29 : DC mi_X10_carry 29 (.iconst 0) 1 30 := ⟨by decide +kernel, rfl⟩
theorem d_X10_carry_30 : DC mi_X10_carry 30 (.ireturn) 1 31 := ⟨by decide +kernel, rfl⟩
theorem d_X10_carry_31 : DC mi_X10_carry 31 (.aload_n 0) 1 32 := ⟨by decide +kernel, rfl⟩
theorem d_X10_carry_32 : DC mi_X10_carry 32 (.getfield 40) 3 35 := ⟨by decide +kernel, rfl⟩
theorem d_X10_carry_35 : DC mi_X10_carry 35 (.aload_n 0) 1 36 := ⟨by decide +kernel, rfl⟩
theorem d_X10_carry_36 : DC mi_X10_carry 36 (.getfield 30) 3 39 := ⟨by decide +kernel, rfl⟩
theorem d_X10_carry_39 : DC mi_X10_carry 39 (.invokevirtual 236) 3 42 := ⟨by decide +kernel, rfl⟩
theorem d_X10_carry_42 : DC mi_X10_carry 42 (.aload_n 0) 1 43 := ⟨by decide +kernel, rfl⟩
theorem d_X10_carry_43 : DC mi_X10_carry 43 (.getfield 30) 3 46 := ⟨by decide +kernel, rfl⟩
theorem d_X10_carry_46 : DC mi_X10_carry 46 (.getfield 134) 3 49 := ⟨by decide +kernel, rfl⟩
theorem d_X10_carry_49 : DC mi_X10_carry 49 (.iload_n 1) 1 50 := ⟨by decide +kernel, rfl⟩
theorem d_X10_carry_50 : DC mi_X10_carry 50 (.iload_n 2) 1 51 := ⟨by decide +kernel, rfl⟩
theorem d_X10_carry_51 : DC mi_X10_carry 51 (.iastore) 1 52 := ⟨by decide +kernel, rfl⟩
theorem d_X10_carry_52 : DC mi_X10_carry 52 (.iconst 1) 1 53 := ⟨by decide +kernel, rfl⟩
theorem d_X10_carry_53 : DC mi_X10_carry 53 (.ireturn) 1 54 := ⟨by decide +kernel, rfl⟩
set_option maxHeartbeats 4000000 in
set_option maxRecDepth 100000 in
theorem sp_X10_carry (d : Nat) (hd : 3 ≤ d) (a0 : Int32) (a1 : Int32) (h : HH) : Sp mi_X10_carry d iI [.ref 0, .int a0, .int a1] h (g_X10_carry a0 a1 h) := by
  refine sp_of (lc := [(0, .ref 0), (1, .int a0), (2, .int a1)]) (by decide) (Nat.le_of_ble_eq_true rfl) rfl ?_
  unfold g_X10_carry
  refine sx_aload_n d_X10_carry_0 0 rfl ?_
  refine sx_iload_n d_X10_carry_1 1 rfl ?_
  refine sx_callV [.int a0] mv_X10_isPerson lM_StairCount_115 sh_0 (by omega) rfl rfl (Nat.le_of_ble_eq_true rfl) d_X10_carry_2 (sp_X10_isPerson (d - 1) (by omega) a0 h) (fun r2 h1 => ?_)
  refine sx_if_eq d_X10_carry_5 ?_ ?_
  · refine sx_iconst d_X10_carry_29 ic0 ?_
    exact sx_zret (by decide) rfl d_X10_carry_30
  · refine sx_aload_n d_X10_carry_8 0 rfl ?_
    refine sx_iload_n d_X10_carry_9 2 rfl ?_
    refine sx_callV [.int a1] mv_X10_isFloor lM_StairCount_177 sh_0 (by omega) rfl rfl (Nat.le_of_ble_eq_true rfl) d_X10_carry_10 (sp_X10_isFloor (d - 1) (by omega) a1 h1) (fun r4 h3 => ?_)
    refine sx_if_eq d_X10_carry_13 ?_ ?_
    · refine sx_iconst d_X10_carry_29 ic0 ?_
      exact sx_zret (by decide) rfl d_X10_carry_30
    · refine sx_aload_n d_X10_carry_16 0 rfl ?_
      refine sx_getF (a' := 52) fl_StairCount_30 sh_0 rfl rfl d_X10_carry_17 ?_
      refine sx_getF (a' := 53) fl_StairCount_134 sh_52 rfl rfl d_X10_carry_20 ?_
      refine sx_iload_n d_X10_carry_23 1 rfl ?_
      refine sx_iald sh_53 d_X10_carry_24 (fun v5 => ?_)
      refine sx_iload_n d_X10_carry_25 2 rfl ?_
      refine sx_icmp_ne d_X10_carry_26 ?_ ?_
      · refine sx_iconst d_X10_carry_29 ic0 ?_
        exact sx_zret (by decide) rfl d_X10_carry_30
      · refine sx_aload_n d_X10_carry_31 0 rfl ?_
        refine sx_getF (a' := 64) fl_StairCount_40 sh_0 rfl rfl d_X10_carry_32 ?_
        refine sx_aload_n d_X10_carry_35 0 rfl ?_
        refine sx_getF (a' := 52) fl_StairCount_30 sh_0 rfl rfl d_X10_carry_36 ?_
        refine sx_callV [.ref 52] mv_X4_push lM_StairCount_236 sh_64 (by omega) rfl rfl (Nat.le_of_ble_eq_true rfl) d_X10_carry_39 (sp_X4_push (d - 1) (by omega) 52 h3) (fun _ h6 => ?_)
        refine sx_aload_n d_X10_carry_42 0 rfl ?_
        refine sx_getF (a' := 52) fl_StairCount_30 sh_0 rfl rfl d_X10_carry_43 ?_
        refine sx_getF (a' := 53) fl_StairCount_134 sh_52 rfl rfl d_X10_carry_46 ?_
        refine sx_iload_n d_X10_carry_49 1 rfl ?_
        refine sx_iload_n d_X10_carry_50 2 rfl ?_
        refine sx_iast sh_53 d_X10_carry_51 (fun h8 => ?_)
        refine sx_iconst d_X10_carry_52 ic1 ?_
        exact sx_zret (by decide) rfl d_X10_carry_53
theorem d_X10_right_0 : DC mi_X10_right 0 (.aload_n 0) 1 1 := ⟨by decide +kernel, rfl⟩
theorem d_X10_right_1 : DC mi_X10_right 1 (.iload_n 1) 1 2 := ⟨by decide +kernel, rfl⟩
theorem d_X10_right_2 : DC mi_X10_right 2 (.invokevirtual 115) 3 5 := ⟨by decide +kernel, rfl⟩
theorem d_X10_right_5 : DB mi_X10_right 5 (.ifCond .eq 11) 11 8 16 := ⟨by decide +kernel, rfl, by decide⟩
theorem d_X10_right_8 : DC mi_X10_right 8 (.aload_n 0) 1 9 := ⟨by decide +kernel, rfl⟩
theorem d_X10_right_9 : DC mi_X10_right 9 (.iload_n 2) 1 10 := ⟨by decide +kernel, rfl⟩
theorem d_X10_right_10 : DC mi_X10_right 10 (.invokevirtual 155) 3 13 := ⟨by decide +kernel, rfl⟩
theorem d_X10_right_13 : DB mi_X10_right 13 (.ifCond .ne 6) 6 16 19 := ⟨by decide +kernel, rfl, by decide⟩
theorem d_X10_right_16 : DC mi_X10_right 16 (.ldc 160) 2 18 := ⟨by decide +kernel, rfl⟩
theorem d_X10_right_18 : DC mi_X10_right 18 (.ireturn) 1 19 := ⟨by decide +kernel, rfl⟩
theorem d_X10_right_19 : DC mi_X10_right 19 (.aload_n 0) 1 20 := ⟨by decide +kernel, rfl⟩
theorem d_X10_right_20 : DC mi_X10_right 20 (.getfield 30) 3 23 := ⟨by decide +kernel, rfl⟩
theorem d_X10_right_23 : DC mi_X10_right 23 (.getfield 161) 3 26 := ⟨by decide +kernel, rfl⟩
theorem d_X10_right_26 : DC mi_X10_right 26 (.iload_n 1) 1 27 := ⟨by decide +kernel, rfl⟩
theorem d_X10_right_27 : DC mi_X10_right 27 (.iload_n 2) 1 28 := ⟨by decide +kernel, rfl⟩
theorem d_X10_right_28 : DC mi_X10_right 28 (.invokestatic 164) 3 31 := ⟨by decide +kernel, rfl⟩
theorem d_X10_right_31 : DC mi_X10_right 31 (.iaload) 1 32 := ⟨by decide +kernel, rfl⟩
theorem d_X10_right_32 : DC mi_X10_right 32 (.istore_n 3) 1 33 := ⟨by decide +kernel, rfl⟩
theorem d_X10_right_33 : DC mi_X10_right 33 (.iload_n 3) 1 34 := ⟨by decide +kernel, rfl⟩
theorem d_X10_right_34 : DB mi_X10_right 34 (.ifCond .ne 6) 6 37 40 := ⟨by decide +kernel, rfl, by decide⟩
theorem d_X10_right_37 : DC mi_X10_right 37 (.ldc 160) 2 39 := ⟨by decide +kernel, rfl⟩
theorem d_X10_right_39 : DC mi_X10_right 39 (.ireturn) 1 40 := ⟨by decide +kernel, rfl⟩
theorem d_X10_right_40 : DC mi_X10_right 40 (.aload_n 0) 1 41 := ⟨by decide +kernel, rfl⟩
theorem d_X10_right_41 : DC mi_X10_right 41 (.getfield 40) 3 44 := ⟨by decide +kernel, rfl⟩
theorem d_X10_right_44 : DC mi_X10_right 44 (.aload_n 0) 1 45 := ⟨by decide +kernel, rfl⟩
theorem d_X10_right_45 : DC mi_X10_right 45 (.getfield 30) 3 48 := ⟨by decide +kernel, rfl⟩
theorem d_X10_right_48 : DC mi_X10_right 48 (.invokevirtual 236) 3 51 := ⟨by decide +kernel, rfl⟩
theorem d_X10_right_51 : DC mi_X10_right 51 (.aload_n 0) 1 52 := ⟨by decide +kernel, rfl⟩
theorem d_X10_right_52 : DC mi_X10_right 52 (.getfield 30) 3 55 := ⟨by decide +kernel, rfl⟩
theorem d_X10_right_55 : DC mi_X10_right 55 (.getfield 161) 3 58 := ⟨by decide +kernel, rfl⟩
theorem d_X10_right_58 : DC mi_X10_right 58 (.iload_n 1) 1 59 := ⟨by decide +kernel, rfl⟩
theorem d_X10_right_59 : DC mi_X10_right 59 (.iload_n 2) 1 60 := ⟨by decide +kernel, rfl⟩
theorem d_X10_right_60 : DC mi_X10_right 60 (.invokestatic 164) 3 63 := ⟨by decide +kernel, rfl⟩
theorem d_X10_right_63 : DC mi_X10_right 63 (.iconst 0) 1 64 := ⟨by decide +kernel, rfl⟩
theorem d_X10_right_64 : DC mi_X10_right 64 (.iastore) 1 65 := ⟨by decide +kernel, rfl⟩
theorem d_X10_right_65 : DC mi_X10_right 65 (.iload_n 3) 1 66 := ⟨by decide +kernel, rfl⟩
theorem d_X10_right_66 : DC mi_X10_right 66 (.ireturn) 1 67 := ⟨by decide +kernel, rfl⟩
set_option maxHeartbeats 4000000 in
set_option maxRecDepth 100000 in
theorem sp_X10_right (d : Nat) (hd : 3 ≤ d) (a0 : Int32) (a1 : Int32) (h : HH) : Sp mi_X10_right d iI [.ref 0, .int a0, .int a1] h (g_X10_right a0 a1 h) := by
  refine sp_of (lc := [(0, .ref 0), (1, .int a0), (2, .int a1)]) (by decide) (Nat.le_of_ble_eq_true rfl) rfl ?_
  unfold g_X10_right
  refine sx_aload_n d_X10_right_0 0 rfl ?_
  refine sx_iload_n d_X10_right_1 1 rfl ?_
  refine sx_callV [.int a0] mv_X10_isPerson lM_StairCount_115 sh_0 (by omega) rfl rfl (Nat.le_of_ble_eq_true rfl) d_X10_right_2 (sp_X10_isPerson (d - 1) (by omega) a0 h) (fun r2 h1 => ?_)
  refine sx_if_eq d_X10_right_5 ?_ ?_
  · refine sx_ldc d_X10_right_16 lK_StairCount_160 ?_
    exact sx_iret rfl d_X10_right_18
  · refine sx_aload_n d_X10_right_8 0 rfl ?_
    refine sx_iload_n d_X10_right_9 2 rfl ?_
    refine sx_callV [.int a1] mv_X10_isFlight lM_StairCount_155 sh_0 (by omega) rfl rfl (Nat.le_of_ble_eq_true rfl) d_X10_right_10 (sp_X10_isFlight (d - 1) (by omega) a1 h1) (fun r4 h3 => ?_)
    refine sx_if_ne d_X10_right_13 ?_ ?_
    · refine sx_ldc d_X10_right_16 lK_StairCount_160 ?_
      exact sx_iret rfl d_X10_right_18
    · refine sx_aload_n d_X10_right_19 0 rfl ?_
      refine sx_getF (a' := 52) fl_StairCount_30 sh_0 rfl rfl d_X10_right_20 ?_
      refine sx_getF (a' := 57) fl_StairCount_161 sh_52 rfl rfl d_X10_right_23 ?_
      refine sx_iload_n d_X10_right_26 1 rfl ?_
      refine sx_iload_n d_X10_right_27 2 rfl ?_
      refine sx_callS [.int a0, .int a1] ms_X10_cell lM_StairCount_164 (by omega) rfl rfl (Nat.le_of_ble_eq_true rfl) d_X10_right_28 (sp_X10_cell (d - 1) (by omega) a0 a1 h3) (fun r6 h5 => ?_)
      refine sx_iald sh_57 d_X10_right_31 (fun v7 => ?_)
      refine sx_istore_n (i := 3) (lc' := [(3, .int v7), (0, .ref 0), (1, .int a0), (2, .int a1)]) d_X10_right_32 rfl (by decide) rfl ?_
      refine sx_iload_n d_X10_right_33 0 rfl ?_
      refine sx_if_ne d_X10_right_34 ?_ ?_
      · refine sx_ldc d_X10_right_37 lK_StairCount_160 ?_
        exact sx_iret rfl d_X10_right_39
      · refine sx_aload_n d_X10_right_40 1 rfl ?_
        refine sx_getF (a' := 64) fl_StairCount_40 sh_0 rfl rfl d_X10_right_41 ?_
        refine sx_aload_n d_X10_right_44 1 rfl ?_
        refine sx_getF (a' := 52) fl_StairCount_30 sh_0 rfl rfl d_X10_right_45 ?_
        refine sx_callV [.ref 52] mv_X4_push lM_StairCount_236 sh_64 (by omega) rfl rfl (Nat.le_of_ble_eq_true rfl) d_X10_right_48 (sp_X4_push (d - 1) (by omega) 52 h5) (fun _ h8 => ?_)
        refine sx_aload_n d_X10_right_51 1 rfl ?_
        refine sx_getF (a' := 52) fl_StairCount_30 sh_0 rfl rfl d_X10_right_52 ?_
        refine sx_getF (a' := 57) fl_StairCount_161 sh_52 rfl rfl d_X10_right_55 ?_
        refine sx_iload_n d_X10_right_58 2 rfl ?_
        refine sx_iload_n d_X10_right_59 3 rfl ?_
        refine sx_callS [.int a0, .int a1] ms_X10_cell lM_StairCount_164 (by omega) rfl rfl (Nat.le_of_ble_eq_true rfl) d_X10_right_60 (sp_X10_cell (d - 1) (by omega) a0 a1 h8) (fun r11 h10 => ?_)
        refine sx_iconst d_X10_right_63 ic0 ?_
        refine sx_iast sh_57 d_X10_right_64 (fun h12 => ?_)
        refine sx_iload_n d_X10_right_65 0 rfl ?_
        exact sx_iret rfl d_X10_right_66
theorem d_X10_go_0 : DC mi_X10_go 0 (.iload_n 1) 1 1 := ⟨by decide +kernel, rfl⟩
theorem d_X10_go_1 : DB mi_X10_go 1 (.ifCond .lt 25) 25 4 26 := ⟨by decide +kernel, rfl, by decide⟩
theorem d_X10_go_4 : DC mi_X10_go 4 (.iload_n 1) 1 5 := ⟨by decide +kernel, rfl⟩
theorem d_X10_go_5 : DC mi_X10_go 5 (.sipush 200) 3 8 := ⟨by decide +kernel, rfl⟩
theorem d_X10_go_8 : DB mi_X10_go 8 (.if_icmp .gt 18) 18 11 26 := ⟨by decide +kernel, rfl, by decide⟩
theorem d_X10_go_11 : DC mi_X10_go 11 (.aload_n 0) 1 12 := ⟨by decide +kernel, rfl⟩
theorem d_X10_go_12 : DC mi_X10_go 12 (.getfield 30) 3 15 := ⟨by decide +kernel, rfl⟩
theorem d_X10_go_15 : DC mi_X10_go 15 (.getfield 218) 3 18 := ⟨by decide +kernel, rfl⟩
theorem d_X10_go_18 : DC mi_X10_go 18 (.iload_n 1) 1 19 := ⟨by decide +kernel, rfl⟩
theorem d_X10_go_19 : DC mi_X10_go 19 (.iadd) 1 20 := ⟨by decide +kernel, rfl⟩
theorem d_X10_go_20 : DC mi_X10_go 20 (.sipush 9800) 3 23 := ⟨by decide +kernel, rfl⟩
theorem d_X10_go_23 : DB mi_X10_go 23 (.if_icmp .le 5) 5 26 28 := ⟨by decide +kernel, rfl, by decide⟩
theorem d_X10_go_26 : DC mi_X10_go 26 (.iconst (-1)) 1 27 := ⟨by decide +kernel, rfl⟩
theorem d_X10_go_27 : DC mi_X10_go 27 (.ireturn) 1 28 := ⟨by decide +kernel, rfl⟩
theorem d_X10_go_28 : DC mi_X10_go 28 (.iload_n 1) 1 29 := ⟨by decide +kernel, rfl⟩
theorem d_X10_go_29 : DB mi_X10_go 29 (.ifCond .le 10) 10 32 39 := ⟨by decide +kernel, rfl, by decide⟩
theorem d_X10_go_32 : DC mi_X10_go 32 (.aload_n 0) 1 33 := ⟨by decide +kernel, rfl⟩
theorem d_X10_go_33 : DC mi_X10_go 33 (.getfield 40) 3 36 := ⟨by decide +kernel, rfl⟩
theorem d_X10_go_36 : DC mi_X10_go 36 (.invokevirtual 105) 3 39 := ⟨by decide +kernel, rfl⟩
theorem d_X10_go_39 : DC mi_X10_go 39 (.aload_n 0) 1 40 := ⟨by decide +kernel, rfl⟩
theorem d_X10_go_40 : DC mi_X10_go 40 (.getfield 54) 3 43 := ⟨by decide +kernel, rfl⟩
theorem d_X10_go_43 : DC mi_X10_go 43 (.aload_n 0) 1 44 := ⟨by decide +kernel, rfl⟩
theorem d_X10_go_44 : DC mi_X10_go 44 (.getfield 16) 3 47 := ⟨by decide +kernel, rfl⟩
theorem d_X10_go_47 : DC mi_X10_go 47 (.aload_n 0) 1 48 := ⟨by decide +kernel, rfl⟩
theorem d_X10_go_48 : DC mi_X10_go 48 (.getfield 30) 3 51 := ⟨by decide +kernel, rfl⟩
theorem d_X10_go_51 : DC mi_X10_go 51 (.iconst 0) 1 52 := ⟨by decide +kernel, rfl⟩
theorem d_X10_go_52 : DC mi_X10_go 52 (.invokevirtual 119) 3 55 := ⟨by decide +kernel, rfl⟩
theorem d_X10_go_55 : DC mi_X10_go 55 (.aload_n 0) 1 56 := ⟨by decide +kernel, rfl⟩
theorem d_X10_go_56 : DC mi_X10_go 56 (.getfield 54) 3 59 := ⟨by decide +kernel, rfl⟩
theorem d_X10_go_59 : DC mi_X10_go 59 (.iload_n 1) 1 60 := ⟨by decide +kernel, rfl⟩
theorem d_X10_go_60 : DC mi_X10_go 60 (.invokevirtual 243) 3 63 := ⟨by decide +kernel, rfl⟩
theorem d_X10_go_63 : DC mi_X10_go 63 (.aload_n 0) 1 64 := ⟨by decide +kernel, rfl⟩
theorem d_X10_go_64 : DC mi_X10_go 64 (.getfield 30) 3 67 := ⟨by decide +kernel, rfl⟩
theorem d_X10_go_67 : DC mi_X10_go 67 (.getfield 218) 3 70 := ⟨by decide +kernel, rfl⟩
theorem d_X10_go_70 : DC mi_X10_go 70 (.ireturn) 1 71 := ⟨by decide +kernel, rfl⟩
set_option maxHeartbeats 4000000 in
set_option maxRecDepth 100000 in
theorem sp_X10_go (d : Nat) (hd : 7 ≤ d) (a0 : Int32) (h : HH) : Sp mi_X10_go d iI [.ref 0, .int a0] h (g_X10_go a0 h) := by
  refine sp_of (lc := [(0, .ref 0), (1, .int a0)]) (by decide) (Nat.le_of_ble_eq_true rfl) rfl ?_
  unfold g_X10_go
  refine sx_iload_n d_X10_go_0 1 rfl ?_
  refine sx_if_lt d_X10_go_1 ?_ ?_
  · refine sx_iconst d_X10_go_26 icm1 ?_
    exact sx_iret rfl d_X10_go_27
  · refine sx_iload_n d_X10_go_4 1 rfl ?_
    refine sx_sipush d_X10_go_5 sc200 ?_
    refine sx_icmp_gt d_X10_go_8 ?_ ?_
    · refine sx_iconst d_X10_go_26 icm1 ?_
      exact sx_iret rfl d_X10_go_27
    · refine sx_aload_n d_X10_go_11 0 rfl ?_
      refine sx_getF (a' := 52) fl_StairCount_30 sh_0 rfl rfl d_X10_go_12 ?_
      refine sx_getI fl_StairCount_218 sh_52 rfl d_X10_go_15 (fun v1 => ?_)
      refine sx_iload_n d_X10_go_18 1 rfl ?_
      refine sx_iadd d_X10_go_19 ?_
      refine sx_sipush d_X10_go_20 sc9800 ?_
      refine sx_icmp_le d_X10_go_23 ?_ ?_
      · refine sx_iconst d_X10_go_26 icm1 ?_
        exact sx_iret rfl d_X10_go_27
      · refine sx_iload_n d_X10_go_28 1 rfl ?_
        refine sx_jn (fun j => ∀  (h : HH), Sx mi_X10_go d iI (j  h) 39 [(0, .ref 0), (1, .int a0)] [] h) ?_ ?_
        · intro  h4
          refine sx_aload_n d_X10_go_39 0 rfl ?_
          refine sx_getF (a' := 193) fl_StairCount_54 sh_0 rfl rfl d_X10_go_40 ?_
          refine sx_aload_n d_X10_go_43 0 rfl ?_
          refine sx_getR fl_StairCount_16 sh_0 rfl d_X10_go_44 (fun p5 => ?_)
          refine sx_ckH (fun ep5 => ?_)
          refine sx_aload_n d_X10_go_47 0 rfl ?_
          refine sx_getF (a' := 52) fl_StairCount_30 sh_0 rfl rfl d_X10_go_48 ?_
          refine sx_iconst d_X10_go_51 ic0 ?_
          refine sx_callV [.ref p5, .ref 52, .int (0 : Int32)] mv_X0_begin lM_StairCount_119 sh_193 (by omega) rfl rfl (Nat.le_of_ble_eq_true rfl) d_X10_go_52 (sp_X0_begin (d - 1) (by omega) p5 52 (0 : Int32) h4) (fun _ h6 => ?_)
          refine sx_aload_n d_X10_go_55 0 rfl ?_
          refine sx_getF (a' := 193) fl_StairCount_54 sh_0 rfl rfl d_X10_go_56 ?_
          refine sx_iload_n d_X10_go_59 1 rfl ?_
          refine sx_callV [.int a0] mv_X0_pass lM_StairCount_243 sh_193 (by omega) rfl rfl (Nat.le_of_ble_eq_true rfl) d_X10_go_60 (sp_X0_pass (d - 1) (by omega) a0 h6) (fun _ h8 => ?_)
          refine sx_aload_n d_X10_go_63 0 rfl ?_
          refine sx_getF (a' := 52) fl_StairCount_30 sh_0 rfl rfl d_X10_go_64 ?_
          refine sx_getI fl_StairCount_218 sh_52 rfl d_X10_go_67 (fun v10 => ?_)
          exact sx_iret rfl d_X10_go_70
        · intro j2 k3
          refine sx_if_le d_X10_go_29 ?_ ?_
          · refine sx_aload_n d_X10_go_32 0 rfl ?_
            refine sx_getF (a' := 64) fl_StairCount_40 sh_0 rfl rfl d_X10_go_33 ?_
            refine sx_callV [] mv_X4_clear lM_StairCount_105 sh_64 (by omega) rfl rfl (Nat.le_of_ble_eq_true rfl) d_X10_go_36 (sp_X4_clear (d - 1) (by omega) h) (fun _ h11 => ?_)
            exact k3 h11
          · exact k3 h
theorem d_X10_undo_0 : DC mi_X10_undo 0 (.aload_n 0) 1 1 := ⟨by decide +kernel, rfl⟩
theorem d_X10_undo_1 : DC mi_X10_undo 1 (.getfield 40) 3 4 := ⟨by decide +kernel, rfl⟩
theorem d_X10_undo_4 : DC mi_X10_undo 4 (.aload_n 0) 1 5 := ⟨by decide +kernel, rfl⟩
theorem d_X10_undo_5 : DC mi_X10_undo 5 (.getfield 30) 3 8 := ⟨by decide +kernel, rfl⟩
theorem d_X10_undo_8 : DC mi_X10_undo 8 (.invokevirtual 246) 3 11 := ⟨by decide +kernel, rfl⟩
theorem d_X10_undo_11 : DB mi_X10_undo 11 (.ifCond .eq 13) 13 14 24 := ⟨by decide +kernel, rfl, by decide⟩
theorem d_X10_undo_14 : DC mi_X10_undo 14 (.aload_n 0) 1 15 := ⟨by decide +kernel, rfl⟩
theorem d_X10_undo_15 : DC mi_X10_undo 15 (.getfield 40) 3 18 := ⟨by decide +kernel, rfl⟩
theorem d_X10_undo_18 : DC mi_X10_undo 18 (.getfield 235) 3 21 := ⟨by decide +kernel, rfl⟩
theorem d_X10_undo_21 : DB mi_X10_undo 21 (.goto 4) 4 24 25 := ⟨by decide +kernel, rfl, by decide⟩
theorem d_X10_undo_24 : DC mi_X10_undo 24 (.iconst (-1)) 1 25 := ⟨by decide +kernel, rfl⟩
theorem d_X10_undo_25 : DC mi_X10_undo 25 (.ireturn) 1 26 := ⟨by decide +kernel, rfl⟩
set_option maxHeartbeats 4000000 in
set_option maxRecDepth 100000 in
theorem sp_X10_undo (d : Nat) (hd : 3 ≤ d) (h : HH) : Sp mi_X10_undo d iI [.ref 0] h (g_X10_undo h) := by
  refine sp_of (lc := [(0, .ref 0)]) (by decide) (Nat.le_of_ble_eq_true rfl) rfl ?_
  unfold g_X10_undo
  refine sx_aload_n d_X10_undo_0 0 rfl ?_
  refine sx_getF (a' := 64) fl_StairCount_40 sh_0 rfl rfl d_X10_undo_1 ?_
  refine sx_aload_n d_X10_undo_4 0 rfl ?_
  refine sx_getF (a' := 52) fl_StairCount_30 sh_0 rfl rfl d_X10_undo_5 ?_
  refine sx_callV [.ref 52] mv_X4_pop lM_StairCount_246 sh_64 (by omega) rfl rfl (Nat.le_of_ble_eq_true rfl) d_X10_undo_8 (sp_X4_pop (d - 1) (by omega) 52 h) (fun r2 h1 => ?_)
  refine sx_if_eq d_X10_undo_11 ?_ ?_
  · refine sx_iconst d_X10_undo_24 icm1 ?_
    exact sx_iret rfl d_X10_undo_25
  · refine sx_aload_n d_X10_undo_14 0 rfl ?_
    refine sx_getF (a' := 64) fl_StairCount_40 sh_0 rfl rfl d_X10_undo_15 ?_
    refine sx_getI fl_StairCount_235 sh_64 rfl d_X10_undo_18 (fun v3 => ?_)
    refine sx_goto d_X10_undo_21 ?_
    exact sx_iret rfl d_X10_undo_25
theorem d_X10_keep_0 : DC mi_X10_keep 0 (.aload_n 0) 1 1 := ⟨by decide +kernel, rfl⟩
theorem d_X10_keep_1 : DC mi_X10_keep 1 (.getfield 34) 3 4 := ⟨by decide +kernel, rfl⟩
theorem d_X10_keep_4 : DC mi_X10_keep 4 (.aload_n 0) 1 5 := ⟨by decide +kernel, rfl⟩
theorem d_X10_keep_5 : DC mi_X10_keep 5 (.getfield 30) 3 8 := ⟨by decide +kernel, rfl⟩
theorem d_X10_keep_8 : DC mi_X10_keep 8 (.invokevirtual 94) 3 11 := ⟨by decide +kernel, rfl⟩
theorem d_X10_keep_11 : DC mi_X10_keep 11 (.aload_n 0) 1 12 := ⟨by decide +kernel, rfl⟩
theorem d_X10_keep_12 : DC mi_X10_keep 12 (.iconst 1) 1 13 := ⟨by decide +kernel, rfl⟩
theorem d_X10_keep_13 : DC mi_X10_keep 13 (.putfield 101) 3 16 := ⟨by decide +kernel, rfl⟩
theorem d_X10_keep_16 : DC mi_X10_keep 16 (.aload_n 0) 1 17 := ⟨by decide +kernel, rfl⟩
theorem d_X10_keep_17 : DC mi_X10_keep 17 (.getfield 34) 3 20 := ⟨by decide +kernel, rfl⟩
theorem d_X10_keep_20 : DC mi_X10_keep 20 (.getfield 218) 3 23 := ⟨by decide +kernel, rfl⟩
theorem d_X10_keep_23 : DC mi_X10_keep 23 (.ireturn) 1 24 := ⟨by decide +kernel, rfl⟩
set_option maxHeartbeats 4000000 in
set_option maxRecDepth 100000 in
theorem sp_X10_keep (d : Nat) (hd : 2 ≤ d) (h : HH) : Sp mi_X10_keep d iI [.ref 0] h (g_X10_keep h) := by
  refine sp_of (lc := [(0, .ref 0)]) (by decide) (Nat.le_of_ble_eq_true rfl) rfl ?_
  unfold g_X10_keep
  refine sx_aload_n d_X10_keep_0 0 rfl ?_
  refine sx_getF (a' := 58) fl_StairCount_34 sh_0 rfl rfl d_X10_keep_1 ?_
  refine sx_aload_n d_X10_keep_4 0 rfl ?_
  refine sx_getF (a' := 52) fl_StairCount_30 sh_0 rfl rfl d_X10_keep_5 ?_
  refine sx_callV [.ref 52] mv_X7_take lM_StairCount_94 sh_58 (by omega) rfl rfl (Nat.le_of_ble_eq_true rfl) d_X10_keep_8 (sp_X7_take (d - 1) (by omega) 58 52 h) (fun _ h1 => ?_)
  refine sx_aload_n d_X10_keep_11 0 rfl ?_
  refine sx_iconst d_X10_keep_12 ic1 ?_
  refine sx_putZ (by decide) fl_StairCount_101 sh_0 rfl hty_10_6 d_X10_keep_13 (fun h3 => ?_)
  refine sx_aload_n d_X10_keep_16 0 rfl ?_
  refine sx_getF (a' := 58) fl_StairCount_34 sh_0 rfl rfl d_X10_keep_17 ?_
  refine sx_getI fl_StairCount_218 sh_58 rfl d_X10_keep_20 (fun v4 => ?_)
  exact sx_iret rfl d_X10_keep_23
theorem d_X10_back_0 : DC mi_X10_back 0 (.aload_n 0) 1 1 := ⟨by decide +kernel, rfl⟩
theorem d_X10_back_1 : DC mi_X10_back 1 (.getfield 101) 3 4 := ⟨by decide +kernel, rfl⟩
theorem d_X10_back_4 : DB mi_X10_back 4 (.ifCond .ne 5) 5 7 9 := ⟨by decide +kernel, rfl, by decide⟩
theorem d_X10_back_7 : DC mi_X10_back 7 (.iconst (-1)) 1 8 := ⟨by decide +kernel, rfl⟩
theorem d_X10_back_8 : DC mi_X10_back 8 (.ireturn) 1 9 := ⟨by decide +kernel, rfl⟩
theorem d_X10_back_9 : DC mi_X10_back 9 (.aload_n 0) 1 10 := ⟨by decide +kernel, rfl⟩
theorem d_X10_back_10 : DC mi_X10_back 10 (.getfield 30) 3 13 := ⟨by decide +kernel, rfl⟩
theorem d_X10_back_13 : DC mi_X10_back 13 (.aload_n 0) 1 14 := ⟨by decide +kernel, rfl⟩
theorem d_X10_back_14 : DC mi_X10_back 14 (.getfield 34) 3 17 := ⟨by decide +kernel, rfl⟩
theorem d_X10_back_17 : DC mi_X10_back 17 (.invokevirtual 94) 3 20 := ⟨by decide +kernel, rfl⟩
theorem d_X10_back_20 : DC mi_X10_back 20 (.aload_n 0) 1 21 := ⟨by decide +kernel, rfl⟩
theorem d_X10_back_21 : DC mi_X10_back 21 (.getfield 40) 3 24 := ⟨by decide +kernel, rfl⟩
theorem d_X10_back_24 : DC mi_X10_back 24 (.invokevirtual 105) 3 27 := ⟨by decide +kernel, rfl⟩
theorem d_X10_back_27 : DC mi_X10_back 27 (.aload_n 0) 1 28 := ⟨by decide +kernel, rfl⟩
theorem d_X10_back_28 : DC mi_X10_back 28 (.getfield 30) 3 31 := ⟨by decide +kernel, rfl⟩
theorem d_X10_back_31 : DC mi_X10_back 31 (.getfield 218) 3 34 := ⟨by decide +kernel, rfl⟩
theorem d_X10_back_34 : DC mi_X10_back 34 (.ireturn) 1 35 := ⟨by decide +kernel, rfl⟩
set_option maxHeartbeats 4000000 in
set_option maxRecDepth 100000 in
theorem sp_X10_back (d : Nat) (hd : 2 ≤ d) (h : HH) : Sp mi_X10_back d iI [.ref 0] h (g_X10_back h) := by
  refine sp_of (lc := [(0, .ref 0)]) (by decide) (Nat.le_of_ble_eq_true rfl) rfl ?_
  unfold g_X10_back
  refine sx_aload_n d_X10_back_0 0 rfl ?_
  refine sx_getI fl_StairCount_101 sh_0 rfl d_X10_back_1 (fun v1 => ?_)
  refine sx_if_ne d_X10_back_4 ?_ ?_
  · refine sx_iconst d_X10_back_7 icm1 ?_
    exact sx_iret rfl d_X10_back_8
  · refine sx_aload_n d_X10_back_9 0 rfl ?_
    refine sx_getF (a' := 52) fl_StairCount_30 sh_0 rfl rfl d_X10_back_10 ?_
    refine sx_aload_n d_X10_back_13 0 rfl ?_
    refine sx_getF (a' := 58) fl_StairCount_34 sh_0 rfl rfl d_X10_back_14 ?_
    refine sx_callV [.ref 58] mv_X7_take lM_StairCount_94 sh_52 (by omega) rfl rfl (Nat.le_of_ble_eq_true rfl) d_X10_back_17 (sp_X7_take (d - 1) (by omega) 52 58 h) (fun _ h2 => ?_)
    refine sx_aload_n d_X10_back_20 0 rfl ?_
    refine sx_getF (a' := 64) fl_StairCount_40 sh_0 rfl rfl d_X10_back_21 ?_
    refine sx_callV [] mv_X4_clear lM_StairCount_105 sh_64 (by omega) rfl rfl (Nat.le_of_ble_eq_true rfl) d_X10_back_24 (sp_X4_clear (d - 1) (by omega) h2) (fun _ h4 => ?_)
    refine sx_aload_n d_X10_back_27 0 rfl ?_
    refine sx_getF (a' := 52) fl_StairCount_30 sh_0 rfl rfl d_X10_back_28 ?_
    refine sx_getI fl_StairCount_218 sh_52 rfl d_X10_back_31 (fun v6 => ?_)
    exact sx_iret rfl d_X10_back_34
theorem d_X10_startTrial_0 : DC mi_X10_startTrial 0 (.aload_n 0) 1 1 := ⟨by decide +kernel, rfl⟩
theorem d_X10_startTrial_1 : DC mi_X10_startTrial 1 (.getfield 54) 3 4 := ⟨by decide +kernel, rfl⟩
theorem d_X10_startTrial_4 : DC mi_X10_startTrial 4 (.getfield 250) 3 7 := ⟨by decide +kernel, rfl⟩
theorem d_X10_startTrial_7 : DC mi_X10_startTrial 7 (.aload_n 0) 1 8 := ⟨by decide +kernel, rfl⟩
theorem d_X10_startTrial_8 : DC mi_X10_startTrial 8 (.getfield 30) 3 11 := ⟨by decide +kernel, rfl⟩
theorem d_X10_startTrial_11 : DC mi_X10_startTrial 11 (.invokevirtual 94) 3 14 := ⟨by decide +kernel, rfl⟩
theorem d_X10_startTrial_14 : DC mi_X10_startTrial 14 (.aload_n 0) 1 15 := ⟨by decide +kernel, rfl⟩
theorem d_X10_startTrial_15 : DC mi_X10_startTrial 15 (.getfield 54) 3 18 := ⟨by decide +kernel, rfl⟩
theorem d_X10_startTrial_18 : DC mi_X10_startTrial 18 (.aload_n 0) 1 19 := ⟨by decide +kernel, rfl⟩
theorem d_X10_startTrial_19 : DC mi_X10_startTrial 19 (.getfield 16) 3 22 := ⟨by decide +kernel, rfl⟩
theorem d_X10_startTrial_22 : DC mi_X10_startTrial 22 (.aload_n 0) 1 23 := ⟨by decide +kernel, rfl⟩
theorem d_X10_startTrial_23 : DC mi_X10_startTrial 23 (.getfield 54) 3 26 := ⟨by decide +kernel, rfl⟩
theorem d_X10_startTrial_26 : DC mi_X10_startTrial 26 (.getfield 250) 3 29 := ⟨by decide +kernel, rfl⟩
theorem d_X10_startTrial_29 : DC mi_X10_startTrial 29 (.iload_n 1) 1 30 := ⟨by decide +kernel, rfl⟩
theorem d_X10_startTrial_30 : DC mi_X10_startTrial 30 (.invokevirtual 119) 3 33 := ⟨by decide +kernel, rfl⟩
theorem d_X10_startTrial_33 : DC mi_X10_startTrial 33 (.aload_n 0) 1 34 := ⟨by decide +kernel, rfl⟩
theorem d_X10_startTrial_34 : DC mi_X10_startTrial 34 (.getfield 54) 3 37 := ⟨by decide +kernel, rfl⟩
theorem d_X10_startTrial_37 : DC mi_X10_startTrial 37 (.getfield 250) 3 40 := ⟨by decide +kernel, rfl⟩
theorem d_X10_startTrial_40 : DC mi_X10_startTrial 40 (.areturn) 1 41 := ⟨by decide +kernel, rfl⟩
set_option maxHeartbeats 4000000 in
set_option maxRecDepth 100000 in
theorem sp_X10_startTrial (d : Nat) (hd : 2 ≤ d) (a0 : Int32) (h : HH) : Sp mi_X10_startTrial d iR [.ref 0, .int a0] h (g_X10_startTrial a0 h) := by
  refine sp_of (lc := [(0, .ref 0), (1, .int a0)]) (by decide) (Nat.le_of_ble_eq_true rfl) rfl ?_
  unfold g_X10_startTrial
  refine sx_aload_n d_X10_startTrial_0 0 rfl ?_
  refine sx_getF (a' := 193) fl_StairCount_54 sh_0 rfl rfl d_X10_startTrial_1 ?_
  refine sx_getF (a' := 196) fl_StairCount_250 sh_193 rfl rfl d_X10_startTrial_4 ?_
  refine sx_aload_n d_X10_startTrial_7 0 rfl ?_
  refine sx_getF (a' := 52) fl_StairCount_30 sh_0 rfl rfl d_X10_startTrial_8 ?_
  refine sx_callV [.ref 52] mv_X7_take lM_StairCount_94 sh_196 (by omega) rfl rfl (Nat.le_of_ble_eq_true rfl) d_X10_startTrial_11 (sp_X7_take (d - 1) (by omega) 196 52 h) (fun _ h1 => ?_)
  refine sx_aload_n d_X10_startTrial_14 0 rfl ?_
  refine sx_getF (a' := 193) fl_StairCount_54 sh_0 rfl rfl d_X10_startTrial_15 ?_
  refine sx_aload_n d_X10_startTrial_18 0 rfl ?_
  refine sx_getR fl_StairCount_16 sh_0 rfl d_X10_startTrial_19 (fun p3 => ?_)
  refine sx_ckH (fun ep3 => ?_)
  refine sx_aload_n d_X10_startTrial_22 0 rfl ?_
  refine sx_getF (a' := 193) fl_StairCount_54 sh_0 rfl rfl d_X10_startTrial_23 ?_
  refine sx_getF (a' := 196) fl_StairCount_250 sh_193 rfl rfl d_X10_startTrial_26 ?_
  refine sx_iload_n d_X10_startTrial_29 1 rfl ?_
  refine sx_callV [.ref p3, .ref 196, .int a0] mv_X0_begin lM_StairCount_119 sh_193 (by omega) rfl rfl (Nat.le_of_ble_eq_true rfl) d_X10_startTrial_30 (sp_X0_begin (d - 1) (by omega) p3 196 a0 h1) (fun _ h4 => ?_)
  refine sx_aload_n d_X10_startTrial_33 0 rfl ?_
  refine sx_getF (a' := 193) fl_StairCount_54 sh_0 rfl rfl d_X10_startTrial_34 ?_
  refine sx_getF (a' := 196) fl_StairCount_250 sh_193 rfl rfl d_X10_startTrial_37 ?_
  exact sx_aret (ty := (.object "StairCount$State")) rfl (Or.inl ⟨_, rfl⟩) d_X10_startTrial_40
theorem d_X10_ahead_0 : DC mi_X10_ahead 0 (.iload_n 2) 1 1 := ⟨by decide +kernel, rfl⟩
theorem d_X10_ahead_1 : DB mi_X10_ahead 1 (.ifCond .eq 8) 8 4 9 := ⟨by decide +kernel, rfl, by decide⟩
theorem d_X10_ahead_4 : DC mi_X10_ahead 4 (.iload_n 2) 1 5 := ⟨by decide +kernel, rfl⟩
theorem d_X10_ahead_5 : DC mi_X10_ahead 5 (.iconst 1) 1 6 := ⟨by decide +kernel, rfl⟩
theorem d_X10_ahead_6 : DB mi_X10_ahead 6 (.if_icmp .ne 7) 7 9 13 := ⟨by decide +kernel, rfl, by decide⟩
theorem d_X10_ahead_9 : DC mi_X10_ahead 9 (.iconst 1) 1 10 := ⟨by decide +kernel, rfl⟩
theorem d_X10_ahead_10 : DB mi_X10_ahead 10 (.goto 4) 4 13 14 := ⟨by decide +kernel, rfl, by decide⟩
theorem d_X10_ahead_13 : DC mi_X10_ahead 13 (.iconst 0) 1 14 := ⟨by decide +kernel, rfl⟩
theorem d_X10_ahead_14 : DC mi_X10_ahead 14 (.istore 4) 2 16 := ⟨by decide +kernel, rfl⟩
theorem d_X10_ahead_16 : DC mi_X10_ahead 16 (.iload_n 1) 1 17 := ⟨by decide +kernel, rfl⟩
theorem d_X10_ahead_17 : DB mi_X10_ahead 17 (.ifCond .lt 32) 32 20 49 := ⟨by decide +kernel, rfl, by decide⟩
theorem d_X10_ahead_20 : DC mi_X10_ahead 20 (.iload_n 1) 1 21 := ⟨by decide +kernel, rfl⟩
theorem d_X10_ahead_21 : DC mi_X10_ahead 21 (.sipush 200) 3 24 := ⟨by decide +kernel, rfl⟩
theorem d_X10_ahead_24 : DB mi_X10_ahead 24 (.if_icmp .gt 25) 25 27 49 := ⟨by decide +kernel, rfl, by decide⟩
theorem d_X10_ahead_27 : DC mi_X10_ahead 27 (.iload_n 2) 1 28 := ⟨by decide +kernel, rfl⟩
theorem d_X10_ahead_28 : DB mi_X10_ahead 28 (.ifCond .lt 21) 21 31 49 := ⟨by decide +kernel, rfl, by decide⟩
theorem d_X10_ahead_31 : DC mi_X10_ahead 31 (.iload_n 2) 1 32 := ⟨by decide +kernel, rfl⟩
theorem d_X10_ahead_32 : DC mi_X10_ahead 32 (.iconst 4) 1 33 := ⟨by decide +kernel, rfl⟩
theorem d_X10_ahead_33 : DB mi_X10_ahead 33 (.if_icmp .gt 16) 16 36 49 := ⟨by decide +kernel, rfl, by decide⟩
theorem d_X10_ahead_36 : DC mi_X10_ahead 36 (.iload 4) 2 38 := ⟨by decide +kernel, rfl⟩
theorem d_X10_ahead_38 : DB mi_X10_ahead 38 (.ifCond .eq 13) 13 41 51 := ⟨by decide +kernel, rfl, by decide⟩
theorem d_X10_ahead_41 : DC mi_X10_ahead 41 (.aload_n 0) 1 42 := ⟨by decide +kernel, rfl⟩
theorem d_X10_ahead_42 : DC mi_X10_ahead 42 (.iload_n 3) 1 43 := ⟨by decide +kernel, rfl⟩
theorem d_X10_ahead_43 : DC mi_X10_ahead 43 (.invokevirtual 115) 3 46 := ⟨by decide +kernel, rfl⟩
theorem d_X10_ahead_46 : DB mi_X10_ahead 46 (.ifCond .ne 5) 5 49 51 := ⟨by decide +kernel, rfl, by decide⟩
theorem d_X10_ahead_49 : DC mi_X10_ahead 49 (.iconst (-1)) 1 50 := ⟨by decide +kernel, rfl⟩
theorem d_X10_ahead_50 : DC mi_X10_ahead 50 (.ireturn) 1 51 := ⟨by decide +kernel, rfl⟩
theorem d_X10_ahead_51 : DC mi_X10_ahead 51 (.aload_n 0) 1 52 := ⟨by decide +kernel, rfl⟩
theorem d_X10_ahead_52 : DC mi_X10_ahead 52 (.iconst 1) 1 53 := ⟨by decide +kernel, rfl⟩
theorem d_X10_ahead_53 : DC mi_X10_ahead 53 (.invokevirtual 253) 3 56 := ⟨by decide +kernel, rfl⟩
theorem d_X10_ahead_56 : DC mi_X10_ahead 56 (.astore 5) 2 58 := ⟨by decide +kernel, rfl⟩
theorem d_X10_ahead_58 : DC mi_X10_ahead 58 (.aload_n 0) 1 59 := ⟨by decide +kernel, rfl⟩
theorem d_X10_ahead_59 : DC mi_X10_ahead 59 (.getfield 54) 3 62 := ⟨by decide +kernel, rfl⟩
theorem d_X10_ahead_62 : DC mi_X10_ahead 62 (.iload_n 1) 1 63 := ⟨by decide +kernel, rfl⟩
theorem d_X10_ahead_63 : DC mi_X10_ahead 63 (.invokevirtual 243) 3 66 := ⟨by decide +kernel, rfl⟩
theorem d_X10_ahead_66 : DC mi_X10_ahead 66 (.iload_n 2) 1 67 := ⟨by decide +kernel, rfl⟩
theorem d_X10_ahead_67 : DW mi_X10_ahead 67 (.tableswitch 85 0 3 #[29, 37, 45, 65]) := ⟨29, by decide +kernel⟩
theorem d_X10_ahead_96 : DC mi_X10_ahead 96 (.aload 5) 2 98 := ⟨by decide +kernel, rfl⟩
theorem d_X10_ahead_98 : DC mi_X10_ahead 98 (.getfield 134) 3 101 := ⟨by decide +kernel, rfl⟩
theorem d_X10_ahead_101 : DC mi_X10_ahead 101 (.iload_n 3) 1 102 := ⟨by decide +kernel, rfl⟩
theorem d_X10_ahead_102 : DC mi_X10_ahead 102 (.iaload) 1 103 := ⟨by decide +kernel, rfl⟩
theorem d_X10_ahead_103 : DC mi_X10_ahead 103 (.ireturn) 1 104 := ⟨by decide +kernel, rfl⟩
theorem d_X10_ahead_104 : DC mi_X10_ahead 104 (.aload 5) 2 106 := ⟨by decide +kernel, rfl⟩
theorem d_X10_ahead_106 : DC mi_X10_ahead 106 (.getfield 141) 3 109 := ⟨by decide +kernel, rfl⟩
theorem d_X10_ahead_109 : DC mi_X10_ahead 109 (.iload_n 3) 1 110 := ⟨by decide +kernel, rfl⟩
theorem d_X10_ahead_110 : DC mi_X10_ahead 110 (.iaload) 1 111 := ⟨by decide +kernel, rfl⟩
theorem d_X10_ahead_111 : DC mi_X10_ahead 111 (.ireturn) 1 112 := ⟨by decide +kernel, rfl⟩
theorem d_X10_ahead_112 : DC mi_X10_ahead 112 (.aload 5) 2 114 := ⟨by decide +kernel, rfl⟩
theorem d_X10_ahead_114 : DC mi_X10_ahead 114 (.getfield 144) 3 117 := ⟨by decide +kernel, rfl⟩
theorem d_X10_ahead_117 : DC mi_X10_ahead 117 (.invokestatic 225) 3 120 := ⟨by decide +kernel, rfl⟩
theorem d_X10_ahead_120 : DC mi_X10_ahead 120 (.aload_n 0) 1 121 := ⟨by decide +kernel, rfl⟩
theorem d_X10_ahead_121 : DC mi_X10_ahead 121 (.getfield 30) 3 124 := ⟨by decide +kernel, rfl⟩
theorem d_X10_ahead_124 : DC mi_X10_ahead 124 (.getfield 144) 3 127 := ⟨by decide +kernel, rfl⟩
theorem d_X10_ahead_127 : DC mi_X10_ahead 127 (.invokestatic 225) 3 130 := ⟨by decide +kernel, rfl⟩
theorem d_X10_ahead_130 : DC mi_X10_ahead 130 (.isub) 1 131 := ⟨by decide +kernel, rfl⟩
theorem d_X10_ahead_131 : DC mi_X10_ahead 131 (.ireturn) 1 132 := ⟨by decide +kernel, rfl⟩
theorem d_X10_ahead_132 : DC mi_X10_ahead 132 (.aload 5) 2 134 := ⟨by decide +kernel, rfl⟩
theorem d_X10_ahead_134 : DC mi_X10_ahead 134 (.getfield 147) 3 137 := ⟨by decide +kernel, rfl⟩
theorem d_X10_ahead_137 : DC mi_X10_ahead 137 (.invokestatic 225) 3 140 := ⟨by decide +kernel, rfl⟩
theorem d_X10_ahead_140 : DC mi_X10_ahead 140 (.aload_n 0) 1 141 := ⟨by decide +kernel, rfl⟩
theorem d_X10_ahead_141 : DC mi_X10_ahead 141 (.getfield 30) 3 144 := ⟨by decide +kernel, rfl⟩
theorem d_X10_ahead_144 : DC mi_X10_ahead 144 (.getfield 147) 3 147 := ⟨by decide +kernel, rfl⟩
theorem d_X10_ahead_147 : DC mi_X10_ahead 147 (.invokestatic 225) 3 150 := ⟨by decide +kernel, rfl⟩
theorem d_X10_ahead_150 : DC mi_X10_ahead 150 (.isub) 1 151 := ⟨by decide +kernel, rfl⟩
theorem d_X10_ahead_151 : DC mi_X10_ahead 151 (.ireturn) 1 152 := ⟨by decide +kernel, rfl⟩
theorem d_X10_ahead_152 : DC mi_X10_ahead 152 (.aload 5) 2 154 := ⟨by decide +kernel, rfl⟩
theorem d_X10_ahead_154 : DC mi_X10_ahead 154 (.invokevirtual 221) 3 157 := ⟨by decide +kernel, rfl⟩
theorem d_X10_ahead_157 : DC mi_X10_ahead 157 (.ireturn) 1 158 := ⟨by decide +kernel, rfl⟩
set_option maxHeartbeats 4000000 in
set_option maxRecDepth 100000 in
theorem sp_X10_ahead (d : Nat) (hd : 7 ≤ d) (a0 : Int32) (a1 : Int32) (a2 : Int32) (h : HH) : Sp mi_X10_ahead d iI [.ref 0, .int a0, .int a1, .int a2] h (g_X10_ahead a0 a1 a2 h) := by
  refine sp_of (lc := [(0, .ref 0), (1, .int a0), (2, .int a1), (3, .int a2)]) (by decide) (Nat.le_of_ble_eq_true rfl) rfl ?_
  unfold g_X10_ahead
  refine sx_iload_n d_X10_ahead_0 2 rfl ?_
  refine sx_jn (fun j => ∀ (y4 : Int32) (h : HH), Sx mi_X10_ahead d iI (j y4 h) 14 [(0, .ref 0), (1, .int a0), (2, .int a1), (3, .int a2)] [.int y4] h) ?_ ?_
  · intro y4 h3
    refine sx_istore (i := 4) (lc' := [(4, .int y4), (0, .ref 0), (1, .int a0), (2, .int a1), (3, .int a2)]) d_X10_ahead_14 (by decide) rfl ?_
    refine sx_iload_n d_X10_ahead_16 2 rfl ?_
    refine sx_if_lt d_X10_ahead_17 ?_ ?_
    · refine sx_iconst d_X10_ahead_49 icm1 ?_
      exact sx_iret rfl d_X10_ahead_50
    · refine sx_iload_n d_X10_ahead_20 2 rfl ?_
      refine sx_sipush d_X10_ahead_21 sc200 ?_
      refine sx_icmp_gt d_X10_ahead_24 ?_ ?_
      · refine sx_iconst d_X10_ahead_49 icm1 ?_
        exact sx_iret rfl d_X10_ahead_50
      · refine sx_iload_n d_X10_ahead_27 3 rfl ?_
        refine sx_if_lt d_X10_ahead_28 ?_ ?_
        · refine sx_iconst d_X10_ahead_49 icm1 ?_
          exact sx_iret rfl d_X10_ahead_50
        · refine sx_iload_n d_X10_ahead_31 3 rfl ?_
          refine sx_iconst d_X10_ahead_32 ic4 ?_
          refine sx_icmp_gt d_X10_ahead_33 ?_ ?_
          · refine sx_iconst d_X10_ahead_49 icm1 ?_
            exact sx_iret rfl d_X10_ahead_50
          · refine sx_iload d_X10_ahead_36 0 rfl ?_
            refine sx_jn (fun j => ∀  (h : HH), Sx mi_X10_ahead d iI (j  h) 51 [(0, .ref 0), (1, .int a0), (2, .int a1), (3, .int a2)] [] h) ?_ ?_
            · intro  h7
              refine sx_aload_n d_X10_ahead_51 0 rfl ?_
              refine sx_iconst d_X10_ahead_52 ic1 ?_
              refine sx_callV [.int (1 : Int32)] mv_X10_startTrial lM_StairCount_253 sh_0 (by omega) rfl rfl (Nat.le_of_ble_eq_true rfl) d_X10_ahead_53 (sp_X10_startTrial (d - 1) (by omega) (1 : Int32) h7) (fun r9 h8 => ?_)
              refine sx_ckH (fun er9 => ?_)
              refine sx_astore (i := 5) (lc' := [(5, .ref r9), (0, .ref 0), (1, .int a0), (2, .int a1), (3, .int a2)]) d_X10_ahead_56 (by decide) rfl ?_
              refine sx_aload_n d_X10_ahead_58 1 rfl ?_
              refine sx_getF (a' := 193) fl_StairCount_54 sh_0 rfl rfl d_X10_ahead_59 ?_
              refine sx_iload_n d_X10_ahead_62 2 rfl ?_
              refine sx_callV [.int a0] mv_X0_pass lM_StairCount_243 sh_193 (by omega) rfl rfl (Nat.le_of_ble_eq_true rfl) d_X10_ahead_63 (sp_X0_pass (d - 1) (by omega) a0 h8) (fun _ h10 => ?_)
              refine sx_iload_n d_X10_ahead_66 3 rfl ?_
              refine sx_if (fun e12 => ?_) (fun e12 => ?_)
              · refine sx_tsIn (off := 29) (t := 96) d_X10_ahead_67 (by rw [e12] <;> decide) (by rw [e12] <;> decide) (by rw [e12] <;> decide) (by decide) ?_
                refine sx_aload d_X10_ahead_96 0 rfl ?_
                refine sx_getF (a' := (r9 + 1)) fl_StairCount_134 er9 rfl rfl d_X10_ahead_98 ?_
                refine sx_iload_n d_X10_ahead_101 4 rfl ?_
                refine sx_iald (shf_7_0 er9) d_X10_ahead_102 (fun v13 => ?_)
                exact sx_iret rfl d_X10_ahead_103
              · refine sx_if (fun e14 => ?_) (fun e14 => ?_)
                · refine sx_tsIn (off := 37) (t := 104) d_X10_ahead_67 (by rw [e14] <;> decide) (by rw [e14] <;> decide) (by rw [e14] <;> decide) (by decide) ?_
                  refine sx_aload d_X10_ahead_104 0 rfl ?_
                  refine sx_getF (a' := (r9 + 2)) fl_StairCount_141 er9 rfl rfl d_X10_ahead_106 ?_
                  refine sx_iload_n d_X10_ahead_109 4 rfl ?_
                  refine sx_iald (shf_7_1 er9) d_X10_ahead_110 (fun v15 => ?_)
                  exact sx_iret rfl d_X10_ahead_111
                · refine sx_if (fun e16 => ?_) (fun e16 => ?_)
                  · refine sx_tsIn (off := 45) (t := 112) d_X10_ahead_67 (by rw [e16] <;> decide) (by rw [e16] <;> decide) (by rw [e16] <;> decide) (by decide) ?_
                    refine sx_aload d_X10_ahead_112 0 rfl ?_
                    refine sx_getF (a' := (r9 + 3)) fl_StairCount_144 er9 rfl rfl d_X10_ahead_114 ?_
                    refine sx_callS [.ref (r9 + 3)] ms_X7_sumOf lM_StairCount_225 (by omega) rfl rfl (Nat.le_of_ble_eq_true rfl) d_X10_ahead_117 (sp_X7_sumOf (d - 1) (by omega) (r9 + 3) h10) (fun r18 h17 => ?_)
                    refine sx_aload_n d_X10_ahead_120 1 rfl ?_
                    refine sx_getF (a' := 52) fl_StairCount_30 sh_0 rfl rfl d_X10_ahead_121 ?_
                    refine sx_getF (a' := 55) fl_StairCount_144 sh_52 rfl rfl d_X10_ahead_124 ?_
                    refine sx_callS [.ref 55] ms_X7_sumOf lM_StairCount_225 (by omega) rfl rfl (Nat.le_of_ble_eq_true rfl) d_X10_ahead_127 (sp_X7_sumOf (d - 1) (by omega) 55 h17) (fun r20 h19 => ?_)
                    refine sx_isub d_X10_ahead_130 ?_
                    exact sx_iret rfl d_X10_ahead_131
                  · refine sx_if (fun e21 => ?_) (fun e21 => ?_)
                    · refine sx_tsIn (off := 65) (t := 132) d_X10_ahead_67 (by rw [e21] <;> decide) (by rw [e21] <;> decide) (by rw [e21] <;> decide) (by decide) ?_
                      refine sx_aload d_X10_ahead_132 0 rfl ?_
                      refine sx_getF (a' := (r9 + 4)) fl_StairCount_147 er9 rfl rfl d_X10_ahead_134 ?_
                      refine sx_callS [.ref (r9 + 4)] ms_X7_sumOf lM_StairCount_225 (by omega) rfl rfl (Nat.le_of_ble_eq_true rfl) d_X10_ahead_137 (sp_X7_sumOf (d - 1) (by omega) (r9 + 4) h10) (fun r23 h22 => ?_)
                      refine sx_aload_n d_X10_ahead_140 1 rfl ?_
                      refine sx_getF (a' := 52) fl_StairCount_30 sh_0 rfl rfl d_X10_ahead_141 ?_
                      refine sx_getF (a' := 56) fl_StairCount_147 sh_52 rfl rfl d_X10_ahead_144 ?_
                      refine sx_callS [.ref 56] ms_X7_sumOf lM_StairCount_225 (by omega) rfl rfl (Nat.le_of_ble_eq_true rfl) d_X10_ahead_147 (sp_X7_sumOf (d - 1) (by omega) 56 h22) (fun r25 h24 => ?_)
                      refine sx_isub d_X10_ahead_150 ?_
                      exact sx_iret rfl d_X10_ahead_151
                    · have q0 := ne_toInt (x := a1) (c := (0 : Int32)) (k := 0) e12 ti0
                      have q1 := ne_toInt (x := a1) (c := (1 : Int32)) (k := 1) e14 ti1
                      have q2 := ne_toInt (x := a1) (c := (2 : Int32)) (k := 2) e16 ti2
                      have q3 := ne_toInt (x := a1) (c := (3 : Int32)) (k := 3) e21 ti3
                      refine sx_tsOut (t := 152) d_X10_ahead_67 (by omega) (by decide) ?_
                      refine sx_aload d_X10_ahead_152 0 rfl ?_
                      refine sx_callV [] mv_X7_tallies lM_StairCount_221 er9 (by omega) rfl rfl (Nat.le_of_ble_eq_true rfl) d_X10_ahead_154 (sp_X7_tallies (d - 1) (by omega) r9 h10) (fun r27 h26 => ?_)
                      exact sx_iret rfl d_X10_ahead_157
            · intro j5 k6
              refine sx_if_eq d_X10_ahead_38 ?_ ?_
              · refine sx_lc (lc' := [(0, .ref 0), (1, .int a0), (2, .int a1), (3, .int a2)]) [1, 2, 3, 4] rfl ?_
                exact k6 h3
              · refine sx_aload_n d_X10_ahead_41 1 rfl ?_
                refine sx_iload_n d_X10_ahead_42 4 rfl ?_
                refine sx_callV [.int a2] mv_X10_isPerson lM_StairCount_115 sh_0 (by omega) rfl rfl (Nat.le_of_ble_eq_true rfl) d_X10_ahead_43 (sp_X10_isPerson (d - 1) (by omega) a2 h3) (fun r29 h28 => ?_)
                refine sx_if_ne d_X10_ahead_46 ?_ ?_
                · refine sx_iconst d_X10_ahead_49 icm1 ?_
                  exact sx_iret rfl d_X10_ahead_50
                · refine sx_lc (lc' := [(0, .ref 0), (1, .int a0), (2, .int a1), (3, .int a2)]) [1, 2, 3, 4] rfl ?_
                  exact k6 h28
  · intro j1 k2
    refine sx_jn (fun j => ∀  (h : HH), Sx mi_X10_ahead d iI (j  h) 9 [(0, .ref 0), (1, .int a0), (2, .int a1), (3, .int a2)] [] h) ?_ ?_
    · intro  h32
      refine sx_iconst d_X10_ahead_9 ic1 ?_
      refine sx_goto d_X10_ahead_10 ?_
      exact k2 (1 : Int32) h32
    · intro j30 k31
      refine sx_if_eq d_X10_ahead_1 ?_ ?_
      · exact k31 h
      · refine sx_iload_n d_X10_ahead_4 2 rfl ?_
        refine sx_iconst d_X10_ahead_5 ic1 ?_
        refine sx_icmp_ne d_X10_ahead_6 ?_ ?_
        · exact k31 h
        · refine sx_iconst d_X10_ahead_13 ic0 ?_
          exact k2 (0 : Int32) h
theorem d_X10_there_0 : DC mi_X10_there 0 (.aload_n 0) 1 1 := ⟨by decide +kernel, rfl⟩
theorem d_X10_there_1 : DC mi_X10_there 1 (.iload_n 1) 1 2 := ⟨by decide +kernel, rfl⟩
theorem d_X10_there_2 : DC mi_X10_there 2 (.invokevirtual 115) 3 5 := ⟨by decide +kernel, rfl⟩
theorem d_X10_there_5 : DB mi_X10_there 5 (.ifCond .eq 11) 11 8 16 := ⟨by decide +kernel, rfl, by decide⟩
theorem d_X10_there_8 : DC mi_X10_there 8 (.aload_n 0) 1 9 := ⟨by decide +kernel, rfl⟩
theorem d_X10_there_9 : DC mi_X10_there 9 (.iload_n 2) 1 10 := ⟨by decide +kernel, rfl⟩
theorem d_X10_there_10 : DC mi_X10_there 10 (.invokevirtual 177) 3 13 := ⟨by decide +kernel, rfl⟩
theorem d_X10_there_13 : DB mi_X10_there 13 (.ifCond .ne 5) 5 16 18 := ⟨by decide +kernel, rfl, by decide⟩
theorem d_X10_there_16 : DC mi_X10_there 16 (.iconst (-1)) 1 17 := ⟨by decide +kernel, rfl⟩
theorem d_X10_there_17 : DC mi_X10_there 17 (.ireturn) 1 18 := ⟨by decide +kernel, rfl⟩
theorem d_X10_there_18 : DC mi_X10_there 18 (.aload_n 0) 1 19 := ⟨by decide +kernel, rfl⟩
theorem d_X10_there_19 : DC mi_X10_there 19 (.iconst 1) 1 20 := ⟨by decide +kernel, rfl⟩
theorem d_X10_there_20 : DC mi_X10_there 20 (.invokevirtual 253) 3 23 := ⟨by decide +kernel, rfl⟩
theorem d_X10_there_23 : DC mi_X10_there 23 (.astore_n 3) 1 24 := ⟨by decide +kernel, rfl⟩
theorem d_X10_there_24 : DC mi_X10_there 24 (.iconst 0) 1 25 := ⟨by decide +kernel, rfl⟩
theorem d_X10_there_25 : DC mi_X10_there 25 (.istore 4) 2 27 := ⟨by decide +kernel, rfl⟩
theorem d_X10_there_27 : DC mi_X10_there 27 (.iload 4) 2 29 := ⟨by decide +kernel, rfl⟩
theorem d_X10_there_29 : DC mi_X10_there 29 (.sipush 200) 3 32 := ⟨by decide +kernel, rfl⟩
theorem d_X10_there_32 : DB mi_X10_there 32 (.if_icmp .ge 29) 29 35 61 := ⟨by decide +kernel, rfl, by decide⟩
theorem d_X10_there_35 : DC mi_X10_there 35 (.aload_n 3) 1 36 := ⟨by decide +kernel, rfl⟩
theorem d_X10_there_36 : DC mi_X10_there 36 (.getfield 134) 3 39 := ⟨by decide +kernel, rfl⟩
theorem d_X10_there_39 : DC mi_X10_there 39 (.iload_n 1) 1 40 := ⟨by decide +kernel, rfl⟩
theorem d_X10_there_40 : DC mi_X10_there 40 (.iaload) 1 41 := ⟨by decide +kernel, rfl⟩
theorem d_X10_there_41 : DC mi_X10_there 41 (.iload_n 2) 1 42 := ⟨by decide +kernel, rfl⟩
theorem d_X10_there_42 : DB mi_X10_there 42 (.if_icmp .ne 6) 6 45 48 := ⟨by decide +kernel, rfl, by decide⟩
theorem d_X10_there_45 : DC mi_X10_there 45 (.iload 4) 2 47 := ⟨by decide +kernel, rfl⟩
theorem d_X10_there_47 : DC mi_X10_there 47 (.ireturn) 1 48 := ⟨by decide +kernel, rfl⟩
theorem d_X10_there_48 : DC mi_X10_there 48 (.aload_n 0) 1 49 := ⟨by decide +kernel, rfl⟩
theorem d_X10_there_49 : DC mi_X10_there 49 (.getfield 54) 3 52 := ⟨by decide +kernel, rfl⟩
theorem d_X10_there_52 : DC mi_X10_there 52 (.invokevirtual 257) 3 55 := ⟨by decide +kernel, rfl⟩
theorem d_X10_there_55 : DC mi_X10_there 55 (.iinc 4 1) 3 58 := ⟨by decide +kernel, rfl⟩
theorem d_X10_there_58 : DB mi_X10_there 58 (.goto (-31)) (-31) 61 27 := ⟨by decide +kernel, rfl, by decide⟩
theorem d_X10_there_61 : DC mi_X10_there 61 (.bipush (-2)) 2 63 := ⟨by decide +kernel, rfl⟩
theorem d_X10_there_63 : DC mi_X10_there 63 (.ireturn) 1 64 := ⟨by decide +kernel, rfl⟩
set_option maxHeartbeats 4000000 in
set_option maxRecDepth 100000 in
theorem sL_X10_there_27 (d : Nat) (hd : 6 ≤ d) (c1 : Int32) (c2 : Int32) (b_r6 : Nat) (e3 : shL[b_r6]? = some (.inl 7)) : ∀ (n : Nat) (x4 : Int32) (h : HH), Sx mi_X10_there d iI (g_X10_there_L27 c1 c2 b_r6 n x4 h) 27 [(0, .ref 0), (1, .int c1), (2, .int c2), (3, .ref b_r6), (4, .int x4)] [] h := by
  intro n
  induction n with
  | zero => intro x4 h; exact sx_none
  | succ n ih =>
    intro x4 h
    rw [g_X10_there_L27]
    refine sx_iload d_X10_there_27 4 rfl ?_
    refine sx_sipush d_X10_there_29 sc200 ?_
    refine sx_icmp_ge d_X10_there_32 ?_ ?_
    · refine sx_aload_n d_X10_there_35 3 rfl ?_
      refine sx_getF (a' := (b_r6 + 1)) fl_StairCount_134 e3 rfl rfl d_X10_there_36 ?_
      refine sx_iload_n d_X10_there_39 1 rfl ?_
      refine sx_iald (shf_7_0 e3) d_X10_there_40 (fun v7 => ?_)
      refine sx_iload_n d_X10_there_41 2 rfl ?_
      refine sx_icmp_ne d_X10_there_42 ?_ ?_
      · refine sx_iload d_X10_there_45 4 rfl ?_
        exact sx_iret rfl d_X10_there_47
      · refine sx_aload_n d_X10_there_48 0 rfl ?_
        refine sx_getF (a' := 193) fl_StairCount_54 sh_0 rfl rfl d_X10_there_49 ?_
        refine sx_callV [] mv_X0_passOne lM_StairCount_257 sh_193 (by omega) rfl rfl (Nat.le_of_ble_eq_true rfl) d_X10_there_52 (sp_X0_passOne (d - 1) (by omega) h) (fun _ h8 => ?_)
        refine sx_iincV (lc' := fun v10 => [(4, .int v10), (0, .ref 0), (1, .int c1), (2, .int c2), (3, .ref b_r6)]) (k0 := 4) d_X10_there_55 rfl ii1 (by decide) (fun _ => rfl) (fun v10 => ?_)
        refine sx_goto d_X10_there_58 ?_
        refine sx_lc (lc' := [(0, .ref 0), (1, .int c1), (2, .int c2), (3, .ref b_r6), (4, .int v10)]) [1, 2, 3, 4, 0] rfl ?_
        exact ih v10 h8
    · refine sx_bipush d_X10_there_61 bcm2 ?_
      exact sx_iret rfl d_X10_there_63
set_option maxHeartbeats 4000000 in
set_option maxRecDepth 100000 in
theorem sp_X10_there (d : Nat) (hd : 6 ≤ d) (a0 : Int32) (a1 : Int32) (h : HH) : Sp mi_X10_there d iI [.ref 0, .int a0, .int a1] h (g_X10_there a0 a1 h) := by
  refine sp_of (lc := [(0, .ref 0), (1, .int a0), (2, .int a1)]) (by decide) (Nat.le_of_ble_eq_true rfl) rfl ?_
  unfold g_X10_there
  refine sx_aload_n d_X10_there_0 0 rfl ?_
  refine sx_iload_n d_X10_there_1 1 rfl ?_
  refine sx_callV [.int a0] mv_X10_isPerson lM_StairCount_115 sh_0 (by omega) rfl rfl (Nat.le_of_ble_eq_true rfl) d_X10_there_2 (sp_X10_isPerson (d - 1) (by omega) a0 h) (fun r2 h1 => ?_)
  refine sx_if_eq d_X10_there_5 ?_ ?_
  · refine sx_iconst d_X10_there_16 icm1 ?_
    exact sx_iret rfl d_X10_there_17
  · refine sx_aload_n d_X10_there_8 0 rfl ?_
    refine sx_iload_n d_X10_there_9 2 rfl ?_
    refine sx_callV [.int a1] mv_X10_isFloor lM_StairCount_177 sh_0 (by omega) rfl rfl (Nat.le_of_ble_eq_true rfl) d_X10_there_10 (sp_X10_isFloor (d - 1) (by omega) a1 h1) (fun r4 h3 => ?_)
    refine sx_if_ne d_X10_there_13 ?_ ?_
    · refine sx_iconst d_X10_there_16 icm1 ?_
      exact sx_iret rfl d_X10_there_17
    · refine sx_aload_n d_X10_there_18 0 rfl ?_
      refine sx_iconst d_X10_there_19 ic1 ?_
      refine sx_callV [.int (1 : Int32)] mv_X10_startTrial lM_StairCount_253 sh_0 (by omega) rfl rfl (Nat.le_of_ble_eq_true rfl) d_X10_there_20 (sp_X10_startTrial (d - 1) (by omega) (1 : Int32) h3) (fun r6 h5 => ?_)
      refine sx_ckH (fun er6 => ?_)
      refine sx_astore_n (i := 3) (lc' := [(3, .ref r6), (0, .ref 0), (1, .int a0), (2, .int a1)]) d_X10_there_23 rfl (by decide) rfl ?_
      refine sx_iconst d_X10_there_24 ic0 ?_
      refine sx_istore (i := 4) (lc' := [(4, .int (0 : Int32)), (3, .ref r6), (0, .ref 0), (1, .int a0), (2, .int a1)]) d_X10_there_25 (by decide) rfl ?_
      refine sx_lc (lc' := [(0, .ref 0), (1, .int a0), (2, .int a1), (3, .ref r6), (4, .int (0 : Int32))]) [2, 3, 4, 1, 0] rfl ?_
      refine sL_X10_there_27 d hd a0 a1 r6 (er6) 1024 (0 : Int32) h5
theorem d_X10_highest_0 : DC mi_X10_highest 0 (.aload_n 0) 1 1 := ⟨by decide +kernel, rfl⟩
theorem d_X10_highest_1 : DC mi_X10_highest 1 (.iload_n 1) 1 2 := ⟨by decide +kernel, rfl⟩
theorem d_X10_highest_2 : DC mi_X10_highest 2 (.invokevirtual 115) 3 5 := ⟨by decide +kernel, rfl⟩
theorem d_X10_highest_5 : DB mi_X10_highest 5 (.ifCond .ne 5) 5 8 10 := ⟨by decide +kernel, rfl, by decide⟩
theorem d_X10_highest_8 : DC mi_X10_highest 8 (.iconst (-1)) 1 9 := ⟨by decide +kernel, rfl⟩
theorem d_X10_highest_9 : DC mi_X10_highest 9 (.ireturn) 1 10 := ⟨by decide +kernel, rfl⟩
theorem d_X10_highest_10 : DC mi_X10_highest 10 (.aload_n 0) 1 11 := ⟨by decide +kernel, rfl⟩
theorem d_X10_highest_11 : DC mi_X10_highest 11 (.iconst 2) 1 12 := ⟨by decide +kernel, rfl⟩
theorem d_X10_highest_12 : DC mi_X10_highest 12 (.invokevirtual 253) 3 15 := ⟨by decide +kernel, rfl⟩
theorem d_X10_highest_15 : DC mi_X10_highest 15 (.astore_n 2) 1 16 := ⟨by decide +kernel, rfl⟩
theorem d_X10_highest_16 : DC mi_X10_highest 16 (.aload_n 0) 1 17 := ⟨by decide +kernel, rfl⟩
theorem d_X10_highest_17 : DC mi_X10_highest 17 (.getfield 54) 3 20 := ⟨by decide +kernel, rfl⟩
theorem d_X10_highest_20 : DC mi_X10_highest 20 (.iload_n 1) 1 21 := ⟨by decide +kernel, rfl⟩
theorem d_X10_highest_21 : DC mi_X10_highest 21 (.aload_n 0) 1 22 := ⟨by decide +kernel, rfl⟩
theorem d_X10_highest_22 : DC mi_X10_highest 22 (.getfield 16) 3 25 := ⟨by decide +kernel, rfl⟩
theorem d_X10_highest_25 : DC mi_X10_highest 25 (.getfield 112) 3 28 := ⟨by decide +kernel, rfl⟩
theorem d_X10_highest_28 : DC mi_X10_highest 28 (.invokevirtual 239) 3 31 := ⟨by decide +kernel, rfl⟩
theorem d_X10_highest_31 : DC mi_X10_highest 31 (.pop) 1 32 := ⟨by decide +kernel, rfl⟩
theorem d_X10_highest_32 : DC mi_X10_highest 32 (.aload_n 2) 1 33 := ⟨by decide +kernel, rfl⟩
theorem d_X10_highest_33 : DC mi_X10_highest 33 (.getfield 134) 3 36 := ⟨by decide +kernel, rfl⟩
theorem d_X10_highest_36 : DC mi_X10_highest 36 (.iload_n 1) 1 37 := ⟨by decide +kernel, rfl⟩
theorem d_X10_highest_37 : DC mi_X10_highest 37 (.iaload) 1 38 := ⟨by decide +kernel, rfl⟩
theorem d_X10_highest_38 : DC mi_X10_highest 38 (.ireturn) 1 39 := ⟨by decide +kernel, rfl⟩
set_option maxHeartbeats 4000000 in
set_option maxRecDepth 100000 in
theorem sp_X10_highest (d : Nat) (hd : 5 ≤ d) (a0 : Int32) (h : HH) : Sp mi_X10_highest d iI [.ref 0, .int a0] h (g_X10_highest a0 h) := by
  refine sp_of (lc := [(0, .ref 0), (1, .int a0)]) (by decide) (Nat.le_of_ble_eq_true rfl) rfl ?_
  unfold g_X10_highest
  refine sx_aload_n d_X10_highest_0 0 rfl ?_
  refine sx_iload_n d_X10_highest_1 1 rfl ?_
  refine sx_callV [.int a0] mv_X10_isPerson lM_StairCount_115 sh_0 (by omega) rfl rfl (Nat.le_of_ble_eq_true rfl) d_X10_highest_2 (sp_X10_isPerson (d - 1) (by omega) a0 h) (fun r2 h1 => ?_)
  refine sx_if_ne d_X10_highest_5 ?_ ?_
  · refine sx_iconst d_X10_highest_8 icm1 ?_
    exact sx_iret rfl d_X10_highest_9
  · refine sx_aload_n d_X10_highest_10 0 rfl ?_
    refine sx_iconst d_X10_highest_11 ic2 ?_
    refine sx_callV [.int (2 : Int32)] mv_X10_startTrial lM_StairCount_253 sh_0 (by omega) rfl rfl (Nat.le_of_ble_eq_true rfl) d_X10_highest_12 (sp_X10_startTrial (d - 1) (by omega) (2 : Int32) h1) (fun r4 h3 => ?_)
    refine sx_ckH (fun er4 => ?_)
    refine sx_astore_n (i := 2) (lc' := [(2, .ref r4), (0, .ref 0), (1, .int a0)]) d_X10_highest_15 rfl (by decide) rfl ?_
    refine sx_aload_n d_X10_highest_16 1 rfl ?_
    refine sx_getF (a' := 193) fl_StairCount_54 sh_0 rfl rfl d_X10_highest_17 ?_
    refine sx_iload_n d_X10_highest_20 2 rfl ?_
    refine sx_aload_n d_X10_highest_21 1 rfl ?_
    refine sx_getR fl_StairCount_16 sh_0 rfl d_X10_highest_22 (fun p5 => ?_)
    refine sx_ckH (fun ep5 => ?_)
    refine sx_getI fl_StairCount_112 ep5 rfl d_X10_highest_25 (fun v6 => ?_)
    refine sx_callV [.int a0, .int v6] mv_X0_walkTo lM_StairCount_239 sh_193 (by omega) rfl rfl (Nat.le_of_ble_eq_true rfl) d_X10_highest_28 (sp_X0_walkTo (d - 1) (by omega) a0 v6 h3) (fun r8 h7 => ?_)
    refine sx_pop d_X10_highest_31 rfl ?_
    refine sx_aload_n d_X10_highest_32 0 rfl ?_
    refine sx_getF (a' := (r4 + 1)) fl_StairCount_134 er4 rfl rfl d_X10_highest_33 ?_
    refine sx_iload_n d_X10_highest_36 2 rfl ?_
    refine sx_iald (shf_7_0 er4) d_X10_highest_37 (fun v9 => ?_)
    exact sx_iret rfl d_X10_highest_38
theorem d_X10_climbs_0 : DC mi_X10_climbs 0 (.aload_n 0) 1 1 := ⟨by decide +kernel, rfl⟩
theorem d_X10_climbs_1 : DC mi_X10_climbs 1 (.iload_n 1) 1 2 := ⟨by decide +kernel, rfl⟩
theorem d_X10_climbs_2 : DC mi_X10_climbs 2 (.invokevirtual 115) 3 5 := ⟨by decide +kernel, rfl⟩
theorem d_X10_climbs_5 : DB mi_X10_climbs 5 (.ifCond .eq 15) 15 8 20 := ⟨by decide +kernel, rfl, by decide⟩
theorem d_X10_climbs_8 : DC mi_X10_climbs 8 (.aload_n 0) 1 9 := ⟨by decide +kernel, rfl⟩
theorem d_X10_climbs_9 : DC mi_X10_climbs 9 (.iload_n 2) 1 10 := ⟨by decide +kernel, rfl⟩
theorem d_X10_climbs_10 : DC mi_X10_climbs 10 (.invokevirtual 177) 3 13 := ⟨by decide +kernel, rfl⟩
theorem d_X10_climbs_13 : DB mi_X10_climbs 13 (.ifCond .eq 7) 7 16 20 := ⟨by decide +kernel, rfl, by decide⟩
theorem d_X10_climbs_16 : DC mi_X10_climbs 16 (.iload_n 2) 1 17 := ⟨by decide +kernel, rfl⟩
theorem d_X10_climbs_17 : DB mi_X10_climbs 17 (.ifCond .ne 5) 5 20 22 := ⟨by decide +kernel, rfl, by decide⟩
theorem d_X10_climbs_20 : DC mi_X10_climbs 20 (.iconst (-1)) 1 21 := ⟨by decide +kernel, rfl⟩
theorem d_X10_climbs_21 : DC mi_X10_climbs 21 (.ireturn) 1 22 := ⟨by decide +kernel, rfl⟩
theorem d_X10_climbs_22 : DC mi_X10_climbs 22 (.aload_n 0) 1 23 := ⟨by decide +kernel, rfl⟩
theorem d_X10_climbs_23 : DC mi_X10_climbs 23 (.iconst 2) 1 24 := ⟨by decide +kernel, rfl⟩
theorem d_X10_climbs_24 : DC mi_X10_climbs 24 (.invokevirtual 253) 3 27 := ⟨by decide +kernel, rfl⟩
theorem d_X10_climbs_27 : DC mi_X10_climbs 27 (.astore_n 3) 1 28 := ⟨by decide +kernel, rfl⟩
theorem d_X10_climbs_28 : DC mi_X10_climbs 28 (.iconst 0) 1 29 := ⟨by decide +kernel, rfl⟩
theorem d_X10_climbs_29 : DC mi_X10_climbs 29 (.istore 4) 2 31 := ⟨by decide +kernel, rfl⟩
theorem d_X10_climbs_31 : DC mi_X10_climbs 31 (.iconst 0) 1 32 := ⟨by decide +kernel, rfl⟩
theorem d_X10_climbs_32 : DC mi_X10_climbs 32 (.istore 5) 2 34 := ⟨by decide +kernel, rfl⟩
theorem d_X10_climbs_34 : DC mi_X10_climbs 34 (.iload 5) 2 36 := ⟨by decide +kernel, rfl⟩
theorem d_X10_climbs_36 : DC mi_X10_climbs 36 (.bipush 99) 2 38 := ⟨by decide +kernel, rfl⟩
theorem d_X10_climbs_38 : DB mi_X10_climbs 38 (.if_icmp .ge 34) 34 41 72 := ⟨by decide +kernel, rfl, by decide⟩
theorem d_X10_climbs_41 : DC mi_X10_climbs 41 (.aload_n 3) 1 42 := ⟨by decide +kernel, rfl⟩
theorem d_X10_climbs_42 : DC mi_X10_climbs 42 (.getfield 134) 3 45 := ⟨by decide +kernel, rfl⟩
theorem d_X10_climbs_45 : DC mi_X10_climbs 45 (.iload_n 1) 1 46 := ⟨by decide +kernel, rfl⟩
theorem d_X10_climbs_46 : DC mi_X10_climbs 46 (.iconst 0) 1 47 := ⟨by decide +kernel, rfl⟩
theorem d_X10_climbs_47 : DC mi_X10_climbs 47 (.iastore) 1 48 := ⟨by decide +kernel, rfl⟩
theorem d_X10_climbs_48 : DC mi_X10_climbs 48 (.aload_n 0) 1 49 := ⟨by decide +kernel, rfl⟩
theorem d_X10_climbs_49 : DC mi_X10_climbs 49 (.getfield 54) 3 52 := ⟨by decide +kernel, rfl⟩
theorem d_X10_climbs_52 : DC mi_X10_climbs 52 (.iload_n 1) 1 53 := ⟨by decide +kernel, rfl⟩
theorem d_X10_climbs_53 : DC mi_X10_climbs 53 (.iload_n 2) 1 54 := ⟨by decide +kernel, rfl⟩
theorem d_X10_climbs_54 : DC mi_X10_climbs 54 (.invokevirtual 239) 3 57 := ⟨by decide +kernel, rfl⟩
theorem d_X10_climbs_57 : DB mi_X10_climbs 57 (.ifCond .ne 6) 6 60 63 := ⟨by decide +kernel, rfl, by decide⟩
theorem d_X10_climbs_60 : DB mi_X10_climbs 60 (.goto 12) 12 63 72 := ⟨by decide +kernel, rfl, by decide⟩
theorem d_X10_climbs_63 : DC mi_X10_climbs 63 (.iinc 4 1) 3 66 := ⟨by decide +kernel, rfl⟩
theorem d_X10_climbs_66 : DC mi_X10_climbs 66 (.iinc 5 1) 3 69 := ⟨by decide +kernel, rfl⟩
theorem d_X10_climbs_69 : DB mi_X10_climbs 69 (.goto (-35)) (-35) 72 34 := ⟨by decide +kernel, rfl, by decide⟩
theorem d_X10_climbs_72 : DC mi_X10_climbs 72 (.iload 4) 2 74 := ⟨by decide +kernel, rfl⟩
theorem d_X10_climbs_74 : DC mi_X10_climbs 74 (.ireturn) 1 75 := ⟨by decide +kernel, rfl⟩
set_option maxHeartbeats 4000000 in
set_option maxRecDepth 100000 in
theorem sL_X10_climbs_34 (d : Nat) (hd : 5 ≤ d) (c1 : Int32) (c2 : Int32) (b_r6 : Nat) (e3 : shL[b_r6]? = some (.inl 7)) : ∀ (n : Nat) (x4 : Int32) (x5 : Int32) (h : HH), Sx mi_X10_climbs d iI (g_X10_climbs_L34 c1 c2 b_r6 n x4 x5 h) 34 [(0, .ref 0), (1, .int c1), (2, .int c2), (3, .ref b_r6), (4, .int x4), (5, .int x5)] [] h := by
  intro n
  induction n with
  | zero => intro x4 x5 h; exact sx_none
  | succ n ih =>
    intro x4 x5 h
    rw [g_X10_climbs_L34]
    refine sx_iload d_X10_climbs_34 5 rfl ?_
    refine sx_bipush d_X10_climbs_36 bc99 ?_
    refine sx_icmp_ge d_X10_climbs_38 ?_ ?_
    · refine sx_aload_n d_X10_climbs_41 3 rfl ?_
      refine sx_getF (a' := (b_r6 + 1)) fl_StairCount_134 e3 rfl rfl d_X10_climbs_42 ?_
      refine sx_iload_n d_X10_climbs_45 1 rfl ?_
      refine sx_iconst d_X10_climbs_46 ic0 ?_
      refine sx_iast (shf_7_0 e3) d_X10_climbs_47 (fun h7 => ?_)
      refine sx_aload_n d_X10_climbs_48 0 rfl ?_
      refine sx_getF (a' := 193) fl_StairCount_54 sh_0 rfl rfl d_X10_climbs_49 ?_
      refine sx_iload_n d_X10_climbs_52 1 rfl ?_
      refine sx_iload_n d_X10_climbs_53 2 rfl ?_
      refine sx_callV [.int c1, .int c2] mv_X0_walkTo lM_StairCount_239 sh_193 (by omega) rfl rfl (Nat.le_of_ble_eq_true rfl) d_X10_climbs_54 (sp_X0_walkTo (d - 1) (by omega) c1 c2 h7) (fun r9 h8 => ?_)
      refine sx_if_ne d_X10_climbs_57 ?_ ?_
      · refine sx_goto d_X10_climbs_60 ?_
        refine sx_iload d_X10_climbs_72 4 rfl ?_
        exact sx_iret rfl d_X10_climbs_74
      · refine sx_iincV (lc' := fun v10 => [(4, .int v10), (0, .ref 0), (1, .int c1), (2, .int c2), (3, .ref b_r6), (5, .int x5)]) (k0 := 4) d_X10_climbs_63 rfl ii1 (by decide) (fun _ => rfl) (fun v10 => ?_)
        refine sx_iincV (lc' := fun v11 => [(5, .int v11), (4, .int v10), (0, .ref 0), (1, .int c1), (2, .int c2), (3, .ref b_r6)]) (k0 := 5) d_X10_climbs_66 rfl ii1 (by decide) (fun _ => rfl) (fun v11 => ?_)
        refine sx_goto d_X10_climbs_69 ?_
        refine sx_lc (lc' := [(0, .ref 0), (1, .int c1), (2, .int c2), (3, .ref b_r6), (4, .int v10), (5, .int v11)]) [2, 3, 4, 5, 1, 0] rfl ?_
        exact ih v10 v11 h8
    · refine sx_iload d_X10_climbs_72 4 rfl ?_
      exact sx_iret rfl d_X10_climbs_74
set_option maxHeartbeats 4000000 in
set_option maxRecDepth 100000 in
theorem sp_X10_climbs (d : Nat) (hd : 5 ≤ d) (a0 : Int32) (a1 : Int32) (h : HH) : Sp mi_X10_climbs d iI [.ref 0, .int a0, .int a1] h (g_X10_climbs a0 a1 h) := by
  refine sp_of (lc := [(0, .ref 0), (1, .int a0), (2, .int a1)]) (by decide) (Nat.le_of_ble_eq_true rfl) rfl ?_
  unfold g_X10_climbs
  refine sx_aload_n d_X10_climbs_0 0 rfl ?_
  refine sx_iload_n d_X10_climbs_1 1 rfl ?_
  refine sx_callV [.int a0] mv_X10_isPerson lM_StairCount_115 sh_0 (by omega) rfl rfl (Nat.le_of_ble_eq_true rfl) d_X10_climbs_2 (sp_X10_isPerson (d - 1) (by omega) a0 h) (fun r2 h1 => ?_)
  refine sx_if_eq d_X10_climbs_5 ?_ ?_
  · refine sx_iconst d_X10_climbs_20 icm1 ?_
    exact sx_iret rfl d_X10_climbs_21
  · refine sx_aload_n d_X10_climbs_8 0 rfl ?_
    refine sx_iload_n d_X10_climbs_9 2 rfl ?_
    refine sx_callV [.int a1] mv_X10_isFloor lM_StairCount_177 sh_0 (by omega) rfl rfl (Nat.le_of_ble_eq_true rfl) d_X10_climbs_10 (sp_X10_isFloor (d - 1) (by omega) a1 h1) (fun r4 h3 => ?_)
    refine sx_if_eq d_X10_climbs_13 ?_ ?_
    · refine sx_iconst d_X10_climbs_20 icm1 ?_
      exact sx_iret rfl d_X10_climbs_21
    · refine sx_iload_n d_X10_climbs_16 2 rfl ?_
      refine sx_if_ne d_X10_climbs_17 ?_ ?_
      · refine sx_iconst d_X10_climbs_20 icm1 ?_
        exact sx_iret rfl d_X10_climbs_21
      · refine sx_aload_n d_X10_climbs_22 0 rfl ?_
        refine sx_iconst d_X10_climbs_23 ic2 ?_
        refine sx_callV [.int (2 : Int32)] mv_X10_startTrial lM_StairCount_253 sh_0 (by omega) rfl rfl (Nat.le_of_ble_eq_true rfl) d_X10_climbs_24 (sp_X10_startTrial (d - 1) (by omega) (2 : Int32) h3) (fun r6 h5 => ?_)
        refine sx_ckH (fun er6 => ?_)
        refine sx_astore_n (i := 3) (lc' := [(3, .ref r6), (0, .ref 0), (1, .int a0), (2, .int a1)]) d_X10_climbs_27 rfl (by decide) rfl ?_
        refine sx_iconst d_X10_climbs_28 ic0 ?_
        refine sx_istore (i := 4) (lc' := [(4, .int (0 : Int32)), (3, .ref r6), (0, .ref 0), (1, .int a0), (2, .int a1)]) d_X10_climbs_29 (by decide) rfl ?_
        refine sx_iconst d_X10_climbs_31 ic0 ?_
        refine sx_istore (i := 5) (lc' := [(5, .int (0 : Int32)), (4, .int (0 : Int32)), (3, .ref r6), (0, .ref 0), (1, .int a0), (2, .int a1)]) d_X10_climbs_32 (by decide) rfl ?_
        refine sx_lc (lc' := [(0, .ref 0), (1, .int a0), (2, .int a1), (3, .ref r6), (4, .int (0 : Int32)), (5, .int (0 : Int32))]) [3, 4, 5, 2, 1, 0] rfl ?_
        refine sL_X10_climbs_34 d hd a0 a1 r6 (er6) 1024 (0 : Int32) (0 : Int32) h5
theorem d_X10_level_0 : DC mi_X10_level 0 (.aload_n 0) 1 1 := ⟨by decide +kernel, rfl⟩
theorem d_X10_level_1 : DC mi_X10_level 1 (.iload_n 1) 1 2 := ⟨by decide +kernel, rfl⟩
theorem d_X10_level_2 : DC mi_X10_level 2 (.invokevirtual 115) 3 5 := ⟨by decide +kernel, rfl⟩
theorem d_X10_level_5 : DB mi_X10_level 5 (.ifCond .ne 5) 5 8 10 := ⟨by decide +kernel, rfl, by decide⟩
theorem d_X10_level_8 : DC mi_X10_level 8 (.iconst (-1)) 1 9 := ⟨by decide +kernel, rfl⟩
theorem d_X10_level_9 : DC mi_X10_level 9 (.ireturn) 1 10 := ⟨by decide +kernel, rfl⟩
theorem d_X10_level_10 : DC mi_X10_level 10 (.iconst 0) 1 11 := ⟨by decide +kernel, rfl⟩
theorem d_X10_level_11 : DC mi_X10_level 11 (.istore_n 2) 1 12 := ⟨by decide +kernel, rfl⟩
theorem d_X10_level_12 : DC mi_X10_level 12 (.iconst 0) 1 13 := ⟨by decide +kernel, rfl⟩
theorem d_X10_level_13 : DC mi_X10_level 13 (.istore_n 3) 1 14 := ⟨by decide +kernel, rfl⟩
theorem d_X10_level_14 : DC mi_X10_level 14 (.iload_n 3) 1 15 := ⟨by decide +kernel, rfl⟩
theorem d_X10_level_15 : DC mi_X10_level 15 (.aload_n 0) 1 16 := ⟨by decide +kernel, rfl⟩
theorem d_X10_level_16 : DC mi_X10_level 16 (.getfield 16) 3 19 := ⟨by decide +kernel, rfl⟩
theorem d_X10_level_19 : DC mi_X10_level 19 (.getfield 112) 3 22 := ⟨by decide +kernel, rfl⟩
theorem d_X10_level_22 : DB mi_X10_level 22 (.if_icmp .ge 29) 29 25 51 := ⟨by decide +kernel, rfl, by decide⟩
theorem d_X10_level_25 : DC mi_X10_level 25 (.iload_n 2) 1 26 := ⟨by decide +kernel, rfl⟩
theorem d_X10_level_26 : DC mi_X10_level 26 (.iconst 0) 1 27 := ⟨by decide +kernel, rfl⟩
theorem d_X10_level_27 : DC mi_X10_level 27 (.aload_n 0) 1 28 := ⟨by decide +kernel, rfl⟩
theorem d_X10_level_28 : DC mi_X10_level 28 (.getfield 30) 3 31 := ⟨by decide +kernel, rfl⟩
theorem d_X10_level_31 : DC mi_X10_level 31 (.getfield 161) 3 34 := ⟨by decide +kernel, rfl⟩
theorem d_X10_level_34 : DC mi_X10_level 34 (.iload_n 1) 1 35 := ⟨by decide +kernel, rfl⟩
theorem d_X10_level_35 : DC mi_X10_level 35 (.iload_n 3) 1 36 := ⟨by decide +kernel, rfl⟩
theorem d_X10_level_36 : DC mi_X10_level 36 (.invokestatic 164) 3 39 := ⟨by decide +kernel, rfl⟩
theorem d_X10_level_39 : DC mi_X10_level 39 (.iaload) 1 40 := ⟨by decide +kernel, rfl⟩
theorem d_X10_level_40 : DC mi_X10_level 40 (.invokestatic 260) 3 43 := ⟨by decide +kernel, rfl⟩
theorem d_X10_level_43 : DC mi_X10_level 43 (.iadd) 1 44 := ⟨by decide +kernel, rfl⟩
theorem d_X10_level_44 : DC mi_X10_level 44 (.istore_n 2) 1 45 := ⟨by decide +kernel, rfl⟩
theorem d_X10_level_45 : DC mi_X10_level 45 (.iinc 3 1) 3 48 := ⟨by decide +kernel, rfl⟩
theorem d_X10_level_48 : DB mi_X10_level 48 (.goto (-34)) (-34) 51 14 := ⟨by decide +kernel, rfl, by decide⟩
theorem d_X10_level_51 : DC mi_X10_level 51 (.iload_n 2) 1 52 := ⟨by decide +kernel, rfl⟩
theorem d_X10_level_52 : DC mi_X10_level 52 (.ireturn) 1 53 := ⟨by decide +kernel, rfl⟩
set_option maxHeartbeats 4000000 in
set_option maxRecDepth 100000 in
theorem sL_X10_level_14 (d : Nat) (hd : 1 ≤ d) (c1 : Int32) : ∀ (n : Nat) (x2 : Int32) (x3 : Int32) (h : HH), Sx mi_X10_level d iI (g_X10_level_L14 c1 n x2 x3 h) 14 [(0, .ref 0), (1, .int c1), (2, .int x2), (3, .int x3)] [] h := by
  intro n
  induction n with
  | zero => intro x2 x3 h; exact sx_none
  | succ n ih =>
    intro x2 x3 h
    rw [g_X10_level_L14]
    refine sx_iload_n d_X10_level_14 3 rfl ?_
    refine sx_aload_n d_X10_level_15 0 rfl ?_
    refine sx_getR fl_StairCount_16 sh_0 rfl d_X10_level_16 (fun p3 => ?_)
    refine sx_ckH (fun ep3 => ?_)
    refine sx_getI fl_StairCount_112 ep3 rfl d_X10_level_19 (fun v4 => ?_)
    refine sx_icmp_ge d_X10_level_22 ?_ ?_
    · refine sx_iload_n d_X10_level_25 2 rfl ?_
      refine sx_iconst d_X10_level_26 ic0 ?_
      refine sx_aload_n d_X10_level_27 0 rfl ?_
      refine sx_getF (a' := 52) fl_StairCount_30 sh_0 rfl rfl d_X10_level_28 ?_
      refine sx_getF (a' := 57) fl_StairCount_161 sh_52 rfl rfl d_X10_level_31 ?_
      refine sx_iload_n d_X10_level_34 1 rfl ?_
      refine sx_iload_n d_X10_level_35 3 rfl ?_
      refine sx_callS [.int c1, .int x3] ms_X10_cell lM_StairCount_164 (by omega) rfl rfl (Nat.le_of_ble_eq_true rfl) d_X10_level_36 (sp_X10_cell (d - 1) (by omega) c1 x3 h) (fun r6 h5 => ?_)
      refine sx_iald sh_57 d_X10_level_39 (fun v7 => ?_)
      refine sx_mmax lM_StairCount_260 (by omega) (Nat.le_of_ble_eq_true rfl) d_X10_level_40 ?_
      refine sx_iadd d_X10_level_43 ?_
      refine sx_vlI (fun v8 => ?_)
      refine sx_istore_n (i := 2) (lc' := [(2, .int v8), (0, .ref 0), (1, .int c1), (3, .int x3)]) d_X10_level_44 rfl (by decide) rfl ?_
      refine sx_iincV (lc' := fun v9 => [(3, .int v9), (2, .int v8), (0, .ref 0), (1, .int c1)]) (k0 := 3) d_X10_level_45 rfl ii1 (by decide) (fun _ => rfl) (fun v9 => ?_)
      refine sx_goto d_X10_level_48 ?_
      refine sx_lc (lc' := [(0, .ref 0), (1, .int c1), (2, .int v8), (3, .int v9)]) [2, 3, 1, 0] rfl ?_
      exact ih v8 v9 h5
    · refine sx_iload_n d_X10_level_51 2 rfl ?_
      exact sx_iret rfl d_X10_level_52
set_option maxHeartbeats 4000000 in
set_option maxRecDepth 100000 in
theorem sp_X10_level (d : Nat) (hd : 1 ≤ d) (a0 : Int32) (h : HH) : Sp mi_X10_level d iI [.ref 0, .int a0] h (g_X10_level a0 h) := by
  refine sp_of (lc := [(0, .ref 0), (1, .int a0)]) (by decide) (Nat.le_of_ble_eq_true rfl) rfl ?_
  unfold g_X10_level
  refine sx_aload_n d_X10_level_0 0 rfl ?_
  refine sx_iload_n d_X10_level_1 1 rfl ?_
  refine sx_callV [.int a0] mv_X10_isPerson lM_StairCount_115 sh_0 (by omega) rfl rfl (Nat.le_of_ble_eq_true rfl) d_X10_level_2 (sp_X10_isPerson (d - 1) (by omega) a0 h) (fun r2 h1 => ?_)
  refine sx_if_ne d_X10_level_5 ?_ ?_
  · refine sx_iconst d_X10_level_8 icm1 ?_
    exact sx_iret rfl d_X10_level_9
  · refine sx_iconst d_X10_level_10 ic0 ?_
    refine sx_istore_n (i := 2) (lc' := [(2, .int (0 : Int32)), (0, .ref 0), (1, .int a0)]) d_X10_level_11 rfl (by decide) rfl ?_
    refine sx_iconst d_X10_level_12 ic0 ?_
    refine sx_istore_n (i := 3) (lc' := [(3, .int (0 : Int32)), (2, .int (0 : Int32)), (0, .ref 0), (1, .int a0)]) d_X10_level_13 rfl (by decide) rfl ?_
    refine sx_lc (lc' := [(0, .ref 0), (1, .int a0), (2, .int (0 : Int32)), (3, .int (0 : Int32))]) [2, 3, 1, 0] rfl ?_
    refine sL_X10_level_14 d hd a0 1024 (0 : Int32) (0 : Int32) h1
theorem d_X10_ease_0 : DC mi_X10_ease 0 (.aload_n 0) 1 1 := ⟨by decide +kernel, rfl⟩
theorem d_X10_ease_1 : DC mi_X10_ease 1 (.iload_n 1) 1 2 := ⟨by decide +kernel, rfl⟩
theorem d_X10_ease_2 : DC mi_X10_ease 2 (.invokevirtual 115) 3 5 := ⟨by decide +kernel, rfl⟩
theorem d_X10_ease_5 : DB mi_X10_ease 5 (.ifCond .eq 11) 11 8 16 := ⟨by decide +kernel, rfl, by decide⟩
theorem d_X10_ease_8 : DC mi_X10_ease 8 (.aload_n 0) 1 9 := ⟨by decide +kernel, rfl⟩
theorem d_X10_ease_9 : DC mi_X10_ease 9 (.iload_n 2) 1 10 := ⟨by decide +kernel, rfl⟩
theorem d_X10_ease_10 : DC mi_X10_ease 10 (.invokevirtual 155) 3 13 := ⟨by decide +kernel, rfl⟩
theorem d_X10_ease_13 : DB mi_X10_ease 13 (.ifCond .ne 5) 5 16 18 := ⟨by decide +kernel, rfl, by decide⟩
theorem d_X10_ease_16 : DC mi_X10_ease 16 (.iconst (-1)) 1 17 := ⟨by decide +kernel, rfl⟩
theorem d_X10_ease_17 : DC mi_X10_ease 17 (.ireturn) 1 18 := ⟨by decide +kernel, rfl⟩
theorem d_X10_ease_18 : DC mi_X10_ease 18 (.aload_n 0) 1 19 := ⟨by decide +kernel, rfl⟩
theorem d_X10_ease_19 : DC mi_X10_ease 19 (.invokevirtual 168) 3 22 := ⟨by decide +kernel, rfl⟩
theorem d_X10_ease_22 : DC mi_X10_ease 22 (.iconst 0) 1 23 := ⟨by decide +kernel, rfl⟩
theorem d_X10_ease_23 : DC mi_X10_ease 23 (.istore_n 3) 1 24 := ⟨by decide +kernel, rfl⟩
theorem d_X10_ease_24 : DC mi_X10_ease 24 (.iload_n 3) 1 25 := ⟨by decide +kernel, rfl⟩
theorem d_X10_ease_25 : DC mi_X10_ease 25 (.sipush 200) 3 28 := ⟨by decide +kernel, rfl⟩
theorem d_X10_ease_28 : DB mi_X10_ease 28 (.if_icmp .gt 33) 33 31 61 := ⟨by decide +kernel, rfl, by decide⟩
theorem d_X10_ease_31 : DC mi_X10_ease 31 (.aload_n 0) 1 32 := ⟨by decide +kernel, rfl⟩
theorem d_X10_ease_32 : DC mi_X10_ease 32 (.getfield 54) 3 35 := ⟨by decide +kernel, rfl⟩
theorem d_X10_ease_35 : DC mi_X10_ease 35 (.iload_n 1) 1 36 := ⟨by decide +kernel, rfl⟩
theorem d_X10_ease_36 : DC mi_X10_ease 36 (.iload_n 2) 1 37 := ⟨by decide +kernel, rfl⟩
theorem d_X10_ease_37 : DC mi_X10_ease 37 (.iload_n 3) 1 38 := ⟨by decide +kernel, rfl⟩
theorem d_X10_ease_38 : DC mi_X10_ease 38 (.invokevirtual 171) 3 41 := ⟨by decide +kernel, rfl⟩
theorem d_X10_ease_41 : DC mi_X10_ease 41 (.aload_n 0) 1 42 := ⟨by decide +kernel, rfl⟩
theorem d_X10_ease_42 : DC mi_X10_ease 42 (.getfield 16) 3 45 := ⟨by decide +kernel, rfl⟩
theorem d_X10_ease_45 : DC mi_X10_ease 45 (.getfield 138) 3 48 := ⟨by decide +kernel, rfl⟩
theorem d_X10_ease_48 : DC mi_X10_ease 48 (.iload_n 1) 1 49 := ⟨by decide +kernel, rfl⟩
theorem d_X10_ease_49 : DC mi_X10_ease 49 (.iaload) 1 50 := ⟨by decide +kernel, rfl⟩
theorem d_X10_ease_50 : DB mi_X10_ease 50 (.if_icmp .gt 5) 5 53 55 := ⟨by decide +kernel, rfl, by decide⟩
theorem d_X10_ease_53 : DC mi_X10_ease 53 (.iload_n 3) 1 54 := ⟨by decide +kernel, rfl⟩
theorem d_X10_ease_54 : DC mi_X10_ease 54 (.ireturn) 1 55 := ⟨by decide +kernel, rfl⟩
theorem d_X10_ease_55 : DC mi_X10_ease 55 (.iinc 3 1) 3 58 := ⟨by decide +kernel, rfl⟩
theorem d_X10_ease_58 : DB mi_X10_ease 58 (.goto (-34)) (-34) 61 24 := ⟨by decide +kernel, rfl, by decide⟩
theorem d_X10_ease_61 : DC mi_X10_ease 61 (.bipush (-2)) 2 63 := ⟨by decide +kernel, rfl⟩
theorem d_X10_ease_63 : DC mi_X10_ease 63 (.ireturn) 1 64 := ⟨by decide +kernel, rfl⟩
set_option maxHeartbeats 4000000 in
set_option maxRecDepth 100000 in
theorem sL_X10_ease_24 (d : Nat) (hd : 3 ≤ d) (c1 : Int32) (c2 : Int32) : ∀ (n : Nat) (x3 : Int32) (h : HH), Sx mi_X10_ease d iI (g_X10_ease_L24 c1 c2 n x3 h) 24 [(0, .ref 0), (1, .int c1), (2, .int c2), (3, .int x3)] [] h := by
  intro n
  induction n with
  | zero => intro x3 h; exact sx_none
  | succ n ih =>
    intro x3 h
    rw [g_X10_ease_L24]
    refine sx_iload_n d_X10_ease_24 3 rfl ?_
    refine sx_sipush d_X10_ease_25 sc200 ?_
    refine sx_icmp_gt d_X10_ease_28 ?_ ?_
    · refine sx_bipush d_X10_ease_61 bcm2 ?_
      exact sx_iret rfl d_X10_ease_63
    · refine sx_aload_n d_X10_ease_31 0 rfl ?_
      refine sx_getF (a' := 193) fl_StairCount_54 sh_0 rfl rfl d_X10_ease_32 ?_
      refine sx_iload_n d_X10_ease_35 1 rfl ?_
      refine sx_iload_n d_X10_ease_36 2 rfl ?_
      refine sx_iload_n d_X10_ease_37 3 rfl ?_
      refine sx_callV [.int c1, .int c2, .int x3] mv_X0_steepOf lM_StairCount_171 sh_193 (by omega) rfl rfl (Nat.le_of_ble_eq_true rfl) d_X10_ease_38 (sp_X0_steepOf (d - 1) (by omega) c1 c2 x3 h) (fun r8 h7 => ?_)
      refine sx_aload_n d_X10_ease_41 0 rfl ?_
      refine sx_getR fl_StairCount_16 sh_0 rfl d_X10_ease_42 (fun p9 => ?_)
      refine sx_ckH (fun ep9 => ?_)
      refine sx_getF (a' := (p9 + 3)) fl_StairCount_138 ep9 rfl rfl d_X10_ease_45 ?_
      refine sx_iload_n d_X10_ease_48 1 rfl ?_
      refine sx_iald (shf_5_4 ep9) d_X10_ease_49 (fun v10 => ?_)
      refine sx_icmp_gt d_X10_ease_50 ?_ ?_
      · refine sx_iincV (lc' := fun v11 => [(3, .int v11), (0, .ref 0), (1, .int c1), (2, .int c2)]) (k0 := 3) d_X10_ease_55 rfl ii1 (by decide) (fun _ => rfl) (fun v11 => ?_)
        refine sx_goto d_X10_ease_58 ?_
        refine sx_lc (lc' := [(0, .ref 0), (1, .int c1), (2, .int c2), (3, .int v11)]) [1, 2, 3, 0] rfl ?_
        exact ih v11 h7
      · refine sx_iload_n d_X10_ease_53 3 rfl ?_
        exact sx_iret rfl d_X10_ease_54
set_option maxHeartbeats 4000000 in
set_option maxRecDepth 100000 in
theorem sp_X10_ease (d : Nat) (hd : 3 ≤ d) (a0 : Int32) (a1 : Int32) (h : HH) : Sp mi_X10_ease d iI [.ref 0, .int a0, .int a1] h (g_X10_ease a0 a1 h) := by
  refine sp_of (lc := [(0, .ref 0), (1, .int a0), (2, .int a1)]) (by decide) (Nat.le_of_ble_eq_true rfl) rfl ?_
  unfold g_X10_ease
  refine sx_aload_n d_X10_ease_0 0 rfl ?_
  refine sx_iload_n d_X10_ease_1 1 rfl ?_
  refine sx_callV [.int a0] mv_X10_isPerson lM_StairCount_115 sh_0 (by omega) rfl rfl (Nat.le_of_ble_eq_true rfl) d_X10_ease_2 (sp_X10_isPerson (d - 1) (by omega) a0 h) (fun r2 h1 => ?_)
  refine sx_if_eq d_X10_ease_5 ?_ ?_
  · refine sx_iconst d_X10_ease_16 icm1 ?_
    exact sx_iret rfl d_X10_ease_17
  · refine sx_aload_n d_X10_ease_8 0 rfl ?_
    refine sx_iload_n d_X10_ease_9 2 rfl ?_
    refine sx_callV [.int a1] mv_X10_isFlight lM_StairCount_155 sh_0 (by omega) rfl rfl (Nat.le_of_ble_eq_true rfl) d_X10_ease_10 (sp_X10_isFlight (d - 1) (by omega) a1 h1) (fun r4 h3 => ?_)
    refine sx_if_ne d_X10_ease_13 ?_ ?_
    · refine sx_iconst d_X10_ease_16 icm1 ?_
      exact sx_iret rfl d_X10_ease_17
    · refine sx_aload_n d_X10_ease_18 0 rfl ?_
      refine sx_callV [] mv_X10_lookAtNow lM_StairCount_168 sh_0 (by omega) rfl rfl (Nat.le_of_ble_eq_true rfl) d_X10_ease_19 (sp_X10_lookAtNow (d - 1) (by omega) h3) (fun _ h5 => ?_)
      refine sx_iconst d_X10_ease_22 ic0 ?_
      refine sx_istore_n (i := 3) (lc' := [(3, .int (0 : Int32)), (0, .ref 0), (1, .int a0), (2, .int a1)]) d_X10_ease_23 rfl (by decide) rfl ?_
      refine sx_lc (lc' := [(0, .ref 0), (1, .int a0), (2, .int a1), (3, .int (0 : Int32))]) [1, 2, 3, 0] rfl ?_
      refine sL_X10_ease_24 d hd a0 a1 1024 (0 : Int32) h5
theorem d_X10_way_0 : DC mi_X10_way 0 (.aload_n 0) 1 1 := ⟨by decide +kernel, rfl⟩
theorem d_X10_way_1 : DC mi_X10_way 1 (.iload_n 1) 1 2 := ⟨by decide +kernel, rfl⟩
theorem d_X10_way_2 : DC mi_X10_way 2 (.invokevirtual 115) 3 5 := ⟨by decide +kernel, rfl⟩
theorem d_X10_way_5 : DB mi_X10_way 5 (.ifCond .eq 20) 20 8 25 := ⟨by decide +kernel, rfl, by decide⟩
theorem d_X10_way_8 : DC mi_X10_way 8 (.aload_n 0) 1 9 := ⟨by decide +kernel, rfl⟩
theorem d_X10_way_9 : DC mi_X10_way 9 (.iload_n 2) 1 10 := ⟨by decide +kernel, rfl⟩
theorem d_X10_way_10 : DC mi_X10_way 10 (.invokevirtual 177) 3 13 := ⟨by decide +kernel, rfl⟩
theorem d_X10_way_13 : DB mi_X10_way 13 (.ifCond .eq 12) 12 16 25 := ⟨by decide +kernel, rfl, by decide⟩
theorem d_X10_way_16 : DC mi_X10_way 16 (.iload_n 3) 1 17 := ⟨by decide +kernel, rfl⟩
theorem d_X10_way_17 : DB mi_X10_way 17 (.ifCond .lt 8) 8 20 25 := ⟨by decide +kernel, rfl, by decide⟩
theorem d_X10_way_20 : DC mi_X10_way 20 (.iload_n 3) 1 21 := ⟨by decide +kernel, rfl⟩
theorem d_X10_way_21 : DC mi_X10_way 21 (.iconst 1) 1 22 := ⟨by decide +kernel, rfl⟩
theorem d_X10_way_22 : DB mi_X10_way 22 (.if_icmp .le 5) 5 25 27 := ⟨by decide +kernel, rfl, by decide⟩
theorem d_X10_way_25 : DC mi_X10_way 25 (.iconst (-1)) 1 26 := ⟨by decide +kernel, rfl⟩
theorem d_X10_way_26 : DC mi_X10_way 26 (.ireturn) 1 27 := ⟨by decide +kernel, rfl⟩
theorem d_X10_way_27 : DC mi_X10_way 27 (.aload_n 0) 1 28 := ⟨by decide +kernel, rfl⟩
theorem d_X10_way_28 : DC mi_X10_way 28 (.invokevirtual 168) 3 31 := ⟨by decide +kernel, rfl⟩
theorem d_X10_way_31 : DC mi_X10_way 31 (.aload_n 0) 1 32 := ⟨by decide +kernel, rfl⟩
theorem d_X10_way_32 : DC mi_X10_way 32 (.getfield 68) 3 35 := ⟨by decide +kernel, rfl⟩
theorem d_X10_way_35 : DC mi_X10_way 35 (.aload_n 0) 1 36 := ⟨by decide +kernel, rfl⟩
theorem d_X10_way_36 : DC mi_X10_way 36 (.getfield 54) 3 39 := ⟨by decide +kernel, rfl⟩
theorem d_X10_way_39 : DC mi_X10_way 39 (.iload_n 1) 1 40 := ⟨by decide +kernel, rfl⟩
theorem d_X10_way_40 : DC mi_X10_way 40 (.invokevirtual 265) 3 43 := ⟨by decide +kernel, rfl⟩
theorem d_X10_way_43 : DC mi_X10_way 43 (.aload_n 0) 1 44 := ⟨by decide +kernel, rfl⟩
theorem d_X10_way_44 : DC mi_X10_way 44 (.getfield 68) 3 47 := ⟨by decide +kernel, rfl⟩
theorem d_X10_way_47 : DC mi_X10_way 47 (.getfield 269) 3 50 := ⟨by decide +kernel, rfl⟩
theorem d_X10_way_50 : DC mi_X10_way 50 (.iload_n 2) 1 51 := ⟨by decide +kernel, rfl⟩
theorem d_X10_way_51 : DC mi_X10_way 51 (.iaload) 1 52 := ⟨by decide +kernel, rfl⟩
theorem d_X10_way_52 : DC mi_X10_way 52 (.ldc_w 272) 3 55 := ⟨by decide +kernel, rfl⟩
theorem d_X10_way_55 : DB mi_X10_way 55 (.if_icmp .ne 6) 6 58 61 := ⟨by decide +kernel, rfl, by decide⟩
theorem d_X10_way_58 : DC mi_X10_way 58 (.bipush (-2)) 2 60 := ⟨by decide +kernel, rfl⟩
theorem d_X10_way_60 : DC mi_X10_way 60 (.ireturn) 1 61 := ⟨by decide +kernel, rfl⟩
theorem d_X10_way_61 : DC mi_X10_way 61 (.iload_n 3) 1 62 := ⟨by decide +kernel, rfl⟩
theorem d_X10_way_62 : DB mi_X10_way 62 (.ifCond .ne 15) 15 65 77 := ⟨by decide +kernel, rfl, by decide⟩
theorem d_X10_way_65 : DC mi_X10_way 65 (.aload_n 0) 1 66 := ⟨by decide +kernel, rfl⟩
theorem d_X10_way_66 : DC mi_X10_way 66 (.getfield 68) 3 69 := ⟨by decide +kernel, rfl⟩
theorem d_X10_way_69 : DC mi_X10_way 69 (.getfield 269) 3 72 := ⟨by decide +kernel, rfl⟩
theorem d_X10_way_72 : DC mi_X10_way 72 (.iload_n 2) 1 73 := ⟨by decide +kernel, rfl⟩
theorem d_X10_way_73 : DC mi_X10_way 73 (.iaload) 1 74 := ⟨by decide +kernel, rfl⟩
theorem d_X10_way_74 : DB mi_X10_way 74 (.goto 12) 12 77 86 := ⟨by decide +kernel, rfl, by decide⟩
theorem d_X10_way_77 : DC mi_X10_way 77 (.aload_n 0) 1 78 := ⟨by decide +kernel, rfl⟩
theorem d_X10_way_78 : DC mi_X10_way 78 (.getfield 68) 3 81 := ⟨by decide +kernel, rfl⟩
theorem d_X10_way_81 : DC mi_X10_way 81 (.getfield 273) 3 84 := ⟨by decide +kernel, rfl⟩
theorem d_X10_way_84 : DC mi_X10_way 84 (.iload_n 2) 1 85 := ⟨by decide +kernel, rfl⟩
theorem d_X10_way_85 : DC mi_X10_way 85 (.iaload) 1 86 := ⟨by decide +kernel, rfl⟩
theorem d_X10_way_86 : DC mi_X10_way 86 (.ireturn) 1 87 := ⟨by decide +kernel, rfl⟩
set_option maxHeartbeats 4000000 in
set_option maxRecDepth 100000 in
theorem sp_X10_way (d : Nat) (hd : 5 ≤ d) (a0 : Int32) (a1 : Int32) (a2 : Int32) (h : HH) : Sp mi_X10_way d iI [.ref 0, .int a0, .int a1, .int a2] h (g_X10_way a0 a1 a2 h) := by
  refine sp_of (lc := [(0, .ref 0), (1, .int a0), (2, .int a1), (3, .int a2)]) (by decide) (Nat.le_of_ble_eq_true rfl) rfl ?_
  unfold g_X10_way
  refine sx_aload_n d_X10_way_0 0 rfl ?_
  refine sx_iload_n d_X10_way_1 1 rfl ?_
  refine sx_callV [.int a0] mv_X10_isPerson lM_StairCount_115 sh_0 (by omega) rfl rfl (Nat.le_of_ble_eq_true rfl) d_X10_way_2 (sp_X10_isPerson (d - 1) (by omega) a0 h) (fun r2 h1 => ?_)
  refine sx_if_eq d_X10_way_5 ?_ ?_
  · refine sx_iconst d_X10_way_25 icm1 ?_
    exact sx_iret rfl d_X10_way_26
  · refine sx_aload_n d_X10_way_8 0 rfl ?_
    refine sx_iload_n d_X10_way_9 2 rfl ?_
    refine sx_callV [.int a1] mv_X10_isFloor lM_StairCount_177 sh_0 (by omega) rfl rfl (Nat.le_of_ble_eq_true rfl) d_X10_way_10 (sp_X10_isFloor (d - 1) (by omega) a1 h1) (fun r4 h3 => ?_)
    refine sx_if_eq d_X10_way_13 ?_ ?_
    · refine sx_iconst d_X10_way_25 icm1 ?_
      exact sx_iret rfl d_X10_way_26
    · refine sx_iload_n d_X10_way_16 3 rfl ?_
      refine sx_if_lt d_X10_way_17 ?_ ?_
      · refine sx_iconst d_X10_way_25 icm1 ?_
        exact sx_iret rfl d_X10_way_26
      · refine sx_iload_n d_X10_way_20 3 rfl ?_
        refine sx_iconst d_X10_way_21 ic1 ?_
        refine sx_icmp_le d_X10_way_22 ?_ ?_
        · refine sx_iconst d_X10_way_25 icm1 ?_
          exact sx_iret rfl d_X10_way_26
        · refine sx_aload_n d_X10_way_27 0 rfl ?_
          refine sx_callV [] mv_X10_lookAtNow lM_StairCount_168 sh_0 (by omega) rfl rfl (Nat.le_of_ble_eq_true rfl) d_X10_way_28 (sp_X10_lookAtNow (d - 1) (by omega) h3) (fun _ h5 => ?_)
          refine sx_aload_n d_X10_way_31 0 rfl ?_
          refine sx_getF (a' := 247) fl_StairCount_68 sh_0 rfl rfl d_X10_way_32 ?_
          refine sx_aload_n d_X10_way_35 0 rfl ?_
          refine sx_getF (a' := 193) fl_StairCount_54 sh_0 rfl rfl d_X10_way_36 ?_
          refine sx_iload_n d_X10_way_39 1 rfl ?_
          refine sx_callV [.ref 193, .int a0] mv_X9_seek lM_StairCount_265 sh_247 (by omega) rfl rfl (Nat.le_of_ble_eq_true rfl) d_X10_way_40 (sp_X9_seek (d - 1) (by omega) 247 a0 h5) (fun _ h7 => ?_)
          refine sx_aload_n d_X10_way_43 0 rfl ?_
          refine sx_getF (a' := 247) fl_StairCount_68 sh_0 rfl rfl d_X10_way_44 ?_
          refine sx_getF (a' := 248) fl_StairCount_269 sh_247 rfl rfl d_X10_way_47 ?_
          refine sx_iload_n d_X10_way_50 2 rfl ?_
          refine sx_iald sh_248 d_X10_way_51 (fun v9 => ?_)
          refine sx_ldcw d_X10_way_52 lK_StairCount_272 ?_
          refine sx_icmp_ne d_X10_way_55 ?_ ?_
          · refine sx_bipush d_X10_way_58 bcm2 ?_
            exact sx_iret rfl d_X10_way_60
          · refine sx_iload_n d_X10_way_61 3 rfl ?_
            refine sx_if_ne d_X10_way_62 ?_ ?_
            · refine sx_aload_n d_X10_way_65 0 rfl ?_
              refine sx_getF (a' := 247) fl_StairCount_68 sh_0 rfl rfl d_X10_way_66 ?_
              refine sx_getF (a' := 248) fl_StairCount_269 sh_247 rfl rfl d_X10_way_69 ?_
              refine sx_iload_n d_X10_way_72 2 rfl ?_
              refine sx_iald sh_248 d_X10_way_73 (fun v10 => ?_)
              refine sx_goto d_X10_way_74 ?_
              exact sx_iret rfl d_X10_way_86
            · refine sx_aload_n d_X10_way_77 0 rfl ?_
              refine sx_getF (a' := 247) fl_StairCount_68 sh_0 rfl rfl d_X10_way_78 ?_
              refine sx_getF (a' := 249) fl_StairCount_273 sh_247 rfl rfl d_X10_way_81 ?_
              refine sx_iload_n d_X10_way_84 2 rfl ?_
              refine sx_iald sh_249 d_X10_way_85 (fun v11 => ?_)
              exact sx_iret rfl d_X10_way_86
theorem d_X10_meet_0 : DC mi_X10_meet 0 (.aload_n 0) 1 1 := ⟨by decide +kernel, rfl⟩
theorem d_X10_meet_1 : DC mi_X10_meet 1 (.iload_n 1) 1 2 := ⟨by decide +kernel, rfl⟩
theorem d_X10_meet_2 : DC mi_X10_meet 2 (.iload_n 2) 1 3 := ⟨by decide +kernel, rfl⟩
theorem d_X10_meet_3 : DC mi_X10_meet 3 (.invokevirtual 276) 3 6 := ⟨by decide +kernel, rfl⟩
theorem d_X10_meet_6 : DB mi_X10_meet 6 (.ifCond .eq 12) 12 9 18 := ⟨by decide +kernel, rfl, by decide⟩
theorem d_X10_meet_9 : DC mi_X10_meet 9 (.iload_n 3) 1 10 := ⟨by decide +kernel, rfl⟩
theorem d_X10_meet_10 : DB mi_X10_meet 10 (.ifCond .lt 8) 8 13 18 := ⟨by decide +kernel, rfl, by decide⟩
theorem d_X10_meet_13 : DC mi_X10_meet 13 (.iload_n 3) 1 14 := ⟨by decide +kernel, rfl⟩
theorem d_X10_meet_14 : DC mi_X10_meet 14 (.iconst 1) 1 15 := ⟨by decide +kernel, rfl⟩
theorem d_X10_meet_15 : DB mi_X10_meet 15 (.if_icmp .le 5) 5 18 20 := ⟨by decide +kernel, rfl, by decide⟩
theorem d_X10_meet_18 : DC mi_X10_meet 18 (.iconst (-1)) 1 19 := ⟨by decide +kernel, rfl⟩
theorem d_X10_meet_19 : DC mi_X10_meet 19 (.ireturn) 1 20 := ⟨by decide +kernel, rfl⟩
theorem d_X10_meet_20 : DC mi_X10_meet 20 (.aload_n 0) 1 21 := ⟨by decide +kernel, rfl⟩
theorem d_X10_meet_21 : DC mi_X10_meet 21 (.invokevirtual 168) 3 24 := ⟨by decide +kernel, rfl⟩
theorem d_X10_meet_24 : DC mi_X10_meet 24 (.aload_n 0) 1 25 := ⟨by decide +kernel, rfl⟩
theorem d_X10_meet_25 : DC mi_X10_meet 25 (.getfield 68) 3 28 := ⟨by decide +kernel, rfl⟩
theorem d_X10_meet_28 : DC mi_X10_meet 28 (.aload_n 0) 1 29 := ⟨by decide +kernel, rfl⟩
theorem d_X10_meet_29 : DC mi_X10_meet 29 (.getfield 54) 3 32 := ⟨by decide +kernel, rfl⟩
theorem d_X10_meet_32 : DC mi_X10_meet 32 (.iload_n 1) 1 33 := ⟨by decide +kernel, rfl⟩
theorem d_X10_meet_33 : DC mi_X10_meet 33 (.invokevirtual 265) 3 36 := ⟨by decide +kernel, rfl⟩
theorem d_X10_meet_36 : DC mi_X10_meet 36 (.aload_n 0) 1 37 := ⟨by decide +kernel, rfl⟩
theorem d_X10_meet_37 : DC mi_X10_meet 37 (.getfield 72) 3 40 := ⟨by decide +kernel, rfl⟩
theorem d_X10_meet_40 : DC mi_X10_meet 40 (.aload_n 0) 1 41 := ⟨by decide +kernel, rfl⟩
theorem d_X10_meet_41 : DC mi_X10_meet 41 (.getfield 54) 3 44 := ⟨by decide +kernel, rfl⟩
theorem d_X10_meet_44 : DC mi_X10_meet 44 (.iload_n 2) 1 45 := ⟨by decide +kernel, rfl⟩
theorem d_X10_meet_45 : DC mi_X10_meet 45 (.invokevirtual 265) 3 48 := ⟨by decide +kernel, rfl⟩
theorem d_X10_meet_48 : DC mi_X10_meet 48 (.bipush (-2)) 2 50 := ⟨by decide +kernel, rfl⟩
theorem d_X10_meet_50 : DC mi_X10_meet 50 (.istore 4) 2 52 := ⟨by decide +kernel, rfl⟩
theorem d_X10_meet_52 : DC mi_X10_meet 52 (.bipush (-2)) 2 54 := ⟨by decide +kernel, rfl⟩
theorem d_X10_meet_54 : DC mi_X10_meet 54 (.istore 5) 2 56 := ⟨by decide +kernel, rfl⟩
theorem d_X10_meet_56 : DC mi_X10_meet 56 (.iconst 0) 1 57 := ⟨by decide +kernel, rfl⟩
theorem d_X10_meet_57 : DC mi_X10_meet 57 (.istore 6) 2 59 := ⟨by decide +kernel, rfl⟩
theorem d_X10_meet_59 : DC mi_X10_meet 59 (.iload 6) 2 61 := ⟨by decide +kernel, rfl⟩
theorem d_X10_meet_61 : DC mi_X10_meet 61 (.aload_n 0) 1 62 := ⟨by decide +kernel, rfl⟩
theorem d_X10_meet_62 : DC mi_X10_meet 62 (.getfield 16) 3 65 := ⟨by decide +kernel, rfl⟩
theorem d_X10_meet_65 : DC mi_X10_meet 65 (.getfield 112) 3 68 := ⟨by decide +kernel, rfl⟩
theorem d_X10_meet_68 : DB mi_X10_meet 68 (.if_icmp .gt 86) 86 71 154 := ⟨by decide +kernel, rfl, by decide⟩
theorem d_X10_meet_71 : DC mi_X10_meet 71 (.aload_n 0) 1 72 := ⟨by decide +kernel, rfl⟩
theorem d_X10_meet_72 : DC mi_X10_meet 72 (.getfield 68) 3 75 := ⟨by decide +kernel, rfl⟩
theorem d_X10_meet_75 : DC mi_X10_meet 75 (.getfield 269) 3 78 := ⟨by decide +kernel, rfl⟩
theorem d_X10_meet_78 : DC mi_X10_meet 78 (.iload 6) 2 80 := ⟨by decide +kernel, rfl⟩
theorem d_X10_meet_80 : DC mi_X10_meet 80 (.iaload) 1 81 := ⟨by decide +kernel, rfl⟩
theorem d_X10_meet_81 : DC mi_X10_meet 81 (.ldc_w 272) 3 84 := ⟨by decide +kernel, rfl⟩
theorem d_X10_meet_84 : DB mi_X10_meet 84 (.if_icmp .eq 64) 64 87 148 := ⟨by decide +kernel, rfl, by decide⟩
theorem d_X10_meet_87 : DC mi_X10_meet 87 (.aload_n 0) 1 88 := ⟨by decide +kernel, rfl⟩
theorem d_X10_meet_88 : DC mi_X10_meet 88 (.getfield 72) 3 91 := ⟨by decide +kernel, rfl⟩
theorem d_X10_meet_91 : DC mi_X10_meet 91 (.getfield 269) 3 94 := ⟨by decide +kernel, rfl⟩
theorem d_X10_meet_94 : DC mi_X10_meet 94 (.iload 6) 2 96 := ⟨by decide +kernel, rfl⟩
theorem d_X10_meet_96 : DC mi_X10_meet 96 (.iaload) 1 97 := ⟨by decide +kernel, rfl⟩
theorem d_X10_meet_97 : DC mi_X10_meet 97 (.ldc_w 272) 3 100 := ⟨by decide +kernel, rfl⟩
theorem d_X10_meet_100 : DB mi_X10_meet 100 (.if_icmp .eq 48) 48 103 148 := ⟨by decide +kernel, rfl, by decide⟩
theorem d_X10_meet_103 : DC mi_X10_meet 103 (.aload_n 0) 1 104 := ⟨by decide +kernel, rfl⟩
theorem d_X10_meet_104 : DC mi_X10_meet 104 (.getfield 68) 3 107 := ⟨by decide +kernel, rfl⟩
theorem d_X10_meet_107 : DC mi_X10_meet 107 (.getfield 269) 3 110 := ⟨by decide +kernel, rfl⟩
theorem d_X10_meet_110 : DC mi_X10_meet 110 (.iload 6) 2 112 := ⟨by decide +kernel, rfl⟩
theorem d_X10_meet_112 : DC mi_X10_meet 112 (.iaload) 1 113 := ⟨by decide +kernel, rfl⟩
theorem d_X10_meet_113 : DC mi_X10_meet 113 (.aload_n 0) 1 114 := ⟨by decide +kernel, rfl⟩
theorem d_X10_meet_114 : DC mi_X10_meet 114 (.getfield 72) 3 117 := ⟨by decide +kernel, rfl⟩
theorem d_X10_meet_117 : DC mi_X10_meet 117 (.getfield 269) 3 120 := ⟨by decide +kernel, rfl⟩
theorem d_X10_meet_120 : DC mi_X10_meet 120 (.iload 6) 2 122 := ⟨by decide +kernel, rfl⟩
theorem d_X10_meet_122 : DC mi_X10_meet 122 (.iaload) 1 123 := ⟨by decide +kernel, rfl⟩
theorem d_X10_meet_123 : DC mi_X10_meet 123 (.iadd) 1 124 := ⟨by decide +kernel, rfl⟩
theorem d_X10_meet_124 : DC mi_X10_meet 124 (.istore 7) 2 126 := ⟨by decide +kernel, rfl⟩
theorem d_X10_meet_126 : DC mi_X10_meet 126 (.iload 4) 2 128 := ⟨by decide +kernel, rfl⟩
theorem d_X10_meet_128 : DC mi_X10_meet 128 (.bipush (-2)) 2 130 := ⟨by decide +kernel, rfl⟩
theorem d_X10_meet_130 : DB mi_X10_meet 130 (.if_icmp .eq 10) 10 133 140 := ⟨by decide +kernel, rfl, by decide⟩
theorem d_X10_meet_133 : DC mi_X10_meet 133 (.iload 7) 2 135 := ⟨by decide +kernel, rfl⟩
theorem d_X10_meet_135 : DC mi_X10_meet 135 (.iload 5) 2 137 := ⟨by decide +kernel, rfl⟩
theorem d_X10_meet_137 : DB mi_X10_meet 137 (.if_icmp .ge 11) 11 140 148 := ⟨by decide +kernel, rfl, by decide⟩
theorem d_X10_meet_140 : DC mi_X10_meet 140 (.iload 6) 2 142 := ⟨by decide +kernel, rfl⟩
theorem d_X10_meet_142 : DC mi_X10_meet 142 (.istore 4) 2 144 := ⟨by decide +kernel, rfl⟩
theorem d_X10_meet_144 : DC mi_X10_meet 144 (.iload 7) 2 146 := ⟨by decide +kernel, rfl⟩
theorem d_X10_meet_146 : DC mi_X10_meet 146 (.istore 5) 2 148 := ⟨by decide +kernel, rfl⟩
theorem d_X10_meet_148 : DC mi_X10_meet 148 (.iinc 6 1) 3 151 := ⟨by decide +kernel, rfl⟩
theorem d_X10_meet_151 : DB mi_X10_meet 151 (.goto (-92)) (-92) 154 59 := ⟨by decide +kernel, rfl, by decide⟩
theorem d_X10_meet_154 : DC mi_X10_meet 154 (.iload_n 3) 1 155 := ⟨by decide +kernel, rfl⟩
theorem d_X10_meet_155 : DB mi_X10_meet 155 (.ifCond .ne 8) 8 158 163 := ⟨by decide +kernel, rfl, by decide⟩
theorem d_X10_meet_158 : DC mi_X10_meet 158 (.iload 4) 2 160 := ⟨by decide +kernel, rfl⟩
theorem d_X10_meet_160 : DB mi_X10_meet 160 (.goto 5) 5 163 165 := ⟨by decide +kernel, rfl, by decide⟩
theorem d_X10_meet_163 : DC mi_X10_meet 163 (.iload 5) 2 165 := ⟨by decide +kernel, rfl⟩
theorem d_X10_meet_165 : DC mi_X10_meet 165 (.ireturn) 1 166 := ⟨by decide +kernel, rfl⟩
set_option maxHeartbeats 4000000 in
set_option maxRecDepth 100000 in
theorem sL_X10_meet_59 (d : Nat) (hd : 5 ≤ d) (K154 : Int32 → Int32 → HH → Option (Int32 × HH)) (c3 : Int32) (hK154 : ∀ (z4 : Int32) (z5 : Int32) (h : HH), Sx mi_X10_meet d iI (K154 z4 z5 h) 154 [(3, .int c3), (4, .int z4), (5, .int z5)] [] h) : ∀ (n : Nat) (x4 : Int32) (x5 : Int32) (x6 : Int32) (h : HH), Sx mi_X10_meet d iI (g_X10_meet_L59 K154 c3 n x4 x5 x6 h) 59 [(0, .ref 0), (3, .int c3), (4, .int x4), (5, .int x5), (6, .int x6)] [] h := by
  intro n
  induction n with
  | zero => intro x4 x5 x6 h; exact sx_none
  | succ n ih =>
    intro x4 x5 x6 h
    rw [g_X10_meet_L59]
    refine sx_iload d_X10_meet_59 4 rfl ?_
    refine sx_aload_n d_X10_meet_61 0 rfl ?_
    refine sx_getR fl_StairCount_16 sh_0 rfl d_X10_meet_62 (fun p9 => ?_)
    refine sx_ckH (fun ep9 => ?_)
    refine sx_getI fl_StairCount_112 ep9 rfl d_X10_meet_65 (fun v10 => ?_)
    refine sx_icmp_gt d_X10_meet_68 ?_ ?_
    · refine sx_lc (lc' := [(3, .int c3), (4, .int x4), (5, .int x5)]) [1, 2, 3] rfl ?_
      exact hK154 x4 x5 h
    · refine sx_aload_n d_X10_meet_71 0 rfl ?_
      refine sx_getF (a' := 247) fl_StairCount_68 sh_0 rfl rfl d_X10_meet_72 ?_
      refine sx_getF (a' := 248) fl_StairCount_269 sh_247 rfl rfl d_X10_meet_75 ?_
      refine sx_iload d_X10_meet_78 4 rfl ?_
      refine sx_iald sh_248 d_X10_meet_80 (fun v11 => ?_)
      refine sx_ldcw d_X10_meet_81 lK_StairCount_272 ?_
      refine sx_jn (fun j => ∀ (u15 : Int32) (u16 : Int32) (h : HH), Sx mi_X10_meet d iI (j u15 u16 h) 148 [(0, .ref 0), (3, .int c3), (4, .int u15), (5, .int u16), (6, .int x6)] [] h) ?_ ?_
      · intro u15 u16 h14
        refine sx_iincV (lc' := fun v17 => [(6, .int v17), (0, .ref 0), (3, .int c3), (4, .int u15), (5, .int u16)]) (k0 := 4) d_X10_meet_148 rfl ii1 (by decide) (fun _ => rfl) (fun v17 => ?_)
        refine sx_goto d_X10_meet_151 ?_
        refine sx_lc (lc' := [(0, .ref 0), (3, .int c3), (4, .int u15), (5, .int u16), (6, .int v17)]) [1, 2, 3, 4, 0] rfl ?_
        exact ih u15 u16 v17 h14
      · intro j12 k13
        refine sx_icmp_eq d_X10_meet_84 ?_ ?_
        · exact k13 x4 x5 h
        · refine sx_aload_n d_X10_meet_87 0 rfl ?_
          refine sx_getF (a' := 251) fl_StairCount_72 sh_0 rfl rfl d_X10_meet_88 ?_
          refine sx_getF (a' := 252) fl_StairCount_269 sh_251 rfl rfl d_X10_meet_91 ?_
          refine sx_iload d_X10_meet_94 4 rfl ?_
          refine sx_iald sh_252 d_X10_meet_96 (fun v18 => ?_)
          refine sx_ldcw d_X10_meet_97 lK_StairCount_272 ?_
          refine sx_icmp_eq d_X10_meet_100 ?_ ?_
          · exact k13 x4 x5 h
          · refine sx_aload_n d_X10_meet_103 0 rfl ?_
            refine sx_getF (a' := 247) fl_StairCount_68 sh_0 rfl rfl d_X10_meet_104 ?_
            refine sx_getF (a' := 248) fl_StairCount_269 sh_247 rfl rfl d_X10_meet_107 ?_
            refine sx_iload d_X10_meet_110 4 rfl ?_
            refine sx_iald sh_248 d_X10_meet_112 (fun v19 => ?_)
            refine sx_aload_n d_X10_meet_113 0 rfl ?_
            refine sx_getF (a' := 251) fl_StairCount_72 sh_0 rfl rfl d_X10_meet_114 ?_
            refine sx_getF (a' := 252) fl_StairCount_269 sh_251 rfl rfl d_X10_meet_117 ?_
            refine sx_iload d_X10_meet_120 4 rfl ?_
            refine sx_iald sh_252 d_X10_meet_122 (fun v20 => ?_)
            refine sx_iadd d_X10_meet_123 ?_
            refine sx_vlI (fun v21 => ?_)
            refine sx_istore (i := 7) (lc' := [(7, .int v21), (0, .ref 0), (3, .int c3), (4, .int x4), (5, .int x5), (6, .int x6)]) d_X10_meet_124 (by decide) rfl ?_
            refine sx_iload d_X10_meet_126 3 rfl ?_
            refine sx_bipush d_X10_meet_128 bcm2 ?_
            refine sx_jn (fun j => ∀  (h : HH), Sx mi_X10_meet d iI (j  h) 140 [(0, .ref 0), (3, .int c3), (6, .int x6), (7, .int v21)] [] h) ?_ ?_
            · intro  h24
              refine sx_iload d_X10_meet_140 2 rfl ?_
              refine sx_istore (i := 4) (lc' := [(4, .int x6), (0, .ref 0), (3, .int c3), (6, .int x6), (7, .int v21)]) d_X10_meet_142 (by decide) rfl ?_
              refine sx_iload d_X10_meet_144 4 rfl ?_
              refine sx_istore (i := 5) (lc' := [(5, .int v21), (4, .int x6), (0, .ref 0), (3, .int c3), (6, .int x6), (7, .int v21)]) d_X10_meet_146 (by decide) rfl ?_
              refine sx_lc (lc' := [(0, .ref 0), (3, .int c3), (4, .int x6), (5, .int v21), (6, .int x6)]) [2, 3, 1, 0, 4] rfl ?_
              exact k13 x6 v21 h24
            · intro j22 k23
              refine sx_icmp_eq d_X10_meet_130 ?_ ?_
              · refine sx_lc (lc' := [(0, .ref 0), (3, .int c3), (6, .int x6), (7, .int v21)]) [1, 2, 5, 0] rfl ?_
                exact k23 h
              · refine sx_iload d_X10_meet_133 0 rfl ?_
                refine sx_iload d_X10_meet_135 4 rfl ?_
                refine sx_icmp_ge d_X10_meet_137 ?_ ?_
                · refine sx_lc (lc' := [(0, .ref 0), (3, .int c3), (6, .int x6), (7, .int v21)]) [1, 2, 5, 0] rfl ?_
                  exact k23 h
                · refine sx_lc (lc' := [(0, .ref 0), (3, .int c3), (4, .int x4), (5, .int x5), (6, .int x6)]) [1, 2, 3, 4, 5] rfl ?_
                  exact k13 x4 x5 h
set_option maxHeartbeats 4000000 in
set_option maxRecDepth 100000 in
theorem sp_X10_meet (d : Nat) (hd : 5 ≤ d) (a0 : Int32) (a1 : Int32) (a2 : Int32) (h : HH) : Sp mi_X10_meet d iI [.ref 0, .int a0, .int a1, .int a2] h (g_X10_meet a0 a1 a2 h) := by
  refine sp_of (lc := [(0, .ref 0), (1, .int a0), (2, .int a1), (3, .int a2)]) (by decide) (Nat.le_of_ble_eq_true rfl) rfl ?_
  unfold g_X10_meet
  refine sx_aload_n d_X10_meet_0 0 rfl ?_
  refine sx_iload_n d_X10_meet_1 1 rfl ?_
  refine sx_iload_n d_X10_meet_2 2 rfl ?_
  refine sx_callV [.int a0, .int a1] mv_X10_isPair lM_StairCount_276 sh_0 (by omega) rfl rfl (Nat.le_of_ble_eq_true rfl) d_X10_meet_3 (sp_X10_isPair (d - 1) (by omega) a0 a1 h) (fun r2 h1 => ?_)
  refine sx_if_eq d_X10_meet_6 ?_ ?_
  · refine sx_iconst d_X10_meet_18 icm1 ?_
    exact sx_iret rfl d_X10_meet_19
  · refine sx_iload_n d_X10_meet_9 3 rfl ?_
    refine sx_if_lt d_X10_meet_10 ?_ ?_
    · refine sx_iconst d_X10_meet_18 icm1 ?_
      exact sx_iret rfl d_X10_meet_19
    · refine sx_iload_n d_X10_meet_13 3 rfl ?_
      refine sx_iconst d_X10_meet_14 ic1 ?_
      refine sx_icmp_le d_X10_meet_15 ?_ ?_
      · refine sx_iconst d_X10_meet_18 icm1 ?_
        exact sx_iret rfl d_X10_meet_19
      · refine sx_aload_n d_X10_meet_20 0 rfl ?_
        refine sx_callV [] mv_X10_lookAtNow lM_StairCount_168 sh_0 (by omega) rfl rfl (Nat.le_of_ble_eq_true rfl) d_X10_meet_21 (sp_X10_lookAtNow (d - 1) (by omega) h1) (fun _ h3 => ?_)
        refine sx_aload_n d_X10_meet_24 0 rfl ?_
        refine sx_getF (a' := 247) fl_StairCount_68 sh_0 rfl rfl d_X10_meet_25 ?_
        refine sx_aload_n d_X10_meet_28 0 rfl ?_
        refine sx_getF (a' := 193) fl_StairCount_54 sh_0 rfl rfl d_X10_meet_29 ?_
        refine sx_iload_n d_X10_meet_32 1 rfl ?_
        refine sx_callV [.ref 193, .int a0] mv_X9_seek lM_StairCount_265 sh_247 (by omega) rfl rfl (Nat.le_of_ble_eq_true rfl) d_X10_meet_33 (sp_X9_seek (d - 1) (by omega) 247 a0 h3) (fun _ h5 => ?_)
        refine sx_aload_n d_X10_meet_36 0 rfl ?_
        refine sx_getF (a' := 251) fl_StairCount_72 sh_0 rfl rfl d_X10_meet_37 ?_
        refine sx_aload_n d_X10_meet_40 0 rfl ?_
        refine sx_getF (a' := 193) fl_StairCount_54 sh_0 rfl rfl d_X10_meet_41 ?_
        refine sx_iload_n d_X10_meet_44 2 rfl ?_
        refine sx_callV [.ref 193, .int a1] mv_X9_seek lM_StairCount_265 sh_251 (by omega) rfl rfl (Nat.le_of_ble_eq_true rfl) d_X10_meet_45 (sp_X9_seek (d - 1) (by omega) 251 a1 h5) (fun _ h7 => ?_)
        refine sx_bipush d_X10_meet_48 bcm2 ?_
        refine sx_istore (i := 4) (lc' := [(4, .int (-2 : Int32)), (0, .ref 0), (1, .int a0), (2, .int a1), (3, .int a2)]) d_X10_meet_50 (by decide) rfl ?_
        refine sx_bipush d_X10_meet_52 bcm2 ?_
        refine sx_istore (i := 5) (lc' := [(5, .int (-2 : Int32)), (4, .int (-2 : Int32)), (0, .ref 0), (1, .int a0), (2, .int a1), (3, .int a2)]) d_X10_meet_54 (by decide) rfl ?_
        refine sx_iconst d_X10_meet_56 ic0 ?_
        refine sx_istore (i := 6) (lc' := [(6, .int (0 : Int32)), (5, .int (-2 : Int32)), (4, .int (-2 : Int32)), (0, .ref 0), (1, .int a0), (2, .int a1), (3, .int a2)]) d_X10_meet_57 (by decide) rfl ?_
        refine sx_lc (lc' := [(0, .ref 0), (3, .int a2), (4, .int (-2 : Int32)), (5, .int (-2 : Int32)), (6, .int (0 : Int32))]) [3, 6, 2, 1, 0] rfl ?_
        refine sL_X10_meet_59 d hd _ a2 ?_ 1024 (-2 : Int32) (-2 : Int32) (0 : Int32) h7
        · intro z26 z27 h25
          refine sx_iload_n d_X10_meet_154 0 rfl ?_
          refine sx_if_ne d_X10_meet_155 ?_ ?_
          · refine sx_iload d_X10_meet_158 1 rfl ?_
            refine sx_goto d_X10_meet_160 ?_
            exact sx_iret rfl d_X10_meet_165
          · refine sx_iload d_X10_meet_163 2 rfl ?_
            exact sx_iret rfl d_X10_meet_165
theorem d_X10_steepest_0 : DC mi_X10_steepest 0 (.aload_n 0) 1 1 := ⟨by decide +kernel, rfl⟩
theorem d_X10_steepest_1 : DC mi_X10_steepest 1 (.iload_n 1) 1 2 := ⟨by decide +kernel, rfl⟩
theorem d_X10_steepest_2 : DC mi_X10_steepest 2 (.invokevirtual 115) 3 5 := ⟨by decide +kernel, rfl⟩
theorem d_X10_steepest_5 : DB mi_X10_steepest 5 (.ifCond .ne 5) 5 8 10 := ⟨by decide +kernel, rfl, by decide⟩
theorem d_X10_steepest_8 : DC mi_X10_steepest 8 (.iconst (-1)) 1 9 := ⟨by decide +kernel, rfl⟩
theorem d_X10_steepest_9 : DC mi_X10_steepest 9 (.ireturn) 1 10 := ⟨by decide +kernel, rfl⟩
theorem d_X10_steepest_10 : DC mi_X10_steepest 10 (.aload_n 0) 1 11 := ⟨by decide +kernel, rfl⟩
theorem d_X10_steepest_11 : DC mi_X10_steepest 11 (.invokevirtual 168) 3 14 := ⟨by decide +kernel, rfl⟩
theorem d_X10_steepest_14 : DC mi_X10_steepest 14 (.bipush (-2)) 2 16 := ⟨by decide +kernel, rfl⟩
theorem d_X10_steepest_16 : DC mi_X10_steepest 16 (.istore_n 2) 1 17 := ⟨by decide +kernel, rfl⟩
theorem d_X10_steepest_17 : DC mi_X10_steepest 17 (.iconst 0) 1 18 := ⟨by decide +kernel, rfl⟩
theorem d_X10_steepest_18 : DC mi_X10_steepest 18 (.istore_n 3) 1 19 := ⟨by decide +kernel, rfl⟩
theorem d_X10_steepest_19 : DC mi_X10_steepest 19 (.iconst 0) 1 20 := ⟨by decide +kernel, rfl⟩
theorem d_X10_steepest_20 : DC mi_X10_steepest 20 (.istore 4) 2 22 := ⟨by decide +kernel, rfl⟩
theorem d_X10_steepest_22 : DC mi_X10_steepest 22 (.iload 4) 2 24 := ⟨by decide +kernel, rfl⟩
theorem d_X10_steepest_24 : DC mi_X10_steepest 24 (.aload_n 0) 1 25 := ⟨by decide +kernel, rfl⟩
theorem d_X10_steepest_25 : DC mi_X10_steepest 25 (.getfield 16) 3 28 := ⟨by decide +kernel, rfl⟩
theorem d_X10_steepest_28 : DC mi_X10_steepest 28 (.getfield 112) 3 31 := ⟨by decide +kernel, rfl⟩
theorem d_X10_steepest_31 : DB mi_X10_steepest 31 (.if_icmp .ge 40) 40 34 71 := ⟨by decide +kernel, rfl, by decide⟩
theorem d_X10_steepest_34 : DC mi_X10_steepest 34 (.aload_n 0) 1 35 := ⟨by decide +kernel, rfl⟩
theorem d_X10_steepest_35 : DC mi_X10_steepest 35 (.getfield 54) 3 38 := ⟨by decide +kernel, rfl⟩
theorem d_X10_steepest_38 : DC mi_X10_steepest 38 (.iload_n 1) 1 39 := ⟨by decide +kernel, rfl⟩
theorem d_X10_steepest_39 : DC mi_X10_steepest 39 (.iload 4) 2 41 := ⟨by decide +kernel, rfl⟩
theorem d_X10_steepest_41 : DC mi_X10_steepest 41 (.iconst 0) 1 42 := ⟨by decide +kernel, rfl⟩
theorem d_X10_steepest_42 : DC mi_X10_steepest 42 (.invokevirtual 171) 3 45 := ⟨by decide +kernel, rfl⟩
theorem d_X10_steepest_45 : DC mi_X10_steepest 45 (.istore 5) 2 47 := ⟨by decide +kernel, rfl⟩
theorem d_X10_steepest_47 : DC mi_X10_steepest 47 (.iload_n 2) 1 48 := ⟨by decide +kernel, rfl⟩
theorem d_X10_steepest_48 : DC mi_X10_steepest 48 (.bipush (-2)) 2 50 := ⟨by decide +kernel, rfl⟩
theorem d_X10_steepest_50 : DB mi_X10_steepest 50 (.if_icmp .eq 9) 9 53 59 := ⟨by decide +kernel, rfl, by decide⟩
theorem d_X10_steepest_53 : DC mi_X10_steepest 53 (.iload 5) 2 55 := ⟨by decide +kernel, rfl⟩
theorem d_X10_steepest_55 : DC mi_X10_steepest 55 (.iload_n 3) 1 56 := ⟨by decide +kernel, rfl⟩
theorem d_X10_steepest_56 : DB mi_X10_steepest 56 (.if_icmp .le 9) 9 59 65 := ⟨by decide +kernel, rfl, by decide⟩
theorem d_X10_steepest_59 : DC mi_X10_steepest 59 (.iload 4) 2 61 := ⟨by decide +kernel, rfl⟩
theorem d_X10_steepest_61 : DC mi_X10_steepest 61 (.istore_n 2) 1 62 := ⟨by decide +kernel, rfl⟩
theorem d_X10_steepest_62 : DC mi_X10_steepest 62 (.iload 5) 2 64 := ⟨by decide +kernel, rfl⟩
theorem d_X10_steepest_64 : DC mi_X10_steepest 64 (.istore_n 3) 1 65 := ⟨by decide +kernel, rfl⟩
theorem d_X10_steepest_65 : DC mi_X10_steepest 65 (.iinc 4 1) 3 68 := ⟨by decide +kernel, rfl⟩
theorem d_X10_steepest_68 : DB mi_X10_steepest 68 (.goto (-46)) (-46) 71 22 := ⟨by decide +kernel, rfl, by decide⟩
theorem d_X10_steepest_71 : DC mi_X10_steepest 71 (.iload_n 2) 1 72 := ⟨by decide +kernel, rfl⟩
theorem d_X10_steepest_72 : DC mi_X10_steepest 72 (.ireturn) 1 73 := ⟨by decide +kernel, rfl⟩
set_option maxHeartbeats 4000000 in
set_option maxRecDepth 100000 in
theorem sL_X10_steepest_22 (d : Nat) (hd : 3 ≤ d) (c1 : Int32) : ∀ (n : Nat) (x2 : Int32) (x3 : Int32) (x4 : Int32) (h : HH), Sx mi_X10_steepest d iI (g_X10_steepest_L22 c1 n x2 x3 x4 h) 22 [(0, .ref 0), (1, .int c1), (2, .int x2), (3, .int x3), (4, .int x4)] [] h := by
  intro n
  induction n with
  | zero => intro x2 x3 x4 h; exact sx_none
  | succ n ih =>
    intro x2 x3 x4 h
    rw [g_X10_steepest_L22]
    refine sx_iload d_X10_steepest_22 4 rfl ?_
    refine sx_aload_n d_X10_steepest_24 0 rfl ?_
    refine sx_getR fl_StairCount_16 sh_0 rfl d_X10_steepest_25 (fun p5 => ?_)
    refine sx_ckH (fun ep5 => ?_)
    refine sx_getI fl_StairCount_112 ep5 rfl d_X10_steepest_28 (fun v6 => ?_)
    refine sx_icmp_ge d_X10_steepest_31 ?_ ?_
    · refine sx_aload_n d_X10_steepest_34 0 rfl ?_
      refine sx_getF (a' := 193) fl_StairCount_54 sh_0 rfl rfl d_X10_steepest_35 ?_
      refine sx_iload_n d_X10_steepest_38 1 rfl ?_
      refine sx_iload d_X10_steepest_39 4 rfl ?_
      refine sx_iconst d_X10_steepest_41 ic0 ?_
      refine sx_callV [.int c1, .int x4, .int (0 : Int32)] mv_X0_steepOf lM_StairCount_171 sh_193 (by omega) rfl rfl (Nat.le_of_ble_eq_true rfl) d_X10_steepest_42 (sp_X0_steepOf (d - 1) (by omega) c1 x4 (0 : Int32) h) (fun r8 h7 => ?_)
      refine sx_istore (i := 5) (lc' := [(5, .int r8), (0, .ref 0), (1, .int c1), (2, .int x2), (3, .int x3), (4, .int x4)]) d_X10_steepest_45 (by decide) rfl ?_
      refine sx_iload_n d_X10_steepest_47 3 rfl ?_
      refine sx_bipush d_X10_steepest_48 bcm2 ?_
      refine sx_jn (fun j => ∀ (u12 : Int32) (u13 : Int32) (h : HH), Sx mi_X10_steepest d iI (j u12 u13 h) 65 [(0, .ref 0), (1, .int c1), (2, .int u12), (3, .int u13), (4, .int x4)] [] h) ?_ ?_
      · intro u12 u13 h11
        refine sx_iincV (lc' := fun v14 => [(4, .int v14), (0, .ref 0), (1, .int c1), (2, .int u12), (3, .int u13)]) (k0 := 4) d_X10_steepest_65 rfl ii1 (by decide) (fun _ => rfl) (fun v14 => ?_)
        refine sx_goto d_X10_steepest_68 ?_
        refine sx_lc (lc' := [(0, .ref 0), (1, .int c1), (2, .int u12), (3, .int u13), (4, .int v14)]) [1, 2, 3, 4, 0] rfl ?_
        exact ih u12 u13 v14 h11
      · intro j9 k10
        refine sx_jn (fun j => ∀  (h : HH), Sx mi_X10_steepest d iI (j  h) 59 [(0, .ref 0), (1, .int c1), (4, .int x4), (5, .int r8)] [] h) ?_ ?_
        · intro  h17
          refine sx_iload d_X10_steepest_59 2 rfl ?_
          refine sx_istore_n (i := 2) (lc' := [(2, .int x4), (0, .ref 0), (1, .int c1), (4, .int x4), (5, .int r8)]) d_X10_steepest_61 rfl (by decide) rfl ?_
          refine sx_iload d_X10_steepest_62 4 rfl ?_
          refine sx_istore_n (i := 3) (lc' := [(3, .int r8), (2, .int x4), (0, .ref 0), (1, .int c1), (4, .int x4), (5, .int r8)]) d_X10_steepest_64 rfl (by decide) rfl ?_
          refine sx_lc (lc' := [(0, .ref 0), (1, .int c1), (2, .int x4), (3, .int r8), (4, .int x4)]) [2, 3, 1, 0, 4] rfl ?_
          exact k10 x4 r8 h17
        · intro j15 k16
          refine sx_icmp_eq d_X10_steepest_50 ?_ ?_
          · refine sx_lc (lc' := [(0, .ref 0), (1, .int c1), (4, .int x4), (5, .int r8)]) [1, 2, 5, 0] rfl ?_
            exact k16 h7
          · refine sx_iload d_X10_steepest_53 0 rfl ?_
            refine sx_iload_n d_X10_steepest_55 4 rfl ?_
            refine sx_icmp_le d_X10_steepest_56 ?_ ?_
            · refine sx_lc (lc' := [(0, .ref 0), (1, .int c1), (4, .int x4), (5, .int r8)]) [1, 2, 5, 0] rfl ?_
              exact k16 h7
            · refine sx_lc (lc' := [(0, .ref 0), (1, .int c1), (2, .int x2), (3, .int x3), (4, .int x4)]) [1, 2, 3, 4, 5] rfl ?_
              exact k10 x2 x3 h7
    · refine sx_iload_n d_X10_steepest_71 2 rfl ?_
      exact sx_iret rfl d_X10_steepest_72
set_option maxHeartbeats 4000000 in
set_option maxRecDepth 100000 in
theorem sp_X10_steepest (d : Nat) (hd : 3 ≤ d) (a0 : Int32) (h : HH) : Sp mi_X10_steepest d iI [.ref 0, .int a0] h (g_X10_steepest a0 h) := by
  refine sp_of (lc := [(0, .ref 0), (1, .int a0)]) (by decide) (Nat.le_of_ble_eq_true rfl) rfl ?_
  unfold g_X10_steepest
  refine sx_aload_n d_X10_steepest_0 0 rfl ?_
  refine sx_iload_n d_X10_steepest_1 1 rfl ?_
  refine sx_callV [.int a0] mv_X10_isPerson lM_StairCount_115 sh_0 (by omega) rfl rfl (Nat.le_of_ble_eq_true rfl) d_X10_steepest_2 (sp_X10_isPerson (d - 1) (by omega) a0 h) (fun r2 h1 => ?_)
  refine sx_if_ne d_X10_steepest_5 ?_ ?_
  · refine sx_iconst d_X10_steepest_8 icm1 ?_
    exact sx_iret rfl d_X10_steepest_9
  · refine sx_aload_n d_X10_steepest_10 0 rfl ?_
    refine sx_callV [] mv_X10_lookAtNow lM_StairCount_168 sh_0 (by omega) rfl rfl (Nat.le_of_ble_eq_true rfl) d_X10_steepest_11 (sp_X10_lookAtNow (d - 1) (by omega) h1) (fun _ h3 => ?_)
    refine sx_bipush d_X10_steepest_14 bcm2 ?_
    refine sx_istore_n (i := 2) (lc' := [(2, .int (-2 : Int32)), (0, .ref 0), (1, .int a0)]) d_X10_steepest_16 rfl (by decide) rfl ?_
    refine sx_iconst d_X10_steepest_17 ic0 ?_
    refine sx_istore_n (i := 3) (lc' := [(3, .int (0 : Int32)), (2, .int (-2 : Int32)), (0, .ref 0), (1, .int a0)]) d_X10_steepest_18 rfl (by decide) rfl ?_
    refine sx_iconst d_X10_steepest_19 ic0 ?_
    refine sx_istore (i := 4) (lc' := [(4, .int (0 : Int32)), (3, .int (0 : Int32)), (2, .int (-2 : Int32)), (0, .ref 0), (1, .int a0)]) d_X10_steepest_20 (by decide) rfl ?_
    refine sx_lc (lc' := [(0, .ref 0), (1, .int a0), (2, .int (-2 : Int32)), (3, .int (0 : Int32)), (4, .int (0 : Int32))]) [3, 4, 2, 1, 0] rfl ?_
    refine sL_X10_steepest_22 d hd a0 1024 (-2 : Int32) (0 : Int32) (0 : Int32) h3
theorem d_X10_wall_0 : DC mi_X10_wall 0 (.aload_n 0) 1 1 := ⟨by decide +kernel, rfl⟩
theorem d_X10_wall_1 : DC mi_X10_wall 1 (.invokevirtual 168) 3 4 := ⟨by decide +kernel, rfl⟩
theorem d_X10_wall_4 : DC mi_X10_wall 4 (.iconst 0) 1 5 := ⟨by decide +kernel, rfl⟩
theorem d_X10_wall_5 : DC mi_X10_wall 5 (.istore_n 1) 1 6 := ⟨by decide +kernel, rfl⟩
theorem d_X10_wall_6 : DC mi_X10_wall 6 (.iconst 0) 1 7 := ⟨by decide +kernel, rfl⟩
theorem d_X10_wall_7 : DC mi_X10_wall 7 (.istore_n 2) 1 8 := ⟨by decide +kernel, rfl⟩
theorem d_X10_wall_8 : DC mi_X10_wall 8 (.iload_n 2) 1 9 := ⟨by decide +kernel, rfl⟩
theorem d_X10_wall_9 : DC mi_X10_wall 9 (.aload_n 0) 1 10 := ⟨by decide +kernel, rfl⟩
theorem d_X10_wall_10 : DC mi_X10_wall 10 (.getfield 16) 3 13 := ⟨by decide +kernel, rfl⟩
theorem d_X10_wall_13 : DC mi_X10_wall 13 (.getfield 112) 3 16 := ⟨by decide +kernel, rfl⟩
theorem d_X10_wall_16 : DB mi_X10_wall 16 (.if_icmp .ge 64) 64 19 80 := ⟨by decide +kernel, rfl, by decide⟩
theorem d_X10_wall_19 : DC mi_X10_wall 19 (.iconst 1) 1 20 := ⟨by decide +kernel, rfl⟩
theorem d_X10_wall_20 : DC mi_X10_wall 20 (.iload_n 2) 1 21 := ⟨by decide +kernel, rfl⟩
theorem d_X10_wall_21 : DC mi_X10_wall 21 (.ishl) 1 22 := ⟨by decide +kernel, rfl⟩
theorem d_X10_wall_22 : DC mi_X10_wall 22 (.istore_n 3) 1 23 := ⟨by decide +kernel, rfl⟩
theorem d_X10_wall_23 : DC mi_X10_wall 23 (.iconst 0) 1 24 := ⟨by decide +kernel, rfl⟩
theorem d_X10_wall_24 : DC mi_X10_wall 24 (.istore 4) 2 26 := ⟨by decide +kernel, rfl⟩
theorem d_X10_wall_26 : DC mi_X10_wall 26 (.iload 4) 2 28 := ⟨by decide +kernel, rfl⟩
theorem d_X10_wall_28 : DC mi_X10_wall 28 (.aload_n 0) 1 29 := ⟨by decide +kernel, rfl⟩
theorem d_X10_wall_29 : DC mi_X10_wall 29 (.getfield 16) 3 32 := ⟨by decide +kernel, rfl⟩
theorem d_X10_wall_32 : DC mi_X10_wall 32 (.getfield 109) 3 35 := ⟨by decide +kernel, rfl⟩
theorem d_X10_wall_35 : DB mi_X10_wall 35 (.if_icmp .ge 35) 35 38 70 := ⟨by decide +kernel, rfl, by decide⟩
theorem d_X10_wall_38 : DC mi_X10_wall 38 (.aload_n 0) 1 39 := ⟨by decide +kernel, rfl⟩
theorem d_X10_wall_39 : DC mi_X10_wall 39 (.getfield 54) 3 42 := ⟨by decide +kernel, rfl⟩
theorem d_X10_wall_42 : DC mi_X10_wall 42 (.iload 4) 2 44 := ⟨by decide +kernel, rfl⟩
theorem d_X10_wall_44 : DC mi_X10_wall 44 (.iload_n 2) 1 45 := ⟨by decide +kernel, rfl⟩
theorem d_X10_wall_45 : DC mi_X10_wall 45 (.iconst 0) 1 46 := ⟨by decide +kernel, rfl⟩
theorem d_X10_wall_46 : DC mi_X10_wall 46 (.invokevirtual 171) 3 49 := ⟨by decide +kernel, rfl⟩
theorem d_X10_wall_49 : DC mi_X10_wall 49 (.aload_n 0) 1 50 := ⟨by decide +kernel, rfl⟩
theorem d_X10_wall_50 : DC mi_X10_wall 50 (.getfield 16) 3 53 := ⟨by decide +kernel, rfl⟩
theorem d_X10_wall_53 : DC mi_X10_wall 53 (.getfield 138) 3 56 := ⟨by decide +kernel, rfl⟩
theorem d_X10_wall_56 : DC mi_X10_wall 56 (.iload 4) 2 58 := ⟨by decide +kernel, rfl⟩
theorem d_X10_wall_58 : DC mi_X10_wall 58 (.iaload) 1 59 := ⟨by decide +kernel, rfl⟩
theorem d_X10_wall_59 : DB mi_X10_wall 59 (.if_icmp .gt 5) 5 62 64 := ⟨by decide +kernel, rfl, by decide⟩
theorem d_X10_wall_62 : DC mi_X10_wall 62 (.iconst 0) 1 63 := ⟨by decide +kernel, rfl⟩
theorem d_X10_wall_63 : DC mi_X10_wall 63 (.istore_n 3) 1 64 := ⟨by decide +kernel, rfl⟩
theorem d_X10_wall_64 : DC mi_X10_wall 64 (.iinc 4 1) 3 67 := ⟨by decide +kernel, rfl⟩
theorem d_X10_wall_67 : DB mi_X10_wall 67 (.goto (-41)) (-41) 70 26 := ⟨by decide +kernel, rfl, by decide⟩
theorem d_X10_wall_70 : DC mi_X10_wall 70 (.iload_n 1) 1 71 := ⟨by decide +kernel, rfl⟩
theorem d_X10_wall_71 : DC mi_X10_wall 71 (.iload_n 3) 1 72 := ⟨by decide +kernel, rfl⟩
theorem d_X10_wall_72 : DC mi_X10_wall 72 (.ior) 1 73 := ⟨by decide +kernel, rfl⟩
theorem d_X10_wall_73 : DC mi_X10_wall 73 (.istore_n 1) 1 74 := ⟨by decide +kernel, rfl⟩
theorem d_X10_wall_74 : DC mi_X10_wall 74 (.iinc 2 1) 3 77 := ⟨by decide +kernel, rfl⟩
theorem d_X10_wall_77 : DB mi_X10_wall 77 (.goto (-69)) (-69) 80 8 := ⟨by decide +kernel, rfl, by decide⟩
theorem d_X10_wall_80 : DC mi_X10_wall 80 (.iload_n 1) 1 81 := ⟨by decide +kernel, rfl⟩
theorem d_X10_wall_81 : DC mi_X10_wall 81 (.ireturn) 1 82 := ⟨by decide +kernel, rfl⟩
set_option maxHeartbeats 4000000 in
set_option maxRecDepth 100000 in
theorem sL_X10_wall_26 (d : Nat) (hd : 3 ≤ d) (K70 : Int32 → HH → Option (Int32 × HH)) (c1 : Int32) (c2 : Int32) (hK70 : ∀ (z3 : Int32) (h : HH), Sx mi_X10_wall d iI (K70 z3 h) 70 [(0, .ref 0), (1, .int c1), (2, .int c2), (3, .int z3)] [] h) : ∀ (n : Nat) (x3 : Int32) (x4 : Int32) (h : HH), Sx mi_X10_wall d iI (g_X10_wall_L26 K70 c1 c2 n x3 x4 h) 26 [(0, .ref 0), (1, .int c1), (2, .int c2), (3, .int x3), (4, .int x4)] [] h := by
  intro n
  induction n with
  | zero => intro x3 x4 h; exact sx_none
  | succ n ih =>
    intro x3 x4 h
    rw [g_X10_wall_L26]
    refine sx_iload d_X10_wall_26 4 rfl ?_
    refine sx_aload_n d_X10_wall_28 0 rfl ?_
    refine sx_getR fl_StairCount_16 sh_0 rfl d_X10_wall_29 (fun p6 => ?_)
    refine sx_ckH (fun ep6 => ?_)
    refine sx_getI fl_StairCount_109 ep6 rfl d_X10_wall_32 (fun v7 => ?_)
    refine sx_icmp_ge d_X10_wall_35 ?_ ?_
    · refine sx_aload_n d_X10_wall_38 0 rfl ?_
      refine sx_getF (a' := 193) fl_StairCount_54 sh_0 rfl rfl d_X10_wall_39 ?_
      refine sx_iload d_X10_wall_42 4 rfl ?_
      refine sx_iload_n d_X10_wall_44 2 rfl ?_
      refine sx_iconst d_X10_wall_45 ic0 ?_
      refine sx_callV [.int x4, .int c2, .int (0 : Int32)] mv_X0_steepOf lM_StairCount_171 sh_193 (by omega) rfl rfl (Nat.le_of_ble_eq_true rfl) d_X10_wall_46 (sp_X0_steepOf (d - 1) (by omega) x4 c2 (0 : Int32) h) (fun r9 h8 => ?_)
      refine sx_aload_n d_X10_wall_49 0 rfl ?_
      refine sx_getR fl_StairCount_16 sh_0 rfl d_X10_wall_50 (fun p10 => ?_)
      refine sx_ckH (fun ep10 => ?_)
      refine sx_getF (a' := (p10 + 3)) fl_StairCount_138 ep10 rfl rfl d_X10_wall_53 ?_
      refine sx_iload d_X10_wall_56 4 rfl ?_
      refine sx_iald (shf_5_4 ep10) d_X10_wall_58 (fun v11 => ?_)
      refine sx_jn (fun j => ∀ (u15 : Int32) (h : HH), Sx mi_X10_wall d iI (j u15 h) 64 [(0, .ref 0), (1, .int c1), (2, .int c2), (3, .int u15), (4, .int x4)] [] h) ?_ ?_
      · intro u15 h14
        refine sx_iincV (lc' := fun v16 => [(4, .int v16), (0, .ref 0), (1, .int c1), (2, .int c2), (3, .int u15)]) (k0 := 4) d_X10_wall_64 rfl ii1 (by decide) (fun _ => rfl) (fun v16 => ?_)
        refine sx_goto d_X10_wall_67 ?_
        refine sx_lc (lc' := [(0, .ref 0), (1, .int c1), (2, .int c2), (3, .int u15), (4, .int v16)]) [1, 2, 3, 4, 0] rfl ?_
        exact ih u15 v16 h14
      · intro j12 k13
        refine sx_icmp_gt d_X10_wall_59 ?_ ?_
        · exact k13 x3 h8
        · refine sx_iconst d_X10_wall_62 ic0 ?_
          refine sx_istore_n (i := 3) (lc' := [(3, .int (0 : Int32)), (0, .ref 0), (1, .int c1), (2, .int c2), (4, .int x4)]) d_X10_wall_63 rfl (by decide) rfl ?_
          refine sx_lc (lc' := [(0, .ref 0), (1, .int c1), (2, .int c2), (3, .int (0 : Int32)), (4, .int x4)]) [1, 2, 3, 0, 4] rfl ?_
          exact k13 (0 : Int32) h8
    · refine sx_lc (lc' := [(0, .ref 0), (1, .int c1), (2, .int c2), (3, .int x3)]) [0, 1, 2, 3] rfl ?_
      exact hK70 x3 h
set_option maxHeartbeats 4000000 in
set_option maxRecDepth 100000 in
theorem sL_X10_wall_8 (d : Nat) (hd : 3 ≤ d) : ∀ (n : Nat) (x1 : Int32) (x2 : Int32) (h : HH), Sx mi_X10_wall d iI (g_X10_wall_L8 n x1 x2 h) 8 [(0, .ref 0), (1, .int x1), (2, .int x2)] [] h := by
  intro n
  induction n with
  | zero => intro x1 x2 h; exact sx_none
  | succ n ih =>
    intro x1 x2 h
    rw [g_X10_wall_L8]
    refine sx_iload_n d_X10_wall_8 2 rfl ?_
    refine sx_aload_n d_X10_wall_9 0 rfl ?_
    refine sx_getR fl_StairCount_16 sh_0 rfl d_X10_wall_10 (fun p3 => ?_)
    refine sx_ckH (fun ep3 => ?_)
    refine sx_getI fl_StairCount_112 ep3 rfl d_X10_wall_13 (fun v4 => ?_)
    refine sx_icmp_ge d_X10_wall_16 ?_ ?_
    · refine sx_iconst d_X10_wall_19 ic1 ?_
      refine sx_iload_n d_X10_wall_20 2 rfl ?_
      refine sx_ishl d_X10_wall_21 ?_
      refine sx_vlI (fun v5 => ?_)
      refine sx_istore_n (i := 3) (lc' := [(3, .int v5), (0, .ref 0), (1, .int x1), (2, .int x2)]) d_X10_wall_22 rfl (by decide) rfl ?_
      refine sx_iconst d_X10_wall_23 ic0 ?_
      refine sx_istore (i := 4) (lc' := [(4, .int (0 : Int32)), (3, .int v5), (0, .ref 0), (1, .int x1), (2, .int x2)]) d_X10_wall_24 (by decide) rfl ?_
      refine sx_lc (lc' := [(0, .ref 0), (1, .int x1), (2, .int x2), (3, .int v5), (4, .int (0 : Int32))]) [2, 3, 4, 1, 0] rfl ?_
      refine sL_X10_wall_26 d hd _ x1 x2 ?_ 1024 v5 (0 : Int32) h
      · intro z18 h17
        refine sx_iload_n d_X10_wall_70 1 rfl ?_
        refine sx_iload_n d_X10_wall_71 3 rfl ?_
        refine sx_ior d_X10_wall_72 ?_
        refine sx_vlI (fun v19 => ?_)
        refine sx_istore_n (i := 1) (lc' := [(1, .int v19), (0, .ref 0), (2, .int x2), (3, .int z18)]) d_X10_wall_73 rfl (by decide) rfl ?_
        refine sx_iincV (lc' := fun v20 => [(2, .int v20), (1, .int v19), (0, .ref 0), (3, .int z18)]) (k0 := 2) d_X10_wall_74 rfl ii1 (by decide) (fun _ => rfl) (fun v20 => ?_)
        refine sx_goto d_X10_wall_77 ?_
        refine sx_lc (lc' := [(0, .ref 0), (1, .int v19), (2, .int v20)]) [2, 1, 0] rfl ?_
        exact ih v19 v20 h17
    · refine sx_iload_n d_X10_wall_80 1 rfl ?_
      exact sx_iret rfl d_X10_wall_81
set_option maxHeartbeats 4000000 in
set_option maxRecDepth 100000 in
theorem sp_X10_wall (d : Nat) (hd : 3 ≤ d) (h : HH) : Sp mi_X10_wall d iI [.ref 0] h (g_X10_wall h) := by
  refine sp_of (lc := [(0, .ref 0)]) (by decide) (Nat.le_of_ble_eq_true rfl) rfl ?_
  unfold g_X10_wall
  refine sx_aload_n d_X10_wall_0 0 rfl ?_
  refine sx_callV [] mv_X10_lookAtNow lM_StairCount_168 sh_0 (by omega) rfl rfl (Nat.le_of_ble_eq_true rfl) d_X10_wall_1 (sp_X10_lookAtNow (d - 1) (by omega) h) (fun _ h1 => ?_)
  refine sx_iconst d_X10_wall_4 ic0 ?_
  refine sx_istore_n (i := 1) (lc' := [(1, .int (0 : Int32)), (0, .ref 0)]) d_X10_wall_5 rfl (by decide) rfl ?_
  refine sx_iconst d_X10_wall_6 ic0 ?_
  refine sx_istore_n (i := 2) (lc' := [(2, .int (0 : Int32)), (1, .int (0 : Int32)), (0, .ref 0)]) d_X10_wall_7 rfl (by decide) rfl ?_
  refine sx_lc (lc' := [(0, .ref 0), (1, .int (0 : Int32)), (2, .int (0 : Int32))]) [2, 1, 0] rfl ?_
  refine sL_X10_wall_8 d hd  1024 (0 : Int32) (0 : Int32) h1
theorem d_J6_bitCount_0f7a4_0 : DC mi_J6_bitCount_0f7a4 0 (.iload_n 0) 1 1 := ⟨by decide +kernel, rfl⟩
theorem d_J6_bitCount_0f7a4_1 : DC mi_J6_bitCount_0f7a4 1 (.iload_n 0) 1 2 := ⟨by decide +kernel, rfl⟩
theorem d_J6_bitCount_0f7a4_2 : DC mi_J6_bitCount_0f7a4 2 (.iconst 1) 1 3 := ⟨by decide +kernel, rfl⟩
theorem d_J6_bitCount_0f7a4_3 : DC mi_J6_bitCount_0f7a4 3 (.iushr) 1 4 := ⟨by decide +kernel, rfl⟩
theorem d_J6_bitCount_0f7a4_4 : DC mi_J6_bitCount_0f7a4 4 (.ldc_w 265) 3 7 := ⟨by decide +kernel, rfl⟩
theorem d_J6_bitCount_0f7a4_7 : DC mi_J6_bitCount_0f7a4 7 (.iand) 1 8 := ⟨by decide +kernel, rfl⟩
theorem d_J6_bitCount_0f7a4_8 : DC mi_J6_bitCount_0f7a4 8 (.isub) 1 9 := ⟨by decide +kernel, rfl⟩
theorem d_J6_bitCount_0f7a4_9 : DC mi_J6_bitCount_0f7a4 9 (.istore_n 0) 1 10 := ⟨by decide +kernel, rfl⟩
theorem d_J6_bitCount_0f7a4_10 : DC mi_J6_bitCount_0f7a4 10 (.iload_n 0) 1 11 := ⟨by decide +kernel, rfl⟩
theorem d_J6_bitCount_0f7a4_11 : DC mi_J6_bitCount_0f7a4 11 (.ldc_w 266) 3 14 := ⟨by decide +kernel, rfl⟩
theorem d_J6_bitCount_0f7a4_14 : DC mi_J6_bitCount_0f7a4 14 (.iand) 1 15 := ⟨by decide +kernel, rfl⟩
theorem d_J6_bitCount_0f7a4_15 : DC mi_J6_bitCount_0f7a4 15 (.iload_n 0) 1 16 := ⟨by decide +kernel, rfl⟩
theorem d_J6_bitCount_0f7a4_16 : DC mi_J6_bitCount_0f7a4 16 (.iconst 2) 1 17 := ⟨by decide +kernel, rfl⟩
theorem d_J6_bitCount_0f7a4_17 : DC mi_J6_bitCount_0f7a4 17 (.iushr) 1 18 := ⟨by decide +kernel, rfl⟩
theorem d_J6_bitCount_0f7a4_18 : DC mi_J6_bitCount_0f7a4 18 (.ldc_w 266) 3 21 := ⟨by decide +kernel, rfl⟩
theorem d_J6_bitCount_0f7a4_21 : DC mi_J6_bitCount_0f7a4 21 (.iand) 1 22 := ⟨by decide +kernel, rfl⟩
theorem d_J6_bitCount_0f7a4_22 : DC mi_J6_bitCount_0f7a4 22 (.iadd) 1 23 := ⟨by decide +kernel, rfl⟩
theorem d_J6_bitCount_0f7a4_23 : DC mi_J6_bitCount_0f7a4 23 (.istore_n 0) 1 24 := ⟨by decide +kernel, rfl⟩
theorem d_J6_bitCount_0f7a4_24 : DC mi_J6_bitCount_0f7a4 24 (.iload_n 0) 1 25 := ⟨by decide +kernel, rfl⟩
theorem d_J6_bitCount_0f7a4_25 : DC mi_J6_bitCount_0f7a4 25 (.iload_n 0) 1 26 := ⟨by decide +kernel, rfl⟩
theorem d_J6_bitCount_0f7a4_26 : DC mi_J6_bitCount_0f7a4 26 (.iconst 4) 1 27 := ⟨by decide +kernel, rfl⟩
theorem d_J6_bitCount_0f7a4_27 : DC mi_J6_bitCount_0f7a4 27 (.iushr) 1 28 := ⟨by decide +kernel, rfl⟩
theorem d_J6_bitCount_0f7a4_28 : DC mi_J6_bitCount_0f7a4 28 (.iadd) 1 29 := ⟨by decide +kernel, rfl⟩
theorem d_J6_bitCount_0f7a4_29 : DC mi_J6_bitCount_0f7a4 29 (.ldc_w 267) 3 32 := ⟨by decide +kernel, rfl⟩
theorem d_J6_bitCount_0f7a4_32 : DC mi_J6_bitCount_0f7a4 32 (.iand) 1 33 := ⟨by decide +kernel, rfl⟩
theorem d_J6_bitCount_0f7a4_33 : DC mi_J6_bitCount_0f7a4 33 (.istore_n 0) 1 34 := ⟨by decide +kernel, rfl⟩
theorem d_J6_bitCount_0f7a4_34 : DC mi_J6_bitCount_0f7a4 34 (.iload_n 0) 1 35 := ⟨by decide +kernel, rfl⟩
theorem d_J6_bitCount_0f7a4_35 : DC mi_J6_bitCount_0f7a4 35 (.iload_n 0) 1 36 := ⟨by decide +kernel, rfl⟩
theorem d_J6_bitCount_0f7a4_36 : DC mi_J6_bitCount_0f7a4 36 (.bipush 8) 2 38 := ⟨by decide +kernel, rfl⟩
theorem d_J6_bitCount_0f7a4_38 : DC mi_J6_bitCount_0f7a4 38 (.iushr) 1 39 := ⟨by decide +kernel, rfl⟩
theorem d_J6_bitCount_0f7a4_39 : DC mi_J6_bitCount_0f7a4 39 (.iadd) 1 40 := ⟨by decide +kernel, rfl⟩
theorem d_J6_bitCount_0f7a4_40 : DC mi_J6_bitCount_0f7a4 40 (.istore_n 0) 1 41 := ⟨by decide +kernel, rfl⟩
theorem d_J6_bitCount_0f7a4_41 : DC mi_J6_bitCount_0f7a4 41 (.iload_n 0) 1 42 := ⟨by decide +kernel, rfl⟩
theorem d_J6_bitCount_0f7a4_42 : DC mi_J6_bitCount_0f7a4 42 (.iload_n 0) 1 43 := ⟨by decide +kernel, rfl⟩
theorem d_J6_bitCount_0f7a4_43 : DC mi_J6_bitCount_0f7a4 43 (.bipush 16) 2 45 := ⟨by decide +kernel, rfl⟩
theorem d_J6_bitCount_0f7a4_45 : DC mi_J6_bitCount_0f7a4 45 (.iushr) 1 46 := ⟨by decide +kernel, rfl⟩
theorem d_J6_bitCount_0f7a4_46 : DC mi_J6_bitCount_0f7a4 46 (.iadd) 1 47 := ⟨by decide +kernel, rfl⟩
theorem d_J6_bitCount_0f7a4_47 : DC mi_J6_bitCount_0f7a4 47 (.istore_n 0) 1 48 := ⟨by decide +kernel, rfl⟩
theorem d_J6_bitCount_0f7a4_48 : DC mi_J6_bitCount_0f7a4 48 (.iload_n 0) 1 49 := ⟨by decide +kernel, rfl⟩
theorem d_J6_bitCount_0f7a4_49 : DC mi_J6_bitCount_0f7a4 49 (.bipush 63) 2 51 := ⟨by decide +kernel, rfl⟩
theorem d_J6_bitCount_0f7a4_51 : DC mi_J6_bitCount_0f7a4 51 (.iand) 1 52 := ⟨by decide +kernel, rfl⟩
theorem d_J6_bitCount_0f7a4_52 : DC mi_J6_bitCount_0f7a4 52 (.ireturn) 1 53 := ⟨by decide +kernel, rfl⟩
set_option maxHeartbeats 4000000 in
set_option maxRecDepth 100000 in
theorem sp_J6_bitCount_0f7a4 (d : Nat) (hd : 0 ≤ d) (a0 : Int32) (h : HH) : Sp mi_J6_bitCount_0f7a4 d iI [.int a0] h (g_J6_bitCount_0f7a4 a0 h) := by
  refine sp_of (lc := [(0, .int a0)]) (by decide) (Nat.le_of_ble_eq_true rfl) rfl ?_
  unfold g_J6_bitCount_0f7a4
  refine sx_iload_n d_J6_bitCount_0f7a4_0 0 rfl ?_
  refine sx_iload_n d_J6_bitCount_0f7a4_1 0 rfl ?_
  refine sx_iconst d_J6_bitCount_0f7a4_2 ic1 ?_
  refine sx_iushr d_J6_bitCount_0f7a4_3 ?_
  refine sx_ldcw d_J6_bitCount_0f7a4_4 lK_Integer_265 ?_
  refine sx_iand d_J6_bitCount_0f7a4_7 ?_
  refine sx_isub d_J6_bitCount_0f7a4_8 ?_
  refine sx_vlI (fun v1 => ?_)
  refine sx_istore_n (i := 0) (lc' := [(0, .int v1)]) d_J6_bitCount_0f7a4_9 rfl (by decide) rfl ?_
  refine sx_iload_n d_J6_bitCount_0f7a4_10 0 rfl ?_
  refine sx_ldcw d_J6_bitCount_0f7a4_11 lK_Integer_266 ?_
  refine sx_iand d_J6_bitCount_0f7a4_14 ?_
  refine sx_iload_n d_J6_bitCount_0f7a4_15 0 rfl ?_
  refine sx_iconst d_J6_bitCount_0f7a4_16 ic2 ?_
  refine sx_iushr d_J6_bitCount_0f7a4_17 ?_
  refine sx_ldcw d_J6_bitCount_0f7a4_18 lK_Integer_266 ?_
  refine sx_iand d_J6_bitCount_0f7a4_21 ?_
  refine sx_iadd d_J6_bitCount_0f7a4_22 ?_
  refine sx_vlI (fun v2 => ?_)
  refine sx_istore_n (i := 0) (lc' := [(0, .int v2)]) d_J6_bitCount_0f7a4_23 rfl (by decide) rfl ?_
  refine sx_iload_n d_J6_bitCount_0f7a4_24 0 rfl ?_
  refine sx_iload_n d_J6_bitCount_0f7a4_25 0 rfl ?_
  refine sx_iconst d_J6_bitCount_0f7a4_26 ic4 ?_
  refine sx_iushr d_J6_bitCount_0f7a4_27 ?_
  refine sx_iadd d_J6_bitCount_0f7a4_28 ?_
  refine sx_ldcw d_J6_bitCount_0f7a4_29 lK_Integer_267 ?_
  refine sx_iand d_J6_bitCount_0f7a4_32 ?_
  refine sx_vlI (fun v3 => ?_)
  refine sx_istore_n (i := 0) (lc' := [(0, .int v3)]) d_J6_bitCount_0f7a4_33 rfl (by decide) rfl ?_
  refine sx_iload_n d_J6_bitCount_0f7a4_34 0 rfl ?_
  refine sx_iload_n d_J6_bitCount_0f7a4_35 0 rfl ?_
  refine sx_bipush d_J6_bitCount_0f7a4_36 bc8 ?_
  refine sx_iushr d_J6_bitCount_0f7a4_38 ?_
  refine sx_iadd d_J6_bitCount_0f7a4_39 ?_
  refine sx_vlI (fun v4 => ?_)
  refine sx_istore_n (i := 0) (lc' := [(0, .int v4)]) d_J6_bitCount_0f7a4_40 rfl (by decide) rfl ?_
  refine sx_iload_n d_J6_bitCount_0f7a4_41 0 rfl ?_
  refine sx_iload_n d_J6_bitCount_0f7a4_42 0 rfl ?_
  refine sx_bipush d_J6_bitCount_0f7a4_43 bc16 ?_
  refine sx_iushr d_J6_bitCount_0f7a4_45 ?_
  refine sx_iadd d_J6_bitCount_0f7a4_46 ?_
  refine sx_vlI (fun v5 => ?_)
  refine sx_istore_n (i := 0) (lc' := [(0, .int v5)]) d_J6_bitCount_0f7a4_47 rfl (by decide) rfl ?_
  refine sx_iload_n d_J6_bitCount_0f7a4_48 0 rfl ?_
  refine sx_bipush d_J6_bitCount_0f7a4_49 bc63 ?_
  refine sx_iand d_J6_bitCount_0f7a4_51 ?_
  exact sx_iret rfl d_J6_bitCount_0f7a4_52
theorem d_X10_gain_0 : DC mi_X10_gain 0 (.iload_n 1) 1 1 := ⟨by decide +kernel, rfl⟩
theorem d_X10_gain_1 : DB mi_X10_gain 1 (.ifCond .ne 15) 15 4 16 := ⟨by decide +kernel, rfl, by decide⟩
theorem d_X10_gain_4 : DC mi_X10_gain 4 (.iload_n 2) 1 5 := ⟨by decide +kernel, rfl⟩
theorem d_X10_gain_5 : DB mi_X10_gain 5 (.ifCond .ne 9) 9 8 14 := ⟨by decide +kernel, rfl, by decide⟩
theorem d_X10_gain_8 : DC mi_X10_gain 8 (.iload_n 0) 1 9 := ⟨by decide +kernel, rfl⟩
theorem d_X10_gain_9 : DC mi_X10_gain 9 (.iconst 2) 1 10 := ⟨by decide +kernel, rfl⟩
theorem d_X10_gain_10 : DC mi_X10_gain 10 (.idiv) 1 11 := ⟨by decide +kernel, rfl⟩
theorem d_X10_gain_11 : DB mi_X10_gain 11 (.goto 4) 4 14 15 := ⟨by decide +kernel, rfl, by decide⟩
theorem d_X10_gain_14 : DC mi_X10_gain 14 (.iload_n 0) 1 15 := ⟨by decide +kernel, rfl⟩
theorem d_X10_gain_15 : DC mi_X10_gain 15 (.ireturn) 1 16 := ⟨by decide +kernel, rfl⟩
theorem d_X10_gain_16 : DC mi_X10_gain 16 (.iload_n 2) 1 17 := ⟨by decide +kernel, rfl⟩
theorem d_X10_gain_17 : DB mi_X10_gain 17 (.ifCond .ne 7) 7 20 24 := ⟨by decide +kernel, rfl, by decide⟩
theorem d_X10_gain_20 : DC mi_X10_gain 20 (.iconst 2) 1 21 := ⟨by decide +kernel, rfl⟩
theorem d_X10_gain_21 : DB mi_X10_gain 21 (.goto 4) 4 24 25 := ⟨by decide +kernel, rfl, by decide⟩
theorem d_X10_gain_24 : DC mi_X10_gain 24 (.iconst 1) 1 25 := ⟨by decide +kernel, rfl⟩
theorem d_X10_gain_25 : DC mi_X10_gain 25 (.ireturn) 1 26 := ⟨by decide +kernel, rfl⟩
set_option maxHeartbeats 4000000 in
set_option maxRecDepth 100000 in
theorem sp_X10_gain (d : Nat) (hd : 0 ≤ d) (a0 : Int32) (a1 : Int32) (a2 : Int32) (h : HH) : Sp mi_X10_gain d iI [.int a0, .int a1, .int a2] h (g_X10_gain a0 a1 a2 h) := by
  refine sp_of (lc := [(0, .int a0), (1, .int a1), (2, .int a2)]) (by decide) (Nat.le_of_ble_eq_true rfl) rfl ?_
  unfold g_X10_gain
  refine sx_iload_n d_X10_gain_0 1 rfl ?_
  refine sx_if_ne d_X10_gain_1 ?_ ?_
  · refine sx_iload_n d_X10_gain_4 2 rfl ?_
    refine sx_if_ne d_X10_gain_5 ?_ ?_
    · refine sx_iload_n d_X10_gain_8 0 rfl ?_
      refine sx_iconst d_X10_gain_9 ic2 ?_
      refine sx_idiv d_X10_gain_10 (fun v1 => ?_)
      refine sx_goto d_X10_gain_11 ?_
      exact sx_iret rfl d_X10_gain_15
    · refine sx_iload_n d_X10_gain_14 0 rfl ?_
      exact sx_iret rfl d_X10_gain_15
  · refine sx_iload_n d_X10_gain_16 2 rfl ?_
    refine sx_if_ne d_X10_gain_17 ?_ ?_
    · refine sx_iconst d_X10_gain_20 ic2 ?_
      refine sx_goto d_X10_gain_21 ?_
      exact sx_iret rfl d_X10_gain_25
    · refine sx_iconst d_X10_gain_24 ic1 ?_
      exact sx_iret rfl d_X10_gain_25
theorem d_X10_restBits_0 : DC mi_X10_restBits 0 (.aload_n 0) 1 1 := ⟨by decide +kernel, rfl⟩
theorem d_X10_restBits_1 : DC mi_X10_restBits 1 (.invokevirtual 168) 3 4 := ⟨by decide +kernel, rfl⟩
theorem d_X10_restBits_4 : DC mi_X10_restBits 4 (.aload_n 0) 1 5 := ⟨by decide +kernel, rfl⟩
theorem d_X10_restBits_5 : DC mi_X10_restBits 5 (.getfield 16) 3 8 := ⟨by decide +kernel, rfl⟩
theorem d_X10_restBits_8 : DC mi_X10_restBits 8 (.getfield 138) 3 11 := ⟨by decide +kernel, rfl⟩
theorem d_X10_restBits_11 : DC mi_X10_restBits 11 (.iload_n 1) 1 12 := ⟨by decide +kernel, rfl⟩
theorem d_X10_restBits_12 : DC mi_X10_restBits 12 (.iaload) 1 13 := ⟨by decide +kernel, rfl⟩
theorem d_X10_restBits_13 : DC mi_X10_restBits 13 (.aload_n 0) 1 14 := ⟨by decide +kernel, rfl⟩
theorem d_X10_restBits_14 : DC mi_X10_restBits 14 (.getfield 54) 3 17 := ⟨by decide +kernel, rfl⟩
theorem d_X10_restBits_17 : DC mi_X10_restBits 17 (.iload_n 1) 1 18 := ⟨by decide +kernel, rfl⟩
theorem d_X10_restBits_18 : DC mi_X10_restBits 18 (.iload_n 3) 1 19 := ⟨by decide +kernel, rfl⟩
theorem d_X10_restBits_19 : DC mi_X10_restBits 19 (.iconst 0) 1 20 := ⟨by decide +kernel, rfl⟩
theorem d_X10_restBits_20 : DC mi_X10_restBits 20 (.invokevirtual 171) 3 23 := ⟨by decide +kernel, rfl⟩
theorem d_X10_restBits_23 : DC mi_X10_restBits 23 (.isub) 1 24 := ⟨by decide +kernel, rfl⟩
theorem d_X10_restBits_24 : DC mi_X10_restBits 24 (.istore 4) 2 26 := ⟨by decide +kernel, rfl⟩
theorem d_X10_restBits_26 : DC mi_X10_restBits 26 (.aload_n 0) 1 27 := ⟨by decide +kernel, rfl⟩
theorem d_X10_restBits_27 : DC mi_X10_restBits 27 (.getfield 16) 3 30 := ⟨by decide +kernel, rfl⟩
theorem d_X10_restBits_30 : DC mi_X10_restBits 30 (.getfield 138) 3 33 := ⟨by decide +kernel, rfl⟩
theorem d_X10_restBits_33 : DC mi_X10_restBits 33 (.iload_n 2) 1 34 := ⟨by decide +kernel, rfl⟩
theorem d_X10_restBits_34 : DC mi_X10_restBits 34 (.iaload) 1 35 := ⟨by decide +kernel, rfl⟩
theorem d_X10_restBits_35 : DC mi_X10_restBits 35 (.aload_n 0) 1 36 := ⟨by decide +kernel, rfl⟩
theorem d_X10_restBits_36 : DC mi_X10_restBits 36 (.getfield 54) 3 39 := ⟨by decide +kernel, rfl⟩
theorem d_X10_restBits_39 : DC mi_X10_restBits 39 (.iload_n 2) 1 40 := ⟨by decide +kernel, rfl⟩
theorem d_X10_restBits_40 : DC mi_X10_restBits 40 (.iload_n 3) 1 41 := ⟨by decide +kernel, rfl⟩
theorem d_X10_restBits_41 : DC mi_X10_restBits 41 (.iconst 0) 1 42 := ⟨by decide +kernel, rfl⟩
theorem d_X10_restBits_42 : DC mi_X10_restBits 42 (.invokevirtual 171) 3 45 := ⟨by decide +kernel, rfl⟩
theorem d_X10_restBits_45 : DC mi_X10_restBits 45 (.isub) 1 46 := ⟨by decide +kernel, rfl⟩
theorem d_X10_restBits_46 : DC mi_X10_restBits 46 (.istore 5) 2 48 := ⟨by decide +kernel, rfl⟩
theorem d_X10_restBits_48 : DC mi_X10_restBits 48 (.iconst 0) 1 49 := ⟨by decide +kernel, rfl⟩
theorem d_X10_restBits_49 : DC mi_X10_restBits 49 (.istore 6) 2 51 := ⟨by decide +kernel, rfl⟩
theorem d_X10_restBits_51 : DC mi_X10_restBits 51 (.iconst 0) 1 52 := ⟨by decide +kernel, rfl⟩
theorem d_X10_restBits_52 : DC mi_X10_restBits 52 (.istore 7) 2 54 := ⟨by decide +kernel, rfl⟩
theorem d_X10_restBits_54 : DC mi_X10_restBits 54 (.iload 7) 2 56 := ⟨by decide +kernel, rfl⟩
theorem d_X10_restBits_56 : DC mi_X10_restBits 56 (.iconst 4) 1 57 := ⟨by decide +kernel, rfl⟩
theorem d_X10_restBits_57 : DB mi_X10_restBits 57 (.if_icmp .ge 100) 100 60 157 := ⟨by decide +kernel, rfl, by decide⟩
theorem d_X10_restBits_60 : DC mi_X10_restBits 60 (.iload 7) 2 62 := ⟨by decide +kernel, rfl⟩
theorem d_X10_restBits_62 : DC mi_X10_restBits 62 (.iconst 2) 1 63 := ⟨by decide +kernel, rfl⟩
theorem d_X10_restBits_63 : DC mi_X10_restBits 63 (.idiv) 1 64 := ⟨by decide +kernel, rfl⟩
theorem d_X10_restBits_64 : DC mi_X10_restBits 64 (.istore 8) 2 66 := ⟨by decide +kernel, rfl⟩
theorem d_X10_restBits_66 : DC mi_X10_restBits 66 (.iload 7) 2 68 := ⟨by decide +kernel, rfl⟩
theorem d_X10_restBits_68 : DC mi_X10_restBits 68 (.iconst 2) 1 69 := ⟨by decide +kernel, rfl⟩
theorem d_X10_restBits_69 : DC mi_X10_restBits 69 (.irem) 1 70 := ⟨by decide +kernel, rfl⟩
theorem d_X10_restBits_70 : DC mi_X10_restBits 70 (.istore 9) 2 72 := ⟨by decide +kernel, rfl⟩
theorem d_X10_restBits_72 : DC mi_X10_restBits 72 (.iload 4) 2 74 := ⟨by decide +kernel, rfl⟩
theorem d_X10_restBits_74 : DC mi_X10_restBits 74 (.iconst 1) 1 75 := ⟨by decide +kernel, rfl⟩
theorem d_X10_restBits_75 : DC mi_X10_restBits 75 (.iload 8) 2 77 := ⟨by decide +kernel, rfl⟩
theorem d_X10_restBits_77 : DC mi_X10_restBits 77 (.isub) 1 78 := ⟨by decide +kernel, rfl⟩
theorem d_X10_restBits_78 : DC mi_X10_restBits 78 (.iload 9) 2 80 := ⟨by decide +kernel, rfl⟩
theorem d_X10_restBits_80 : DC mi_X10_restBits 80 (.invokestatic 285) 3 83 := ⟨by decide +kernel, rfl⟩
theorem d_X10_restBits_83 : DC mi_X10_restBits 83 (.iload 4) 2 85 := ⟨by decide +kernel, rfl⟩
theorem d_X10_restBits_85 : DC mi_X10_restBits 85 (.iload 8) 2 87 := ⟨by decide +kernel, rfl⟩
theorem d_X10_restBits_87 : DC mi_X10_restBits 87 (.iload 9) 2 89 := ⟨by decide +kernel, rfl⟩
theorem d_X10_restBits_89 : DC mi_X10_restBits 89 (.invokestatic 285) 3 92 := ⟨by decide +kernel, rfl⟩
theorem d_X10_restBits_92 : DB mi_X10_restBits 92 (.if_icmp .gt 7) 7 95 99 := ⟨by decide +kernel, rfl, by decide⟩
theorem d_X10_restBits_95 : DC mi_X10_restBits 95 (.iconst 1) 1 96 := ⟨by decide +kernel, rfl⟩
theorem d_X10_restBits_96 : DB mi_X10_restBits 96 (.goto 4) 4 99 100 := ⟨by decide +kernel, rfl, by decide⟩
theorem d_X10_restBits_99 : DC mi_X10_restBits 99 (.iconst 0) 1 100 := ⟨by decide +kernel, rfl⟩
theorem d_X10_restBits_100 : DC mi_X10_restBits 100 (.istore 10) 2 102 := ⟨by decide +kernel, rfl⟩
theorem d_X10_restBits_102 : DC mi_X10_restBits 102 (.iload 5) 2 104 := ⟨by decide +kernel, rfl⟩
theorem d_X10_restBits_104 : DC mi_X10_restBits 104 (.iconst 1) 1 105 := ⟨by decide +kernel, rfl⟩
theorem d_X10_restBits_105 : DC mi_X10_restBits 105 (.iload 9) 2 107 := ⟨by decide +kernel, rfl⟩
theorem d_X10_restBits_107 : DC mi_X10_restBits 107 (.isub) 1 108 := ⟨by decide +kernel, rfl⟩
theorem d_X10_restBits_108 : DC mi_X10_restBits 108 (.iload 8) 2 110 := ⟨by decide +kernel, rfl⟩
theorem d_X10_restBits_110 : DC mi_X10_restBits 110 (.invokestatic 285) 3 113 := ⟨by decide +kernel, rfl⟩
theorem d_X10_restBits_113 : DC mi_X10_restBits 113 (.iload 5) 2 115 := ⟨by decide +kernel, rfl⟩
theorem d_X10_restBits_115 : DC mi_X10_restBits 115 (.iload 9) 2 117 := ⟨by decide +kernel, rfl⟩
theorem d_X10_restBits_117 : DC mi_X10_restBits 117 (.iload 8) 2 119 := ⟨by decide +kernel, rfl⟩
theorem d_X10_restBits_119 : DC mi_X10_restBits 119 (.invokestatic 285) 3 122 := ⟨by decide +kernel, rfl⟩
theorem d_X10_restBits_122 : DB mi_X10_restBits 122 (.if_icmp .gt 7) 7 125 129 := ⟨by decide +kernel, rfl, by decide⟩
theorem d_X10_restBits_125 : DC mi_X10_restBits 125 (.iconst 1) 1 126 := ⟨by decide +kernel, rfl⟩
theorem d_X10_restBits_126 : DB mi_X10_restBits 126 (.goto 4) 4 129 130 := ⟨by decide +kernel, rfl, by decide⟩
theorem d_X10_restBits_129 : DC mi_X10_restBits 129 (.iconst 0) 1 130 := ⟨by decide +kernel, rfl⟩
theorem d_X10_restBits_130 : DC mi_X10_restBits 130 (.istore 11) 2 132 := ⟨by decide +kernel, rfl⟩
theorem d_X10_restBits_132 : DC mi_X10_restBits 132 (.iload 10) 2 134 := ⟨by decide +kernel, rfl⟩
theorem d_X10_restBits_134 : DB mi_X10_restBits 134 (.ifCond .eq 17) 17 137 151 := ⟨by decide +kernel, rfl, by decide⟩
theorem d_X10_restBits_137 : DC mi_X10_restBits 137 (.iload 11) 2 139 := ⟨by decide +kernel, rfl⟩
theorem d_X10_restBits_139 : DB mi_X10_restBits 139 (.ifCond .eq 12) 12 142 151 := ⟨by decide +kernel, rfl, by decide⟩
theorem d_X10_restBits_142 : DC mi_X10_restBits 142 (.iload 6) 2 144 := ⟨by decide +kernel, rfl⟩
theorem d_X10_restBits_144 : DC mi_X10_restBits 144 (.iconst 1) 1 145 := ⟨by decide +kernel, rfl⟩
theorem d_X10_restBits_145 : DC mi_X10_restBits 145 (.iload 7) 2 147 := ⟨by decide +kernel, rfl⟩
theorem d_X10_restBits_147 : DC mi_X10_restBits 147 (.ishl) 1 148 := ⟨by decide +kernel, rfl⟩
theorem d_X10_restBits_148 : DC mi_X10_restBits 148 (.ior) 1 149 := ⟨by decide +kernel, rfl⟩
theorem d_X10_restBits_149 : DC mi_X10_restBits 149 (.istore 6) 2 151 := ⟨by decide +kernel, rfl⟩
theorem d_X10_restBits_151 : DC mi_X10_restBits 151 (.iinc 7 1) 3 154 := ⟨by decide +kernel, rfl⟩
theorem d_X10_restBits_154 : DB mi_X10_restBits 154 (.goto (-100)) (-100) 157 54 := ⟨by decide +kernel, rfl, by decide⟩
theorem d_X10_restBits_157 : DC mi_X10_restBits 157 (.iload 6) 2 159 := ⟨by decide +kernel, rfl⟩
theorem d_X10_restBits_159 : DC mi_X10_restBits 159 (.ireturn) 1 160 := ⟨by decide +kernel, rfl⟩
set_option maxHeartbeats 4000000 in
set_option maxRecDepth 100000 in
theorem sL_X10_restBits_54 (d : Nat) (hd : 3 ≤ d) (c4 : Int32) (c5 : Int32) : ∀ (n : Nat) (x6 : Int32) (x7 : Int32) (h : HH), Sx mi_X10_restBits d iI (g_X10_restBits_L54 c4 c5 n x6 x7 h) 54 [(4, .int c4), (5, .int c5), (6, .int x6), (7, .int x7)] [] h := by
  intro n
  induction n with
  | zero => intro x6 x7 h; exact sx_none
  | succ n ih =>
    intro x6 x7 h
    rw [g_X10_restBits_L54]
    refine sx_iload d_X10_restBits_54 3 rfl ?_
    refine sx_iconst d_X10_restBits_56 ic4 ?_
    refine sx_icmp_ge d_X10_restBits_57 ?_ ?_
    · refine sx_iload d_X10_restBits_60 3 rfl ?_
      refine sx_iconst d_X10_restBits_62 ic2 ?_
      refine sx_idiv d_X10_restBits_63 (fun v13 => ?_)
      refine sx_istore (i := 8) (lc' := [(8, .int v13), (4, .int c4), (5, .int c5), (6, .int x6), (7, .int x7)]) d_X10_restBits_64 (by decide) rfl ?_
      refine sx_iload d_X10_restBits_66 4 rfl ?_
      refine sx_iconst d_X10_restBits_68 ic2 ?_
      refine sx_irem d_X10_restBits_69 (fun v14 => ?_)
      refine sx_istore (i := 9) (lc' := [(9, .int v14), (8, .int v13), (4, .int c4), (5, .int c5), (6, .int x6), (7, .int x7)]) d_X10_restBits_70 (by decide) rfl ?_
      refine sx_iload d_X10_restBits_72 2 rfl ?_
      refine sx_iconst d_X10_restBits_74 ic1 ?_
      refine sx_iload d_X10_restBits_75 1 rfl ?_
      refine sx_isub d_X10_restBits_77 ?_
      refine sx_iload d_X10_restBits_78 0 rfl ?_
      refine sx_callS [.int c4, .int ((1 : Int32) - v13), .int v14] ms_X10_gain lM_StairCount_285 (by omega) rfl rfl (Nat.le_of_ble_eq_true rfl) d_X10_restBits_80 (sp_X10_gain (d - 1) (by omega) c4 ((1 : Int32) - v13) v14 h) (fun r16 h15 => ?_)
      refine sx_iload d_X10_restBits_83 2 rfl ?_
      refine sx_iload d_X10_restBits_85 1 rfl ?_
      refine sx_iload d_X10_restBits_87 0 rfl ?_
      refine sx_callS [.int c4, .int v13, .int v14] ms_X10_gain lM_StairCount_285 (by omega) rfl rfl (Nat.le_of_ble_eq_true rfl) d_X10_restBits_89 (sp_X10_gain (d - 1) (by omega) c4 v13 v14 h15) (fun r18 h17 => ?_)
      refine sx_jn (fun j => ∀ (y22 : Int32) (h : HH), Sx mi_X10_restBits d iI (j y22 h) 100 [(4, .int c4), (5, .int c5), (6, .int x6), (7, .int x7), (8, .int v13), (9, .int v14)] [.int y22] h) ?_ ?_
      · intro y22 h21
        refine sx_istore (i := 10) (lc' := [(10, .int y22), (4, .int c4), (5, .int c5), (6, .int x6), (7, .int x7), (8, .int v13), (9, .int v14)]) d_X10_restBits_100 (by decide) rfl ?_
        refine sx_iload d_X10_restBits_102 2 rfl ?_
        refine sx_iconst d_X10_restBits_104 ic1 ?_
        refine sx_iload d_X10_restBits_105 6 rfl ?_
        refine sx_isub d_X10_restBits_107 ?_
        refine sx_iload d_X10_restBits_108 5 rfl ?_
        refine sx_callS [.int c5, .int ((1 : Int32) - v14), .int v13] ms_X10_gain lM_StairCount_285 (by omega) rfl rfl (Nat.le_of_ble_eq_true rfl) d_X10_restBits_110 (sp_X10_gain (d - 1) (by omega) c5 ((1 : Int32) - v14) v13 h21) (fun r24 h23 => ?_)
        refine sx_iload d_X10_restBits_113 2 rfl ?_
        refine sx_iload d_X10_restBits_115 6 rfl ?_
        refine sx_iload d_X10_restBits_117 5 rfl ?_
        refine sx_callS [.int c5, .int v14, .int v13] ms_X10_gain lM_StairCount_285 (by omega) rfl rfl (Nat.le_of_ble_eq_true rfl) d_X10_restBits_119 (sp_X10_gain (d - 1) (by omega) c5 v14 v13 h23) (fun r26 h25 => ?_)
        refine sx_jn (fun j => ∀ (y30 : Int32) (h : HH), Sx mi_X10_restBits d iI (j y30 h) 130 [(4, .int c4), (5, .int c5), (6, .int x6), (7, .int x7), (10, .int y22)] [.int y30] h) ?_ ?_
        · intro y30 h29
          refine sx_istore (i := 11) (lc' := [(11, .int y30), (4, .int c4), (5, .int c5), (6, .int x6), (7, .int x7), (10, .int y22)]) d_X10_restBits_130 (by decide) rfl ?_
          refine sx_iload d_X10_restBits_132 5 rfl ?_
          refine sx_jn (fun j => ∀ (u34 : Int32) (h : HH), Sx mi_X10_restBits d iI (j u34 h) 151 [(4, .int c4), (5, .int c5), (6, .int u34), (7, .int x7)] [] h) ?_ ?_
          · intro u34 h33
            refine sx_iincV (lc' := fun v35 => [(7, .int v35), (4, .int c4), (5, .int c5), (6, .int u34)]) (k0 := 3) d_X10_restBits_151 rfl ii1 (by decide) (fun _ => rfl) (fun v35 => ?_)
            refine sx_goto d_X10_restBits_154 ?_
            refine sx_lc (lc' := [(4, .int c4), (5, .int c5), (6, .int u34), (7, .int v35)]) [1, 2, 3, 0] rfl ?_
            exact ih u34 v35 h33
          · intro j31 k32
            refine sx_if_eq d_X10_restBits_134 ?_ ?_
            · refine sx_lc (lc' := [(4, .int c4), (5, .int c5), (6, .int x6), (7, .int x7)]) [1, 2, 3, 4] rfl ?_
              exact k32 x6 h29
            · refine sx_iload d_X10_restBits_137 0 rfl ?_
              refine sx_if_eq d_X10_restBits_139 ?_ ?_
              · refine sx_lc (lc' := [(4, .int c4), (5, .int c5), (6, .int x6), (7, .int x7)]) [1, 2, 3, 4] rfl ?_
                exact k32 x6 h29
              · refine sx_iload d_X10_restBits_142 3 rfl ?_
                refine sx_iconst d_X10_restBits_144 ic1 ?_
                refine sx_iload d_X10_restBits_145 4 rfl ?_
                refine sx_ishl d_X10_restBits_147 ?_
                refine sx_ior d_X10_restBits_148 ?_
                refine sx_vlI (fun v36 => ?_)
                refine sx_istore (i := 6) (lc' := [(6, .int v36), (11, .int y30), (4, .int c4), (5, .int c5), (7, .int x7), (10, .int y22)]) d_X10_restBits_149 (by decide) rfl ?_
                refine sx_lc (lc' := [(4, .int c4), (5, .int c5), (6, .int v36), (7, .int x7)]) [2, 3, 0, 4] rfl ?_
                exact k32 v36 h29
        · intro j27 k28
          refine sx_icmp_gt d_X10_restBits_122 ?_ ?_
          · refine sx_iconst d_X10_restBits_129 ic0 ?_
            refine sx_lc (lc' := [(4, .int c4), (5, .int c5), (6, .int x6), (7, .int x7), (10, .int y22)]) [1, 2, 3, 4, 0] rfl ?_
            exact k28 (0 : Int32) h25
          · refine sx_iconst d_X10_restBits_125 ic1 ?_
            refine sx_goto d_X10_restBits_126 ?_
            refine sx_lc (lc' := [(4, .int c4), (5, .int c5), (6, .int x6), (7, .int x7), (10, .int y22)]) [1, 2, 3, 4, 0] rfl ?_
            exact k28 (1 : Int32) h25
      · intro j19 k20
        refine sx_icmp_gt d_X10_restBits_92 ?_ ?_
        · refine sx_iconst d_X10_restBits_99 ic0 ?_
          refine sx_lc (lc' := [(4, .int c4), (5, .int c5), (6, .int x6), (7, .int x7), (8, .int v13), (9, .int v14)]) [2, 3, 4, 5, 1, 0] rfl ?_
          exact k20 (0 : Int32) h17
        · refine sx_iconst d_X10_restBits_95 ic1 ?_
          refine sx_goto d_X10_restBits_96 ?_
          refine sx_lc (lc' := [(4, .int c4), (5, .int c5), (6, .int x6), (7, .int x7), (8, .int v13), (9, .int v14)]) [2, 3, 4, 5, 1, 0] rfl ?_
          exact k20 (1 : Int32) h17
    · refine sx_iload d_X10_restBits_157 2 rfl ?_
      exact sx_iret rfl d_X10_restBits_159
set_option maxHeartbeats 4000000 in
set_option maxRecDepth 100000 in
theorem sp_X10_restBits (d : Nat) (hd : 3 ≤ d) (a0 : Int32) (a1 : Int32) (a2 : Int32) (h : HH) : Sp mi_X10_restBits d iI [.ref 0, .int a0, .int a1, .int a2] h (g_X10_restBits a0 a1 a2 h) := by
  refine sp_of (lc := [(0, .ref 0), (1, .int a0), (2, .int a1), (3, .int a2)]) (by decide) (Nat.le_of_ble_eq_true rfl) rfl ?_
  unfold g_X10_restBits
  refine sx_aload_n d_X10_restBits_0 0 rfl ?_
  refine sx_callV [] mv_X10_lookAtNow lM_StairCount_168 sh_0 (by omega) rfl rfl (Nat.le_of_ble_eq_true rfl) d_X10_restBits_1 (sp_X10_lookAtNow (d - 1) (by omega) h) (fun _ h1 => ?_)
  refine sx_aload_n d_X10_restBits_4 0 rfl ?_
  refine sx_getR fl_StairCount_16 sh_0 rfl d_X10_restBits_5 (fun p3 => ?_)
  refine sx_ckH (fun ep3 => ?_)
  refine sx_getF (a' := (p3 + 3)) fl_StairCount_138 ep3 rfl rfl d_X10_restBits_8 ?_
  refine sx_iload_n d_X10_restBits_11 1 rfl ?_
  refine sx_iald (shf_5_4 ep3) d_X10_restBits_12 (fun v4 => ?_)
  refine sx_aload_n d_X10_restBits_13 0 rfl ?_
  refine sx_getF (a' := 193) fl_StairCount_54 sh_0 rfl rfl d_X10_restBits_14 ?_
  refine sx_iload_n d_X10_restBits_17 1 rfl ?_
  refine sx_iload_n d_X10_restBits_18 3 rfl ?_
  refine sx_iconst d_X10_restBits_19 ic0 ?_
  refine sx_callV [.int a0, .int a2, .int (0 : Int32)] mv_X0_steepOf lM_StairCount_171 sh_193 (by omega) rfl rfl (Nat.le_of_ble_eq_true rfl) d_X10_restBits_20 (sp_X0_steepOf (d - 1) (by omega) a0 a2 (0 : Int32) h1) (fun r6 h5 => ?_)
  refine sx_isub d_X10_restBits_23 ?_
  refine sx_vlI (fun v7 => ?_)
  refine sx_istore (i := 4) (lc' := [(4, .int v7), (0, .ref 0), (1, .int a0), (2, .int a1), (3, .int a2)]) d_X10_restBits_24 (by decide) rfl ?_
  refine sx_aload_n d_X10_restBits_26 1 rfl ?_
  refine sx_getR fl_StairCount_16 sh_0 rfl d_X10_restBits_27 (fun p8 => ?_)
  refine sx_ckH (fun ep8 => ?_)
  refine sx_getF (a' := (p8 + 3)) fl_StairCount_138 ep8 rfl rfl d_X10_restBits_30 ?_
  refine sx_iload_n d_X10_restBits_33 3 rfl ?_
  refine sx_iald (shf_5_4 ep8) d_X10_restBits_34 (fun v9 => ?_)
  refine sx_aload_n d_X10_restBits_35 1 rfl ?_
  refine sx_getF (a' := 193) fl_StairCount_54 sh_0 rfl rfl d_X10_restBits_36 ?_
  refine sx_iload_n d_X10_restBits_39 3 rfl ?_
  refine sx_iload_n d_X10_restBits_40 4 rfl ?_
  refine sx_iconst d_X10_restBits_41 ic0 ?_
  refine sx_callV [.int a1, .int a2, .int (0 : Int32)] mv_X0_steepOf lM_StairCount_171 sh_193 (by omega) rfl rfl (Nat.le_of_ble_eq_true rfl) d_X10_restBits_42 (sp_X0_steepOf (d - 1) (by omega) a1 a2 (0 : Int32) h5) (fun r11 h10 => ?_)
  refine sx_isub d_X10_restBits_45 ?_
  refine sx_vlI (fun v12 => ?_)
  refine sx_istore (i := 5) (lc' := [(5, .int v12), (4, .int v7), (0, .ref 0), (1, .int a0), (2, .int a1), (3, .int a2)]) d_X10_restBits_46 (by decide) rfl ?_
  refine sx_iconst d_X10_restBits_48 ic0 ?_
  refine sx_istore (i := 6) (lc' := [(6, .int (0 : Int32)), (5, .int v12), (4, .int v7), (0, .ref 0), (1, .int a0), (2, .int a1), (3, .int a2)]) d_X10_restBits_49 (by decide) rfl ?_
  refine sx_iconst d_X10_restBits_51 ic0 ?_
  refine sx_istore (i := 7) (lc' := [(7, .int (0 : Int32)), (6, .int (0 : Int32)), (5, .int v12), (4, .int v7), (0, .ref 0), (1, .int a0), (2, .int a1), (3, .int a2)]) d_X10_restBits_52 (by decide) rfl ?_
  refine sx_lc (lc' := [(4, .int v7), (5, .int v12), (6, .int (0 : Int32)), (7, .int (0 : Int32))]) [3, 2, 1, 0] rfl ?_
  refine sL_X10_restBits_54 d hd v7 v12 1024 (0 : Int32) (0 : Int32) h10
