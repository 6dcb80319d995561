/-! walks: X10_rests, X10_rest, X10_commonPart, X10_sure, X10_note, X10_strike, X10_known, X10_startGuess, X10_hads, X10_ask, X10_chance, X10_tried, X11_thrown, X11_feed, X11_here, X11_isSmall, X11_isDigit, X11_name, X11_sign, X11_word -/
theorem d_X10_rests_0 : DC mi_X10_rests 0 (.aload_n 0) 1 1 := ⟨by decide +kernel, rfl⟩
theorem d_X10_rests_1 : DC mi_X10_rests 1 (.iload_n 1) 1 2 := ⟨by decide +kernel, rfl⟩
theorem d_X10_rests_2 : DC mi_X10_rests 2 (.iload_n 2) 1 3 := ⟨by decide +kernel, rfl⟩
theorem d_X10_rests_3 : DC mi_X10_rests 3 (.invokevirtual 276) 3 6 := ⟨by decide +kernel, rfl⟩
theorem d_X10_rests_6 : DB mi_X10_rests 6 (.ifCond .eq 11) 11 9 17 := ⟨by decide +kernel, rfl, by decide⟩
theorem d_X10_rests_9 : DC mi_X10_rests 9 (.aload_n 0) 1 10 := ⟨by decide +kernel, rfl⟩
theorem d_X10_rests_10 : DC mi_X10_rests 10 (.iload_n 3) 1 11 := ⟨by decide +kernel, rfl⟩
theorem d_X10_rests_11 : DC mi_X10_rests 11 (.invokevirtual 155) 3 14 := ⟨by decide +kernel, rfl⟩
theorem d_X10_rests_14 : DB mi_X10_rests 14 (.ifCond .ne 5) 5 17 19 := ⟨by decide +kernel, rfl, by decide⟩
theorem d_X10_rests_17 : DC mi_X10_rests 17 (.iconst (-1)) 1 18 := ⟨by decide +kernel, rfl⟩
theorem d_X10_rests_18 : DC mi_X10_rests 18 (.ireturn) 1 19 := ⟨by decide +kernel, rfl⟩
theorem d_X10_rests_19 : DC mi_X10_rests 19 (.aload_n 0) 1 20 := ⟨by decide +kernel, rfl⟩
theorem d_X10_rests_20 : DC mi_X10_rests 20 (.iload_n 1) 1 21 := ⟨by decide +kernel, rfl⟩
theorem d_X10_rests_21 : DC mi_X10_rests 21 (.iload_n 2) 1 22 := ⟨by decide +kernel, rfl⟩
theorem d_X10_rests_22 : DC mi_X10_rests 22 (.iload_n 3) 1 23 := ⟨by decide +kernel, rfl⟩
theorem d_X10_rests_23 : DC mi_X10_rests 23 (.invokevirtual 279) 3 26 := ⟨by decide +kernel, rfl⟩
theorem d_X10_rests_26 : DC mi_X10_rests 26 (.invokestatic 282) 3 29 := ⟨by decide +kernel, rfl⟩
theorem d_X10_rests_29 : DC mi_X10_rests 29 (.ireturn) 1 30 := ⟨by decide +kernel, rfl⟩
set_option maxHeartbeats 4000000 in
set_option maxRecDepth 100000 in
theorem sp_X10_rests (d : Nat) (hd : 4 ≤ d) (a0 : Int32) (a1 : Int32) (a2 : Int32) (h : HH) : Sp mi_X10_rests d iI [.ref 0, .int a0, .int a1, .int a2] h (g_X10_rests a0 a1 a2 h) := by
  refine sp_of (lc := [(0, .ref 0), (1, .int a0), (2, .int a1), (3, .int a2)]) (by decide) (Nat.le_of_ble_eq_true rfl) rfl ?_
  unfold g_X10_rests
  refine sx_aload_n d_X10_rests_0 0 rfl ?_
  refine sx_iload_n d_X10_rests_1 1 rfl ?_
  refine sx_iload_n d_X10_rests_2 2 rfl ?_
  refine sx_callV [.int a0, .int a1] mv_X10_isPair lM_StairCount_276 sh_0 (by omega) rfl rfl (Nat.le_of_ble_eq_true rfl) d_X10_rests_3 (sp_X10_isPair (d - 1) (by omega) a0 a1 h) (fun r2 h1 => ?_)
  refine sx_if_eq d_X10_rests_6 ?_ ?_
  · refine sx_iconst d_X10_rests_17 icm1 ?_
    exact sx_iret rfl d_X10_rests_18
  · refine sx_aload_n d_X10_rests_9 0 rfl ?_
    refine sx_iload_n d_X10_rests_10 3 rfl ?_
    refine sx_callV [.int a2] mv_X10_isFlight lM_StairCount_155 sh_0 (by omega) rfl rfl (Nat.le_of_ble_eq_true rfl) d_X10_rests_11 (sp_X10_isFlight (d - 1) (by omega) a2 h1) (fun r4 h3 => ?_)
    refine sx_if_ne d_X10_rests_14 ?_ ?_
    · refine sx_iconst d_X10_rests_17 icm1 ?_
      exact sx_iret rfl d_X10_rests_18
    · refine sx_aload_n d_X10_rests_19 0 rfl ?_
      refine sx_iload_n d_X10_rests_20 1 rfl ?_
      refine sx_iload_n d_X10_rests_21 2 rfl ?_
      refine sx_iload_n d_X10_rests_22 3 rfl ?_
      refine sx_callV [.int a0, .int a1, .int a2] mv_X10_restBits lM_StairCount_279 sh_0 (by omega) rfl rfl (Nat.le_of_ble_eq_true rfl) d_X10_rests_23 (sp_X10_restBits (d - 1) (by omega) a0 a1 a2 h3) (fun r6 h5 => ?_)
      refine sx_callS [.int r6] ms_J6_bitCount_0f7a4 lM_StairCount_282 (by omega) rfl rfl (Nat.le_of_ble_eq_true rfl) d_X10_rests_26 (sp_J6_bitCount_0f7a4 (d - 1) (by omega) r6 h5) (fun r8 h7 => ?_)
      exact sx_iret rfl d_X10_rests_29
theorem d_X10_rest_0 : DC mi_X10_rest 0 (.aload_n 0) 1 1 := ⟨by decide +kernel, rfl⟩
theorem d_X10_rest_1 : DC mi_X10_rest 1 (.iload_n 1) 1 2 := ⟨by decide +kernel, rfl⟩
theorem d_X10_rest_2 : DC mi_X10_rest 2 (.iload_n 2) 1 3 := ⟨by decide +kernel, rfl⟩
theorem d_X10_rest_3 : DC mi_X10_rest 3 (.invokevirtual 276) 3 6 := ⟨by decide +kernel, rfl⟩
theorem d_X10_rest_6 : DB mi_X10_rest 6 (.ifCond .eq 16) 16 9 22 := ⟨by decide +kernel, rfl, by decide⟩
theorem d_X10_rest_9 : DC mi_X10_rest 9 (.aload_n 0) 1 10 := ⟨by decide +kernel, rfl⟩
theorem d_X10_rest_10 : DC mi_X10_rest 10 (.iload_n 3) 1 11 := ⟨by decide +kernel, rfl⟩
theorem d_X10_rest_11 : DC mi_X10_rest 11 (.invokevirtual 155) 3 14 := ⟨by decide +kernel, rfl⟩
theorem d_X10_rest_14 : DB mi_X10_rest 14 (.ifCond .eq 8) 8 17 22 := ⟨by decide +kernel, rfl, by decide⟩
theorem d_X10_rest_17 : DC mi_X10_rest 17 (.iload 4) 2 19 := ⟨by decide +kernel, rfl⟩
theorem d_X10_rest_19 : DB mi_X10_rest 19 (.ifCond .ge 5) 5 22 24 := ⟨by decide +kernel, rfl, by decide⟩
theorem d_X10_rest_22 : DC mi_X10_rest 22 (.iconst (-1)) 1 23 := ⟨by decide +kernel, rfl⟩
theorem d_X10_rest_23 : DC mi_X10_rest 23 (.ireturn) 1 24 := ⟨by decide +kernel, rfl⟩
theorem d_X10_rest_24 : DC mi_X10_rest 24 (.aload_n 0) 1 25 := ⟨by decide +kernel, rfl⟩
theorem d_X10_rest_25 : DC mi_X10_rest 25 (.iload_n 1) 1 26 := ⟨by decide +kernel, rfl⟩
theorem d_X10_rest_26 : DC mi_X10_rest 26 (.iload_n 2) 1 27 := ⟨by decide +kernel, rfl⟩
theorem d_X10_rest_27 : DC mi_X10_rest 27 (.iload_n 3) 1 28 := ⟨by decide +kernel, rfl⟩
theorem d_X10_rest_28 : DC mi_X10_rest 28 (.invokevirtual 279) 3 31 := ⟨by decide +kernel, rfl⟩
theorem d_X10_rest_31 : DC mi_X10_rest 31 (.istore 5) 2 33 := ⟨by decide +kernel, rfl⟩
theorem d_X10_rest_33 : DC mi_X10_rest 33 (.iload 4) 2 35 := ⟨by decide +kernel, rfl⟩
theorem d_X10_rest_35 : DC mi_X10_rest 35 (.istore 6) 2 37 := ⟨by decide +kernel, rfl⟩
theorem d_X10_rest_37 : DC mi_X10_rest 37 (.iconst 0) 1 38 := ⟨by decide +kernel, rfl⟩
theorem d_X10_rest_38 : DC mi_X10_rest 38 (.istore 7) 2 40 := ⟨by decide +kernel, rfl⟩
theorem d_X10_rest_40 : DC mi_X10_rest 40 (.iload 7) 2 42 := ⟨by decide +kernel, rfl⟩
theorem d_X10_rest_42 : DC mi_X10_rest 42 (.iconst 4) 1 43 := ⟨by decide +kernel, rfl⟩
theorem d_X10_rest_43 : DB mi_X10_rest 43 (.if_icmp .ge 40) 40 46 83 := ⟨by decide +kernel, rfl, by decide⟩
theorem d_X10_rest_46 : DC mi_X10_rest 46 (.iload 5) 2 48 := ⟨by decide +kernel, rfl⟩
theorem d_X10_rest_48 : DC mi_X10_rest 48 (.iload 7) 2 50 := ⟨by decide +kernel, rfl⟩
theorem d_X10_rest_50 : DC mi_X10_rest 50 (.ishr) 1 51 := ⟨by decide +kernel, rfl⟩
theorem d_X10_rest_51 : DC mi_X10_rest 51 (.iconst 1) 1 52 := ⟨by decide +kernel, rfl⟩
theorem d_X10_rest_52 : DC mi_X10_rest 52 (.iand) 1 53 := ⟨by decide +kernel, rfl⟩
theorem d_X10_rest_53 : DB mi_X10_rest 53 (.ifCond .eq 24) 24 56 77 := ⟨by decide +kernel, rfl, by decide⟩
theorem d_X10_rest_56 : DC mi_X10_rest 56 (.iload 6) 2 58 := ⟨by decide +kernel, rfl⟩
theorem d_X10_rest_58 : DB mi_X10_rest 58 (.ifCond .ne 16) 16 61 74 := ⟨by decide +kernel, rfl, by decide⟩
theorem d_X10_rest_61 : DC mi_X10_rest 61 (.iload 7) 2 63 := ⟨by decide +kernel, rfl⟩
theorem d_X10_rest_63 : DC mi_X10_rest 63 (.iconst 2) 1 64 := ⟨by decide +kernel, rfl⟩
theorem d_X10_rest_64 : DC mi_X10_rest 64 (.idiv) 1 65 := ⟨by decide +kernel, rfl⟩
theorem d_X10_rest_65 : DC mi_X10_rest 65 (.bipush 10) 2 67 := ⟨by decide +kernel, rfl⟩
theorem d_X10_rest_67 : DC mi_X10_rest 67 (.imul) 1 68 := ⟨by decide +kernel, rfl⟩
theorem d_X10_rest_68 : DC mi_X10_rest 68 (.iload 7) 2 70 := ⟨by decide +kernel, rfl⟩
theorem d_X10_rest_70 : DC mi_X10_rest 70 (.iconst 2) 1 71 := ⟨by decide +kernel, rfl⟩
theorem d_X10_rest_71 : DC mi_X10_rest 71 (.irem) 1 72 := ⟨by decide +kernel, rfl⟩
theorem d_X10_rest_72 : DC mi_X10_rest 72 (.iadd) 1 73 := ⟨by decide +kernel, rfl⟩
theorem d_X10_rest_73 : DC mi_X10_rest 73 (.ireturn) 1 74 := ⟨by decide +kernel, rfl⟩
theorem d_X10_rest_74 : DC mi_X10_rest 74 (.iinc 6 (-1)) 3 77 := ⟨by decide +kernel, rfl⟩
theorem d_X10_rest_77 : DC mi_X10_rest 77 (.iinc 7 1) 3 80 := ⟨by decide +kernel, rfl⟩
theorem d_X10_rest_80 : DB mi_X10_rest 80 (.goto (-40)) (-40) 83 40 := ⟨by decide +kernel, rfl, by decide⟩
theorem d_X10_rest_83 : DC mi_X10_rest 83 (.bipush (-2)) 2 85 := ⟨by decide +kernel, rfl⟩
theorem d_X10_rest_85 : DC mi_X10_rest 85 (.ireturn) 1 86 := ⟨by decide +kernel, rfl⟩
set_option maxHeartbeats 4000000 in
set_option maxRecDepth 100000 in
theorem sL_X10_rest_40 (d : Nat) (hd : 4 ≤ d) (K61 : Int32 → HH → Option (Int32 × HH)) (c5 : Int32) (hK61 : ∀ (z7 : Int32) (h : HH), Sx mi_X10_rest d iI (K61 z7 h) 61 [(7, .int z7)] [] h) : ∀ (n : Nat) (x6 : Int32) (x7 : Int32) (h : HH), Sx mi_X10_rest d iI (g_X10_rest_L40 K61 c5 n x6 x7 h) 40 [(5, .int c5), (6, .int x6), (7, .int x7)] [] h := by
  intro n
  induction n with
  | zero => intro x6 x7 h; exact sx_none
  | succ n ih =>
    intro x6 x7 h
    rw [g_X10_rest_L40]
    refine sx_iload d_X10_rest_40 2 rfl ?_
    refine sx_iconst d_X10_rest_42 ic4 ?_
    refine sx_icmp_ge d_X10_rest_43 ?_ ?_
    · refine sx_iload d_X10_rest_46 0 rfl ?_
      refine sx_iload d_X10_rest_48 2 rfl ?_
      refine sx_ishr d_X10_rest_50 ?_
      refine sx_iconst d_X10_rest_51 ic1 ?_
      refine sx_iand d_X10_rest_52 ?_
      refine sx_jn (fun j => ∀ (u10 : Int32) (h : HH), Sx mi_X10_rest d iI (j u10 h) 77 [(5, .int c5), (6, .int u10), (7, .int x7)] [] h) ?_ ?_
      · intro u10 h9
        refine sx_iincV (lc' := fun v11 => [(7, .int v11), (5, .int c5), (6, .int u10)]) (k0 := 2) d_X10_rest_77 rfl ii1 (by decide) (fun _ => rfl) (fun v11 => ?_)
        refine sx_goto d_X10_rest_80 ?_
        refine sx_lc (lc' := [(5, .int c5), (6, .int u10), (7, .int v11)]) [1, 2, 0] rfl ?_
        exact ih u10 v11 h9
      · intro j7 k8
        refine sx_if_eq d_X10_rest_53 ?_ ?_
        · exact k8 x6 h
        · refine sx_iload d_X10_rest_56 1 rfl ?_
          refine sx_if_ne d_X10_rest_58 ?_ ?_
          · refine sx_lc (lc' := [(7, .int x7)]) [2] rfl ?_
            exact hK61 x7 h
          · refine sx_iincV (lc' := fun v12 => [(6, .int v12), (5, .int c5), (7, .int x7)]) (k0 := 1) d_X10_rest_74 rfl iim1 (by decide) (fun _ => rfl) (fun v12 => ?_)
            refine sx_lc (lc' := [(5, .int c5), (6, .int v12), (7, .int x7)]) [1, 0, 2] rfl ?_
            exact k8 v12 h
    · refine sx_bipush d_X10_rest_83 bcm2 ?_
      exact sx_iret rfl d_X10_rest_85
set_option maxHeartbeats 4000000 in
set_option maxRecDepth 100000 in
theorem sp_X10_rest (d : Nat) (hd : 4 ≤ d) (a0 : Int32) (a1 : Int32) (a2 : Int32) (a3 : Int32) (h : HH) : Sp mi_X10_rest d iI [.ref 0, .int a0, .int a1, .int a2, .int a3] h (g_X10_rest a0 a1 a2 a3 h) := by
  refine sp_of (lc := [(0, .ref 0), (1, .int a0), (2, .int a1), (3, .int a2), (4, .int a3)]) (by decide) (Nat.le_of_ble_eq_true rfl) rfl ?_
  unfold g_X10_rest
  refine sx_aload_n d_X10_rest_0 0 rfl ?_
  refine sx_iload_n d_X10_rest_1 1 rfl ?_
  refine sx_iload_n d_X10_rest_2 2 rfl ?_
  refine sx_callV [.int a0, .int a1] mv_X10_isPair lM_StairCount_276 sh_0 (by omega) rfl rfl (Nat.le_of_ble_eq_true rfl) d_X10_rest_3 (sp_X10_isPair (d - 1) (by omega) a0 a1 h) (fun r2 h1 => ?_)
  refine sx_if_eq d_X10_rest_6 ?_ ?_
  · refine sx_iconst d_X10_rest_22 icm1 ?_
    exact sx_iret rfl d_X10_rest_23
  · refine sx_aload_n d_X10_rest_9 0 rfl ?_
    refine sx_iload_n d_X10_rest_10 3 rfl ?_
    refine sx_callV [.int a2] mv_X10_isFlight lM_StairCount_155 sh_0 (by omega) rfl rfl (Nat.le_of_ble_eq_true rfl) d_X10_rest_11 (sp_X10_isFlight (d - 1) (by omega) a2 h1) (fun r4 h3 => ?_)
    refine sx_if_eq d_X10_rest_14 ?_ ?_
    · refine sx_iconst d_X10_rest_22 icm1 ?_
      exact sx_iret rfl d_X10_rest_23
    · refine sx_iload d_X10_rest_17 4 rfl ?_
      refine sx_if_ge d_X10_rest_19 ?_ ?_
      · refine sx_iconst d_X10_rest_22 icm1 ?_
        exact sx_iret rfl d_X10_rest_23
      · refine sx_aload_n d_X10_rest_24 0 rfl ?_
        refine sx_iload_n d_X10_rest_25 1 rfl ?_
        refine sx_iload_n d_X10_rest_26 2 rfl ?_
        refine sx_iload_n d_X10_rest_27 3 rfl ?_
        refine sx_callV [.int a0, .int a1, .int a2] mv_X10_restBits lM_StairCount_279 sh_0 (by omega) rfl rfl (Nat.le_of_ble_eq_true rfl) d_X10_rest_28 (sp_X10_restBits (d - 1) (by omega) a0 a1 a2 h3) (fun r6 h5 => ?_)
        refine sx_istore (i := 5) (lc' := [(5, .int r6), (0, .ref 0), (1, .int a0), (2, .int a1), (3, .int a2), (4, .int a3)]) d_X10_rest_31 (by decide) rfl ?_
        refine sx_iload d_X10_rest_33 5 rfl ?_
        refine sx_istore (i := 6) (lc' := [(6, .int a3), (5, .int r6), (0, .ref 0), (1, .int a0), (2, .int a1), (3, .int a2), (4, .int a3)]) d_X10_rest_35 (by decide) rfl ?_
        refine sx_iconst d_X10_rest_37 ic0 ?_
        refine sx_istore (i := 7) (lc' := [(7, .int (0 : Int32)), (6, .int a3), (5, .int r6), (0, .ref 0), (1, .int a0), (2, .int a1), (3, .int a2), (4, .int a3)]) d_X10_rest_38 (by decide) rfl ?_
        refine sx_lc (lc' := [(5, .int r6), (6, .int a3), (7, .int (0 : Int32))]) [2, 1, 0] rfl ?_
        refine sL_X10_rest_40 d hd _ r6 ?_ 1024 a3 (0 : Int32) h5
        · intro z14 h13
          refine sx_iload d_X10_rest_61 0 rfl ?_
          refine sx_iconst d_X10_rest_63 ic2 ?_
          refine sx_idiv d_X10_rest_64 (fun v15 => ?_)
          refine sx_bipush d_X10_rest_65 bc10 ?_
          refine sx_imul d_X10_rest_67 ?_
          refine sx_iload d_X10_rest_68 0 rfl ?_
          refine sx_iconst d_X10_rest_70 ic2 ?_
          refine sx_irem d_X10_rest_71 (fun v16 => ?_)
          refine sx_iadd d_X10_rest_72 ?_
          exact sx_iret rfl d_X10_rest_73
theorem d_X10_commonPart_0 : DC mi_X10_commonPart 0 (.iload_n 1) 1 1 := ⟨by decide +kernel, rfl⟩
theorem d_X10_commonPart_1 : DC mi_X10_commonPart 1 (.istore_n 2) 1 2 := ⟨by decide +kernel, rfl⟩
theorem d_X10_commonPart_2 : DC mi_X10_commonPart 2 (.iload_n 2) 1 3 := ⟨by decide +kernel, rfl⟩
theorem d_X10_commonPart_3 : DC mi_X10_commonPart 3 (.iconst 1) 1 4 := ⟨by decide +kernel, rfl⟩
theorem d_X10_commonPart_4 : DB mi_X10_commonPart 4 (.if_icmp .le 23) 23 7 27 := ⟨by decide +kernel, rfl, by decide⟩
theorem d_X10_commonPart_7 : DC mi_X10_commonPart 7 (.iload_n 0) 1 8 := ⟨by decide +kernel, rfl⟩
theorem d_X10_commonPart_8 : DC mi_X10_commonPart 8 (.iload_n 2) 1 9 := ⟨by decide +kernel, rfl⟩
theorem d_X10_commonPart_9 : DC mi_X10_commonPart 9 (.irem) 1 10 := ⟨by decide +kernel, rfl⟩
theorem d_X10_commonPart_10 : DB mi_X10_commonPart 10 (.ifCond .ne 11) 11 13 21 := ⟨by decide +kernel, rfl, by decide⟩
theorem d_X10_commonPart_13 : DC mi_X10_commonPart 13 (.iload_n 1) 1 14 := ⟨by decide +kernel, rfl⟩
theorem d_X10_commonPart_14 : DC mi_X10_commonPart 14 (.iload_n 2) 1 15 := ⟨by decide +kernel, rfl⟩
theorem d_X10_commonPart_15 : DC mi_X10_commonPart 15 (.irem) 1 16 := ⟨by decide +kernel, rfl⟩
theorem d_X10_commonPart_16 : DB mi_X10_commonPart 16 (.ifCond .ne 5) 5 19 21 := ⟨by decide +kernel, rfl, by decide⟩
theorem d_X10_commonPart_19 : DC mi_X10_commonPart 19 (.iload_n 2) 1 20 := ⟨by decide +kernel, rfl⟩
theorem d_X10_commonPart_20 : DC mi_X10_commonPart 20 (.ireturn) 1 21 := ⟨by decide +kernel, rfl⟩
theorem d_X10_commonPart_21 : DC mi_X10_commonPart 21 (.iinc 2 (-1)) 3 24 := ⟨by decide +kernel, rfl⟩
theorem d_X10_commonPart_24 : DB mi_X10_commonPart 24 (.goto (-22)) (-22) 27 2 := ⟨by decide +kernel, rfl, by decide⟩
theorem d_X10_commonPart_27 : DC mi_X10_commonPart 27 (.iconst 1) 1 28 := ⟨by decide +kernel, rfl⟩
theorem d_X10_commonPart_28 : DC mi_X10_commonPart 28 (.ireturn) 1 29 := ⟨by decide +kernel, rfl⟩
set_option maxHeartbeats 4000000 in
set_option maxRecDepth 100000 in
theorem sL_X10_commonPart_2 (d : Nat) (hd : 0 ≤ d) (c0 : Int32) (c1 : Int32) : ∀ (n : Nat) (x2 : Int32) (h : HH), Sx mi_X10_commonPart d iI (g_X10_commonPart_L2 c0 c1 n x2 h) 2 [(0, .int c0), (1, .int c1), (2, .int x2)] [] h := by
  intro n
  induction n with
  | zero => intro x2 h; exact sx_none
  | succ n ih =>
    intro x2 h
    rw [g_X10_commonPart_L2]
    refine sx_iload_n d_X10_commonPart_2 2 rfl ?_
    refine sx_iconst d_X10_commonPart_3 ic1 ?_
    refine sx_icmp_le d_X10_commonPart_4 ?_ ?_
    · refine sx_iload_n d_X10_commonPart_7 0 rfl ?_
      refine sx_iload_n d_X10_commonPart_8 2 rfl ?_
      refine sx_irem d_X10_commonPart_9 (fun v1 => ?_)
      refine sx_jn (fun j => ∀  (h : HH), Sx mi_X10_commonPart d iI (j  h) 21 [(0, .int c0), (1, .int c1), (2, .int x2)] [] h) ?_ ?_
      · intro  h4
        refine sx_iincV (lc' := fun v5 => [(2, .int v5), (0, .int c0), (1, .int c1)]) (k0 := 2) d_X10_commonPart_21 rfl iim1 (by decide) (fun _ => rfl) (fun v5 => ?_)
        refine sx_goto d_X10_commonPart_24 ?_
        refine sx_lc (lc' := [(0, .int c0), (1, .int c1), (2, .int v5)]) [1, 2, 0] rfl ?_
        exact ih v5 h4
      · intro j2 k3
        refine sx_if_ne d_X10_commonPart_10 ?_ ?_
        · refine sx_iload_n d_X10_commonPart_13 1 rfl ?_
          refine sx_iload_n d_X10_commonPart_14 2 rfl ?_
          refine sx_irem d_X10_commonPart_15 (fun v6 => ?_)
          refine sx_if_ne d_X10_commonPart_16 ?_ ?_
          · refine sx_iload_n d_X10_commonPart_19 2 rfl ?_
            exact sx_iret rfl d_X10_commonPart_20
          · exact k3 h
        · exact k3 h
    · refine sx_iconst d_X10_commonPart_27 ic1 ?_
      exact sx_iret rfl d_X10_commonPart_28
set_option maxHeartbeats 4000000 in
set_option maxRecDepth 100000 in
theorem sp_X10_commonPart (d : Nat) (hd : 0 ≤ d) (a0 : Int32) (a1 : Int32) (h : HH) : Sp mi_X10_commonPart d iI [.int a0, .int a1] h (g_X10_commonPart a0 a1 h) := by
  refine sp_of (lc := [(0, .int a0), (1, .int a1)]) (by decide) (Nat.le_of_ble_eq_true rfl) rfl ?_
  unfold g_X10_commonPart
  refine sx_iload_n d_X10_commonPart_0 1 rfl ?_
  refine sx_istore_n (i := 2) (lc' := [(2, .int a1), (0, .int a0), (1, .int a1)]) d_X10_commonPart_1 rfl (by decide) rfl ?_
  refine sx_lc (lc' := [(0, .int a0), (1, .int a1), (2, .int a1)]) [1, 2, 0] rfl ?_
  refine sL_X10_commonPart_2 d hd a0 a1 1024 a1 h
theorem d_X10_sure_0 : DC mi_X10_sure 0 (.iload_n 1) 1 1 := ⟨by decide +kernel, rfl⟩
theorem d_X10_sure_1 : DB mi_X10_sure 1 (.ifCond .lt 18) 18 4 19 := ⟨by decide +kernel, rfl, by decide⟩
theorem d_X10_sure_4 : DC mi_X10_sure 4 (.iload_n 1) 1 5 := ⟨by decide +kernel, rfl⟩
theorem d_X10_sure_5 : DC mi_X10_sure 5 (.bipush 6) 2 7 := ⟨by decide +kernel, rfl⟩
theorem d_X10_sure_7 : DB mi_X10_sure 7 (.if_icmp .gt 12) 12 10 19 := ⟨by decide +kernel, rfl, by decide⟩
theorem d_X10_sure_10 : DC mi_X10_sure 10 (.iload_n 2) 1 11 := ⟨by decide +kernel, rfl⟩
theorem d_X10_sure_11 : DB mi_X10_sure 11 (.ifCond .lt 8) 8 14 19 := ⟨by decide +kernel, rfl, by decide⟩
theorem d_X10_sure_14 : DC mi_X10_sure 14 (.iload_n 2) 1 15 := ⟨by decide +kernel, rfl⟩
theorem d_X10_sure_15 : DC mi_X10_sure 15 (.iconst 1) 1 16 := ⟨by decide +kernel, rfl⟩
theorem d_X10_sure_16 : DB mi_X10_sure 16 (.if_icmp .le 7) 7 19 23 := ⟨by decide +kernel, rfl, by decide⟩
theorem d_X10_sure_19 : DC mi_X10_sure 19 (.ldc2_w 288) 3 22 := ⟨by decide +kernel, rfl⟩
theorem d_X10_sure_22 : DC mi_X10_sure 22 (.lreturn) 1 23 := ⟨by decide +kernel, rfl⟩
theorem d_X10_sure_23 : DC mi_X10_sure 23 (.bipush 100) 2 25 := ⟨by decide +kernel, rfl⟩
theorem d_X10_sure_25 : DC mi_X10_sure 25 (.aload_n 0) 1 26 := ⟨by decide +kernel, rfl⟩
theorem d_X10_sure_26 : DC mi_X10_sure 26 (.getfield 16) 3 29 := ⟨by decide +kernel, rfl⟩
theorem d_X10_sure_29 : DC mi_X10_sure 29 (.getfield 290) 3 32 := ⟨by decide +kernel, rfl⟩
theorem d_X10_sure_32 : DC mi_X10_sure 32 (.isub) 1 33 := ⟨by decide +kernel, rfl⟩
theorem d_X10_sure_33 : DC mi_X10_sure 33 (.bipush 100) 2 35 := ⟨by decide +kernel, rfl⟩
theorem d_X10_sure_35 : DC mi_X10_sure 35 (.invokestatic 293) 3 38 := ⟨by decide +kernel, rfl⟩
theorem d_X10_sure_38 : DC mi_X10_sure 38 (.istore_n 3) 1 39 := ⟨by decide +kernel, rfl⟩
theorem d_X10_sure_39 : DC mi_X10_sure 39 (.iload_n 2) 1 40 := ⟨by decide +kernel, rfl⟩
theorem d_X10_sure_40 : DB mi_X10_sure 40 (.ifCond .ne 16) 16 43 56 := ⟨by decide +kernel, rfl, by decide⟩
theorem d_X10_sure_43 : DC mi_X10_sure 43 (.bipush 100) 2 45 := ⟨by decide +kernel, rfl⟩
theorem d_X10_sure_45 : DC mi_X10_sure 45 (.aload_n 0) 1 46 := ⟨by decide +kernel, rfl⟩
theorem d_X10_sure_46 : DC mi_X10_sure 46 (.getfield 16) 3 49 := ⟨by decide +kernel, rfl⟩
theorem d_X10_sure_49 : DC mi_X10_sure 49 (.getfield 290) 3 52 := ⟨by decide +kernel, rfl⟩
theorem d_X10_sure_52 : DC mi_X10_sure 52 (.isub) 1 53 := ⟨by decide +kernel, rfl⟩
theorem d_X10_sure_53 : DB mi_X10_sure 53 (.goto 5) 5 56 58 := ⟨by decide +kernel, rfl, by decide⟩
theorem d_X10_sure_56 : DC mi_X10_sure 56 (.bipush 100) 2 58 := ⟨by decide +kernel, rfl⟩
theorem d_X10_sure_58 : DC mi_X10_sure 58 (.iload_n 3) 1 59 := ⟨by decide +kernel, rfl⟩
theorem d_X10_sure_59 : DC mi_X10_sure 59 (.idiv) 1 60 := ⟨by decide +kernel, rfl⟩
theorem d_X10_sure_60 : DC mi_X10_sure 60 (.i2l) 1 61 := ⟨by decide +kernel, rfl⟩
theorem d_X10_sure_61 : DC mi_X10_sure 61 (.lstore 4) 2 63 := ⟨by decide +kernel, rfl⟩
theorem d_X10_sure_63 : DC mi_X10_sure 63 (.lconst 1) 1 64 := ⟨by decide +kernel, rfl⟩
theorem d_X10_sure_64 : DC mi_X10_sure 64 (.lstore 6) 2 66 := ⟨by decide +kernel, rfl⟩
theorem d_X10_sure_66 : DC mi_X10_sure 66 (.iconst 0) 1 67 := ⟨by decide +kernel, rfl⟩
theorem d_X10_sure_67 : DC mi_X10_sure 67 (.istore 8) 2 69 := ⟨by decide +kernel, rfl⟩
theorem d_X10_sure_69 : DC mi_X10_sure 69 (.iload 8) 2 71 := ⟨by decide +kernel, rfl⟩
theorem d_X10_sure_71 : DC mi_X10_sure 71 (.iload_n 1) 1 72 := ⟨by decide +kernel, rfl⟩
theorem d_X10_sure_72 : DB mi_X10_sure 72 (.if_icmp .ge 16) 16 75 88 := ⟨by decide +kernel, rfl, by decide⟩
theorem d_X10_sure_75 : DC mi_X10_sure 75 (.lload 6) 2 77 := ⟨by decide +kernel, rfl⟩
theorem d_X10_sure_77 : DC mi_X10_sure 77 (.lload 4) 2 79 := ⟨by decide +kernel, rfl⟩
theorem d_X10_sure_79 : DC mi_X10_sure 79 (.lmul) 1 80 := ⟨by decide +kernel, rfl⟩
theorem d_X10_sure_80 : DC mi_X10_sure 80 (.lstore 6) 2 82 := ⟨by decide +kernel, rfl⟩
theorem d_X10_sure_82 : DC mi_X10_sure 82 (.iinc 8 1) 3 85 := ⟨by decide +kernel, rfl⟩
theorem d_X10_sure_85 : DB mi_X10_sure 85 (.goto (-16)) (-16) 88 69 := ⟨by decide +kernel, rfl, by decide⟩
theorem d_X10_sure_88 : DC mi_X10_sure 88 (.lload 6) 2 90 := ⟨by decide +kernel, rfl⟩
theorem d_X10_sure_90 : DC mi_X10_sure 90 (.lreturn) 1 91 := ⟨by decide +kernel, rfl⟩
set_option maxHeartbeats 4000000 in
set_option maxRecDepth 100000 in
theorem sL_X10_sure_69 (d : Nat) (hd : 1 ≤ d) (c1 : Int32) (c4 : Int64) : ∀ (n : Nat) (x6 : Int64) (x8 : Int32) (h : HH), Sx mi_X10_sure d iL (g_X10_sure_L69 c1 c4 n x6 x8 h) 69 [(1, .int c1), (4, .long c4), (6, .long x6), (8, .int x8)] [] h := by
  intro n
  induction n with
  | zero => intro x6 x8 h; exact sx_none
  | succ n ih =>
    intro x6 x8 h
    rw [g_X10_sure_L69]
    refine sx_iload d_X10_sure_69 3 rfl ?_
    refine sx_iload_n d_X10_sure_71 0 rfl ?_
    refine sx_icmp_ge d_X10_sure_72 ?_ ?_
    · refine sx_lload d_X10_sure_75 2 rfl ?_
      refine sx_lload d_X10_sure_77 1 rfl ?_
      refine sx_lmul d_X10_sure_79 ?_
      refine sx_vlL (fun v11 => ?_)
      refine sx_lstore (i := 6) (lc' := [(6, .long v11), (1, .int c1), (4, .long c4), (8, .int x8)]) d_X10_sure_80 (by decide) rfl ?_
      refine sx_iincV (lc' := fun v12 => [(8, .int v12), (6, .long v11), (1, .int c1), (4, .long c4)]) (k0 := 3) d_X10_sure_82 rfl ii1 (by decide) (fun _ => rfl) (fun v12 => ?_)
      refine sx_goto d_X10_sure_85 ?_
      refine sx_lc (lc' := [(1, .int c1), (4, .long c4), (6, .long v11), (8, .int v12)]) [2, 3, 1, 0] rfl ?_
      exact ih v11 v12 h
    · refine sx_lload d_X10_sure_88 2 rfl ?_
      exact sx_lret rfl d_X10_sure_90
set_option maxHeartbeats 4000000 in
set_option maxRecDepth 100000 in
theorem sp_X10_sure (d : Nat) (hd : 1 ≤ d) (a0 : Int32) (a1 : Int32) (h : HH) : Sp mi_X10_sure d iL [.ref 0, .int a0, .int a1] h (g_X10_sure a0 a1 h) := by
  refine sp_of (lc := [(0, .ref 0), (1, .int a0), (2, .int a1)]) (by decide) (Nat.le_of_ble_eq_true rfl) rfl ?_
  unfold g_X10_sure
  refine sx_iload_n d_X10_sure_0 1 rfl ?_
  refine sx_if_lt d_X10_sure_1 ?_ ?_
  · refine sx_ldc2 d_X10_sure_19 lQ_StairCount_288 ?_
    exact sx_lret rfl d_X10_sure_22
  · refine sx_iload_n d_X10_sure_4 1 rfl ?_
    refine sx_bipush d_X10_sure_5 bc6 ?_
    refine sx_icmp_gt d_X10_sure_7 ?_ ?_
    · refine sx_ldc2 d_X10_sure_19 lQ_StairCount_288 ?_
      exact sx_lret rfl d_X10_sure_22
    · refine sx_iload_n d_X10_sure_10 2 rfl ?_
      refine sx_if_lt d_X10_sure_11 ?_ ?_
      · refine sx_ldc2 d_X10_sure_19 lQ_StairCount_288 ?_
        exact sx_lret rfl d_X10_sure_22
      · refine sx_iload_n d_X10_sure_14 2 rfl ?_
        refine sx_iconst d_X10_sure_15 ic1 ?_
        refine sx_icmp_le d_X10_sure_16 ?_ ?_
        · refine sx_ldc2 d_X10_sure_19 lQ_StairCount_288 ?_
          exact sx_lret rfl d_X10_sure_22
        · refine sx_bipush d_X10_sure_23 bc100 ?_
          refine sx_aload_n d_X10_sure_25 0 rfl ?_
          refine sx_getR fl_StairCount_16 sh_0 rfl d_X10_sure_26 (fun p1 => ?_)
          refine sx_ckH (fun ep1 => ?_)
          refine sx_getI fl_StairCount_290 ep1 rfl d_X10_sure_29 (fun v2 => ?_)
          refine sx_isub d_X10_sure_32 ?_
          refine sx_bipush d_X10_sure_33 bc100 ?_
          refine sx_callS [.int ((100 : Int32) - v2), .int (100 : Int32)] ms_X10_commonPart lM_StairCount_293 (by omega) rfl rfl (Nat.le_of_ble_eq_true rfl) d_X10_sure_35 (sp_X10_commonPart (d - 1) (by omega) ((100 : Int32) - v2) (100 : Int32) h) (fun r4 h3 => ?_)
          refine sx_istore_n (i := 3) (lc' := [(3, .int r4), (0, .ref 0), (1, .int a0), (2, .int a1)]) d_X10_sure_38 rfl (by decide) rfl ?_
          refine sx_iload_n d_X10_sure_39 3 rfl ?_
          refine sx_jn (fun j => ∀ (y8 : Int32) (h : HH), Sx mi_X10_sure d iL (j y8 h) 58 [(1, .int a0), (3, .int r4)] [.int y8] h) ?_ ?_
          · intro y8 h7
            refine sx_iload_n d_X10_sure_58 1 rfl ?_
            refine sx_idiv d_X10_sure_59 (fun v9 => ?_)
            refine sx_i2l d_X10_sure_60 ?_
            refine sx_vlL (fun v10 => ?_)
            refine sx_lstore (i := 4) (lc' := [(4, .long v10), (1, .int a0), (3, .int r4)]) d_X10_sure_61 (by decide) rfl ?_
            refine sx_lconst d_X10_sure_63 lc1 ?_
            refine sx_lstore (i := 6) (lc' := [(6, .long (1 : Int64)), (4, .long v10), (1, .int a0), (3, .int r4)]) d_X10_sure_64 (by decide) rfl ?_
            refine sx_iconst d_X10_sure_66 ic0 ?_
            refine sx_istore (i := 8) (lc' := [(8, .int (0 : Int32)), (6, .long (1 : Int64)), (4, .long v10), (1, .int a0), (3, .int r4)]) d_X10_sure_67 (by decide) rfl ?_
            refine sx_lc (lc' := [(1, .int a0), (4, .long v10), (6, .long (1 : Int64)), (8, .int (0 : Int32))]) [3, 2, 1, 0] rfl ?_
            refine sL_X10_sure_69 d hd a0 v10 1024 (1 : Int64) (0 : Int32) h7
          · intro j5 k6
            refine sx_if_ne d_X10_sure_40 ?_ ?_
            · refine sx_bipush d_X10_sure_43 bc100 ?_
              refine sx_aload_n d_X10_sure_45 1 rfl ?_
              refine sx_getR fl_StairCount_16 sh_0 rfl d_X10_sure_46 (fun p13 => ?_)
              refine sx_ckH (fun ep13 => ?_)
              refine sx_getI fl_StairCount_290 ep13 rfl d_X10_sure_49 (fun v14 => ?_)
              refine sx_isub d_X10_sure_52 ?_
              refine sx_goto d_X10_sure_53 ?_
              refine sx_lc (lc' := [(1, .int a0), (3, .int r4)]) [2, 0] rfl ?_
              exact k6 ((100 : Int32) - v14) h3
            · refine sx_bipush d_X10_sure_56 bc100 ?_
              refine sx_lc (lc' := [(1, .int a0), (3, .int r4)]) [2, 0] rfl ?_
              exact k6 (100 : Int32) h3
theorem d_X10_note_0 : DC mi_X10_note 0 (.iload_n 1) 1 1 := ⟨by decide +kernel, rfl⟩
theorem d_X10_note_1 : DC mi_X10_note 1 (.iconst 1) 1 2 := ⟨by decide +kernel, rfl⟩
theorem d_X10_note_2 : DB mi_X10_note 2 (.if_icmp .lt 25) 25 5 27 := ⟨by decide +kernel, rfl, by decide⟩
theorem d_X10_note_5 : DC mi_X10_note 5 (.iload_n 1) 1 6 := ⟨by decide +kernel, rfl⟩
theorem d_X10_note_6 : DC mi_X10_note 6 (.bipush 40) 2 8 := ⟨by decide +kernel, rfl⟩
theorem d_X10_note_8 : DB mi_X10_note 8 (.if_icmp .gt 19) 19 11 27 := ⟨by decide +kernel, rfl, by decide⟩
theorem d_X10_note_11 : DC mi_X10_note 11 (.aload_n 0) 1 12 := ⟨by decide +kernel, rfl⟩
theorem d_X10_note_12 : DC mi_X10_note 12 (.iload_n 2) 1 13 := ⟨by decide +kernel, rfl⟩
theorem d_X10_note_13 : DC mi_X10_note 13 (.invokevirtual 115) 3 16 := ⟨by decide +kernel, rfl⟩
theorem d_X10_note_16 : DB mi_X10_note 16 (.ifCond .eq 11) 11 19 27 := ⟨by decide +kernel, rfl, by decide⟩
theorem d_X10_note_19 : DC mi_X10_note 19 (.aload_n 0) 1 20 := ⟨by decide +kernel, rfl⟩
theorem d_X10_note_20 : DC mi_X10_note 20 (.iload_n 3) 1 21 := ⟨by decide +kernel, rfl⟩
theorem d_X10_note_21 : DC mi_X10_note 21 (.invokevirtual 177) 3 24 := ⟨by decide +kernel, rfl⟩
theorem d_X10_note_24 : DB mi_X10_note 24 (.ifCond .ne 5) 5 27 29 := ⟨by decide +kernel, rfl, by decide⟩
theorem d_X10_note_27 : DC mi_X10_note 27 (.iconst (-1)) 1 28 := ⟨by decide +kernel, rfl⟩
theorem d_X10_note_28 : DC mi_X10_note 28 (.ireturn) 1 29 := ⟨by decide +kernel, rfl⟩
theorem d_X10_note_29 : DC mi_X10_note 29 (.aload_n 0) 1 30 := ⟨by decide +kernel, rfl⟩
theorem d_X10_note_30 : DC mi_X10_note 30 (.getfield 47) 3 33 := ⟨by decide +kernel, rfl⟩
theorem d_X10_note_33 : DC mi_X10_note 33 (.iload_n 1) 1 34 := ⟨by decide +kernel, rfl⟩
theorem d_X10_note_34 : DC mi_X10_note 34 (.iload_n 2) 1 35 := ⟨by decide +kernel, rfl⟩
theorem d_X10_note_35 : DC mi_X10_note 35 (.iload_n 3) 1 36 := ⟨by decide +kernel, rfl⟩
theorem d_X10_note_36 : DC mi_X10_note 36 (.iload 4) 2 38 := ⟨by decide +kernel, rfl⟩
theorem d_X10_note_38 : DC mi_X10_note 38 (.invokevirtual 296) 3 41 := ⟨by decide +kernel, rfl⟩
theorem d_X10_note_41 : DC mi_X10_note 41 (.ireturn) 1 42 := ⟨by decide +kernel, rfl⟩
set_option maxHeartbeats 4000000 in
set_option maxRecDepth 100000 in
theorem sp_X10_note (d : Nat) (hd : 1 ≤ d) (a0 : Int32) (a1 : Int32) (a2 : Int32) (a3 : Int32) (h : HH) : Sp mi_X10_note d iI [.ref 0, .int a0, .int a1, .int a2, .int a3] h (g_X10_note a0 a1 a2 a3 h) := by
  refine sp_of (lc := [(0, .ref 0), (1, .int a0), (2, .int a1), (3, .int a2), (4, .int a3)]) (by decide) (Nat.le_of_ble_eq_true rfl) rfl ?_
  unfold g_X10_note
  refine sx_iload_n d_X10_note_0 1 rfl ?_
  refine sx_iconst d_X10_note_1 ic1 ?_
  refine sx_icmp_lt d_X10_note_2 ?_ ?_
  · refine sx_iconst d_X10_note_27 icm1 ?_
    exact sx_iret rfl d_X10_note_28
  · refine sx_iload_n d_X10_note_5 1 rfl ?_
    refine sx_bipush d_X10_note_6 bc40 ?_
    refine sx_icmp_gt d_X10_note_8 ?_ ?_
    · refine sx_iconst d_X10_note_27 icm1 ?_
      exact sx_iret rfl d_X10_note_28
    · refine sx_aload_n d_X10_note_11 0 rfl ?_
      refine sx_iload_n d_X10_note_12 2 rfl ?_
      refine sx_callV [.int a1] mv_X10_isPerson lM_StairCount_115 sh_0 (by omega) rfl rfl (Nat.le_of_ble_eq_true rfl) d_X10_note_13 (sp_X10_isPerson (d - 1) (by omega) a1 h) (fun r2 h1 => ?_)
      refine sx_if_eq d_X10_note_16 ?_ ?_
      · refine sx_iconst d_X10_note_27 icm1 ?_
        exact sx_iret rfl d_X10_note_28
      · refine sx_aload_n d_X10_note_19 0 rfl ?_
        refine sx_iload_n d_X10_note_20 3 rfl ?_
        refine sx_callV [.int a2] mv_X10_isFloor lM_StairCount_177 sh_0 (by omega) rfl rfl (Nat.le_of_ble_eq_true rfl) d_X10_note_21 (sp_X10_isFloor (d - 1) (by omega) a2 h1) (fun r4 h3 => ?_)
        refine sx_if_ne d_X10_note_24 ?_ ?_
        · refine sx_iconst d_X10_note_27 icm1 ?_
          exact sx_iret rfl d_X10_note_28
        · refine sx_aload_n d_X10_note_29 0 rfl ?_
          refine sx_getF (a' := 186) fl_StairCount_47 sh_0 rfl rfl d_X10_note_30 ?_
          refine sx_iload_n d_X10_note_33 1 rfl ?_
          refine sx_iload_n d_X10_note_34 2 rfl ?_
          refine sx_iload_n d_X10_note_35 3 rfl ?_
          refine sx_iload d_X10_note_36 4 rfl ?_
          refine sx_callV [.int a0, .int a1, .int a2, .int a3] mv_X3_add lM_StairCount_296 sh_186 (by omega) rfl rfl (Nat.le_of_ble_eq_true rfl) d_X10_note_38 (sp_X3_add (d - 1) (by omega) a0 a1 a2 a3 h3) (fun r6 h5 => ?_)
          exact sx_iret rfl d_X10_note_41
theorem d_X10_strike_0 : DC mi_X10_strike 0 (.aload_n 0) 1 1 := ⟨by decide +kernel, rfl⟩
theorem d_X10_strike_1 : DC mi_X10_strike 1 (.getfield 47) 3 4 := ⟨by decide +kernel, rfl⟩
theorem d_X10_strike_4 : DC mi_X10_strike 4 (.iload_n 1) 1 5 := ⟨by decide +kernel, rfl⟩
theorem d_X10_strike_5 : DC mi_X10_strike 5 (.invokevirtual 300) 3 8 := ⟨by decide +kernel, rfl⟩
theorem d_X10_strike_8 : DC mi_X10_strike 8 (.ireturn) 1 9 := ⟨by decide +kernel, rfl⟩
set_option maxHeartbeats 4000000 in
set_option maxRecDepth 100000 in
theorem sp_X10_strike (d : Nat) (hd : 1 ≤ d) (a0 : Int32) (h : HH) : Sp mi_X10_strike d iI [.ref 0, .int a0] h (g_X10_strike a0 h) := by
  refine sp_of (lc := [(0, .ref 0), (1, .int a0)]) (by decide) (Nat.le_of_ble_eq_true rfl) rfl ?_
  unfold g_X10_strike
  refine sx_aload_n d_X10_strike_0 0 rfl ?_
  refine sx_getF (a' := 186) fl_StairCount_47 sh_0 rfl rfl d_X10_strike_1 ?_
  refine sx_iload_n d_X10_strike_4 1 rfl ?_
  refine sx_callV [.int a0] mv_X3_addStrike lM_StairCount_300 sh_186 (by omega) rfl rfl (Nat.le_of_ble_eq_true rfl) d_X10_strike_5 (sp_X3_addStrike (d - 1) (by omega) a0 h) (fun r2 h1 => ?_)
  exact sx_iret rfl d_X10_strike_8
theorem d_X10_known_0 : DC mi_X10_known 0 (.iload_n 1) 1 1 := ⟨by decide +kernel, rfl⟩
theorem d_X10_known_1 : DC mi_X10_known 1 (.iconst (-1)) 1 2 := ⟨by decide +kernel, rfl⟩
theorem d_X10_known_2 : DB mi_X10_known 2 (.if_icmp .lt 14) 14 5 16 := ⟨by decide +kernel, rfl, by decide⟩
theorem d_X10_known_5 : DC mi_X10_known 5 (.iload_n 1) 1 6 := ⟨by decide +kernel, rfl⟩
theorem d_X10_known_6 : DC mi_X10_known 6 (.aload_n 0) 1 7 := ⟨by decide +kernel, rfl⟩
theorem d_X10_known_7 : DC mi_X10_known 7 (.getfield 47) 3 10 := ⟨by decide +kernel, rfl⟩
theorem d_X10_known_10 : DC mi_X10_known 10 (.getfield 229) 3 13 := ⟨by decide +kernel, rfl⟩
theorem d_X10_known_13 : DB mi_X10_known 13 (.if_icmp .le 5) 5 16 18 := ⟨by decide +kernel, rfl, by decide⟩
theorem d_X10_known_16 : DC mi_X10_known 16 (.iconst 0) 1 17 := ⟨by decide +kernel, rfl⟩
theorem d_X10_known_17 : DC mi_X10_known 17 (.ireturn) 1 18 := ⟨by decide +kernel, rfl⟩
theorem d_X10_known_18 : DC mi_X10_known 18 (.aload_n 0) 1 19 := ⟨by decide +kernel, rfl⟩
theorem d_X10_known_19 : DC mi_X10_known 19 (.getfield 47) 3 22 := ⟨by decide +kernel, rfl⟩
theorem d_X10_known_22 : DC mi_X10_known 22 (.iload_n 1) 1 23 := ⟨by decide +kernel, rfl⟩
theorem d_X10_known_23 : DC mi_X10_known 23 (.putfield 303) 3 26 := ⟨by decide +kernel, rfl⟩
theorem d_X10_known_26 : DC mi_X10_known 26 (.iconst 1) 1 27 := ⟨by decide +kernel, rfl⟩
theorem d_X10_known_27 : DC mi_X10_known 27 (.ireturn) 1 28 := ⟨by decide +kernel, rfl⟩
set_option maxHeartbeats 4000000 in
set_option maxRecDepth 100000 in
theorem sp_X10_known (d : Nat) (hd : 0 ≤ d) (a0 : Int32) (h : HH) : Sp mi_X10_known d iI [.ref 0, .int a0] h (g_X10_known a0 h) := by
  refine sp_of (lc := [(0, .ref 0), (1, .int a0)]) (by decide) (Nat.le_of_ble_eq_true rfl) rfl ?_
  unfold g_X10_known
  refine sx_iload_n d_X10_known_0 1 rfl ?_
  refine sx_iconst d_X10_known_1 icm1 ?_
  refine sx_icmp_lt d_X10_known_2 ?_ ?_
  · refine sx_iconst d_X10_known_16 ic0 ?_
    exact sx_zret (by decide) rfl d_X10_known_17
  · refine sx_iload_n d_X10_known_5 1 rfl ?_
    refine sx_aload_n d_X10_known_6 0 rfl ?_
    refine sx_getF (a' := 186) fl_StairCount_47 sh_0 rfl rfl d_X10_known_7 ?_
    refine sx_getI fl_StairCount_229 sh_186 rfl d_X10_known_10 (fun v1 => ?_)
    refine sx_icmp_le d_X10_known_13 ?_ ?_
    · refine sx_iconst d_X10_known_16 ic0 ?_
      exact sx_zret (by decide) rfl d_X10_known_17
    · refine sx_aload_n d_X10_known_18 0 rfl ?_
      refine sx_getF (a' := 186) fl_StairCount_47 sh_0 rfl rfl d_X10_known_19 ?_
      refine sx_iload_n d_X10_known_22 1 rfl ?_
      refine sx_putI fl_StairCount_303 sh_186 rfl hty_3_7 d_X10_known_23 (fun h2 => ?_)
      refine sx_iconst d_X10_known_26 ic1 ?_
      exact sx_zret (by decide) rfl d_X10_known_27
theorem d_X10_startGuess_0 : DC mi_X10_startGuess 0 (.aload_n 0) 1 1 := ⟨by decide +kernel, rfl⟩
theorem d_X10_startGuess_1 : DC mi_X10_startGuess 1 (.getfield 47) 3 4 := ⟨by decide +kernel, rfl⟩
theorem d_X10_startGuess_4 : DC mi_X10_startGuess 4 (.invokevirtual 316) 3 7 := ⟨by decide +kernel, rfl⟩
theorem d_X10_startGuess_7 : DC mi_X10_startGuess 7 (.aload_n 0) 1 8 := ⟨by decide +kernel, rfl⟩
theorem d_X10_startGuess_8 : DC mi_X10_startGuess 8 (.getfield 54) 3 11 := ⟨by decide +kernel, rfl⟩
theorem d_X10_startGuess_11 : DC mi_X10_startGuess 11 (.aload_n 0) 1 12 := ⟨by decide +kernel, rfl⟩
theorem d_X10_startGuess_12 : DC mi_X10_startGuess 12 (.getfield 16) 3 15 := ⟨by decide +kernel, rfl⟩
theorem d_X10_startGuess_15 : DC mi_X10_startGuess 15 (.aload_n 0) 1 16 := ⟨by decide +kernel, rfl⟩
theorem d_X10_startGuess_16 : DC mi_X10_startGuess 16 (.getfield 54) 3 19 := ⟨by decide +kernel, rfl⟩
theorem d_X10_startGuess_19 : DC mi_X10_startGuess 19 (.getfield 250) 3 22 := ⟨by decide +kernel, rfl⟩
theorem d_X10_startGuess_22 : DC mi_X10_startGuess 22 (.iconst 1) 1 23 := ⟨by decide +kernel, rfl⟩
theorem d_X10_startGuess_23 : DC mi_X10_startGuess 23 (.invokevirtual 119) 3 26 := ⟨by decide +kernel, rfl⟩
theorem d_X10_startGuess_26 : DC mi_X10_startGuess 26 (.return_) 1 27 := ⟨by decide +kernel, rfl⟩
set_option maxHeartbeats 4000000 in
set_option maxRecDepth 100000 in
theorem sp_X10_startGuess (d : Nat) (hd : 2 ≤ d) (h : HH) : Sp mi_X10_startGuess d iU [.ref 0] h (g_X10_startGuess h) := by
  refine sp_of (lc := [(0, .ref 0)]) (by decide) (Nat.le_of_ble_eq_true rfl) rfl ?_
  unfold g_X10_startGuess
  refine sx_aload_n d_X10_startGuess_0 0 rfl ?_
  refine sx_getF (a' := 186) fl_StairCount_47 sh_0 rfl rfl d_X10_startGuess_1 ?_
  refine sx_callV [] mv_X3_weigh lM_StairCount_316 sh_186 (by omega) rfl rfl (Nat.le_of_ble_eq_true rfl) d_X10_startGuess_4 (sp_X3_weigh (d - 1) (by omega) h) (fun _ h1 => ?_)
  refine sx_aload_n d_X10_startGuess_7 0 rfl ?_
  refine sx_getF (a' := 193) fl_StairCount_54 sh_0 rfl rfl d_X10_startGuess_8 ?_
  refine sx_aload_n d_X10_startGuess_11 0 rfl ?_
  refine sx_getR fl_StairCount_16 sh_0 rfl d_X10_startGuess_12 (fun p3 => ?_)
  refine sx_ckH (fun ep3 => ?_)
  refine sx_aload_n d_X10_startGuess_15 0 rfl ?_
  refine sx_getF (a' := 193) fl_StairCount_54 sh_0 rfl rfl d_X10_startGuess_16 ?_
  refine sx_getF (a' := 196) fl_StairCount_250 sh_193 rfl rfl d_X10_startGuess_19 ?_
  refine sx_iconst d_X10_startGuess_22 ic1 ?_
  refine sx_callV [.ref p3, .ref 196, .int (1 : Int32)] mv_X0_begin lM_StairCount_119 sh_193 (by omega) rfl rfl (Nat.le_of_ble_eq_true rfl) d_X10_startGuess_23 (sp_X0_begin (d - 1) (by omega) p3 196 (1 : Int32) h1) (fun _ h4 => ?_)
  exact sx_vret rfl d_X10_startGuess_26
theorem d_X10_hads_0 : DC mi_X10_hads 0 (.aload_n 0) 1 1 := ⟨by decide +kernel, rfl⟩
theorem d_X10_hads_1 : DC mi_X10_hads 1 (.iload_n 1) 1 2 := ⟨by decide +kernel, rfl⟩
theorem d_X10_hads_2 : DC mi_X10_hads 2 (.invokevirtual 115) 3 5 := ⟨by decide +kernel, rfl⟩
theorem d_X10_hads_5 : DB mi_X10_hads 5 (.ifCond .eq 11) 11 8 16 := ⟨by decide +kernel, rfl, by decide⟩
theorem d_X10_hads_8 : DC mi_X10_hads 8 (.aload_n 0) 1 9 := ⟨by decide +kernel, rfl⟩
theorem d_X10_hads_9 : DC mi_X10_hads 9 (.iload_n 2) 1 10 := ⟨by decide +kernel, rfl⟩
theorem d_X10_hads_10 : DC mi_X10_hads 10 (.invokevirtual 155) 3 13 := ⟨by decide +kernel, rfl⟩
theorem d_X10_hads_13 : DB mi_X10_hads 13 (.ifCond .ne 5) 5 16 18 := ⟨by decide +kernel, rfl, by decide⟩
theorem d_X10_hads_16 : DC mi_X10_hads 16 (.iconst (-1)) 1 17 := ⟨by decide +kernel, rfl⟩
theorem d_X10_hads_17 : DC mi_X10_hads 17 (.ireturn) 1 18 := ⟨by decide +kernel, rfl⟩
theorem d_X10_hads_18 : DC mi_X10_hads 18 (.aload_n 0) 1 19 := ⟨by decide +kernel, rfl⟩
theorem d_X10_hads_19 : DC mi_X10_hads 19 (.invokevirtual 306) 3 22 := ⟨by decide +kernel, rfl⟩
theorem d_X10_hads_22 : DC mi_X10_hads 22 (.aload_n 0) 1 23 := ⟨by decide +kernel, rfl⟩
theorem d_X10_hads_23 : DC mi_X10_hads 23 (.getfield 61) 3 26 := ⟨by decide +kernel, rfl⟩
theorem d_X10_hads_26 : DC mi_X10_hads 26 (.aload_n 0) 1 27 := ⟨by decide +kernel, rfl⟩
theorem d_X10_hads_27 : DC mi_X10_hads 27 (.getfield 54) 3 30 := ⟨by decide +kernel, rfl⟩
theorem d_X10_hads_30 : DC mi_X10_hads 30 (.aload_n 0) 1 31 := ⟨by decide +kernel, rfl⟩
theorem d_X10_hads_31 : DC mi_X10_hads 31 (.getfield 47) 3 34 := ⟨by decide +kernel, rfl⟩
theorem d_X10_hads_34 : DC mi_X10_hads 34 (.iload_n 1) 1 35 := ⟨by decide +kernel, rfl⟩
theorem d_X10_hads_35 : DC mi_X10_hads 35 (.iload_n 2) 1 36 := ⟨by decide +kernel, rfl⟩
theorem d_X10_hads_36 : DC mi_X10_hads 36 (.invokevirtual 309) 3 39 := ⟨by decide +kernel, rfl⟩
theorem d_X10_hads_39 : DC mi_X10_hads 39 (.ireturn) 1 40 := ⟨by decide +kernel, rfl⟩
set_option maxHeartbeats 4000000 in
set_option maxRecDepth 100000 in
theorem sp_X10_hads (d : Nat) (hd : 7 ≤ d) (a0 : Int32) (a1 : Int32) (h : HH) : Sp mi_X10_hads d iI [.ref 0, .int a0, .int a1] h (g_X10_hads a0 a1 h) := by
  refine sp_of (lc := [(0, .ref 0), (1, .int a0), (2, .int a1)]) (by decide) (Nat.le_of_ble_eq_true rfl) rfl ?_
  unfold g_X10_hads
  refine sx_aload_n d_X10_hads_0 0 rfl ?_
  refine sx_iload_n d_X10_hads_1 1 rfl ?_
  refine sx_callV [.int a0] mv_X10_isPerson lM_StairCount_115 sh_0 (by omega) rfl rfl (Nat.le_of_ble_eq_true rfl) d_X10_hads_2 (sp_X10_isPerson (d - 1) (by omega) a0 h) (fun r2 h1 => ?_)
  refine sx_if_eq d_X10_hads_5 ?_ ?_
  · refine sx_iconst d_X10_hads_16 icm1 ?_
    exact sx_iret rfl d_X10_hads_17
  · refine sx_aload_n d_X10_hads_8 0 rfl ?_
    refine sx_iload_n d_X10_hads_9 2 rfl ?_
    refine sx_callV [.int a1] mv_X10_isFlight lM_StairCount_155 sh_0 (by omega) rfl rfl (Nat.le_of_ble_eq_true rfl) d_X10_hads_10 (sp_X10_isFlight (d - 1) (by omega) a1 h1) (fun r4 h3 => ?_)
    refine sx_if_ne d_X10_hads_13 ?_ ?_
    · refine sx_iconst d_X10_hads_16 icm1 ?_
      exact sx_iret rfl d_X10_hads_17
    · refine sx_aload_n d_X10_hads_18 0 rfl ?_
      refine sx_callV [] mv_X10_startGuess lM_StairCount_306 sh_0 (by omega) rfl rfl (Nat.le_of_ble_eq_true rfl) d_X10_hads_19 (sp_X10_startGuess (d - 1) (by omega) h3) (fun _ h5 => ?_)
      refine sx_aload_n d_X10_hads_22 0 rfl ?_
      refine sx_getF (a' := 225) fl_StairCount_61 sh_0 rfl rfl d_X10_hads_23 ?_
      refine sx_aload_n d_X10_hads_26 0 rfl ?_
      refine sx_getF (a' := 193) fl_StairCount_54 sh_0 rfl rfl d_X10_hads_27 ?_
      refine sx_aload_n d_X10_hads_30 0 rfl ?_
      refine sx_getF (a' := 186) fl_StairCount_47 sh_0 rfl rfl d_X10_hads_31 ?_
      refine sx_iload_n d_X10_hads_34 1 rfl ?_
      refine sx_iload_n d_X10_hads_35 2 rfl ?_
      refine sx_callV [.ref 193, .ref 186, .int a0, .int a1] mv_X1_possible lM_StairCount_309 sh_225 (by omega) rfl rfl (Nat.le_of_ble_eq_true rfl) d_X10_hads_36 (sp_X1_possible (d - 1) (by omega) a0 a1 h5) (fun r8 h7 => ?_)
      exact sx_iret rfl d_X10_hads_39
theorem d_X10_ask_0 : DC mi_X10_ask 0 (.aload_n 0) 1 1 := ⟨by decide +kernel, rfl⟩
theorem d_X10_ask_1 : DC mi_X10_ask 1 (.iload_n 1) 1 2 := ⟨by decide +kernel, rfl⟩
theorem d_X10_ask_2 : DC mi_X10_ask 2 (.invokevirtual 115) 3 5 := ⟨by decide +kernel, rfl⟩
theorem d_X10_ask_5 : DB mi_X10_ask 5 (.ifCond .eq 20) 20 8 25 := ⟨by decide +kernel, rfl, by decide⟩
theorem d_X10_ask_8 : DC mi_X10_ask 8 (.aload_n 0) 1 9 := ⟨by decide +kernel, rfl⟩
theorem d_X10_ask_9 : DC mi_X10_ask 9 (.iload_n 2) 1 10 := ⟨by decide +kernel, rfl⟩
theorem d_X10_ask_10 : DC mi_X10_ask 10 (.invokevirtual 155) 3 13 := ⟨by decide +kernel, rfl⟩
theorem d_X10_ask_13 : DB mi_X10_ask 13 (.ifCond .eq 12) 12 16 25 := ⟨by decide +kernel, rfl, by decide⟩
theorem d_X10_ask_16 : DC mi_X10_ask 16 (.iload_n 3) 1 17 := ⟨by decide +kernel, rfl⟩
theorem d_X10_ask_17 : DB mi_X10_ask 17 (.ifCond .lt 8) 8 20 25 := ⟨by decide +kernel, rfl, by decide⟩
theorem d_X10_ask_20 : DC mi_X10_ask 20 (.iload_n 3) 1 21 := ⟨by decide +kernel, rfl⟩
theorem d_X10_ask_21 : DC mi_X10_ask 21 (.iconst 1) 1 22 := ⟨by decide +kernel, rfl⟩
theorem d_X10_ask_22 : DB mi_X10_ask 22 (.if_icmp .le 5) 5 25 27 := ⟨by decide +kernel, rfl, by decide⟩
theorem d_X10_ask_25 : DC mi_X10_ask 25 (.iconst (-1)) 1 26 := ⟨by decide +kernel, rfl⟩
theorem d_X10_ask_26 : DC mi_X10_ask 26 (.ireturn) 1 27 := ⟨by decide +kernel, rfl⟩
theorem d_X10_ask_27 : DC mi_X10_ask 27 (.aload_n 0) 1 28 := ⟨by decide +kernel, rfl⟩
theorem d_X10_ask_28 : DC mi_X10_ask 28 (.invokevirtual 306) 3 31 := ⟨by decide +kernel, rfl⟩
theorem d_X10_ask_31 : DC mi_X10_ask 31 (.aload_n 0) 1 32 := ⟨by decide +kernel, rfl⟩
theorem d_X10_ask_32 : DC mi_X10_ask 32 (.getfield 61) 3 35 := ⟨by decide +kernel, rfl⟩
theorem d_X10_ask_35 : DC mi_X10_ask 35 (.aload_n 0) 1 36 := ⟨by decide +kernel, rfl⟩
theorem d_X10_ask_36 : DC mi_X10_ask 36 (.getfield 54) 3 39 := ⟨by decide +kernel, rfl⟩
theorem d_X10_ask_39 : DC mi_X10_ask 39 (.aload_n 0) 1 40 := ⟨by decide +kernel, rfl⟩
theorem d_X10_ask_40 : DC mi_X10_ask 40 (.getfield 47) 3 43 := ⟨by decide +kernel, rfl⟩
theorem d_X10_ask_43 : DC mi_X10_ask 43 (.iload_n 1) 1 44 := ⟨by decide +kernel, rfl⟩
theorem d_X10_ask_44 : DC mi_X10_ask 44 (.iload_n 2) 1 45 := ⟨by decide +kernel, rfl⟩
theorem d_X10_ask_45 : DC mi_X10_ask 45 (.invokevirtual 309) 3 48 := ⟨by decide +kernel, rfl⟩
theorem d_X10_ask_48 : DC mi_X10_ask 48 (.istore 4) 2 50 := ⟨by decide +kernel, rfl⟩
theorem d_X10_ask_50 : DC mi_X10_ask 50 (.iconst 1) 1 51 := ⟨by decide +kernel, rfl⟩
theorem d_X10_ask_51 : DC mi_X10_ask 51 (.istore 5) 2 53 := ⟨by decide +kernel, rfl⟩
theorem d_X10_ask_53 : DC mi_X10_ask 53 (.aload_n 0) 1 54 := ⟨by decide +kernel, rfl⟩
theorem d_X10_ask_54 : DC mi_X10_ask 54 (.getfield 61) 3 57 := ⟨by decide +kernel, rfl⟩
theorem d_X10_ask_57 : DC mi_X10_ask 57 (.iload 4) 2 59 := ⟨by decide +kernel, rfl⟩
theorem d_X10_ask_59 : DC mi_X10_ask 59 (.iconst 1) 1 60 := ⟨by decide +kernel, rfl⟩
theorem d_X10_ask_60 : DC mi_X10_ask 60 (.invokevirtual 313) 3 63 := ⟨by decide +kernel, rfl⟩
theorem d_X10_ask_63 : DC mi_X10_ask 63 (.istore 6) 2 65 := ⟨by decide +kernel, rfl⟩
theorem d_X10_ask_65 : DC mi_X10_ask 65 (.iconst 2) 1 66 := ⟨by decide +kernel, rfl⟩
theorem d_X10_ask_66 : DC mi_X10_ask 66 (.istore 7) 2 68 := ⟨by decide +kernel, rfl⟩
theorem d_X10_ask_68 : DC mi_X10_ask 68 (.iload 7) 2 70 := ⟨by decide +kernel, rfl⟩
theorem d_X10_ask_70 : DC mi_X10_ask 70 (.bipush 40) 2 72 := ⟨by decide +kernel, rfl⟩
theorem d_X10_ask_72 : DB mi_X10_ask 72 (.if_icmp .gt 37) 37 75 109 := ⟨by decide +kernel, rfl, by decide⟩
theorem d_X10_ask_75 : DC mi_X10_ask 75 (.aload_n 0) 1 76 := ⟨by decide +kernel, rfl⟩
theorem d_X10_ask_76 : DC mi_X10_ask 76 (.getfield 61) 3 79 := ⟨by decide +kernel, rfl⟩
theorem d_X10_ask_79 : DC mi_X10_ask 79 (.iload 4) 2 81 := ⟨by decide +kernel, rfl⟩
theorem d_X10_ask_81 : DC mi_X10_ask 81 (.iload 7) 2 83 := ⟨by decide +kernel, rfl⟩
theorem d_X10_ask_83 : DC mi_X10_ask 83 (.invokevirtual 313) 3 86 := ⟨by decide +kernel, rfl⟩
theorem d_X10_ask_86 : DC mi_X10_ask 86 (.istore 8) 2 88 := ⟨by decide +kernel, rfl⟩
theorem d_X10_ask_88 : DC mi_X10_ask 88 (.iload 8) 2 90 := ⟨by decide +kernel, rfl⟩
theorem d_X10_ask_90 : DC mi_X10_ask 90 (.iload 6) 2 92 := ⟨by decide +kernel, rfl⟩
theorem d_X10_ask_92 : DB mi_X10_ask 92 (.if_icmp .ge 11) 11 95 103 := ⟨by decide +kernel, rfl, by decide⟩
theorem d_X10_ask_95 : DC mi_X10_ask 95 (.iload 7) 2 97 := ⟨by decide +kernel, rfl⟩
theorem d_X10_ask_97 : DC mi_X10_ask 97 (.istore 5) 2 99 := ⟨by decide +kernel, rfl⟩
theorem d_X10_ask_99 : DC mi_X10_ask 99 (.iload 8) 2 101 := ⟨by decide +kernel, rfl⟩
theorem d_X10_ask_101 : DC mi_X10_ask 101 (.istore 6) 2 103 := ⟨by decide +kernel, rfl⟩
theorem d_X10_ask_103 : DC mi_X10_ask 103 (.iinc 7 1) 3 106 := ⟨by decide +kernel, rfl⟩
theorem d_X10_ask_106 : DB mi_X10_ask 106 (.goto (-38)) (-38) 109 68 := ⟨by decide +kernel, rfl, by decide⟩
theorem d_X10_ask_109 : DC mi_X10_ask 109 (.iload_n 3) 1 110 := ⟨by decide +kernel, rfl⟩
theorem d_X10_ask_110 : DB mi_X10_ask 110 (.ifCond .ne 8) 8 113 118 := ⟨by decide +kernel, rfl, by decide⟩
theorem d_X10_ask_113 : DC mi_X10_ask 113 (.iload 5) 2 115 := ⟨by decide +kernel, rfl⟩
theorem d_X10_ask_115 : DB mi_X10_ask 115 (.goto 5) 5 118 120 := ⟨by decide +kernel, rfl, by decide⟩
theorem d_X10_ask_118 : DC mi_X10_ask 118 (.iload 6) 2 120 := ⟨by decide +kernel, rfl⟩
theorem d_X10_ask_120 : DC mi_X10_ask 120 (.ireturn) 1 121 := ⟨by decide +kernel, rfl⟩
set_option maxHeartbeats 4000000 in
set_option maxRecDepth 100000 in
theorem sL_X10_ask_68 (d : Nat) (hd : 7 ≤ d) (K109 : Int32 → Int32 → HH → Option (Int32 × HH)) (c3 : Int32) (c4 : Int32) (hK109 : ∀ (z5 : Int32) (z6 : Int32) (h : HH), Sx mi_X10_ask d iI (K109 z5 z6 h) 109 [(3, .int c3), (5, .int z5), (6, .int z6)] [] h) : ∀ (n : Nat) (x5 : Int32) (x6 : Int32) (x7 : Int32) (h : HH), Sx mi_X10_ask d iI (g_X10_ask_L68 K109 c3 c4 n x5 x6 x7 h) 68 [(0, .ref 0), (3, .int c3), (4, .int c4), (5, .int x5), (6, .int x6), (7, .int x7)] [] h := by
  intro n
  induction n with
  | zero => intro x5 x6 x7 h; exact sx_none
  | succ n ih =>
    intro x5 x6 x7 h
    rw [g_X10_ask_L68]
    refine sx_iload d_X10_ask_68 5 rfl ?_
    refine sx_bipush d_X10_ask_70 bc40 ?_
    refine sx_icmp_gt d_X10_ask_72 ?_ ?_
    · refine sx_lc (lc' := [(3, .int c3), (5, .int x5), (6, .int x6)]) [1, 3, 4] rfl ?_
      exact hK109 x5 x6 h
    · refine sx_aload_n d_X10_ask_75 0 rfl ?_
      refine sx_getF (a' := 225) fl_StairCount_61 sh_0 rfl rfl d_X10_ask_76 ?_
      refine sx_iload d_X10_ask_79 2 rfl ?_
      refine sx_iload d_X10_ask_81 5 rfl ?_
      refine sx_callV [.int c4, .int x7] mv_X1_worst lM_StairCount_313 sh_225 (by omega) rfl rfl (Nat.le_of_ble_eq_true rfl) d_X10_ask_83 (sp_X1_worst (d - 1) (by omega) c4 x7 h) (fun r12 h11 => ?_)
      refine sx_istore (i := 8) (lc' := [(8, .int r12), (0, .ref 0), (3, .int c3), (4, .int c4), (5, .int x5), (6, .int x6), (7, .int x7)]) d_X10_ask_86 (by decide) rfl ?_
      refine sx_iload d_X10_ask_88 0 rfl ?_
      refine sx_iload d_X10_ask_90 5 rfl ?_
      refine sx_jn (fun j => ∀ (u16 : Int32) (u17 : Int32) (h : HH), Sx mi_X10_ask d iI (j u16 u17 h) 103 [(0, .ref 0), (3, .int c3), (4, .int c4), (5, .int u16), (6, .int u17), (7, .int x7)] [] h) ?_ ?_
      · intro u16 u17 h15
        refine sx_iincV (lc' := fun v18 => [(7, .int v18), (0, .ref 0), (3, .int c3), (4, .int c4), (5, .int u16), (6, .int u17)]) (k0 := 5) d_X10_ask_103 rfl ii1 (by decide) (fun _ => rfl) (fun v18 => ?_)
        refine sx_goto d_X10_ask_106 ?_
        refine sx_lc (lc' := [(0, .ref 0), (3, .int c3), (4, .int c4), (5, .int u16), (6, .int u17), (7, .int v18)]) [1, 2, 3, 4, 5, 0] rfl ?_
        exact ih u16 u17 v18 h15
      · intro j13 k14
        refine sx_icmp_ge d_X10_ask_92 ?_ ?_
        · refine sx_iload d_X10_ask_95 6 rfl ?_
          refine sx_istore (i := 5) (lc' := [(5, .int x7), (8, .int r12), (0, .ref 0), (3, .int c3), (4, .int c4), (6, .int x6), (7, .int x7)]) d_X10_ask_97 (by decide) rfl ?_
          refine sx_iload d_X10_ask_99 1 rfl ?_
          refine sx_istore (i := 6) (lc' := [(6, .int r12), (5, .int x7), (8, .int r12), (0, .ref 0), (3, .int c3), (4, .int c4), (7, .int x7)]) d_X10_ask_101 (by decide) rfl ?_
          refine sx_lc (lc' := [(0, .ref 0), (3, .int c3), (4, .int c4), (5, .int x7), (6, .int r12), (7, .int x7)]) [3, 4, 5, 1, 0, 6] rfl ?_
          exact k14 x7 r12 h11
        · refine sx_lc (lc' := [(0, .ref 0), (3, .int c3), (4, .int c4), (5, .int x5), (6, .int x6), (7, .int x7)]) [1, 2, 3, 4, 5, 6] rfl ?_
          exact k14 x5 x6 h11
set_option maxHeartbeats 4000000 in
set_option maxRecDepth 100000 in
theorem sp_X10_ask (d : Nat) (hd : 7 ≤ d) (a0 : Int32) (a1 : Int32) (a2 : Int32) (h : HH) : Sp mi_X10_ask d iI [.ref 0, .int a0, .int a1, .int a2] h (g_X10_ask a0 a1 a2 h) := by
  refine sp_of (lc := [(0, .ref 0), (1, .int a0), (2, .int a1), (3, .int a2)]) (by decide) (Nat.le_of_ble_eq_true rfl) rfl ?_
  unfold g_X10_ask
  refine sx_aload_n d_X10_ask_0 0 rfl ?_
  refine sx_iload_n d_X10_ask_1 1 rfl ?_
  refine sx_callV [.int a0] mv_X10_isPerson lM_StairCount_115 sh_0 (by omega) rfl rfl (Nat.le_of_ble_eq_true rfl) d_X10_ask_2 (sp_X10_isPerson (d - 1) (by omega) a0 h) (fun r2 h1 => ?_)
  refine sx_if_eq d_X10_ask_5 ?_ ?_
  · refine sx_iconst d_X10_ask_25 icm1 ?_
    exact sx_iret rfl d_X10_ask_26
  · refine sx_aload_n d_X10_ask_8 0 rfl ?_
    refine sx_iload_n d_X10_ask_9 2 rfl ?_
    refine sx_callV [.int a1] mv_X10_isFlight lM_StairCount_155 sh_0 (by omega) rfl rfl (Nat.le_of_ble_eq_true rfl) d_X10_ask_10 (sp_X10_isFlight (d - 1) (by omega) a1 h1) (fun r4 h3 => ?_)
    refine sx_if_eq d_X10_ask_13 ?_ ?_
    · refine sx_iconst d_X10_ask_25 icm1 ?_
      exact sx_iret rfl d_X10_ask_26
    · refine sx_iload_n d_X10_ask_16 3 rfl ?_
      refine sx_if_lt d_X10_ask_17 ?_ ?_
      · refine sx_iconst d_X10_ask_25 icm1 ?_
        exact sx_iret rfl d_X10_ask_26
      · refine sx_iload_n d_X10_ask_20 3 rfl ?_
        refine sx_iconst d_X10_ask_21 ic1 ?_
        refine sx_icmp_le d_X10_ask_22 ?_ ?_
        · refine sx_iconst d_X10_ask_25 icm1 ?_
          exact sx_iret rfl d_X10_ask_26
        · refine sx_aload_n d_X10_ask_27 0 rfl ?_
          refine sx_callV [] mv_X10_startGuess lM_StairCount_306 sh_0 (by omega) rfl rfl (Nat.le_of_ble_eq_true rfl) d_X10_ask_28 (sp_X10_startGuess (d - 1) (by omega) h3) (fun _ h5 => ?_)
          refine sx_aload_n d_X10_ask_31 0 rfl ?_
          refine sx_getF (a' := 225) fl_StairCount_61 sh_0 rfl rfl d_X10_ask_32 ?_
          refine sx_aload_n d_X10_ask_35 0 rfl ?_
          refine sx_getF (a' := 193) fl_StairCount_54 sh_0 rfl rfl d_X10_ask_36 ?_
          refine sx_aload_n d_X10_ask_39 0 rfl ?_
          refine sx_getF (a' := 186) fl_StairCount_47 sh_0 rfl rfl d_X10_ask_40 ?_
          refine sx_iload_n d_X10_ask_43 1 rfl ?_
          refine sx_iload_n d_X10_ask_44 2 rfl ?_
          refine sx_callV [.ref 193, .ref 186, .int a0, .int a1] mv_X1_possible lM_StairCount_309 sh_225 (by omega) rfl rfl (Nat.le_of_ble_eq_true rfl) d_X10_ask_45 (sp_X1_possible (d - 1) (by omega) a0 a1 h5) (fun r8 h7 => ?_)
          refine sx_istore (i := 4) (lc' := [(4, .int r8), (0, .ref 0), (1, .int a0), (2, .int a1), (3, .int a2)]) d_X10_ask_48 (by decide) rfl ?_
          refine sx_iconst d_X10_ask_50 ic1 ?_
          refine sx_istore (i := 5) (lc' := [(5, .int (1 : Int32)), (4, .int r8), (0, .ref 0), (1, .int a0), (2, .int a1), (3, .int a2)]) d_X10_ask_51 (by decide) rfl ?_
          refine sx_aload_n d_X10_ask_53 2 rfl ?_
          refine sx_getF (a' := 225) fl_StairCount_61 sh_0 rfl rfl d_X10_ask_54 ?_
          refine sx_iload d_X10_ask_57 1 rfl ?_
          refine sx_iconst d_X10_ask_59 ic1 ?_
          refine sx_callV [.int r8, .int (1 : Int32)] mv_X1_worst lM_StairCount_313 sh_225 (by omega) rfl rfl (Nat.le_of_ble_eq_true rfl) d_X10_ask_60 (sp_X1_worst (d - 1) (by omega) r8 (1 : Int32) h7) (fun r10 h9 => ?_)
          refine sx_istore (i := 6) (lc' := [(6, .int r10), (5, .int (1 : Int32)), (4, .int r8), (0, .ref 0), (1, .int a0), (2, .int a1), (3, .int a2)]) d_X10_ask_63 (by decide) rfl ?_
          refine sx_iconst d_X10_ask_65 ic2 ?_
          refine sx_istore (i := 7) (lc' := [(7, .int (2 : Int32)), (6, .int r10), (5, .int (1 : Int32)), (4, .int r8), (0, .ref 0), (1, .int a0), (2, .int a1), (3, .int a2)]) d_X10_ask_66 (by decide) rfl ?_
          refine sx_lc (lc' := [(0, .ref 0), (3, .int a2), (4, .int r8), (5, .int (1 : Int32)), (6, .int r10), (7, .int (2 : Int32))]) [4, 7, 3, 2, 1, 0] rfl ?_
          refine sL_X10_ask_68 d hd _ a2 r8 ?_ 1024 (1 : Int32) r10 (2 : Int32) h9
          · intro z20 z21 h19
            refine sx_iload_n d_X10_ask_109 0 rfl ?_
            refine sx_if_ne d_X10_ask_110 ?_ ?_
            · refine sx_iload d_X10_ask_113 1 rfl ?_
              refine sx_goto d_X10_ask_115 ?_
              exact sx_iret rfl d_X10_ask_120
            · refine sx_iload d_X10_ask_118 2 rfl ?_
              exact sx_iret rfl d_X10_ask_120
theorem d_X10_chance_0 : DC mi_X10_chance 0 (.iload_n 1) 1 1 := ⟨by decide +kernel, rfl⟩
theorem d_X10_chance_1 : DB mi_X10_chance 1 (.ifCond .lt 31) 31 4 32 := ⟨by decide +kernel, rfl, by decide⟩
theorem d_X10_chance_4 : DC mi_X10_chance 4 (.iload_n 2) 1 5 := ⟨by decide +kernel, rfl⟩
theorem d_X10_chance_5 : DC mi_X10_chance 5 (.iconst 1) 1 6 := ⟨by decide +kernel, rfl⟩
theorem d_X10_chance_6 : DB mi_X10_chance 6 (.if_icmp .lt 26) 26 9 32 := ⟨by decide +kernel, rfl, by decide⟩
theorem d_X10_chance_9 : DC mi_X10_chance 9 (.iload_n 2) 1 10 := ⟨by decide +kernel, rfl⟩
theorem d_X10_chance_10 : DC mi_X10_chance 10 (.bipush 99) 2 12 := ⟨by decide +kernel, rfl⟩
theorem d_X10_chance_12 : DB mi_X10_chance 12 (.if_icmp .gt 20) 20 15 32 := ⟨by decide +kernel, rfl, by decide⟩
theorem d_X10_chance_15 : DC mi_X10_chance 15 (.aload_n 0) 1 16 := ⟨by decide +kernel, rfl⟩
theorem d_X10_chance_16 : DC mi_X10_chance 16 (.iload_n 3) 1 17 := ⟨by decide +kernel, rfl⟩
theorem d_X10_chance_17 : DC mi_X10_chance 17 (.invokevirtual 115) 3 20 := ⟨by decide +kernel, rfl⟩
theorem d_X10_chance_20 : DB mi_X10_chance 20 (.ifCond .eq 12) 12 23 32 := ⟨by decide +kernel, rfl, by decide⟩
theorem d_X10_chance_23 : DC mi_X10_chance 23 (.aload_n 0) 1 24 := ⟨by decide +kernel, rfl⟩
theorem d_X10_chance_24 : DC mi_X10_chance 24 (.iload 4) 2 26 := ⟨by decide +kernel, rfl⟩
theorem d_X10_chance_26 : DC mi_X10_chance 26 (.invokevirtual 177) 3 29 := ⟨by decide +kernel, rfl⟩
theorem d_X10_chance_29 : DB mi_X10_chance 29 (.ifCond .ne 5) 5 32 34 := ⟨by decide +kernel, rfl, by decide⟩
theorem d_X10_chance_32 : DC mi_X10_chance 32 (.iconst (-1)) 1 33 := ⟨by decide +kernel, rfl⟩
theorem d_X10_chance_33 : DC mi_X10_chance 33 (.ireturn) 1 34 := ⟨by decide +kernel, rfl⟩
theorem d_X10_chance_34 : DC mi_X10_chance 34 (.iload_n 1) 1 35 := ⟨by decide +kernel, rfl⟩
theorem d_X10_chance_35 : DC mi_X10_chance 35 (.istore 5) 2 37 := ⟨by decide +kernel, rfl⟩
theorem d_X10_chance_37 : DC mi_X10_chance 37 (.iconst 0) 1 38 := ⟨by decide +kernel, rfl⟩
theorem d_X10_chance_38 : DC mi_X10_chance 38 (.istore 6) 2 40 := ⟨by decide +kernel, rfl⟩
theorem d_X10_chance_40 : DC mi_X10_chance 40 (.iconst 0) 1 41 := ⟨by decide +kernel, rfl⟩
theorem d_X10_chance_41 : DC mi_X10_chance 41 (.istore 7) 2 43 := ⟨by decide +kernel, rfl⟩
theorem d_X10_chance_43 : DC mi_X10_chance 43 (.iload 7) 2 45 := ⟨by decide +kernel, rfl⟩
theorem d_X10_chance_45 : DC mi_X10_chance 45 (.bipush 10) 2 47 := ⟨by decide +kernel, rfl⟩
theorem d_X10_chance_47 : DB mi_X10_chance 47 (.if_icmp .ge 53) 53 50 100 := ⟨by decide +kernel, rfl, by decide⟩
theorem d_X10_chance_50 : DC mi_X10_chance 50 (.aload_n 0) 1 51 := ⟨by decide +kernel, rfl⟩
theorem d_X10_chance_51 : DC mi_X10_chance 51 (.iconst 0) 1 52 := ⟨by decide +kernel, rfl⟩
theorem d_X10_chance_52 : DC mi_X10_chance 52 (.invokevirtual 253) 3 55 := ⟨by decide +kernel, rfl⟩
theorem d_X10_chance_55 : DC mi_X10_chance 55 (.astore 8) 2 57 := ⟨by decide +kernel, rfl⟩
theorem d_X10_chance_57 : DC mi_X10_chance 57 (.aload 8) 2 59 := ⟨by decide +kernel, rfl⟩
theorem d_X10_chance_59 : DC mi_X10_chance 59 (.iload 5) 2 61 := ⟨by decide +kernel, rfl⟩
theorem d_X10_chance_61 : DC mi_X10_chance 61 (.putfield 319) 3 64 := ⟨by decide +kernel, rfl⟩
theorem d_X10_chance_64 : DC mi_X10_chance 64 (.aload_n 0) 1 65 := ⟨by decide +kernel, rfl⟩
theorem d_X10_chance_65 : DC mi_X10_chance 65 (.getfield 54) 3 68 := ⟨by decide +kernel, rfl⟩
theorem d_X10_chance_68 : DC mi_X10_chance 68 (.iload_n 2) 1 69 := ⟨by decide +kernel, rfl⟩
theorem d_X10_chance_69 : DC mi_X10_chance 69 (.invokevirtual 243) 3 72 := ⟨by decide +kernel, rfl⟩
theorem d_X10_chance_72 : DC mi_X10_chance 72 (.aload 8) 2 74 := ⟨by decide +kernel, rfl⟩
theorem d_X10_chance_74 : DC mi_X10_chance 74 (.getfield 319) 3 77 := ⟨by decide +kernel, rfl⟩
theorem d_X10_chance_77 : DC mi_X10_chance 77 (.istore 5) 2 79 := ⟨by decide +kernel, rfl⟩
theorem d_X10_chance_79 : DC mi_X10_chance 79 (.aload 8) 2 81 := ⟨by decide +kernel, rfl⟩
theorem d_X10_chance_81 : DC mi_X10_chance 81 (.getfield 134) 3 84 := ⟨by decide +kernel, rfl⟩
theorem d_X10_chance_84 : DC mi_X10_chance 84 (.iload_n 3) 1 85 := ⟨by decide +kernel, rfl⟩
theorem d_X10_chance_85 : DC mi_X10_chance 85 (.iaload) 1 86 := ⟨by decide +kernel, rfl⟩
theorem d_X10_chance_86 : DC mi_X10_chance 86 (.iload 4) 2 88 := ⟨by decide +kernel, rfl⟩
theorem d_X10_chance_88 : DB mi_X10_chance 88 (.if_icmp .ne 6) 6 91 94 := ⟨by decide +kernel, rfl, by decide⟩
theorem d_X10_chance_91 : DC mi_X10_chance 91 (.iinc 6 1) 3 94 := ⟨by decide +kernel, rfl⟩
theorem d_X10_chance_94 : DC mi_X10_chance 94 (.iinc 7 1) 3 97 := ⟨by decide +kernel, rfl⟩
theorem d_X10_chance_97 : DB mi_X10_chance 97 (.goto (-54)) (-54) 100 43 := ⟨by decide +kernel, rfl, by decide⟩
theorem d_X10_chance_100 : DC mi_X10_chance 100 (.iload 6) 2 102 := ⟨by decide +kernel, rfl⟩
theorem d_X10_chance_102 : DC mi_X10_chance 102 (.ireturn) 1 103 := ⟨by decide +kernel, rfl⟩
set_option maxHeartbeats 4000000 in
set_option maxRecDepth 100000 in
theorem sL_X10_chance_43 (d : Nat) (hd : 7 ≤ d) (c2 : Int32) (c3 : Int32) (c4 : Int32) : ∀ (n : Nat) (x5 : Int32) (x6 : Int32) (x7 : Int32) (h : HH), Sx mi_X10_chance d iI (g_X10_chance_L43 c2 c3 c4 n x5 x6 x7 h) 43 [(0, .ref 0), (2, .int c2), (3, .int c3), (4, .int c4), (5, .int x5), (6, .int x6), (7, .int x7)] [] h := by
  intro n
  induction n with
  | zero => intro x5 x6 x7 h; exact sx_none
  | succ n ih =>
    intro x5 x6 x7 h
    rw [g_X10_chance_L43]
    refine sx_iload d_X10_chance_43 6 rfl ?_
    refine sx_bipush d_X10_chance_45 bc10 ?_
    refine sx_icmp_ge d_X10_chance_47 ?_ ?_
    · refine sx_aload_n d_X10_chance_50 0 rfl ?_
      refine sx_iconst d_X10_chance_51 ic0 ?_
      refine sx_callV [.int (0 : Int32)] mv_X10_startTrial lM_StairCount_253 sh_0 (by omega) rfl rfl (Nat.le_of_ble_eq_true rfl) d_X10_chance_52 (sp_X10_startTrial (d - 1) (by omega) (0 : Int32) h) (fun r6 h5 => ?_)
      refine sx_ckH (fun er6 => ?_)
      refine sx_astore (i := 8) (lc' := [(8, .ref r6), (0, .ref 0), (2, .int c2), (3, .int c3), (4, .int c4), (5, .int x5), (6, .int x6), (7, .int x7)]) d_X10_chance_55 (by decide) rfl ?_
      refine sx_aload d_X10_chance_57 0 rfl ?_
      refine sx_iload d_X10_chance_59 5 rfl ?_
      refine sx_putI fl_StairCount_319 er6 rfl hty_7_6 d_X10_chance_61 (fun h7 => ?_)
      refine sx_aload_n d_X10_chance_64 1 rfl ?_
      refine sx_getF (a' := 193) fl_StairCount_54 sh_0 rfl rfl d_X10_chance_65 ?_
      refine sx_iload_n d_X10_chance_68 2 rfl ?_
      refine sx_callV [.int c2] mv_X0_pass lM_StairCount_243 sh_193 (by omega) rfl rfl (Nat.le_of_ble_eq_true rfl) d_X10_chance_69 (sp_X0_pass (d - 1) (by omega) c2 h7) (fun _ h8 => ?_)
      refine sx_aload d_X10_chance_72 0 rfl ?_
      refine sx_getI fl_StairCount_319 er6 rfl d_X10_chance_74 (fun v10 => ?_)
      refine sx_istore (i := 5) (lc' := [(5, .int v10), (8, .ref r6), (0, .ref 0), (2, .int c2), (3, .int c3), (4, .int c4), (6, .int x6), (7, .int x7)]) d_X10_chance_77 (by decide) rfl ?_
      refine sx_aload d_X10_chance_79 1 rfl ?_
      refine sx_getF (a' := (r6 + 1)) fl_StairCount_134 er6 rfl rfl d_X10_chance_81 ?_
      refine sx_iload_n d_X10_chance_84 4 rfl ?_
      refine sx_iald (shf_7_0 er6) d_X10_chance_85 (fun v11 => ?_)
      refine sx_iload d_X10_chance_86 5 rfl ?_
      refine sx_jn (fun j => ∀ (u15 : Int32) (h : HH), Sx mi_X10_chance d iI (j u15 h) 94 [(0, .ref 0), (2, .int c2), (3, .int c3), (4, .int c4), (5, .int v10), (6, .int u15), (7, .int x7)] [] h) ?_ ?_
      · intro u15 h14
        refine sx_iincV (lc' := fun v16 => [(7, .int v16), (0, .ref 0), (2, .int c2), (3, .int c3), (4, .int c4), (5, .int v10), (6, .int u15)]) (k0 := 6) d_X10_chance_94 rfl ii1 (by decide) (fun _ => rfl) (fun v16 => ?_)
        refine sx_goto d_X10_chance_97 ?_
        refine sx_lc (lc' := [(0, .ref 0), (2, .int c2), (3, .int c3), (4, .int c4), (5, .int v10), (6, .int u15), (7, .int v16)]) [1, 2, 3, 4, 5, 6, 0] rfl ?_
        exact ih v10 u15 v16 h14
      · intro j12 k13
        refine sx_icmp_ne d_X10_chance_88 ?_ ?_
        · refine sx_iincV (lc' := fun v17 => [(6, .int v17), (5, .int v10), (8, .ref r6), (0, .ref 0), (2, .int c2), (3, .int c3), (4, .int c4), (7, .int x7)]) (k0 := 6) d_X10_chance_91 rfl ii1 (by decide) (fun _ => rfl) (fun v17 => ?_)
          refine sx_lc (lc' := [(0, .ref 0), (2, .int c2), (3, .int c3), (4, .int c4), (5, .int v10), (6, .int v17), (7, .int x7)]) [3, 4, 5, 6, 1, 0, 7] rfl ?_
          exact k13 v17 h8
        · refine sx_lc (lc' := [(0, .ref 0), (2, .int c2), (3, .int c3), (4, .int c4), (5, .int v10), (6, .int x6), (7, .int x7)]) [2, 3, 4, 5, 0, 6, 7] rfl ?_
          exact k13 x6 h8
    · refine sx_iload d_X10_chance_100 5 rfl ?_
      exact sx_iret rfl d_X10_chance_102
set_option maxHeartbeats 4000000 in
set_option maxRecDepth 100000 in
theorem sp_X10_chance (d : Nat) (hd : 7 ≤ d) (a0 : Int32) (a1 : Int32) (a2 : Int32) (a3 : Int32) (h : HH) : Sp mi_X10_chance d iI [.ref 0, .int a0, .int a1, .int a2, .int a3] h (g_X10_chance a0 a1 a2 a3 h) := by
  refine sp_of (lc := [(0, .ref 0), (1, .int a0), (2, .int a1), (3, .int a2), (4, .int a3)]) (by decide) (Nat.le_of_ble_eq_true rfl) rfl ?_
  unfold g_X10_chance
  refine sx_iload_n d_X10_chance_0 1 rfl ?_
  refine sx_if_lt d_X10_chance_1 ?_ ?_
  · refine sx_iconst d_X10_chance_32 icm1 ?_
    exact sx_iret rfl d_X10_chance_33
  · refine sx_iload_n d_X10_chance_4 2 rfl ?_
    refine sx_iconst d_X10_chance_5 ic1 ?_
    refine sx_icmp_lt d_X10_chance_6 ?_ ?_
    · refine sx_iconst d_X10_chance_32 icm1 ?_
      exact sx_iret rfl d_X10_chance_33
    · refine sx_iload_n d_X10_chance_9 2 rfl ?_
      refine sx_bipush d_X10_chance_10 bc99 ?_
      refine sx_icmp_gt d_X10_chance_12 ?_ ?_
      · refine sx_iconst d_X10_chance_32 icm1 ?_
        exact sx_iret rfl d_X10_chance_33
      · refine sx_aload_n d_X10_chance_15 0 rfl ?_
        refine sx_iload_n d_X10_chance_16 3 rfl ?_
        refine sx_callV [.int a2] mv_X10_isPerson lM_StairCount_115 sh_0 (by omega) rfl rfl (Nat.le_of_ble_eq_true rfl) d_X10_chance_17 (sp_X10_isPerson (d - 1) (by omega) a2 h) (fun r2 h1 => ?_)
        refine sx_if_eq d_X10_chance_20 ?_ ?_
        · refine sx_iconst d_X10_chance_32 icm1 ?_
          exact sx_iret rfl d_X10_chance_33
        · refine sx_aload_n d_X10_chance_23 0 rfl ?_
          refine sx_iload d_X10_chance_24 4 rfl ?_
          refine sx_callV [.int a3] mv_X10_isFloor lM_StairCount_177 sh_0 (by omega) rfl rfl (Nat.le_of_ble_eq_true rfl) d_X10_chance_26 (sp_X10_isFloor (d - 1) (by omega) a3 h1) (fun r4 h3 => ?_)
          refine sx_if_ne d_X10_chance_29 ?_ ?_
          · refine sx_iconst d_X10_chance_32 icm1 ?_
            exact sx_iret rfl d_X10_chance_33
          · refine sx_iload_n d_X10_chance_34 1 rfl ?_
            refine sx_istore (i := 5) (lc' := [(5, .int a0), (0, .ref 0), (1, .int a0), (2, .int a1), (3, .int a2), (4, .int a3)]) d_X10_chance_35 (by decide) rfl ?_
            refine sx_iconst d_X10_chance_37 ic0 ?_
            refine sx_istore (i := 6) (lc' := [(6, .int (0 : Int32)), (5, .int a0), (0, .ref 0), (1, .int a0), (2, .int a1), (3, .int a2), (4, .int a3)]) d_X10_chance_38 (by decide) rfl ?_
            refine sx_iconst d_X10_chance_40 ic0 ?_
            refine sx_istore (i := 7) (lc' := [(7, .int (0 : Int32)), (6, .int (0 : Int32)), (5, .int a0), (0, .ref 0), (1, .int a0), (2, .int a1), (3, .int a2), (4, .int a3)]) d_X10_chance_41 (by decide) rfl ?_
            refine sx_lc (lc' := [(0, .ref 0), (2, .int a1), (3, .int a2), (4, .int a3), (5, .int a0), (6, .int (0 : Int32)), (7, .int (0 : Int32))]) [3, 5, 6, 7, 2, 1, 0] rfl ?_
            refine sL_X10_chance_43 d hd a1 a2 a3 1024 a0 (0 : Int32) (0 : Int32) h3
theorem d_X10_tried_0 : DC mi_X10_tried 0 (.iload_n 1) 1 1 := ⟨by decide +kernel, rfl⟩
theorem d_X10_tried_1 : DC mi_X10_tried 1 (.iconst 2) 1 2 := ⟨by decide +kernel, rfl⟩
theorem d_X10_tried_2 : DB mi_X10_tried 2 (.if_icmp .ne 11) 11 5 13 := ⟨by decide +kernel, rfl, by decide⟩
theorem d_X10_tried_5 : DC mi_X10_tried 5 (.aload_n 0) 1 6 := ⟨by decide +kernel, rfl⟩
theorem d_X10_tried_6 : DC mi_X10_tried 6 (.iload_n 2) 1 7 := ⟨by decide +kernel, rfl⟩
theorem d_X10_tried_7 : DC mi_X10_tried 7 (.invokevirtual 115) 3 10 := ⟨by decide +kernel, rfl⟩
theorem d_X10_tried_10 : DB mi_X10_tried 10 (.goto 12) 12 13 22 := ⟨by decide +kernel, rfl, by decide⟩
theorem d_X10_tried_13 : DC mi_X10_tried 13 (.iload_n 2) 1 14 := ⟨by decide +kernel, rfl⟩
theorem d_X10_tried_14 : DB mi_X10_tried 14 (.ifCond .ne 7) 7 17 21 := ⟨by decide +kernel, rfl, by decide⟩
theorem d_X10_tried_17 : DC mi_X10_tried 17 (.iconst 1) 1 18 := ⟨by decide +kernel, rfl⟩
theorem d_X10_tried_18 : DB mi_X10_tried 18 (.goto 4) 4 21 22 := ⟨by decide +kernel, rfl, by decide⟩
theorem d_X10_tried_21 : DC mi_X10_tried 21 (.iconst 0) 1 22 := ⟨by decide +kernel, rfl⟩
theorem d_X10_tried_22 : DC mi_X10_tried 22 (.istore 4) 2 24 := ⟨by decide +kernel, rfl⟩
theorem d_X10_tried_24 : DC mi_X10_tried 24 (.iload_n 1) 1 25 := ⟨by decide +kernel, rfl⟩
theorem d_X10_tried_25 : DB mi_X10_tried 25 (.ifCond .lt 24) 24 28 49 := ⟨by decide +kernel, rfl, by decide⟩
theorem d_X10_tried_28 : DC mi_X10_tried 28 (.iload_n 1) 1 29 := ⟨by decide +kernel, rfl⟩
theorem d_X10_tried_29 : DC mi_X10_tried 29 (.iconst 4) 1 30 := ⟨by decide +kernel, rfl⟩
theorem d_X10_tried_30 : DB mi_X10_tried 30 (.if_icmp .gt 19) 19 33 49 := ⟨by decide +kernel, rfl, by decide⟩
theorem d_X10_tried_33 : DC mi_X10_tried 33 (.iload 4) 2 35 := ⟨by decide +kernel, rfl⟩
theorem d_X10_tried_35 : DB mi_X10_tried 35 (.ifCond .eq 14) 14 38 49 := ⟨by decide +kernel, rfl, by decide⟩
theorem d_X10_tried_38 : DC mi_X10_tried 38 (.iload_n 3) 1 39 := ⟨by decide +kernel, rfl⟩
theorem d_X10_tried_39 : DB mi_X10_tried 39 (.ifCond .lt 10) 10 42 49 := ⟨by decide +kernel, rfl, by decide⟩
theorem d_X10_tried_42 : DC mi_X10_tried 42 (.iload_n 3) 1 43 := ⟨by decide +kernel, rfl⟩
theorem d_X10_tried_43 : DC mi_X10_tried 43 (.sipush 200) 3 46 := ⟨by decide +kernel, rfl⟩
theorem d_X10_tried_46 : DB mi_X10_tried 46 (.if_icmp .le 5) 5 49 51 := ⟨by decide +kernel, rfl, by decide⟩
theorem d_X10_tried_49 : DC mi_X10_tried 49 (.iconst (-1)) 1 50 := ⟨by decide +kernel, rfl⟩
theorem d_X10_tried_50 : DC mi_X10_tried 50 (.ireturn) 1 51 := ⟨by decide +kernel, rfl⟩
theorem d_X10_tried_51 : DC mi_X10_tried 51 (.aload_n 0) 1 52 := ⟨by decide +kernel, rfl⟩
theorem d_X10_tried_52 : DC mi_X10_tried 52 (.iload_n 1) 1 53 := ⟨by decide +kernel, rfl⟩
theorem d_X10_tried_53 : DB mi_X10_tried 53 (.ifCond .ne 7) 7 56 60 := ⟨by decide +kernel, rfl, by decide⟩
theorem d_X10_tried_56 : DC mi_X10_tried 56 (.iconst 2) 1 57 := ⟨by decide +kernel, rfl⟩
theorem d_X10_tried_57 : DB mi_X10_tried 57 (.goto 4) 4 60 61 := ⟨by decide +kernel, rfl, by decide⟩
theorem d_X10_tried_60 : DC mi_X10_tried 60 (.iconst 1) 1 61 := ⟨by decide +kernel, rfl⟩
theorem d_X10_tried_61 : DC mi_X10_tried 61 (.invokevirtual 253) 3 64 := ⟨by decide +kernel, rfl⟩
theorem d_X10_tried_64 : DC mi_X10_tried 64 (.astore 5) 2 66 := ⟨by decide +kernel, rfl⟩
theorem d_X10_tried_66 : DC mi_X10_tried 66 (.iload_n 1) 1 67 := ⟨by decide +kernel, rfl⟩
theorem d_X10_tried_67 : DC mi_X10_tried 67 (.iconst 1) 1 68 := ⟨by decide +kernel, rfl⟩
theorem d_X10_tried_68 : DB mi_X10_tried 68 (.if_icmp .ne 12) 12 71 80 := ⟨by decide +kernel, rfl, by decide⟩
theorem d_X10_tried_71 : DC mi_X10_tried 71 (.aload 5) 2 73 := ⟨by decide +kernel, rfl⟩
theorem d_X10_tried_73 : DC mi_X10_tried 73 (.getfield 161) 3 76 := ⟨by decide +kernel, rfl⟩
theorem d_X10_tried_76 : DC mi_X10_tried 76 (.iconst 0) 1 77 := ⟨by decide +kernel, rfl⟩
theorem d_X10_tried_77 : DC mi_X10_tried 77 (.invokestatic 322) 3 80 := ⟨by decide +kernel, rfl⟩
theorem d_X10_tried_80 : DC mi_X10_tried 80 (.aload_n 0) 1 81 := ⟨by decide +kernel, rfl⟩
theorem d_X10_tried_81 : DC mi_X10_tried 81 (.getfield 54) 3 84 := ⟨by decide +kernel, rfl⟩
theorem d_X10_tried_84 : DC mi_X10_tried 84 (.iload_n 1) 1 85 := ⟨by decide +kernel, rfl⟩
theorem d_X10_tried_85 : DC mi_X10_tried 85 (.iconst 2) 1 86 := ⟨by decide +kernel, rfl⟩
theorem d_X10_tried_86 : DB mi_X10_tried 86 (.if_icmp .ne 7) 7 89 93 := ⟨by decide +kernel, rfl, by decide⟩
theorem d_X10_tried_89 : DC mi_X10_tried 89 (.iload_n 2) 1 90 := ⟨by decide +kernel, rfl⟩
theorem d_X10_tried_90 : DB mi_X10_tried 90 (.goto 4) 4 93 94 := ⟨by decide +kernel, rfl, by decide⟩
theorem d_X10_tried_93 : DC mi_X10_tried 93 (.iconst (-1)) 1 94 := ⟨by decide +kernel, rfl⟩
theorem d_X10_tried_94 : DC mi_X10_tried 94 (.putfield 328) 3 97 := ⟨by decide +kernel, rfl⟩
theorem d_X10_tried_97 : DC mi_X10_tried 97 (.aload_n 0) 1 98 := ⟨by decide +kernel, rfl⟩
theorem d_X10_tried_98 : DC mi_X10_tried 98 (.getfield 54) 3 101 := ⟨by decide +kernel, rfl⟩
theorem d_X10_tried_101 : DC mi_X10_tried 101 (.iload_n 1) 1 102 := ⟨by decide +kernel, rfl⟩
theorem d_X10_tried_102 : DC mi_X10_tried 102 (.iconst 3) 1 103 := ⟨by decide +kernel, rfl⟩
theorem d_X10_tried_103 : DB mi_X10_tried 103 (.if_icmp .ne 7) 7 106 110 := ⟨by decide +kernel, rfl, by decide⟩
theorem d_X10_tried_106 : DC mi_X10_tried 106 (.iconst 1) 1 107 := ⟨by decide +kernel, rfl⟩
theorem d_X10_tried_107 : DB mi_X10_tried 107 (.goto 4) 4 110 111 := ⟨by decide +kernel, rfl, by decide⟩
theorem d_X10_tried_110 : DC mi_X10_tried 110 (.iconst 0) 1 111 := ⟨by decide +kernel, rfl⟩
theorem d_X10_tried_111 : DC mi_X10_tried 111 (.putfield 331) 3 114 := ⟨by decide +kernel, rfl⟩
theorem d_X10_tried_114 : DC mi_X10_tried 114 (.aload_n 0) 1 115 := ⟨by decide +kernel, rfl⟩
theorem d_X10_tried_115 : DC mi_X10_tried 115 (.getfield 54) 3 118 := ⟨by decide +kernel, rfl⟩
theorem d_X10_tried_118 : DC mi_X10_tried 118 (.iload_n 1) 1 119 := ⟨by decide +kernel, rfl⟩
theorem d_X10_tried_119 : DC mi_X10_tried 119 (.iconst 4) 1 120 := ⟨by decide +kernel, rfl⟩
theorem d_X10_tried_120 : DB mi_X10_tried 120 (.if_icmp .ne 13) 13 123 133 := ⟨by decide +kernel, rfl, by decide⟩
theorem d_X10_tried_123 : DC mi_X10_tried 123 (.aload_n 0) 1 124 := ⟨by decide +kernel, rfl⟩
theorem d_X10_tried_124 : DC mi_X10_tried 124 (.getfield 54) 3 127 := ⟨by decide +kernel, rfl⟩
theorem d_X10_tried_127 : DC mi_X10_tried 127 (.getfield 334) 3 130 := ⟨by decide +kernel, rfl⟩
theorem d_X10_tried_130 : DB mi_X10_tried 130 (.goto 10) 10 133 140 := ⟨by decide +kernel, rfl, by decide⟩
theorem d_X10_tried_133 : DC mi_X10_tried 133 (.aload_n 0) 1 134 := ⟨by decide +kernel, rfl⟩
theorem d_X10_tried_134 : DC mi_X10_tried 134 (.getfield 16) 3 137 := ⟨by decide +kernel, rfl⟩
theorem d_X10_tried_137 : DC mi_X10_tried 137 (.getfield 138) 3 140 := ⟨by decide +kernel, rfl⟩
theorem d_X10_tried_140 : DC mi_X10_tried 140 (.putfield 337) 3 143 := ⟨by decide +kernel, rfl⟩
theorem d_X10_tried_143 : DC mi_X10_tried 143 (.aload_n 0) 1 144 := ⟨by decide +kernel, rfl⟩
theorem d_X10_tried_144 : DC mi_X10_tried 144 (.getfield 54) 3 147 := ⟨by decide +kernel, rfl⟩
theorem d_X10_tried_147 : DC mi_X10_tried 147 (.iload_n 3) 1 148 := ⟨by decide +kernel, rfl⟩
theorem d_X10_tried_148 : DC mi_X10_tried 148 (.invokevirtual 243) 3 151 := ⟨by decide +kernel, rfl⟩
theorem d_X10_tried_151 : DC mi_X10_tried 151 (.aload 5) 2 153 := ⟨by decide +kernel, rfl⟩
theorem d_X10_tried_153 : DC mi_X10_tried 153 (.getfield 134) 3 156 := ⟨by decide +kernel, rfl⟩
theorem d_X10_tried_156 : DC mi_X10_tried 156 (.invokestatic 225) 3 159 := ⟨by decide +kernel, rfl⟩
theorem d_X10_tried_159 : DC mi_X10_tried 159 (.ireturn) 1 160 := ⟨by decide +kernel, rfl⟩
set_option maxHeartbeats 4000000 in
set_option maxRecDepth 100000 in
theorem sp_X10_tried (d : Nat) (hd : 7 ≤ d) (a0 : Int32) (a1 : Int32) (a2 : Int32) (h : HH) : Sp mi_X10_tried d iI [.ref 0, .int a0, .int a1, .int a2] h (g_X10_tried a0 a1 a2 h) := by
  refine sp_of (lc := [(0, .ref 0), (1, .int a0), (2, .int a1), (3, .int a2)]) (by decide) (Nat.le_of_ble_eq_true rfl) rfl ?_
  unfold g_X10_tried
  refine sx_iload_n d_X10_tried_0 1 rfl ?_
  refine sx_iconst d_X10_tried_1 ic2 ?_
  refine sx_jn (fun j => ∀ (y4 : Int32) (h : HH), Sx mi_X10_tried d iI (j y4 h) 22 [(0, .ref 0), (1, .int a0), (2, .int a1), (3, .int a2)] [.int y4] h) ?_ ?_
  · intro y4 h3
    refine sx_istore (i := 4) (lc' := [(4, .int y4), (0, .ref 0), (1, .int a0), (2, .int a1), (3, .int a2)]) d_X10_tried_22 (by decide) rfl ?_
    refine sx_iload_n d_X10_tried_24 2 rfl ?_
    refine sx_if_lt d_X10_tried_25 ?_ ?_
    · refine sx_iconst d_X10_tried_49 icm1 ?_
      exact sx_iret rfl d_X10_tried_50
    · refine sx_iload_n d_X10_tried_28 2 rfl ?_
      refine sx_iconst d_X10_tried_29 ic4 ?_
      refine sx_icmp_gt d_X10_tried_30 ?_ ?_
      · refine sx_iconst d_X10_tried_49 icm1 ?_
        exact sx_iret rfl d_X10_tried_50
      · refine sx_iload d_X10_tried_33 0 rfl ?_
        refine sx_if_eq d_X10_tried_35 ?_ ?_
        · refine sx_iconst d_X10_tried_49 icm1 ?_
          exact sx_iret rfl d_X10_tried_50
        · refine sx_iload_n d_X10_tried_38 4 rfl ?_
          refine sx_if_lt d_X10_tried_39 ?_ ?_
          · refine sx_iconst d_X10_tried_49 icm1 ?_
            exact sx_iret rfl d_X10_tried_50
          · refine sx_iload_n d_X10_tried_42 4 rfl ?_
            refine sx_sipush d_X10_tried_43 sc200 ?_
            refine sx_icmp_le d_X10_tried_46 ?_ ?_
            · refine sx_iconst d_X10_tried_49 icm1 ?_
              exact sx_iret rfl d_X10_tried_50
            · refine sx_aload_n d_X10_tried_51 1 rfl ?_
              refine sx_iload_n d_X10_tried_52 2 rfl ?_
              refine sx_jn (fun j => ∀ (y8 : Int32) (h : HH), Sx mi_X10_tried d iI (j y8 h) 61 [(0, .ref 0), (1, .int a0), (2, .int a1), (3, .int a2)] [.int y8, .ref 0] h) ?_ ?_
              · intro y8 h7
                refine sx_callV [.int y8] mv_X10_startTrial lM_StairCount_253 sh_0 (by omega) rfl rfl (Nat.le_of_ble_eq_true rfl) d_X10_tried_61 (sp_X10_startTrial (d - 1) (by omega) y8 h7) (fun r10 h9 => ?_)
                refine sx_ckH (fun er10 => ?_)
                refine sx_astore (i := 5) (lc' := [(5, .ref r10), (0, .ref 0), (1, .int a0), (2, .int a1), (3, .int a2)]) d_X10_tried_64 (by decide) rfl ?_
                refine sx_iload_n d_X10_tried_66 2 rfl ?_
                refine sx_iconst d_X10_tried_67 ic1 ?_
                refine sx_jn (fun j => ∀  (h : HH), Sx mi_X10_tried d iI (j  h) 80 [(0, .ref 0), (1, .int a0), (2, .int a1), (3, .int a2), (5, .ref r10)] [] h) ?_ ?_
                · intro  h13
                  refine sx_aload_n d_X10_tried_80 0 rfl ?_
                  refine sx_getF (a' := 193) fl_StairCount_54 sh_0 rfl rfl d_X10_tried_81 ?_
                  refine sx_iload_n d_X10_tried_84 1 rfl ?_
                  refine sx_iconst d_X10_tried_85 ic2 ?_
                  refine sx_jn (fun j => ∀ (y17 : Int32) (h : HH), Sx mi_X10_tried d iI (j y17 h) 94 [(0, .ref 0), (1, .int a0), (3, .int a2), (5, .ref r10)] [.int y17, .ref 193] h) ?_ ?_
                  · intro y17 h16
                    refine sx_putI fl_StairCount_328 sh_193 rfl hty_0_7 d_X10_tried_94 (fun h18 => ?_)
                    refine sx_aload_n d_X10_tried_97 0 rfl ?_
                    refine sx_getF (a' := 193) fl_StairCount_54 sh_0 rfl rfl d_X10_tried_98 ?_
                    refine sx_iload_n d_X10_tried_101 1 rfl ?_
                    refine sx_iconst d_X10_tried_102 ic3 ?_
                    refine sx_jn (fun j => ∀ (y22 : Int32) (h : HH), Sx mi_X10_tried d iI (j y22 h) 111 [(0, .ref 0), (1, .int a0), (3, .int a2), (5, .ref r10)] [.int y22, .ref 193] h) ?_ ?_
                    · intro y22 h21
                      refine sx_ckZ (fun e34 => ?_)
                      refine sx_putZ e34 fl_StairCount_331 sh_193 rfl hty_0_8 d_X10_tried_111 (fun h23 => ?_)
                      refine sx_aload_n d_X10_tried_114 0 rfl ?_
                      refine sx_getF (a' := 193) fl_StairCount_54 sh_0 rfl rfl d_X10_tried_115 ?_
                      refine sx_iload_n d_X10_tried_118 1 rfl ?_
                      refine sx_iconst d_X10_tried_119 ic4 ?_
                      refine sx_jn (fun j => ∀ (y27 : Nat) (h : HH), Sx mi_X10_tried d iI (j y27 h) 140 [(0, .ref 0), (3, .int a2), (5, .ref r10)] [.ref y27, .ref 193] h) ?_ ?_
                      · intro y27 h26
                        refine sx_ckH (fun ey27 => ?_)
                        refine sx_putR (ty := (.array .int)) fl_StairCount_337 sh_193 rfl hty_0_10 (fun _ => ⟨rfl, rfl⟩) rfl d_X10_tried_140 (fun h28 => ?_)
                        refine sx_aload_n d_X10_tried_143 0 rfl ?_
                        refine sx_getF (a' := 193) fl_StairCount_54 sh_0 rfl rfl d_X10_tried_144 ?_
                        refine sx_iload_n d_X10_tried_147 1 rfl ?_
                        refine sx_callV [.int a2] mv_X0_pass lM_StairCount_243 sh_193 (by omega) rfl rfl (Nat.le_of_ble_eq_true rfl) d_X10_tried_148 (sp_X0_pass (d - 1) (by omega) a2 h28) (fun _ h29 => ?_)
                        refine sx_aload d_X10_tried_151 2 rfl ?_
                        refine sx_getF (a' := (r10 + 1)) fl_StairCount_134 er10 rfl rfl d_X10_tried_153 ?_
                        refine sx_callS [.ref (r10 + 1)] ms_X7_sumOf lM_StairCount_225 (by omega) rfl rfl (Nat.le_of_ble_eq_true rfl) d_X10_tried_156 (sp_X7_sumOf (d - 1) (by omega) (r10 + 1) h29) (fun r32 h31 => ?_)
                        exact sx_iret rfl d_X10_tried_159
                      · intro j24 k25
                        refine sx_icmp_ne d_X10_tried_120 ?_ ?_
                        · refine sx_aload_n d_X10_tried_123 0 rfl ?_
                          refine sx_getF (a' := 193) fl_StairCount_54 sh_0 rfl rfl d_X10_tried_124 ?_
                          refine sx_getF (a' := 224) fl_StairCount_334 sh_193 rfl rfl d_X10_tried_127 ?_
                          refine sx_goto d_X10_tried_130 ?_
                          refine sx_lc (lc' := [(0, .ref 0), (3, .int a2), (5, .ref r10)]) [0, 2, 3] rfl ?_
                          exact k25 224 h23
                        · refine sx_aload_n d_X10_tried_133 0 rfl ?_
                          refine sx_getR fl_StairCount_16 sh_0 rfl d_X10_tried_134 (fun p33 => ?_)
                          refine sx_ckH (fun ep33 => ?_)
                          refine sx_getF (a' := (p33 + 3)) fl_StairCount_138 ep33 rfl rfl d_X10_tried_137 ?_
                          refine sx_lc (lc' := [(0, .ref 0), (3, .int a2), (5, .ref r10)]) [0, 2, 3] rfl ?_
                          exact k25 (p33 + 3) h23
                    · intro j19 k20
                      refine sx_icmp_ne d_X10_tried_103 ?_ ?_
                      · refine sx_iconst d_X10_tried_106 ic1 ?_
                        refine sx_goto d_X10_tried_107 ?_
                        exact k20 (1 : Int32) h18
                      · refine sx_iconst d_X10_tried_110 ic0 ?_
                        exact k20 (0 : Int32) h18
                  · intro j14 k15
                    refine sx_icmp_ne d_X10_tried_86 ?_ ?_
                    · refine sx_iload_n d_X10_tried_89 2 rfl ?_
                      refine sx_goto d_X10_tried_90 ?_
                      refine sx_lc (lc' := [(0, .ref 0), (1, .int a0), (3, .int a2), (5, .ref r10)]) [0, 1, 3, 4] rfl ?_
                      exact k15 a1 h13
                    · refine sx_iconst d_X10_tried_93 icm1 ?_
                      refine sx_lc (lc' := [(0, .ref 0), (1, .int a0), (3, .int a2), (5, .ref r10)]) [0, 1, 3, 4] rfl ?_
                      exact k15 (-1 : Int32) h13
                · intro j11 k12
                  refine sx_icmp_ne d_X10_tried_68 ?_ ?_
                  · refine sx_aload d_X10_tried_71 0 rfl ?_
                    refine sx_getF (a' := (r10 + 5)) fl_StairCount_161 er10 rfl rfl d_X10_tried_73 ?_
                    refine sx_iconst d_X10_tried_76 ic0 ?_
                    refine sx_callS [.ref (r10 + 5), .int (0 : Int32)] ms_J7_fill_53178 lM_StairCount_322 (by omega) rfl rfl (Nat.le_of_ble_eq_true rfl) d_X10_tried_77 (sp_J7_fill_53178 (d - 1) (by omega) (r10 + 5) (0 : Int32) h9) (fun _ h35 => ?_)
                    refine sx_lc (lc' := [(0, .ref 0), (1, .int a0), (2, .int a1), (3, .int a2), (5, .ref r10)]) [1, 2, 3, 4, 0] rfl ?_
                    exact k12 h35
                  · refine sx_lc (lc' := [(0, .ref 0), (1, .int a0), (2, .int a1), (3, .int a2), (5, .ref r10)]) [1, 2, 3, 4, 0] rfl ?_
                    exact k12 h9
              · intro j5 k6
                refine sx_if_ne d_X10_tried_53 ?_ ?_
                · refine sx_iconst d_X10_tried_56 ic2 ?_
                  refine sx_goto d_X10_tried_57 ?_
                  refine sx_lc (lc' := [(0, .ref 0), (1, .int a0), (2, .int a1), (3, .int a2)]) [1, 2, 3, 4] rfl ?_
                  exact k6 (2 : Int32) h3
                · refine sx_iconst d_X10_tried_60 ic1 ?_
                  refine sx_lc (lc' := [(0, .ref 0), (1, .int a0), (2, .int a1), (3, .int a2)]) [1, 2, 3, 4] rfl ?_
                  exact k6 (1 : Int32) h3
  · intro j1 k2
    refine sx_icmp_ne d_X10_tried_2 ?_ ?_
    · refine sx_aload_n d_X10_tried_5 0 rfl ?_
      refine sx_iload_n d_X10_tried_6 2 rfl ?_
      refine sx_callV [.int a1] mv_X10_isPerson lM_StairCount_115 sh_0 (by omega) rfl rfl (Nat.le_of_ble_eq_true rfl) d_X10_tried_7 (sp_X10_isPerson (d - 1) (by omega) a1 h) (fun r38 h37 => ?_)
      refine sx_goto d_X10_tried_10 ?_
      exact k2 r38 h37
    · refine sx_iload_n d_X10_tried_13 2 rfl ?_
      refine sx_if_ne d_X10_tried_14 ?_ ?_
      · refine sx_iconst d_X10_tried_17 ic1 ?_
        refine sx_goto d_X10_tried_18 ?_
        exact k2 (1 : Int32) h
      · refine sx_iconst d_X10_tried_21 ic0 ?_
        exact k2 (0 : Int32) h
theorem d_X11_thrown_0 : DC mi_X11_thrown 0 (.aload_n 0) 1 1 := ⟨by decide +kernel, rfl⟩
theorem d_X11_thrown_1 : DC mi_X11_thrown 1 (.getfield 148) 3 4 := ⟨by decide +kernel, rfl⟩
theorem d_X11_thrown_4 : DC mi_X11_thrown 4 (.ireturn) 1 5 := ⟨by decide +kernel, rfl⟩
set_option maxHeartbeats 4000000 in
set_option maxRecDepth 100000 in
theorem sp_X11_thrown (d : Nat) (hd : 0 ≤ d) (h : HH) : Sp mi_X11_thrown d iI [.ref 255] h (g_X11_thrown h) := by
  refine sp_of (lc := [(0, .ref 255)]) (by decide) (Nat.le_of_ble_eq_true rfl) rfl ?_
  unfold g_X11_thrown
  refine sx_aload_n d_X11_thrown_0 0 rfl ?_
  refine sx_getI fl_StairCountModel_148 sh_255 rfl d_X11_thrown_1 (fun v1 => ?_)
  exact sx_iret rfl d_X11_thrown_4
theorem d_X11_feed_0 : DC mi_X11_feed 0 (.aload_n 0) 1 1 := ⟨by decide +kernel, rfl⟩
theorem d_X11_feed_1 : DC mi_X11_feed 1 (.iconst 0) 1 2 := ⟨by decide +kernel, rfl⟩
theorem d_X11_feed_2 : DC mi_X11_feed 2 (.putfield 148) 3 5 := ⟨by decide +kernel, rfl⟩
theorem d_X11_feed_5 : DC mi_X11_feed 5 (.aload_n 0) 1 6 := ⟨by decide +kernel, rfl⟩
theorem d_X11_feed_6 : DC mi_X11_feed 6 (.getfield 151) 3 9 := ⟨by decide +kernel, rfl⟩
theorem d_X11_feed_9 : DC mi_X11_feed 9 (.sipush 680) 3 12 := ⟨by decide +kernel, rfl⟩
theorem d_X11_feed_12 : DB mi_X11_feed 12 (.if_icmp .le 5) 5 15 17 := ⟨by decide +kernel, rfl, by decide⟩
theorem d_X11_feed_15 : DC mi_X11_feed 15 (.iconst (-1)) 1 16 := ⟨by decide +kernel, rfl⟩
theorem d_X11_feed_16 : DC mi_X11_feed 16 (.ireturn) 1 17 := ⟨by decide +kernel, rfl⟩
theorem d_X11_feed_17 : DC mi_X11_feed 17 (.iconst 0) 1 18 := ⟨by decide +kernel, rfl⟩
theorem d_X11_feed_18 : DC mi_X11_feed 18 (.istore 6) 2 20 := ⟨by decide +kernel, rfl⟩
theorem d_X11_feed_20 : DC mi_X11_feed 20 (.iload 6) 2 22 := ⟨by decide +kernel, rfl⟩
theorem d_X11_feed_22 : DC mi_X11_feed 22 (.bipush 20) 2 24 := ⟨by decide +kernel, rfl⟩
theorem d_X11_feed_24 : DB mi_X11_feed 24 (.if_icmp .ge 86) 86 27 110 := ⟨by decide +kernel, rfl, by decide⟩
theorem d_X11_feed_27 : DC mi_X11_feed 27 (.iload 6) 2 29 := ⟨by decide +kernel, rfl⟩
theorem d_X11_feed_29 : DC mi_X11_feed 29 (.iconst 4) 1 30 := ⟨by decide +kernel, rfl⟩
theorem d_X11_feed_30 : DB mi_X11_feed 30 (.if_icmp .ge 7) 7 33 37 := ⟨by decide +kernel, rfl, by decide⟩
theorem d_X11_feed_33 : DC mi_X11_feed 33 (.iload_n 1) 1 34 := ⟨by decide +kernel, rfl⟩
theorem d_X11_feed_34 : DB mi_X11_feed 34 (.goto 39) 39 37 73 := ⟨by decide +kernel, rfl, by decide⟩
theorem d_X11_feed_37 : DC mi_X11_feed 37 (.iload 6) 2 39 := ⟨by decide +kernel, rfl⟩
theorem d_X11_feed_39 : DC mi_X11_feed 39 (.bipush 8) 2 41 := ⟨by decide +kernel, rfl⟩
theorem d_X11_feed_41 : DB mi_X11_feed 41 (.if_icmp .ge 7) 7 44 48 := ⟨by decide +kernel, rfl, by decide⟩
theorem d_X11_feed_44 : DC mi_X11_feed 44 (.iload_n 2) 1 45 := ⟨by decide +kernel, rfl⟩
theorem d_X11_feed_45 : DB mi_X11_feed 45 (.goto 28) 28 48 73 := ⟨by decide +kernel, rfl, by decide⟩
theorem d_X11_feed_48 : DC mi_X11_feed 48 (.iload 6) 2 50 := ⟨by decide +kernel, rfl⟩
theorem d_X11_feed_50 : DC mi_X11_feed 50 (.bipush 12) 2 52 := ⟨by decide +kernel, rfl⟩
theorem d_X11_feed_52 : DB mi_X11_feed 52 (.if_icmp .ge 7) 7 55 59 := ⟨by decide +kernel, rfl, by decide⟩
theorem d_X11_feed_55 : DC mi_X11_feed 55 (.iload_n 3) 1 56 := ⟨by decide +kernel, rfl⟩
theorem d_X11_feed_56 : DB mi_X11_feed 56 (.goto 17) 17 59 73 := ⟨by decide +kernel, rfl, by decide⟩
theorem d_X11_feed_59 : DC mi_X11_feed 59 (.iload 6) 2 61 := ⟨by decide +kernel, rfl⟩
theorem d_X11_feed_61 : DC mi_X11_feed 61 (.bipush 16) 2 63 := ⟨by decide +kernel, rfl⟩
theorem d_X11_feed_63 : DB mi_X11_feed 63 (.if_icmp .ge 8) 8 66 71 := ⟨by decide +kernel, rfl, by decide⟩
theorem d_X11_feed_66 : DC mi_X11_feed 66 (.iload 4) 2 68 := ⟨by decide +kernel, rfl⟩
theorem d_X11_feed_68 : DB mi_X11_feed 68 (.goto 5) 5 71 73 := ⟨by decide +kernel, rfl, by decide⟩
theorem d_X11_feed_71 : DC mi_X11_feed 71 (.iload 5) 2 73 := ⟨by decide +kernel, rfl⟩
theorem d_X11_feed_73 : DC mi_X11_feed 73 (.istore 7) 2 75 := ⟨by decide +kernel, rfl⟩
theorem d_X11_feed_75 : DC mi_X11_feed 75 (.aload_n 0) 1 76 := ⟨by decide +kernel, rfl⟩
theorem d_X11_feed_76 : DC mi_X11_feed 76 (.getfield 7) 3 79 := ⟨by decide +kernel, rfl⟩
theorem d_X11_feed_79 : DC mi_X11_feed 79 (.aload_n 0) 1 80 := ⟨by decide +kernel, rfl⟩
theorem d_X11_feed_80 : DC mi_X11_feed 80 (.getfield 151) 3 83 := ⟨by decide +kernel, rfl⟩
theorem d_X11_feed_83 : DC mi_X11_feed 83 (.iload 6) 2 85 := ⟨by decide +kernel, rfl⟩
theorem d_X11_feed_85 : DC mi_X11_feed 85 (.iadd) 1 86 := ⟨by decide +kernel, rfl⟩
theorem d_X11_feed_86 : DC mi_X11_feed 86 (.iload 7) 2 88 := ⟨by decide +kernel, rfl⟩
theorem d_X11_feed_88 : DC mi_X11_feed 88 (.bipush 24) 2 90 := ⟨by decide +kernel, rfl⟩
theorem d_X11_feed_90 : DC mi_X11_feed 90 (.bipush 8) 2 92 := ⟨by decide +kernel, rfl⟩
theorem d_X11_feed_92 : DC mi_X11_feed 92 (.iload 6) 2 94 := ⟨by decide +kernel, rfl⟩
theorem d_X11_feed_94 : DC mi_X11_feed 94 (.iconst 4) 1 95 := ⟨by decide +kernel, rfl⟩
theorem d_X11_feed_95 : DC mi_X11_feed 95 (.irem) 1 96 := ⟨by decide +kernel, rfl⟩
theorem d_X11_feed_96 : DC mi_X11_feed 96 (.imul) 1 97 := ⟨by decide +kernel, rfl⟩
theorem d_X11_feed_97 : DC mi_X11_feed 97 (.isub) 1 98 := ⟨by decide +kernel, rfl⟩
theorem d_X11_feed_98 : DC mi_X11_feed 98 (.ishr) 1 99 := ⟨by decide +kernel, rfl⟩
theorem d_X11_feed_99 : DC mi_X11_feed 99 (.sipush 255) 3 102 := ⟨by decide +kernel, rfl⟩
theorem d_X11_feed_102 : DC mi_X11_feed 102 (.iand) 1 103 := ⟨by decide +kernel, rfl⟩
theorem d_X11_feed_103 : DC mi_X11_feed 103 (.iastore) 1 104 := ⟨by decide +kernel, rfl⟩
theorem d_X11_feed_104 : DC mi_X11_feed 104 (.iinc 6 1) 3 107 := ⟨by decide +kernel, rfl⟩
theorem d_X11_feed_107 : DB mi_X11_feed 107 (.goto (-87)) (-87) 110 20 := ⟨by decide +kernel, rfl, by decide⟩
theorem d_X11_feed_110 : DC mi_X11_feed 110 (.aload_n 0) 1 111 := ⟨by decide +kernel, rfl⟩
theorem d_X11_feed_111 : DC mi_X11_feed 111 (.dup) 1 112 := ⟨by decide +kernel, rfl⟩
theorem d_X11_feed_112 : DC mi_X11_feed 112 (.getfield 151) 3 115 := ⟨by decide +kernel, rfl⟩
theorem d_X11_feed_115 : DC mi_X11_feed 115 (.bipush 20) 2 117 := ⟨by decide +kernel, rfl⟩
theorem d_X11_feed_117 : DC mi_X11_feed 117 (.iadd) 1 118 := ⟨by decide +kernel, rfl⟩
theorem d_X11_feed_118 : DC mi_X11_feed 118 (.putfield 151) 3 121 := ⟨by decide +kernel, rfl⟩
theorem d_X11_feed_121 : DC mi_X11_feed 121 (.aload_n 0) 1 122 := ⟨by decide +kernel, rfl⟩
theorem d_X11_feed_122 : DC mi_X11_feed 122 (.getfield 151) 3 125 := ⟨by decide +kernel, rfl⟩
theorem d_X11_feed_125 : DC mi_X11_feed 125 (.ireturn) 1 126 := ⟨by decide +kernel, rfl⟩
set_option maxHeartbeats 4000000 in
set_option maxRecDepth 100000 in
theorem sL_X11_feed_20 (d : Nat) (hd : 0 ≤ d) (K110 : HH → Option (Int32 × HH)) (c1 : Int32) (c2 : Int32) (c3 : Int32) (c4 : Int32) (c5 : Int32) (hK110 : ∀ (h : HH), Sx mi_X11_feed d iI (K110 h) 110 [(0, .ref 255)] [] h) : ∀ (n : Nat) (x6 : Int32) (h : HH), Sx mi_X11_feed d iI (g_X11_feed_L20 K110 c1 c2 c3 c4 c5 n x6 h) 20 [(0, .ref 255), (1, .int c1), (2, .int c2), (3, .int c3), (4, .int c4), (5, .int c5), (6, .int x6)] [] h := by
  intro n
  induction n with
  | zero => intro x6 h; exact sx_none
  | succ n ih =>
    intro x6 h
    rw [g_X11_feed_L20]
    refine sx_iload d_X11_feed_20 6 rfl ?_
    refine sx_bipush d_X11_feed_22 bc20 ?_
    refine sx_icmp_ge d_X11_feed_24 ?_ ?_
    · refine sx_iload d_X11_feed_27 6 rfl ?_
      refine sx_iconst d_X11_feed_29 ic4 ?_
      refine sx_jn (fun j => ∀ (y6 : Int32) (h : HH), Sx mi_X11_feed d iI (j y6 h) 73 [(0, .ref 255), (1, .int c1), (2, .int c2), (3, .int c3), (4, .int c4), (5, .int c5), (6, .int x6)] [.int y6] h) ?_ ?_
      · intro y6 h5
        refine sx_istore (i := 7) (lc' := [(7, .int y6), (0, .ref 255), (1, .int c1), (2, .int c2), (3, .int c3), (4, .int c4), (5, .int c5), (6, .int x6)]) d_X11_feed_73 (by decide) rfl ?_
        refine sx_aload_n d_X11_feed_75 1 rfl ?_
        refine sx_getF (a' := 256) fl_StairCountModel_7 sh_255 rfl rfl d_X11_feed_76 ?_
        refine sx_aload_n d_X11_feed_79 1 rfl ?_
        refine sx_getI fl_StairCountModel_151 sh_255 rfl d_X11_feed_80 (fun v7 => ?_)
        refine sx_iload d_X11_feed_83 7 rfl ?_
        refine sx_iadd d_X11_feed_85 ?_
        refine sx_iload d_X11_feed_86 0 rfl ?_
        refine sx_bipush d_X11_feed_88 bc24 ?_
        refine sx_bipush d_X11_feed_90 bc8 ?_
        refine sx_iload d_X11_feed_92 7 rfl ?_
        refine sx_iconst d_X11_feed_94 ic4 ?_
        refine sx_irem d_X11_feed_95 (fun v8 => ?_)
        refine sx_imul d_X11_feed_96 ?_
        refine sx_isub d_X11_feed_97 ?_
        refine sx_ishr d_X11_feed_98 ?_
        refine sx_sipush d_X11_feed_99 sc255 ?_
        refine sx_iand d_X11_feed_102 ?_
        refine sx_iast sh_256 d_X11_feed_103 (fun h9 => ?_)
        refine sx_iincV (lc' := fun v10 => [(6, .int v10), (7, .int y6), (0, .ref 255), (1, .int c1), (2, .int c2), (3, .int c3), (4, .int c4), (5, .int c5)]) (k0 := 7) d_X11_feed_104 rfl ii1 (by decide) (fun _ => rfl) (fun v10 => ?_)
        refine sx_goto d_X11_feed_107 ?_
        refine sx_lc (lc' := [(0, .ref 255), (1, .int c1), (2, .int c2), (3, .int c3), (4, .int c4), (5, .int c5), (6, .int v10)]) [2, 3, 4, 5, 6, 7, 0] rfl ?_
        exact ih v10 h9
      · intro j3 k4
        refine sx_icmp_ge d_X11_feed_30 ?_ ?_
        · refine sx_iload_n d_X11_feed_33 1 rfl ?_
          refine sx_goto d_X11_feed_34 ?_
          exact k4 c1 h
        · refine sx_iload d_X11_feed_37 6 rfl ?_
          refine sx_bipush d_X11_feed_39 bc8 ?_
          refine sx_icmp_ge d_X11_feed_41 ?_ ?_
          · refine sx_iload_n d_X11_feed_44 2 rfl ?_
            refine sx_goto d_X11_feed_45 ?_
            exact k4 c2 h
          · refine sx_iload d_X11_feed_48 6 rfl ?_
            refine sx_bipush d_X11_feed_50 bc12 ?_
            refine sx_icmp_ge d_X11_feed_52 ?_ ?_
            · refine sx_iload_n d_X11_feed_55 3 rfl ?_
              refine sx_goto d_X11_feed_56 ?_
              exact k4 c3 h
            · refine sx_iload d_X11_feed_59 6 rfl ?_
              refine sx_bipush d_X11_feed_61 bc16 ?_
              refine sx_icmp_ge d_X11_feed_63 ?_ ?_
              · refine sx_iload d_X11_feed_66 4 rfl ?_
                refine sx_goto d_X11_feed_68 ?_
                exact k4 c4 h
              · refine sx_iload d_X11_feed_71 5 rfl ?_
                exact k4 c5 h
    · refine sx_lc (lc' := [(0, .ref 255)]) [0] rfl ?_
      exact hK110 h
set_option maxHeartbeats 4000000 in
set_option maxRecDepth 100000 in
theorem sp_X11_feed (d : Nat) (hd : 0 ≤ d) (a0 : Int32) (a1 : Int32) (a2 : Int32) (a3 : Int32) (a4 : Int32) (h : HH) : Sp mi_X11_feed d iI [.ref 255, .int a0, .int a1, .int a2, .int a3, .int a4] h (g_X11_feed a0 a1 a2 a3 a4 h) := by
  refine sp_of (lc := [(0, .ref 255), (1, .int a0), (2, .int a1), (3, .int a2), (4, .int a3), (5, .int a4)]) (by decide) (Nat.le_of_ble_eq_true rfl) rfl ?_
  unfold g_X11_feed
  refine sx_aload_n d_X11_feed_0 0 rfl ?_
  refine sx_iconst d_X11_feed_1 ic0 ?_
  refine sx_putI fl_StairCountModel_148 sh_255 rfl hty_11_0 d_X11_feed_2 (fun h1 => ?_)
  refine sx_aload_n d_X11_feed_5 0 rfl ?_
  refine sx_getI fl_StairCountModel_151 sh_255 rfl d_X11_feed_6 (fun v2 => ?_)
  refine sx_sipush d_X11_feed_9 sc680 ?_
  refine sx_icmp_le d_X11_feed_12 ?_ ?_
  · refine sx_iconst d_X11_feed_15 icm1 ?_
    exact sx_iret rfl d_X11_feed_16
  · refine sx_iconst d_X11_feed_17 ic0 ?_
    refine sx_istore (i := 6) (lc' := [(6, .int (0 : Int32)), (0, .ref 255), (1, .int a0), (2, .int a1), (3, .int a2), (4, .int a3), (5, .int a4)]) d_X11_feed_18 (by decide) rfl ?_
    refine sx_lc (lc' := [(0, .ref 255), (1, .int a0), (2, .int a1), (3, .int a2), (4, .int a3), (5, .int a4), (6, .int (0 : Int32))]) [1, 2, 3, 4, 5, 6, 0] rfl ?_
    refine sL_X11_feed_20 d hd _ a0 a1 a2 a3 a4 ?_ 1024 (0 : Int32) h1
    · intro h11
      refine sx_aload_n d_X11_feed_110 0 rfl ?_
      refine sx_dup d_X11_feed_111 rfl ?_
      refine sx_getI fl_StairCountModel_151 sh_255 rfl d_X11_feed_112 (fun v12 => ?_)
      refine sx_bipush d_X11_feed_115 bc20 ?_
      refine sx_iadd d_X11_feed_117 ?_
      refine sx_putI fl_StairCountModel_151 sh_255 rfl hty_11_2 d_X11_feed_118 (fun h13 => ?_)
      refine sx_aload_n d_X11_feed_121 0 rfl ?_
      refine sx_getI fl_StairCountModel_151 sh_255 rfl d_X11_feed_122 (fun v14 => ?_)
      exact sx_iret rfl d_X11_feed_125
theorem d_X11_here_0 : DC mi_X11_here 0 (.aload_n 0) 1 1 := ⟨by decide +kernel, rfl⟩
theorem d_X11_here_1 : DC mi_X11_here 1 (.getfield 154) 3 4 := ⟨by decide +kernel, rfl⟩
theorem d_X11_here_4 : DC mi_X11_here 4 (.aload_n 0) 1 5 := ⟨by decide +kernel, rfl⟩
theorem d_X11_here_5 : DC mi_X11_here 5 (.getfield 157) 3 8 := ⟨by decide +kernel, rfl⟩
theorem d_X11_here_8 : DB mi_X11_here 8 (.if_icmp .ge 15) 15 11 23 := ⟨by decide +kernel, rfl, by decide⟩
theorem d_X11_here_11 : DC mi_X11_here 11 (.aload_n 0) 1 12 := ⟨by decide +kernel, rfl⟩
theorem d_X11_here_12 : DC mi_X11_here 12 (.getfield 7) 3 15 := ⟨by decide +kernel, rfl⟩
theorem d_X11_here_15 : DC mi_X11_here 15 (.aload_n 0) 1 16 := ⟨by decide +kernel, rfl⟩
theorem d_X11_here_16 : DC mi_X11_here 16 (.getfield 154) 3 19 := ⟨by decide +kernel, rfl⟩
theorem d_X11_here_19 : DC mi_X11_here 19 (.iaload) 1 20 := ⟨by decide +kernel, rfl⟩
theorem d_X11_here_20 : DB mi_X11_here 20 (.goto 4) 4 23 24 := ⟨by decide +kernel, rfl, by decide⟩
theorem d_X11_here_23 : DC mi_X11_here 23 (.iconst (-1)) 1 24 := ⟨by decide +kernel, rfl⟩
theorem d_X11_here_24 : DC mi_X11_here 24 (.ireturn) 1 25 := ⟨by decide +kernel, rfl⟩
set_option maxHeartbeats 4000000 in
set_option maxRecDepth 100000 in
theorem sp_X11_here (d : Nat) (hd : 0 ≤ d) (h : HH) : Sp mi_X11_here d iI [.ref 255] h (g_X11_here h) := by
  refine sp_of (lc := [(0, .ref 255)]) (by decide) (Nat.le_of_ble_eq_true rfl) rfl ?_
  unfold g_X11_here
  refine sx_aload_n d_X11_here_0 0 rfl ?_
  refine sx_getI fl_StairCountModel_154 sh_255 rfl d_X11_here_1 (fun v1 => ?_)
  refine sx_aload_n d_X11_here_4 0 rfl ?_
  refine sx_getI fl_StairCountModel_157 sh_255 rfl d_X11_here_5 (fun v2 => ?_)
  refine sx_icmp_ge d_X11_here_8 ?_ ?_
  · refine sx_aload_n d_X11_here_11 0 rfl ?_
    refine sx_getF (a' := 256) fl_StairCountModel_7 sh_255 rfl rfl d_X11_here_12 ?_
    refine sx_aload_n d_X11_here_15 0 rfl ?_
    refine sx_getI fl_StairCountModel_154 sh_255 rfl d_X11_here_16 (fun v3 => ?_)
    refine sx_iald sh_256 d_X11_here_19 (fun v4 => ?_)
    refine sx_goto d_X11_here_20 ?_
    exact sx_iret rfl d_X11_here_24
  · refine sx_iconst d_X11_here_23 icm1 ?_
    exact sx_iret rfl d_X11_here_24
theorem d_X11_isSmall_0 : DC mi_X11_isSmall 0 (.iload_n 0) 1 1 := ⟨by decide +kernel, rfl⟩
theorem d_X11_isSmall_1 : DC mi_X11_isSmall 1 (.bipush 97) 2 3 := ⟨by decide +kernel, rfl⟩
theorem d_X11_isSmall_3 : DB mi_X11_isSmall 3 (.if_icmp .lt 13) 13 6 16 := ⟨by decide +kernel, rfl, by decide⟩
theorem d_X11_isSmall_6 : DC mi_X11_isSmall 6 (.iload_n 0) 1 7 := ⟨by decide +kernel, rfl⟩
theorem d_X11_isSmall_7 : DC mi_X11_isSmall 7 (.bipush 122) 2 9 := ⟨by decide +kernel, rfl⟩
theorem d_X11_isSmall_9 : DB mi_X11_isSmall 9 (.if_icmp .gt 7) 7 12 16 := ⟨by decide +kernel, rfl, by decide⟩
theorem d_X11_isSmall_12 : DC mi_X11_isSmall 12 (.iconst 1) 1 13 := ⟨by decide +kernel, rfl⟩
theorem d_X11_isSmall_13 : DB mi_X11_isSmall 13 (.goto 4) 4 16 17 := ⟨by decide +kernel, rfl, by decide⟩
theorem d_X11_isSmall_16 : DC mi_X11_isSmall 16 (.iconst 0) 1 17 := ⟨by decide +kernel, rfl⟩
theorem d_X11_isSmall_17 : DC mi_X11_isSmall 17 (.ireturn) 1 18 := ⟨by decide +kernel, rfl⟩
set_option maxHeartbeats 4000000 in
set_option maxRecDepth 100000 in
theorem sp_X11_isSmall (d : Nat) (hd : 0 ≤ d) (a0 : Int32) (h : HH) : Sp mi_X11_isSmall d iI [.int a0] h (g_X11_isSmall a0 h) := by
  refine sp_of (lc := [(0, .int a0)]) (by decide) (Nat.le_of_ble_eq_true rfl) rfl ?_
  unfold g_X11_isSmall
  refine sx_iload_n d_X11_isSmall_0 0 rfl ?_
  refine sx_bipush d_X11_isSmall_1 bc97 ?_
  refine sx_icmp_lt d_X11_isSmall_3 ?_ ?_
  · refine sx_iconst d_X11_isSmall_16 ic0 ?_
    exact sx_zret (by decide) rfl d_X11_isSmall_17
  · refine sx_iload_n d_X11_isSmall_6 0 rfl ?_
    refine sx_bipush d_X11_isSmall_7 bc122 ?_
    refine sx_icmp_gt d_X11_isSmall_9 ?_ ?_
    · refine sx_iconst d_X11_isSmall_16 ic0 ?_
      exact sx_zret (by decide) rfl d_X11_isSmall_17
    · refine sx_iconst d_X11_isSmall_12 ic1 ?_
      refine sx_goto d_X11_isSmall_13 ?_
      exact sx_zret (by decide) rfl d_X11_isSmall_17
theorem d_X11_isDigit_0 : DC mi_X11_isDigit 0 (.iload_n 0) 1 1 := ⟨by decide +kernel, rfl⟩
theorem d_X11_isDigit_1 : DC mi_X11_isDigit 1 (.bipush 48) 2 3 := ⟨by decide +kernel, rfl⟩
theorem d_X11_isDigit_3 : DB mi_X11_isDigit 3 (.if_icmp .lt 13) 13 6 16 := ⟨by decide +kernel, rfl, by decide⟩
theorem d_X11_isDigit_6 : DC mi_X11_isDigit 6 (.iload_n 0) 1 7 := ⟨by decide +kernel, rfl⟩
theorem d_X11_isDigit_7 : DC mi_X11_isDigit 7 (.bipush 57) 2 9 := ⟨by decide +kernel, rfl⟩
theorem d_X11_isDigit_9 : DB mi_X11_isDigit 9 (.if_icmp .gt 7) 7 12 16 := ⟨by decide +kernel, rfl, by decide⟩
theorem d_X11_isDigit_12 : DC mi_X11_isDigit 12 (.iconst 1) 1 13 := ⟨by decide +kernel, rfl⟩
theorem d_X11_isDigit_13 : DB mi_X11_isDigit 13 (.goto 4) 4 16 17 := ⟨by decide +kernel, rfl, by decide⟩
theorem d_X11_isDigit_16 : DC mi_X11_isDigit 16 (.iconst 0) 1 17 := ⟨by decide +kernel, rfl⟩
theorem d_X11_isDigit_17 : DC mi_X11_isDigit 17 (.ireturn) 1 18 := ⟨by decide +kernel, rfl⟩
set_option maxHeartbeats 4000000 in
set_option maxRecDepth 100000 in
theorem sp_X11_isDigit (d : Nat) (hd : 0 ≤ d) (a0 : Int32) (h : HH) : Sp mi_X11_isDigit d iI [.int a0] h (g_X11_isDigit a0 h) := by
  refine sp_of (lc := [(0, .int a0)]) (by decide) (Nat.le_of_ble_eq_true rfl) rfl ?_
  unfold g_X11_isDigit
  refine sx_iload_n d_X11_isDigit_0 0 rfl ?_
  refine sx_bipush d_X11_isDigit_1 bc48 ?_
  refine sx_icmp_lt d_X11_isDigit_3 ?_ ?_
  · refine sx_iconst d_X11_isDigit_16 ic0 ?_
    exact sx_zret (by decide) rfl d_X11_isDigit_17
  · refine sx_iload_n d_X11_isDigit_6 0 rfl ?_
    refine sx_bipush d_X11_isDigit_7 bc57 ?_
    refine sx_icmp_gt d_X11_isDigit_9 ?_ ?_
    · refine sx_iconst d_X11_isDigit_16 ic0 ?_
      exact sx_zret (by decide) rfl d_X11_isDigit_17
    · refine sx_iconst d_X11_isDigit_12 ic1 ?_
      refine sx_goto d_X11_isDigit_13 ?_
      exact sx_zret (by decide) rfl d_X11_isDigit_17
theorem d_X11_name_0 : DC mi_X11_name 0 (.aload_n 0) 1 1 := ⟨by decide +kernel, rfl⟩
theorem d_X11_name_1 : DC mi_X11_name 1 (.iconst 0) 1 2 := ⟨by decide +kernel, rfl⟩
theorem d_X11_name_2 : DC mi_X11_name 2 (.putfield 177) 3 5 := ⟨by decide +kernel, rfl⟩
theorem d_X11_name_5 : DC mi_X11_name 5 (.iconst 0) 1 6 := ⟨by decide +kernel, rfl⟩
theorem d_X11_name_6 : DC mi_X11_name 6 (.istore_n 1) 1 7 := ⟨by decide +kernel, rfl⟩
theorem d_X11_name_7 : DC mi_X11_name 7 (.iload_n 1) 1 8 := ⟨by decide +kernel, rfl⟩
theorem d_X11_name_8 : DC mi_X11_name 8 (.bipush 6) 2 10 := ⟨by decide +kernel, rfl⟩
theorem d_X11_name_10 : DB mi_X11_name 10 (.if_icmp .ge 53) 53 13 63 := ⟨by decide +kernel, rfl, by decide⟩
theorem d_X11_name_13 : DC mi_X11_name 13 (.aload_n 0) 1 14 := ⟨by decide +kernel, rfl⟩
theorem d_X11_name_14 : DC mi_X11_name 14 (.aload_n 0) 1 15 := ⟨by decide +kernel, rfl⟩
theorem d_X11_name_15 : DC mi_X11_name 15 (.getfield 177) 3 18 := ⟨by decide +kernel, rfl⟩
theorem d_X11_name_18 : DC mi_X11_name 18 (.iconst 5) 1 19 := ⟨by decide +kernel, rfl⟩
theorem d_X11_name_19 : DC mi_X11_name 19 (.ishl) 1 20 := ⟨by decide +kernel, rfl⟩
theorem d_X11_name_20 : DC mi_X11_name 20 (.aload_n 0) 1 21 := ⟨by decide +kernel, rfl⟩
theorem d_X11_name_21 : DC mi_X11_name 21 (.getfield 164) 3 24 := ⟨by decide +kernel, rfl⟩
theorem d_X11_name_24 : DC mi_X11_name 24 (.iload_n 1) 1 25 := ⟨by decide +kernel, rfl⟩
theorem d_X11_name_25 : DC mi_X11_name 25 (.iadd) 1 26 := ⟨by decide +kernel, rfl⟩
theorem d_X11_name_26 : DC mi_X11_name 26 (.aload_n 0) 1 27 := ⟨by decide +kernel, rfl⟩
theorem d_X11_name_27 : DC mi_X11_name 27 (.getfield 154) 3 30 := ⟨by decide +kernel, rfl⟩
theorem d_X11_name_30 : DB mi_X11_name 30 (.if_icmp .ge 22) 22 33 52 := ⟨by decide +kernel, rfl, by decide⟩
theorem d_X11_name_33 : DC mi_X11_name 33 (.aload_n 0) 1 34 := ⟨by decide +kernel, rfl⟩
theorem d_X11_name_34 : DC mi_X11_name 34 (.getfield 7) 3 37 := ⟨by decide +kernel, rfl⟩
theorem d_X11_name_37 : DC mi_X11_name 37 (.aload_n 0) 1 38 := ⟨by decide +kernel, rfl⟩
theorem d_X11_name_38 : DC mi_X11_name 38 (.getfield 164) 3 41 := ⟨by decide +kernel, rfl⟩
theorem d_X11_name_41 : DC mi_X11_name 41 (.iload_n 1) 1 42 := ⟨by decide +kernel, rfl⟩
theorem d_X11_name_42 : DC mi_X11_name 42 (.iadd) 1 43 := ⟨by decide +kernel, rfl⟩
theorem d_X11_name_43 : DC mi_X11_name 43 (.iaload) 1 44 := ⟨by decide +kernel, rfl⟩
theorem d_X11_name_44 : DC mi_X11_name 44 (.bipush 97) 2 46 := ⟨by decide +kernel, rfl⟩
theorem d_X11_name_46 : DC mi_X11_name 46 (.isub) 1 47 := ⟨by decide +kernel, rfl⟩
theorem d_X11_name_47 : DC mi_X11_name 47 (.iconst 1) 1 48 := ⟨by decide +kernel, rfl⟩
theorem d_X11_name_48 : DC mi_X11_name 48 (.iadd) 1 49 := ⟨by decide +kernel, rfl⟩
theorem d_X11_name_49 : DB mi_X11_name 49 (.goto 4) 4 52 53 := ⟨by decide +kernel, rfl, by decide⟩
theorem d_X11_name_52 : DC mi_X11_name 52 (.iconst 0) 1 53 := ⟨by decide +kernel, rfl⟩
theorem d_X11_name_53 : DC mi_X11_name 53 (.ior) 1 54 := ⟨by decide +kernel, rfl⟩
theorem d_X11_name_54 : DC mi_X11_name 54 (.putfield 177) 3 57 := ⟨by decide +kernel, rfl⟩
theorem d_X11_name_57 : DC mi_X11_name 57 (.iinc 1 1) 3 60 := ⟨by decide +kernel, rfl⟩
theorem d_X11_name_60 : DB mi_X11_name 60 (.goto (-53)) (-53) 63 7 := ⟨by decide +kernel, rfl, by decide⟩
theorem d_X11_name_63 : DC mi_X11_name 63 (.return_) 1 64 := ⟨by decide +kernel, rfl⟩
set_option maxHeartbeats 4000000 in
set_option maxRecDepth 100000 in
theorem sL_X11_name_7 (d : Nat) (hd : 0 ≤ d) : ∀ (n : Nat) (x1 : Int32) (h : HH), Sx mi_X11_name d iU (g_X11_name_L7 n x1 h) 7 [(0, .ref 255), (1, .int x1)] [] h := by
  intro n
  induction n with
  | zero => intro x1 h; exact sx_none
  | succ n ih =>
    intro x1 h
    rw [g_X11_name_L7]
    refine sx_iload_n d_X11_name_7 1 rfl ?_
    refine sx_bipush d_X11_name_8 bc6 ?_
    refine sx_icmp_ge d_X11_name_10 ?_ ?_
    · refine sx_aload_n d_X11_name_13 0 rfl ?_
      refine sx_aload_n d_X11_name_14 0 rfl ?_
      refine sx_getI fl_StairCountModel_177 sh_255 rfl d_X11_name_15 (fun v2 => ?_)
      refine sx_iconst d_X11_name_18 ic5 ?_
      refine sx_ishl d_X11_name_19 ?_
      refine sx_aload_n d_X11_name_20 0 rfl ?_
      refine sx_getI fl_StairCountModel_164 sh_255 rfl d_X11_name_21 (fun v3 => ?_)
      refine sx_iload_n d_X11_name_24 1 rfl ?_
      refine sx_iadd d_X11_name_25 ?_
      refine sx_aload_n d_X11_name_26 0 rfl ?_
      refine sx_getI fl_StairCountModel_154 sh_255 rfl d_X11_name_27 (fun v4 => ?_)
      refine sx_jn (fun j => ∀ (y8 : Int32) (h : HH), Sx mi_X11_name d iU (j y8 h) 53 [(0, .ref 255), (1, .int x1)] [.int y8, .int (v2 <<< ((5 : Int32) &&& 31)), .ref 255] h) ?_ ?_
      · intro y8 h7
        refine sx_ior d_X11_name_53 ?_
        refine sx_putI fl_StairCountModel_177 sh_255 rfl hty_11_26 d_X11_name_54 (fun h9 => ?_)
        refine sx_iincV (lc' := fun v10 => [(1, .int v10), (0, .ref 255)]) (k0 := 1) d_X11_name_57 rfl ii1 (by decide) (fun _ => rfl) (fun v10 => ?_)
        refine sx_goto d_X11_name_60 ?_
        refine sx_lc (lc' := [(0, .ref 255), (1, .int v10)]) [1, 0] rfl ?_
        exact ih v10 h9
      · intro j5 k6
        refine sx_icmp_ge d_X11_name_30 ?_ ?_
        · refine sx_aload_n d_X11_name_33 0 rfl ?_
          refine sx_getF (a' := 256) fl_StairCountModel_7 sh_255 rfl rfl d_X11_name_34 ?_
          refine sx_aload_n d_X11_name_37 0 rfl ?_
          refine sx_getI fl_StairCountModel_164 sh_255 rfl d_X11_name_38 (fun v11 => ?_)
          refine sx_iload_n d_X11_name_41 1 rfl ?_
          refine sx_iadd d_X11_name_42 ?_
          refine sx_iald sh_256 d_X11_name_43 (fun v12 => ?_)
          refine sx_bipush d_X11_name_44 bc97 ?_
          refine sx_isub d_X11_name_46 ?_
          refine sx_iconst d_X11_name_47 ic1 ?_
          refine sx_iadd d_X11_name_48 ?_
          refine sx_goto d_X11_name_49 ?_
          exact k6 ((v12 - (97 : Int32)) + (1 : Int32)) h
        · refine sx_iconst d_X11_name_52 ic0 ?_
          exact k6 (0 : Int32) h
    · exact sx_vret rfl d_X11_name_63
set_option maxHeartbeats 4000000 in
set_option maxRecDepth 100000 in
theorem sp_X11_name (d : Nat) (hd : 0 ≤ d) (h : HH) : Sp mi_X11_name d iU [.ref 255] h (g_X11_name h) := by
  refine sp_of (lc := [(0, .ref 255)]) (by decide) (Nat.le_of_ble_eq_true rfl) rfl ?_
  unfold g_X11_name
  refine sx_aload_n d_X11_name_0 0 rfl ?_
  refine sx_iconst d_X11_name_1 ic0 ?_
  refine sx_putI fl_StairCountModel_177 sh_255 rfl hty_11_26 d_X11_name_2 (fun h1 => ?_)
  refine sx_iconst d_X11_name_5 ic0 ?_
  refine sx_istore_n (i := 1) (lc' := [(1, .int (0 : Int32)), (0, .ref 255)]) d_X11_name_6 rfl (by decide) rfl ?_
  refine sx_lc (lc' := [(0, .ref 255), (1, .int (0 : Int32))]) [1, 0] rfl ?_
  refine sL_X11_name_7 d hd  1024 (0 : Int32) h1
theorem d_X11_sign_0 : DC mi_X11_sign 0 (.aload_n 0) 1 1 := ⟨by decide +kernel, rfl⟩
theorem d_X11_sign_1 : DC mi_X11_sign 1 (.dup) 1 2 := ⟨by decide +kernel, rfl⟩
theorem d_X11_sign_2 : DC mi_X11_sign 2 (.getfield 154) 3 5 := ⟨by decide +kernel, rfl⟩
theorem d_X11_sign_5 : DC mi_X11_sign 5 (.iconst 1) 1 6 := ⟨by decide +kernel, rfl⟩
theorem d_X11_sign_6 : DC mi_X11_sign 6 (.iadd) 1 7 := ⟨by decide +kernel, rfl⟩
theorem d_X11_sign_7 : DC mi_X11_sign 7 (.putfield 154) 3 10 := ⟨by decide +kernel, rfl⟩
theorem d_X11_sign_10 : DC mi_X11_sign 10 (.aload_n 0) 1 11 := ⟨by decide +kernel, rfl⟩
theorem d_X11_sign_11 : DC mi_X11_sign 11 (.iload_n 1) 1 12 := ⟨by decide +kernel, rfl⟩
theorem d_X11_sign_12 : DC mi_X11_sign 12 (.bipush 59) 2 14 := ⟨by decide +kernel, rfl⟩
theorem d_X11_sign_14 : DB mi_X11_sign 14 (.if_icmp .eq 57) 57 17 71 := ⟨by decide +kernel, rfl, by decide⟩
theorem d_X11_sign_17 : DC mi_X11_sign 17 (.iload_n 1) 1 18 := ⟨by decide +kernel, rfl⟩
theorem d_X11_sign_18 : DC mi_X11_sign 18 (.bipush 40) 2 20 := ⟨by decide +kernel, rfl⟩
theorem d_X11_sign_20 : DB mi_X11_sign 20 (.if_icmp .eq 51) 51 23 71 := ⟨by decide +kernel, rfl, by decide⟩
theorem d_X11_sign_23 : DC mi_X11_sign 23 (.iload_n 1) 1 24 := ⟨by decide +kernel, rfl⟩
theorem d_X11_sign_24 : DC mi_X11_sign 24 (.bipush 41) 2 26 := ⟨by decide +kernel, rfl⟩
theorem d_X11_sign_26 : DB mi_X11_sign 26 (.if_icmp .eq 45) 45 29 71 := ⟨by decide +kernel, rfl, by decide⟩
theorem d_X11_sign_29 : DC mi_X11_sign 29 (.iload_n 1) 1 30 := ⟨by decide +kernel, rfl⟩
theorem d_X11_sign_30 : DC mi_X11_sign 30 (.bipush 43) 2 32 := ⟨by decide +kernel, rfl⟩
theorem d_X11_sign_32 : DB mi_X11_sign 32 (.if_icmp .eq 39) 39 35 71 := ⟨by decide +kernel, rfl, by decide⟩
theorem d_X11_sign_35 : DC mi_X11_sign 35 (.iload_n 1) 1 36 := ⟨by decide +kernel, rfl⟩
theorem d_X11_sign_36 : DC mi_X11_sign 36 (.bipush 45) 2 38 := ⟨by decide +kernel, rfl⟩
theorem d_X11_sign_38 : DB mi_X11_sign 38 (.if_icmp .eq 33) 33 41 71 := ⟨by decide +kernel, rfl, by decide⟩
theorem d_X11_sign_41 : DC mi_X11_sign 41 (.iload_n 1) 1 42 := ⟨by decide +kernel, rfl⟩
theorem d_X11_sign_42 : DC mi_X11_sign 42 (.bipush 42) 2 44 := ⟨by decide +kernel, rfl⟩
theorem d_X11_sign_44 : DB mi_X11_sign 44 (.if_icmp .eq 27) 27 47 71 := ⟨by decide +kernel, rfl, by decide⟩
theorem d_X11_sign_47 : DC mi_X11_sign 47 (.iload_n 1) 1 48 := ⟨by decide +kernel, rfl⟩
theorem d_X11_sign_48 : DC mi_X11_sign 48 (.bipush 47) 2 50 := ⟨by decide +kernel, rfl⟩
theorem d_X11_sign_50 : DB mi_X11_sign 50 (.if_icmp .eq 21) 21 53 71 := ⟨by decide +kernel, rfl, by decide⟩
theorem d_X11_sign_53 : DC mi_X11_sign 53 (.iload_n 1) 1 54 := ⟨by decide +kernel, rfl⟩
theorem d_X11_sign_54 : DC mi_X11_sign 54 (.bipush 60) 2 56 := ⟨by decide +kernel, rfl⟩
theorem d_X11_sign_56 : DB mi_X11_sign 56 (.if_icmp .eq 15) 15 59 71 := ⟨by decide +kernel, rfl, by decide⟩
theorem d_X11_sign_59 : DC mi_X11_sign 59 (.iload_n 1) 1 60 := ⟨by decide +kernel, rfl⟩
theorem d_X11_sign_60 : DC mi_X11_sign 60 (.bipush 61) 2 62 := ⟨by decide +kernel, rfl⟩
theorem d_X11_sign_62 : DB mi_X11_sign 62 (.if_icmp .eq 9) 9 65 71 := ⟨by decide +kernel, rfl, by decide⟩
theorem d_X11_sign_65 : DC mi_X11_sign 65 (.iload_n 1) 1 66 := ⟨by decide +kernel, rfl⟩
theorem d_X11_sign_66 : DC mi_X11_sign 66 (.bipush 62) 2 68 := ⟨by decide +kernel, rfl⟩
theorem d_X11_sign_68 : DB mi_X11_sign 68 (.if_icmp .ne 7) 7 71 75 := ⟨by decide +kernel, rfl, by decide⟩
theorem d_X11_sign_71 : DC mi_X11_sign 71 (.iconst 3) 1 72 := ⟨by decide +kernel, rfl⟩
theorem d_X11_sign_72 : DB mi_X11_sign 72 (.goto 4) 4 75 76 := ⟨by decide +kernel, rfl, by decide⟩
theorem d_X11_sign_75 : DC mi_X11_sign 75 (.iconst 5) 1 76 := ⟨by decide +kernel, rfl⟩
theorem d_X11_sign_76 : DC mi_X11_sign 76 (.putfield 167) 3 79 := ⟨by decide +kernel, rfl⟩
theorem d_X11_sign_79 : DC mi_X11_sign 79 (.aload_n 0) 1 80 := ⟨by decide +kernel, rfl⟩
theorem d_X11_sign_80 : DC mi_X11_sign 80 (.iload_n 1) 1 81 := ⟨by decide +kernel, rfl⟩
theorem d_X11_sign_81 : DC mi_X11_sign 81 (.putfield 177) 3 84 := ⟨by decide +kernel, rfl⟩
theorem d_X11_sign_84 : DC mi_X11_sign 84 (.iload_n 1) 1 85 := ⟨by decide +kernel, rfl⟩
theorem d_X11_sign_85 : DC mi_X11_sign 85 (.bipush 60) 2 87 := ⟨by decide +kernel, rfl⟩
theorem d_X11_sign_87 : DB mi_X11_sign 87 (.if_icmp .ne 19) 19 90 106 := ⟨by decide +kernel, rfl, by decide⟩
theorem d_X11_sign_90 : DC mi_X11_sign 90 (.aload_n 0) 1 91 := ⟨by decide +kernel, rfl⟩
theorem d_X11_sign_91 : DC mi_X11_sign 91 (.invokevirtual 160) 3 94 := ⟨by decide +kernel, rfl⟩
theorem d_X11_sign_94 : DC mi_X11_sign 94 (.bipush 61) 2 96 := ⟨by decide +kernel, rfl⟩
theorem d_X11_sign_96 : DB mi_X11_sign 96 (.if_icmp .ne 10) 10 99 106 := ⟨by decide +kernel, rfl, by decide⟩
theorem d_X11_sign_99 : DC mi_X11_sign 99 (.aload_n 0) 1 100 := ⟨by decide +kernel, rfl⟩
theorem d_X11_sign_100 : DC mi_X11_sign 100 (.sipush 256) 3 103 := ⟨by decide +kernel, rfl⟩
theorem d_X11_sign_103 : DC mi_X11_sign 103 (.putfield 177) 3 106 := ⟨by decide +kernel, rfl⟩
theorem d_X11_sign_106 : DC mi_X11_sign 106 (.iload_n 1) 1 107 := ⟨by decide +kernel, rfl⟩
theorem d_X11_sign_107 : DC mi_X11_sign 107 (.bipush 60) 2 109 := ⟨by decide +kernel, rfl⟩
theorem d_X11_sign_109 : DB mi_X11_sign 109 (.if_icmp .ne 19) 19 112 128 := ⟨by decide +kernel, rfl, by decide⟩
theorem d_X11_sign_112 : DC mi_X11_sign 112 (.aload_n 0) 1 113 := ⟨by decide +kernel, rfl⟩
theorem d_X11_sign_113 : DC mi_X11_sign 113 (.invokevirtual 160) 3 116 := ⟨by decide +kernel, rfl⟩
theorem d_X11_sign_116 : DC mi_X11_sign 116 (.bipush 62) 2 118 := ⟨by decide +kernel, rfl⟩
theorem d_X11_sign_118 : DB mi_X11_sign 118 (.if_icmp .ne 10) 10 121 128 := ⟨by decide +kernel, rfl, by decide⟩
theorem d_X11_sign_121 : DC mi_X11_sign 121 (.aload_n 0) 1 122 := ⟨by decide +kernel, rfl⟩
theorem d_X11_sign_122 : DC mi_X11_sign 122 (.sipush 257) 3 125 := ⟨by decide +kernel, rfl⟩
theorem d_X11_sign_125 : DC mi_X11_sign 125 (.putfield 177) 3 128 := ⟨by decide +kernel, rfl⟩
theorem d_X11_sign_128 : DC mi_X11_sign 128 (.iload_n 1) 1 129 := ⟨by decide +kernel, rfl⟩
theorem d_X11_sign_129 : DC mi_X11_sign 129 (.bipush 62) 2 131 := ⟨by decide +kernel, rfl⟩
theorem d_X11_sign_131 : DB mi_X11_sign 131 (.if_icmp .ne 19) 19 134 150 := ⟨by decide +kernel, rfl, by decide⟩
theorem d_X11_sign_134 : DC mi_X11_sign 134 (.aload_n 0) 1 135 := ⟨by decide +kernel, rfl⟩
theorem d_X11_sign_135 : DC mi_X11_sign 135 (.invokevirtual 160) 3 138 := ⟨by decide +kernel, rfl⟩
theorem d_X11_sign_138 : DC mi_X11_sign 138 (.bipush 61) 2 140 := ⟨by decide +kernel, rfl⟩
theorem d_X11_sign_140 : DB mi_X11_sign 140 (.if_icmp .ne 10) 10 143 150 := ⟨by decide +kernel, rfl, by decide⟩
theorem d_X11_sign_143 : DC mi_X11_sign 143 (.aload_n 0) 1 144 := ⟨by decide +kernel, rfl⟩
theorem d_X11_sign_144 : DC mi_X11_sign 144 (.sipush 258) 3 147 := ⟨by decide +kernel, rfl⟩
theorem d_X11_sign_147 : DC mi_X11_sign 147 (.putfield 177) 3 150 := ⟨by decide +kernel, rfl⟩
theorem d_X11_sign_150 : DC mi_X11_sign 150 (.aload_n 0) 1 151 := ⟨by decide +kernel, rfl⟩
theorem d_X11_sign_151 : DC mi_X11_sign 151 (.getfield 177) 3 154 := ⟨by decide +kernel, rfl⟩
theorem d_X11_sign_154 : DC mi_X11_sign 154 (.sipush 256) 3 157 := ⟨by decide +kernel, rfl⟩
theorem d_X11_sign_157 : DB mi_X11_sign 157 (.if_icmp .lt 13) 13 160 170 := ⟨by decide +kernel, rfl, by decide⟩
theorem d_X11_sign_160 : DC mi_X11_sign 160 (.aload_n 0) 1 161 := ⟨by decide +kernel, rfl⟩
theorem d_X11_sign_161 : DC mi_X11_sign 161 (.dup) 1 162 := ⟨by decide +kernel, rfl⟩
theorem d_X11_sign_162 : DC mi_X11_sign 162 (.getfield 154) 3 165 := ⟨by decide +kernel, rfl⟩
theorem d_X11_sign_165 : DC mi_X11_sign 165 (.iconst 1) 1 166 := ⟨by decide +kernel, rfl⟩
theorem d_X11_sign_166 : DC mi_X11_sign 166 (.iadd) 1 167 := ⟨by decide +kernel, rfl⟩
theorem d_X11_sign_167 : DC mi_X11_sign 167 (.putfield 154) 3 170 := ⟨by decide +kernel, rfl⟩
theorem d_X11_sign_170 : DC mi_X11_sign 170 (.return_) 1 171 := ⟨by decide +kernel, rfl⟩
set_option maxHeartbeats 4000000 in
set_option maxRecDepth 100000 in
theorem sp_X11_sign (d : Nat) (hd : 1 ≤ d) (a0 : Int32) (h : HH) : Sp mi_X11_sign d iU [.ref 255, .int a0] h (g_X11_sign a0 h) := by
  refine sp_of (lc := [(0, .ref 255), (1, .int a0)]) (by decide) (Nat.le_of_ble_eq_true rfl) rfl ?_
  unfold g_X11_sign
  refine sx_aload_n d_X11_sign_0 0 rfl ?_
  refine sx_dup d_X11_sign_1 rfl ?_
  refine sx_getI fl_StairCountModel_154 sh_255 rfl d_X11_sign_2 (fun v1 => ?_)
  refine sx_iconst d_X11_sign_5 ic1 ?_
  refine sx_iadd d_X11_sign_6 ?_
  refine sx_putI fl_StairCountModel_154 sh_255 rfl hty_11_23 d_X11_sign_7 (fun h2 => ?_)
  refine sx_aload_n d_X11_sign_10 0 rfl ?_
  refine sx_iload_n d_X11_sign_11 1 rfl ?_
  refine sx_bipush d_X11_sign_12 bc59 ?_
  refine sx_jn (fun j => ∀ (y6 : Int32) (h : HH), Sx mi_X11_sign d iU (j y6 h) 76 [(0, .ref 255), (1, .int a0)] [.int y6, .ref 255] h) ?_ ?_
  · intro y6 h5
    refine sx_putI fl_StairCountModel_167 sh_255 rfl hty_11_25 d_X11_sign_76 (fun h7 => ?_)
    refine sx_aload_n d_X11_sign_79 0 rfl ?_
    refine sx_iload_n d_X11_sign_80 1 rfl ?_
    refine sx_putI fl_StairCountModel_177 sh_255 rfl hty_11_26 d_X11_sign_81 (fun h8 => ?_)
    refine sx_iload_n d_X11_sign_84 1 rfl ?_
    refine sx_bipush d_X11_sign_85 bc60 ?_
    refine sx_jn (fun j => ∀  (h : HH), Sx mi_X11_sign d iU (j  h) 106 [(0, .ref 255), (1, .int a0)] [] h) ?_ ?_
    · intro  h11
      refine sx_iload_n d_X11_sign_106 1 rfl ?_
      refine sx_bipush d_X11_sign_107 bc60 ?_
      refine sx_jn (fun j => ∀  (h : HH), Sx mi_X11_sign d iU (j  h) 128 [(0, .ref 255), (1, .int a0)] [] h) ?_ ?_
      · intro  h14
        refine sx_iload_n d_X11_sign_128 1 rfl ?_
        refine sx_bipush d_X11_sign_129 bc62 ?_
        refine sx_jn (fun j => ∀  (h : HH), Sx mi_X11_sign d iU (j  h) 150 [(0, .ref 255)] [] h) ?_ ?_
        · intro  h17
          refine sx_aload_n d_X11_sign_150 0 rfl ?_
          refine sx_getI fl_StairCountModel_177 sh_255 rfl d_X11_sign_151 (fun v18 => ?_)
          refine sx_sipush d_X11_sign_154 sc256 ?_
          refine sx_icmp_lt d_X11_sign_157 ?_ ?_
          · exact sx_vret rfl d_X11_sign_170
          · refine sx_aload_n d_X11_sign_160 0 rfl ?_
            refine sx_dup d_X11_sign_161 rfl ?_
            refine sx_getI fl_StairCountModel_154 sh_255 rfl d_X11_sign_162 (fun v19 => ?_)
            refine sx_iconst d_X11_sign_165 ic1 ?_
            refine sx_iadd d_X11_sign_166 ?_
            refine sx_putI fl_StairCountModel_154 sh_255 rfl hty_11_23 d_X11_sign_167 (fun h20 => ?_)
            exact sx_vret rfl d_X11_sign_170
        · intro j15 k16
          refine sx_icmp_ne d_X11_sign_131 ?_ ?_
          · refine sx_aload_n d_X11_sign_134 0 rfl ?_
            refine sx_callV [] mv_X11_here lM_StairCountModel_160 sh_255 (by omega) rfl rfl (Nat.le_of_ble_eq_true rfl) d_X11_sign_135 (sp_X11_here (d - 1) (by omega) h14) (fun r22 h21 => ?_)
            refine sx_bipush d_X11_sign_138 bc61 ?_
            refine sx_icmp_ne d_X11_sign_140 ?_ ?_
            · refine sx_aload_n d_X11_sign_143 0 rfl ?_
              refine sx_sipush d_X11_sign_144 sc258 ?_
              refine sx_putI fl_StairCountModel_177 sh_255 rfl hty_11_26 d_X11_sign_147 (fun h23 => ?_)
              refine sx_lc (lc' := [(0, .ref 255)]) [0] rfl ?_
              exact k16 h23
            · refine sx_lc (lc' := [(0, .ref 255)]) [0] rfl ?_
              exact k16 h21
          · refine sx_lc (lc' := [(0, .ref 255)]) [0] rfl ?_
            exact k16 h14
      · intro j12 k13
        refine sx_icmp_ne d_X11_sign_109 ?_ ?_
        · refine sx_aload_n d_X11_sign_112 0 rfl ?_
          refine sx_callV [] mv_X11_here lM_StairCountModel_160 sh_255 (by omega) rfl rfl (Nat.le_of_ble_eq_true rfl) d_X11_sign_113 (sp_X11_here (d - 1) (by omega) h11) (fun r25 h24 => ?_)
          refine sx_bipush d_X11_sign_116 bc62 ?_
          refine sx_icmp_ne d_X11_sign_118 ?_ ?_
          · refine sx_aload_n d_X11_sign_121 0 rfl ?_
            refine sx_sipush d_X11_sign_122 sc257 ?_
            refine sx_putI fl_StairCountModel_177 sh_255 rfl hty_11_26 d_X11_sign_125 (fun h26 => ?_)
            exact k13 h26
          · exact k13 h24
        · exact k13 h11
    · intro j9 k10
      refine sx_icmp_ne d_X11_sign_87 ?_ ?_
      · refine sx_aload_n d_X11_sign_90 0 rfl ?_
        refine sx_callV [] mv_X11_here lM_StairCountModel_160 sh_255 (by omega) rfl rfl (Nat.le_of_ble_eq_true rfl) d_X11_sign_91 (sp_X11_here (d - 1) (by omega) h8) (fun r28 h27 => ?_)
        refine sx_bipush d_X11_sign_94 bc61 ?_
        refine sx_icmp_ne d_X11_sign_96 ?_ ?_
        · refine sx_aload_n d_X11_sign_99 0 rfl ?_
          refine sx_sipush d_X11_sign_100 sc256 ?_
          refine sx_putI fl_StairCountModel_177 sh_255 rfl hty_11_26 d_X11_sign_103 (fun h29 => ?_)
          exact k10 h29
        · exact k10 h27
      · exact k10 h8
  · intro j3 k4
    refine sx_jn (fun j => ∀  (h : HH), Sx mi_X11_sign d iU (j  h) 71 [(0, .ref 255), (1, .int a0)] [.ref 255] h) ?_ ?_
    · intro  h32
      refine sx_iconst d_X11_sign_71 ic3 ?_
      refine sx_goto d_X11_sign_72 ?_
      exact k4 (3 : Int32) h32
    · intro j30 k31
      refine sx_icmp_eq d_X11_sign_14 ?_ ?_
      · exact k31 h2
      · refine sx_iload_n d_X11_sign_17 1 rfl ?_
        refine sx_bipush d_X11_sign_18 bc40 ?_
        refine sx_icmp_eq d_X11_sign_20 ?_ ?_
        · exact k31 h2
        · refine sx_iload_n d_X11_sign_23 1 rfl ?_
          refine sx_bipush d_X11_sign_24 bc41 ?_
          refine sx_icmp_eq d_X11_sign_26 ?_ ?_
          · exact k31 h2
          · refine sx_iload_n d_X11_sign_29 1 rfl ?_
            refine sx_bipush d_X11_sign_30 bc43 ?_
            refine sx_icmp_eq d_X11_sign_32 ?_ ?_
            · exact k31 h2
            · refine sx_iload_n d_X11_sign_35 1 rfl ?_
              refine sx_bipush d_X11_sign_36 bc45 ?_
              refine sx_icmp_eq d_X11_sign_38 ?_ ?_
              · exact k31 h2
              · refine sx_iload_n d_X11_sign_41 1 rfl ?_
                refine sx_bipush d_X11_sign_42 bc42 ?_
                refine sx_icmp_eq d_X11_sign_44 ?_ ?_
                · exact k31 h2
                · refine sx_iload_n d_X11_sign_47 1 rfl ?_
                  refine sx_bipush d_X11_sign_48 bc47 ?_
                  refine sx_icmp_eq d_X11_sign_50 ?_ ?_
                  · exact k31 h2
                  · refine sx_iload_n d_X11_sign_53 1 rfl ?_
                    refine sx_bipush d_X11_sign_54 bc60 ?_
                    refine sx_icmp_eq d_X11_sign_56 ?_ ?_
                    · exact k31 h2
                    · refine sx_iload_n d_X11_sign_59 1 rfl ?_
                      refine sx_bipush d_X11_sign_60 bc61 ?_
                      refine sx_icmp_eq d_X11_sign_62 ?_ ?_
                      · exact k31 h2
                      · refine sx_iload_n d_X11_sign_65 1 rfl ?_
                        refine sx_bipush d_X11_sign_66 bc62 ?_
                        refine sx_icmp_ne d_X11_sign_68 ?_ ?_
                        · exact k31 h2
                        · refine sx_iconst d_X11_sign_75 ic5 ?_
                          exact k4 (5 : Int32) h2
theorem d_X11_word_0 : DC mi_X11_word 0 (.iconst 0) 1 1 := ⟨by decide +kernel, rfl⟩
theorem d_X11_word_1 : DC mi_X11_word 1 (.istore_n 1) 1 2 := ⟨by decide +kernel, rfl⟩
theorem d_X11_word_2 : DC mi_X11_word 2 (.iconst 0) 1 3 := ⟨by decide +kernel, rfl⟩
theorem d_X11_word_3 : DC mi_X11_word 3 (.istore_n 2) 1 4 := ⟨by decide +kernel, rfl⟩
theorem d_X11_word_4 : DC mi_X11_word 4 (.iload_n 2) 1 5 := ⟨by decide +kernel, rfl⟩
theorem d_X11_word_5 : DC mi_X11_word 5 (.ldc 191) 2 7 := ⟨by decide +kernel, rfl⟩
theorem d_X11_word_7 : DC mi_X11_word 7 (.invokevirtual 193) 3 10 := ⟨by decide +kernel, rfl⟩
theorem d_X11_word_10 : DB mi_X11_word 10 (.if_icmp .ge 113) 113 13 123 := ⟨by decide +kernel, rfl, by decide⟩
theorem d_X11_word_13 : DC mi_X11_word 13 (.iconst 0) 1 14 := ⟨by decide +kernel, rfl⟩
theorem d_X11_word_14 : DC mi_X11_word 14 (.istore_n 3) 1 15 := ⟨by decide +kernel, rfl⟩
theorem d_X11_word_15 : DC mi_X11_word 15 (.ldc 191) 2 17 := ⟨by decide +kernel, rfl⟩
theorem d_X11_word_17 : DC mi_X11_word 17 (.iload_n 2) 1 18 := ⟨by decide +kernel, rfl⟩
theorem d_X11_word_18 : DC mi_X11_word 18 (.iload_n 3) 1 19 := ⟨by decide +kernel, rfl⟩
theorem d_X11_word_19 : DC mi_X11_word 19 (.iadd) 1 20 := ⟨by decide +kernel, rfl⟩
theorem d_X11_word_20 : DC mi_X11_word 20 (.invokevirtual 198) 3 23 := ⟨by decide +kernel, rfl⟩
theorem d_X11_word_23 : DC mi_X11_word 23 (.bipush 32) 2 25 := ⟨by decide +kernel, rfl⟩
theorem d_X11_word_25 : DB mi_X11_word 25 (.if_icmp .eq 44) 44 28 69 := ⟨by decide +kernel, rfl, by decide⟩
theorem d_X11_word_28 : DC mi_X11_word 28 (.aload_n 0) 1 29 := ⟨by decide +kernel, rfl⟩
theorem d_X11_word_29 : DC mi_X11_word 29 (.getfield 164) 3 32 := ⟨by decide +kernel, rfl⟩
theorem d_X11_word_32 : DC mi_X11_word 32 (.iload_n 3) 1 33 := ⟨by decide +kernel, rfl⟩
theorem d_X11_word_33 : DC mi_X11_word 33 (.iadd) 1 34 := ⟨by decide +kernel, rfl⟩
theorem d_X11_word_34 : DC mi_X11_word 34 (.aload_n 0) 1 35 := ⟨by decide +kernel, rfl⟩
theorem d_X11_word_35 : DC mi_X11_word 35 (.getfield 154) 3 38 := ⟨by decide +kernel, rfl⟩
theorem d_X11_word_38 : DB mi_X11_word 38 (.if_icmp .ge 31) 31 41 69 := ⟨by decide +kernel, rfl, by decide⟩
theorem d_X11_word_41 : DC mi_X11_word 41 (.aload_n 0) 1 42 := ⟨by decide +kernel, rfl⟩
theorem d_X11_word_42 : DC mi_X11_word 42 (.getfield 7) 3 45 := ⟨by decide +kernel, rfl⟩
theorem d_X11_word_45 : DC mi_X11_word 45 (.aload_n 0) 1 46 := ⟨by decide +kernel, rfl⟩
theorem d_X11_word_46 : DC mi_X11_word 46 (.getfield 164) 3 49 := ⟨by decide +kernel, rfl⟩
theorem d_X11_word_49 : DC mi_X11_word 49 (.iload_n 3) 1 50 := ⟨by decide +kernel, rfl⟩
theorem d_X11_word_50 : DC mi_X11_word 50 (.iadd) 1 51 := ⟨by decide +kernel, rfl⟩
theorem d_X11_word_51 : DC mi_X11_word 51 (.iaload) 1 52 := ⟨by decide +kernel, rfl⟩
theorem d_X11_word_52 : DC mi_X11_word 52 (.ldc 191) 2 54 := ⟨by decide +kernel, rfl⟩
theorem d_X11_word_54 : DC mi_X11_word 54 (.iload_n 2) 1 55 := ⟨by decide +kernel, rfl⟩
theorem d_X11_word_55 : DC mi_X11_word 55 (.iload_n 3) 1 56 := ⟨by decide +kernel, rfl⟩
theorem d_X11_word_56 : DC mi_X11_word 56 (.iadd) 1 57 := ⟨by decide +kernel, rfl⟩
theorem d_X11_word_57 : DC mi_X11_word 57 (.invokevirtual 198) 3 60 := ⟨by decide +kernel, rfl⟩
theorem d_X11_word_60 : DB mi_X11_word 60 (.if_icmp .ne 9) 9 63 69 := ⟨by decide +kernel, rfl, by decide⟩
theorem d_X11_word_63 : DC mi_X11_word 63 (.iinc 3 1) 3 66 := ⟨by decide +kernel, rfl⟩
theorem d_X11_word_66 : DB mi_X11_word 66 (.goto (-51)) (-51) 69 15 := ⟨by decide +kernel, rfl, by decide⟩
theorem d_X11_word_69 : DC mi_X11_word 69 (.ldc 191) 2 71 := ⟨by decide +kernel, rfl⟩
theorem d_X11_word_71 : DC mi_X11_word 71 (.iload_n 2) 1 72 := ⟨by decide +kernel, rfl⟩
theorem d_X11_word_72 : DC mi_X11_word 72 (.iload_n 3) 1 73 := ⟨by decide +kernel, rfl⟩
theorem d_X11_word_73 : DC mi_X11_word 73 (.iadd) 1 74 := ⟨by decide +kernel, rfl⟩
theorem d_X11_word_74 : DC mi_X11_word 74 (.invokevirtual 198) 3 77 := ⟨by decide +kernel, rfl⟩
theorem d_X11_word_77 : DC mi_X11_word 77 (.bipush 32) 2 79 := ⟨by decide +kernel, rfl⟩
theorem d_X11_word_79 : DB mi_X11_word 79 (.if_icmp .ne 18) 18 82 97 := ⟨by decide +kernel, rfl, by decide⟩
theorem d_X11_word_82 : DC mi_X11_word 82 (.aload_n 0) 1 83 := ⟨by decide +kernel, rfl⟩
theorem d_X11_word_83 : DC mi_X11_word 83 (.getfield 164) 3 86 := ⟨by decide +kernel, rfl⟩
theorem d_X11_word_86 : DC mi_X11_word 86 (.iload_n 3) 1 87 := ⟨by decide +kernel, rfl⟩
theorem d_X11_word_87 : DC mi_X11_word 87 (.iadd) 1 88 := ⟨by decide +kernel, rfl⟩
theorem d_X11_word_88 : DC mi_X11_word 88 (.aload_n 0) 1 89 := ⟨by decide +kernel, rfl⟩
theorem d_X11_word_89 : DC mi_X11_word 89 (.getfield 154) 3 92 := ⟨by decide +kernel, rfl⟩
theorem d_X11_word_92 : DB mi_X11_word 92 (.if_icmp .ne 5) 5 95 97 := ⟨by decide +kernel, rfl, by decide⟩
theorem d_X11_word_95 : DC mi_X11_word 95 (.iload_n 1) 1 96 := ⟨by decide +kernel, rfl⟩
theorem d_X11_word_96 : DC mi_X11_word 96 (.ireturn) 1 97 := ⟨by decide +kernel, rfl⟩
theorem d_X11_word_97 : DC mi_X11_word 97 (.ldc 191) 2 99 := ⟨by decide +kernel, rfl⟩
theorem d_X11_word_99 : DC mi_X11_word 99 (.iload_n 2) 1 100 := ⟨by decide +kernel, rfl⟩
theorem d_X11_word_100 : DC mi_X11_word 100 (.invokevirtual 198) 3 103 := ⟨by decide +kernel, rfl⟩
theorem d_X11_word_103 : DC mi_X11_word 103 (.bipush 32) 2 105 := ⟨by decide +kernel, rfl⟩
theorem d_X11_word_105 : DB mi_X11_word 105 (.if_icmp .eq 9) 9 108 114 := ⟨by decide +kernel, rfl, by decide⟩
theorem d_X11_word_108 : DC mi_X11_word 108 (.iinc 2 1) 3 111 := ⟨by decide +kernel, rfl⟩
theorem d_X11_word_111 : DB mi_X11_word 111 (.goto (-14)) (-14) 114 97 := ⟨by decide +kernel, rfl, by decide⟩
theorem d_X11_word_114 : DC mi_X11_word 114 (.iinc 2 1) 3 117 := ⟨by decide +kernel, rfl⟩
theorem d_X11_word_117 : DC mi_X11_word 117 (.iinc 1 1) 3 120 := ⟨by decide +kernel, rfl⟩
theorem d_X11_word_120 : DB mi_X11_word 120 (.goto (-116)) (-116) 123 4 := ⟨by decide +kernel, rfl, by decide⟩
theorem d_X11_word_123 : DC mi_X11_word 123 (.iconst (-1)) 1 124 := ⟨by decide +kernel, rfl⟩
theorem d_X11_word_124 : DC mi_X11_word 124 (.ireturn) 1 125 := ⟨by decide +kernel, rfl⟩
set_option maxHeartbeats 4000000 in
set_option maxRecDepth 100000 in
theorem sL_X11_word_15 (d : Nat) (hd : 6 ≤ d) (K69 : Int32 → HH → Option (Int32 × HH)) (c1 : Int32) (c2 : Int32) (hK69 : ∀ (z3 : Int32) (h : HH), Sx mi_X11_word d iI (K69 z3 h) 69 [(0, .ref 255), (1, .int c1), (2, .int c2), (3, .int z3)] [] h) : ∀ (n : Nat) (x3 : Int32) (h : HH), Sx mi_X11_word d iI (g_X11_word_L15 K69 c1 c2 n x3 h) 15 [(0, .ref 255), (1, .int c1), (2, .int c2), (3, .int x3)] [] h := by
  intro n
  induction n with
  | zero => intro x3 h; exact sx_none
  | succ n ih =>
    intro x3 h
    rw [g_X11_word_L15]
    refine sx_ldcS (i := 3) rfl rfl d_X11_word_15 ?_
    refine sx_iload_n d_X11_word_17 2 rfl ?_
    refine sx_iload_n d_X11_word_18 3 rfl ?_
    refine sx_iadd d_X11_word_19 ?_
    refine sx_char (i := 3) (by decide) lM_StairCountModel_198 (by omega) (Nat.le_of_ble_eq_true rfl) d_X11_word_20 (fun v1 => ?_)
    refine sx_bipush d_X11_word_23 bc32 ?_
    refine sx_icmp_eq d_X11_word_25 ?_ ?_
    · exact hK69 x3 h
    · refine sx_aload_n d_X11_word_28 0 rfl ?_
      refine sx_getI fl_StairCountModel_164 sh_255 rfl d_X11_word_29 (fun v2 => ?_)
      refine sx_iload_n d_X11_word_32 3 rfl ?_
      refine sx_iadd d_X11_word_33 ?_
      refine sx_aload_n d_X11_word_34 0 rfl ?_
      refine sx_getI fl_StairCountModel_154 sh_255 rfl d_X11_word_35 (fun v3 => ?_)
      refine sx_icmp_ge d_X11_word_38 ?_ ?_
      · refine sx_aload_n d_X11_word_41 0 rfl ?_
        refine sx_getF (a' := 256) fl_StairCountModel_7 sh_255 rfl rfl d_X11_word_42 ?_
        refine sx_aload_n d_X11_word_45 0 rfl ?_
        refine sx_getI fl_StairCountModel_164 sh_255 rfl d_X11_word_46 (fun v4 => ?_)
        refine sx_iload_n d_X11_word_49 3 rfl ?_
        refine sx_iadd d_X11_word_50 ?_
        refine sx_iald sh_256 d_X11_word_51 (fun v5 => ?_)
        refine sx_ldcS (i := 3) rfl rfl d_X11_word_52 ?_
        refine sx_iload_n d_X11_word_54 2 rfl ?_
        refine sx_iload_n d_X11_word_55 3 rfl ?_
        refine sx_iadd d_X11_word_56 ?_
        refine sx_char (i := 3) (by decide) lM_StairCountModel_198 (by omega) (Nat.le_of_ble_eq_true rfl) d_X11_word_57 (fun v6 => ?_)
        refine sx_icmp_ne d_X11_word_60 ?_ ?_
        · refine sx_iincV (lc' := fun v7 => [(3, .int v7), (0, .ref 255), (1, .int c1), (2, .int c2)]) (k0 := 3) d_X11_word_63 rfl ii1 (by decide) (fun _ => rfl) (fun v7 => ?_)
          refine sx_goto d_X11_word_66 ?_
          refine sx_lc (lc' := [(0, .ref 255), (1, .int c1), (2, .int c2), (3, .int v7)]) [1, 2, 3, 0] rfl ?_
          exact ih v7 h
        · exact hK69 x3 h
      · exact hK69 x3 h
set_option maxHeartbeats 4000000 in
set_option maxRecDepth 100000 in
theorem sL_X11_word_97 (d : Nat) (hd : 6 ≤ d) (K114 : Int32 → HH → Option (Int32 × HH)) (c1 : Int32) (hK114 : ∀ (z2 : Int32) (h : HH), Sx mi_X11_word d iI (K114 z2 h) 114 [(0, .ref 255), (1, .int c1), (2, .int z2)] [] h) : ∀ (n : Nat) (x2 : Int32) (h : HH), Sx mi_X11_word d iI (g_X11_word_L97 K114 c1 n x2 h) 97 [(0, .ref 255), (1, .int c1), (2, .int x2)] [] h := by
  intro n
  induction n with
  | zero => intro x2 h; exact sx_none
  | succ n ih =>
    intro x2 h
    rw [g_X11_word_L97]
    refine sx_ldcS (i := 3) rfl rfl d_X11_word_97 ?_
    refine sx_iload_n d_X11_word_99 2 rfl ?_
    refine sx_char (i := 3) (by decide) lM_StairCountModel_198 (by omega) (Nat.le_of_ble_eq_true rfl) d_X11_word_100 (fun v14 => ?_)
    refine sx_bipush d_X11_word_103 bc32 ?_
    refine sx_icmp_eq d_X11_word_105 ?_ ?_
    · exact hK114 x2 h
    · refine sx_iincV (lc' := fun v15 => [(2, .int v15), (0, .ref 255), (1, .int c1)]) (k0 := 2) d_X11_word_108 rfl ii1 (by decide) (fun _ => rfl) (fun v15 => ?_)
      refine sx_goto d_X11_word_111 ?_
      refine sx_lc (lc' := [(0, .ref 255), (1, .int c1), (2, .int v15)]) [1, 2, 0] rfl ?_
      exact ih v15 h
set_option maxHeartbeats 4000000 in
set_option maxRecDepth 100000 in
theorem sL_X11_word_4 (d : Nat) (hd : 6 ≤ d) : ∀ (n : Nat) (x1 : Int32) (x2 : Int32) (h : HH), Sx mi_X11_word d iI (g_X11_word_L4 n x1 x2 h) 4 [(0, .ref 255), (1, .int x1), (2, .int x2)] [] h := by
  intro n
  induction n with
  | zero => intro x1 x2 h; exact sx_none
  | succ n ih =>
    intro x1 x2 h
    rw [g_X11_word_L4]
    refine sx_iload_n d_X11_word_4 2 rfl ?_
    refine sx_ldcS (i := 3) rfl rfl d_X11_word_5 ?_
    refine sx_slen (i := 3) (v := (123 : Int32)) rfl nl123 lM_StairCountModel_193 (by omega) (Nat.le_of_ble_eq_true rfl) d_X11_word_7 ?_
    refine sx_icmp_ge d_X11_word_10 ?_ ?_
    · refine sx_iconst d_X11_word_13 ic0 ?_
      refine sx_istore_n (i := 3) (lc' := [(3, .int (0 : Int32)), (0, .ref 255), (1, .int x1), (2, .int x2)]) d_X11_word_14 rfl (by decide) rfl ?_
      refine sx_lc (lc' := [(0, .ref 255), (1, .int x1), (2, .int x2), (3, .int (0 : Int32))]) [1, 2, 3, 0] rfl ?_
      refine sL_X11_word_15 d hd _ x1 x2 ?_ 1024 (0 : Int32) h
      · intro z9 h8
        refine sx_ldcS (i := 3) rfl rfl d_X11_word_69 ?_
        refine sx_iload_n d_X11_word_71 2 rfl ?_
        refine sx_iload_n d_X11_word_72 3 rfl ?_
        refine sx_iadd d_X11_word_73 ?_
        refine sx_char (i := 3) (by decide) lM_StairCountModel_198 (by omega) (Nat.le_of_ble_eq_true rfl) d_X11_word_74 (fun v10 => ?_)
        refine sx_bipush d_X11_word_77 bc32 ?_
        refine sx_jn (fun j => ∀  (h : HH), Sx mi_X11_word d iI (j  h) 97 [(0, .ref 255), (1, .int x1), (2, .int x2)] [] h) ?_ ?_
        · intro  h13
          refine sL_X11_word_97 d hd _ x1 ?_ 1024 x2 h13
          · intro z17 h16
            refine sx_iincV (lc' := fun v18 => [(2, .int v18), (0, .ref 255), (1, .int x1)]) (k0 := 2) d_X11_word_114 rfl ii1 (by decide) (fun _ => rfl) (fun v18 => ?_)
            refine sx_iincV (lc' := fun v19 => [(1, .int v19), (2, .int v18), (0, .ref 255)]) (k0 := 2) d_X11_word_117 rfl ii1 (by decide) (fun _ => rfl) (fun v19 => ?_)
            refine sx_goto d_X11_word_120 ?_
            refine sx_lc (lc' := [(0, .ref 255), (1, .int v19), (2, .int v18)]) [2, 0, 1] rfl ?_
            exact ih v19 v18 h16
        · intro j11 k12
          refine sx_icmp_ne d_X11_word_79 ?_ ?_
          · refine sx_aload_n d_X11_word_82 0 rfl ?_
            refine sx_getI fl_StairCountModel_164 sh_255 rfl d_X11_word_83 (fun v20 => ?_)
            refine sx_iload_n d_X11_word_86 3 rfl ?_
            refine sx_iadd d_X11_word_87 ?_
            refine sx_aload_n d_X11_word_88 0 rfl ?_
            refine sx_getI fl_StairCountModel_154 sh_255 rfl d_X11_word_89 (fun v21 => ?_)
            refine sx_icmp_ne d_X11_word_92 ?_ ?_
            · refine sx_iload_n d_X11_word_95 1 rfl ?_
              exact sx_iret rfl d_X11_word_96
            · refine sx_lc (lc' := [(0, .ref 255), (1, .int x1), (2, .int x2)]) [0, 1, 2] rfl ?_
              exact k12 h8
          · refine sx_lc (lc' := [(0, .ref 255), (1, .int x1), (2, .int x2)]) [0, 1, 2] rfl ?_
            exact k12 h8
    · refine sx_iconst d_X11_word_123 icm1 ?_
      exact sx_iret rfl d_X11_word_124
set_option maxHeartbeats 4000000 in
set_option maxRecDepth 100000 in
theorem sp_X11_word (d : Nat) (hd : 6 ≤ d) (h : HH) : Sp mi_X11_word d iI [.ref 255] h (g_X11_word h) := by
  refine sp_of (lc := [(0, .ref 255)]) (by decide) (Nat.le_of_ble_eq_true rfl) rfl ?_
  unfold g_X11_word
  refine sx_iconst d_X11_word_0 ic0 ?_
  refine sx_istore_n (i := 1) (lc' := [(1, .int (0 : Int32)), (0, .ref 255)]) d_X11_word_1 rfl (by decide) rfl ?_
  refine sx_iconst d_X11_word_2 ic0 ?_
  refine sx_istore_n (i := 2) (lc' := [(2, .int (0 : Int32)), (1, .int (0 : Int32)), (0, .ref 255)]) d_X11_word_3 rfl (by decide) rfl ?_
  refine sx_lc (lc' := [(0, .ref 255), (1, .int (0 : Int32)), (2, .int (0 : Int32))]) [2, 1, 0] rfl ?_
  refine sL_X11_word_4 d hd  1024 (0 : Int32) (0 : Int32) h
