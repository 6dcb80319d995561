/-! walks: X9_move, X9_seek, X10_putBytes, X10_feed, X10_text, X10_fault, X10_isPerson, X10_isFlight, X10_isFloor, X10_isPair, X10_lookAtNow, X10_named, X10_tally, X10_steep, X10_told, X10_entry, X10_beside, X10_aheadInCrowd, X10_crowd, X10_order, X10_soon, X10_law, X10_count, X10_walk -/
theorem d_X9_move_0 : DC mi_X9_move 0 (.aload_n 0) 1 1 := ⟨by decide +kernel, rfl⟩
theorem d_X9_move_1 : DC mi_X9_move 1 (.getfield 11) 3 4 := ⟨by decide +kernel, rfl⟩
theorem d_X9_move_4 : DC mi_X9_move 4 (.iload_n 1) 1 5 := ⟨by decide +kernel, rfl⟩
theorem d_X9_move_5 : DC mi_X9_move 5 (.iaload) 1 6 := ⟨by decide +kernel, rfl⟩
theorem d_X9_move_6 : DC mi_X9_move 6 (.ldc 29) 2 8 := ⟨by decide +kernel, rfl⟩
theorem d_X9_move_8 : DB mi_X9_move 8 (.if_icmp .ne 4) 4 11 12 := ⟨by decide +kernel, rfl, by decide⟩
theorem d_X9_move_11 : DC mi_X9_move 11 (.return_) 1 12 := ⟨by decide +kernel, rfl⟩
theorem d_X9_move_12 : DC mi_X9_move 12 (.aload_n 0) 1 13 := ⟨by decide +kernel, rfl⟩
theorem d_X9_move_13 : DC mi_X9_move 13 (.getfield 11) 3 16 := ⟨by decide +kernel, rfl⟩
theorem d_X9_move_16 : DC mi_X9_move 16 (.iload_n 1) 1 17 := ⟨by decide +kernel, rfl⟩
theorem d_X9_move_17 : DC mi_X9_move 17 (.iaload) 1 18 := ⟨by decide +kernel, rfl⟩
theorem d_X9_move_18 : DC mi_X9_move 18 (.iload_n 3) 1 19 := ⟨by decide +kernel, rfl⟩
theorem d_X9_move_19 : DC mi_X9_move 19 (.iadd) 1 20 := ⟨by decide +kernel, rfl⟩
theorem d_X9_move_20 : DC mi_X9_move 20 (.istore 4) 2 22 := ⟨by decide +kernel, rfl⟩
theorem d_X9_move_22 : DC mi_X9_move 22 (.aload_n 0) 1 23 := ⟨by decide +kernel, rfl⟩
theorem d_X9_move_23 : DC mi_X9_move 23 (.getfield 17) 3 26 := ⟨by decide +kernel, rfl⟩
theorem d_X9_move_26 : DC mi_X9_move 26 (.iload_n 1) 1 27 := ⟨by decide +kernel, rfl⟩
theorem d_X9_move_27 : DC mi_X9_move 27 (.iaload) 1 28 := ⟨by decide +kernel, rfl⟩
theorem d_X9_move_28 : DC mi_X9_move 28 (.iconst 1) 1 29 := ⟨by decide +kernel, rfl⟩
theorem d_X9_move_29 : DC mi_X9_move 29 (.iadd) 1 30 := ⟨by decide +kernel, rfl⟩
theorem d_X9_move_30 : DC mi_X9_move 30 (.istore 5) 2 32 := ⟨by decide +kernel, rfl⟩
theorem d_X9_move_32 : DC mi_X9_move 32 (.iload 4) 2 34 := ⟨by decide +kernel, rfl⟩
theorem d_X9_move_34 : DC mi_X9_move 34 (.aload_n 0) 1 35 := ⟨by decide +kernel, rfl⟩
theorem d_X9_move_35 : DC mi_X9_move 35 (.getfield 11) 3 38 := ⟨by decide +kernel, rfl⟩
theorem d_X9_move_38 : DC mi_X9_move 38 (.iload_n 2) 1 39 := ⟨by decide +kernel, rfl⟩
theorem d_X9_move_39 : DC mi_X9_move 39 (.iaload) 1 40 := ⟨by decide +kernel, rfl⟩
theorem d_X9_move_40 : DB mi_X9_move 40 (.if_icmp .lt 25) 25 43 65 := ⟨by decide +kernel, rfl, by decide⟩
theorem d_X9_move_43 : DC mi_X9_move 43 (.iload 4) 2 45 := ⟨by decide +kernel, rfl⟩
theorem d_X9_move_45 : DC mi_X9_move 45 (.aload_n 0) 1 46 := ⟨by decide +kernel, rfl⟩
theorem d_X9_move_46 : DC mi_X9_move 46 (.getfield 11) 3 49 := ⟨by decide +kernel, rfl⟩
theorem d_X9_move_49 : DC mi_X9_move 49 (.iload_n 2) 1 50 := ⟨by decide +kernel, rfl⟩
theorem d_X9_move_50 : DC mi_X9_move 50 (.iaload) 1 51 := ⟨by decide +kernel, rfl⟩
theorem d_X9_move_51 : DB mi_X9_move 51 (.if_icmp .ne 30) 30 54 81 := ⟨by decide +kernel, rfl, by decide⟩
theorem d_X9_move_54 : DC mi_X9_move 54 (.iload 5) 2 56 := ⟨by decide +kernel, rfl⟩
theorem d_X9_move_56 : DC mi_X9_move 56 (.aload_n 0) 1 57 := ⟨by decide +kernel, rfl⟩
theorem d_X9_move_57 : DC mi_X9_move 57 (.getfield 17) 3 60 := ⟨by decide +kernel, rfl⟩
theorem d_X9_move_60 : DC mi_X9_move 60 (.iload_n 2) 1 61 := ⟨by decide +kernel, rfl⟩
theorem d_X9_move_61 : DC mi_X9_move 61 (.iaload) 1 62 := ⟨by decide +kernel, rfl⟩
theorem d_X9_move_62 : DB mi_X9_move 62 (.if_icmp .ge 19) 19 65 81 := ⟨by decide +kernel, rfl, by decide⟩
theorem d_X9_move_65 : DC mi_X9_move 65 (.aload_n 0) 1 66 := ⟨by decide +kernel, rfl⟩
theorem d_X9_move_66 : DC mi_X9_move 66 (.getfield 11) 3 69 := ⟨by decide +kernel, rfl⟩
theorem d_X9_move_69 : DC mi_X9_move 69 (.iload_n 2) 1 70 := ⟨by decide +kernel, rfl⟩
theorem d_X9_move_70 : DC mi_X9_move 70 (.iload 4) 2 72 := ⟨by decide +kernel, rfl⟩
theorem d_X9_move_72 : DC mi_X9_move 72 (.iastore) 1 73 := ⟨by decide +kernel, rfl⟩
theorem d_X9_move_73 : DC mi_X9_move 73 (.aload_n 0) 1 74 := ⟨by decide +kernel, rfl⟩
theorem d_X9_move_74 : DC mi_X9_move 74 (.getfield 17) 3 77 := ⟨by decide +kernel, rfl⟩
theorem d_X9_move_77 : DC mi_X9_move 77 (.iload_n 2) 1 78 := ⟨by decide +kernel, rfl⟩
theorem d_X9_move_78 : DC mi_X9_move 78 (.iload 5) 2 80 := ⟨by decide +kernel, rfl⟩
theorem d_X9_move_80 : DC mi_X9_move 80 (.iastore) 1 81 := ⟨by decide +kernel, rfl⟩
theorem d_X9_move_81 : DC mi_X9_move 81 (.return_) 1 82 := ⟨by decide +kernel, rfl⟩
set_option maxHeartbeats 4000000 in
set_option maxRecDepth 100000 in
theorem sp_X9_move (d : Nat) (hd : 0 ≤ d) (this : Nat) (a0 : Int32) (a1 : Int32) (a2 : Int32) (h : HH) : Sp mi_X9_move d iU [.ref this, .int a0, .int a1, .int a2] h (g_X9_move this a0 a1 a2 h) := by
  refine sp_of (lc := [(0, .ref this), (1, .int a0), (2, .int a1), (3, .int a2)]) (by decide) (Nat.le_of_ble_eq_true rfl) rfl ?_
  unfold g_X9_move
  refine sx_ckH (fun hthis => ?_)
  refine sx_aload_n d_X9_move_0 0 rfl ?_
  refine sx_getF (a' := (this + 1)) fl_StairCount_Ways_11 hthis rfl rfl d_X9_move_1 ?_
  refine sx_iload_n d_X9_move_4 1 rfl ?_
  refine sx_iald (shf_9_0 hthis) d_X9_move_5 (fun v1 => ?_)
  refine sx_ldc d_X9_move_6 lK_StairCount_Ways_29 ?_
  refine sx_icmp_ne d_X9_move_8 ?_ ?_
  · exact sx_vret rfl d_X9_move_11
  · refine sx_aload_n d_X9_move_12 0 rfl ?_
    refine sx_getF (a' := (this + 1)) fl_StairCount_Ways_11 hthis rfl rfl d_X9_move_13 ?_
    refine sx_iload_n d_X9_move_16 1 rfl ?_
    refine sx_iald (shf_9_0 hthis) d_X9_move_17 (fun v2 => ?_)
    refine sx_iload_n d_X9_move_18 3 rfl ?_
    refine sx_iadd d_X9_move_19 ?_
    refine sx_vlI (fun v3 => ?_)
    refine sx_istore (i := 4) (lc' := [(4, .int v3), (0, .ref this), (1, .int a0), (2, .int a1), (3, .int a2)]) d_X9_move_20 (by decide) rfl ?_
    refine sx_aload_n d_X9_move_22 1 rfl ?_
    refine sx_getF (a' := (this + 2)) fl_StairCount_Ways_17 hthis rfl rfl d_X9_move_23 ?_
    refine sx_iload_n d_X9_move_26 2 rfl ?_
    refine sx_iald (shf_9_1 hthis) d_X9_move_27 (fun v4 => ?_)
    refine sx_iconst d_X9_move_28 ic1 ?_
    refine sx_iadd d_X9_move_29 ?_
    refine sx_vlI (fun v5 => ?_)
    refine sx_istore (i := 5) (lc' := [(5, .int v5), (4, .int v3), (0, .ref this), (1, .int a0), (2, .int a1), (3, .int a2)]) d_X9_move_30 (by decide) rfl ?_
    refine sx_iload d_X9_move_32 1 rfl ?_
    refine sx_aload_n d_X9_move_34 2 rfl ?_
    refine sx_getF (a' := (this + 1)) fl_StairCount_Ways_11 hthis rfl rfl d_X9_move_35 ?_
    refine sx_iload_n d_X9_move_38 4 rfl ?_
    refine sx_iald (shf_9_0 hthis) d_X9_move_39 (fun v6 => ?_)
    refine sx_jn (fun j => ∀  (h : HH), Sx mi_X9_move d iU (j  h) 65 [(0, .ref this), (2, .int a1), (4, .int v3), (5, .int v5)] [] h) ?_ ?_
    · intro  h9
      refine sx_aload_n d_X9_move_65 0 rfl ?_
      refine sx_getF (a' := (this + 1)) fl_StairCount_Ways_11 hthis rfl rfl d_X9_move_66 ?_
      refine sx_iload_n d_X9_move_69 1 rfl ?_
      refine sx_iload d_X9_move_70 2 rfl ?_
      refine sx_iast (shf_9_0 hthis) d_X9_move_72 (fun h10 => ?_)
      refine sx_aload_n d_X9_move_73 0 rfl ?_
      refine sx_getF (a' := (this + 2)) fl_StairCount_Ways_17 hthis rfl rfl d_X9_move_74 ?_
      refine sx_iload_n d_X9_move_77 1 rfl ?_
      refine sx_iload d_X9_move_78 3 rfl ?_
      refine sx_iast (shf_9_1 hthis) d_X9_move_80 (fun h11 => ?_)
      exact sx_vret rfl d_X9_move_81
    · intro j7 k8
      refine sx_icmp_lt d_X9_move_40 ?_ ?_
      · refine sx_lc (lc' := [(0, .ref this), (2, .int a1), (4, .int v3), (5, .int v5)]) [2, 4, 1, 0] rfl ?_
        exact k8 h
      · refine sx_iload d_X9_move_43 1 rfl ?_
        refine sx_aload_n d_X9_move_45 2 rfl ?_
        refine sx_getF (a' := (this + 1)) fl_StairCount_Ways_11 hthis rfl rfl d_X9_move_46 ?_
        refine sx_iload_n d_X9_move_49 4 rfl ?_
        refine sx_iald (shf_9_0 hthis) d_X9_move_50 (fun v12 => ?_)
        refine sx_icmp_ne d_X9_move_51 ?_ ?_
        · refine sx_iload d_X9_move_54 0 rfl ?_
          refine sx_aload_n d_X9_move_56 2 rfl ?_
          refine sx_getF (a' := (this + 2)) fl_StairCount_Ways_17 hthis rfl rfl d_X9_move_57 ?_
          refine sx_iload_n d_X9_move_60 4 rfl ?_
          refine sx_iald (shf_9_1 hthis) d_X9_move_61 (fun v13 => ?_)
          refine sx_icmp_ge d_X9_move_62 ?_ ?_
          · refine sx_lc (lc' := [(0, .ref this), (2, .int a1), (4, .int v3), (5, .int v5)]) [2, 4, 1, 0] rfl ?_
            exact k8 h
          · exact sx_vret rfl d_X9_move_81
        · exact sx_vret rfl d_X9_move_81
theorem d_X9_seek_0 : DC mi_X9_seek 0 (.aload_n 1) 1 1 := ⟨by decide +kernel, rfl⟩
theorem d_X9_seek_1 : DC mi_X9_seek 1 (.getfield 23) 3 4 := ⟨by decide +kernel, rfl⟩
theorem d_X9_seek_4 : DC mi_X9_seek 4 (.astore_n 3) 1 5 := ⟨by decide +kernel, rfl⟩
theorem d_X9_seek_5 : DC mi_X9_seek 5 (.aload_n 0) 1 6 := ⟨by decide +kernel, rfl⟩
theorem d_X9_seek_6 : DC mi_X9_seek 6 (.getfield 11) 3 9 := ⟨by decide +kernel, rfl⟩
theorem d_X9_seek_9 : DC mi_X9_seek 9 (.ldc 29) 2 11 := ⟨by decide +kernel, rfl⟩
theorem d_X9_seek_11 : DC mi_X9_seek 11 (.invokestatic 30) 3 14 := ⟨by decide +kernel, rfl⟩
theorem d_X9_seek_14 : DC mi_X9_seek 14 (.aload_n 0) 1 15 := ⟨by decide +kernel, rfl⟩
theorem d_X9_seek_15 : DC mi_X9_seek 15 (.getfield 17) 3 18 := ⟨by decide +kernel, rfl⟩
theorem d_X9_seek_18 : DC mi_X9_seek 18 (.iconst 0) 1 19 := ⟨by decide +kernel, rfl⟩
theorem d_X9_seek_19 : DC mi_X9_seek 19 (.invokestatic 30) 3 22 := ⟨by decide +kernel, rfl⟩
theorem d_X9_seek_22 : DC mi_X9_seek 22 (.aload_n 0) 1 23 := ⟨by decide +kernel, rfl⟩
theorem d_X9_seek_23 : DC mi_X9_seek 23 (.getfield 11) 3 26 := ⟨by decide +kernel, rfl⟩
theorem d_X9_seek_26 : DC mi_X9_seek 26 (.aload_n 1) 1 27 := ⟨by decide +kernel, rfl⟩
theorem d_X9_seek_27 : DC mi_X9_seek 27 (.getfield 36) 3 30 := ⟨by decide +kernel, rfl⟩
theorem d_X9_seek_30 : DC mi_X9_seek 30 (.getfield 40) 3 33 := ⟨by decide +kernel, rfl⟩
theorem d_X9_seek_33 : DC mi_X9_seek 33 (.iload_n 2) 1 34 := ⟨by decide +kernel, rfl⟩
theorem d_X9_seek_34 : DC mi_X9_seek 34 (.iaload) 1 35 := ⟨by decide +kernel, rfl⟩
theorem d_X9_seek_35 : DC mi_X9_seek 35 (.iconst 0) 1 36 := ⟨by decide +kernel, rfl⟩
theorem d_X9_seek_36 : DC mi_X9_seek 36 (.iastore) 1 37 := ⟨by decide +kernel, rfl⟩
theorem d_X9_seek_37 : DC mi_X9_seek 37 (.iconst 0) 1 38 := ⟨by decide +kernel, rfl⟩
theorem d_X9_seek_38 : DC mi_X9_seek 38 (.istore 4) 2 40 := ⟨by decide +kernel, rfl⟩
theorem d_X9_seek_40 : DC mi_X9_seek 40 (.iload 4) 2 42 := ⟨by decide +kernel, rfl⟩
theorem d_X9_seek_42 : DC mi_X9_seek 42 (.aload_n 3) 1 43 := ⟨by decide +kernel, rfl⟩
theorem d_X9_seek_43 : DC mi_X9_seek 43 (.getfield 45) 3 46 := ⟨by decide +kernel, rfl⟩
theorem d_X9_seek_46 : DB mi_X9_seek 46 (.if_icmp .ge 23) 23 49 69 := ⟨by decide +kernel, rfl, by decide⟩
theorem d_X9_seek_49 : DC mi_X9_seek 49 (.aload_n 0) 1 50 := ⟨by decide +kernel, rfl⟩
theorem d_X9_seek_50 : DC mi_X9_seek 50 (.getfield 20) 3 53 := ⟨by decide +kernel, rfl⟩
theorem d_X9_seek_53 : DC mi_X9_seek 53 (.iload 4) 2 55 := ⟨by decide +kernel, rfl⟩
theorem d_X9_seek_55 : DC mi_X9_seek 55 (.aload_n 1) 1 56 := ⟨by decide +kernel, rfl⟩
theorem d_X9_seek_56 : DC mi_X9_seek 56 (.iload_n 2) 1 57 := ⟨by decide +kernel, rfl⟩
theorem d_X9_seek_57 : DC mi_X9_seek 57 (.iload 4) 2 59 := ⟨by decide +kernel, rfl⟩
theorem d_X9_seek_59 : DC mi_X9_seek 59 (.invokevirtual 51) 3 62 := ⟨by decide +kernel, rfl⟩
theorem d_X9_seek_62 : DC mi_X9_seek 62 (.iastore) 1 63 := ⟨by decide +kernel, rfl⟩
theorem d_X9_seek_63 : DC mi_X9_seek 63 (.iinc 4 1) 3 66 := ⟨by decide +kernel, rfl⟩
theorem d_X9_seek_66 : DB mi_X9_seek 66 (.goto (-26)) (-26) 69 40 := ⟨by decide +kernel, rfl, by decide⟩
theorem d_X9_seek_69 : DC mi_X9_seek 69 (.iconst 0) 1 70 := ⟨by decide +kernel, rfl⟩
theorem d_X9_seek_70 : DC mi_X9_seek 70 (.istore 4) 2 72 := ⟨by decide +kernel, rfl⟩
theorem d_X9_seek_72 : DC mi_X9_seek 72 (.iload 4) 2 74 := ⟨by decide +kernel, rfl⟩
theorem d_X9_seek_74 : DC mi_X9_seek 74 (.aload_n 3) 1 75 := ⟨by decide +kernel, rfl⟩
theorem d_X9_seek_75 : DC mi_X9_seek 75 (.getfield 45) 3 78 := ⟨by decide +kernel, rfl⟩
theorem d_X9_seek_78 : DB mi_X9_seek 78 (.if_icmp .ge 134) 134 81 212 := ⟨by decide +kernel, rfl, by decide⟩
theorem d_X9_seek_81 : DC mi_X9_seek 81 (.iconst 0) 1 82 := ⟨by decide +kernel, rfl⟩
theorem d_X9_seek_82 : DC mi_X9_seek 82 (.istore 5) 2 84 := ⟨by decide +kernel, rfl⟩
theorem d_X9_seek_84 : DC mi_X9_seek 84 (.iload 5) 2 86 := ⟨by decide +kernel, rfl⟩
theorem d_X9_seek_86 : DC mi_X9_seek 86 (.aload_n 3) 1 87 := ⟨by decide +kernel, rfl⟩
theorem d_X9_seek_87 : DC mi_X9_seek 87 (.getfield 45) 3 90 := ⟨by decide +kernel, rfl⟩
theorem d_X9_seek_90 : DB mi_X9_seek 90 (.if_icmp .ge 48) 48 93 138 := ⟨by decide +kernel, rfl, by decide⟩
theorem d_X9_seek_93 : DC mi_X9_seek 93 (.aload_n 0) 1 94 := ⟨by decide +kernel, rfl⟩
theorem d_X9_seek_94 : DC mi_X9_seek 94 (.getfield 20) 3 97 := ⟨by decide +kernel, rfl⟩
theorem d_X9_seek_97 : DC mi_X9_seek 97 (.iload 5) 2 99 := ⟨by decide +kernel, rfl⟩
theorem d_X9_seek_99 : DC mi_X9_seek 99 (.iaload) 1 100 := ⟨by decide +kernel, rfl⟩
theorem d_X9_seek_100 : DC mi_X9_seek 100 (.iconst (-1)) 1 101 := ⟨by decide +kernel, rfl⟩
theorem d_X9_seek_101 : DB mi_X9_seek 101 (.if_icmp .eq 20) 20 104 121 := ⟨by decide +kernel, rfl, by decide⟩
theorem d_X9_seek_104 : DC mi_X9_seek 104 (.aload_n 0) 1 105 := ⟨by decide +kernel, rfl⟩
theorem d_X9_seek_105 : DC mi_X9_seek 105 (.iload 5) 2 107 := ⟨by decide +kernel, rfl⟩
theorem d_X9_seek_107 : DC mi_X9_seek 107 (.iload 5) 2 109 := ⟨by decide +kernel, rfl⟩
theorem d_X9_seek_109 : DC mi_X9_seek 109 (.iconst 1) 1 110 := ⟨by decide +kernel, rfl⟩
theorem d_X9_seek_110 : DC mi_X9_seek 110 (.iadd) 1 111 := ⟨by decide +kernel, rfl⟩
theorem d_X9_seek_111 : DC mi_X9_seek 111 (.aload_n 0) 1 112 := ⟨by decide +kernel, rfl⟩
theorem d_X9_seek_112 : DC mi_X9_seek 112 (.getfield 20) 3 115 := ⟨by decide +kernel, rfl⟩
theorem d_X9_seek_115 : DC mi_X9_seek 115 (.iload 5) 2 117 := ⟨by decide +kernel, rfl⟩
theorem d_X9_seek_117 : DC mi_X9_seek 117 (.iaload) 1 118 := ⟨by decide +kernel, rfl⟩
theorem d_X9_seek_118 : DC mi_X9_seek 118 (.invokevirtual 55) 3 121 := ⟨by decide +kernel, rfl⟩
theorem d_X9_seek_121 : DC mi_X9_seek 121 (.aload_n 0) 1 122 := ⟨by decide +kernel, rfl⟩
theorem d_X9_seek_122 : DC mi_X9_seek 122 (.iload 5) 2 124 := ⟨by decide +kernel, rfl⟩
theorem d_X9_seek_124 : DC mi_X9_seek 124 (.iconst 1) 1 125 := ⟨by decide +kernel, rfl⟩
theorem d_X9_seek_125 : DC mi_X9_seek 125 (.iadd) 1 126 := ⟨by decide +kernel, rfl⟩
theorem d_X9_seek_126 : DC mi_X9_seek 126 (.iload 5) 2 128 := ⟨by decide +kernel, rfl⟩
theorem d_X9_seek_128 : DC mi_X9_seek 128 (.iconst 0) 1 129 := ⟨by decide +kernel, rfl⟩
theorem d_X9_seek_129 : DC mi_X9_seek 129 (.invokevirtual 55) 3 132 := ⟨by decide +kernel, rfl⟩
theorem d_X9_seek_132 : DC mi_X9_seek 132 (.iinc 5 1) 3 135 := ⟨by decide +kernel, rfl⟩
theorem d_X9_seek_135 : DB mi_X9_seek 135 (.goto (-51)) (-51) 138 84 := ⟨by decide +kernel, rfl, by decide⟩
theorem d_X9_seek_138 : DC mi_X9_seek 138 (.iconst 0) 1 139 := ⟨by decide +kernel, rfl⟩
theorem d_X9_seek_139 : DC mi_X9_seek 139 (.istore 5) 2 141 := ⟨by decide +kernel, rfl⟩
theorem d_X9_seek_141 : DC mi_X9_seek 141 (.iload 5) 2 143 := ⟨by decide +kernel, rfl⟩
theorem d_X9_seek_143 : DC mi_X9_seek 143 (.aload_n 3) 1 144 := ⟨by decide +kernel, rfl⟩
theorem d_X9_seek_144 : DC mi_X9_seek 144 (.getfield 59) 3 147 := ⟨by decide +kernel, rfl⟩
theorem d_X9_seek_147 : DB mi_X9_seek 147 (.if_icmp .ge 59) 59 150 206 := ⟨by decide +kernel, rfl, by decide⟩
theorem d_X9_seek_150 : DC mi_X9_seek 150 (.aload_n 0) 1 151 := ⟨by decide +kernel, rfl⟩
theorem d_X9_seek_151 : DC mi_X9_seek 151 (.aload_n 3) 1 152 := ⟨by decide +kernel, rfl⟩
theorem d_X9_seek_152 : DC mi_X9_seek 152 (.getfield 62) 3 155 := ⟨by decide +kernel, rfl⟩
theorem d_X9_seek_155 : DC mi_X9_seek 155 (.iload 5) 2 157 := ⟨by decide +kernel, rfl⟩
theorem d_X9_seek_157 : DC mi_X9_seek 157 (.iaload) 1 158 := ⟨by decide +kernel, rfl⟩
theorem d_X9_seek_158 : DC mi_X9_seek 158 (.aload_n 3) 1 159 := ⟨by decide +kernel, rfl⟩
theorem d_X9_seek_159 : DC mi_X9_seek 159 (.getfield 65) 3 162 := ⟨by decide +kernel, rfl⟩
theorem d_X9_seek_162 : DC mi_X9_seek 162 (.iload 5) 2 164 := ⟨by decide +kernel, rfl⟩
theorem d_X9_seek_164 : DC mi_X9_seek 164 (.iaload) 1 165 := ⟨by decide +kernel, rfl⟩
theorem d_X9_seek_165 : DC mi_X9_seek 165 (.aload_n 3) 1 166 := ⟨by decide +kernel, rfl⟩
theorem d_X9_seek_166 : DC mi_X9_seek 166 (.getfield 68) 3 169 := ⟨by decide +kernel, rfl⟩
theorem d_X9_seek_169 : DC mi_X9_seek 169 (.iload 5) 2 171 := ⟨by decide +kernel, rfl⟩
theorem d_X9_seek_171 : DC mi_X9_seek 171 (.iaload) 1 172 := ⟨by decide +kernel, rfl⟩
theorem d_X9_seek_172 : DC mi_X9_seek 172 (.invokevirtual 55) 3 175 := ⟨by decide +kernel, rfl⟩
theorem d_X9_seek_175 : DC mi_X9_seek 175 (.aload_n 0) 1 176 := ⟨by decide +kernel, rfl⟩
theorem d_X9_seek_176 : DC mi_X9_seek 176 (.aload_n 3) 1 177 := ⟨by decide +kernel, rfl⟩
theorem d_X9_seek_177 : DC mi_X9_seek 177 (.getfield 65) 3 180 := ⟨by decide +kernel, rfl⟩
theorem d_X9_seek_180 : DC mi_X9_seek 180 (.iload 5) 2 182 := ⟨by decide +kernel, rfl⟩
theorem d_X9_seek_182 : DC mi_X9_seek 182 (.iaload) 1 183 := ⟨by decide +kernel, rfl⟩
theorem d_X9_seek_183 : DC mi_X9_seek 183 (.aload_n 3) 1 184 := ⟨by decide +kernel, rfl⟩
theorem d_X9_seek_184 : DC mi_X9_seek 184 (.getfield 62) 3 187 := ⟨by decide +kernel, rfl⟩
theorem d_X9_seek_187 : DC mi_X9_seek 187 (.iload 5) 2 189 := ⟨by decide +kernel, rfl⟩
theorem d_X9_seek_189 : DC mi_X9_seek 189 (.iaload) 1 190 := ⟨by decide +kernel, rfl⟩
theorem d_X9_seek_190 : DC mi_X9_seek 190 (.aload_n 3) 1 191 := ⟨by decide +kernel, rfl⟩
theorem d_X9_seek_191 : DC mi_X9_seek 191 (.getfield 68) 3 194 := ⟨by decide +kernel, rfl⟩
theorem d_X9_seek_194 : DC mi_X9_seek 194 (.iload 5) 2 196 := ⟨by decide +kernel, rfl⟩
theorem d_X9_seek_196 : DC mi_X9_seek 196 (.iaload) 1 197 := ⟨by decide +kernel, rfl⟩
theorem d_X9_seek_197 : DC mi_X9_seek 197 (.invokevirtual 55) 3 200 := ⟨by decide +kernel, rfl⟩
theorem d_X9_seek_200 : DC mi_X9_seek 200 (.iinc 5 1) 3 203 := ⟨by decide +kernel, rfl⟩
theorem d_X9_seek_203 : DB mi_X9_seek 203 (.goto (-62)) (-62) 206 141 := ⟨by decide +kernel, rfl, by decide⟩
theorem d_X9_seek_206 : DC mi_X9_seek 206 (.iinc 4 1) 3 209 := ⟨by decide +kernel, rfl⟩
theorem d_X9_seek_209 : DB mi_X9_seek 209 (.goto (-137)) (-137) 212 72 := ⟨by decide +kernel, rfl, by decide⟩
theorem d_X9_seek_212 : DC mi_X9_seek 212 (.return_) 1 213 := ⟨by decide +kernel, rfl⟩
set_option maxHeartbeats 4000000 in
set_option maxRecDepth 100000 in
theorem sL_X9_seek_40 (d : Nat) (hd : 4 ≤ d) (K69 : HH → Option (Unit × HH)) (b_this : Nat) (c2 : Int32) (b_p1 : Nat) (e0 : shL[b_this]? = some (.inl 9)) (e3 : shL[b_p1]? = some (.inl 5)) (hK69 : ∀ (h : HH), Sx mi_X9_seek d iU (K69 h) 69 [(0, .ref b_this), (3, .ref b_p1)] [] h) : ∀ (n : Nat) (x4 : Int32) (h : HH), Sx mi_X9_seek d iU (g_X9_seek_L40 K69 b_this c2 b_p1 n x4 h) 40 [(0, .ref b_this), (1, .ref 193), (2, .int c2), (3, .ref b_p1), (4, .int x4)] [] h := by
  intro n
  induction n with
  | zero => intro x4 h; exact sx_none
  | succ n ih =>
    intro x4 h
    rw [g_X9_seek_L40]
    refine sx_iload d_X9_seek_40 4 rfl ?_
    refine sx_aload_n d_X9_seek_42 3 rfl ?_
    refine sx_getI fl_StairCount_Ways_45 e3 rfl d_X9_seek_43 (fun v9 => ?_)
    refine sx_icmp_ge d_X9_seek_46 ?_ ?_
    · refine sx_aload_n d_X9_seek_49 0 rfl ?_
      refine sx_getF (a' := (b_this + 3)) fl_StairCount_Ways_20 e0 rfl rfl d_X9_seek_50 ?_
      refine sx_iload d_X9_seek_53 4 rfl ?_
      refine sx_aload_n d_X9_seek_55 1 rfl ?_
      refine sx_iload_n d_X9_seek_56 2 rfl ?_
      refine sx_iload d_X9_seek_57 4 rfl ?_
      refine sx_callV [.int c2, .int x4] mv_X0_costUp lM_StairCount_Ways_51 sh_193 (by omega) rfl rfl (Nat.le_of_ble_eq_true rfl) d_X9_seek_59 (sp_X0_costUp (d - 1) (by omega) c2 x4 h) (fun r11 h10 => ?_)
      refine sx_iast (shf_9_2 e0) d_X9_seek_62 (fun h12 => ?_)
      refine sx_iincV (lc' := fun v13 => [(4, .int v13), (0, .ref b_this), (1, .ref 193), (2, .int c2), (3, .ref b_p1)]) (k0 := 4) d_X9_seek_63 rfl ii1 (by decide) (fun _ => rfl) (fun v13 => ?_)
      refine sx_goto d_X9_seek_66 ?_
      refine sx_lc (lc' := [(0, .ref b_this), (1, .ref 193), (2, .int c2), (3, .ref b_p1), (4, .int v13)]) [1, 2, 3, 4, 0] rfl ?_
      exact ih v13 h12
    · refine sx_lc (lc' := [(0, .ref b_this), (3, .ref b_p1)]) [0, 3] rfl ?_
      exact hK69 h
set_option maxHeartbeats 4000000 in
set_option maxRecDepth 100000 in
theorem sL_X9_seek_84 (d : Nat) (hd : 4 ≤ d) (K138 : HH → Option (Unit × HH)) (b_b_this : Nat) (b_b_p1 : Nat) (c4 : Int32) (e0 : shL[b_b_this]? = some (.inl 9)) (e3 : shL[b_b_p1]? = some (.inl 5)) (hK138 : ∀ (h : HH), Sx mi_X9_seek d iU (K138 h) 138 [(0, .ref b_b_this), (3, .ref b_b_p1), (4, .int c4)] [] h) : ∀ (n : Nat) (x5 : Int32) (h : HH), Sx mi_X9_seek d iU (g_X9_seek_L84 K138 b_b_this b_b_p1 c4 n x5 h) 84 [(0, .ref b_b_this), (3, .ref b_b_p1), (4, .int c4), (5, .int x5)] [] h := by
  intro n
  induction n with
  | zero => intro x5 h; exact sx_none
  | succ n ih =>
    intro x5 h
    rw [g_X9_seek_L84]
    refine sx_iload d_X9_seek_84 3 rfl ?_
    refine sx_aload_n d_X9_seek_86 1 rfl ?_
    refine sx_getI fl_StairCount_Ways_45 e3 rfl d_X9_seek_87 (fun v16 => ?_)
    refine sx_icmp_ge d_X9_seek_90 ?_ ?_
    · refine sx_aload_n d_X9_seek_93 0 rfl ?_
      refine sx_getF (a' := (b_b_this + 3)) fl_StairCount_Ways_20 e0 rfl rfl d_X9_seek_94 ?_
      refine sx_iload d_X9_seek_97 3 rfl ?_
      refine sx_iald (shf_9_2 e0) d_X9_seek_99 (fun v17 => ?_)
      refine sx_iconst d_X9_seek_100 icm1 ?_
      refine sx_jn (fun j => ∀  (h : HH), Sx mi_X9_seek d iU (j  h) 121 [(0, .ref b_b_this), (3, .ref b_b_p1), (4, .int c4), (5, .int x5)] [] h) ?_ ?_
      · intro  h20
        refine sx_aload_n d_X9_seek_121 0 rfl ?_
        refine sx_iload d_X9_seek_122 3 rfl ?_
        refine sx_iconst d_X9_seek_124 ic1 ?_
        refine sx_iadd d_X9_seek_125 ?_
        refine sx_iload d_X9_seek_126 3 rfl ?_
        refine sx_iconst d_X9_seek_128 ic0 ?_
        refine sx_callV [.int (x5 + (1 : Int32)), .int x5, .int (0 : Int32)] mv_X9_move lM_StairCount_Ways_55 e0 (by omega) rfl rfl (Nat.le_of_ble_eq_true rfl) d_X9_seek_129 (sp_X9_move (d - 1) (by omega) b_b_this (x5 + (1 : Int32)) x5 (0 : Int32) h20) (fun _ h21 => ?_)
        refine sx_iincV (lc' := fun v23 => [(5, .int v23), (0, .ref b_b_this), (3, .ref b_b_p1), (4, .int c4)]) (k0 := 3) d_X9_seek_132 rfl ii1 (by decide) (fun _ => rfl) (fun v23 => ?_)
        refine sx_goto d_X9_seek_135 ?_
        refine sx_lc (lc' := [(0, .ref b_b_this), (3, .ref b_b_p1), (4, .int c4), (5, .int v23)]) [1, 2, 3, 0] rfl ?_
        exact ih v23 h21
      · intro j18 k19
        refine sx_icmp_eq d_X9_seek_101 ?_ ?_
        · exact k19 h
        · refine sx_aload_n d_X9_seek_104 0 rfl ?_
          refine sx_iload d_X9_seek_105 3 rfl ?_
          refine sx_iload d_X9_seek_107 3 rfl ?_
          refine sx_iconst d_X9_seek_109 ic1 ?_
          refine sx_iadd d_X9_seek_110 ?_
          refine sx_aload_n d_X9_seek_111 0 rfl ?_
          refine sx_getF (a' := (b_b_this + 3)) fl_StairCount_Ways_20 e0 rfl rfl d_X9_seek_112 ?_
          refine sx_iload d_X9_seek_115 3 rfl ?_
          refine sx_iald (shf_9_2 e0) d_X9_seek_117 (fun v24 => ?_)
          refine sx_callV [.int x5, .int (x5 + (1 : Int32)), .int v24] mv_X9_move lM_StairCount_Ways_55 e0 (by omega) rfl rfl (Nat.le_of_ble_eq_true rfl) d_X9_seek_118 (sp_X9_move (d - 1) (by omega) b_b_this x5 (x5 + (1 : Int32)) v24 h) (fun _ h25 => ?_)
          exact k19 h25
    · refine sx_lc (lc' := [(0, .ref b_b_this), (3, .ref b_b_p1), (4, .int c4)]) [0, 1, 2] rfl ?_
      exact hK138 h
set_option maxHeartbeats 4000000 in
set_option maxRecDepth 100000 in
theorem sL_X9_seek_141 (d : Nat) (hd : 4 ≤ d) (K206 : HH → Option (Unit × HH)) (b_b_this : Nat) (b_b_p1 : Nat) (c4 : Int32) (e0 : shL[b_b_this]? = some (.inl 9)) (e3 : shL[b_b_p1]? = some (.inl 5)) (hK206 : ∀ (h : HH), Sx mi_X9_seek d iU (K206 h) 206 [(0, .ref b_b_this), (3, .ref b_b_p1), (4, .int c4)] [] h) : ∀ (n : Nat) (x5 : Int32) (h : HH), Sx mi_X9_seek d iU (g_X9_seek_L141 K206 b_b_this b_b_p1 c4 n x5 h) 141 [(0, .ref b_b_this), (3, .ref b_b_p1), (4, .int c4), (5, .int x5)] [] h := by
  intro n
  induction n with
  | zero => intro x5 h; exact sx_none
  | succ n ih =>
    intro x5 h
    rw [g_X9_seek_L141]
    refine sx_iload d_X9_seek_141 3 rfl ?_
    refine sx_aload_n d_X9_seek_143 1 rfl ?_
    refine sx_getI fl_StairCount_Ways_59 e3 rfl d_X9_seek_144 (fun v28 => ?_)
    refine sx_icmp_ge d_X9_seek_147 ?_ ?_
    · refine sx_aload_n d_X9_seek_150 0 rfl ?_
      refine sx_aload_n d_X9_seek_151 1 rfl ?_
      refine sx_getF (a' := (b_b_p1 + 4)) fl_StairCount_Ways_62 e3 rfl rfl d_X9_seek_152 ?_
      refine sx_iload d_X9_seek_155 3 rfl ?_
      refine sx_iald (shf_5_6 e3) d_X9_seek_157 (fun v29 => ?_)
      refine sx_aload_n d_X9_seek_158 1 rfl ?_
      refine sx_getF (a' := (b_b_p1 + 5)) fl_StairCount_Ways_65 e3 rfl rfl d_X9_seek_159 ?_
      refine sx_iload d_X9_seek_162 3 rfl ?_
      refine sx_iald (shf_5_7 e3) d_X9_seek_164 (fun v30 => ?_)
      refine sx_aload_n d_X9_seek_165 1 rfl ?_
      refine sx_getF (a' := (b_b_p1 + 6)) fl_StairCount_Ways_68 e3 rfl rfl d_X9_seek_166 ?_
      refine sx_iload d_X9_seek_169 3 rfl ?_
      refine sx_iald (shf_5_8 e3) d_X9_seek_171 (fun v31 => ?_)
      refine sx_callV [.int v29, .int v30, .int v31] mv_X9_move lM_StairCount_Ways_55 e0 (by omega) rfl rfl (Nat.le_of_ble_eq_true rfl) d_X9_seek_172 (sp_X9_move (d - 1) (by omega) b_b_this v29 v30 v31 h) (fun _ h32 => ?_)
      refine sx_aload_n d_X9_seek_175 0 rfl ?_
      refine sx_aload_n d_X9_seek_176 1 rfl ?_
      refine sx_getF (a' := (b_b_p1 + 5)) fl_StairCount_Ways_65 e3 rfl rfl d_X9_seek_177 ?_
      refine sx_iload d_X9_seek_180 3 rfl ?_
      refine sx_iald (shf_5_7 e3) d_X9_seek_182 (fun v34 => ?_)
      refine sx_aload_n d_X9_seek_183 1 rfl ?_
      refine sx_getF (a' := (b_b_p1 + 4)) fl_StairCount_Ways_62 e3 rfl rfl d_X9_seek_184 ?_
      refine sx_iload d_X9_seek_187 3 rfl ?_
      refine sx_iald (shf_5_6 e3) d_X9_seek_189 (fun v35 => ?_)
      refine sx_aload_n d_X9_seek_190 1 rfl ?_
      refine sx_getF (a' := (b_b_p1 + 6)) fl_StairCount_Ways_68 e3 rfl rfl d_X9_seek_191 ?_
      refine sx_iload d_X9_seek_194 3 rfl ?_
      refine sx_iald (shf_5_8 e3) d_X9_seek_196 (fun v36 => ?_)
      refine sx_callV [.int v34, .int v35, .int v36] mv_X9_move lM_StairCount_Ways_55 e0 (by omega) rfl rfl (Nat.le_of_ble_eq_true rfl) d_X9_seek_197 (sp_X9_move (d - 1) (by omega) b_b_this v34 v35 v36 h32) (fun _ h37 => ?_)
      refine sx_iincV (lc' := fun v39 => [(5, .int v39), (0, .ref b_b_this), (3, .ref b_b_p1), (4, .int c4)]) (k0 := 3) d_X9_seek_200 rfl ii1 (by decide) (fun _ => rfl) (fun v39 => ?_)
      refine sx_goto d_X9_seek_203 ?_
      refine sx_lc (lc' := [(0, .ref b_b_this), (3, .ref b_b_p1), (4, .int c4), (5, .int v39)]) [1, 2, 3, 0] rfl ?_
      exact ih v39 h37
    · refine sx_lc (lc' := [(0, .ref b_b_this), (3, .ref b_b_p1), (4, .int c4)]) [0, 1, 2] rfl ?_
      exact hK206 h
set_option maxHeartbeats 4000000 in
set_option maxRecDepth 100000 in
theorem sL_X9_seek_72 (d : Nat) (hd : 4 ≤ d) (b_this : Nat) (b_p1 : Nat) (e0 : shL[b_this]? = some (.inl 9)) (e3 : shL[b_p1]? = some (.inl 5)) : ∀ (n : Nat) (x4 : Int32) (h : HH), Sx mi_X9_seek d iU (g_X9_seek_L72 b_this b_p1 n x4 h) 72 [(0, .ref b_this), (3, .ref b_p1), (4, .int x4)] [] h := by
  intro n
  induction n with
  | zero => intro x4 h; exact sx_none
  | succ n ih =>
    intro x4 h
    rw [g_X9_seek_L72]
    refine sx_iload d_X9_seek_72 2 rfl ?_
    refine sx_aload_n d_X9_seek_74 1 rfl ?_
    refine sx_getI fl_StairCount_Ways_45 e3 rfl d_X9_seek_75 (fun v15 => ?_)
    refine sx_icmp_ge d_X9_seek_78 ?_ ?_
    · refine sx_iconst d_X9_seek_81 ic0 ?_
      refine sx_istore (i := 5) (lc' := [(5, .int (0 : Int32)), (0, .ref b_this), (3, .ref b_p1), (4, .int x4)]) d_X9_seek_82 (by decide) rfl ?_
      refine sx_lc (lc' := [(0, .ref b_this), (3, .ref b_p1), (4, .int x4), (5, .int (0 : Int32))]) [1, 2, 3, 0] rfl ?_
      refine sL_X9_seek_84 d hd _ b_this b_p1 x4 (e0) (e3) ?_ 1024 (0 : Int32) h
      · intro h27
        refine sx_iconst d_X9_seek_138 ic0 ?_
        refine sx_istore (i := 5) (lc' := [(5, .int (0 : Int32)), (0, .ref b_this), (3, .ref b_p1), (4, .int x4)]) d_X9_seek_139 (by decide) rfl ?_
        refine sx_lc (lc' := [(0, .ref b_this), (3, .ref b_p1), (4, .int x4), (5, .int (0 : Int32))]) [1, 2, 3, 0] rfl ?_
        refine sL_X9_seek_141 d hd _ b_this b_p1 x4 (e0) (e3) ?_ 1024 (0 : Int32) h27
        · intro h40
          refine sx_iincV (lc' := fun v41 => [(4, .int v41), (0, .ref b_this), (3, .ref b_p1)]) (k0 := 2) d_X9_seek_206 rfl ii1 (by decide) (fun _ => rfl) (fun v41 => ?_)
          refine sx_goto d_X9_seek_209 ?_
          refine sx_lc (lc' := [(0, .ref b_this), (3, .ref b_p1), (4, .int v41)]) [1, 2, 0] rfl ?_
          exact ih v41 h40
    · exact sx_vret rfl d_X9_seek_212
set_option maxHeartbeats 4000000 in
set_option maxRecDepth 100000 in
theorem sp_X9_seek (d : Nat) (hd : 4 ≤ d) (this : Nat) (a1 : Int32) (h : HH) : Sp mi_X9_seek d iU [.ref this, .ref 193, .int a1] h (g_X9_seek this a1 h) := by
  refine sp_of (lc := [(0, .ref this), (1, .ref 193), (2, .int a1)]) (by decide) (Nat.le_of_ble_eq_true rfl) rfl ?_
  unfold g_X9_seek
  refine sx_ckH (fun hthis => ?_)
  refine sx_aload_n d_X9_seek_0 1 rfl ?_
  refine sx_getR fl_StairCount_Ways_23 sh_193 rfl d_X9_seek_1 (fun p1 => ?_)
  refine sx_ckH (fun ep1 => ?_)
  refine sx_astore_n (i := 3) (lc' := [(3, .ref p1), (0, .ref this), (1, .ref 193), (2, .int a1)]) d_X9_seek_4 rfl (by decide) rfl ?_
  refine sx_aload_n d_X9_seek_5 1 rfl ?_
  refine sx_getF (a' := (this + 1)) fl_StairCount_Ways_11 hthis rfl rfl d_X9_seek_6 ?_
  refine sx_ldc d_X9_seek_9 lK_StairCount_Ways_29 ?_
  refine sx_callS [.ref (this + 1), .int (2147483647 : Int32)] ms_J7_fill_53178 lM_StairCount_Ways_30 (by omega) rfl rfl (Nat.le_of_ble_eq_true rfl) d_X9_seek_11 (sp_J7_fill_53178 (d - 1) (by omega) (this + 1) (2147483647 : Int32) h) (fun _ h2 => ?_)
  refine sx_aload_n d_X9_seek_14 1 rfl ?_
  refine sx_getF (a' := (this + 2)) fl_StairCount_Ways_17 hthis rfl rfl d_X9_seek_15 ?_
  refine sx_iconst d_X9_seek_18 ic0 ?_
  refine sx_callS [.ref (this + 2), .int (0 : Int32)] ms_J7_fill_53178 lM_StairCount_Ways_30 (by omega) rfl rfl (Nat.le_of_ble_eq_true rfl) d_X9_seek_19 (sp_J7_fill_53178 (d - 1) (by omega) (this + 2) (0 : Int32) h2) (fun _ h4 => ?_)
  refine sx_aload_n d_X9_seek_22 1 rfl ?_
  refine sx_getF (a' := (this + 1)) fl_StairCount_Ways_11 hthis rfl rfl d_X9_seek_23 ?_
  refine sx_aload_n d_X9_seek_26 2 rfl ?_
  refine sx_getR fl_StairCount_Ways_36 sh_193 rfl d_X9_seek_27 (fun p6 => ?_)
  refine sx_ckH (fun ep6 => ?_)
  refine sx_getF (a' := (p6 + 1)) fl_StairCount_Ways_40 ep6 rfl rfl d_X9_seek_30 ?_
  refine sx_iload_n d_X9_seek_33 3 rfl ?_
  refine sx_iald (shf_7_0 ep6) d_X9_seek_34 (fun v7 => ?_)
  refine sx_iconst d_X9_seek_35 ic0 ?_
  refine sx_iast (shf_9_0 hthis) d_X9_seek_36 (fun h8 => ?_)
  refine sx_iconst d_X9_seek_37 ic0 ?_
  refine sx_istore (i := 4) (lc' := [(4, .int (0 : Int32)), (3, .ref p1), (0, .ref this), (1, .ref 193), (2, .int a1)]) d_X9_seek_38 (by decide) rfl ?_
  refine sx_lc (lc' := [(0, .ref this), (1, .ref 193), (2, .int a1), (3, .ref p1), (4, .int (0 : Int32))]) [2, 3, 4, 1, 0] rfl ?_
  refine sL_X9_seek_40 d hd _ this a1 p1 (hthis) (ep1) ?_ 1024 (0 : Int32) h8
  · intro h14
    refine sx_iconst d_X9_seek_69 ic0 ?_
    refine sx_istore (i := 4) (lc' := [(4, .int (0 : Int32)), (0, .ref this), (3, .ref p1)]) d_X9_seek_70 (by decide) rfl ?_
    refine sx_lc (lc' := [(0, .ref this), (3, .ref p1), (4, .int (0 : Int32))]) [1, 2, 0] rfl ?_
    refine sL_X9_seek_72 d hd this p1 (hthis) (ep1) 1024 (0 : Int32) h14
theorem d_X10_putBytes_0 : DC mi_X10_putBytes 0 (.bipush 24) 2 2 := ⟨by decide +kernel, rfl⟩
theorem d_X10_putBytes_2 : DC mi_X10_putBytes 2 (.istore_n 2) 1 3 := ⟨by decide +kernel, rfl⟩
theorem d_X10_putBytes_3 : DC mi_X10_putBytes 3 (.iload_n 2) 1 4 := ⟨by decide +kernel, rfl⟩
theorem d_X10_putBytes_4 : DB mi_X10_putBytes 4 (.ifCond .lt 42) 42 7 46 := ⟨by decide +kernel, rfl, by decide⟩
theorem d_X10_putBytes_7 : DC mi_X10_putBytes 7 (.aload_n 0) 1 8 := ⟨by decide +kernel, rfl⟩
theorem d_X10_putBytes_8 : DC mi_X10_putBytes 8 (.getfield 75) 3 11 := ⟨by decide +kernel, rfl⟩
theorem d_X10_putBytes_11 : DC mi_X10_putBytes 11 (.sipush 700) 3 14 := ⟨by decide +kernel, rfl⟩
theorem d_X10_putBytes_14 : DB mi_X10_putBytes 14 (.if_icmp .ge 32) 32 17 46 := ⟨by decide +kernel, rfl, by decide⟩
theorem d_X10_putBytes_17 : DC mi_X10_putBytes 17 (.aload_n 0) 1 18 := ⟨by decide +kernel, rfl⟩
theorem d_X10_putBytes_18 : DC mi_X10_putBytes 18 (.getfield 9) 3 21 := ⟨by decide +kernel, rfl⟩
theorem d_X10_putBytes_21 : DC mi_X10_putBytes 21 (.aload_n 0) 1 22 := ⟨by decide +kernel, rfl⟩
theorem d_X10_putBytes_22 : DC mi_X10_putBytes 22 (.getfield 75) 3 25 := ⟨by decide +kernel, rfl⟩
theorem d_X10_putBytes_25 : DC mi_X10_putBytes 25 (.iload_n 1) 1 26 := ⟨by decide +kernel, rfl⟩
theorem d_X10_putBytes_26 : DC mi_X10_putBytes 26 (.iload_n 2) 1 27 := ⟨by decide +kernel, rfl⟩
theorem d_X10_putBytes_27 : DC mi_X10_putBytes 27 (.iushr) 1 28 := ⟨by decide +kernel, rfl⟩
theorem d_X10_putBytes_28 : DC mi_X10_putBytes 28 (.i2b) 1 29 := ⟨by decide +kernel, rfl⟩
theorem d_X10_putBytes_29 : DC mi_X10_putBytes 29 (.bastore) 1 30 := ⟨by decide +kernel, rfl⟩
theorem d_X10_putBytes_30 : DC mi_X10_putBytes 30 (.aload_n 0) 1 31 := ⟨by decide +kernel, rfl⟩
theorem d_X10_putBytes_31 : DC mi_X10_putBytes 31 (.dup) 1 32 := ⟨by decide +kernel, rfl⟩
theorem d_X10_putBytes_32 : DC mi_X10_putBytes 32 (.getfield 75) 3 35 := ⟨by decide +kernel, rfl⟩
theorem d_X10_putBytes_35 : DC mi_X10_putBytes 35 (.iconst 1) 1 36 := ⟨by decide +kernel, rfl⟩
theorem d_X10_putBytes_36 : DC mi_X10_putBytes 36 (.iadd) 1 37 := ⟨by decide +kernel, rfl⟩
theorem d_X10_putBytes_37 : DC mi_X10_putBytes 37 (.putfield 75) 3 40 := ⟨by decide +kernel, rfl⟩
theorem d_X10_putBytes_40 : DC mi_X10_putBytes 40 (.iinc 2 (-8)) 3 43 := ⟨by decide +kernel, rfl⟩
theorem d_X10_putBytes_43 : DB mi_X10_putBytes 43 (.goto (-40)) (-40) 46 3 := ⟨by decide +kernel, rfl, by decide⟩
theorem d_X10_putBytes_46 : DC mi_X10_putBytes 46 (.return_) 1 47 := ⟨by decide +kernel, rfl⟩
set_option maxHeartbeats 4000000 in
set_option maxRecDepth 100000 in
theorem sL_X10_putBytes_3 (d : Nat) (hd : 0 ≤ d) (c1 : Int32) : ∀ (n : Nat) (x2 : Int32) (h : HH), Sx mi_X10_putBytes d iU (g_X10_putBytes_L3 c1 n x2 h) 3 [(0, .ref 0), (1, .int c1), (2, .int x2)] [] h := by
  intro n
  induction n with
  | zero => intro x2 h; exact sx_none
  | succ n ih =>
    intro x2 h
    rw [g_X10_putBytes_L3]
    refine sx_iload_n d_X10_putBytes_3 2 rfl ?_
    refine sx_if_lt d_X10_putBytes_4 ?_ ?_
    · exact sx_vret rfl d_X10_putBytes_46
    · refine sx_aload_n d_X10_putBytes_7 0 rfl ?_
      refine sx_getI fl_StairCount_75 sh_0 rfl d_X10_putBytes_8 (fun v1 => ?_)
      refine sx_sipush d_X10_putBytes_11 sc700 ?_
      refine sx_icmp_ge d_X10_putBytes_14 ?_ ?_
      · refine sx_aload_n d_X10_putBytes_17 0 rfl ?_
        refine sx_getF (a' := 1) fl_StairCount_9 sh_0 rfl rfl d_X10_putBytes_18 ?_
        refine sx_aload_n d_X10_putBytes_21 0 rfl ?_
        refine sx_getI fl_StairCount_75 sh_0 rfl d_X10_putBytes_22 (fun v2 => ?_)
        refine sx_iload_n d_X10_putBytes_25 1 rfl ?_
        refine sx_iload_n d_X10_putBytes_26 2 rfl ?_
        refine sx_iushr d_X10_putBytes_27 ?_
        refine sx_i2b d_X10_putBytes_28 ?_
        refine sx_bast sh_1 d_X10_putBytes_29 (fun h3 => ?_)
        refine sx_aload_n d_X10_putBytes_30 0 rfl ?_
        refine sx_dup d_X10_putBytes_31 rfl ?_
        refine sx_getI fl_StairCount_75 sh_0 rfl d_X10_putBytes_32 (fun v4 => ?_)
        refine sx_iconst d_X10_putBytes_35 ic1 ?_
        refine sx_iadd d_X10_putBytes_36 ?_
        refine sx_putI fl_StairCount_75 sh_0 rfl hty_10_1 d_X10_putBytes_37 (fun h5 => ?_)
        refine sx_iincV (lc' := fun v6 => [(2, .int v6), (0, .ref 0), (1, .int c1)]) (k0 := 2) d_X10_putBytes_40 rfl iim8 (by decide) (fun _ => rfl) (fun v6 => ?_)
        refine sx_goto d_X10_putBytes_43 ?_
        refine sx_lc (lc' := [(0, .ref 0), (1, .int c1), (2, .int v6)]) [1, 2, 0] rfl ?_
        exact ih v6 h5
      · exact sx_vret rfl d_X10_putBytes_46
set_option maxHeartbeats 4000000 in
set_option maxRecDepth 100000 in
theorem sp_X10_putBytes (d : Nat) (hd : 0 ≤ d) (a0 : Int32) (h : HH) : Sp mi_X10_putBytes d iU [.ref 0, .int a0] h (g_X10_putBytes a0 h) := by
  refine sp_of (lc := [(0, .ref 0), (1, .int a0)]) (by decide) (Nat.le_of_ble_eq_true rfl) rfl ?_
  unfold g_X10_putBytes
  refine sx_bipush d_X10_putBytes_0 bc24 ?_
  refine sx_istore_n (i := 2) (lc' := [(2, .int (24 : Int32)), (0, .ref 0), (1, .int a0)]) d_X10_putBytes_2 rfl (by decide) rfl ?_
  refine sx_lc (lc' := [(0, .ref 0), (1, .int a0), (2, .int (24 : Int32))]) [1, 2, 0] rfl ?_
  refine sL_X10_putBytes_3 d hd a0 1024 (24 : Int32) h
theorem d_X10_feed_0 : DC mi_X10_feed 0 (.aload_n 0) 1 1 := ⟨by decide +kernel, rfl⟩
theorem d_X10_feed_1 : DC mi_X10_feed 1 (.getfield 75) 3 4 := ⟨by decide +kernel, rfl⟩
theorem d_X10_feed_4 : DC mi_X10_feed 4 (.bipush 20) 2 6 := ⟨by decide +kernel, rfl⟩
theorem d_X10_feed_6 : DC mi_X10_feed 6 (.iadd) 1 7 := ⟨by decide +kernel, rfl⟩
theorem d_X10_feed_7 : DC mi_X10_feed 7 (.sipush 700) 3 10 := ⟨by decide +kernel, rfl⟩
theorem d_X10_feed_10 : DB mi_X10_feed 10 (.if_icmp .le 5) 5 13 15 := ⟨by decide +kernel, rfl, by decide⟩
theorem d_X10_feed_13 : DC mi_X10_feed 13 (.iconst (-1)) 1 14 := ⟨by decide +kernel, rfl⟩
theorem d_X10_feed_14 : DC mi_X10_feed 14 (.ireturn) 1 15 := ⟨by decide +kernel, rfl⟩
theorem d_X10_feed_15 : DC mi_X10_feed 15 (.aload_n 0) 1 16 := ⟨by decide +kernel, rfl⟩
theorem d_X10_feed_16 : DC mi_X10_feed 16 (.iload_n 1) 1 17 := ⟨by decide +kernel, rfl⟩
theorem d_X10_feed_17 : DC mi_X10_feed 17 (.invokevirtual 79) 3 20 := ⟨by decide +kernel, rfl⟩
theorem d_X10_feed_20 : DC mi_X10_feed 20 (.aload_n 0) 1 21 := ⟨by decide +kernel, rfl⟩
theorem d_X10_feed_21 : DC mi_X10_feed 21 (.iload_n 2) 1 22 := ⟨by decide +kernel, rfl⟩
theorem d_X10_feed_22 : DC mi_X10_feed 22 (.invokevirtual 79) 3 25 := ⟨by decide +kernel, rfl⟩
theorem d_X10_feed_25 : DC mi_X10_feed 25 (.aload_n 0) 1 26 := ⟨by decide +kernel, rfl⟩
theorem d_X10_feed_26 : DC mi_X10_feed 26 (.iload_n 3) 1 27 := ⟨by decide +kernel, rfl⟩
theorem d_X10_feed_27 : DC mi_X10_feed 27 (.invokevirtual 79) 3 30 := ⟨by decide +kernel, rfl⟩
theorem d_X10_feed_30 : DC mi_X10_feed 30 (.aload_n 0) 1 31 := ⟨by decide +kernel, rfl⟩
theorem d_X10_feed_31 : DC mi_X10_feed 31 (.iload 4) 2 33 := ⟨by decide +kernel, rfl⟩
theorem d_X10_feed_33 : DC mi_X10_feed 33 (.invokevirtual 79) 3 36 := ⟨by decide +kernel, rfl⟩
theorem d_X10_feed_36 : DC mi_X10_feed 36 (.aload_n 0) 1 37 := ⟨by decide +kernel, rfl⟩
theorem d_X10_feed_37 : DC mi_X10_feed 37 (.iload 5) 2 39 := ⟨by decide +kernel, rfl⟩
theorem d_X10_feed_39 : DC mi_X10_feed 39 (.invokevirtual 79) 3 42 := ⟨by decide +kernel, rfl⟩
theorem d_X10_feed_42 : DC mi_X10_feed 42 (.aload_n 0) 1 43 := ⟨by decide +kernel, rfl⟩
theorem d_X10_feed_43 : DC mi_X10_feed 43 (.getfield 75) 3 46 := ⟨by decide +kernel, rfl⟩
theorem d_X10_feed_46 : DC mi_X10_feed 46 (.ireturn) 1 47 := ⟨by decide +kernel, rfl⟩
set_option maxHeartbeats 4000000 in
set_option maxRecDepth 100000 in
theorem sp_X10_feed (d : Nat) (hd : 1 ≤ d) (a0 : Int32) (a1 : Int32) (a2 : Int32) (a3 : Int32) (a4 : Int32) (h : HH) : Sp mi_X10_feed d iI [.ref 0, .int a0, .int a1, .int a2, .int a3, .int a4] h (g_X10_feed a0 a1 a2 a3 a4 h) := by
  refine sp_of (lc := [(0, .ref 0), (1, .int a0), (2, .int a1), (3, .int a2), (4, .int a3), (5, .int a4)]) (by decide) (Nat.le_of_ble_eq_true rfl) rfl ?_
  unfold g_X10_feed
  refine sx_aload_n d_X10_feed_0 0 rfl ?_
  refine sx_getI fl_StairCount_75 sh_0 rfl d_X10_feed_1 (fun v1 => ?_)
  refine sx_bipush d_X10_feed_4 bc20 ?_
  refine sx_iadd d_X10_feed_6 ?_
  refine sx_sipush d_X10_feed_7 sc700 ?_
  refine sx_icmp_le d_X10_feed_10 ?_ ?_
  · refine sx_iconst d_X10_feed_13 icm1 ?_
    exact sx_iret rfl d_X10_feed_14
  · refine sx_aload_n d_X10_feed_15 0 rfl ?_
    refine sx_iload_n d_X10_feed_16 1 rfl ?_
    refine sx_callV [.int a0] mv_X10_putBytes lM_StairCount_79 sh_0 (by omega) rfl rfl (Nat.le_of_ble_eq_true rfl) d_X10_feed_17 (sp_X10_putBytes (d - 1) (by omega) a0 h) (fun _ h2 => ?_)
    refine sx_aload_n d_X10_feed_20 0 rfl ?_
    refine sx_iload_n d_X10_feed_21 2 rfl ?_
    refine sx_callV [.int a1] mv_X10_putBytes lM_StairCount_79 sh_0 (by omega) rfl rfl (Nat.le_of_ble_eq_true rfl) d_X10_feed_22 (sp_X10_putBytes (d - 1) (by omega) a1 h2) (fun _ h4 => ?_)
    refine sx_aload_n d_X10_feed_25 0 rfl ?_
    refine sx_iload_n d_X10_feed_26 3 rfl ?_
    refine sx_callV [.int a2] mv_X10_putBytes lM_StairCount_79 sh_0 (by omega) rfl rfl (Nat.le_of_ble_eq_true rfl) d_X10_feed_27 (sp_X10_putBytes (d - 1) (by omega) a2 h4) (fun _ h6 => ?_)
    refine sx_aload_n d_X10_feed_30 0 rfl ?_
    refine sx_iload d_X10_feed_31 4 rfl ?_
    refine sx_callV [.int a3] mv_X10_putBytes lM_StairCount_79 sh_0 (by omega) rfl rfl (Nat.le_of_ble_eq_true rfl) d_X10_feed_33 (sp_X10_putBytes (d - 1) (by omega) a3 h6) (fun _ h8 => ?_)
    refine sx_aload_n d_X10_feed_36 0 rfl ?_
    refine sx_iload d_X10_feed_37 5 rfl ?_
    refine sx_callV [.int a4] mv_X10_putBytes lM_StairCount_79 sh_0 (by omega) rfl rfl (Nat.le_of_ble_eq_true rfl) d_X10_feed_39 (sp_X10_putBytes (d - 1) (by omega) a4 h8) (fun _ h10 => ?_)
    refine sx_aload_n d_X10_feed_42 0 rfl ?_
    refine sx_getI fl_StairCount_75 sh_0 rfl d_X10_feed_43 (fun v12 => ?_)
    exact sx_iret rfl d_X10_feed_46
theorem d_X10_text_0 : DC mi_X10_text 0 (.iload_n 1) 1 1 := ⟨by decide +kernel, rfl⟩
theorem d_X10_text_1 : DB mi_X10_text 1 (.ifCond .lt 11) 11 4 12 := ⟨by decide +kernel, rfl, by decide⟩
theorem d_X10_text_4 : DC mi_X10_text 4 (.iload_n 1) 1 5 := ⟨by decide +kernel, rfl⟩
theorem d_X10_text_5 : DC mi_X10_text 5 (.aload_n 0) 1 6 := ⟨by decide +kernel, rfl⟩
theorem d_X10_text_6 : DC mi_X10_text 6 (.getfield 75) 3 9 := ⟨by decide +kernel, rfl⟩
theorem d_X10_text_9 : DB mi_X10_text 9 (.if_icmp .le 6) 6 12 15 := ⟨by decide +kernel, rfl, by decide⟩
theorem d_X10_text_12 : DC mi_X10_text 12 (.bipush (-2)) 2 14 := ⟨by decide +kernel, rfl⟩
theorem d_X10_text_14 : DC mi_X10_text 14 (.ireturn) 1 15 := ⟨by decide +kernel, rfl⟩
theorem d_X10_text_15 : DC mi_X10_text 15 (.aload_n 0) 1 16 := ⟨by decide +kernel, rfl⟩
theorem d_X10_text_16 : DC mi_X10_text 16 (.iconst 0) 1 17 := ⟨by decide +kernel, rfl⟩
theorem d_X10_text_17 : DC mi_X10_text 17 (.putfield 75) 3 20 := ⟨by decide +kernel, rfl⟩
theorem d_X10_text_20 : DC mi_X10_text 20 (.aload_n 0) 1 21 := ⟨by decide +kernel, rfl⟩
theorem d_X10_text_21 : DC mi_X10_text 21 (.getfield 23) 3 24 := ⟨by decide +kernel, rfl⟩
theorem d_X10_text_24 : DC mi_X10_text 24 (.aload_n 0) 1 25 := ⟨by decide +kernel, rfl⟩
theorem d_X10_text_25 : DC mi_X10_text 25 (.getfield 9) 3 28 := ⟨by decide +kernel, rfl⟩
theorem d_X10_text_28 : DC mi_X10_text 28 (.iload_n 1) 1 29 := ⟨by decide +kernel, rfl⟩
theorem d_X10_text_29 : DC mi_X10_text 29 (.invokevirtual 83) 3 32 := ⟨by decide +kernel, rfl⟩
theorem d_X10_text_32 : DC mi_X10_text 32 (.istore_n 2) 1 33 := ⟨by decide +kernel, rfl⟩
theorem d_X10_text_33 : DC mi_X10_text 33 (.aload_n 0) 1 34 := ⟨by decide +kernel, rfl⟩
theorem d_X10_text_34 : DC mi_X10_text 34 (.getfield 23) 3 37 := ⟨by decide +kernel, rfl⟩
theorem d_X10_text_37 : DC mi_X10_text 37 (.getfield 87) 3 40 := ⟨by decide +kernel, rfl⟩
theorem d_X10_text_40 : DB mi_X10_text 40 (.ifCond .eq 5) 5 43 45 := ⟨by decide +kernel, rfl, by decide⟩
theorem d_X10_text_43 : DC mi_X10_text 43 (.iconst (-1)) 1 44 := ⟨by decide +kernel, rfl⟩
theorem d_X10_text_44 : DC mi_X10_text 44 (.ireturn) 1 45 := ⟨by decide +kernel, rfl⟩
theorem d_X10_text_45 : DC mi_X10_text 45 (.aload_n 0) 1 46 := ⟨by decide +kernel, rfl⟩
theorem d_X10_text_46 : DC mi_X10_text 46 (.getfield 23) 3 49 := ⟨by decide +kernel, rfl⟩
theorem d_X10_text_49 : DC mi_X10_text 49 (.getfield 90) 3 52 := ⟨by decide +kernel, rfl⟩
theorem d_X10_text_52 : DC mi_X10_text 52 (.astore_n 3) 1 53 := ⟨by decide +kernel, rfl⟩
theorem d_X10_text_53 : DC mi_X10_text 53 (.aload_n 0) 1 54 := ⟨by decide +kernel, rfl⟩
theorem d_X10_text_54 : DC mi_X10_text 54 (.getfield 23) 3 57 := ⟨by decide +kernel, rfl⟩
theorem d_X10_text_57 : DC mi_X10_text 57 (.aload_n 0) 1 58 := ⟨by decide +kernel, rfl⟩
theorem d_X10_text_58 : DC mi_X10_text 58 (.getfield 16) 3 61 := ⟨by decide +kernel, rfl⟩
theorem d_X10_text_61 : DC mi_X10_text 61 (.putfield 90) 3 64 := ⟨by decide +kernel, rfl⟩
theorem d_X10_text_64 : DC mi_X10_text 64 (.aload_n 0) 1 65 := ⟨by decide +kernel, rfl⟩
theorem d_X10_text_65 : DC mi_X10_text 65 (.aload_n 3) 1 66 := ⟨by decide +kernel, rfl⟩
theorem d_X10_text_66 : DC mi_X10_text 66 (.putfield 16) 3 69 := ⟨by decide +kernel, rfl⟩
theorem d_X10_text_69 : DC mi_X10_text 69 (.aload_n 0) 1 70 := ⟨by decide +kernel, rfl⟩
theorem d_X10_text_70 : DC mi_X10_text 70 (.getfield 30) 3 73 := ⟨by decide +kernel, rfl⟩
theorem d_X10_text_73 : DC mi_X10_text 73 (.aload_n 0) 1 74 := ⟨by decide +kernel, rfl⟩
theorem d_X10_text_74 : DC mi_X10_text 74 (.getfield 16) 3 77 := ⟨by decide +kernel, rfl⟩
theorem d_X10_text_77 : DC mi_X10_text 77 (.getfield 91) 3 80 := ⟨by decide +kernel, rfl⟩
theorem d_X10_text_80 : DC mi_X10_text 80 (.invokevirtual 94) 3 83 := ⟨by decide +kernel, rfl⟩
theorem d_X10_text_83 : DC mi_X10_text 83 (.aload_n 0) 1 84 := ⟨by decide +kernel, rfl⟩
theorem d_X10_text_84 : DC mi_X10_text 84 (.getfield 47) 3 87 := ⟨by decide +kernel, rfl⟩
theorem d_X10_text_87 : DC mi_X10_text 87 (.invokevirtual 98) 3 90 := ⟨by decide +kernel, rfl⟩
theorem d_X10_text_90 : DC mi_X10_text 90 (.aload_n 0) 1 91 := ⟨by decide +kernel, rfl⟩
theorem d_X10_text_91 : DC mi_X10_text 91 (.iconst 0) 1 92 := ⟨by decide +kernel, rfl⟩
theorem d_X10_text_92 : DC mi_X10_text 92 (.putfield 101) 3 95 := ⟨by decide +kernel, rfl⟩
theorem d_X10_text_95 : DC mi_X10_text 95 (.aload_n 0) 1 96 := ⟨by decide +kernel, rfl⟩
theorem d_X10_text_96 : DC mi_X10_text 96 (.getfield 40) 3 99 := ⟨by decide +kernel, rfl⟩
theorem d_X10_text_99 : DC mi_X10_text 99 (.invokevirtual 105) 3 102 := ⟨by decide +kernel, rfl⟩
theorem d_X10_text_102 : DC mi_X10_text 102 (.iload_n 2) 1 103 := ⟨by decide +kernel, rfl⟩
theorem d_X10_text_103 : DC mi_X10_text 103 (.ireturn) 1 104 := ⟨by decide +kernel, rfl⟩
set_option maxHeartbeats 4000000 in
set_option maxRecDepth 100000 in
theorem sp_X10_text (d : Nat) (hd : 10 ≤ d) (a0 : Int32) (h : HH) : Sp mi_X10_text d iI [.ref 0, .int a0] h (g_X10_text a0 h) := by
  refine sp_of (lc := [(0, .ref 0), (1, .int a0)]) (by decide) (Nat.le_of_ble_eq_true rfl) rfl ?_
  unfold g_X10_text
  refine sx_iload_n d_X10_text_0 1 rfl ?_
  refine sx_if_lt d_X10_text_1 ?_ ?_
  · refine sx_bipush d_X10_text_12 bcm2 ?_
    exact sx_iret rfl d_X10_text_14
  · refine sx_iload_n d_X10_text_4 1 rfl ?_
    refine sx_aload_n d_X10_text_5 0 rfl ?_
    refine sx_getI fl_StairCount_75 sh_0 rfl d_X10_text_6 (fun v1 => ?_)
    refine sx_icmp_le d_X10_text_9 ?_ ?_
    · refine sx_bipush d_X10_text_12 bcm2 ?_
      exact sx_iret rfl d_X10_text_14
    · refine sx_aload_n d_X10_text_15 0 rfl ?_
      refine sx_iconst d_X10_text_16 ic0 ?_
      refine sx_putI fl_StairCount_75 sh_0 rfl hty_10_1 d_X10_text_17 (fun h2 => ?_)
      refine sx_aload_n d_X10_text_20 0 rfl ?_
      refine sx_getF (a' := 24) fl_StairCount_23 sh_0 rfl rfl d_X10_text_21 ?_
      refine sx_aload_n d_X10_text_24 0 rfl ?_
      refine sx_getF (a' := 1) fl_StairCount_9 sh_0 rfl rfl d_X10_text_25 ?_
      refine sx_iload_n d_X10_text_28 1 rfl ?_
      refine sx_callV [.ref 1, .int a0] mv_X6_read lM_StairCount_83 sh_24 (by omega) rfl rfl (Nat.le_of_ble_eq_true rfl) d_X10_text_29 (sp_X6_read (d - 1) (by omega) a0 h2) (fun r4 h3 => ?_)
      refine sx_istore_n (i := 2) (lc' := [(2, .int r4), (0, .ref 0), (1, .int a0)]) d_X10_text_32 rfl (by decide) rfl ?_
      refine sx_aload_n d_X10_text_33 1 rfl ?_
      refine sx_getF (a' := 24) fl_StairCount_23 sh_0 rfl rfl d_X10_text_34 ?_
      refine sx_getI fl_StairCount_87 sh_24 rfl d_X10_text_37 (fun v5 => ?_)
      refine sx_if_eq d_X10_text_40 ?_ ?_
      · refine sx_aload_n d_X10_text_45 1 rfl ?_
        refine sx_getF (a' := 24) fl_StairCount_23 sh_0 rfl rfl d_X10_text_46 ?_
        refine sx_getR fl_StairCount_90 sh_24 rfl d_X10_text_49 (fun p6 => ?_)
        refine sx_ckH (fun ep6 => ?_)
        refine sx_astore_n (i := 3) (lc' := [(3, .ref p6), (2, .int r4), (0, .ref 0), (1, .int a0)]) d_X10_text_52 rfl (by decide) rfl ?_
        refine sx_aload_n d_X10_text_53 2 rfl ?_
        refine sx_getF (a' := 24) fl_StairCount_23 sh_0 rfl rfl d_X10_text_54 ?_
        refine sx_aload_n d_X10_text_57 2 rfl ?_
        refine sx_getR fl_StairCount_16 sh_0 rfl d_X10_text_58 (fun p7 => ?_)
        refine sx_ckH (fun ep7 => ?_)
        refine sx_putR (ty := (.object "StairCount$Plan")) fl_StairCount_90 sh_24 rfl hty_6_2 (fun _ => ⟨rfl, rfl⟩) rfl d_X10_text_61 (fun h8 => ?_)
        refine sx_aload_n d_X10_text_64 2 rfl ?_
        refine sx_aload_n d_X10_text_65 0 rfl ?_
        refine sx_putR (ty := (.object "StairCount$Plan")) fl_StairCount_16 sh_0 rfl hty_10_2 (fun _ => ⟨rfl, rfl⟩) rfl d_X10_text_66 (fun h9 => ?_)
        refine sx_aload_n d_X10_text_69 2 rfl ?_
        refine sx_getF (a' := 52) fl_StairCount_30 sh_0 rfl rfl d_X10_text_70 ?_
        refine sx_aload_n d_X10_text_73 2 rfl ?_
        refine sx_getR fl_StairCount_16 sh_0 rfl d_X10_text_74 (fun p10 => ?_)
        refine sx_ckH (fun ep10 => ?_)
        refine sx_getF (a' := (p10 + 16)) fl_StairCount_91 ep10 rfl rfl d_X10_text_77 ?_
        refine sx_callV [.ref (p10 + 16)] mv_X7_take lM_StairCount_94 sh_52 (by omega) rfl rfl (Nat.le_of_ble_eq_true rfl) d_X10_text_80 (sp_X7_take (d - 1) (by omega) 52 (p10 + 16) h9) (fun _ h11 => ?_)
        refine sx_aload_n d_X10_text_83 2 rfl ?_
        refine sx_getF (a' := 186) fl_StairCount_47 sh_0 rfl rfl d_X10_text_84 ?_
        refine sx_callV [] mv_X3_clear lM_StairCount_98 sh_186 (by omega) rfl rfl (Nat.le_of_ble_eq_true rfl) d_X10_text_87 (sp_X3_clear (d - 1) (by omega) h11) (fun _ h13 => ?_)
        refine sx_aload_n d_X10_text_90 2 rfl ?_
        refine sx_iconst d_X10_text_91 ic0 ?_
        refine sx_putZ (by decide) fl_StairCount_101 sh_0 rfl hty_10_6 d_X10_text_92 (fun h15 => ?_)
        refine sx_aload_n d_X10_text_95 2 rfl ?_
        refine sx_getF (a' := 64) fl_StairCount_40 sh_0 rfl rfl d_X10_text_96 ?_
        refine sx_callV [] mv_X4_clear lM_StairCount_105 sh_64 (by omega) rfl rfl (Nat.le_of_ble_eq_true rfl) d_X10_text_99 (sp_X4_clear (d - 1) (by omega) h15) (fun _ h16 => ?_)
        refine sx_iload_n d_X10_text_102 1 rfl ?_
        exact sx_iret rfl d_X10_text_103
      · refine sx_iconst d_X10_text_43 icm1 ?_
        exact sx_iret rfl d_X10_text_44
theorem d_X10_fault_0 : DC mi_X10_fault 0 (.iload_n 1) 1 1 := ⟨by decide +kernel, rfl⟩
theorem d_X10_fault_1 : DB mi_X10_fault 1 (.ifCond .ne 11) 11 4 12 := ⟨by decide +kernel, rfl, by decide⟩
theorem d_X10_fault_4 : DC mi_X10_fault 4 (.aload_n 0) 1 5 := ⟨by decide +kernel, rfl⟩
theorem d_X10_fault_5 : DC mi_X10_fault 5 (.getfield 23) 3 8 := ⟨by decide +kernel, rfl⟩
theorem d_X10_fault_8 : DC mi_X10_fault 8 (.getfield 87) 3 11 := ⟨by decide +kernel, rfl⟩
theorem d_X10_fault_11 : DC mi_X10_fault 11 (.ireturn) 1 12 := ⟨by decide +kernel, rfl⟩
theorem d_X10_fault_12 : DC mi_X10_fault 12 (.iload_n 1) 1 13 := ⟨by decide +kernel, rfl⟩
theorem d_X10_fault_13 : DC mi_X10_fault 13 (.iconst 1) 1 14 := ⟨by decide +kernel, rfl⟩
theorem d_X10_fault_14 : DB mi_X10_fault 14 (.if_icmp .ne 23) 23 17 37 := ⟨by decide +kernel, rfl, by decide⟩
theorem d_X10_fault_17 : DC mi_X10_fault 17 (.aload_n 0) 1 18 := ⟨by decide +kernel, rfl⟩
theorem d_X10_fault_18 : DC mi_X10_fault 18 (.getfield 23) 3 21 := ⟨by decide +kernel, rfl⟩
theorem d_X10_fault_21 : DC mi_X10_fault 21 (.getfield 87) 3 24 := ⟨by decide +kernel, rfl⟩
theorem d_X10_fault_24 : DB mi_X10_fault 24 (.ifCond .eq 13) 13 27 37 := ⟨by decide +kernel, rfl, by decide⟩
theorem d_X10_fault_27 : DC mi_X10_fault 27 (.aload_n 0) 1 28 := ⟨by decide +kernel, rfl⟩
theorem d_X10_fault_28 : DC mi_X10_fault 28 (.getfield 23) 3 31 := ⟨by decide +kernel, rfl⟩
theorem d_X10_fault_31 : DC mi_X10_fault 31 (.getfield 106) 3 34 := ⟨by decide +kernel, rfl⟩
theorem d_X10_fault_34 : DB mi_X10_fault 34 (.goto 4) 4 37 38 := ⟨by decide +kernel, rfl, by decide⟩
theorem d_X10_fault_37 : DC mi_X10_fault 37 (.iconst (-1)) 1 38 := ⟨by decide +kernel, rfl⟩
theorem d_X10_fault_38 : DC mi_X10_fault 38 (.ireturn) 1 39 := ⟨by decide +kernel, rfl⟩
set_option maxHeartbeats 4000000 in
set_option maxRecDepth 100000 in
theorem sp_X10_fault (d : Nat) (hd : 0 ≤ d) (a0 : Int32) (h : HH) : Sp mi_X10_fault d iI [.ref 0, .int a0] h (g_X10_fault a0 h) := by
  refine sp_of (lc := [(0, .ref 0), (1, .int a0)]) (by decide) (Nat.le_of_ble_eq_true rfl) rfl ?_
  unfold g_X10_fault
  refine sx_iload_n d_X10_fault_0 1 rfl ?_
  refine sx_if_ne d_X10_fault_1 ?_ ?_
  · refine sx_aload_n d_X10_fault_4 0 rfl ?_
    refine sx_getF (a' := 24) fl_StairCount_23 sh_0 rfl rfl d_X10_fault_5 ?_
    refine sx_getI fl_StairCount_87 sh_24 rfl d_X10_fault_8 (fun v1 => ?_)
    exact sx_iret rfl d_X10_fault_11
  · refine sx_iload_n d_X10_fault_12 1 rfl ?_
    refine sx_iconst d_X10_fault_13 ic1 ?_
    refine sx_icmp_ne d_X10_fault_14 ?_ ?_
    · refine sx_aload_n d_X10_fault_17 0 rfl ?_
      refine sx_getF (a' := 24) fl_StairCount_23 sh_0 rfl rfl d_X10_fault_18 ?_
      refine sx_getI fl_StairCount_87 sh_24 rfl d_X10_fault_21 (fun v2 => ?_)
      refine sx_if_eq d_X10_fault_24 ?_ ?_
      · refine sx_iconst d_X10_fault_37 icm1 ?_
        exact sx_iret rfl d_X10_fault_38
      · refine sx_aload_n d_X10_fault_27 0 rfl ?_
        refine sx_getF (a' := 24) fl_StairCount_23 sh_0 rfl rfl d_X10_fault_28 ?_
        refine sx_getI fl_StairCount_106 sh_24 rfl d_X10_fault_31 (fun v3 => ?_)
        refine sx_goto d_X10_fault_34 ?_
        exact sx_iret rfl d_X10_fault_38
    · refine sx_iconst d_X10_fault_37 icm1 ?_
      exact sx_iret rfl d_X10_fault_38
theorem d_X10_isPerson_0 : DC mi_X10_isPerson 0 (.iload_n 1) 1 1 := ⟨by decide +kernel, rfl⟩
theorem d_X10_isPerson_1 : DB mi_X10_isPerson 1 (.ifCond .lt 18) 18 4 19 := ⟨by decide +kernel, rfl, by decide⟩
theorem d_X10_isPerson_4 : DC mi_X10_isPerson 4 (.iload_n 1) 1 5 := ⟨by decide +kernel, rfl⟩
theorem d_X10_isPerson_5 : DC mi_X10_isPerson 5 (.aload_n 0) 1 6 := ⟨by decide +kernel, rfl⟩
theorem d_X10_isPerson_6 : DC mi_X10_isPerson 6 (.getfield 16) 3 9 := ⟨by decide +kernel, rfl⟩
theorem d_X10_isPerson_9 : DC mi_X10_isPerson 9 (.getfield 109) 3 12 := ⟨by decide +kernel, rfl⟩
theorem d_X10_isPerson_12 : DB mi_X10_isPerson 12 (.if_icmp .ge 7) 7 15 19 := ⟨by decide +kernel, rfl, by decide⟩
theorem d_X10_isPerson_15 : DC mi_X10_isPerson 15 (.iconst 1) 1 16 := ⟨by decide +kernel, rfl⟩
theorem d_X10_isPerson_16 : DB mi_X10_isPerson 16 (.goto 4) 4 19 20 := ⟨by decide +kernel, rfl, by decide⟩
theorem d_X10_isPerson_19 : DC mi_X10_isPerson 19 (.iconst 0) 1 20 := ⟨by decide +kernel, rfl⟩
theorem d_X10_isPerson_20 : DC mi_X10_isPerson 20 (.ireturn) 1 21 := ⟨by decide +kernel, rfl⟩
set_option maxHeartbeats 4000000 in
set_option maxRecDepth 100000 in
theorem sp_X10_isPerson (d : Nat) (hd : 0 ≤ d) (a0 : Int32) (h : HH) : Sp mi_X10_isPerson d iI [.ref 0, .int a0] h (g_X10_isPerson a0 h) := by
  refine sp_of (lc := [(0, .ref 0), (1, .int a0)]) (by decide) (Nat.le_of_ble_eq_true rfl) rfl ?_
  unfold g_X10_isPerson
  refine sx_iload_n d_X10_isPerson_0 1 rfl ?_
  refine sx_if_lt d_X10_isPerson_1 ?_ ?_
  · refine sx_iconst d_X10_isPerson_19 ic0 ?_
    exact sx_zret (by decide) rfl d_X10_isPerson_20
  · refine sx_iload_n d_X10_isPerson_4 1 rfl ?_
    refine sx_aload_n d_X10_isPerson_5 0 rfl ?_
    refine sx_getR fl_StairCount_16 sh_0 rfl d_X10_isPerson_6 (fun p1 => ?_)
    refine sx_ckH (fun ep1 => ?_)
    refine sx_getI fl_StairCount_109 ep1 rfl d_X10_isPerson_9 (fun v2 => ?_)
    refine sx_icmp_ge d_X10_isPerson_12 ?_ ?_
    · refine sx_iconst d_X10_isPerson_15 ic1 ?_
      refine sx_goto d_X10_isPerson_16 ?_
      exact sx_zret (by decide) rfl d_X10_isPerson_20
    · refine sx_iconst d_X10_isPerson_19 ic0 ?_
      exact sx_zret (by decide) rfl d_X10_isPerson_20
theorem d_X10_isFlight_0 : DC mi_X10_isFlight 0 (.iload_n 1) 1 1 := ⟨by decide +kernel, rfl⟩
theorem d_X10_isFlight_1 : DB mi_X10_isFlight 1 (.ifCond .lt 18) 18 4 19 := ⟨by decide +kernel, rfl, by decide⟩
theorem d_X10_isFlight_4 : DC mi_X10_isFlight 4 (.iload_n 1) 1 5 := ⟨by decide +kernel, rfl⟩
theorem d_X10_isFlight_5 : DC mi_X10_isFlight 5 (.aload_n 0) 1 6 := ⟨by decide +kernel, rfl⟩
theorem d_X10_isFlight_6 : DC mi_X10_isFlight 6 (.getfield 16) 3 9 := ⟨by decide +kernel, rfl⟩
theorem d_X10_isFlight_9 : DC mi_X10_isFlight 9 (.getfield 112) 3 12 := ⟨by decide +kernel, rfl⟩
theorem d_X10_isFlight_12 : DB mi_X10_isFlight 12 (.if_icmp .ge 7) 7 15 19 := ⟨by decide +kernel, rfl, by decide⟩
theorem d_X10_isFlight_15 : DC mi_X10_isFlight 15 (.iconst 1) 1 16 := ⟨by decide +kernel, rfl⟩
theorem d_X10_isFlight_16 : DB mi_X10_isFlight 16 (.goto 4) 4 19 20 := ⟨by decide +kernel, rfl, by decide⟩
theorem d_X10_isFlight_19 : DC mi_X10_isFlight 19 (.iconst 0) 1 20 := ⟨by decide +kernel, rfl⟩
theorem d_X10_isFlight_20 : DC mi_X10_isFlight 20 (.ireturn) 1 21 := ⟨by decide +kernel, rfl⟩
set_option maxHeartbeats 4000000 in
set_option maxRecDepth 100000 in
theorem sp_X10_isFlight (d : Nat) (hd : 0 ≤ d) (a0 : Int32) (h : HH) : Sp mi_X10_isFlight d iI [.ref 0, .int a0] h (g_X10_isFlight a0 h) := by
  refine sp_of (lc := [(0, .ref 0), (1, .int a0)]) (by decide) (Nat.le_of_ble_eq_true rfl) rfl ?_
  unfold g_X10_isFlight
  refine sx_iload_n d_X10_isFlight_0 1 rfl ?_
  refine sx_if_lt d_X10_isFlight_1 ?_ ?_
  · refine sx_iconst d_X10_isFlight_19 ic0 ?_
    exact sx_zret (by decide) rfl d_X10_isFlight_20
  · refine sx_iload_n d_X10_isFlight_4 1 rfl ?_
    refine sx_aload_n d_X10_isFlight_5 0 rfl ?_
    refine sx_getR fl_StairCount_16 sh_0 rfl d_X10_isFlight_6 (fun p1 => ?_)
    refine sx_ckH (fun ep1 => ?_)
    refine sx_getI fl_StairCount_112 ep1 rfl d_X10_isFlight_9 (fun v2 => ?_)
    refine sx_icmp_ge d_X10_isFlight_12 ?_ ?_
    · refine sx_iconst d_X10_isFlight_15 ic1 ?_
      refine sx_goto d_X10_isFlight_16 ?_
      exact sx_zret (by decide) rfl d_X10_isFlight_20
    · refine sx_iconst d_X10_isFlight_19 ic0 ?_
      exact sx_zret (by decide) rfl d_X10_isFlight_20
theorem d_X10_isFloor_0 : DC mi_X10_isFloor 0 (.iload_n 1) 1 1 := ⟨by decide +kernel, rfl⟩
theorem d_X10_isFloor_1 : DB mi_X10_isFloor 1 (.ifCond .lt 18) 18 4 19 := ⟨by decide +kernel, rfl, by decide⟩
theorem d_X10_isFloor_4 : DC mi_X10_isFloor 4 (.iload_n 1) 1 5 := ⟨by decide +kernel, rfl⟩
theorem d_X10_isFloor_5 : DC mi_X10_isFloor 5 (.aload_n 0) 1 6 := ⟨by decide +kernel, rfl⟩
theorem d_X10_isFloor_6 : DC mi_X10_isFloor 6 (.getfield 16) 3 9 := ⟨by decide +kernel, rfl⟩
theorem d_X10_isFloor_9 : DC mi_X10_isFloor 9 (.getfield 112) 3 12 := ⟨by decide +kernel, rfl⟩
theorem d_X10_isFloor_12 : DB mi_X10_isFloor 12 (.if_icmp .gt 7) 7 15 19 := ⟨by decide +kernel, rfl, by decide⟩
theorem d_X10_isFloor_15 : DC mi_X10_isFloor 15 (.iconst 1) 1 16 := ⟨by decide +kernel, rfl⟩
theorem d_X10_isFloor_16 : DB mi_X10_isFloor 16 (.goto 4) 4 19 20 := ⟨by decide +kernel, rfl, by decide⟩
theorem d_X10_isFloor_19 : DC mi_X10_isFloor 19 (.iconst 0) 1 20 := ⟨by decide +kernel, rfl⟩
theorem d_X10_isFloor_20 : DC mi_X10_isFloor 20 (.ireturn) 1 21 := ⟨by decide +kernel, rfl⟩
set_option maxHeartbeats 4000000 in
set_option maxRecDepth 100000 in
theorem sp_X10_isFloor (d : Nat) (hd : 0 ≤ d) (a0 : Int32) (h : HH) : Sp mi_X10_isFloor d iI [.ref 0, .int a0] h (g_X10_isFloor a0 h) := by
  refine sp_of (lc := [(0, .ref 0), (1, .int a0)]) (by decide) (Nat.le_of_ble_eq_true rfl) rfl ?_
  unfold g_X10_isFloor
  refine sx_iload_n d_X10_isFloor_0 1 rfl ?_
  refine sx_if_lt d_X10_isFloor_1 ?_ ?_
  · refine sx_iconst d_X10_isFloor_19 ic0 ?_
    exact sx_zret (by decide) rfl d_X10_isFloor_20
  · refine sx_iload_n d_X10_isFloor_4 1 rfl ?_
    refine sx_aload_n d_X10_isFloor_5 0 rfl ?_
    refine sx_getR fl_StairCount_16 sh_0 rfl d_X10_isFloor_6 (fun p1 => ?_)
    refine sx_ckH (fun ep1 => ?_)
    refine sx_getI fl_StairCount_112 ep1 rfl d_X10_isFloor_9 (fun v2 => ?_)
    refine sx_icmp_gt d_X10_isFloor_12 ?_ ?_
    · refine sx_iconst d_X10_isFloor_19 ic0 ?_
      exact sx_zret (by decide) rfl d_X10_isFloor_20
    · refine sx_iconst d_X10_isFloor_15 ic1 ?_
      refine sx_goto d_X10_isFloor_16 ?_
      exact sx_zret (by decide) rfl d_X10_isFloor_20
theorem d_X10_isPair_0 : DC mi_X10_isPair 0 (.aload_n 0) 1 1 := ⟨by decide +kernel, rfl⟩
theorem d_X10_isPair_1 : DC mi_X10_isPair 1 (.iload_n 1) 1 2 := ⟨by decide +kernel, rfl⟩
theorem d_X10_isPair_2 : DC mi_X10_isPair 2 (.invokevirtual 115) 3 5 := ⟨by decide +kernel, rfl⟩
theorem d_X10_isPair_5 : DB mi_X10_isPair 5 (.ifCond .eq 20) 20 8 25 := ⟨by decide +kernel, rfl, by decide⟩
theorem d_X10_isPair_8 : DC mi_X10_isPair 8 (.aload_n 0) 1 9 := ⟨by decide +kernel, rfl⟩
theorem d_X10_isPair_9 : DC mi_X10_isPair 9 (.iload_n 2) 1 10 := ⟨by decide +kernel, rfl⟩
theorem d_X10_isPair_10 : DC mi_X10_isPair 10 (.invokevirtual 115) 3 13 := ⟨by decide +kernel, rfl⟩
theorem d_X10_isPair_13 : DB mi_X10_isPair 13 (.ifCond .eq 12) 12 16 25 := ⟨by decide +kernel, rfl, by decide⟩
theorem d_X10_isPair_16 : DC mi_X10_isPair 16 (.iload_n 1) 1 17 := ⟨by decide +kernel, rfl⟩
theorem d_X10_isPair_17 : DC mi_X10_isPair 17 (.iload_n 2) 1 18 := ⟨by decide +kernel, rfl⟩
theorem d_X10_isPair_18 : DB mi_X10_isPair 18 (.if_icmp .eq 7) 7 21 25 := ⟨by decide +kernel, rfl, by decide⟩
theorem d_X10_isPair_21 : DC mi_X10_isPair 21 (.iconst 1) 1 22 := ⟨by decide +kernel, rfl⟩
theorem d_X10_isPair_22 : DB mi_X10_isPair 22 (.goto 4) 4 25 26 := ⟨by decide +kernel, rfl, by decide⟩
theorem d_X10_isPair_25 : DC mi_X10_isPair 25 (.iconst 0) 1 26 := ⟨by decide +kernel, rfl⟩
theorem d_X10_isPair_26 : DC mi_X10_isPair 26 (.ireturn) 1 27 := ⟨by decide +kernel, rfl⟩
set_option maxHeartbeats 4000000 in
set_option maxRecDepth 100000 in
theorem sp_X10_isPair (d : Nat) (hd : 1 ≤ d) (a0 : Int32) (a1 : Int32) (h : HH) : Sp mi_X10_isPair d iI [.ref 0, .int a0, .int a1] h (g_X10_isPair a0 a1 h) := by
  refine sp_of (lc := [(0, .ref 0), (1, .int a0), (2, .int a1)]) (by decide) (Nat.le_of_ble_eq_true rfl) rfl ?_
  unfold g_X10_isPair
  refine sx_aload_n d_X10_isPair_0 0 rfl ?_
  refine sx_iload_n d_X10_isPair_1 1 rfl ?_
  refine sx_callV [.int a0] mv_X10_isPerson lM_StairCount_115 sh_0 (by omega) rfl rfl (Nat.le_of_ble_eq_true rfl) d_X10_isPair_2 (sp_X10_isPerson (d - 1) (by omega) a0 h) (fun r2 h1 => ?_)
  refine sx_if_eq d_X10_isPair_5 ?_ ?_
  · refine sx_iconst d_X10_isPair_25 ic0 ?_
    exact sx_zret (by decide) rfl d_X10_isPair_26
  · refine sx_aload_n d_X10_isPair_8 0 rfl ?_
    refine sx_iload_n d_X10_isPair_9 2 rfl ?_
    refine sx_callV [.int a1] mv_X10_isPerson lM_StairCount_115 sh_0 (by omega) rfl rfl (Nat.le_of_ble_eq_true rfl) d_X10_isPair_10 (sp_X10_isPerson (d - 1) (by omega) a1 h1) (fun r4 h3 => ?_)
    refine sx_if_eq d_X10_isPair_13 ?_ ?_
    · refine sx_iconst d_X10_isPair_25 ic0 ?_
      exact sx_zret (by decide) rfl d_X10_isPair_26
    · refine sx_iload_n d_X10_isPair_16 1 rfl ?_
      refine sx_iload_n d_X10_isPair_17 2 rfl ?_
      refine sx_icmp_eq d_X10_isPair_18 ?_ ?_
      · refine sx_iconst d_X10_isPair_25 ic0 ?_
        exact sx_zret (by decide) rfl d_X10_isPair_26
      · refine sx_iconst d_X10_isPair_21 ic1 ?_
        refine sx_goto d_X10_isPair_22 ?_
        exact sx_zret (by decide) rfl d_X10_isPair_26
theorem d_X10_lookAtNow_0 : DC mi_X10_lookAtNow 0 (.aload_n 0) 1 1 := ⟨by decide +kernel, rfl⟩
theorem d_X10_lookAtNow_1 : DC mi_X10_lookAtNow 1 (.getfield 54) 3 4 := ⟨by decide +kernel, rfl⟩
theorem d_X10_lookAtNow_4 : DC mi_X10_lookAtNow 4 (.aload_n 0) 1 5 := ⟨by decide +kernel, rfl⟩
theorem d_X10_lookAtNow_5 : DC mi_X10_lookAtNow 5 (.getfield 16) 3 8 := ⟨by decide +kernel, rfl⟩
theorem d_X10_lookAtNow_8 : DC mi_X10_lookAtNow 8 (.aload_n 0) 1 9 := ⟨by decide +kernel, rfl⟩
theorem d_X10_lookAtNow_9 : DC mi_X10_lookAtNow 9 (.getfield 30) 3 12 := ⟨by decide +kernel, rfl⟩
theorem d_X10_lookAtNow_12 : DC mi_X10_lookAtNow 12 (.iconst 2) 1 13 := ⟨by decide +kernel, rfl⟩
theorem d_X10_lookAtNow_13 : DC mi_X10_lookAtNow 13 (.invokevirtual 119) 3 16 := ⟨by decide +kernel, rfl⟩
theorem d_X10_lookAtNow_16 : DC mi_X10_lookAtNow 16 (.return_) 1 17 := ⟨by decide +kernel, rfl⟩
set_option maxHeartbeats 4000000 in
set_option maxRecDepth 100000 in
theorem sp_X10_lookAtNow (d : Nat) (hd : 1 ≤ d) (h : HH) : Sp mi_X10_lookAtNow d iU [.ref 0] h (g_X10_lookAtNow h) := by
  refine sp_of (lc := [(0, .ref 0)]) (by decide) (Nat.le_of_ble_eq_true rfl) rfl ?_
  unfold g_X10_lookAtNow
  refine sx_aload_n d_X10_lookAtNow_0 0 rfl ?_
  refine sx_getF (a' := 193) fl_StairCount_54 sh_0 rfl rfl d_X10_lookAtNow_1 ?_
  refine sx_aload_n d_X10_lookAtNow_4 0 rfl ?_
  refine sx_getR fl_StairCount_16 sh_0 rfl d_X10_lookAtNow_5 (fun p1 => ?_)
  refine sx_ckH (fun ep1 => ?_)
  refine sx_aload_n d_X10_lookAtNow_8 0 rfl ?_
  refine sx_getF (a' := 52) fl_StairCount_30 sh_0 rfl rfl d_X10_lookAtNow_9 ?_
  refine sx_iconst d_X10_lookAtNow_12 ic2 ?_
  refine sx_callV [.ref p1, .ref 52, .int (2 : Int32)] mv_X0_begin lM_StairCount_119 sh_193 (by omega) rfl rfl (Nat.le_of_ble_eq_true rfl) d_X10_lookAtNow_13 (sp_X0_begin (d - 1) (by omega) p1 52 (2 : Int32) h) (fun _ h2 => ?_)
  exact sx_vret rfl d_X10_lookAtNow_16
theorem d_X10_named_0 : DC mi_X10_named 0 (.aload_n 0) 1 1 := ⟨by decide +kernel, rfl⟩
theorem d_X10_named_1 : DC mi_X10_named 1 (.getfield 16) 3 4 := ⟨by decide +kernel, rfl⟩
theorem d_X10_named_4 : DC mi_X10_named 4 (.iload_n 1) 1 5 := ⟨by decide +kernel, rfl⟩
theorem d_X10_named_5 : DC mi_X10_named 5 (.invokevirtual 123) 3 8 := ⟨by decide +kernel, rfl⟩
theorem d_X10_named_8 : DC mi_X10_named 8 (.ireturn) 1 9 := ⟨by decide +kernel, rfl⟩
set_option maxHeartbeats 4000000 in
set_option maxRecDepth 100000 in
theorem sp_X10_named (d : Nat) (hd : 1 ≤ d) (a0 : Int32) (h : HH) : Sp mi_X10_named d iI [.ref 0, .int a0] h (g_X10_named a0 h) := by
  refine sp_of (lc := [(0, .ref 0), (1, .int a0)]) (by decide) (Nat.le_of_ble_eq_true rfl) rfl ?_
  unfold g_X10_named
  refine sx_aload_n d_X10_named_0 0 rfl ?_
  refine sx_getR fl_StairCount_16 sh_0 rfl d_X10_named_1 (fun p1 => ?_)
  refine sx_ckH (fun ep1 => ?_)
  refine sx_iload_n d_X10_named_4 1 rfl ?_
  refine sx_callV [.int a0] mv_X5_personOf lM_StairCount_123 ep1 (by omega) rfl rfl (Nat.le_of_ble_eq_true rfl) d_X10_named_5 (sp_X5_personOf (d - 1) (by omega) p1 a0 h) (fun r3 h2 => ?_)
  exact sx_iret rfl d_X10_named_8
theorem d_X10_tally_0 : DC mi_X10_tally 0 (.aload_n 0) 1 1 := ⟨by decide +kernel, rfl⟩
theorem d_X10_tally_1 : DC mi_X10_tally 1 (.iload_n 1) 1 2 := ⟨by decide +kernel, rfl⟩
theorem d_X10_tally_2 : DC mi_X10_tally 2 (.invokevirtual 115) 3 5 := ⟨by decide +kernel, rfl⟩
theorem d_X10_tally_5 : DB mi_X10_tally 5 (.ifCond .eq 11) 11 8 16 := ⟨by decide +kernel, rfl, by decide⟩
theorem d_X10_tally_8 : DC mi_X10_tally 8 (.aload_n 0) 1 9 := ⟨by decide +kernel, rfl⟩
theorem d_X10_tally_9 : DC mi_X10_tally 9 (.iload_n 2) 1 10 := ⟨by decide +kernel, rfl⟩
theorem d_X10_tally_10 : DC mi_X10_tally 10 (.invokevirtual 155) 3 13 := ⟨by decide +kernel, rfl⟩
theorem d_X10_tally_13 : DB mi_X10_tally 13 (.ifCond .ne 6) 6 16 19 := ⟨by decide +kernel, rfl, by decide⟩
theorem d_X10_tally_16 : DC mi_X10_tally 16 (.ldc 160) 2 18 := ⟨by decide +kernel, rfl⟩
theorem d_X10_tally_18 : DC mi_X10_tally 18 (.ireturn) 1 19 := ⟨by decide +kernel, rfl⟩
theorem d_X10_tally_19 : DC mi_X10_tally 19 (.aload_n 0) 1 20 := ⟨by decide +kernel, rfl⟩
theorem d_X10_tally_20 : DC mi_X10_tally 20 (.getfield 30) 3 23 := ⟨by decide +kernel, rfl⟩
theorem d_X10_tally_23 : DC mi_X10_tally 23 (.getfield 161) 3 26 := ⟨by decide +kernel, rfl⟩
theorem d_X10_tally_26 : DC mi_X10_tally 26 (.iload_n 1) 1 27 := ⟨by decide +kernel, rfl⟩
theorem d_X10_tally_27 : DC mi_X10_tally 27 (.iload_n 2) 1 28 := ⟨by decide +kernel, rfl⟩
theorem d_X10_tally_28 : DC mi_X10_tally 28 (.invokestatic 164) 3 31 := ⟨by decide +kernel, rfl⟩
theorem d_X10_tally_31 : DC mi_X10_tally 31 (.iaload) 1 32 := ⟨by decide +kernel, rfl⟩
theorem d_X10_tally_32 : DC mi_X10_tally 32 (.ireturn) 1 33 := ⟨by decide +kernel, rfl⟩
set_option maxHeartbeats 4000000 in
set_option maxRecDepth 100000 in
theorem sp_X10_tally (d : Nat) (hd : 1 ≤ d) (a0 : Int32) (a1 : Int32) (h : HH) : Sp mi_X10_tally d iI [.ref 0, .int a0, .int a1] h (g_X10_tally a0 a1 h) := by
  refine sp_of (lc := [(0, .ref 0), (1, .int a0), (2, .int a1)]) (by decide) (Nat.le_of_ble_eq_true rfl) rfl ?_
  unfold g_X10_tally
  refine sx_aload_n d_X10_tally_0 0 rfl ?_
  refine sx_iload_n d_X10_tally_1 1 rfl ?_
  refine sx_callV [.int a0] mv_X10_isPerson lM_StairCount_115 sh_0 (by omega) rfl rfl (Nat.le_of_ble_eq_true rfl) d_X10_tally_2 (sp_X10_isPerson (d - 1) (by omega) a0 h) (fun r2 h1 => ?_)
  refine sx_if_eq d_X10_tally_5 ?_ ?_
  · refine sx_ldc d_X10_tally_16 lK_StairCount_160 ?_
    exact sx_iret rfl d_X10_tally_18
  · refine sx_aload_n d_X10_tally_8 0 rfl ?_
    refine sx_iload_n d_X10_tally_9 2 rfl ?_
    refine sx_callV [.int a1] mv_X10_isFlight lM_StairCount_155 sh_0 (by omega) rfl rfl (Nat.le_of_ble_eq_true rfl) d_X10_tally_10 (sp_X10_isFlight (d - 1) (by omega) a1 h1) (fun r4 h3 => ?_)
    refine sx_if_ne d_X10_tally_13 ?_ ?_
    · refine sx_ldc d_X10_tally_16 lK_StairCount_160 ?_
      exact sx_iret rfl d_X10_tally_18
    · refine sx_aload_n d_X10_tally_19 0 rfl ?_
      refine sx_getF (a' := 52) fl_StairCount_30 sh_0 rfl rfl d_X10_tally_20 ?_
      refine sx_getF (a' := 57) fl_StairCount_161 sh_52 rfl rfl d_X10_tally_23 ?_
      refine sx_iload_n d_X10_tally_26 1 rfl ?_
      refine sx_iload_n d_X10_tally_27 2 rfl ?_
      refine sx_callS [.int a0, .int a1] ms_X10_cell lM_StairCount_164 (by omega) rfl rfl (Nat.le_of_ble_eq_true rfl) d_X10_tally_28 (sp_X10_cell (d - 1) (by omega) a0 a1 h3) (fun r6 h5 => ?_)
      refine sx_iald sh_57 d_X10_tally_31 (fun v7 => ?_)
      exact sx_iret rfl d_X10_tally_32
theorem d_X10_steep_0 : DC mi_X10_steep 0 (.aload_n 0) 1 1 := ⟨by decide +kernel, rfl⟩
theorem d_X10_steep_1 : DC mi_X10_steep 1 (.iload_n 1) 1 2 := ⟨by decide +kernel, rfl⟩
theorem d_X10_steep_2 : DC mi_X10_steep 2 (.invokevirtual 115) 3 5 := ⟨by decide +kernel, rfl⟩
theorem d_X10_steep_5 : DB mi_X10_steep 5 (.ifCond .eq 11) 11 8 16 := ⟨by decide +kernel, rfl, by decide⟩
theorem d_X10_steep_8 : DC mi_X10_steep 8 (.aload_n 0) 1 9 := ⟨by decide +kernel, rfl⟩
theorem d_X10_steep_9 : DC mi_X10_steep 9 (.iload_n 2) 1 10 := ⟨by decide +kernel, rfl⟩
theorem d_X10_steep_10 : DC mi_X10_steep 10 (.invokevirtual 155) 3 13 := ⟨by decide +kernel, rfl⟩
theorem d_X10_steep_13 : DB mi_X10_steep 13 (.ifCond .ne 6) 6 16 19 := ⟨by decide +kernel, rfl, by decide⟩
theorem d_X10_steep_16 : DC mi_X10_steep 16 (.ldc 160) 2 18 := ⟨by decide +kernel, rfl⟩
theorem d_X10_steep_18 : DC mi_X10_steep 18 (.ireturn) 1 19 := ⟨by decide +kernel, rfl⟩
theorem d_X10_steep_19 : DC mi_X10_steep 19 (.aload_n 0) 1 20 := ⟨by decide +kernel, rfl⟩
theorem d_X10_steep_20 : DC mi_X10_steep 20 (.invokevirtual 168) 3 23 := ⟨by decide +kernel, rfl⟩
theorem d_X10_steep_23 : DC mi_X10_steep 23 (.aload_n 0) 1 24 := ⟨by decide +kernel, rfl⟩
theorem d_X10_steep_24 : DC mi_X10_steep 24 (.getfield 54) 3 27 := ⟨by decide +kernel, rfl⟩
theorem d_X10_steep_27 : DC mi_X10_steep 27 (.iload_n 1) 1 28 := ⟨by decide +kernel, rfl⟩
theorem d_X10_steep_28 : DC mi_X10_steep 28 (.iload_n 2) 1 29 := ⟨by decide +kernel, rfl⟩
theorem d_X10_steep_29 : DC mi_X10_steep 29 (.iconst 0) 1 30 := ⟨by decide +kernel, rfl⟩
theorem d_X10_steep_30 : DC mi_X10_steep 30 (.invokevirtual 171) 3 33 := ⟨by decide +kernel, rfl⟩
theorem d_X10_steep_33 : DC mi_X10_steep 33 (.ireturn) 1 34 := ⟨by decide +kernel, rfl⟩
set_option maxHeartbeats 4000000 in
set_option maxRecDepth 100000 in
theorem sp_X10_steep (d : Nat) (hd : 3 ≤ d) (a0 : Int32) (a1 : Int32) (h : HH) : Sp mi_X10_steep d iI [.ref 0, .int a0, .int a1] h (g_X10_steep a0 a1 h) := by
  refine sp_of (lc := [(0, .ref 0), (1, .int a0), (2, .int a1)]) (by decide) (Nat.le_of_ble_eq_true rfl) rfl ?_
  unfold g_X10_steep
  refine sx_aload_n d_X10_steep_0 0 rfl ?_
  refine sx_iload_n d_X10_steep_1 1 rfl ?_
  refine sx_callV [.int a0] mv_X10_isPerson lM_StairCount_115 sh_0 (by omega) rfl rfl (Nat.le_of_ble_eq_true rfl) d_X10_steep_2 (sp_X10_isPerson (d - 1) (by omega) a0 h) (fun r2 h1 => ?_)
  refine sx_if_eq d_X10_steep_5 ?_ ?_
  · refine sx_ldc d_X10_steep_16 lK_StairCount_160 ?_
    exact sx_iret rfl d_X10_steep_18
  · refine sx_aload_n d_X10_steep_8 0 rfl ?_
    refine sx_iload_n d_X10_steep_9 2 rfl ?_
    refine sx_callV [.int a1] mv_X10_isFlight lM_StairCount_155 sh_0 (by omega) rfl rfl (Nat.le_of_ble_eq_true rfl) d_X10_steep_10 (sp_X10_isFlight (d - 1) (by omega) a1 h1) (fun r4 h3 => ?_)
    refine sx_if_ne d_X10_steep_13 ?_ ?_
    · refine sx_ldc d_X10_steep_16 lK_StairCount_160 ?_
      exact sx_iret rfl d_X10_steep_18
    · refine sx_aload_n d_X10_steep_19 0 rfl ?_
      refine sx_callV [] mv_X10_lookAtNow lM_StairCount_168 sh_0 (by omega) rfl rfl (Nat.le_of_ble_eq_true rfl) d_X10_steep_20 (sp_X10_lookAtNow (d - 1) (by omega) h3) (fun _ h5 => ?_)
      refine sx_aload_n d_X10_steep_23 0 rfl ?_
      refine sx_getF (a' := 193) fl_StairCount_54 sh_0 rfl rfl d_X10_steep_24 ?_
      refine sx_iload_n d_X10_steep_27 1 rfl ?_
      refine sx_iload_n d_X10_steep_28 2 rfl ?_
      refine sx_iconst d_X10_steep_29 ic0 ?_
      refine sx_callV [.int a0, .int a1, .int (0 : Int32)] mv_X0_steepOf lM_StairCount_171 sh_193 (by omega) rfl rfl (Nat.le_of_ble_eq_true rfl) d_X10_steep_30 (sp_X0_steepOf (d - 1) (by omega) a0 a1 (0 : Int32) h5) (fun r8 h7 => ?_)
      exact sx_iret rfl d_X10_steep_33
theorem d_X10_told_0 : DC mi_X10_told 0 (.iload_n 0) 1 1 := ⟨by decide +kernel, rfl⟩
theorem d_X10_told_1 : DC mi_X10_told 1 (.bipush 6) 2 3 := ⟨by decide +kernel, rfl⟩
theorem d_X10_told_3 : DC mi_X10_told 3 (.idiv) 1 4 := ⟨by decide +kernel, rfl⟩
theorem d_X10_told_4 : DC mi_X10_told 4 (.bipush 10) 2 6 := ⟨by decide +kernel, rfl⟩
theorem d_X10_told_6 : DC mi_X10_told 6 (.imul) 1 7 := ⟨by decide +kernel, rfl⟩
theorem d_X10_told_7 : DC mi_X10_told 7 (.iload_n 0) 1 8 := ⟨by decide +kernel, rfl⟩
theorem d_X10_told_8 : DC mi_X10_told 8 (.bipush 6) 2 10 := ⟨by decide +kernel, rfl⟩
theorem d_X10_told_10 : DC mi_X10_told 10 (.irem) 1 11 := ⟨by decide +kernel, rfl⟩
theorem d_X10_told_11 : DC mi_X10_told 11 (.iadd) 1 12 := ⟨by decide +kernel, rfl⟩
theorem d_X10_told_12 : DC mi_X10_told 12 (.ireturn) 1 13 := ⟨by decide +kernel, rfl⟩
set_option maxHeartbeats 4000000 in
set_option maxRecDepth 100000 in
theorem sp_X10_told (d : Nat) (hd : 0 ≤ d) (a0 : Int32) (h : HH) : Sp mi_X10_told d iI [.int a0] h (g_X10_told a0 h) := by
  refine sp_of (lc := [(0, .int a0)]) (by decide) (Nat.le_of_ble_eq_true rfl) rfl ?_
  unfold g_X10_told
  refine sx_iload_n d_X10_told_0 0 rfl ?_
  refine sx_bipush d_X10_told_1 bc6 ?_
  refine sx_idiv d_X10_told_3 (fun v1 => ?_)
  refine sx_bipush d_X10_told_4 bc10 ?_
  refine sx_imul d_X10_told_6 ?_
  refine sx_iload_n d_X10_told_7 0 rfl ?_
  refine sx_bipush d_X10_told_8 bc6 ?_
  refine sx_irem d_X10_told_10 (fun v2 => ?_)
  refine sx_iadd d_X10_told_11 ?_
  exact sx_iret rfl d_X10_told_12
theorem d_X10_entry_0 : DC mi_X10_entry 0 (.iload_n 1) 1 1 := ⟨by decide +kernel, rfl⟩
theorem d_X10_entry_1 : DB mi_X10_entry 1 (.ifCond .ge 5) 5 4 6 := ⟨by decide +kernel, rfl, by decide⟩
theorem d_X10_entry_4 : DC mi_X10_entry 4 (.iconst (-1)) 1 5 := ⟨by decide +kernel, rfl⟩
theorem d_X10_entry_5 : DC mi_X10_entry 5 (.ireturn) 1 6 := ⟨by decide +kernel, rfl⟩
theorem d_X10_entry_6 : DC mi_X10_entry 6 (.iload_n 1) 1 7 := ⟨by decide +kernel, rfl⟩
theorem d_X10_entry_7 : DC mi_X10_entry 7 (.istore_n 2) 1 8 := ⟨by decide +kernel, rfl⟩
theorem d_X10_entry_8 : DC mi_X10_entry 8 (.iconst 0) 1 9 := ⟨by decide +kernel, rfl⟩
theorem d_X10_entry_9 : DC mi_X10_entry 9 (.istore_n 3) 1 10 := ⟨by decide +kernel, rfl⟩
theorem d_X10_entry_10 : DC mi_X10_entry 10 (.iload_n 3) 1 11 := ⟨by decide +kernel, rfl⟩
theorem d_X10_entry_11 : DC mi_X10_entry 11 (.aload_n 0) 1 12 := ⟨by decide +kernel, rfl⟩
theorem d_X10_entry_12 : DC mi_X10_entry 12 (.getfield 30) 3 15 := ⟨by decide +kernel, rfl⟩
theorem d_X10_entry_15 : DC mi_X10_entry 15 (.getfield 161) 3 18 := ⟨by decide +kernel, rfl⟩
theorem d_X10_entry_18 : DC mi_X10_entry 18 (.arraylength) 1 19 := ⟨by decide +kernel, rfl⟩
theorem d_X10_entry_19 : DB mi_X10_entry 19 (.if_icmp .ge 33) 33 22 52 := ⟨by decide +kernel, rfl, by decide⟩
theorem d_X10_entry_22 : DC mi_X10_entry 22 (.aload_n 0) 1 23 := ⟨by decide +kernel, rfl⟩
theorem d_X10_entry_23 : DC mi_X10_entry 23 (.getfield 30) 3 26 := ⟨by decide +kernel, rfl⟩
theorem d_X10_entry_26 : DC mi_X10_entry 26 (.getfield 161) 3 29 := ⟨by decide +kernel, rfl⟩
theorem d_X10_entry_29 : DC mi_X10_entry 29 (.iload_n 3) 1 30 := ⟨by decide +kernel, rfl⟩
theorem d_X10_entry_30 : DC mi_X10_entry 30 (.iaload) 1 31 := ⟨by decide +kernel, rfl⟩
theorem d_X10_entry_31 : DB mi_X10_entry 31 (.ifCond .eq 15) 15 34 46 := ⟨by decide +kernel, rfl, by decide⟩
theorem d_X10_entry_34 : DC mi_X10_entry 34 (.iload_n 2) 1 35 := ⟨by decide +kernel, rfl⟩
theorem d_X10_entry_35 : DB mi_X10_entry 35 (.ifCond .ne 8) 8 38 43 := ⟨by decide +kernel, rfl, by decide⟩
theorem d_X10_entry_38 : DC mi_X10_entry 38 (.iload_n 3) 1 39 := ⟨by decide +kernel, rfl⟩
theorem d_X10_entry_39 : DC mi_X10_entry 39 (.invokestatic 175) 3 42 := ⟨by decide +kernel, rfl⟩
theorem d_X10_entry_42 : DC mi_X10_entry 42 (.ireturn) 1 43 := ⟨by decide +kernel, rfl⟩
theorem d_X10_entry_43 : DC mi_X10_entry 43 (.iinc 2 (-1)) 3 46 := ⟨by decide +kernel, rfl⟩
theorem d_X10_entry_46 : DC mi_X10_entry 46 (.iinc 3 1) 3 49 := ⟨by decide +kernel, rfl⟩
theorem d_X10_entry_49 : DB mi_X10_entry 49 (.goto (-39)) (-39) 52 10 := ⟨by decide +kernel, rfl, by decide⟩
theorem d_X10_entry_52 : DC mi_X10_entry 52 (.bipush (-2)) 2 54 := ⟨by decide +kernel, rfl⟩
theorem d_X10_entry_54 : DC mi_X10_entry 54 (.ireturn) 1 55 := ⟨by decide +kernel, rfl⟩
set_option maxHeartbeats 4000000 in
set_option maxRecDepth 100000 in
theorem sL_X10_entry_10 (d : Nat) (hd : 1 ≤ d) (K38 : Int32 → HH → Option (Int32 × HH)) (hK38 : ∀ (z3 : Int32) (h : HH), Sx mi_X10_entry d iI (K38 z3 h) 38 [(3, .int z3)] [] h) : ∀ (n : Nat) (x2 : Int32) (x3 : Int32) (h : HH), Sx mi_X10_entry d iI (g_X10_entry_L10 K38 n x2 x3 h) 10 [(0, .ref 0), (2, .int x2), (3, .int x3)] [] h := by
  intro n
  induction n with
  | zero => intro x2 x3 h; exact sx_none
  | succ n ih =>
    intro x2 x3 h
    rw [g_X10_entry_L10]
    refine sx_iload_n d_X10_entry_10 2 rfl ?_
    refine sx_aload_n d_X10_entry_11 0 rfl ?_
    refine sx_getF (a' := 52) fl_StairCount_30 sh_0 rfl rfl d_X10_entry_12 ?_
    refine sx_getF (a' := 57) fl_StairCount_161 sh_52 rfl rfl d_X10_entry_15 ?_
    refine sx_alen (v := (36 : Int32)) sh_57 nl36 d_X10_entry_18 ?_
    refine sx_icmp_ge d_X10_entry_19 ?_ ?_
    · refine sx_aload_n d_X10_entry_22 0 rfl ?_
      refine sx_getF (a' := 52) fl_StairCount_30 sh_0 rfl rfl d_X10_entry_23 ?_
      refine sx_getF (a' := 57) fl_StairCount_161 sh_52 rfl rfl d_X10_entry_26 ?_
      refine sx_iload_n d_X10_entry_29 2 rfl ?_
      refine sx_iald sh_57 d_X10_entry_30 (fun v1 => ?_)
      refine sx_jn (fun j => ∀ (u5 : Int32) (h : HH), Sx mi_X10_entry d iI (j u5 h) 46 [(0, .ref 0), (2, .int u5), (3, .int x3)] [] h) ?_ ?_
      · intro u5 h4
        refine sx_iincV (lc' := fun v6 => [(3, .int v6), (0, .ref 0), (2, .int u5)]) (k0 := 2) d_X10_entry_46 rfl ii1 (by decide) (fun _ => rfl) (fun v6 => ?_)
        refine sx_goto d_X10_entry_49 ?_
        refine sx_lc (lc' := [(0, .ref 0), (2, .int u5), (3, .int v6)]) [1, 2, 0] rfl ?_
        exact ih u5 v6 h4
      · intro j2 k3
        refine sx_if_eq d_X10_entry_31 ?_ ?_
        · exact k3 x2 h
        · refine sx_iload_n d_X10_entry_34 1 rfl ?_
          refine sx_if_ne d_X10_entry_35 ?_ ?_
          · refine sx_lc (lc' := [(3, .int x3)]) [2] rfl ?_
            exact hK38 x3 h
          · refine sx_iincV (lc' := fun v7 => [(2, .int v7), (0, .ref 0), (3, .int x3)]) (k0 := 1) d_X10_entry_43 rfl iim1 (by decide) (fun _ => rfl) (fun v7 => ?_)
            refine sx_lc (lc' := [(0, .ref 0), (2, .int v7), (3, .int x3)]) [1, 0, 2] rfl ?_
            exact k3 v7 h
    · refine sx_bipush d_X10_entry_52 bcm2 ?_
      exact sx_iret rfl d_X10_entry_54
set_option maxHeartbeats 4000000 in
set_option maxRecDepth 100000 in
theorem sp_X10_entry (d : Nat) (hd : 1 ≤ d) (a0 : Int32) (h : HH) : Sp mi_X10_entry d iI [.ref 0, .int a0] h (g_X10_entry a0 h) := by
  refine sp_of (lc := [(0, .ref 0), (1, .int a0)]) (by decide) (Nat.le_of_ble_eq_true rfl) rfl ?_
  unfold g_X10_entry
  refine sx_iload_n d_X10_entry_0 1 rfl ?_
  refine sx_if_ge d_X10_entry_1 ?_ ?_
  · refine sx_iconst d_X10_entry_4 icm1 ?_
    exact sx_iret rfl d_X10_entry_5
  · refine sx_iload_n d_X10_entry_6 1 rfl ?_
    refine sx_istore_n (i := 2) (lc' := [(2, .int a0), (0, .ref 0), (1, .int a0)]) d_X10_entry_7 rfl (by decide) rfl ?_
    refine sx_iconst d_X10_entry_8 ic0 ?_
    refine sx_istore_n (i := 3) (lc' := [(3, .int (0 : Int32)), (2, .int a0), (0, .ref 0), (1, .int a0)]) d_X10_entry_9 rfl (by decide) rfl ?_
    refine sx_lc (lc' := [(0, .ref 0), (2, .int a0), (3, .int (0 : Int32))]) [2, 1, 0] rfl ?_
    refine sL_X10_entry_10 d hd _ ?_ 1024 a0 (0 : Int32) h
    · intro z9 h8
      refine sx_iload_n d_X10_entry_38 0 rfl ?_
      refine sx_callS [.int z9] ms_X10_told lM_StairCount_175 (by omega) rfl rfl (Nat.le_of_ble_eq_true rfl) d_X10_entry_39 (sp_X10_told (d - 1) (by omega) z9 h8) (fun r11 h10 => ?_)
      exact sx_iret rfl d_X10_entry_42
theorem d_X10_beside_0 : DC mi_X10_beside 0 (.aload_n 0) 1 1 := ⟨by decide +kernel, rfl⟩
theorem d_X10_beside_1 : DC mi_X10_beside 1 (.iload_n 1) 1 2 := ⟨by decide +kernel, rfl⟩
theorem d_X10_beside_2 : DC mi_X10_beside 2 (.invokevirtual 115) 3 5 := ⟨by decide +kernel, rfl⟩
theorem d_X10_beside_5 : DB mi_X10_beside 5 (.ifCond .eq 20) 20 8 25 := ⟨by decide +kernel, rfl, by decide⟩
theorem d_X10_beside_8 : DC mi_X10_beside 8 (.aload_n 0) 1 9 := ⟨by decide +kernel, rfl⟩
theorem d_X10_beside_9 : DC mi_X10_beside 9 (.iload_n 2) 1 10 := ⟨by decide +kernel, rfl⟩
theorem d_X10_beside_10 : DC mi_X10_beside 10 (.invokevirtual 155) 3 13 := ⟨by decide +kernel, rfl⟩
theorem d_X10_beside_13 : DB mi_X10_beside 13 (.ifCond .eq 12) 12 16 25 := ⟨by decide +kernel, rfl, by decide⟩
theorem d_X10_beside_16 : DC mi_X10_beside 16 (.iload_n 3) 1 17 := ⟨by decide +kernel, rfl⟩
theorem d_X10_beside_17 : DB mi_X10_beside 17 (.ifCond .lt 8) 8 20 25 := ⟨by decide +kernel, rfl, by decide⟩
theorem d_X10_beside_20 : DC mi_X10_beside 20 (.iload_n 3) 1 21 := ⟨by decide +kernel, rfl⟩
theorem d_X10_beside_21 : DC mi_X10_beside 21 (.iconst 1) 1 22 := ⟨by decide +kernel, rfl⟩
theorem d_X10_beside_22 : DB mi_X10_beside 22 (.if_icmp .le 5) 5 25 27 := ⟨by decide +kernel, rfl, by decide⟩
theorem d_X10_beside_25 : DC mi_X10_beside 25 (.iconst (-1)) 1 26 := ⟨by decide +kernel, rfl⟩
theorem d_X10_beside_26 : DC mi_X10_beside 26 (.ireturn) 1 27 := ⟨by decide +kernel, rfl⟩
theorem d_X10_beside_27 : DC mi_X10_beside 27 (.iload_n 3) 1 28 := ⟨by decide +kernel, rfl⟩
theorem d_X10_beside_28 : DB mi_X10_beside 28 (.ifCond .ne 7) 7 31 35 := ⟨by decide +kernel, rfl, by decide⟩
theorem d_X10_beside_31 : DC mi_X10_beside 31 (.iconst 1) 1 32 := ⟨by decide +kernel, rfl⟩
theorem d_X10_beside_32 : DB mi_X10_beside 32 (.goto 4) 4 35 36 := ⟨by decide +kernel, rfl, by decide⟩
theorem d_X10_beside_35 : DC mi_X10_beside 35 (.iconst (-1)) 1 36 := ⟨by decide +kernel, rfl⟩
theorem d_X10_beside_36 : DC mi_X10_beside 36 (.istore 4) 2 38 := ⟨by decide +kernel, rfl⟩
theorem d_X10_beside_38 : DC mi_X10_beside 38 (.iload_n 1) 1 39 := ⟨by decide +kernel, rfl⟩
theorem d_X10_beside_39 : DC mi_X10_beside 39 (.iload_n 2) 1 40 := ⟨by decide +kernel, rfl⟩
theorem d_X10_beside_40 : DC mi_X10_beside 40 (.invokestatic 164) 3 43 := ⟨by decide +kernel, rfl⟩
theorem d_X10_beside_43 : DC mi_X10_beside 43 (.iload 4) 2 45 := ⟨by decide +kernel, rfl⟩
theorem d_X10_beside_45 : DC mi_X10_beside 45 (.iadd) 1 46 := ⟨by decide +kernel, rfl⟩
theorem d_X10_beside_46 : DC mi_X10_beside 46 (.istore 5) 2 48 := ⟨by decide +kernel, rfl⟩
theorem d_X10_beside_48 : DC mi_X10_beside 48 (.iload 5) 2 50 := ⟨by decide +kernel, rfl⟩
theorem d_X10_beside_50 : DB mi_X10_beside 50 (.ifCond .lt 45) 45 53 95 := ⟨by decide +kernel, rfl, by decide⟩
theorem d_X10_beside_53 : DC mi_X10_beside 53 (.iload 5) 2 55 := ⟨by decide +kernel, rfl⟩
theorem d_X10_beside_55 : DC mi_X10_beside 55 (.aload_n 0) 1 56 := ⟨by decide +kernel, rfl⟩
theorem d_X10_beside_56 : DC mi_X10_beside 56 (.getfield 30) 3 59 := ⟨by decide +kernel, rfl⟩
theorem d_X10_beside_59 : DC mi_X10_beside 59 (.getfield 161) 3 62 := ⟨by decide +kernel, rfl⟩
theorem d_X10_beside_62 : DC mi_X10_beside 62 (.arraylength) 1 63 := ⟨by decide +kernel, rfl⟩
theorem d_X10_beside_63 : DB mi_X10_beside 63 (.if_icmp .ge 32) 32 66 95 := ⟨by decide +kernel, rfl, by decide⟩
theorem d_X10_beside_66 : DC mi_X10_beside 66 (.aload_n 0) 1 67 := ⟨by decide +kernel, rfl⟩
theorem d_X10_beside_67 : DC mi_X10_beside 67 (.getfield 30) 3 70 := ⟨by decide +kernel, rfl⟩
theorem d_X10_beside_70 : DC mi_X10_beside 70 (.getfield 161) 3 73 := ⟨by decide +kernel, rfl⟩
theorem d_X10_beside_73 : DC mi_X10_beside 73 (.iload 5) 2 75 := ⟨by decide +kernel, rfl⟩
theorem d_X10_beside_75 : DC mi_X10_beside 75 (.iaload) 1 76 := ⟨by decide +kernel, rfl⟩
theorem d_X10_beside_76 : DB mi_X10_beside 76 (.ifCond .eq 9) 9 79 85 := ⟨by decide +kernel, rfl, by decide⟩
theorem d_X10_beside_79 : DC mi_X10_beside 79 (.iload 5) 2 81 := ⟨by decide +kernel, rfl⟩
theorem d_X10_beside_81 : DC mi_X10_beside 81 (.invokestatic 175) 3 84 := ⟨by decide +kernel, rfl⟩
theorem d_X10_beside_84 : DC mi_X10_beside 84 (.ireturn) 1 85 := ⟨by decide +kernel, rfl⟩
theorem d_X10_beside_85 : DC mi_X10_beside 85 (.iload 5) 2 87 := ⟨by decide +kernel, rfl⟩
theorem d_X10_beside_87 : DC mi_X10_beside 87 (.iload 4) 2 89 := ⟨by decide +kernel, rfl⟩
theorem d_X10_beside_89 : DC mi_X10_beside 89 (.iadd) 1 90 := ⟨by decide +kernel, rfl⟩
theorem d_X10_beside_90 : DC mi_X10_beside 90 (.istore 5) 2 92 := ⟨by decide +kernel, rfl⟩
theorem d_X10_beside_92 : DB mi_X10_beside 92 (.goto (-44)) (-44) 95 48 := ⟨by decide +kernel, rfl, by decide⟩
theorem d_X10_beside_95 : DC mi_X10_beside 95 (.bipush (-2)) 2 97 := ⟨by decide +kernel, rfl⟩
theorem d_X10_beside_97 : DC mi_X10_beside 97 (.ireturn) 1 98 := ⟨by decide +kernel, rfl⟩
set_option maxHeartbeats 4000000 in
set_option maxRecDepth 100000 in
theorem sL_X10_beside_48 (d : Nat) (hd : 1 ≤ d) (K79 : Int32 → HH → Option (Int32 × HH)) (c4 : Int32) (hK79 : ∀ (z5 : Int32) (h : HH), Sx mi_X10_beside d iI (K79 z5 h) 79 [(5, .int z5)] [] h) : ∀ (n : Nat) (x5 : Int32) (h : HH), Sx mi_X10_beside d iI (g_X10_beside_L48 K79 c4 n x5 h) 48 [(0, .ref 0), (4, .int c4), (5, .int x5)] [] h := by
  intro n
  induction n with
  | zero => intro x5 h; exact sx_none
  | succ n ih =>
    intro x5 h
    rw [g_X10_beside_L48]
    refine sx_iload d_X10_beside_48 2 rfl ?_
    refine sx_if_lt d_X10_beside_50 ?_ ?_
    · refine sx_bipush d_X10_beside_95 bcm2 ?_
      exact sx_iret rfl d_X10_beside_97
    · refine sx_iload d_X10_beside_53 2 rfl ?_
      refine sx_aload_n d_X10_beside_55 0 rfl ?_
      refine sx_getF (a' := 52) fl_StairCount_30 sh_0 rfl rfl d_X10_beside_56 ?_
      refine sx_getF (a' := 57) fl_StairCount_161 sh_52 rfl rfl d_X10_beside_59 ?_
      refine sx_alen (v := (36 : Int32)) sh_57 nl36 d_X10_beside_62 ?_
      refine sx_icmp_ge d_X10_beside_63 ?_ ?_
      · refine sx_aload_n d_X10_beside_66 0 rfl ?_
        refine sx_getF (a' := 52) fl_StairCount_30 sh_0 rfl rfl d_X10_beside_67 ?_
        refine sx_getF (a' := 57) fl_StairCount_161 sh_52 rfl rfl d_X10_beside_70 ?_
        refine sx_iload d_X10_beside_73 2 rfl ?_
        refine sx_iald sh_57 d_X10_beside_75 (fun v12 => ?_)
        refine sx_if_eq d_X10_beside_76 ?_ ?_
        · refine sx_iload d_X10_beside_85 2 rfl ?_
          refine sx_iload d_X10_beside_87 1 rfl ?_
          refine sx_iadd d_X10_beside_89 ?_
          refine sx_vlI (fun v13 => ?_)
          refine sx_istore (i := 5) (lc' := [(5, .int v13), (0, .ref 0), (4, .int c4)]) d_X10_beside_90 (by decide) rfl ?_
          refine sx_goto d_X10_beside_92 ?_
          refine sx_lc (lc' := [(0, .ref 0), (4, .int c4), (5, .int v13)]) [1, 2, 0] rfl ?_
          exact ih v13 h
        · refine sx_lc (lc' := [(5, .int x5)]) [2] rfl ?_
          exact hK79 x5 h
      · refine sx_bipush d_X10_beside_95 bcm2 ?_
        exact sx_iret rfl d_X10_beside_97
set_option maxHeartbeats 4000000 in
set_option maxRecDepth 100000 in
theorem sp_X10_beside (d : Nat) (hd : 1 ≤ d) (a0 : Int32) (a1 : Int32) (a2 : Int32) (h : HH) : Sp mi_X10_beside d iI [.ref 0, .int a0, .int a1, .int a2] h (g_X10_beside a0 a1 a2 h) := by
  refine sp_of (lc := [(0, .ref 0), (1, .int a0), (2, .int a1), (3, .int a2)]) (by decide) (Nat.le_of_ble_eq_true rfl) rfl ?_
  unfold g_X10_beside
  refine sx_aload_n d_X10_beside_0 0 rfl ?_
  refine sx_iload_n d_X10_beside_1 1 rfl ?_
  refine sx_callV [.int a0] mv_X10_isPerson lM_StairCount_115 sh_0 (by omega) rfl rfl (Nat.le_of_ble_eq_true rfl) d_X10_beside_2 (sp_X10_isPerson (d - 1) (by omega) a0 h) (fun r2 h1 => ?_)
  refine sx_if_eq d_X10_beside_5 ?_ ?_
  · refine sx_iconst d_X10_beside_25 icm1 ?_
    exact sx_iret rfl d_X10_beside_26
  · refine sx_aload_n d_X10_beside_8 0 rfl ?_
    refine sx_iload_n d_X10_beside_9 2 rfl ?_
    refine sx_callV [.int a1] mv_X10_isFlight lM_StairCount_155 sh_0 (by omega) rfl rfl (Nat.le_of_ble_eq_true rfl) d_X10_beside_10 (sp_X10_isFlight (d - 1) (by omega) a1 h1) (fun r4 h3 => ?_)
    refine sx_if_eq d_X10_beside_13 ?_ ?_
    · refine sx_iconst d_X10_beside_25 icm1 ?_
      exact sx_iret rfl d_X10_beside_26
    · refine sx_iload_n d_X10_beside_16 3 rfl ?_
      refine sx_if_lt d_X10_beside_17 ?_ ?_
      · refine sx_iconst d_X10_beside_25 icm1 ?_
        exact sx_iret rfl d_X10_beside_26
      · refine sx_iload_n d_X10_beside_20 3 rfl ?_
        refine sx_iconst d_X10_beside_21 ic1 ?_
        refine sx_icmp_le d_X10_beside_22 ?_ ?_
        · refine sx_iconst d_X10_beside_25 icm1 ?_
          exact sx_iret rfl d_X10_beside_26
        · refine sx_iload_n d_X10_beside_27 3 rfl ?_
          refine sx_jn (fun j => ∀ (y8 : Int32) (h : HH), Sx mi_X10_beside d iI (j y8 h) 36 [(0, .ref 0), (1, .int a0), (2, .int a1)] [.int y8] h) ?_ ?_
          · intro y8 h7
            refine sx_istore (i := 4) (lc' := [(4, .int y8), (0, .ref 0), (1, .int a0), (2, .int a1)]) d_X10_beside_36 (by decide) rfl ?_
            refine sx_iload_n d_X10_beside_38 2 rfl ?_
            refine sx_iload_n d_X10_beside_39 3 rfl ?_
            refine sx_callS [.int a0, .int a1] ms_X10_cell lM_StairCount_164 (by omega) rfl rfl (Nat.le_of_ble_eq_true rfl) d_X10_beside_40 (sp_X10_cell (d - 1) (by omega) a0 a1 h7) (fun r10 h9 => ?_)
            refine sx_iload d_X10_beside_43 0 rfl ?_
            refine sx_iadd d_X10_beside_45 ?_
            refine sx_vlI (fun v11 => ?_)
            refine sx_istore (i := 5) (lc' := [(5, .int v11), (4, .int y8), (0, .ref 0), (1, .int a0), (2, .int a1)]) d_X10_beside_46 (by decide) rfl ?_
            refine sx_lc (lc' := [(0, .ref 0), (4, .int y8), (5, .int v11)]) [2, 1, 0] rfl ?_
            refine sL_X10_beside_48 d hd _ y8 ?_ 1024 v11 h9
            · intro z15 h14
              refine sx_iload d_X10_beside_79 0 rfl ?_
              refine sx_callS [.int z15] ms_X10_told lM_StairCount_175 (by omega) rfl rfl (Nat.le_of_ble_eq_true rfl) d_X10_beside_81 (sp_X10_told (d - 1) (by omega) z15 h14) (fun r17 h16 => ?_)
              exact sx_iret rfl d_X10_beside_84
          · intro j5 k6
            refine sx_if_ne d_X10_beside_28 ?_ ?_
            · refine sx_iconst d_X10_beside_31 ic1 ?_
              refine sx_goto d_X10_beside_32 ?_
              refine sx_lc (lc' := [(0, .ref 0), (1, .int a0), (2, .int a1)]) [0, 1, 2] rfl ?_
              exact k6 (1 : Int32) h3
            · refine sx_iconst d_X10_beside_35 icm1 ?_
              refine sx_lc (lc' := [(0, .ref 0), (1, .int a0), (2, .int a1)]) [0, 1, 2] rfl ?_
              exact k6 (-1 : Int32) h3
theorem d_X10_aheadInCrowd_0 : DC mi_X10_aheadInCrowd 0 (.iconst 0) 1 1 := ⟨by decide +kernel, rfl⟩
theorem d_X10_aheadInCrowd_1 : DC mi_X10_aheadInCrowd 1 (.istore_n 2) 1 2 := ⟨by decide +kernel, rfl⟩
theorem d_X10_aheadInCrowd_2 : DC mi_X10_aheadInCrowd 2 (.iconst 0) 1 3 := ⟨by decide +kernel, rfl⟩
theorem d_X10_aheadInCrowd_3 : DC mi_X10_aheadInCrowd 3 (.istore_n 3) 1 4 := ⟨by decide +kernel, rfl⟩
theorem d_X10_aheadInCrowd_4 : DC mi_X10_aheadInCrowd 4 (.iload_n 3) 1 5 := ⟨by decide +kernel, rfl⟩
theorem d_X10_aheadInCrowd_5 : DC mi_X10_aheadInCrowd 5 (.aload_n 0) 1 6 := ⟨by decide +kernel, rfl⟩
theorem d_X10_aheadInCrowd_6 : DC mi_X10_aheadInCrowd 6 (.getfield 16) 3 9 := ⟨by decide +kernel, rfl⟩
theorem d_X10_aheadInCrowd_9 : DC mi_X10_aheadInCrowd 9 (.getfield 109) 3 12 := ⟨by decide +kernel, rfl⟩
theorem d_X10_aheadInCrowd_12 : DB mi_X10_aheadInCrowd 12 (.if_icmp .ge 92) 92 15 104 := ⟨by decide +kernel, rfl, by decide⟩
theorem d_X10_aheadInCrowd_15 : DC mi_X10_aheadInCrowd 15 (.aload_n 0) 1 16 := ⟨by decide +kernel, rfl⟩
theorem d_X10_aheadInCrowd_16 : DC mi_X10_aheadInCrowd 16 (.getfield 16) 3 19 := ⟨by decide +kernel, rfl⟩
theorem d_X10_aheadInCrowd_19 : DC mi_X10_aheadInCrowd 19 (.getfield 138) 3 22 := ⟨by decide +kernel, rfl⟩
theorem d_X10_aheadInCrowd_22 : DC mi_X10_aheadInCrowd 22 (.iload_n 3) 1 23 := ⟨by decide +kernel, rfl⟩
theorem d_X10_aheadInCrowd_23 : DC mi_X10_aheadInCrowd 23 (.iaload) 1 24 := ⟨by decide +kernel, rfl⟩
theorem d_X10_aheadInCrowd_24 : DC mi_X10_aheadInCrowd 24 (.aload_n 0) 1 25 := ⟨by decide +kernel, rfl⟩
theorem d_X10_aheadInCrowd_25 : DC mi_X10_aheadInCrowd 25 (.getfield 16) 3 28 := ⟨by decide +kernel, rfl⟩
theorem d_X10_aheadInCrowd_28 : DC mi_X10_aheadInCrowd 28 (.getfield 138) 3 31 := ⟨by decide +kernel, rfl⟩
theorem d_X10_aheadInCrowd_31 : DC mi_X10_aheadInCrowd 31 (.iload_n 1) 1 32 := ⟨by decide +kernel, rfl⟩
theorem d_X10_aheadInCrowd_32 : DC mi_X10_aheadInCrowd 32 (.iaload) 1 33 := ⟨by decide +kernel, rfl⟩
theorem d_X10_aheadInCrowd_33 : DB mi_X10_aheadInCrowd 33 (.if_icmp .gt 29) 29 36 62 := ⟨by decide +kernel, rfl, by decide⟩
theorem d_X10_aheadInCrowd_36 : DC mi_X10_aheadInCrowd 36 (.aload_n 0) 1 37 := ⟨by decide +kernel, rfl⟩
theorem d_X10_aheadInCrowd_37 : DC mi_X10_aheadInCrowd 37 (.getfield 16) 3 40 := ⟨by decide +kernel, rfl⟩
theorem d_X10_aheadInCrowd_40 : DC mi_X10_aheadInCrowd 40 (.getfield 138) 3 43 := ⟨by decide +kernel, rfl⟩
theorem d_X10_aheadInCrowd_43 : DC mi_X10_aheadInCrowd 43 (.iload_n 3) 1 44 := ⟨by decide +kernel, rfl⟩
theorem d_X10_aheadInCrowd_44 : DC mi_X10_aheadInCrowd 44 (.iaload) 1 45 := ⟨by decide +kernel, rfl⟩
theorem d_X10_aheadInCrowd_45 : DC mi_X10_aheadInCrowd 45 (.aload_n 0) 1 46 := ⟨by decide +kernel, rfl⟩
theorem d_X10_aheadInCrowd_46 : DC mi_X10_aheadInCrowd 46 (.getfield 16) 3 49 := ⟨by decide +kernel, rfl⟩
theorem d_X10_aheadInCrowd_49 : DC mi_X10_aheadInCrowd 49 (.getfield 138) 3 52 := ⟨by decide +kernel, rfl⟩
theorem d_X10_aheadInCrowd_52 : DC mi_X10_aheadInCrowd 52 (.iload_n 1) 1 53 := ⟨by decide +kernel, rfl⟩
theorem d_X10_aheadInCrowd_53 : DC mi_X10_aheadInCrowd 53 (.iaload) 1 54 := ⟨by decide +kernel, rfl⟩
theorem d_X10_aheadInCrowd_54 : DB mi_X10_aheadInCrowd 54 (.if_icmp .ne 12) 12 57 66 := ⟨by decide +kernel, rfl, by decide⟩
theorem d_X10_aheadInCrowd_57 : DC mi_X10_aheadInCrowd 57 (.iload_n 3) 1 58 := ⟨by decide +kernel, rfl⟩
theorem d_X10_aheadInCrowd_58 : DC mi_X10_aheadInCrowd 58 (.iload_n 1) 1 59 := ⟨by decide +kernel, rfl⟩
theorem d_X10_aheadInCrowd_59 : DB mi_X10_aheadInCrowd 59 (.if_icmp .ge 7) 7 62 66 := ⟨by decide +kernel, rfl, by decide⟩
theorem d_X10_aheadInCrowd_62 : DC mi_X10_aheadInCrowd 62 (.iconst 1) 1 63 := ⟨by decide +kernel, rfl⟩
theorem d_X10_aheadInCrowd_63 : DB mi_X10_aheadInCrowd 63 (.goto 4) 4 66 67 := ⟨by decide +kernel, rfl, by decide⟩
theorem d_X10_aheadInCrowd_66 : DC mi_X10_aheadInCrowd 66 (.iconst 0) 1 67 := ⟨by decide +kernel, rfl⟩
theorem d_X10_aheadInCrowd_67 : DC mi_X10_aheadInCrowd 67 (.istore 4) 2 69 := ⟨by decide +kernel, rfl⟩
theorem d_X10_aheadInCrowd_69 : DC mi_X10_aheadInCrowd 69 (.iload 4) 2 71 := ⟨by decide +kernel, rfl⟩
theorem d_X10_aheadInCrowd_71 : DB mi_X10_aheadInCrowd 71 (.ifCond .eq 27) 27 74 98 := ⟨by decide +kernel, rfl, by decide⟩
theorem d_X10_aheadInCrowd_74 : DC mi_X10_aheadInCrowd 74 (.aload_n 0) 1 75 := ⟨by decide +kernel, rfl⟩
theorem d_X10_aheadInCrowd_75 : DC mi_X10_aheadInCrowd 75 (.getfield 30) 3 78 := ⟨by decide +kernel, rfl⟩
theorem d_X10_aheadInCrowd_78 : DC mi_X10_aheadInCrowd 78 (.getfield 134) 3 81 := ⟨by decide +kernel, rfl⟩
theorem d_X10_aheadInCrowd_81 : DC mi_X10_aheadInCrowd 81 (.iload_n 3) 1 82 := ⟨by decide +kernel, rfl⟩
theorem d_X10_aheadInCrowd_82 : DC mi_X10_aheadInCrowd 82 (.iaload) 1 83 := ⟨by decide +kernel, rfl⟩
theorem d_X10_aheadInCrowd_83 : DC mi_X10_aheadInCrowd 83 (.aload_n 0) 1 84 := ⟨by decide +kernel, rfl⟩
theorem d_X10_aheadInCrowd_84 : DC mi_X10_aheadInCrowd 84 (.getfield 30) 3 87 := ⟨by decide +kernel, rfl⟩
theorem d_X10_aheadInCrowd_87 : DC mi_X10_aheadInCrowd 87 (.getfield 134) 3 90 := ⟨by decide +kernel, rfl⟩
theorem d_X10_aheadInCrowd_90 : DC mi_X10_aheadInCrowd 90 (.iload_n 1) 1 91 := ⟨by decide +kernel, rfl⟩
theorem d_X10_aheadInCrowd_91 : DC mi_X10_aheadInCrowd 91 (.iaload) 1 92 := ⟨by decide +kernel, rfl⟩
theorem d_X10_aheadInCrowd_92 : DB mi_X10_aheadInCrowd 92 (.if_icmp .ne 6) 6 95 98 := ⟨by decide +kernel, rfl, by decide⟩
theorem d_X10_aheadInCrowd_95 : DC mi_X10_aheadInCrowd 95 (.iinc 2 1) 3 98 := ⟨by decide +kernel, rfl⟩
theorem d_X10_aheadInCrowd_98 : DC mi_X10_aheadInCrowd 98 (.iinc 3 1) 3 101 := ⟨by decide +kernel, rfl⟩
theorem d_X10_aheadInCrowd_101 : DB mi_X10_aheadInCrowd 101 (.goto (-97)) (-97) 104 4 := ⟨by decide +kernel, rfl, by decide⟩
theorem d_X10_aheadInCrowd_104 : DC mi_X10_aheadInCrowd 104 (.iload_n 2) 1 105 := ⟨by decide +kernel, rfl⟩
theorem d_X10_aheadInCrowd_105 : DC mi_X10_aheadInCrowd 105 (.ireturn) 1 106 := ⟨by decide +kernel, rfl⟩
set_option maxHeartbeats 4000000 in
set_option maxRecDepth 100000 in
theorem sL_X10_aheadInCrowd_4 (d : Nat) (hd : 0 ≤ d) (c1 : Int32) : ∀ (n : Nat) (x2 : Int32) (x3 : Int32) (h : HH), Sx mi_X10_aheadInCrowd d iI (g_X10_aheadInCrowd_L4 c1 n x2 x3 h) 4 [(0, .ref 0), (1, .int c1), (2, .int x2), (3, .int x3)] [] h := by
  intro n
  induction n with
  | zero => intro x2 x3 h; exact sx_none
  | succ n ih =>
    intro x2 x3 h
    rw [g_X10_aheadInCrowd_L4]
    refine sx_iload_n d_X10_aheadInCrowd_4 3 rfl ?_
    refine sx_aload_n d_X10_aheadInCrowd_5 0 rfl ?_
    refine sx_getR fl_StairCount_16 sh_0 rfl d_X10_aheadInCrowd_6 (fun p1 => ?_)
    refine sx_ckH (fun ep1 => ?_)
    refine sx_getI fl_StairCount_109 ep1 rfl d_X10_aheadInCrowd_9 (fun v2 => ?_)
    refine sx_icmp_ge d_X10_aheadInCrowd_12 ?_ ?_
    · refine sx_aload_n d_X10_aheadInCrowd_15 0 rfl ?_
      refine sx_getR fl_StairCount_16 sh_0 rfl d_X10_aheadInCrowd_16 (fun p3 => ?_)
      refine sx_ckH (fun ep3 => ?_)
      refine sx_getF (a' := (p3 + 3)) fl_StairCount_138 ep3 rfl rfl d_X10_aheadInCrowd_19 ?_
      refine sx_iload_n d_X10_aheadInCrowd_22 3 rfl ?_
      refine sx_iald (shf_5_4 ep3) d_X10_aheadInCrowd_23 (fun v4 => ?_)
      refine sx_aload_n d_X10_aheadInCrowd_24 0 rfl ?_
      refine sx_getR fl_StairCount_16 sh_0 rfl d_X10_aheadInCrowd_25 (fun p5 => ?_)
      refine sx_ckH (fun ep5 => ?_)
      refine sx_getF (a' := (p5 + 3)) fl_StairCount_138 ep5 rfl rfl d_X10_aheadInCrowd_28 ?_
      refine sx_iload_n d_X10_aheadInCrowd_31 1 rfl ?_
      refine sx_iald (shf_5_4 ep5) d_X10_aheadInCrowd_32 (fun v6 => ?_)
      refine sx_jn (fun j => ∀ (y10 : Int32) (h : HH), Sx mi_X10_aheadInCrowd d iI (j y10 h) 67 [(0, .ref 0), (1, .int c1), (2, .int x2), (3, .int x3)] [.int y10] h) ?_ ?_
      · intro y10 h9
        refine sx_istore (i := 4) (lc' := [(4, .int y10), (0, .ref 0), (1, .int c1), (2, .int x2), (3, .int x3)]) d_X10_aheadInCrowd_67 (by decide) rfl ?_
        refine sx_iload d_X10_aheadInCrowd_69 0 rfl ?_
        refine sx_jn (fun j => ∀ (u14 : Int32) (h : HH), Sx mi_X10_aheadInCrowd d iI (j u14 h) 98 [(0, .ref 0), (1, .int c1), (2, .int u14), (3, .int x3)] [] h) ?_ ?_
        · intro u14 h13
          refine sx_iincV (lc' := fun v15 => [(3, .int v15), (0, .ref 0), (1, .int c1), (2, .int u14)]) (k0 := 3) d_X10_aheadInCrowd_98 rfl ii1 (by decide) (fun _ => rfl) (fun v15 => ?_)
          refine sx_goto d_X10_aheadInCrowd_101 ?_
          refine sx_lc (lc' := [(0, .ref 0), (1, .int c1), (2, .int u14), (3, .int v15)]) [1, 2, 3, 0] rfl ?_
          exact ih u14 v15 h13
        · intro j11 k12
          refine sx_if_eq d_X10_aheadInCrowd_71 ?_ ?_
          · refine sx_lc (lc' := [(0, .ref 0), (1, .int c1), (2, .int x2), (3, .int x3)]) [1, 2, 3, 4] rfl ?_
            exact k12 x2 h9
          · refine sx_aload_n d_X10_aheadInCrowd_74 1 rfl ?_
            refine sx_getF (a' := 52) fl_StairCount_30 sh_0 rfl rfl d_X10_aheadInCrowd_75 ?_
            refine sx_getF (a' := 53) fl_StairCount_134 sh_52 rfl rfl d_X10_aheadInCrowd_78 ?_
            refine sx_iload_n d_X10_aheadInCrowd_81 4 rfl ?_
            refine sx_iald sh_53 d_X10_aheadInCrowd_82 (fun v16 => ?_)
            refine sx_aload_n d_X10_aheadInCrowd_83 1 rfl ?_
            refine sx_getF (a' := 52) fl_StairCount_30 sh_0 rfl rfl d_X10_aheadInCrowd_84 ?_
            refine sx_getF (a' := 53) fl_StairCount_134 sh_52 rfl rfl d_X10_aheadInCrowd_87 ?_
            refine sx_iload_n d_X10_aheadInCrowd_90 2 rfl ?_
            refine sx_iald sh_53 d_X10_aheadInCrowd_91 (fun v17 => ?_)
            refine sx_icmp_ne d_X10_aheadInCrowd_92 ?_ ?_
            · refine sx_iincV (lc' := fun v18 => [(2, .int v18), (4, .int y10), (0, .ref 0), (1, .int c1), (3, .int x3)]) (k0 := 3) d_X10_aheadInCrowd_95 rfl ii1 (by decide) (fun _ => rfl) (fun v18 => ?_)
              refine sx_lc (lc' := [(0, .ref 0), (1, .int c1), (2, .int v18), (3, .int x3)]) [2, 3, 0, 4] rfl ?_
              exact k12 v18 h9
            · refine sx_lc (lc' := [(0, .ref 0), (1, .int c1), (2, .int x2), (3, .int x3)]) [1, 2, 3, 4] rfl ?_
              exact k12 x2 h9
      · intro j7 k8
        refine sx_jn (fun j => ∀  (h : HH), Sx mi_X10_aheadInCrowd d iI (j  h) 62 [(0, .ref 0), (1, .int c1), (2, .int x2), (3, .int x3)] [] h) ?_ ?_
        · intro  h21
          refine sx_iconst d_X10_aheadInCrowd_62 ic1 ?_
          refine sx_goto d_X10_aheadInCrowd_63 ?_
          exact k8 (1 : Int32) h21
        · intro j19 k20
          refine sx_icmp_gt d_X10_aheadInCrowd_33 ?_ ?_
          · exact k20 h
          · refine sx_aload_n d_X10_aheadInCrowd_36 0 rfl ?_
            refine sx_getR fl_StairCount_16 sh_0 rfl d_X10_aheadInCrowd_37 (fun p22 => ?_)
            refine sx_ckH (fun ep22 => ?_)
            refine sx_getF (a' := (p22 + 3)) fl_StairCount_138 ep22 rfl rfl d_X10_aheadInCrowd_40 ?_
            refine sx_iload_n d_X10_aheadInCrowd_43 3 rfl ?_
            refine sx_iald (shf_5_4 ep22) d_X10_aheadInCrowd_44 (fun v23 => ?_)
            refine sx_aload_n d_X10_aheadInCrowd_45 0 rfl ?_
            refine sx_getR fl_StairCount_16 sh_0 rfl d_X10_aheadInCrowd_46 (fun p24 => ?_)
            refine sx_ckH (fun ep24 => ?_)
            refine sx_getF (a' := (p24 + 3)) fl_StairCount_138 ep24 rfl rfl d_X10_aheadInCrowd_49 ?_
            refine sx_iload_n d_X10_aheadInCrowd_52 1 rfl ?_
            refine sx_iald (shf_5_4 ep24) d_X10_aheadInCrowd_53 (fun v25 => ?_)
            refine sx_jn (fun j => ∀  (h : HH), Sx mi_X10_aheadInCrowd d iI (j  h) 66 [(0, .ref 0), (1, .int c1), (2, .int x2), (3, .int x3)] [] h) ?_ ?_
            · intro  h28
              refine sx_iconst d_X10_aheadInCrowd_66 ic0 ?_
              exact k8 (0 : Int32) h28
            · intro j26 k27
              refine sx_icmp_ne d_X10_aheadInCrowd_54 ?_ ?_
              · refine sx_iload_n d_X10_aheadInCrowd_57 3 rfl ?_
                refine sx_iload_n d_X10_aheadInCrowd_58 1 rfl ?_
                refine sx_icmp_ge d_X10_aheadInCrowd_59 ?_ ?_
                · exact k20 h
                · exact k27 h
              · exact k27 h
    · refine sx_iload_n d_X10_aheadInCrowd_104 2 rfl ?_
      exact sx_iret rfl d_X10_aheadInCrowd_105
set_option maxHeartbeats 4000000 in
set_option maxRecDepth 100000 in
theorem sp_X10_aheadInCrowd (d : Nat) (hd : 0 ≤ d) (a0 : Int32) (h : HH) : Sp mi_X10_aheadInCrowd d iI [.ref 0, .int a0] h (g_X10_aheadInCrowd a0 h) := by
  refine sp_of (lc := [(0, .ref 0), (1, .int a0)]) (by decide) (Nat.le_of_ble_eq_true rfl) rfl ?_
  unfold g_X10_aheadInCrowd
  refine sx_iconst d_X10_aheadInCrowd_0 ic0 ?_
  refine sx_istore_n (i := 2) (lc' := [(2, .int (0 : Int32)), (0, .ref 0), (1, .int a0)]) d_X10_aheadInCrowd_1 rfl (by decide) rfl ?_
  refine sx_iconst d_X10_aheadInCrowd_2 ic0 ?_
  refine sx_istore_n (i := 3) (lc' := [(3, .int (0 : Int32)), (2, .int (0 : Int32)), (0, .ref 0), (1, .int a0)]) d_X10_aheadInCrowd_3 rfl (by decide) rfl ?_
  refine sx_lc (lc' := [(0, .ref 0), (1, .int a0), (2, .int (0 : Int32)), (3, .int (0 : Int32))]) [2, 3, 1, 0] rfl ?_
  refine sL_X10_aheadInCrowd_4 d hd a0 1024 (0 : Int32) (0 : Int32) h
theorem d_X10_crowd_0 : DC mi_X10_crowd 0 (.aload_n 0) 1 1 := ⟨by decide +kernel, rfl⟩
theorem d_X10_crowd_1 : DC mi_X10_crowd 1 (.iload_n 1) 1 2 := ⟨by decide +kernel, rfl⟩
theorem d_X10_crowd_2 : DC mi_X10_crowd 2 (.invokevirtual 177) 3 5 := ⟨by decide +kernel, rfl⟩
theorem d_X10_crowd_5 : DB mi_X10_crowd 5 (.ifCond .eq 7) 7 8 12 := ⟨by decide +kernel, rfl, by decide⟩
theorem d_X10_crowd_8 : DC mi_X10_crowd 8 (.iload_n 2) 1 9 := ⟨by decide +kernel, rfl⟩
theorem d_X10_crowd_9 : DB mi_X10_crowd 9 (.ifCond .ge 5) 5 12 14 := ⟨by decide +kernel, rfl, by decide⟩
theorem d_X10_crowd_12 : DC mi_X10_crowd 12 (.iconst (-1)) 1 13 := ⟨by decide +kernel, rfl⟩
theorem d_X10_crowd_13 : DC mi_X10_crowd 13 (.ireturn) 1 14 := ⟨by decide +kernel, rfl⟩
theorem d_X10_crowd_14 : DC mi_X10_crowd 14 (.iconst 0) 1 15 := ⟨by decide +kernel, rfl⟩
theorem d_X10_crowd_15 : DC mi_X10_crowd 15 (.istore_n 3) 1 16 := ⟨by decide +kernel, rfl⟩
theorem d_X10_crowd_16 : DC mi_X10_crowd 16 (.iload_n 3) 1 17 := ⟨by decide +kernel, rfl⟩
theorem d_X10_crowd_17 : DC mi_X10_crowd 17 (.aload_n 0) 1 18 := ⟨by decide +kernel, rfl⟩
theorem d_X10_crowd_18 : DC mi_X10_crowd 18 (.getfield 16) 3 21 := ⟨by decide +kernel, rfl⟩
theorem d_X10_crowd_21 : DC mi_X10_crowd 21 (.getfield 109) 3 24 := ⟨by decide +kernel, rfl⟩
theorem d_X10_crowd_24 : DB mi_X10_crowd 24 (.if_icmp .ge 33) 33 27 57 := ⟨by decide +kernel, rfl, by decide⟩
theorem d_X10_crowd_27 : DC mi_X10_crowd 27 (.aload_n 0) 1 28 := ⟨by decide +kernel, rfl⟩
theorem d_X10_crowd_28 : DC mi_X10_crowd 28 (.getfield 30) 3 31 := ⟨by decide +kernel, rfl⟩
theorem d_X10_crowd_31 : DC mi_X10_crowd 31 (.getfield 134) 3 34 := ⟨by decide +kernel, rfl⟩
theorem d_X10_crowd_34 : DC mi_X10_crowd 34 (.iload_n 3) 1 35 := ⟨by decide +kernel, rfl⟩
theorem d_X10_crowd_35 : DC mi_X10_crowd 35 (.iaload) 1 36 := ⟨by decide +kernel, rfl⟩
theorem d_X10_crowd_36 : DC mi_X10_crowd 36 (.iload_n 1) 1 37 := ⟨by decide +kernel, rfl⟩
theorem d_X10_crowd_37 : DB mi_X10_crowd 37 (.if_icmp .ne 14) 14 40 51 := ⟨by decide +kernel, rfl, by decide⟩
theorem d_X10_crowd_40 : DC mi_X10_crowd 40 (.aload_n 0) 1 41 := ⟨by decide +kernel, rfl⟩
theorem d_X10_crowd_41 : DC mi_X10_crowd 41 (.iload_n 3) 1 42 := ⟨by decide +kernel, rfl⟩
theorem d_X10_crowd_42 : DC mi_X10_crowd 42 (.invokevirtual 180) 3 45 := ⟨by decide +kernel, rfl⟩
theorem d_X10_crowd_45 : DC mi_X10_crowd 45 (.iload_n 2) 1 46 := ⟨by decide +kernel, rfl⟩
theorem d_X10_crowd_46 : DB mi_X10_crowd 46 (.if_icmp .ne 5) 5 49 51 := ⟨by decide +kernel, rfl, by decide⟩
theorem d_X10_crowd_49 : DC mi_X10_crowd 49 (.iload_n 3) 1 50 := ⟨by decide +kernel, rfl⟩
theorem d_X10_crowd_50 : DC mi_X10_crowd 50 (.ireturn) 1 51 := ⟨by decide +kernel, rfl⟩
theorem d_X10_crowd_51 : DC mi_X10_crowd 51 (.iinc 3 1) 3 54 := ⟨by decide +kernel, rfl⟩
theorem d_X10_crowd_54 : DB mi_X10_crowd 54 (.goto (-38)) (-38) 57 16 := ⟨by decide +kernel, rfl, by decide⟩
theorem d_X10_crowd_57 : DC mi_X10_crowd 57 (.bipush (-2)) 2 59 := ⟨by decide +kernel, rfl⟩
theorem d_X10_crowd_59 : DC mi_X10_crowd 59 (.ireturn) 1 60 := ⟨by decide +kernel, rfl⟩
set_option maxHeartbeats 4000000 in
set_option maxRecDepth 100000 in
theorem sL_X10_crowd_16 (d : Nat) (hd : 1 ≤ d) (c1 : Int32) (c2 : Int32) : ∀ (n : Nat) (x3 : Int32) (h : HH), Sx mi_X10_crowd d iI (g_X10_crowd_L16 c1 c2 n x3 h) 16 [(0, .ref 0), (1, .int c1), (2, .int c2), (3, .int x3)] [] h := by
  intro n
  induction n with
  | zero => intro x3 h; exact sx_none
  | succ n ih =>
    intro x3 h
    rw [g_X10_crowd_L16]
    refine sx_iload_n d_X10_crowd_16 3 rfl ?_
    refine sx_aload_n d_X10_crowd_17 0 rfl ?_
    refine sx_getR fl_StairCount_16 sh_0 rfl d_X10_crowd_18 (fun p3 => ?_)
    refine sx_ckH (fun ep3 => ?_)
    refine sx_getI fl_StairCount_109 ep3 rfl d_X10_crowd_21 (fun v4 => ?_)
    refine sx_icmp_ge d_X10_crowd_24 ?_ ?_
    · refine sx_aload_n d_X10_crowd_27 0 rfl ?_
      refine sx_getF (a' := 52) fl_StairCount_30 sh_0 rfl rfl d_X10_crowd_28 ?_
      refine sx_getF (a' := 53) fl_StairCount_134 sh_52 rfl rfl d_X10_crowd_31 ?_
      refine sx_iload_n d_X10_crowd_34 3 rfl ?_
      refine sx_iald sh_53 d_X10_crowd_35 (fun v5 => ?_)
      refine sx_iload_n d_X10_crowd_36 1 rfl ?_
      refine sx_jn (fun j => ∀  (h : HH), Sx mi_X10_crowd d iI (j  h) 51 [(0, .ref 0), (1, .int c1), (2, .int c2), (3, .int x3)] [] h) ?_ ?_
      · intro  h8
        refine sx_iincV (lc' := fun v9 => [(3, .int v9), (0, .ref 0), (1, .int c1), (2, .int c2)]) (k0 := 3) d_X10_crowd_51 rfl ii1 (by decide) (fun _ => rfl) (fun v9 => ?_)
        refine sx_goto d_X10_crowd_54 ?_
        refine sx_lc (lc' := [(0, .ref 0), (1, .int c1), (2, .int c2), (3, .int v9)]) [1, 2, 3, 0] rfl ?_
        exact ih v9 h8
      · intro j6 k7
        refine sx_icmp_ne d_X10_crowd_37 ?_ ?_
        · refine sx_aload_n d_X10_crowd_40 0 rfl ?_
          refine sx_iload_n d_X10_crowd_41 3 rfl ?_
          refine sx_callV [.int x3] mv_X10_aheadInCrowd lM_StairCount_180 sh_0 (by omega) rfl rfl (Nat.le_of_ble_eq_true rfl) d_X10_crowd_42 (sp_X10_aheadInCrowd (d - 1) (by omega) x3 h) (fun r11 h10 => ?_)
          refine sx_iload_n d_X10_crowd_45 2 rfl ?_
          refine sx_icmp_ne d_X10_crowd_46 ?_ ?_
          · refine sx_iload_n d_X10_crowd_49 3 rfl ?_
            exact sx_iret rfl d_X10_crowd_50
          · exact k7 h10
        · exact k7 h
    · refine sx_bipush d_X10_crowd_57 bcm2 ?_
      exact sx_iret rfl d_X10_crowd_59
set_option maxHeartbeats 4000000 in
set_option maxRecDepth 100000 in
theorem sp_X10_crowd (d : Nat) (hd : 1 ≤ d) (a0 : Int32) (a1 : Int32) (h : HH) : Sp mi_X10_crowd d iI [.ref 0, .int a0, .int a1] h (g_X10_crowd a0 a1 h) := by
  refine sp_of (lc := [(0, .ref 0), (1, .int a0), (2, .int a1)]) (by decide) (Nat.le_of_ble_eq_true rfl) rfl ?_
  unfold g_X10_crowd
  refine sx_aload_n d_X10_crowd_0 0 rfl ?_
  refine sx_iload_n d_X10_crowd_1 1 rfl ?_
  refine sx_callV [.int a0] mv_X10_isFloor lM_StairCount_177 sh_0 (by omega) rfl rfl (Nat.le_of_ble_eq_true rfl) d_X10_crowd_2 (sp_X10_isFloor (d - 1) (by omega) a0 h) (fun r2 h1 => ?_)
  refine sx_if_eq d_X10_crowd_5 ?_ ?_
  · refine sx_iconst d_X10_crowd_12 icm1 ?_
    exact sx_iret rfl d_X10_crowd_13
  · refine sx_iload_n d_X10_crowd_8 2 rfl ?_
    refine sx_if_ge d_X10_crowd_9 ?_ ?_
    · refine sx_iconst d_X10_crowd_12 icm1 ?_
      exact sx_iret rfl d_X10_crowd_13
    · refine sx_iconst d_X10_crowd_14 ic0 ?_
      refine sx_istore_n (i := 3) (lc' := [(3, .int (0 : Int32)), (0, .ref 0), (1, .int a0), (2, .int a1)]) d_X10_crowd_15 rfl (by decide) rfl ?_
      refine sx_lc (lc' := [(0, .ref 0), (1, .int a0), (2, .int a1), (3, .int (0 : Int32))]) [1, 2, 3, 0] rfl ?_
      refine sL_X10_crowd_16 d hd a0 a1 1024 (0 : Int32) h1
theorem d_X10_order_0 : DC mi_X10_order 0 (.iload_n 1) 1 1 := ⟨by decide +kernel, rfl⟩
theorem d_X10_order_1 : DB mi_X10_order 1 (.ifCond .lt 13) 13 4 14 := ⟨by decide +kernel, rfl, by decide⟩
theorem d_X10_order_4 : DC mi_X10_order 4 (.iload_n 1) 1 5 := ⟨by decide +kernel, rfl⟩
theorem d_X10_order_5 : DC mi_X10_order 5 (.bipush 100) 2 7 := ⟨by decide +kernel, rfl⟩
theorem d_X10_order_7 : DB mi_X10_order 7 (.if_icmp .ge 7) 7 10 14 := ⟨by decide +kernel, rfl, by decide⟩
theorem d_X10_order_10 : DC mi_X10_order 10 (.iload_n 2) 1 11 := ⟨by decide +kernel, rfl⟩
theorem d_X10_order_11 : DB mi_X10_order 11 (.ifCond .ge 5) 5 14 16 := ⟨by decide +kernel, rfl, by decide⟩
theorem d_X10_order_14 : DC mi_X10_order 14 (.iconst (-1)) 1 15 := ⟨by decide +kernel, rfl⟩
theorem d_X10_order_15 : DC mi_X10_order 15 (.ireturn) 1 16 := ⟨by decide +kernel, rfl⟩
theorem d_X10_order_16 : DC mi_X10_order 16 (.aload_n 0) 1 17 := ⟨by decide +kernel, rfl⟩
theorem d_X10_order_17 : DC mi_X10_order 17 (.invokevirtual 168) 3 20 := ⟨by decide +kernel, rfl⟩
theorem d_X10_order_20 : DC mi_X10_order 20 (.aload_n 0) 1 21 := ⟨by decide +kernel, rfl⟩
theorem d_X10_order_21 : DC mi_X10_order 21 (.getfield 54) 3 24 := ⟨by decide +kernel, rfl⟩
theorem d_X10_order_24 : DC mi_X10_order 24 (.iload_n 1) 1 25 := ⟨by decide +kernel, rfl⟩
theorem d_X10_order_25 : DC mi_X10_order 25 (.invokevirtual 183) 3 28 := ⟨by decide +kernel, rfl⟩
theorem d_X10_order_28 : DC mi_X10_order 28 (.iload_n 2) 1 29 := ⟨by decide +kernel, rfl⟩
theorem d_X10_order_29 : DC mi_X10_order 29 (.aload_n 0) 1 30 := ⟨by decide +kernel, rfl⟩
theorem d_X10_order_30 : DC mi_X10_order 30 (.getfield 54) 3 33 := ⟨by decide +kernel, rfl⟩
theorem d_X10_order_33 : DC mi_X10_order 33 (.getfield 186) 3 36 := ⟨by decide +kernel, rfl⟩
theorem d_X10_order_36 : DB mi_X10_order 36 (.if_icmp .ge 15) 15 39 51 := ⟨by decide +kernel, rfl, by decide⟩
theorem d_X10_order_39 : DC mi_X10_order 39 (.aload_n 0) 1 40 := ⟨by decide +kernel, rfl⟩
theorem d_X10_order_40 : DC mi_X10_order 40 (.getfield 54) 3 43 := ⟨by decide +kernel, rfl⟩
theorem d_X10_order_43 : DC mi_X10_order 43 (.getfield 189) 3 46 := ⟨by decide +kernel, rfl⟩
theorem d_X10_order_46 : DC mi_X10_order 46 (.iload_n 2) 1 47 := ⟨by decide +kernel, rfl⟩
theorem d_X10_order_47 : DC mi_X10_order 47 (.iaload) 1 48 := ⟨by decide +kernel, rfl⟩
theorem d_X10_order_48 : DB mi_X10_order 48 (.goto 5) 5 51 53 := ⟨by decide +kernel, rfl, by decide⟩
theorem d_X10_order_51 : DC mi_X10_order 51 (.bipush (-2)) 2 53 := ⟨by decide +kernel, rfl⟩
theorem d_X10_order_53 : DC mi_X10_order 53 (.ireturn) 1 54 := ⟨by decide +kernel, rfl⟩
set_option maxHeartbeats 4000000 in
set_option maxRecDepth 100000 in
theorem sp_X10_order (d : Nat) (hd : 3 ≤ d) (a0 : Int32) (a1 : Int32) (h : HH) : Sp mi_X10_order d iI [.ref 0, .int a0, .int a1] h (g_X10_order a0 a1 h) := by
  refine sp_of (lc := [(0, .ref 0), (1, .int a0), (2, .int a1)]) (by decide) (Nat.le_of_ble_eq_true rfl) rfl ?_
  unfold g_X10_order
  refine sx_iload_n d_X10_order_0 1 rfl ?_
  refine sx_if_lt d_X10_order_1 ?_ ?_
  · refine sx_iconst d_X10_order_14 icm1 ?_
    exact sx_iret rfl d_X10_order_15
  · refine sx_iload_n d_X10_order_4 1 rfl ?_
    refine sx_bipush d_X10_order_5 bc100 ?_
    refine sx_icmp_ge d_X10_order_7 ?_ ?_
    · refine sx_iload_n d_X10_order_10 2 rfl ?_
      refine sx_if_ge d_X10_order_11 ?_ ?_
      · refine sx_iconst d_X10_order_14 icm1 ?_
        exact sx_iret rfl d_X10_order_15
      · refine sx_aload_n d_X10_order_16 0 rfl ?_
        refine sx_callV [] mv_X10_lookAtNow lM_StairCount_168 sh_0 (by omega) rfl rfl (Nat.le_of_ble_eq_true rfl) d_X10_order_17 (sp_X10_lookAtNow (d - 1) (by omega) h) (fun _ h1 => ?_)
        refine sx_aload_n d_X10_order_20 0 rfl ?_
        refine sx_getF (a' := 193) fl_StairCount_54 sh_0 rfl rfl d_X10_order_21 ?_
        refine sx_iload_n d_X10_order_24 1 rfl ?_
        refine sx_callV [.int a0] mv_X0_lineUp lM_StairCount_183 sh_193 (by omega) rfl rfl (Nat.le_of_ble_eq_true rfl) d_X10_order_25 (sp_X0_lineUp (d - 1) (by omega) a0 h1) (fun _ h3 => ?_)
        refine sx_iload_n d_X10_order_28 2 rfl ?_
        refine sx_aload_n d_X10_order_29 0 rfl ?_
        refine sx_getF (a' := 193) fl_StairCount_54 sh_0 rfl rfl d_X10_order_30 ?_
        refine sx_getI fl_StairCount_186 sh_193 rfl d_X10_order_33 (fun v5 => ?_)
        refine sx_icmp_ge d_X10_order_36 ?_ ?_
        · refine sx_aload_n d_X10_order_39 0 rfl ?_
          refine sx_getF (a' := 193) fl_StairCount_54 sh_0 rfl rfl d_X10_order_40 ?_
          refine sx_getF (a' := 194) fl_StairCount_189 sh_193 rfl rfl d_X10_order_43 ?_
          refine sx_iload_n d_X10_order_46 2 rfl ?_
          refine sx_iald sh_194 d_X10_order_47 (fun v6 => ?_)
          refine sx_goto d_X10_order_48 ?_
          exact sx_iret rfl d_X10_order_53
        · refine sx_bipush d_X10_order_51 bcm2 ?_
          exact sx_iret rfl d_X10_order_53
    · refine sx_iconst d_X10_order_14 icm1 ?_
      exact sx_iret rfl d_X10_order_15
theorem d_X10_soon_0 : DC mi_X10_soon 0 (.iload_n 1) 1 1 := ⟨by decide +kernel, rfl⟩
theorem d_X10_soon_1 : DB mi_X10_soon 1 (.ifCond .lt 9) 9 4 10 := ⟨by decide +kernel, rfl, by decide⟩
theorem d_X10_soon_4 : DC mi_X10_soon 4 (.iload_n 1) 1 5 := ⟨by decide +kernel, rfl⟩
theorem d_X10_soon_5 : DC mi_X10_soon 5 (.bipush 100) 2 7 := ⟨by decide +kernel, rfl⟩
theorem d_X10_soon_7 : DB mi_X10_soon 7 (.if_icmp .lt 5) 5 10 12 := ⟨by decide +kernel, rfl, by decide⟩
theorem d_X10_soon_10 : DC mi_X10_soon 10 (.iconst (-1)) 1 11 := ⟨by decide +kernel, rfl⟩
theorem d_X10_soon_11 : DC mi_X10_soon 11 (.ireturn) 1 12 := ⟨by decide +kernel, rfl⟩
theorem d_X10_soon_12 : DC mi_X10_soon 12 (.aload_n 0) 1 13 := ⟨by decide +kernel, rfl⟩
theorem d_X10_soon_13 : DC mi_X10_soon 13 (.getfield 16) 3 16 := ⟨by decide +kernel, rfl⟩
theorem d_X10_soon_16 : DC mi_X10_soon 16 (.iload_n 1) 1 17 := ⟨by decide +kernel, rfl⟩
theorem d_X10_soon_17 : DC mi_X10_soon 17 (.invokevirtual 192) 3 20 := ⟨by decide +kernel, rfl⟩
theorem d_X10_soon_20 : DC mi_X10_soon 20 (.istore_n 2) 1 21 := ⟨by decide +kernel, rfl⟩
theorem d_X10_soon_21 : DC mi_X10_soon 21 (.iload_n 2) 1 22 := ⟨by decide +kernel, rfl⟩
theorem d_X10_soon_22 : DC mi_X10_soon 22 (.iconst (-1)) 1 23 := ⟨by decide +kernel, rfl⟩
theorem d_X10_soon_23 : DB mi_X10_soon 23 (.if_icmp .ne 8) 8 26 31 := ⟨by decide +kernel, rfl, by decide⟩
theorem d_X10_soon_26 : DC mi_X10_soon 26 (.bipush (-2)) 2 28 := ⟨by decide +kernel, rfl⟩
theorem d_X10_soon_28 : DB mi_X10_soon 28 (.goto 4) 4 31 32 := ⟨by decide +kernel, rfl, by decide⟩
theorem d_X10_soon_31 : DC mi_X10_soon 31 (.iload_n 2) 1 32 := ⟨by decide +kernel, rfl⟩
theorem d_X10_soon_32 : DC mi_X10_soon 32 (.ireturn) 1 33 := ⟨by decide +kernel, rfl⟩
set_option maxHeartbeats 4000000 in
set_option maxRecDepth 100000 in
theorem sp_X10_soon (d : Nat) (hd : 1 ≤ d) (a0 : Int32) (h : HH) : Sp mi_X10_soon d iI [.ref 0, .int a0] h (g_X10_soon a0 h) := by
  refine sp_of (lc := [(0, .ref 0), (1, .int a0)]) (by decide) (Nat.le_of_ble_eq_true rfl) rfl ?_
  unfold g_X10_soon
  refine sx_iload_n d_X10_soon_0 1 rfl ?_
  refine sx_if_lt d_X10_soon_1 ?_ ?_
  · refine sx_iconst d_X10_soon_10 icm1 ?_
    exact sx_iret rfl d_X10_soon_11
  · refine sx_iload_n d_X10_soon_4 1 rfl ?_
    refine sx_bipush d_X10_soon_5 bc100 ?_
    refine sx_icmp_lt d_X10_soon_7 ?_ ?_
    · refine sx_aload_n d_X10_soon_12 0 rfl ?_
      refine sx_getR fl_StairCount_16 sh_0 rfl d_X10_soon_13 (fun p1 => ?_)
      refine sx_ckH (fun ep1 => ?_)
      refine sx_iload_n d_X10_soon_16 1 rfl ?_
      refine sx_callV [.int a0] mv_X5_firstHour lM_StairCount_192 ep1 (by omega) rfl rfl (Nat.le_of_ble_eq_true rfl) d_X10_soon_17 (sp_X5_firstHour (d - 1) (by omega) p1 a0 h) (fun r3 h2 => ?_)
      refine sx_istore_n (i := 2) (lc' := [(2, .int r3), (0, .ref 0), (1, .int a0)]) d_X10_soon_20 rfl (by decide) rfl ?_
      refine sx_iload_n d_X10_soon_21 0 rfl ?_
      refine sx_iconst d_X10_soon_22 icm1 ?_
      refine sx_icmp_ne d_X10_soon_23 ?_ ?_
      · refine sx_bipush d_X10_soon_26 bcm2 ?_
        refine sx_goto d_X10_soon_28 ?_
        exact sx_iret rfl d_X10_soon_32
      · refine sx_iload_n d_X10_soon_31 0 rfl ?_
        exact sx_iret rfl d_X10_soon_32
    · refine sx_iconst d_X10_soon_10 icm1 ?_
      exact sx_iret rfl d_X10_soon_11
theorem d_X10_law_0 : DC mi_X10_law 0 (.iload_n 1) 1 1 := ⟨by decide +kernel, rfl⟩
theorem d_X10_law_1 : DB mi_X10_law 1 (.ifCond .lt 24) 24 4 25 := ⟨by decide +kernel, rfl, by decide⟩
theorem d_X10_law_4 : DC mi_X10_law 4 (.iload_n 1) 1 5 := ⟨by decide +kernel, rfl⟩
theorem d_X10_law_5 : DC mi_X10_law 5 (.iconst 3) 1 6 := ⟨by decide +kernel, rfl⟩
theorem d_X10_law_6 : DB mi_X10_law 6 (.if_icmp .ge 19) 19 9 25 := ⟨by decide +kernel, rfl, by decide⟩
theorem d_X10_law_9 : DC mi_X10_law 9 (.aload_n 0) 1 10 := ⟨by decide +kernel, rfl⟩
theorem d_X10_law_10 : DC mi_X10_law 10 (.iload_n 2) 1 11 := ⟨by decide +kernel, rfl⟩
theorem d_X10_law_11 : DC mi_X10_law 11 (.invokevirtual 115) 3 14 := ⟨by decide +kernel, rfl⟩
theorem d_X10_law_14 : DB mi_X10_law 14 (.ifCond .eq 11) 11 17 25 := ⟨by decide +kernel, rfl, by decide⟩
theorem d_X10_law_17 : DC mi_X10_law 17 (.aload_n 0) 1 18 := ⟨by decide +kernel, rfl⟩
theorem d_X10_law_18 : DC mi_X10_law 18 (.iload_n 3) 1 19 := ⟨by decide +kernel, rfl⟩
theorem d_X10_law_19 : DC mi_X10_law 19 (.invokevirtual 155) 3 22 := ⟨by decide +kernel, rfl⟩
theorem d_X10_law_22 : DB mi_X10_law 22 (.ifCond .ne 7) 7 25 29 := ⟨by decide +kernel, rfl, by decide⟩
theorem d_X10_law_25 : DC mi_X10_law 25 (.ldc2_w 197) 3 28 := ⟨by decide +kernel, rfl⟩
theorem d_X10_law_28 : DC mi_X10_law 28 (.lreturn) 1 29 := ⟨by decide +kernel, rfl⟩
theorem d_X10_law_29 : DC mi_X10_law 29 (.aload_n 0) 1 30 := ⟨by decide +kernel, rfl⟩
theorem d_X10_law_30 : DC mi_X10_law 30 (.invokevirtual 168) 3 33 := ⟨by decide +kernel, rfl⟩
theorem d_X10_law_33 : DC mi_X10_law 33 (.aload_n 0) 1 34 := ⟨by decide +kernel, rfl⟩
theorem d_X10_law_34 : DC mi_X10_law 34 (.getfield 54) 3 37 := ⟨by decide +kernel, rfl⟩
theorem d_X10_law_37 : DC mi_X10_law 37 (.iload_n 1) 1 38 := ⟨by decide +kernel, rfl⟩
theorem d_X10_law_38 : DC mi_X10_law 38 (.iload_n 2) 1 39 := ⟨by decide +kernel, rfl⟩
theorem d_X10_law_39 : DC mi_X10_law 39 (.iload_n 3) 1 40 := ⟨by decide +kernel, rfl⟩
theorem d_X10_law_40 : DC mi_X10_law 40 (.iconst 0) 1 41 := ⟨by decide +kernel, rfl⟩
theorem d_X10_law_41 : DC mi_X10_law 41 (.invokevirtual 199) 3 44 := ⟨by decide +kernel, rfl⟩
theorem d_X10_law_44 : DC mi_X10_law 44 (.lreturn) 1 45 := ⟨by decide +kernel, rfl⟩
set_option maxHeartbeats 4000000 in
set_option maxRecDepth 100000 in
theorem sp_X10_law (d : Nat) (hd : 2 ≤ d) (a0 : Int32) (a1 : Int32) (a2 : Int32) (h : HH) : Sp mi_X10_law d iL [.ref 0, .int a0, .int a1, .int a2] h (g_X10_law a0 a1 a2 h) := by
  refine sp_of (lc := [(0, .ref 0), (1, .int a0), (2, .int a1), (3, .int a2)]) (by decide) (Nat.le_of_ble_eq_true rfl) rfl ?_
  unfold g_X10_law
  refine sx_iload_n d_X10_law_0 1 rfl ?_
  refine sx_if_lt d_X10_law_1 ?_ ?_
  · refine sx_ldc2 d_X10_law_25 lQ_StairCount_197 ?_
    exact sx_lret rfl d_X10_law_28
  · refine sx_iload_n d_X10_law_4 1 rfl ?_
    refine sx_iconst d_X10_law_5 ic3 ?_
    refine sx_icmp_ge d_X10_law_6 ?_ ?_
    · refine sx_aload_n d_X10_law_9 0 rfl ?_
      refine sx_iload_n d_X10_law_10 2 rfl ?_
      refine sx_callV [.int a1] mv_X10_isPerson lM_StairCount_115 sh_0 (by omega) rfl rfl (Nat.le_of_ble_eq_true rfl) d_X10_law_11 (sp_X10_isPerson (d - 1) (by omega) a1 h) (fun r2 h1 => ?_)
      refine sx_if_eq d_X10_law_14 ?_ ?_
      · refine sx_ldc2 d_X10_law_25 lQ_StairCount_197 ?_
        exact sx_lret rfl d_X10_law_28
      · refine sx_aload_n d_X10_law_17 0 rfl ?_
        refine sx_iload_n d_X10_law_18 3 rfl ?_
        refine sx_callV [.int a2] mv_X10_isFlight lM_StairCount_155 sh_0 (by omega) rfl rfl (Nat.le_of_ble_eq_true rfl) d_X10_law_19 (sp_X10_isFlight (d - 1) (by omega) a2 h1) (fun r4 h3 => ?_)
        refine sx_if_ne d_X10_law_22 ?_ ?_
        · refine sx_ldc2 d_X10_law_25 lQ_StairCount_197 ?_
          exact sx_lret rfl d_X10_law_28
        · refine sx_aload_n d_X10_law_29 0 rfl ?_
          refine sx_callV [] mv_X10_lookAtNow lM_StairCount_168 sh_0 (by omega) rfl rfl (Nat.le_of_ble_eq_true rfl) d_X10_law_30 (sp_X10_lookAtNow (d - 1) (by omega) h3) (fun _ h5 => ?_)
          refine sx_aload_n d_X10_law_33 0 rfl ?_
          refine sx_getF (a' := 193) fl_StairCount_54 sh_0 rfl rfl d_X10_law_34 ?_
          refine sx_iload_n d_X10_law_37 1 rfl ?_
          refine sx_iload_n d_X10_law_38 2 rfl ?_
          refine sx_iload_n d_X10_law_39 3 rfl ?_
          refine sx_iconst d_X10_law_40 ic0 ?_
          refine sx_callV [.int a0, .int a1, .int a2, .int (0 : Int32)] mv_X0_valueOf lM_StairCount_199 sh_193 (by omega) rfl rfl (Nat.le_of_ble_eq_true rfl) d_X10_law_41 (sp_X0_valueOf (d - 1) (by omega) a0 a1 a2 (0 : Int32) h5) (fun r8 h7 => ?_)
          exact sx_lret rfl d_X10_law_44
    · refine sx_ldc2 d_X10_law_25 lQ_StairCount_197 ?_
      exact sx_lret rfl d_X10_law_28
theorem d_X10_count_0 : DC mi_X10_count 0 (.iload_n 1) 1 1 := ⟨by decide +kernel, rfl⟩
theorem d_X10_count_1 : DW mi_X10_count 1 (.tableswitch 198 0 13 #[71, 79, 87, 95, 103, 114, 122, 130, 141, 152, 163, 174, 182, 190]) := ⟨71, by decide +kernel⟩
theorem d_X10_count_72 : DC mi_X10_count 72 (.aload_n 0) 1 73 := ⟨by decide +kernel, rfl⟩
theorem d_X10_count_73 : DC mi_X10_count 73 (.getfield 16) 3 76 := ⟨by decide +kernel, rfl⟩
theorem d_X10_count_76 : DC mi_X10_count 76 (.getfield 112) 3 79 := ⟨by decide +kernel, rfl⟩
theorem d_X10_count_79 : DC mi_X10_count 79 (.ireturn) 1 80 := ⟨by decide +kernel, rfl⟩
theorem d_X10_count_80 : DC mi_X10_count 80 (.aload_n 0) 1 81 := ⟨by decide +kernel, rfl⟩
theorem d_X10_count_81 : DC mi_X10_count 81 (.getfield 16) 3 84 := ⟨by decide +kernel, rfl⟩
theorem d_X10_count_84 : DC mi_X10_count 84 (.getfield 109) 3 87 := ⟨by decide +kernel, rfl⟩
theorem d_X10_count_87 : DC mi_X10_count 87 (.ireturn) 1 88 := ⟨by decide +kernel, rfl⟩
theorem d_X10_count_88 : DC mi_X10_count 88 (.aload_n 0) 1 89 := ⟨by decide +kernel, rfl⟩
theorem d_X10_count_89 : DC mi_X10_count 89 (.getfield 16) 3 92 := ⟨by decide +kernel, rfl⟩
theorem d_X10_count_92 : DC mi_X10_count 92 (.getfield 203) 3 95 := ⟨by decide +kernel, rfl⟩
theorem d_X10_count_95 : DC mi_X10_count 95 (.ireturn) 1 96 := ⟨by decide +kernel, rfl⟩
theorem d_X10_count_96 : DC mi_X10_count 96 (.aload_n 0) 1 97 := ⟨by decide +kernel, rfl⟩
theorem d_X10_count_97 : DC mi_X10_count 97 (.getfield 16) 3 100 := ⟨by decide +kernel, rfl⟩
theorem d_X10_count_100 : DC mi_X10_count 100 (.getfield 206) 3 103 := ⟨by decide +kernel, rfl⟩
theorem d_X10_count_103 : DC mi_X10_count 103 (.ireturn) 1 104 := ⟨by decide +kernel, rfl⟩
theorem d_X10_count_104 : DC mi_X10_count 104 (.aload_n 0) 1 105 := ⟨by decide +kernel, rfl⟩
theorem d_X10_count_105 : DC mi_X10_count 105 (.getfield 16) 3 108 := ⟨by decide +kernel, rfl⟩
theorem d_X10_count_108 : DC mi_X10_count 108 (.getfield 209) 3 111 := ⟨by decide +kernel, rfl⟩
theorem d_X10_count_111 : DC mi_X10_count 111 (.getfield 213) 3 114 := ⟨by decide +kernel, rfl⟩
theorem d_X10_count_114 : DC mi_X10_count 114 (.ireturn) 1 115 := ⟨by decide +kernel, rfl⟩
theorem d_X10_count_115 : DC mi_X10_count 115 (.aload_n 0) 1 116 := ⟨by decide +kernel, rfl⟩
theorem d_X10_count_116 : DC mi_X10_count 116 (.getfield 30) 3 119 := ⟨by decide +kernel, rfl⟩
theorem d_X10_count_119 : DC mi_X10_count 119 (.getfield 218) 3 122 := ⟨by decide +kernel, rfl⟩
theorem d_X10_count_122 : DC mi_X10_count 122 (.ireturn) 1 123 := ⟨by decide +kernel, rfl⟩
theorem d_X10_count_123 : DC mi_X10_count 123 (.aload_n 0) 1 124 := ⟨by decide +kernel, rfl⟩
theorem d_X10_count_124 : DC mi_X10_count 124 (.getfield 30) 3 127 := ⟨by decide +kernel, rfl⟩
theorem d_X10_count_127 : DC mi_X10_count 127 (.invokevirtual 221) 3 130 := ⟨by decide +kernel, rfl⟩
theorem d_X10_count_130 : DC mi_X10_count 130 (.ireturn) 1 131 := ⟨by decide +kernel, rfl⟩
theorem d_X10_count_131 : DC mi_X10_count 131 (.aload_n 0) 1 132 := ⟨by decide +kernel, rfl⟩
theorem d_X10_count_132 : DC mi_X10_count 132 (.getfield 30) 3 135 := ⟨by decide +kernel, rfl⟩
theorem d_X10_count_135 : DC mi_X10_count 135 (.getfield 141) 3 138 := ⟨by decide +kernel, rfl⟩
theorem d_X10_count_138 : DC mi_X10_count 138 (.invokestatic 225) 3 141 := ⟨by decide +kernel, rfl⟩
theorem d_X10_count_141 : DC mi_X10_count 141 (.ireturn) 1 142 := ⟨by decide +kernel, rfl⟩
theorem d_X10_count_142 : DC mi_X10_count 142 (.aload_n 0) 1 143 := ⟨by decide +kernel, rfl⟩
theorem d_X10_count_143 : DC mi_X10_count 143 (.getfield 30) 3 146 := ⟨by decide +kernel, rfl⟩
theorem d_X10_count_146 : DC mi_X10_count 146 (.getfield 144) 3 149 := ⟨by decide +kernel, rfl⟩
theorem d_X10_count_149 : DC mi_X10_count 149 (.invokestatic 225) 3 152 := ⟨by decide +kernel, rfl⟩
theorem d_X10_count_152 : DC mi_X10_count 152 (.ireturn) 1 153 := ⟨by decide +kernel, rfl⟩
theorem d_X10_count_153 : DC mi_X10_count 153 (.aload_n 0) 1 154 := ⟨by decide +kernel, rfl⟩
theorem d_X10_count_154 : DC mi_X10_count 154 (.getfield 30) 3 157 := ⟨by decide +kernel, rfl⟩
theorem d_X10_count_157 : DC mi_X10_count 157 (.getfield 147) 3 160 := ⟨by decide +kernel, rfl⟩
theorem d_X10_count_160 : DC mi_X10_count 160 (.invokestatic 225) 3 163 := ⟨by decide +kernel, rfl⟩
theorem d_X10_count_163 : DC mi_X10_count 163 (.ireturn) 1 164 := ⟨by decide +kernel, rfl⟩
theorem d_X10_count_164 : DC mi_X10_count 164 (.aload_n 0) 1 165 := ⟨by decide +kernel, rfl⟩
theorem d_X10_count_165 : DC mi_X10_count 165 (.getfield 30) 3 168 := ⟨by decide +kernel, rfl⟩
theorem d_X10_count_168 : DC mi_X10_count 168 (.getfield 134) 3 171 := ⟨by decide +kernel, rfl⟩
theorem d_X10_count_171 : DC mi_X10_count 171 (.invokestatic 225) 3 174 := ⟨by decide +kernel, rfl⟩
theorem d_X10_count_174 : DC mi_X10_count 174 (.ireturn) 1 175 := ⟨by decide +kernel, rfl⟩
theorem d_X10_count_175 : DC mi_X10_count 175 (.aload_n 0) 1 176 := ⟨by decide +kernel, rfl⟩
theorem d_X10_count_176 : DC mi_X10_count 176 (.getfield 47) 3 179 := ⟨by decide +kernel, rfl⟩
theorem d_X10_count_179 : DC mi_X10_count 179 (.getfield 229) 3 182 := ⟨by decide +kernel, rfl⟩
theorem d_X10_count_182 : DC mi_X10_count 182 (.ireturn) 1 183 := ⟨by decide +kernel, rfl⟩
theorem d_X10_count_183 : DC mi_X10_count 183 (.aload_n 0) 1 184 := ⟨by decide +kernel, rfl⟩
theorem d_X10_count_184 : DC mi_X10_count 184 (.getfield 47) 3 187 := ⟨by decide +kernel, rfl⟩
theorem d_X10_count_187 : DC mi_X10_count 187 (.invokevirtual 232) 3 190 := ⟨by decide +kernel, rfl⟩
theorem d_X10_count_190 : DC mi_X10_count 190 (.ireturn) 1 191 := ⟨by decide +kernel, rfl⟩
theorem d_X10_count_191 : DC mi_X10_count 191 (.aload_n 0) 1 192 := ⟨by decide +kernel, rfl⟩
theorem d_X10_count_192 : DC mi_X10_count 192 (.getfield 40) 3 195 := ⟨by decide +kernel, rfl⟩
theorem d_X10_count_195 : DC mi_X10_count 195 (.getfield 235) 3 198 := ⟨by decide +kernel, rfl⟩
theorem d_X10_count_198 : DC mi_X10_count 198 (.ireturn) 1 199 := ⟨by decide +kernel, rfl⟩
theorem d_X10_count_199 : DC mi_X10_count 199 (.iconst (-1)) 1 200 := ⟨by decide +kernel, rfl⟩
theorem d_X10_count_200 : DC mi_X10_count 200 (.ireturn) 1 201 := ⟨by decide +kernel, rfl⟩
set_option maxHeartbeats 4000000 in
set_option maxRecDepth 100000 in
theorem sp_X10_count (d : Nat) (hd : 1 ≤ d) (a0 : Int32) (h : HH) : Sp mi_X10_count d iI [.ref 0, .int a0] h (g_X10_count a0 h) := by
  refine sp_of (lc := [(0, .ref 0), (1, .int a0)]) (by decide) (Nat.le_of_ble_eq_true rfl) rfl ?_
  unfold g_X10_count
  refine sx_iload_n d_X10_count_0 1 rfl ?_
  refine sx_if (fun e1 => ?_) (fun e1 => ?_)
  · refine sx_tsIn (off := 71) (t := 72) d_X10_count_1 (by rw [e1] <;> decide) (by rw [e1] <;> decide) (by rw [e1] <;> decide) (by decide) ?_
    refine sx_aload_n d_X10_count_72 0 rfl ?_
    refine sx_getR fl_StairCount_16 sh_0 rfl d_X10_count_73 (fun p2 => ?_)
    refine sx_ckH (fun ep2 => ?_)
    refine sx_getI fl_StairCount_112 ep2 rfl d_X10_count_76 (fun v3 => ?_)
    exact sx_iret rfl d_X10_count_79
  · refine sx_if (fun e4 => ?_) (fun e4 => ?_)
    · refine sx_tsIn (off := 79) (t := 80) d_X10_count_1 (by rw [e4] <;> decide) (by rw [e4] <;> decide) (by rw [e4] <;> decide) (by decide) ?_
      refine sx_aload_n d_X10_count_80 0 rfl ?_
      refine sx_getR fl_StairCount_16 sh_0 rfl d_X10_count_81 (fun p5 => ?_)
      refine sx_ckH (fun ep5 => ?_)
      refine sx_getI fl_StairCount_109 ep5 rfl d_X10_count_84 (fun v6 => ?_)
      exact sx_iret rfl d_X10_count_87
    · refine sx_if (fun e7 => ?_) (fun e7 => ?_)
      · refine sx_tsIn (off := 87) (t := 88) d_X10_count_1 (by rw [e7] <;> decide) (by rw [e7] <;> decide) (by rw [e7] <;> decide) (by decide) ?_
        refine sx_aload_n d_X10_count_88 0 rfl ?_
        refine sx_getR fl_StairCount_16 sh_0 rfl d_X10_count_89 (fun p8 => ?_)
        refine sx_ckH (fun ep8 => ?_)
        refine sx_getI fl_StairCount_203 ep8 rfl d_X10_count_92 (fun v9 => ?_)
        exact sx_iret rfl d_X10_count_95
      · refine sx_if (fun e10 => ?_) (fun e10 => ?_)
        · refine sx_tsIn (off := 95) (t := 96) d_X10_count_1 (by rw [e10] <;> decide) (by rw [e10] <;> decide) (by rw [e10] <;> decide) (by decide) ?_
          refine sx_aload_n d_X10_count_96 0 rfl ?_
          refine sx_getR fl_StairCount_16 sh_0 rfl d_X10_count_97 (fun p11 => ?_)
          refine sx_ckH (fun ep11 => ?_)
          refine sx_getI fl_StairCount_206 ep11 rfl d_X10_count_100 (fun v12 => ?_)
          exact sx_iret rfl d_X10_count_103
        · refine sx_if (fun e13 => ?_) (fun e13 => ?_)
          · refine sx_tsIn (off := 103) (t := 104) d_X10_count_1 (by rw [e13] <;> decide) (by rw [e13] <;> decide) (by rw [e13] <;> decide) (by decide) ?_
            refine sx_aload_n d_X10_count_104 0 rfl ?_
            refine sx_getR fl_StairCount_16 sh_0 rfl d_X10_count_105 (fun p14 => ?_)
            refine sx_ckH (fun ep14 => ?_)
            refine sx_getF (a' := (p14 + 11)) fl_StairCount_209 ep14 rfl rfl d_X10_count_108 ?_
            refine sx_getI fl_StairCount_213 (shf_5_14 ep14) rfl d_X10_count_111 (fun v15 => ?_)
            exact sx_iret rfl d_X10_count_114
          · refine sx_if (fun e16 => ?_) (fun e16 => ?_)
            · refine sx_tsIn (off := 114) (t := 115) d_X10_count_1 (by rw [e16] <;> decide) (by rw [e16] <;> decide) (by rw [e16] <;> decide) (by decide) ?_
              refine sx_aload_n d_X10_count_115 0 rfl ?_
              refine sx_getF (a' := 52) fl_StairCount_30 sh_0 rfl rfl d_X10_count_116 ?_
              refine sx_getI fl_StairCount_218 sh_52 rfl d_X10_count_119 (fun v17 => ?_)
              exact sx_iret rfl d_X10_count_122
            · refine sx_if (fun e18 => ?_) (fun e18 => ?_)
              · refine sx_tsIn (off := 122) (t := 123) d_X10_count_1 (by rw [e18] <;> decide) (by rw [e18] <;> decide) (by rw [e18] <;> decide) (by decide) ?_
                refine sx_aload_n d_X10_count_123 0 rfl ?_
                refine sx_getF (a' := 52) fl_StairCount_30 sh_0 rfl rfl d_X10_count_124 ?_
                refine sx_callV [] mv_X7_tallies lM_StairCount_221 sh_52 (by omega) rfl rfl (Nat.le_of_ble_eq_true rfl) d_X10_count_127 (sp_X7_tallies (d - 1) (by omega) 52 h) (fun r20 h19 => ?_)
                exact sx_iret rfl d_X10_count_130
              · refine sx_if (fun e21 => ?_) (fun e21 => ?_)
                · refine sx_tsIn (off := 130) (t := 131) d_X10_count_1 (by rw [e21] <;> decide) (by rw [e21] <;> decide) (by rw [e21] <;> decide) (by decide) ?_
                  refine sx_aload_n d_X10_count_131 0 rfl ?_
                  refine sx_getF (a' := 52) fl_StairCount_30 sh_0 rfl rfl d_X10_count_132 ?_
                  refine sx_getF (a' := 54) fl_StairCount_141 sh_52 rfl rfl d_X10_count_135 ?_
                  refine sx_callS [.ref 54] ms_X7_sumOf lM_StairCount_225 (by omega) rfl rfl (Nat.le_of_ble_eq_true rfl) d_X10_count_138 (sp_X7_sumOf (d - 1) (by omega) 54 h) (fun r23 h22 => ?_)
                  exact sx_iret rfl d_X10_count_141
                · refine sx_if (fun e24 => ?_) (fun e24 => ?_)
                  · refine sx_tsIn (off := 141) (t := 142) d_X10_count_1 (by rw [e24] <;> decide) (by rw [e24] <;> decide) (by rw [e24] <;> decide) (by decide) ?_
                    refine sx_aload_n d_X10_count_142 0 rfl ?_
                    refine sx_getF (a' := 52) fl_StairCount_30 sh_0 rfl rfl d_X10_count_143 ?_
                    refine sx_getF (a' := 55) fl_StairCount_144 sh_52 rfl rfl d_X10_count_146 ?_
                    refine sx_callS [.ref 55] ms_X7_sumOf lM_StairCount_225 (by omega) rfl rfl (Nat.le_of_ble_eq_true rfl) d_X10_count_149 (sp_X7_sumOf (d - 1) (by omega) 55 h) (fun r26 h25 => ?_)
                    exact sx_iret rfl d_X10_count_152
                  · refine sx_if (fun e27 => ?_) (fun e27 => ?_)
                    · refine sx_tsIn (off := 152) (t := 153) d_X10_count_1 (by rw [e27] <;> decide) (by rw [e27] <;> decide) (by rw [e27] <;> decide) (by decide) ?_
                      refine sx_aload_n d_X10_count_153 0 rfl ?_
                      refine sx_getF (a' := 52) fl_StairCount_30 sh_0 rfl rfl d_X10_count_154 ?_
                      refine sx_getF (a' := 56) fl_StairCount_147 sh_52 rfl rfl d_X10_count_157 ?_
                      refine sx_callS [.ref 56] ms_X7_sumOf lM_StairCount_225 (by omega) rfl rfl (Nat.le_of_ble_eq_true rfl) d_X10_count_160 (sp_X7_sumOf (d - 1) (by omega) 56 h) (fun r29 h28 => ?_)
                      exact sx_iret rfl d_X10_count_163
                    · refine sx_if (fun e30 => ?_) (fun e30 => ?_)
                      · refine sx_tsIn (off := 163) (t := 164) d_X10_count_1 (by rw [e30] <;> decide) (by rw [e30] <;> decide) (by rw [e30] <;> decide) (by decide) ?_
                        refine sx_aload_n d_X10_count_164 0 rfl ?_
                        refine sx_getF (a' := 52) fl_StairCount_30 sh_0 rfl rfl d_X10_count_165 ?_
                        refine sx_getF (a' := 53) fl_StairCount_134 sh_52 rfl rfl d_X10_count_168 ?_
                        refine sx_callS [.ref 53] ms_X7_sumOf lM_StairCount_225 (by omega) rfl rfl (Nat.le_of_ble_eq_true rfl) d_X10_count_171 (sp_X7_sumOf (d - 1) (by omega) 53 h) (fun r32 h31 => ?_)
                        exact sx_iret rfl d_X10_count_174
                      · refine sx_if (fun e33 => ?_) (fun e33 => ?_)
                        · refine sx_tsIn (off := 174) (t := 175) d_X10_count_1 (by rw [e33] <;> decide) (by rw [e33] <;> decide) (by rw [e33] <;> decide) (by decide) ?_
                          refine sx_aload_n d_X10_count_175 0 rfl ?_
                          refine sx_getF (a' := 186) fl_StairCount_47 sh_0 rfl rfl d_X10_count_176 ?_
                          refine sx_getI fl_StairCount_229 sh_186 rfl d_X10_count_179 (fun v34 => ?_)
                          exact sx_iret rfl d_X10_count_182
                        · refine sx_if (fun e35 => ?_) (fun e35 => ?_)
                          · refine sx_tsIn (off := 182) (t := 183) d_X10_count_1 (by rw [e35] <;> decide) (by rw [e35] <;> decide) (by rw [e35] <;> decide) (by decide) ?_
                            refine sx_aload_n d_X10_count_183 0 rfl ?_
                            refine sx_getF (a' := 186) fl_StairCount_47 sh_0 rfl rfl d_X10_count_184 ?_
                            refine sx_callV [] mv_X3_knownBy lM_StairCount_232 sh_186 (by omega) rfl rfl (Nat.le_of_ble_eq_true rfl) d_X10_count_187 (sp_X3_knownBy (d - 1) (by omega) h) (fun r37 h36 => ?_)
                            exact sx_iret rfl d_X10_count_190
                          · refine sx_if (fun e38 => ?_) (fun e38 => ?_)
                            · refine sx_tsIn (off := 190) (t := 191) d_X10_count_1 (by rw [e38] <;> decide) (by rw [e38] <;> decide) (by rw [e38] <;> decide) (by decide) ?_
                              refine sx_aload_n d_X10_count_191 0 rfl ?_
                              refine sx_getF (a' := 64) fl_StairCount_40 sh_0 rfl rfl d_X10_count_192 ?_
                              refine sx_getI fl_StairCount_235 sh_64 rfl d_X10_count_195 (fun v39 => ?_)
                              exact sx_iret rfl d_X10_count_198
                            · have q0 := ne_toInt (x := a0) (c := (0 : Int32)) (k := 0) e1 ti0
                              have q1 := ne_toInt (x := a0) (c := (1 : Int32)) (k := 1) e4 ti1
                              have q2 := ne_toInt (x := a0) (c := (2 : Int32)) (k := 2) e7 ti2
                              have q3 := ne_toInt (x := a0) (c := (3 : Int32)) (k := 3) e10 ti3
                              have q4 := ne_toInt (x := a0) (c := (4 : Int32)) (k := 4) e13 ti4
                              have q5 := ne_toInt (x := a0) (c := (5 : Int32)) (k := 5) e16 ti5
                              have q6 := ne_toInt (x := a0) (c := (6 : Int32)) (k := 6) e18 ti6
                              have q7 := ne_toInt (x := a0) (c := (7 : Int32)) (k := 7) e21 ti7
                              have q8 := ne_toInt (x := a0) (c := (8 : Int32)) (k := 8) e24 ti8
                              have q9 := ne_toInt (x := a0) (c := (9 : Int32)) (k := 9) e27 ti9
                              have q10 := ne_toInt (x := a0) (c := (10 : Int32)) (k := 10) e30 ti10
                              have q11 := ne_toInt (x := a0) (c := (11 : Int32)) (k := 11) e33 ti11
                              have q12 := ne_toInt (x := a0) (c := (12 : Int32)) (k := 12) e35 ti12
                              have q13 := ne_toInt (x := a0) (c := (13 : Int32)) (k := 13) e38 ti13
                              refine sx_tsOut (t := 199) d_X10_count_1 (by omega) (by decide) ?_
                              refine sx_iconst d_X10_count_199 icm1 ?_
                              exact sx_iret rfl d_X10_count_200
theorem d_X10_walk_0 : DC mi_X10_walk 0 (.aload_n 0) 1 1 := ⟨by decide +kernel, rfl⟩
theorem d_X10_walk_1 : DC mi_X10_walk 1 (.iload_n 1) 1 2 := ⟨by decide +kernel, rfl⟩
theorem d_X10_walk_2 : DC mi_X10_walk 2 (.invokevirtual 115) 3 5 := ⟨by decide +kernel, rfl⟩
theorem d_X10_walk_5 : DB mi_X10_walk 5 (.ifCond .eq 11) 11 8 16 := ⟨by decide +kernel, rfl, by decide⟩
theorem d_X10_walk_8 : DC mi_X10_walk 8 (.aload_n 0) 1 9 := ⟨by decide +kernel, rfl⟩
theorem d_X10_walk_9 : DC mi_X10_walk 9 (.iload_n 2) 1 10 := ⟨by decide +kernel, rfl⟩
theorem d_X10_walk_10 : DC mi_X10_walk 10 (.invokevirtual 177) 3 13 := ⟨by decide +kernel, rfl⟩
theorem d_X10_walk_13 : DB mi_X10_walk 13 (.ifCond .ne 5) 5 16 18 := ⟨by decide +kernel, rfl, by decide⟩
theorem d_X10_walk_16 : DC mi_X10_walk 16 (.iconst (-1)) 1 17 := ⟨by decide +kernel, rfl⟩
theorem d_X10_walk_17 : DC mi_X10_walk 17 (.ireturn) 1 18 := ⟨by decide +kernel, rfl⟩
theorem d_X10_walk_18 : DC mi_X10_walk 18 (.aload_n 0) 1 19 := ⟨by decide +kernel, rfl⟩
theorem d_X10_walk_19 : DC mi_X10_walk 19 (.getfield 40) 3 22 := ⟨by decide +kernel, rfl⟩
theorem d_X10_walk_22 : DC mi_X10_walk 22 (.aload_n 0) 1 23 := ⟨by decide +kernel, rfl⟩
theorem d_X10_walk_23 : DC mi_X10_walk 23 (.getfield 30) 3 26 := ⟨by decide +kernel, rfl⟩
theorem d_X10_walk_26 : DC mi_X10_walk 26 (.invokevirtual 236) 3 29 := ⟨by decide +kernel, rfl⟩
theorem d_X10_walk_29 : DC mi_X10_walk 29 (.aload_n 0) 1 30 := ⟨by decide +kernel, rfl⟩
theorem d_X10_walk_30 : DC mi_X10_walk 30 (.getfield 54) 3 33 := ⟨by decide +kernel, rfl⟩
theorem d_X10_walk_33 : DC mi_X10_walk 33 (.aload_n 0) 1 34 := ⟨by decide +kernel, rfl⟩
theorem d_X10_walk_34 : DC mi_X10_walk 34 (.getfield 16) 3 37 := ⟨by decide +kernel, rfl⟩
theorem d_X10_walk_37 : DC mi_X10_walk 37 (.aload_n 0) 1 38 := ⟨by decide +kernel, rfl⟩
theorem d_X10_walk_38 : DC mi_X10_walk 38 (.getfield 30) 3 41 := ⟨by decide +kernel, rfl⟩
theorem d_X10_walk_41 : DC mi_X10_walk 41 (.iconst 1) 1 42 := ⟨by decide +kernel, rfl⟩
theorem d_X10_walk_42 : DC mi_X10_walk 42 (.invokevirtual 119) 3 45 := ⟨by decide +kernel, rfl⟩
theorem d_X10_walk_45 : DC mi_X10_walk 45 (.aload_n 0) 1 46 := ⟨by decide +kernel, rfl⟩
theorem d_X10_walk_46 : DC mi_X10_walk 46 (.getfield 54) 3 49 := ⟨by decide +kernel, rfl⟩
theorem d_X10_walk_49 : DC mi_X10_walk 49 (.iload_n 1) 1 50 := ⟨by decide +kernel, rfl⟩
theorem d_X10_walk_50 : DC mi_X10_walk 50 (.iload_n 2) 1 51 := ⟨by decide +kernel, rfl⟩
theorem d_X10_walk_51 : DC mi_X10_walk 51 (.invokevirtual 239) 3 54 := ⟨by decide +kernel, rfl⟩
theorem d_X10_walk_54 : DC mi_X10_walk 54 (.pop) 1 55 := ⟨by decide +kernel, rfl⟩
theorem d_X10_walk_55 : DC mi_X10_walk 55 (.aload_n 0) 1 56 := ⟨by decide +kernel, rfl⟩
theorem d_X10_walk_56 : DC mi_X10_walk 56 (.getfield 30) 3 59 := ⟨by decide +kernel, rfl⟩
theorem d_X10_walk_59 : DC mi_X10_walk 59 (.getfield 134) 3 62 := ⟨by decide +kernel, rfl⟩
theorem d_X10_walk_62 : DC mi_X10_walk 62 (.iload_n 1) 1 63 := ⟨by decide +kernel, rfl⟩
theorem d_X10_walk_63 : DC mi_X10_walk 63 (.iaload) 1 64 := ⟨by decide +kernel, rfl⟩
theorem d_X10_walk_64 : DC mi_X10_walk 64 (.ireturn) 1 65 := ⟨by decide +kernel, rfl⟩
set_option maxHeartbeats 4000000 in
set_option maxRecDepth 100000 in
theorem sp_X10_walk (d : Nat) (hd : 5 ≤ d) (a0 : Int32) (a1 : Int32) (h : HH) : Sp mi_X10_walk d iI [.ref 0, .int a0, .int a1] h (g_X10_walk a0 a1 h) := by
  refine sp_of (lc := [(0, .ref 0), (1, .int a0), (2, .int a1)]) (by decide) (Nat.le_of_ble_eq_true rfl) rfl ?_
  unfold g_X10_walk
  refine sx_aload_n d_X10_walk_0 0 rfl ?_
  refine sx_iload_n d_X10_walk_1 1 rfl ?_
  refine sx_callV [.int a0] mv_X10_isPerson lM_StairCount_115 sh_0 (by omega) rfl rfl (Nat.le_of_ble_eq_true rfl) d_X10_walk_2 (sp_X10_isPerson (d - 1) (by omega) a0 h) (fun r2 h1 => ?_)
  refine sx_if_eq d_X10_walk_5 ?_ ?_
  · refine sx_iconst d_X10_walk_16 icm1 ?_
    exact sx_iret rfl d_X10_walk_17
  · refine sx_aload_n d_X10_walk_8 0 rfl ?_
    refine sx_iload_n d_X10_walk_9 2 rfl ?_
    refine sx_callV [.int a1] mv_X10_isFloor lM_StairCount_177 sh_0 (by omega) rfl rfl (Nat.le_of_ble_eq_true rfl) d_X10_walk_10 (sp_X10_isFloor (d - 1) (by omega) a1 h1) (fun r4 h3 => ?_)
    refine sx_if_ne d_X10_walk_13 ?_ ?_
    · refine sx_iconst d_X10_walk_16 icm1 ?_
      exact sx_iret rfl d_X10_walk_17
    · refine sx_aload_n d_X10_walk_18 0 rfl ?_
      refine sx_getF (a' := 64) fl_StairCount_40 sh_0 rfl rfl d_X10_walk_19 ?_
      refine sx_aload_n d_X10_walk_22 0 rfl ?_
      refine sx_getF (a' := 52) fl_StairCount_30 sh_0 rfl rfl d_X10_walk_23 ?_
      refine sx_callV [.ref 52] mv_X4_push lM_StairCount_236 sh_64 (by omega) rfl rfl (Nat.le_of_ble_eq_true rfl) d_X10_walk_26 (sp_X4_push (d - 1) (by omega) 52 h3) (fun _ h5 => ?_)
      refine sx_aload_n d_X10_walk_29 0 rfl ?_
      refine sx_getF (a' := 193) fl_StairCount_54 sh_0 rfl rfl d_X10_walk_30 ?_
      refine sx_aload_n d_X10_walk_33 0 rfl ?_
      refine sx_getR fl_StairCount_16 sh_0 rfl d_X10_walk_34 (fun p7 => ?_)
      refine sx_ckH (fun ep7 => ?_)
      refine sx_aload_n d_X10_walk_37 0 rfl ?_
      refine sx_getF (a' := 52) fl_StairCount_30 sh_0 rfl rfl d_X10_walk_38 ?_
      refine sx_iconst d_X10_walk_41 ic1 ?_
      refine sx_callV [.ref p7, .ref 52, .int (1 : Int32)] mv_X0_begin lM_StairCount_119 sh_193 (by omega) rfl rfl (Nat.le_of_ble_eq_true rfl) d_X10_walk_42 (sp_X0_begin (d - 1) (by omega) p7 52 (1 : Int32) h5) (fun _ h8 => ?_)
      refine sx_aload_n d_X10_walk_45 0 rfl ?_
      refine sx_getF (a' := 193) fl_StairCount_54 sh_0 rfl rfl d_X10_walk_46 ?_
      refine sx_iload_n d_X10_walk_49 1 rfl ?_
      refine sx_iload_n d_X10_walk_50 2 rfl ?_
      refine sx_callV [.int a0, .int a1] mv_X0_walkTo lM_StairCount_239 sh_193 (by omega) rfl rfl (Nat.le_of_ble_eq_true rfl) d_X10_walk_51 (sp_X0_walkTo (d - 1) (by omega) a0 a1 h8) (fun r11 h10 => ?_)
      refine sx_pop d_X10_walk_54 rfl ?_
      refine sx_aload_n d_X10_walk_55 0 rfl ?_
      refine sx_getF (a' := 52) fl_StairCount_30 sh_0 rfl rfl d_X10_walk_56 ?_
      refine sx_getF (a' := 53) fl_StairCount_134 sh_52 rfl rfl d_X10_walk_59 ?_
      refine sx_iload_n d_X10_walk_62 1 rfl ?_
      refine sx_iald sh_53 d_X10_walk_63 (fun v12 => ?_)
      exact sx_iret rfl d_X10_walk_64
