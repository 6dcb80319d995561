/-! walks: X11_crowd, X11_isHour, X11_order, X11_soon, X11_law, X11_keepNow, X11_walk, X11_carry, X11_right, X11_go, X11_ahead, X11_there, X11_getsUp, X11_highest, X11_climbs, X11_level, X11_ease, X11_betters -/
theorem d_X11_crowd_0 : DC mi_X11_crowd 0 (.aload_n 0) 1 1 := ⟨by decide +kernel, rfl⟩
theorem d_X11_crowd_1 : DC mi_X11_crowd 1 (.iconst 0) 1 2 := ⟨by decide +kernel, rfl⟩
theorem d_X11_crowd_2 : DC mi_X11_crowd 2 (.putfield 148) 3 5 := ⟨by decide +kernel, rfl⟩
theorem d_X11_crowd_5 : DC mi_X11_crowd 5 (.aload_n 0) 1 6 := ⟨by decide +kernel, rfl⟩
theorem d_X11_crowd_6 : DC mi_X11_crowd 6 (.iload_n 1) 1 7 := ⟨by decide +kernel, rfl⟩
theorem d_X11_crowd_7 : DC mi_X11_crowd 7 (.invokevirtual 444) 3 10 := ⟨by decide +kernel, rfl⟩
theorem d_X11_crowd_10 : DB mi_X11_crowd 10 (.ifCond .eq 7) 7 13 17 := ⟨by decide +kernel, rfl, by decide⟩
theorem d_X11_crowd_13 : DC mi_X11_crowd 13 (.iload_n 2) 1 14 := ⟨by decide +kernel, rfl⟩
theorem d_X11_crowd_14 : DB mi_X11_crowd 14 (.ifCond .ge 5) 5 17 19 := ⟨by decide +kernel, rfl, by decide⟩
theorem d_X11_crowd_17 : DC mi_X11_crowd 17 (.iconst (-1)) 1 18 := ⟨by decide +kernel, rfl⟩
theorem d_X11_crowd_18 : DC mi_X11_crowd 18 (.ireturn) 1 19 := ⟨by decide +kernel, rfl⟩
theorem d_X11_crowd_19 : DC mi_X11_crowd 19 (.iconst 0) 1 20 := ⟨by decide +kernel, rfl⟩
theorem d_X11_crowd_20 : DC mi_X11_crowd 20 (.istore_n 3) 1 21 := ⟨by decide +kernel, rfl⟩
theorem d_X11_crowd_21 : DC mi_X11_crowd 21 (.iload_n 3) 1 22 := ⟨by decide +kernel, rfl⟩
theorem d_X11_crowd_22 : DC mi_X11_crowd 22 (.aload_n 0) 1 23 := ⟨by decide +kernel, rfl⟩
theorem d_X11_crowd_23 : DC mi_X11_crowd 23 (.getfield 13) 3 26 := ⟨by decide +kernel, rfl⟩
theorem d_X11_crowd_26 : DC mi_X11_crowd 26 (.iconst 1) 1 27 := ⟨by decide +kernel, rfl⟩
theorem d_X11_crowd_27 : DC mi_X11_crowd 27 (.iaload) 1 28 := ⟨by decide +kernel, rfl⟩
theorem d_X11_crowd_28 : DB mi_X11_crowd 28 (.if_icmp .ge 90) 90 31 118 := ⟨by decide +kernel, rfl, by decide⟩
theorem d_X11_crowd_31 : DC mi_X11_crowd 31 (.aload_n 0) 1 32 := ⟨by decide +kernel, rfl⟩
theorem d_X11_crowd_32 : DC mi_X11_crowd 32 (.getfield 81) 3 35 := ⟨by decide +kernel, rfl⟩
theorem d_X11_crowd_35 : DC mi_X11_crowd 35 (.iload_n 3) 1 36 := ⟨by decide +kernel, rfl⟩
theorem d_X11_crowd_36 : DC mi_X11_crowd 36 (.iaload) 1 37 := ⟨by decide +kernel, rfl⟩
theorem d_X11_crowd_37 : DC mi_X11_crowd 37 (.iload_n 1) 1 38 := ⟨by decide +kernel, rfl⟩
theorem d_X11_crowd_38 : DB mi_X11_crowd 38 (.if_icmp .eq 6) 6 41 44 := ⟨by decide +kernel, rfl, by decide⟩
theorem d_X11_crowd_41 : DB mi_X11_crowd 41 (.goto 71) 71 44 112 := ⟨by decide +kernel, rfl, by decide⟩
theorem d_X11_crowd_44 : DC mi_X11_crowd 44 (.iconst 0) 1 45 := ⟨by decide +kernel, rfl⟩
theorem d_X11_crowd_45 : DC mi_X11_crowd 45 (.istore 4) 2 47 := ⟨by decide +kernel, rfl⟩
theorem d_X11_crowd_47 : DC mi_X11_crowd 47 (.iconst 0) 1 48 := ⟨by decide +kernel, rfl⟩
theorem d_X11_crowd_48 : DC mi_X11_crowd 48 (.istore 5) 2 50 := ⟨by decide +kernel, rfl⟩
theorem d_X11_crowd_50 : DC mi_X11_crowd 50 (.iload 5) 2 52 := ⟨by decide +kernel, rfl⟩
theorem d_X11_crowd_52 : DC mi_X11_crowd 52 (.aload_n 0) 1 53 := ⟨by decide +kernel, rfl⟩
theorem d_X11_crowd_53 : DC mi_X11_crowd 53 (.getfield 13) 3 56 := ⟨by decide +kernel, rfl⟩
theorem d_X11_crowd_56 : DC mi_X11_crowd 56 (.iconst 1) 1 57 := ⟨by decide +kernel, rfl⟩
theorem d_X11_crowd_57 : DC mi_X11_crowd 57 (.iaload) 1 58 := ⟨by decide +kernel, rfl⟩
theorem d_X11_crowd_58 : DB mi_X11_crowd 58 (.if_icmp .ge 46) 46 61 104 := ⟨by decide +kernel, rfl, by decide⟩
theorem d_X11_crowd_61 : DC mi_X11_crowd 61 (.iload 4) 2 63 := ⟨by decide +kernel, rfl⟩
theorem d_X11_crowd_63 : DC mi_X11_crowd 63 (.aload_n 0) 1 64 := ⟨by decide +kernel, rfl⟩
theorem d_X11_crowd_64 : DC mi_X11_crowd 64 (.getfield 81) 3 67 := ⟨by decide +kernel, rfl⟩
theorem d_X11_crowd_67 : DC mi_X11_crowd 67 (.iload 5) 2 69 := ⟨by decide +kernel, rfl⟩
theorem d_X11_crowd_69 : DC mi_X11_crowd 69 (.iaload) 1 70 := ⟨by decide +kernel, rfl⟩
theorem d_X11_crowd_70 : DC mi_X11_crowd 70 (.iload_n 1) 1 71 := ⟨by decide +kernel, rfl⟩
theorem d_X11_crowd_71 : DB mi_X11_crowd 71 (.if_icmp .ne 23) 23 74 94 := ⟨by decide +kernel, rfl, by decide⟩
theorem d_X11_crowd_74 : DC mi_X11_crowd 74 (.iload 5) 2 76 := ⟨by decide +kernel, rfl⟩
theorem d_X11_crowd_76 : DC mi_X11_crowd 76 (.iload_n 3) 1 77 := ⟨by decide +kernel, rfl⟩
theorem d_X11_crowd_77 : DB mi_X11_crowd 77 (.if_icmp .eq 17) 17 80 94 := ⟨by decide +kernel, rfl, by decide⟩
theorem d_X11_crowd_80 : DC mi_X11_crowd 80 (.aload_n 0) 1 81 := ⟨by decide +kernel, rfl⟩
theorem d_X11_crowd_81 : DC mi_X11_crowd 81 (.iload 5) 2 83 := ⟨by decide +kernel, rfl⟩
theorem d_X11_crowd_83 : DC mi_X11_crowd 83 (.iload_n 3) 1 84 := ⟨by decide +kernel, rfl⟩
theorem d_X11_crowd_84 : DC mi_X11_crowd 84 (.invokevirtual 447) 3 87 := ⟨by decide +kernel, rfl⟩
theorem d_X11_crowd_87 : DB mi_X11_crowd 87 (.ifCond .eq 7) 7 90 94 := ⟨by decide +kernel, rfl, by decide⟩
theorem d_X11_crowd_90 : DC mi_X11_crowd 90 (.iconst 1) 1 91 := ⟨by decide +kernel, rfl⟩
theorem d_X11_crowd_91 : DB mi_X11_crowd 91 (.goto 4) 4 94 95 := ⟨by decide +kernel, rfl, by decide⟩
theorem d_X11_crowd_94 : DC mi_X11_crowd 94 (.iconst 0) 1 95 := ⟨by decide +kernel, rfl⟩
theorem d_X11_crowd_95 : DC mi_X11_crowd 95 (.iadd) 1 96 := ⟨by decide +kernel, rfl⟩
theorem d_X11_crowd_96 : DC mi_X11_crowd 96 (.istore 4) 2 98 := ⟨by decide +kernel, rfl⟩
theorem d_X11_crowd_98 : DC mi_X11_crowd 98 (.iinc 5 1) 3 101 := ⟨by decide +kernel, rfl⟩
theorem d_X11_crowd_101 : DB mi_X11_crowd 101 (.goto (-51)) (-51) 104 50 := ⟨by decide +kernel, rfl, by decide⟩
theorem d_X11_crowd_104 : DC mi_X11_crowd 104 (.iload 4) 2 106 := ⟨by decide +kernel, rfl⟩
theorem d_X11_crowd_106 : DC mi_X11_crowd 106 (.iload_n 2) 1 107 := ⟨by decide +kernel, rfl⟩
theorem d_X11_crowd_107 : DB mi_X11_crowd 107 (.if_icmp .ne 5) 5 110 112 := ⟨by decide +kernel, rfl, by decide⟩
theorem d_X11_crowd_110 : DC mi_X11_crowd 110 (.iload_n 3) 1 111 := ⟨by decide +kernel, rfl⟩
theorem d_X11_crowd_111 : DC mi_X11_crowd 111 (.ireturn) 1 112 := ⟨by decide +kernel, rfl⟩
theorem d_X11_crowd_112 : DC mi_X11_crowd 112 (.iinc 3 1) 3 115 := ⟨by decide +kernel, rfl⟩
theorem d_X11_crowd_115 : DB mi_X11_crowd 115 (.goto (-94)) (-94) 118 21 := ⟨by decide +kernel, rfl, by decide⟩
theorem d_X11_crowd_118 : DC mi_X11_crowd 118 (.bipush (-2)) 2 120 := ⟨by decide +kernel, rfl⟩
theorem d_X11_crowd_120 : DC mi_X11_crowd 120 (.ireturn) 1 121 := ⟨by decide +kernel, rfl⟩
set_option maxHeartbeats 4000000 in
set_option maxRecDepth 100000 in
theorem sL_X11_crowd_50 (d : Nat) (hd : 1 ≤ d) (K104 : Int32 → HH → Option (Int32 × HH)) (c1 : Int32) (c2 : Int32) (c3 : Int32) (hK104 : ∀ (z4 : Int32) (h : HH), Sx mi_X11_crowd d iI (K104 z4 h) 104 [(0, .ref 255), (1, .int c1), (2, .int c2), (3, .int c3), (4, .int z4)] [] h) : ∀ (n : Nat) (x4 : Int32) (x5 : Int32) (h : HH), Sx mi_X11_crowd d iI (g_X11_crowd_L50 K104 c1 c2 c3 n x4 x5 h) 50 [(0, .ref 255), (1, .int c1), (2, .int c2), (3, .int c3), (4, .int x4), (5, .int x5)] [] h := by
  intro n
  induction n with
  | zero => intro x4 x5 h; exact sx_none
  | succ n ih =>
    intro x4 x5 h
    rw [g_X11_crowd_L50]
    refine sx_iload d_X11_crowd_50 5 rfl ?_
    refine sx_aload_n d_X11_crowd_52 0 rfl ?_
    refine sx_getF (a' := 257) fl_StairCountModel_13 sh_255 rfl rfl d_X11_crowd_53 ?_
    refine sx_iconst d_X11_crowd_56 ic1 ?_
    refine sx_iald sh_257 d_X11_crowd_57 (fun v10 => ?_)
    refine sx_icmp_ge d_X11_crowd_58 ?_ ?_
    · refine sx_iload d_X11_crowd_61 4 rfl ?_
      refine sx_aload_n d_X11_crowd_63 0 rfl ?_
      refine sx_getF (a' := 278) fl_StairCountModel_81 sh_255 rfl rfl d_X11_crowd_64 ?_
      refine sx_iload d_X11_crowd_67 5 rfl ?_
      refine sx_iald sh_278 d_X11_crowd_69 (fun v11 => ?_)
      refine sx_iload_n d_X11_crowd_70 1 rfl ?_
      refine sx_jn (fun j => ∀ (y15 : Int32) (h : HH), Sx mi_X11_crowd d iI (j y15 h) 95 [(0, .ref 255), (1, .int c1), (2, .int c2), (3, .int c3), (5, .int x5)] [.int y15, .int x4] h) ?_ ?_
      · intro y15 h14
        refine sx_iadd d_X11_crowd_95 ?_
        refine sx_vlI (fun v16 => ?_)
        refine sx_istore (i := 4) (lc' := [(4, .int v16), (0, .ref 255), (1, .int c1), (2, .int c2), (3, .int c3), (5, .int x5)]) d_X11_crowd_96 (by decide) rfl ?_
        refine sx_iincV (lc' := fun v17 => [(5, .int v17), (4, .int v16), (0, .ref 255), (1, .int c1), (2, .int c2), (3, .int c3)]) (k0 := 5) d_X11_crowd_98 rfl ii1 (by decide) (fun _ => rfl) (fun v17 => ?_)
        refine sx_goto d_X11_crowd_101 ?_
        refine sx_lc (lc' := [(0, .ref 255), (1, .int c1), (2, .int c2), (3, .int c3), (4, .int v16), (5, .int v17)]) [2, 3, 4, 5, 1, 0] rfl ?_
        exact ih v16 v17 h14
      · intro j12 k13
        refine sx_jn (fun j => ∀  (h : HH), Sx mi_X11_crowd d iI (j  h) 94 [(0, .ref 255), (1, .int c1), (2, .int c2), (3, .int c3), (5, .int x5)] [.int x4] h) ?_ ?_
        · intro  h20
          refine sx_iconst d_X11_crowd_94 ic0 ?_
          exact k13 (0 : Int32) h20
        · intro j18 k19
          refine sx_icmp_ne d_X11_crowd_71 ?_ ?_
          · refine sx_iload d_X11_crowd_74 5 rfl ?_
            refine sx_iload_n d_X11_crowd_76 3 rfl ?_
            refine sx_icmp_eq d_X11_crowd_77 ?_ ?_
            · refine sx_lc (lc' := [(0, .ref 255), (1, .int c1), (2, .int c2), (3, .int c3), (5, .int x5)]) [0, 1, 2, 3, 5] rfl ?_
              exact k19 h
            · refine sx_aload_n d_X11_crowd_80 0 rfl ?_
              refine sx_iload d_X11_crowd_81 5 rfl ?_
              refine sx_iload_n d_X11_crowd_83 3 rfl ?_
              refine sx_callV [.int x5, .int c3] mv_X11_isStronger lM_StairCountModel_447 sh_255 (by omega) rfl rfl (Nat.le_of_ble_eq_true rfl) d_X11_crowd_84 (sp_X11_isStronger (d - 1) (by omega) x5 c3 h) (fun r22 h21 => ?_)
              refine sx_if_eq d_X11_crowd_87 ?_ ?_
              · refine sx_lc (lc' := [(0, .ref 255), (1, .int c1), (2, .int c2), (3, .int c3), (5, .int x5)]) [0, 1, 2, 3, 5] rfl ?_
                exact k19 h21
              · refine sx_iconst d_X11_crowd_90 ic1 ?_
                refine sx_goto d_X11_crowd_91 ?_
                refine sx_lc (lc' := [(0, .ref 255), (1, .int c1), (2, .int c2), (3, .int c3), (5, .int x5)]) [0, 1, 2, 3, 5] rfl ?_
                exact k13 (1 : Int32) h21
          · refine sx_lc (lc' := [(0, .ref 255), (1, .int c1), (2, .int c2), (3, .int c3), (5, .int x5)]) [0, 1, 2, 3, 5] rfl ?_
            exact k19 h
    · refine sx_lc (lc' := [(0, .ref 255), (1, .int c1), (2, .int c2), (3, .int c3), (4, .int x4)]) [0, 1, 2, 3, 4] rfl ?_
      exact hK104 x4 h
set_option maxHeartbeats 4000000 in
set_option maxRecDepth 100000 in
theorem sL_X11_crowd_21 (d : Nat) (hd : 1 ≤ d) (c1 : Int32) (c2 : Int32) : ∀ (n : Nat) (x3 : Int32) (h : HH), Sx mi_X11_crowd d iI (g_X11_crowd_L21 c1 c2 n x3 h) 21 [(0, .ref 255), (1, .int c1), (2, .int c2), (3, .int x3)] [] h := by
  intro n
  induction n with
  | zero => intro x3 h; exact sx_none
  | succ n ih =>
    intro x3 h
    rw [g_X11_crowd_L21]
    refine sx_iload_n d_X11_crowd_21 3 rfl ?_
    refine sx_aload_n d_X11_crowd_22 0 rfl ?_
    refine sx_getF (a' := 257) fl_StairCountModel_13 sh_255 rfl rfl d_X11_crowd_23 ?_
    refine sx_iconst d_X11_crowd_26 ic1 ?_
    refine sx_iald sh_257 d_X11_crowd_27 (fun v4 => ?_)
    refine sx_icmp_ge d_X11_crowd_28 ?_ ?_
    · refine sx_aload_n d_X11_crowd_31 0 rfl ?_
      refine sx_getF (a' := 278) fl_StairCountModel_81 sh_255 rfl rfl d_X11_crowd_32 ?_
      refine sx_iload_n d_X11_crowd_35 3 rfl ?_
      refine sx_iald sh_278 d_X11_crowd_36 (fun v5 => ?_)
      refine sx_iload_n d_X11_crowd_37 1 rfl ?_
      refine sx_jn (fun j => ∀  (h : HH), Sx mi_X11_crowd d iI (j  h) 112 [(0, .ref 255), (1, .int c1), (2, .int c2), (3, .int x3)] [] h) ?_ ?_
      · intro  h8
        refine sx_iincV (lc' := fun v9 => [(3, .int v9), (0, .ref 255), (1, .int c1), (2, .int c2)]) (k0 := 3) d_X11_crowd_112 rfl ii1 (by decide) (fun _ => rfl) (fun v9 => ?_)
        refine sx_goto d_X11_crowd_115 ?_
        refine sx_lc (lc' := [(0, .ref 255), (1, .int c1), (2, .int c2), (3, .int v9)]) [1, 2, 3, 0] rfl ?_
        exact ih v9 h8
      · intro j6 k7
        refine sx_icmp_eq d_X11_crowd_38 ?_ ?_
        · refine sx_iconst d_X11_crowd_44 ic0 ?_
          refine sx_istore (i := 4) (lc' := [(4, .int (0 : Int32)), (0, .ref 255), (1, .int c1), (2, .int c2), (3, .int x3)]) d_X11_crowd_45 (by decide) rfl ?_
          refine sx_iconst d_X11_crowd_47 ic0 ?_
          refine sx_istore (i := 5) (lc' := [(5, .int (0 : Int32)), (4, .int (0 : Int32)), (0, .ref 255), (1, .int c1), (2, .int c2), (3, .int x3)]) d_X11_crowd_48 (by decide) rfl ?_
          refine sx_lc (lc' := [(0, .ref 255), (1, .int c1), (2, .int c2), (3, .int x3), (4, .int (0 : Int32)), (5, .int (0 : Int32))]) [2, 3, 4, 5, 1, 0] rfl ?_
          refine sL_X11_crowd_50 d hd _ c1 c2 x3 ?_ 1024 (0 : Int32) (0 : Int32) h
          · intro z24 h23
            refine sx_iload d_X11_crowd_104 4 rfl ?_
            refine sx_iload_n d_X11_crowd_106 2 rfl ?_
            refine sx_icmp_ne d_X11_crowd_107 ?_ ?_
            · refine sx_iload_n d_X11_crowd_110 3 rfl ?_
              exact sx_iret rfl d_X11_crowd_111
            · refine sx_lc (lc' := [(0, .ref 255), (1, .int c1), (2, .int c2), (3, .int x3)]) [0, 1, 2, 3] rfl ?_
              exact k7 h23
        · refine sx_goto d_X11_crowd_41 ?_
          exact k7 h
    · refine sx_bipush d_X11_crowd_118 bcm2 ?_
      exact sx_iret rfl d_X11_crowd_120
set_option maxHeartbeats 4000000 in
set_option maxRecDepth 100000 in
theorem sp_X11_crowd (d : Nat) (hd : 1 ≤ d) (a0 : Int32) (a1 : Int32) (h : HH) : Sp mi_X11_crowd d iI [.ref 255, .int a0, .int a1] h (g_X11_crowd a0 a1 h) := by
  refine sp_of (lc := [(0, .ref 255), (1, .int a0), (2, .int a1)]) (by decide) (Nat.le_of_ble_eq_true rfl) rfl ?_
  unfold g_X11_crowd
  refine sx_aload_n d_X11_crowd_0 0 rfl ?_
  refine sx_iconst d_X11_crowd_1 ic0 ?_
  refine sx_putI fl_StairCountModel_148 sh_255 rfl hty_11_0 d_X11_crowd_2 (fun h1 => ?_)
  refine sx_aload_n d_X11_crowd_5 0 rfl ?_
  refine sx_iload_n d_X11_crowd_6 1 rfl ?_
  refine sx_callV [.int a0] mv_X11_isFloor lM_StairCountModel_444 sh_255 (by omega) rfl rfl (Nat.le_of_ble_eq_true rfl) d_X11_crowd_7 (sp_X11_isFloor (d - 1) (by omega) a0 h1) (fun r3 h2 => ?_)
  refine sx_if_eq d_X11_crowd_10 ?_ ?_
  · refine sx_iconst d_X11_crowd_17 icm1 ?_
    exact sx_iret rfl d_X11_crowd_18
  · refine sx_iload_n d_X11_crowd_13 2 rfl ?_
    refine sx_if_ge d_X11_crowd_14 ?_ ?_
    · refine sx_iconst d_X11_crowd_17 icm1 ?_
      exact sx_iret rfl d_X11_crowd_18
    · refine sx_iconst d_X11_crowd_19 ic0 ?_
      refine sx_istore_n (i := 3) (lc' := [(3, .int (0 : Int32)), (0, .ref 255), (1, .int a0), (2, .int a1)]) d_X11_crowd_20 rfl (by decide) rfl ?_
      refine sx_lc (lc' := [(0, .ref 255), (1, .int a0), (2, .int a1), (3, .int (0 : Int32))]) [1, 2, 3, 0] rfl ?_
      refine sL_X11_crowd_21 d hd a0 a1 1024 (0 : Int32) h2
theorem d_X11_isHour_0 : DC mi_X11_isHour 0 (.iload_n 0) 1 1 := ⟨by decide +kernel, rfl⟩
theorem d_X11_isHour_1 : DB mi_X11_isHour 1 (.ifCond .lt 13) 13 4 14 := ⟨by decide +kernel, rfl, by decide⟩
theorem d_X11_isHour_4 : DC mi_X11_isHour 4 (.iload_n 0) 1 5 := ⟨by decide +kernel, rfl⟩
theorem d_X11_isHour_5 : DC mi_X11_isHour 5 (.bipush 99) 2 7 := ⟨by decide +kernel, rfl⟩
theorem d_X11_isHour_7 : DB mi_X11_isHour 7 (.if_icmp .gt 7) 7 10 14 := ⟨by decide +kernel, rfl, by decide⟩
theorem d_X11_isHour_10 : DC mi_X11_isHour 10 (.iconst 1) 1 11 := ⟨by decide +kernel, rfl⟩
theorem d_X11_isHour_11 : DB mi_X11_isHour 11 (.goto 4) 4 14 15 := ⟨by decide +kernel, rfl, by decide⟩
theorem d_X11_isHour_14 : DC mi_X11_isHour 14 (.iconst 0) 1 15 := ⟨by decide +kernel, rfl⟩
theorem d_X11_isHour_15 : DC mi_X11_isHour 15 (.ireturn) 1 16 := ⟨by decide +kernel, rfl⟩
set_option maxHeartbeats 4000000 in
set_option maxRecDepth 100000 in
theorem sp_X11_isHour (d : Nat) (hd : 0 ≤ d) (a0 : Int32) (h : HH) : Sp mi_X11_isHour d iI [.int a0] h (g_X11_isHour a0 h) := by
  refine sp_of (lc := [(0, .int a0)]) (by decide) (Nat.le_of_ble_eq_true rfl) rfl ?_
  unfold g_X11_isHour
  refine sx_iload_n d_X11_isHour_0 0 rfl ?_
  refine sx_if_lt d_X11_isHour_1 ?_ ?_
  · refine sx_iconst d_X11_isHour_14 ic0 ?_
    exact sx_zret (by decide) rfl d_X11_isHour_15
  · refine sx_iload_n d_X11_isHour_4 0 rfl ?_
    refine sx_bipush d_X11_isHour_5 bc99 ?_
    refine sx_icmp_gt d_X11_isHour_7 ?_ ?_
    · refine sx_iconst d_X11_isHour_14 ic0 ?_
      exact sx_zret (by decide) rfl d_X11_isHour_15
    · refine sx_iconst d_X11_isHour_10 ic1 ?_
      refine sx_goto d_X11_isHour_11 ?_
      exact sx_zret (by decide) rfl d_X11_isHour_15
theorem d_X11_order_0 : DC mi_X11_order 0 (.aload_n 0) 1 1 := ⟨by decide +kernel, rfl⟩
theorem d_X11_order_1 : DC mi_X11_order 1 (.iconst 0) 1 2 := ⟨by decide +kernel, rfl⟩
theorem d_X11_order_2 : DC mi_X11_order 2 (.putfield 148) 3 5 := ⟨by decide +kernel, rfl⟩
theorem d_X11_order_5 : DC mi_X11_order 5 (.iload_n 1) 1 6 := ⟨by decide +kernel, rfl⟩
theorem d_X11_order_6 : DC mi_X11_order 6 (.invokestatic 450) 3 9 := ⟨by decide +kernel, rfl⟩
theorem d_X11_order_9 : DB mi_X11_order 9 (.ifCond .eq 7) 7 12 16 := ⟨by decide +kernel, rfl, by decide⟩
theorem d_X11_order_12 : DC mi_X11_order 12 (.iload_n 2) 1 13 := ⟨by decide +kernel, rfl⟩
theorem d_X11_order_13 : DB mi_X11_order 13 (.ifCond .ge 5) 5 16 18 := ⟨by decide +kernel, rfl, by decide⟩
theorem d_X11_order_16 : DC mi_X11_order 16 (.iconst (-1)) 1 17 := ⟨by decide +kernel, rfl⟩
theorem d_X11_order_17 : DC mi_X11_order 17 (.ireturn) 1 18 := ⟨by decide +kernel, rfl⟩
theorem d_X11_order_18 : DC mi_X11_order 18 (.aload_n 0) 1 19 := ⟨by decide +kernel, rfl⟩
theorem d_X11_order_19 : DC mi_X11_order 19 (.iconst 0) 1 20 := ⟨by decide +kernel, rfl⟩
theorem d_X11_order_20 : DC mi_X11_order 20 (.iload_n 1) 1 21 := ⟨by decide +kernel, rfl⟩
theorem d_X11_order_21 : DC mi_X11_order 21 (.invokevirtual 426) 3 24 := ⟨by decide +kernel, rfl⟩
theorem d_X11_order_24 : DC mi_X11_order 24 (.iload_n 2) 1 25 := ⟨by decide +kernel, rfl⟩
theorem d_X11_order_25 : DC mi_X11_order 25 (.aload_n 0) 1 26 := ⟨by decide +kernel, rfl⟩
theorem d_X11_order_26 : DC mi_X11_order 26 (.getfield 419) 3 29 := ⟨by decide +kernel, rfl⟩
theorem d_X11_order_29 : DB mi_X11_order 29 (.if_icmp .ge 12) 12 32 41 := ⟨by decide +kernel, rfl, by decide⟩
theorem d_X11_order_32 : DC mi_X11_order 32 (.aload_n 0) 1 33 := ⟨by decide +kernel, rfl⟩
theorem d_X11_order_33 : DC mi_X11_order 33 (.getfield 108) 3 36 := ⟨by decide +kernel, rfl⟩
theorem d_X11_order_36 : DC mi_X11_order 36 (.iload_n 2) 1 37 := ⟨by decide +kernel, rfl⟩
theorem d_X11_order_37 : DC mi_X11_order 37 (.iaload) 1 38 := ⟨by decide +kernel, rfl⟩
theorem d_X11_order_38 : DB mi_X11_order 38 (.goto 5) 5 41 43 := ⟨by decide +kernel, rfl, by decide⟩
theorem d_X11_order_41 : DC mi_X11_order 41 (.bipush (-2)) 2 43 := ⟨by decide +kernel, rfl⟩
theorem d_X11_order_43 : DC mi_X11_order 43 (.ireturn) 1 44 := ⟨by decide +kernel, rfl⟩
set_option maxHeartbeats 4000000 in
set_option maxRecDepth 100000 in
theorem sp_X11_order (d : Nat) (hd : 3 ≤ d) (a0 : Int32) (a1 : Int32) (h : HH) : Sp mi_X11_order d iI [.ref 255, .int a0, .int a1] h (g_X11_order a0 a1 h) := by
  refine sp_of (lc := [(0, .ref 255), (1, .int a0), (2, .int a1)]) (by decide) (Nat.le_of_ble_eq_true rfl) rfl ?_
  unfold g_X11_order
  refine sx_aload_n d_X11_order_0 0 rfl ?_
  refine sx_iconst d_X11_order_1 ic0 ?_
  refine sx_putI fl_StairCountModel_148 sh_255 rfl hty_11_0 d_X11_order_2 (fun h1 => ?_)
  refine sx_iload_n d_X11_order_5 1 rfl ?_
  refine sx_callS [.int a0] ms_X11_isHour lM_StairCountModel_450 (by omega) rfl rfl (Nat.le_of_ble_eq_true rfl) d_X11_order_6 (sp_X11_isHour (d - 1) (by omega) a0 h1) (fun r3 h2 => ?_)
  refine sx_if_eq d_X11_order_9 ?_ ?_
  · refine sx_iconst d_X11_order_16 icm1 ?_
    exact sx_iret rfl d_X11_order_17
  · refine sx_iload_n d_X11_order_12 2 rfl ?_
    refine sx_if_ge d_X11_order_13 ?_ ?_
    · refine sx_iconst d_X11_order_16 icm1 ?_
      exact sx_iret rfl d_X11_order_17
    · refine sx_aload_n d_X11_order_18 0 rfl ?_
      refine sx_iconst d_X11_order_19 ic0 ?_
      refine sx_iload_n d_X11_order_20 1 rfl ?_
      refine sx_callV [.int (0 : Int32), .int a0] mv_X11_laysOrder lM_StairCountModel_426 sh_255 (by omega) rfl rfl (Nat.le_of_ble_eq_true rfl) d_X11_order_21 (sp_X11_laysOrder (d - 1) (by omega) (0 : Int32) a0 h2) (fun _ h4 => ?_)
      refine sx_iload_n d_X11_order_24 2 rfl ?_
      refine sx_aload_n d_X11_order_25 0 rfl ?_
      refine sx_getI fl_StairCountModel_419 sh_255 rfl d_X11_order_26 (fun v6 => ?_)
      refine sx_icmp_ge d_X11_order_29 ?_ ?_
      · refine sx_aload_n d_X11_order_32 0 rfl ?_
        refine sx_getF (a' := 284) fl_StairCountModel_108 sh_255 rfl rfl d_X11_order_33 ?_
        refine sx_iload_n d_X11_order_36 2 rfl ?_
        refine sx_iald sh_284 d_X11_order_37 (fun v7 => ?_)
        refine sx_goto d_X11_order_38 ?_
        exact sx_iret rfl d_X11_order_43
      · refine sx_bipush d_X11_order_41 bcm2 ?_
        exact sx_iret rfl d_X11_order_43
theorem d_X11_soon_0 : DC mi_X11_soon 0 (.aload_n 0) 1 1 := ⟨by decide +kernel, rfl⟩
theorem d_X11_soon_1 : DC mi_X11_soon 1 (.iconst 0) 1 2 := ⟨by decide +kernel, rfl⟩
theorem d_X11_soon_2 : DC mi_X11_soon 2 (.putfield 148) 3 5 := ⟨by decide +kernel, rfl⟩
theorem d_X11_soon_5 : DC mi_X11_soon 5 (.iload_n 1) 1 6 := ⟨by decide +kernel, rfl⟩
theorem d_X11_soon_6 : DC mi_X11_soon 6 (.invokestatic 450) 3 9 := ⟨by decide +kernel, rfl⟩
theorem d_X11_soon_9 : DB mi_X11_soon 9 (.ifCond .ne 5) 5 12 14 := ⟨by decide +kernel, rfl, by decide⟩
theorem d_X11_soon_12 : DC mi_X11_soon 12 (.iconst (-1)) 1 13 := ⟨by decide +kernel, rfl⟩
theorem d_X11_soon_13 : DC mi_X11_soon 13 (.ireturn) 1 14 := ⟨by decide +kernel, rfl⟩
theorem d_X11_soon_14 : DC mi_X11_soon 14 (.bipush (-2)) 2 16 := ⟨by decide +kernel, rfl⟩
theorem d_X11_soon_16 : DC mi_X11_soon 16 (.istore_n 2) 1 17 := ⟨by decide +kernel, rfl⟩
theorem d_X11_soon_17 : DC mi_X11_soon 17 (.iconst 0) 1 18 := ⟨by decide +kernel, rfl⟩
theorem d_X11_soon_18 : DC mi_X11_soon 18 (.istore_n 3) 1 19 := ⟨by decide +kernel, rfl⟩
theorem d_X11_soon_19 : DC mi_X11_soon 19 (.iload_n 3) 1 20 := ⟨by decide +kernel, rfl⟩
theorem d_X11_soon_20 : DC mi_X11_soon 20 (.aload_n 0) 1 21 := ⟨by decide +kernel, rfl⟩
theorem d_X11_soon_21 : DC mi_X11_soon 21 (.getfield 13) 3 24 := ⟨by decide +kernel, rfl⟩
theorem d_X11_soon_24 : DC mi_X11_soon 24 (.iconst 3) 1 25 := ⟨by decide +kernel, rfl⟩
theorem d_X11_soon_25 : DC mi_X11_soon 25 (.iaload) 1 26 := ⟨by decide +kernel, rfl⟩
theorem d_X11_soon_26 : DB mi_X11_soon 26 (.if_icmp .ge 40) 40 29 66 := ⟨by decide +kernel, rfl, by decide⟩
theorem d_X11_soon_29 : DC mi_X11_soon 29 (.aload_n 0) 1 30 := ⟨by decide +kernel, rfl⟩
theorem d_X11_soon_30 : DC mi_X11_soon 30 (.getfield 46) 3 33 := ⟨by decide +kernel, rfl⟩
theorem d_X11_soon_33 : DC mi_X11_soon 33 (.iload_n 3) 1 34 := ⟨by decide +kernel, rfl⟩
theorem d_X11_soon_34 : DC mi_X11_soon 34 (.iaload) 1 35 := ⟨by decide +kernel, rfl⟩
theorem d_X11_soon_35 : DC mi_X11_soon 35 (.iload_n 1) 1 36 := ⟨by decide +kernel, rfl⟩
theorem d_X11_soon_36 : DB mi_X11_soon 36 (.if_icmp .lt 24) 24 39 60 := ⟨by decide +kernel, rfl, by decide⟩
theorem d_X11_soon_39 : DC mi_X11_soon 39 (.iload_n 2) 1 40 := ⟨by decide +kernel, rfl⟩
theorem d_X11_soon_40 : DB mi_X11_soon 40 (.ifCond .lt 13) 13 43 53 := ⟨by decide +kernel, rfl, by decide⟩
theorem d_X11_soon_43 : DC mi_X11_soon 43 (.aload_n 0) 1 44 := ⟨by decide +kernel, rfl⟩
theorem d_X11_soon_44 : DC mi_X11_soon 44 (.getfield 46) 3 47 := ⟨by decide +kernel, rfl⟩
theorem d_X11_soon_47 : DC mi_X11_soon 47 (.iload_n 3) 1 48 := ⟨by decide +kernel, rfl⟩
theorem d_X11_soon_48 : DC mi_X11_soon 48 (.iaload) 1 49 := ⟨by decide +kernel, rfl⟩
theorem d_X11_soon_49 : DC mi_X11_soon 49 (.iload_n 2) 1 50 := ⟨by decide +kernel, rfl⟩
theorem d_X11_soon_50 : DB mi_X11_soon 50 (.if_icmp .ge 10) 10 53 60 := ⟨by decide +kernel, rfl, by decide⟩
theorem d_X11_soon_53 : DC mi_X11_soon 53 (.aload_n 0) 1 54 := ⟨by decide +kernel, rfl⟩
theorem d_X11_soon_54 : DC mi_X11_soon 54 (.getfield 46) 3 57 := ⟨by decide +kernel, rfl⟩
theorem d_X11_soon_57 : DC mi_X11_soon 57 (.iload_n 3) 1 58 := ⟨by decide +kernel, rfl⟩
theorem d_X11_soon_58 : DC mi_X11_soon 58 (.iaload) 1 59 := ⟨by decide +kernel, rfl⟩
theorem d_X11_soon_59 : DC mi_X11_soon 59 (.istore_n 2) 1 60 := ⟨by decide +kernel, rfl⟩
theorem d_X11_soon_60 : DC mi_X11_soon 60 (.iinc 3 1) 3 63 := ⟨by decide +kernel, rfl⟩
theorem d_X11_soon_63 : DB mi_X11_soon 63 (.goto (-44)) (-44) 66 19 := ⟨by decide +kernel, rfl, by decide⟩
theorem d_X11_soon_66 : DC mi_X11_soon 66 (.iload_n 2) 1 67 := ⟨by decide +kernel, rfl⟩
theorem d_X11_soon_67 : DC mi_X11_soon 67 (.ireturn) 1 68 := ⟨by decide +kernel, rfl⟩
set_option maxHeartbeats 4000000 in
set_option maxRecDepth 100000 in
theorem sL_X11_soon_19 (d : Nat) (hd : 1 ≤ d) (c1 : Int32) : ∀ (n : Nat) (x2 : Int32) (x3 : Int32) (h : HH), Sx mi_X11_soon d iI (g_X11_soon_L19 c1 n x2 x3 h) 19 [(0, .ref 255), (1, .int c1), (2, .int x2), (3, .int x3)] [] h := by
  intro n
  induction n with
  | zero => intro x2 x3 h; exact sx_none
  | succ n ih =>
    intro x2 x3 h
    rw [g_X11_soon_L19]
    refine sx_iload_n d_X11_soon_19 3 rfl ?_
    refine sx_aload_n d_X11_soon_20 0 rfl ?_
    refine sx_getF (a' := 257) fl_StairCountModel_13 sh_255 rfl rfl d_X11_soon_21 ?_
    refine sx_iconst d_X11_soon_24 ic3 ?_
    refine sx_iald sh_257 d_X11_soon_25 (fun v4 => ?_)
    refine sx_icmp_ge d_X11_soon_26 ?_ ?_
    · refine sx_aload_n d_X11_soon_29 0 rfl ?_
      refine sx_getF (a' := 268) fl_StairCountModel_46 sh_255 rfl rfl d_X11_soon_30 ?_
      refine sx_iload_n d_X11_soon_33 3 rfl ?_
      refine sx_iald sh_268 d_X11_soon_34 (fun v5 => ?_)
      refine sx_iload_n d_X11_soon_35 1 rfl ?_
      refine sx_jn (fun j => ∀ (u9 : Int32) (h : HH), Sx mi_X11_soon d iI (j u9 h) 60 [(0, .ref 255), (1, .int c1), (2, .int u9), (3, .int x3)] [] h) ?_ ?_
      · intro u9 h8
        refine sx_iincV (lc' := fun v10 => [(3, .int v10), (0, .ref 255), (1, .int c1), (2, .int u9)]) (k0 := 3) d_X11_soon_60 rfl ii1 (by decide) (fun _ => rfl) (fun v10 => ?_)
        refine sx_goto d_X11_soon_63 ?_
        refine sx_lc (lc' := [(0, .ref 255), (1, .int c1), (2, .int u9), (3, .int v10)]) [1, 2, 3, 0] rfl ?_
        exact ih u9 v10 h8
      · intro j6 k7
        refine sx_icmp_lt d_X11_soon_36 ?_ ?_
        · exact k7 x2 h
        · refine sx_iload_n d_X11_soon_39 2 rfl ?_
          refine sx_jn (fun j => ∀  (h : HH), Sx mi_X11_soon d iI (j  h) 53 [(0, .ref 255), (1, .int c1), (3, .int x3)] [] h) ?_ ?_
          · intro  h13
            refine sx_aload_n d_X11_soon_53 0 rfl ?_
            refine sx_getF (a' := 268) fl_StairCountModel_46 sh_255 rfl rfl d_X11_soon_54 ?_
            refine sx_iload_n d_X11_soon_57 2 rfl ?_
            refine sx_iald sh_268 d_X11_soon_58 (fun v14 => ?_)
            refine sx_istore_n (i := 2) (lc' := [(2, .int v14), (0, .ref 255), (1, .int c1), (3, .int x3)]) d_X11_soon_59 rfl (by decide) rfl ?_
            refine sx_lc (lc' := [(0, .ref 255), (1, .int c1), (2, .int v14), (3, .int x3)]) [1, 2, 0, 3] rfl ?_
            exact k7 v14 h13
          · intro j11 k12
            refine sx_if_lt d_X11_soon_40 ?_ ?_
            · refine sx_lc (lc' := [(0, .ref 255), (1, .int c1), (3, .int x3)]) [0, 1, 3] rfl ?_
              exact k12 h
            · refine sx_aload_n d_X11_soon_43 0 rfl ?_
              refine sx_getF (a' := 268) fl_StairCountModel_46 sh_255 rfl rfl d_X11_soon_44 ?_
              refine sx_iload_n d_X11_soon_47 3 rfl ?_
              refine sx_iald sh_268 d_X11_soon_48 (fun v15 => ?_)
              refine sx_iload_n d_X11_soon_49 2 rfl ?_
              refine sx_icmp_ge d_X11_soon_50 ?_ ?_
              · refine sx_lc (lc' := [(0, .ref 255), (1, .int c1), (3, .int x3)]) [0, 1, 3] rfl ?_
                exact k12 h
              · exact k7 x2 h
    · refine sx_iload_n d_X11_soon_66 2 rfl ?_
      exact sx_iret rfl d_X11_soon_67
set_option maxHeartbeats 4000000 in
set_option maxRecDepth 100000 in
theorem sp_X11_soon (d : Nat) (hd : 1 ≤ d) (a0 : Int32) (h : HH) : Sp mi_X11_soon d iI [.ref 255, .int a0] h (g_X11_soon a0 h) := by
  refine sp_of (lc := [(0, .ref 255), (1, .int a0)]) (by decide) (Nat.le_of_ble_eq_true rfl) rfl ?_
  unfold g_X11_soon
  refine sx_aload_n d_X11_soon_0 0 rfl ?_
  refine sx_iconst d_X11_soon_1 ic0 ?_
  refine sx_putI fl_StairCountModel_148 sh_255 rfl hty_11_0 d_X11_soon_2 (fun h1 => ?_)
  refine sx_iload_n d_X11_soon_5 1 rfl ?_
  refine sx_callS [.int a0] ms_X11_isHour lM_StairCountModel_450 (by omega) rfl rfl (Nat.le_of_ble_eq_true rfl) d_X11_soon_6 (sp_X11_isHour (d - 1) (by omega) a0 h1) (fun r3 h2 => ?_)
  refine sx_if_ne d_X11_soon_9 ?_ ?_
  · refine sx_iconst d_X11_soon_12 icm1 ?_
    exact sx_iret rfl d_X11_soon_13
  · refine sx_bipush d_X11_soon_14 bcm2 ?_
    refine sx_istore_n (i := 2) (lc' := [(2, .int (-2 : Int32)), (0, .ref 255), (1, .int a0)]) d_X11_soon_16 rfl (by decide) rfl ?_
    refine sx_iconst d_X11_soon_17 ic0 ?_
    refine sx_istore_n (i := 3) (lc' := [(3, .int (0 : Int32)), (2, .int (-2 : Int32)), (0, .ref 255), (1, .int a0)]) d_X11_soon_18 rfl (by decide) rfl ?_
    refine sx_lc (lc' := [(0, .ref 255), (1, .int a0), (2, .int (-2 : Int32)), (3, .int (0 : Int32))]) [2, 3, 1, 0] rfl ?_
    refine sL_X11_soon_19 d hd a0 1024 (-2 : Int32) (0 : Int32) h2
theorem d_X11_law_0 : DC mi_X11_law 0 (.aload_n 0) 1 1 := ⟨by decide +kernel, rfl⟩
theorem d_X11_law_1 : DC mi_X11_law 1 (.iconst 0) 1 2 := ⟨by decide +kernel, rfl⟩
theorem d_X11_law_2 : DC mi_X11_law 2 (.putfield 148) 3 5 := ⟨by decide +kernel, rfl⟩
theorem d_X11_law_5 : DC mi_X11_law 5 (.iload_n 1) 1 6 := ⟨by decide +kernel, rfl⟩
theorem d_X11_law_6 : DB mi_X11_law 6 (.ifCond .lt 25) 25 9 31 := ⟨by decide +kernel, rfl, by decide⟩
theorem d_X11_law_9 : DC mi_X11_law 9 (.iload_n 1) 1 10 := ⟨by decide +kernel, rfl⟩
theorem d_X11_law_10 : DC mi_X11_law 10 (.iconst 2) 1 11 := ⟨by decide +kernel, rfl⟩
theorem d_X11_law_11 : DB mi_X11_law 11 (.if_icmp .gt 20) 20 14 31 := ⟨by decide +kernel, rfl, by decide⟩
theorem d_X11_law_14 : DC mi_X11_law 14 (.aload_n 0) 1 15 := ⟨by decide +kernel, rfl⟩
theorem d_X11_law_15 : DC mi_X11_law 15 (.iload_n 1) 1 16 := ⟨by decide +kernel, rfl⟩
theorem d_X11_law_16 : DC mi_X11_law 16 (.invokevirtual 365) 3 19 := ⟨by decide +kernel, rfl⟩
theorem d_X11_law_19 : DB mi_X11_law 19 (.ifCond .eq 12) 12 22 31 := ⟨by decide +kernel, rfl, by decide⟩
theorem d_X11_law_22 : DC mi_X11_law 22 (.aload_n 0) 1 23 := ⟨by decide +kernel, rfl⟩
theorem d_X11_law_23 : DC mi_X11_law 23 (.iload_n 2) 1 24 := ⟨by decide +kernel, rfl⟩
theorem d_X11_law_24 : DC mi_X11_law 24 (.iload_n 3) 1 25 := ⟨by decide +kernel, rfl⟩
theorem d_X11_law_25 : DC mi_X11_law 25 (.invokevirtual 437) 3 28 := ⟨by decide +kernel, rfl⟩
theorem d_X11_law_28 : DB mi_X11_law 28 (.ifCond .ne 7) 7 31 35 := ⟨by decide +kernel, rfl, by decide⟩
theorem d_X11_law_31 : DC mi_X11_law 31 (.ldc2_w 455) 3 34 := ⟨by decide +kernel, rfl⟩
theorem d_X11_law_34 : DC mi_X11_law 34 (.lreturn) 1 35 := ⟨by decide +kernel, rfl⟩
theorem d_X11_law_35 : DC mi_X11_law 35 (.aload_n 0) 1 36 := ⟨by decide +kernel, rfl⟩
theorem d_X11_law_36 : DC mi_X11_law 36 (.iconst 0) 1 37 := ⟨by decide +kernel, rfl⟩
theorem d_X11_law_37 : DC mi_X11_law 37 (.iload_n 2) 1 38 := ⟨by decide +kernel, rfl⟩
theorem d_X11_law_38 : DC mi_X11_law 38 (.iload_n 3) 1 39 := ⟨by decide +kernel, rfl⟩
theorem d_X11_law_39 : DC mi_X11_law 39 (.invokevirtual 378) 3 42 := ⟨by decide +kernel, rfl⟩
theorem d_X11_law_42 : DC mi_X11_law 42 (.aload_n 0) 1 43 := ⟨by decide +kernel, rfl⟩
theorem d_X11_law_43 : DC mi_X11_law 43 (.iload_n 1) 1 44 := ⟨by decide +kernel, rfl⟩
theorem d_X11_law_44 : DC mi_X11_law 44 (.invokevirtual 368) 3 47 := ⟨by decide +kernel, rfl⟩
theorem d_X11_law_47 : DB mi_X11_law 47 (.ifCond .eq 12) 12 50 59 := ⟨by decide +kernel, rfl, by decide⟩
theorem d_X11_law_50 : DC mi_X11_law 50 (.aload_n 0) 1 51 := ⟨by decide +kernel, rfl⟩
theorem d_X11_law_51 : DC mi_X11_law 51 (.getfield 72) 3 54 := ⟨by decide +kernel, rfl⟩
theorem d_X11_law_54 : DC mi_X11_law 54 (.iconst 0) 1 55 := ⟨by decide +kernel, rfl⟩
theorem d_X11_law_55 : DC mi_X11_law 55 (.laload) 1 56 := ⟨by decide +kernel, rfl⟩
theorem d_X11_law_56 : DB mi_X11_law 56 (.goto 6) 6 59 62 := ⟨by decide +kernel, rfl, by decide⟩
theorem d_X11_law_59 : DC mi_X11_law 59 (.ldc2_w 455) 3 62 := ⟨by decide +kernel, rfl⟩
theorem d_X11_law_62 : DC mi_X11_law 62 (.lreturn) 1 63 := ⟨by decide +kernel, rfl⟩
set_option maxHeartbeats 4000000 in
set_option maxRecDepth 100000 in
theorem sp_X11_law (d : Nat) (hd : 3 ≤ d) (a0 : Int32) (a1 : Int32) (a2 : Int32) (h : HH) : Sp mi_X11_law d iL [.ref 255, .int a0, .int a1, .int a2] h (g_X11_law a0 a1 a2 h) := by
  refine sp_of (lc := [(0, .ref 255), (1, .int a0), (2, .int a1), (3, .int a2)]) (by decide) (Nat.le_of_ble_eq_true rfl) rfl ?_
  unfold g_X11_law
  refine sx_aload_n d_X11_law_0 0 rfl ?_
  refine sx_iconst d_X11_law_1 ic0 ?_
  refine sx_putI fl_StairCountModel_148 sh_255 rfl hty_11_0 d_X11_law_2 (fun h1 => ?_)
  refine sx_iload_n d_X11_law_5 1 rfl ?_
  refine sx_if_lt d_X11_law_6 ?_ ?_
  · refine sx_ldc2 d_X11_law_31 lQ_StairCountModel_455 ?_
    exact sx_lret rfl d_X11_law_34
  · refine sx_iload_n d_X11_law_9 1 rfl ?_
    refine sx_iconst d_X11_law_10 ic2 ?_
    refine sx_icmp_gt d_X11_law_11 ?_ ?_
    · refine sx_ldc2 d_X11_law_31 lQ_StairCountModel_455 ?_
      exact sx_lret rfl d_X11_law_34
    · refine sx_aload_n d_X11_law_14 0 rfl ?_
      refine sx_iload_n d_X11_law_15 1 rfl ?_
      refine sx_callV [.int a0] mv_X11_hasLaw lM_StairCountModel_365 sh_255 (by omega) rfl rfl (Nat.le_of_ble_eq_true rfl) d_X11_law_16 (sp_X11_hasLaw (d - 1) (by omega) a0 h1) (fun r3 h2 => ?_)
      refine sx_if_eq d_X11_law_19 ?_ ?_
      · refine sx_ldc2 d_X11_law_31 lQ_StairCountModel_455 ?_
        exact sx_lret rfl d_X11_law_34
      · refine sx_aload_n d_X11_law_22 0 rfl ?_
        refine sx_iload_n d_X11_law_23 2 rfl ?_
        refine sx_iload_n d_X11_law_24 3 rfl ?_
        refine sx_callV [.int a1, .int a2] mv_X11_areOf lM_StairCountModel_437 sh_255 (by omega) rfl rfl (Nat.le_of_ble_eq_true rfl) d_X11_law_25 (sp_X11_areOf (d - 1) (by omega) a1 a2 h2) (fun r5 h4 => ?_)
        refine sx_if_ne d_X11_law_28 ?_ ?_
        · refine sx_ldc2 d_X11_law_31 lQ_StairCountModel_455 ?_
          exact sx_lret rfl d_X11_law_34
        · refine sx_aload_n d_X11_law_35 0 rfl ?_
          refine sx_iconst d_X11_law_36 ic0 ?_
          refine sx_iload_n d_X11_law_37 2 rfl ?_
          refine sx_iload_n d_X11_law_38 3 rfl ?_
          refine sx_callV [.int (0 : Int32), .int a1, .int a2] mv_X11_calls lM_StairCountModel_378 sh_255 (by omega) rfl rfl (Nat.le_of_ble_eq_true rfl) d_X11_law_39 (sp_X11_calls (d - 1) (by omega) (0 : Int32) a1 a2 h4) (fun _ h6 => ?_)
          refine sx_aload_n d_X11_law_42 0 rfl ?_
          refine sx_iload_n d_X11_law_43 1 rfl ?_
          refine sx_callV [.int a0] mv_X11_goes lM_StairCountModel_368 sh_255 (by omega) rfl rfl (Nat.le_of_ble_eq_true rfl) d_X11_law_44 (sp_X11_goes (d - 1) (by omega) a0 h6) (fun r9 h8 => ?_)
          refine sx_if_eq d_X11_law_47 ?_ ?_
          · refine sx_ldc2 d_X11_law_59 lQ_StairCountModel_455 ?_
            exact sx_lret rfl d_X11_law_62
          · refine sx_aload_n d_X11_law_50 0 rfl ?_
            refine sx_getF (a' := 275) fl_StairCountModel_72 sh_255 rfl rfl d_X11_law_51 ?_
            refine sx_iconst d_X11_law_54 ic0 ?_
            refine sx_lald sh_275 d_X11_law_55 (fun v10 => ?_)
            refine sx_goto d_X11_law_56 ?_
            exact sx_lret rfl d_X11_law_62
theorem d_X11_keepNow_0 : DC mi_X11_keepNow 0 (.aload_n 0) 1 1 := ⟨by decide +kernel, rfl⟩
theorem d_X11_keepNow_1 : DC mi_X11_keepNow 1 (.getfield 317) 3 4 := ⟨by decide +kernel, rfl⟩
theorem d_X11_keepNow_4 : DC mi_X11_keepNow 4 (.bipush 20) 2 6 := ⟨by decide +kernel, rfl⟩
theorem d_X11_keepNow_6 : DB mi_X11_keepNow 6 (.if_icmp .ne 39) 39 9 45 := ⟨by decide +kernel, rfl, by decide⟩
theorem d_X11_keepNow_9 : DC mi_X11_keepNow 9 (.iconst 1) 1 10 := ⟨by decide +kernel, rfl⟩
theorem d_X11_keepNow_10 : DC mi_X11_keepNow 10 (.istore_n 1) 1 11 := ⟨by decide +kernel, rfl⟩
theorem d_X11_keepNow_11 : DC mi_X11_keepNow 11 (.iload_n 1) 1 12 := ⟨by decide +kernel, rfl⟩
theorem d_X11_keepNow_12 : DC mi_X11_keepNow 12 (.bipush 20) 2 14 := ⟨by decide +kernel, rfl⟩
theorem d_X11_keepNow_14 : DB mi_X11_keepNow 14 (.if_icmp .ge 21) 21 17 35 := ⟨by decide +kernel, rfl, by decide⟩
theorem d_X11_keepNow_17 : DC mi_X11_keepNow 17 (.aload_n 0) 1 18 := ⟨by decide +kernel, rfl⟩
theorem d_X11_keepNow_18 : DC mi_X11_keepNow 18 (.iconst 3) 1 19 := ⟨by decide +kernel, rfl⟩
theorem d_X11_keepNow_19 : DC mi_X11_keepNow 19 (.iload_n 1) 1 20 := ⟨by decide +kernel, rfl⟩
theorem d_X11_keepNow_20 : DC mi_X11_keepNow 20 (.iadd) 1 21 := ⟨by decide +kernel, rfl⟩
theorem d_X11_keepNow_21 : DC mi_X11_keepNow 21 (.iconst 1) 1 22 := ⟨by decide +kernel, rfl⟩
theorem d_X11_keepNow_22 : DC mi_X11_keepNow 22 (.isub) 1 23 := ⟨by decide +kernel, rfl⟩
theorem d_X11_keepNow_23 : DC mi_X11_keepNow 23 (.iconst 3) 1 24 := ⟨by decide +kernel, rfl⟩
theorem d_X11_keepNow_24 : DC mi_X11_keepNow 24 (.iload_n 1) 1 25 := ⟨by decide +kernel, rfl⟩
theorem d_X11_keepNow_25 : DC mi_X11_keepNow 25 (.iadd) 1 26 := ⟨by decide +kernel, rfl⟩
theorem d_X11_keepNow_26 : DC mi_X11_keepNow 26 (.invokevirtual 457) 3 29 := ⟨by decide +kernel, rfl⟩
theorem d_X11_keepNow_29 : DC mi_X11_keepNow 29 (.iinc 1 1) 3 32 := ⟨by decide +kernel, rfl⟩
theorem d_X11_keepNow_32 : DB mi_X11_keepNow 32 (.goto (-21)) (-21) 35 11 := ⟨by decide +kernel, rfl, by decide⟩
theorem d_X11_keepNow_35 : DC mi_X11_keepNow 35 (.aload_n 0) 1 36 := ⟨by decide +kernel, rfl⟩
theorem d_X11_keepNow_36 : DC mi_X11_keepNow 36 (.dup) 1 37 := ⟨by decide +kernel, rfl⟩
theorem d_X11_keepNow_37 : DC mi_X11_keepNow 37 (.getfield 317) 3 40 := ⟨by decide +kernel, rfl⟩
theorem d_X11_keepNow_40 : DC mi_X11_keepNow 40 (.iconst 1) 1 41 := ⟨by decide +kernel, rfl⟩
theorem d_X11_keepNow_41 : DC mi_X11_keepNow 41 (.isub) 1 42 := ⟨by decide +kernel, rfl⟩
theorem d_X11_keepNow_42 : DC mi_X11_keepNow 42 (.putfield 317) 3 45 := ⟨by decide +kernel, rfl⟩
theorem d_X11_keepNow_45 : DC mi_X11_keepNow 45 (.aload_n 0) 1 46 := ⟨by decide +kernel, rfl⟩
theorem d_X11_keepNow_46 : DC mi_X11_keepNow 46 (.iconst 3) 1 47 := ⟨by decide +kernel, rfl⟩
theorem d_X11_keepNow_47 : DC mi_X11_keepNow 47 (.aload_n 0) 1 48 := ⟨by decide +kernel, rfl⟩
theorem d_X11_keepNow_48 : DC mi_X11_keepNow 48 (.getfield 317) 3 51 := ⟨by decide +kernel, rfl⟩
theorem d_X11_keepNow_51 : DC mi_X11_keepNow 51 (.iadd) 1 52 := ⟨by decide +kernel, rfl⟩
theorem d_X11_keepNow_52 : DC mi_X11_keepNow 52 (.iconst 0) 1 53 := ⟨by decide +kernel, rfl⟩
theorem d_X11_keepNow_53 : DC mi_X11_keepNow 53 (.invokevirtual 457) 3 56 := ⟨by decide +kernel, rfl⟩
theorem d_X11_keepNow_56 : DC mi_X11_keepNow 56 (.aload_n 0) 1 57 := ⟨by decide +kernel, rfl⟩
theorem d_X11_keepNow_57 : DC mi_X11_keepNow 57 (.dup) 1 58 := ⟨by decide +kernel, rfl⟩
theorem d_X11_keepNow_58 : DC mi_X11_keepNow 58 (.getfield 317) 3 61 := ⟨by decide +kernel, rfl⟩
theorem d_X11_keepNow_61 : DC mi_X11_keepNow 61 (.iconst 1) 1 62 := ⟨by decide +kernel, rfl⟩
theorem d_X11_keepNow_62 : DC mi_X11_keepNow 62 (.iadd) 1 63 := ⟨by decide +kernel, rfl⟩
theorem d_X11_keepNow_63 : DC mi_X11_keepNow 63 (.putfield 317) 3 66 := ⟨by decide +kernel, rfl⟩
theorem d_X11_keepNow_66 : DC mi_X11_keepNow 66 (.return_) 1 67 := ⟨by decide +kernel, rfl⟩
set_option maxHeartbeats 4000000 in
set_option maxRecDepth 100000 in
theorem sL_X11_keepNow_11 (d : Nat) (hd : 1 ≤ d) (K35 : HH → Option (Unit × HH)) (hK35 : ∀ (h : HH), Sx mi_X11_keepNow d iU (K35 h) 35 [(0, .ref 255)] [] h) : ∀ (n : Nat) (x1 : Int32) (h : HH), Sx mi_X11_keepNow d iU (g_X11_keepNow_L11 K35 n x1 h) 11 [(0, .ref 255), (1, .int x1)] [] h := by
  intro n
  induction n with
  | zero => intro x1 h; exact sx_none
  | succ n ih =>
    intro x1 h
    rw [g_X11_keepNow_L11]
    refine sx_iload_n d_X11_keepNow_11 1 rfl ?_
    refine sx_bipush d_X11_keepNow_12 bc20 ?_
    refine sx_icmp_ge d_X11_keepNow_14 ?_ ?_
    · refine sx_aload_n d_X11_keepNow_17 0 rfl ?_
      refine sx_iconst d_X11_keepNow_18 ic3 ?_
      refine sx_iload_n d_X11_keepNow_19 1 rfl ?_
      refine sx_iadd d_X11_keepNow_20 ?_
      refine sx_iconst d_X11_keepNow_21 ic1 ?_
      refine sx_isub d_X11_keepNow_22 ?_
      refine sx_iconst d_X11_keepNow_23 ic3 ?_
      refine sx_iload_n d_X11_keepNow_24 1 rfl ?_
      refine sx_iadd d_X11_keepNow_25 ?_
      refine sx_callV [.int (((3 : Int32) + x1) - (1 : Int32)), .int ((3 : Int32) + x1)] mv_X11_copies lM_StairCountModel_457 sh_255 (by omega) rfl rfl (Nat.le_of_ble_eq_true rfl) d_X11_keepNow_26 (sp_X11_copies (d - 1) (by omega) (((3 : Int32) + x1) - (1 : Int32)) ((3 : Int32) + x1) h) (fun _ h10 => ?_)
      refine sx_iincV (lc' := fun v12 => [(1, .int v12), (0, .ref 255)]) (k0 := 1) d_X11_keepNow_29 rfl ii1 (by decide) (fun _ => rfl) (fun v12 => ?_)
      refine sx_goto d_X11_keepNow_32 ?_
      refine sx_lc (lc' := [(0, .ref 255), (1, .int v12)]) [1, 0] rfl ?_
      exact ih v12 h10
    · refine sx_lc (lc' := [(0, .ref 255)]) [0] rfl ?_
      exact hK35 h
set_option maxHeartbeats 4000000 in
set_option maxRecDepth 100000 in
theorem sp_X11_keepNow (d : Nat) (hd : 1 ≤ d) (h : HH) : Sp mi_X11_keepNow d iU [.ref 255] h (g_X11_keepNow h) := by
  refine sp_of (lc := [(0, .ref 255)]) (by decide) (Nat.le_of_ble_eq_true rfl) rfl ?_
  unfold g_X11_keepNow
  refine sx_aload_n d_X11_keepNow_0 0 rfl ?_
  refine sx_getI fl_StairCountModel_317 sh_255 rfl d_X11_keepNow_1 (fun v1 => ?_)
  refine sx_bipush d_X11_keepNow_4 bc20 ?_
  refine sx_jn (fun j => ∀  (h : HH), Sx mi_X11_keepNow d iU (j  h) 45 [(0, .ref 255)] [] h) ?_ ?_
  · intro  h4
    refine sx_aload_n d_X11_keepNow_45 0 rfl ?_
    refine sx_iconst d_X11_keepNow_46 ic3 ?_
    refine sx_aload_n d_X11_keepNow_47 0 rfl ?_
    refine sx_getI fl_StairCountModel_317 sh_255 rfl d_X11_keepNow_48 (fun v5 => ?_)
    refine sx_iadd d_X11_keepNow_51 ?_
    refine sx_iconst d_X11_keepNow_52 ic0 ?_
    refine sx_callV [.int ((3 : Int32) + v5), .int (0 : Int32)] mv_X11_copies lM_StairCountModel_457 sh_255 (by omega) rfl rfl (Nat.le_of_ble_eq_true rfl) d_X11_keepNow_53 (sp_X11_copies (d - 1) (by omega) ((3 : Int32) + v5) (0 : Int32) h4) (fun _ h6 => ?_)
    refine sx_aload_n d_X11_keepNow_56 0 rfl ?_
    refine sx_dup d_X11_keepNow_57 rfl ?_
    refine sx_getI fl_StairCountModel_317 sh_255 rfl d_X11_keepNow_58 (fun v8 => ?_)
    refine sx_iconst d_X11_keepNow_61 ic1 ?_
    refine sx_iadd d_X11_keepNow_62 ?_
    refine sx_putI fl_StairCountModel_317 sh_255 rfl hty_11_44 d_X11_keepNow_63 (fun h9 => ?_)
    exact sx_vret rfl d_X11_keepNow_66
  · intro j2 k3
    refine sx_icmp_ne d_X11_keepNow_6 ?_ ?_
    · refine sx_iconst d_X11_keepNow_9 ic1 ?_
      refine sx_istore_n (i := 1) (lc' := [(1, .int (1 : Int32)), (0, .ref 255)]) d_X11_keepNow_10 rfl (by decide) rfl ?_
      refine sx_lc (lc' := [(0, .ref 255), (1, .int (1 : Int32))]) [1, 0] rfl ?_
      refine sL_X11_keepNow_11 d hd _ ?_ 1024 (1 : Int32) h
      · intro h13
        refine sx_aload_n d_X11_keepNow_35 0 rfl ?_
        refine sx_dup d_X11_keepNow_36 rfl ?_
        refine sx_getI fl_StairCountModel_317 sh_255 rfl d_X11_keepNow_37 (fun v14 => ?_)
        refine sx_iconst d_X11_keepNow_40 ic1 ?_
        refine sx_isub d_X11_keepNow_41 ?_
        refine sx_putI fl_StairCountModel_317 sh_255 rfl hty_11_44 d_X11_keepNow_42 (fun h15 => ?_)
        exact k3 h15
    · exact k3 h
theorem d_X11_walk_0 : DC mi_X11_walk 0 (.aload_n 0) 1 1 := ⟨by decide +kernel, rfl⟩
theorem d_X11_walk_1 : DC mi_X11_walk 1 (.iconst 0) 1 2 := ⟨by decide +kernel, rfl⟩
theorem d_X11_walk_2 : DC mi_X11_walk 2 (.putfield 148) 3 5 := ⟨by decide +kernel, rfl⟩
theorem d_X11_walk_5 : DC mi_X11_walk 5 (.aload_n 0) 1 6 := ⟨by decide +kernel, rfl⟩
theorem d_X11_walk_6 : DC mi_X11_walk 6 (.iload_n 1) 1 7 := ⟨by decide +kernel, rfl⟩
theorem d_X11_walk_7 : DC mi_X11_walk 7 (.invokevirtual 346) 3 10 := ⟨by decide +kernel, rfl⟩
theorem d_X11_walk_10 : DB mi_X11_walk 10 (.ifCond .eq 11) 11 13 21 := ⟨by decide +kernel, rfl, by decide⟩
theorem d_X11_walk_13 : DC mi_X11_walk 13 (.aload_n 0) 1 14 := ⟨by decide +kernel, rfl⟩
theorem d_X11_walk_14 : DC mi_X11_walk 14 (.iload_n 2) 1 15 := ⟨by decide +kernel, rfl⟩
theorem d_X11_walk_15 : DC mi_X11_walk 15 (.invokevirtual 444) 3 18 := ⟨by decide +kernel, rfl⟩
theorem d_X11_walk_18 : DB mi_X11_walk 18 (.ifCond .ne 5) 5 21 23 := ⟨by decide +kernel, rfl, by decide⟩
theorem d_X11_walk_21 : DC mi_X11_walk 21 (.iconst (-1)) 1 22 := ⟨by decide +kernel, rfl⟩
theorem d_X11_walk_22 : DC mi_X11_walk 22 (.ireturn) 1 23 := ⟨by decide +kernel, rfl⟩
theorem d_X11_walk_23 : DC mi_X11_walk 23 (.aload_n 0) 1 24 := ⟨by decide +kernel, rfl⟩
theorem d_X11_walk_24 : DC mi_X11_walk 24 (.invokevirtual 460) 3 27 := ⟨by decide +kernel, rfl⟩
theorem d_X11_walk_27 : DC mi_X11_walk 27 (.aload_n 0) 1 28 := ⟨by decide +kernel, rfl⟩
theorem d_X11_walk_28 : DC mi_X11_walk 28 (.iconst 0) 1 29 := ⟨by decide +kernel, rfl⟩
theorem d_X11_walk_29 : DC mi_X11_walk 29 (.iload_n 1) 1 30 := ⟨by decide +kernel, rfl⟩
theorem d_X11_walk_30 : DC mi_X11_walk 30 (.iload_n 2) 1 31 := ⟨by decide +kernel, rfl⟩
theorem d_X11_walk_31 : DC mi_X11_walk 31 (.iconst 0) 1 32 := ⟨by decide +kernel, rfl⟩
theorem d_X11_walk_32 : DC mi_X11_walk 32 (.invokevirtual 412) 3 35 := ⟨by decide +kernel, rfl⟩
theorem d_X11_walk_35 : DC mi_X11_walk 35 (.aload_n 0) 1 36 := ⟨by decide +kernel, rfl⟩
theorem d_X11_walk_36 : DC mi_X11_walk 36 (.getfield 81) 3 39 := ⟨by decide +kernel, rfl⟩
theorem d_X11_walk_39 : DC mi_X11_walk 39 (.iload_n 1) 1 40 := ⟨by decide +kernel, rfl⟩
theorem d_X11_walk_40 : DC mi_X11_walk 40 (.iaload) 1 41 := ⟨by decide +kernel, rfl⟩
theorem d_X11_walk_41 : DC mi_X11_walk 41 (.ireturn) 1 42 := ⟨by decide +kernel, rfl⟩
set_option maxHeartbeats 4000000 in
set_option maxRecDepth 100000 in
theorem sp_X11_walk (d : Nat) (hd : 9 ≤ d) (a0 : Int32) (a1 : Int32) (h : HH) : Sp mi_X11_walk d iI [.ref 255, .int a0, .int a1] h (g_X11_walk a0 a1 h) := by
  refine sp_of (lc := [(0, .ref 255), (1, .int a0), (2, .int a1)]) (by decide) (Nat.le_of_ble_eq_true rfl) rfl ?_
  unfold g_X11_walk
  refine sx_aload_n d_X11_walk_0 0 rfl ?_
  refine sx_iconst d_X11_walk_1 ic0 ?_
  refine sx_putI fl_StairCountModel_148 sh_255 rfl hty_11_0 d_X11_walk_2 (fun h1 => ?_)
  refine sx_aload_n d_X11_walk_5 0 rfl ?_
  refine sx_iload_n d_X11_walk_6 1 rfl ?_
  refine sx_callV [.int a0] mv_X11_isPerson lM_StairCountModel_346 sh_255 (by omega) rfl rfl (Nat.le_of_ble_eq_true rfl) d_X11_walk_7 (sp_X11_isPerson (d - 1) (by omega) a0 h1) (fun r3 h2 => ?_)
  refine sx_if_eq d_X11_walk_10 ?_ ?_
  · refine sx_iconst d_X11_walk_21 icm1 ?_
    exact sx_iret rfl d_X11_walk_22
  · refine sx_aload_n d_X11_walk_13 0 rfl ?_
    refine sx_iload_n d_X11_walk_14 2 rfl ?_
    refine sx_callV [.int a1] mv_X11_isFloor lM_StairCountModel_444 sh_255 (by omega) rfl rfl (Nat.le_of_ble_eq_true rfl) d_X11_walk_15 (sp_X11_isFloor (d - 1) (by omega) a1 h2) (fun r5 h4 => ?_)
    refine sx_if_ne d_X11_walk_18 ?_ ?_
    · refine sx_iconst d_X11_walk_21 icm1 ?_
      exact sx_iret rfl d_X11_walk_22
    · refine sx_aload_n d_X11_walk_23 0 rfl ?_
      refine sx_callV [] mv_X11_keepNow lM_StairCountModel_460 sh_255 (by omega) rfl rfl (Nat.le_of_ble_eq_true rfl) d_X11_walk_24 (sp_X11_keepNow (d - 1) (by omega) h4) (fun _ h6 => ?_)
      refine sx_aload_n d_X11_walk_27 0 rfl ?_
      refine sx_iconst d_X11_walk_28 ic0 ?_
      refine sx_iload_n d_X11_walk_29 1 rfl ?_
      refine sx_iload_n d_X11_walk_30 2 rfl ?_
      refine sx_iconst d_X11_walk_31 ic0 ?_
      refine sx_callV [.int (0 : Int32), .int a0, .int a1, .int (0 : Int32)] mv_X11_goesTo lM_StairCountModel_412 sh_255 (by omega) rfl rfl (Nat.le_of_ble_eq_true rfl) d_X11_walk_32 (sp_X11_goesTo (d - 1) (by omega) (0 : Int32) a0 a1 (0 : Int32) h6) (fun _ h8 => ?_)
      refine sx_aload_n d_X11_walk_35 0 rfl ?_
      refine sx_getF (a' := 278) fl_StairCountModel_81 sh_255 rfl rfl d_X11_walk_36 ?_
      refine sx_iload_n d_X11_walk_39 1 rfl ?_
      refine sx_iald sh_278 d_X11_walk_40 (fun v10 => ?_)
      exact sx_iret rfl d_X11_walk_41
theorem d_X11_carry_0 : DC mi_X11_carry 0 (.aload_n 0) 1 1 := ⟨by decide +kernel, rfl⟩
theorem d_X11_carry_1 : DC mi_X11_carry 1 (.iconst 0) 1 2 := ⟨by decide +kernel, rfl⟩
theorem d_X11_carry_2 : DC mi_X11_carry 2 (.putfield 148) 3 5 := ⟨by decide +kernel, rfl⟩
theorem d_X11_carry_5 : DC mi_X11_carry 5 (.aload_n 0) 1 6 := ⟨by decide +kernel, rfl⟩
theorem d_X11_carry_6 : DC mi_X11_carry 6 (.iload_n 1) 1 7 := ⟨by decide +kernel, rfl⟩
theorem d_X11_carry_7 : DC mi_X11_carry 7 (.invokevirtual 346) 3 10 := ⟨by decide +kernel, rfl⟩
theorem d_X11_carry_10 : DB mi_X11_carry 10 (.ifCond .eq 21) 21 13 31 := ⟨by decide +kernel, rfl, by decide⟩
theorem d_X11_carry_13 : DC mi_X11_carry 13 (.aload_n 0) 1 14 := ⟨by decide +kernel, rfl⟩
theorem d_X11_carry_14 : DC mi_X11_carry 14 (.iload_n 2) 1 15 := ⟨by decide +kernel, rfl⟩
theorem d_X11_carry_15 : DC mi_X11_carry 15 (.invokevirtual 444) 3 18 := ⟨by decide +kernel, rfl⟩
theorem d_X11_carry_18 : DB mi_X11_carry 18 (.ifCond .eq 13) 13 21 31 := ⟨by decide +kernel, rfl, by decide⟩
theorem d_X11_carry_21 : DC mi_X11_carry 21 (.aload_n 0) 1 22 := ⟨by decide +kernel, rfl⟩
theorem d_X11_carry_22 : DC mi_X11_carry 22 (.getfield 81) 3 25 := ⟨by decide +kernel, rfl⟩
theorem d_X11_carry_25 : DC mi_X11_carry 25 (.iload_n 1) 1 26 := ⟨by decide +kernel, rfl⟩
theorem d_X11_carry_26 : DC mi_X11_carry 26 (.iaload) 1 27 := ⟨by decide +kernel, rfl⟩
theorem d_X11_carry_27 : DC mi_X11_carry 27 (.iload_n 2) 1 28 := ⟨by decide +kernel, rfl⟩
theorem d_X11_carry_28 : DB mi_X11_carry 28 (.if_icmp .ne 5) 5 31 33 := ⟨by decide +kernel, rfl, by decide⟩
theorem d_X11_carry_31 : DC mi_X11_carry 31 (.iconst 0) 1 32 := ⟨by decide +kernel, rfl⟩
theorem d_X11_carry_32 : DC mi_X11_carry 32 (.ireturn) 1 33 := ⟨by decide +kernel, rfl⟩
theorem d_X11_carry_33 : DC mi_X11_carry 33 (.aload_n 0) 1 34 := ⟨by decide +kernel, rfl⟩
theorem d_X11_carry_34 : DC mi_X11_carry 34 (.invokevirtual 460) 3 37 := ⟨by decide +kernel, rfl⟩
theorem d_X11_carry_37 : DC mi_X11_carry 37 (.aload_n 0) 1 38 := ⟨by decide +kernel, rfl⟩
theorem d_X11_carry_38 : DC mi_X11_carry 38 (.getfield 81) 3 41 := ⟨by decide +kernel, rfl⟩
theorem d_X11_carry_41 : DC mi_X11_carry 41 (.iload_n 1) 1 42 := ⟨by decide +kernel, rfl⟩
theorem d_X11_carry_42 : DC mi_X11_carry 42 (.iload_n 2) 1 43 := ⟨by decide +kernel, rfl⟩
theorem d_X11_carry_43 : DC mi_X11_carry 43 (.iastore) 1 44 := ⟨by decide +kernel, rfl⟩
theorem d_X11_carry_44 : DC mi_X11_carry 44 (.iconst 1) 1 45 := ⟨by decide +kernel, rfl⟩
theorem d_X11_carry_45 : DC mi_X11_carry 45 (.ireturn) 1 46 := ⟨by decide +kernel, rfl⟩
set_option maxHeartbeats 4000000 in
set_option maxRecDepth 100000 in
theorem sp_X11_carry (d : Nat) (hd : 2 ≤ d) (a0 : Int32) (a1 : Int32) (h : HH) : Sp mi_X11_carry d iI [.ref 255, .int a0, .int a1] h (g_X11_carry a0 a1 h) := by
  refine sp_of (lc := [(0, .ref 255), (1, .int a0), (2, .int a1)]) (by decide) (Nat.le_of_ble_eq_true rfl) rfl ?_
  unfold g_X11_carry
  refine sx_aload_n d_X11_carry_0 0 rfl ?_
  refine sx_iconst d_X11_carry_1 ic0 ?_
  refine sx_putI fl_StairCountModel_148 sh_255 rfl hty_11_0 d_X11_carry_2 (fun h1 => ?_)
  refine sx_aload_n d_X11_carry_5 0 rfl ?_
  refine sx_iload_n d_X11_carry_6 1 rfl ?_
  refine sx_callV [.int a0] mv_X11_isPerson lM_StairCountModel_346 sh_255 (by omega) rfl rfl (Nat.le_of_ble_eq_true rfl) d_X11_carry_7 (sp_X11_isPerson (d - 1) (by omega) a0 h1) (fun r3 h2 => ?_)
  refine sx_if_eq d_X11_carry_10 ?_ ?_
  · refine sx_iconst d_X11_carry_31 ic0 ?_
    exact sx_zret (by decide) rfl d_X11_carry_32
  · refine sx_aload_n d_X11_carry_13 0 rfl ?_
    refine sx_iload_n d_X11_carry_14 2 rfl ?_
    refine sx_callV [.int a1] mv_X11_isFloor lM_StairCountModel_444 sh_255 (by omega) rfl rfl (Nat.le_of_ble_eq_true rfl) d_X11_carry_15 (sp_X11_isFloor (d - 1) (by omega) a1 h2) (fun r5 h4 => ?_)
    refine sx_if_eq d_X11_carry_18 ?_ ?_
    · refine sx_iconst d_X11_carry_31 ic0 ?_
      exact sx_zret (by decide) rfl d_X11_carry_32
    · refine sx_aload_n d_X11_carry_21 0 rfl ?_
      refine sx_getF (a' := 278) fl_StairCountModel_81 sh_255 rfl rfl d_X11_carry_22 ?_
      refine sx_iload_n d_X11_carry_25 1 rfl ?_
      refine sx_iald sh_278 d_X11_carry_26 (fun v6 => ?_)
      refine sx_iload_n d_X11_carry_27 2 rfl ?_
      refine sx_icmp_ne d_X11_carry_28 ?_ ?_
      · refine sx_iconst d_X11_carry_31 ic0 ?_
        exact sx_zret (by decide) rfl d_X11_carry_32
      · refine sx_aload_n d_X11_carry_33 0 rfl ?_
        refine sx_callV [] mv_X11_keepNow lM_StairCountModel_460 sh_255 (by omega) rfl rfl (Nat.le_of_ble_eq_true rfl) d_X11_carry_34 (sp_X11_keepNow (d - 1) (by omega) h4) (fun _ h7 => ?_)
        refine sx_aload_n d_X11_carry_37 0 rfl ?_
        refine sx_getF (a' := 278) fl_StairCountModel_81 sh_255 rfl rfl d_X11_carry_38 ?_
        refine sx_iload_n d_X11_carry_41 1 rfl ?_
        refine sx_iload_n d_X11_carry_42 2 rfl ?_
        refine sx_iast sh_278 d_X11_carry_43 (fun h9 => ?_)
        refine sx_iconst d_X11_carry_44 ic1 ?_
        exact sx_zret (by decide) rfl d_X11_carry_45
theorem d_X11_right_0 : DC mi_X11_right 0 (.aload_n 0) 1 1 := ⟨by decide +kernel, rfl⟩
theorem d_X11_right_1 : DC mi_X11_right 1 (.iconst 0) 1 2 := ⟨by decide +kernel, rfl⟩
theorem d_X11_right_2 : DC mi_X11_right 2 (.putfield 148) 3 5 := ⟨by decide +kernel, rfl⟩
theorem d_X11_right_5 : DC mi_X11_right 5 (.aload_n 0) 1 6 := ⟨by decide +kernel, rfl⟩
theorem d_X11_right_6 : DC mi_X11_right 6 (.iload_n 1) 1 7 := ⟨by decide +kernel, rfl⟩
theorem d_X11_right_7 : DC mi_X11_right 7 (.iload_n 2) 1 8 := ⟨by decide +kernel, rfl⟩
theorem d_X11_right_8 : DC mi_X11_right 8 (.invokevirtual 437) 3 11 := ⟨by decide +kernel, rfl⟩
theorem d_X11_right_11 : DB mi_X11_right 11 (.ifCond .eq 13) 13 14 24 := ⟨by decide +kernel, rfl, by decide⟩
theorem d_X11_right_14 : DC mi_X11_right 14 (.aload_n 0) 1 15 := ⟨by decide +kernel, rfl⟩
theorem d_X11_right_15 : DC mi_X11_right 15 (.iconst 0) 1 16 := ⟨by decide +kernel, rfl⟩
theorem d_X11_right_16 : DC mi_X11_right 16 (.iload_n 1) 1 17 := ⟨by decide +kernel, rfl⟩
theorem d_X11_right_17 : DC mi_X11_right 17 (.iload_n 2) 1 18 := ⟨by decide +kernel, rfl⟩
theorem d_X11_right_18 : DC mi_X11_right 18 (.invokevirtual 355) 3 21 := ⟨by decide +kernel, rfl⟩
theorem d_X11_right_21 : DB mi_X11_right 21 (.ifCond .ne 7) 7 24 28 := ⟨by decide +kernel, rfl, by decide⟩
theorem d_X11_right_24 : DC mi_X11_right 24 (.ldc_w 440) 3 27 := ⟨by decide +kernel, rfl⟩
theorem d_X11_right_27 : DC mi_X11_right 27 (.ireturn) 1 28 := ⟨by decide +kernel, rfl⟩
theorem d_X11_right_28 : DC mi_X11_right 28 (.aload_n 0) 1 29 := ⟨by decide +kernel, rfl⟩
theorem d_X11_right_29 : DC mi_X11_right 29 (.invokevirtual 460) 3 32 := ⟨by decide +kernel, rfl⟩
theorem d_X11_right_32 : DC mi_X11_right 32 (.aload_n 0) 1 33 := ⟨by decide +kernel, rfl⟩
theorem d_X11_right_33 : DC mi_X11_right 33 (.iconst 0) 1 34 := ⟨by decide +kernel, rfl⟩
theorem d_X11_right_34 : DC mi_X11_right 34 (.iload_n 1) 1 35 := ⟨by decide +kernel, rfl⟩
theorem d_X11_right_35 : DC mi_X11_right 35 (.iload_n 2) 1 36 := ⟨by decide +kernel, rfl⟩
theorem d_X11_right_36 : DC mi_X11_right 36 (.invokevirtual 355) 3 39 := ⟨by decide +kernel, rfl⟩
theorem d_X11_right_39 : DC mi_X11_right 39 (.istore_n 3) 1 40 := ⟨by decide +kernel, rfl⟩
theorem d_X11_right_40 : DC mi_X11_right 40 (.aload_n 0) 1 41 := ⟨by decide +kernel, rfl⟩
theorem d_X11_right_41 : DC mi_X11_right 41 (.getfield 93) 3 44 := ⟨by decide +kernel, rfl⟩
theorem d_X11_right_44 : DC mi_X11_right 44 (.bipush 6) 2 46 := ⟨by decide +kernel, rfl⟩
theorem d_X11_right_46 : DC mi_X11_right 46 (.iload_n 1) 1 47 := ⟨by decide +kernel, rfl⟩
theorem d_X11_right_47 : DC mi_X11_right 47 (.imul) 1 48 := ⟨by decide +kernel, rfl⟩
theorem d_X11_right_48 : DC mi_X11_right 48 (.iload_n 2) 1 49 := ⟨by decide +kernel, rfl⟩
theorem d_X11_right_49 : DC mi_X11_right 49 (.iadd) 1 50 := ⟨by decide +kernel, rfl⟩
theorem d_X11_right_50 : DC mi_X11_right 50 (.iconst 0) 1 51 := ⟨by decide +kernel, rfl⟩
theorem d_X11_right_51 : DC mi_X11_right 51 (.iastore) 1 52 := ⟨by decide +kernel, rfl⟩
theorem d_X11_right_52 : DC mi_X11_right 52 (.iload_n 3) 1 53 := ⟨by decide +kernel, rfl⟩
theorem d_X11_right_53 : DC mi_X11_right 53 (.ireturn) 1 54 := ⟨by decide +kernel, rfl⟩
set_option maxHeartbeats 4000000 in
set_option maxRecDepth 100000 in
theorem sp_X11_right (d : Nat) (hd : 2 ≤ d) (a0 : Int32) (a1 : Int32) (h : HH) : Sp mi_X11_right d iI [.ref 255, .int a0, .int a1] h (g_X11_right a0 a1 h) := by
  refine sp_of (lc := [(0, .ref 255), (1, .int a0), (2, .int a1)]) (by decide) (Nat.le_of_ble_eq_true rfl) rfl ?_
  unfold g_X11_right
  refine sx_aload_n d_X11_right_0 0 rfl ?_
  refine sx_iconst d_X11_right_1 ic0 ?_
  refine sx_putI fl_StairCountModel_148 sh_255 rfl hty_11_0 d_X11_right_2 (fun h1 => ?_)
  refine sx_aload_n d_X11_right_5 0 rfl ?_
  refine sx_iload_n d_X11_right_6 1 rfl ?_
  refine sx_iload_n d_X11_right_7 2 rfl ?_
  refine sx_callV [.int a0, .int a1] mv_X11_areOf lM_StairCountModel_437 sh_255 (by omega) rfl rfl (Nat.le_of_ble_eq_true rfl) d_X11_right_8 (sp_X11_areOf (d - 1) (by omega) a0 a1 h1) (fun r3 h2 => ?_)
  refine sx_if_eq d_X11_right_11 ?_ ?_
  · refine sx_ldcw d_X11_right_24 lK_StairCountModel_440 ?_
    exact sx_iret rfl d_X11_right_27
  · refine sx_aload_n d_X11_right_14 0 rfl ?_
    refine sx_iconst d_X11_right_15 ic0 ?_
    refine sx_iload_n d_X11_right_16 1 rfl ?_
    refine sx_iload_n d_X11_right_17 2 rfl ?_
    refine sx_callV [.int (0 : Int32), .int a0, .int a1] mv_X11_tallyAt lM_StairCountModel_355 sh_255 (by omega) rfl rfl (Nat.le_of_ble_eq_true rfl) d_X11_right_18 (sp_X11_tallyAt (d - 1) (by omega) (0 : Int32) a0 a1 h2) (fun r5 h4 => ?_)
    refine sx_if_ne d_X11_right_21 ?_ ?_
    · refine sx_ldcw d_X11_right_24 lK_StairCountModel_440 ?_
      exact sx_iret rfl d_X11_right_27
    · refine sx_aload_n d_X11_right_28 0 rfl ?_
      refine sx_callV [] mv_X11_keepNow lM_StairCountModel_460 sh_255 (by omega) rfl rfl (Nat.le_of_ble_eq_true rfl) d_X11_right_29 (sp_X11_keepNow (d - 1) (by omega) h4) (fun _ h6 => ?_)
      refine sx_aload_n d_X11_right_32 0 rfl ?_
      refine sx_iconst d_X11_right_33 ic0 ?_
      refine sx_iload_n d_X11_right_34 1 rfl ?_
      refine sx_iload_n d_X11_right_35 2 rfl ?_
      refine sx_callV [.int (0 : Int32), .int a0, .int a1] mv_X11_tallyAt lM_StairCountModel_355 sh_255 (by omega) rfl rfl (Nat.le_of_ble_eq_true rfl) d_X11_right_36 (sp_X11_tallyAt (d - 1) (by omega) (0 : Int32) a0 a1 h6) (fun r9 h8 => ?_)
      refine sx_istore_n (i := 3) (lc' := [(3, .int r9), (0, .ref 255), (1, .int a0), (2, .int a1)]) d_X11_right_39 rfl (by decide) rfl ?_
      refine sx_aload_n d_X11_right_40 1 rfl ?_
      refine sx_getF (a' := 282) fl_StairCountModel_93 sh_255 rfl rfl d_X11_right_41 ?_
      refine sx_bipush d_X11_right_44 bc6 ?_
      refine sx_iload_n d_X11_right_46 2 rfl ?_
      refine sx_imul d_X11_right_47 ?_
      refine sx_iload_n d_X11_right_48 3 rfl ?_
      refine sx_iadd d_X11_right_49 ?_
      refine sx_iconst d_X11_right_50 ic0 ?_
      refine sx_iast sh_282 d_X11_right_51 (fun h10 => ?_)
      refine sx_iload_n d_X11_right_52 0 rfl ?_
      exact sx_iret rfl d_X11_right_53
theorem d_X11_go_0 : DC mi_X11_go 0 (.aload_n 0) 1 1 := ⟨by decide +kernel, rfl⟩
theorem d_X11_go_1 : DC mi_X11_go 1 (.iconst 0) 1 2 := ⟨by decide +kernel, rfl⟩
theorem d_X11_go_2 : DC mi_X11_go 2 (.putfield 148) 3 5 := ⟨by decide +kernel, rfl⟩
theorem d_X11_go_5 : DC mi_X11_go 5 (.iload_n 1) 1 6 := ⟨by decide +kernel, rfl⟩
theorem d_X11_go_6 : DB mi_X11_go 6 (.ifCond .lt 24) 24 9 30 := ⟨by decide +kernel, rfl, by decide⟩
theorem d_X11_go_9 : DC mi_X11_go 9 (.iload_n 1) 1 10 := ⟨by decide +kernel, rfl⟩
theorem d_X11_go_10 : DC mi_X11_go 10 (.sipush 200) 3 13 := ⟨by decide +kernel, rfl⟩
theorem d_X11_go_13 : DB mi_X11_go 13 (.if_icmp .gt 17) 17 16 30 := ⟨by decide +kernel, rfl, by decide⟩
theorem d_X11_go_16 : DC mi_X11_go 16 (.aload_n 0) 1 17 := ⟨by decide +kernel, rfl⟩
theorem d_X11_go_17 : DC mi_X11_go 17 (.getfield 75) 3 20 := ⟨by decide +kernel, rfl⟩
theorem d_X11_go_20 : DC mi_X11_go 20 (.iconst 0) 1 21 := ⟨by decide +kernel, rfl⟩
theorem d_X11_go_21 : DC mi_X11_go 21 (.iaload) 1 22 := ⟨by decide +kernel, rfl⟩
theorem d_X11_go_22 : DC mi_X11_go 22 (.iload_n 1) 1 23 := ⟨by decide +kernel, rfl⟩
theorem d_X11_go_23 : DC mi_X11_go 23 (.iadd) 1 24 := ⟨by decide +kernel, rfl⟩
theorem d_X11_go_24 : DC mi_X11_go 24 (.sipush 9800) 3 27 := ⟨by decide +kernel, rfl⟩
theorem d_X11_go_27 : DB mi_X11_go 27 (.if_icmp .le 5) 5 30 32 := ⟨by decide +kernel, rfl, by decide⟩
theorem d_X11_go_30 : DC mi_X11_go 30 (.iconst (-1)) 1 31 := ⟨by decide +kernel, rfl⟩
theorem d_X11_go_31 : DC mi_X11_go 31 (.ireturn) 1 32 := ⟨by decide +kernel, rfl⟩
theorem d_X11_go_32 : DC mi_X11_go 32 (.iload_n 1) 1 33 := ⟨by decide +kernel, rfl⟩
theorem d_X11_go_33 : DB mi_X11_go 33 (.ifCond .le 8) 8 36 41 := ⟨by decide +kernel, rfl, by decide⟩
theorem d_X11_go_36 : DC mi_X11_go 36 (.aload_n 0) 1 37 := ⟨by decide +kernel, rfl⟩
theorem d_X11_go_37 : DC mi_X11_go 37 (.iconst 0) 1 38 := ⟨by decide +kernel, rfl⟩
theorem d_X11_go_38 : DC mi_X11_go 38 (.putfield 317) 3 41 := ⟨by decide +kernel, rfl⟩
theorem d_X11_go_41 : DC mi_X11_go 41 (.iconst 0) 1 42 := ⟨by decide +kernel, rfl⟩
theorem d_X11_go_42 : DC mi_X11_go 42 (.istore_n 2) 1 43 := ⟨by decide +kernel, rfl⟩
theorem d_X11_go_43 : DC mi_X11_go 43 (.iload_n 2) 1 44 := ⟨by decide +kernel, rfl⟩
theorem d_X11_go_44 : DC mi_X11_go 44 (.iload_n 1) 1 45 := ⟨by decide +kernel, rfl⟩
theorem d_X11_go_45 : DB mi_X11_go 45 (.if_icmp .ge 15) 15 48 60 := ⟨by decide +kernel, rfl, by decide⟩
theorem d_X11_go_48 : DC mi_X11_go 48 (.aload_n 0) 1 49 := ⟨by decide +kernel, rfl⟩
theorem d_X11_go_49 : DC mi_X11_go 49 (.iconst 0) 1 50 := ⟨by decide +kernel, rfl⟩
theorem d_X11_go_50 : DC mi_X11_go 50 (.iconst 1) 1 51 := ⟨by decide +kernel, rfl⟩
theorem d_X11_go_51 : DC mi_X11_go 51 (.invokevirtual 433) 3 54 := ⟨by decide +kernel, rfl⟩
theorem d_X11_go_54 : DC mi_X11_go 54 (.iinc 2 1) 3 57 := ⟨by decide +kernel, rfl⟩
theorem d_X11_go_57 : DB mi_X11_go 57 (.goto (-14)) (-14) 60 43 := ⟨by decide +kernel, rfl, by decide⟩
theorem d_X11_go_60 : DC mi_X11_go 60 (.aload_n 0) 1 61 := ⟨by decide +kernel, rfl⟩
theorem d_X11_go_61 : DC mi_X11_go 61 (.getfield 75) 3 64 := ⟨by decide +kernel, rfl⟩
theorem d_X11_go_64 : DC mi_X11_go 64 (.iconst 0) 1 65 := ⟨by decide +kernel, rfl⟩
theorem d_X11_go_65 : DC mi_X11_go 65 (.iaload) 1 66 := ⟨by decide +kernel, rfl⟩
theorem d_X11_go_66 : DC mi_X11_go 66 (.ireturn) 1 67 := ⟨by decide +kernel, rfl⟩
set_option maxHeartbeats 4000000 in
set_option maxRecDepth 100000 in
theorem sL_X11_go_43 (d : Nat) (hd : 11 ≤ d) (K60 : HH → Option (Int32 × HH)) (c1 : Int32) (hK60 : ∀ (h : HH), Sx mi_X11_go d iI (K60 h) 60 [(0, .ref 255)] [] h) : ∀ (n : Nat) (x2 : Int32) (h : HH), Sx mi_X11_go d iI (g_X11_go_L43 K60 c1 n x2 h) 43 [(0, .ref 255), (1, .int c1), (2, .int x2)] [] h := by
  intro n
  induction n with
  | zero => intro x2 h; exact sx_none
  | succ n ih =>
    intro x2 h
    rw [g_X11_go_L43]
    refine sx_iload_n d_X11_go_43 2 rfl ?_
    refine sx_iload_n d_X11_go_44 1 rfl ?_
    refine sx_icmp_ge d_X11_go_45 ?_ ?_
    · refine sx_aload_n d_X11_go_48 0 rfl ?_
      refine sx_iconst d_X11_go_49 ic0 ?_
      refine sx_iconst d_X11_go_50 ic1 ?_
      refine sx_callV [.int (0 : Int32), .int (1 : Int32)] mv_X11_passes lM_StairCountModel_433 sh_255 (by omega) rfl rfl (Nat.le_of_ble_eq_true rfl) d_X11_go_51 (sp_X11_passes (d - 1) (by omega) (0 : Int32) (1 : Int32) h) (fun _ h6 => ?_)
      refine sx_iincV (lc' := fun v8 => [(2, .int v8), (0, .ref 255), (1, .int c1)]) (k0 := 2) d_X11_go_54 rfl ii1 (by decide) (fun _ => rfl) (fun v8 => ?_)
      refine sx_goto d_X11_go_57 ?_
      refine sx_lc (lc' := [(0, .ref 255), (1, .int c1), (2, .int v8)]) [1, 2, 0] rfl ?_
      exact ih v8 h6
    · refine sx_lc (lc' := [(0, .ref 255)]) [0] rfl ?_
      exact hK60 h
set_option maxHeartbeats 4000000 in
set_option maxRecDepth 100000 in
theorem sp_X11_go (d : Nat) (hd : 11 ≤ d) (a0 : Int32) (h : HH) : Sp mi_X11_go d iI [.ref 255, .int a0] h (g_X11_go a0 h) := by
  refine sp_of (lc := [(0, .ref 255), (1, .int a0)]) (by decide) (Nat.le_of_ble_eq_true rfl) rfl ?_
  unfold g_X11_go
  refine sx_aload_n d_X11_go_0 0 rfl ?_
  refine sx_iconst d_X11_go_1 ic0 ?_
  refine sx_putI fl_StairCountModel_148 sh_255 rfl hty_11_0 d_X11_go_2 (fun h1 => ?_)
  refine sx_iload_n d_X11_go_5 1 rfl ?_
  refine sx_if_lt d_X11_go_6 ?_ ?_
  · refine sx_iconst d_X11_go_30 icm1 ?_
    exact sx_iret rfl d_X11_go_31
  · refine sx_iload_n d_X11_go_9 1 rfl ?_
    refine sx_sipush d_X11_go_10 sc200 ?_
    refine sx_icmp_gt d_X11_go_13 ?_ ?_
    · refine sx_iconst d_X11_go_30 icm1 ?_
      exact sx_iret rfl d_X11_go_31
    · refine sx_aload_n d_X11_go_16 0 rfl ?_
      refine sx_getF (a' := 276) fl_StairCountModel_75 sh_255 rfl rfl d_X11_go_17 ?_
      refine sx_iconst d_X11_go_20 ic0 ?_
      refine sx_iald sh_276 d_X11_go_21 (fun v2 => ?_)
      refine sx_iload_n d_X11_go_22 1 rfl ?_
      refine sx_iadd d_X11_go_23 ?_
      refine sx_sipush d_X11_go_24 sc9800 ?_
      refine sx_icmp_le d_X11_go_27 ?_ ?_
      · refine sx_iconst d_X11_go_30 icm1 ?_
        exact sx_iret rfl d_X11_go_31
      · refine sx_iload_n d_X11_go_32 1 rfl ?_
        refine sx_jn (fun j => ∀  (h : HH), Sx mi_X11_go d iI (j  h) 41 [(0, .ref 255), (1, .int a0)] [] h) ?_ ?_
        · intro  h5
          refine sx_iconst d_X11_go_41 ic0 ?_
          refine sx_istore_n (i := 2) (lc' := [(2, .int (0 : Int32)), (0, .ref 255), (1, .int a0)]) d_X11_go_42 rfl (by decide) rfl ?_
          refine sx_lc (lc' := [(0, .ref 255), (1, .int a0), (2, .int (0 : Int32))]) [1, 2, 0] rfl ?_
          refine sL_X11_go_43 d hd _ a0 ?_ 1024 (0 : Int32) h5
          · intro h9
            refine sx_aload_n d_X11_go_60 0 rfl ?_
            refine sx_getF (a' := 276) fl_StairCountModel_75 sh_255 rfl rfl d_X11_go_61 ?_
            refine sx_iconst d_X11_go_64 ic0 ?_
            refine sx_iald sh_276 d_X11_go_65 (fun v10 => ?_)
            exact sx_iret rfl d_X11_go_66
        · intro j3 k4
          refine sx_if_le d_X11_go_33 ?_ ?_
          · refine sx_aload_n d_X11_go_36 0 rfl ?_
            refine sx_iconst d_X11_go_37 ic0 ?_
            refine sx_putI fl_StairCountModel_317 sh_255 rfl hty_11_44 d_X11_go_38 (fun h11 => ?_)
            exact k4 h11
          · exact k4 h1
theorem d_X11_ahead_0 : DC mi_X11_ahead 0 (.aload_n 0) 1 1 := ⟨by decide +kernel, rfl⟩
theorem d_X11_ahead_1 : DC mi_X11_ahead 1 (.iconst 0) 1 2 := ⟨by decide +kernel, rfl⟩
theorem d_X11_ahead_2 : DC mi_X11_ahead 2 (.putfield 148) 3 5 := ⟨by decide +kernel, rfl⟩
theorem d_X11_ahead_5 : DC mi_X11_ahead 5 (.iload_n 1) 1 6 := ⟨by decide +kernel, rfl⟩
theorem d_X11_ahead_6 : DB mi_X11_ahead 6 (.ifCond .lt 32) 32 9 38 := ⟨by decide +kernel, rfl, by decide⟩
theorem d_X11_ahead_9 : DC mi_X11_ahead 9 (.iload_n 1) 1 10 := ⟨by decide +kernel, rfl⟩
theorem d_X11_ahead_10 : DC mi_X11_ahead 10 (.sipush 200) 3 13 := ⟨by decide +kernel, rfl⟩
theorem d_X11_ahead_13 : DB mi_X11_ahead 13 (.if_icmp .gt 25) 25 16 38 := ⟨by decide +kernel, rfl, by decide⟩
theorem d_X11_ahead_16 : DC mi_X11_ahead 16 (.iload_n 2) 1 17 := ⟨by decide +kernel, rfl⟩
theorem d_X11_ahead_17 : DB mi_X11_ahead 17 (.ifCond .lt 21) 21 20 38 := ⟨by decide +kernel, rfl, by decide⟩
theorem d_X11_ahead_20 : DC mi_X11_ahead 20 (.iload_n 2) 1 21 := ⟨by decide +kernel, rfl⟩
theorem d_X11_ahead_21 : DC mi_X11_ahead 21 (.iconst 4) 1 22 := ⟨by decide +kernel, rfl⟩
theorem d_X11_ahead_22 : DB mi_X11_ahead 22 (.if_icmp .gt 16) 16 25 38 := ⟨by decide +kernel, rfl, by decide⟩
theorem d_X11_ahead_25 : DC mi_X11_ahead 25 (.iload_n 2) 1 26 := ⟨by decide +kernel, rfl⟩
theorem d_X11_ahead_26 : DC mi_X11_ahead 26 (.iconst 2) 1 27 := ⟨by decide +kernel, rfl⟩
theorem d_X11_ahead_27 : DB mi_X11_ahead 27 (.if_icmp .ge 13) 13 30 40 := ⟨by decide +kernel, rfl, by decide⟩
theorem d_X11_ahead_30 : DC mi_X11_ahead 30 (.aload_n 0) 1 31 := ⟨by decide +kernel, rfl⟩
theorem d_X11_ahead_31 : DC mi_X11_ahead 31 (.iload_n 3) 1 32 := ⟨by decide +kernel, rfl⟩
theorem d_X11_ahead_32 : DC mi_X11_ahead 32 (.invokevirtual 346) 3 35 := ⟨by decide +kernel, rfl⟩
theorem d_X11_ahead_35 : DB mi_X11_ahead 35 (.ifCond .ne 5) 5 38 40 := ⟨by decide +kernel, rfl, by decide⟩
theorem d_X11_ahead_38 : DC mi_X11_ahead 38 (.iconst (-1)) 1 39 := ⟨by decide +kernel, rfl⟩
theorem d_X11_ahead_39 : DC mi_X11_ahead 39 (.ireturn) 1 40 := ⟨by decide +kernel, rfl⟩
theorem d_X11_ahead_40 : DC mi_X11_ahead 40 (.aload_n 0) 1 41 := ⟨by decide +kernel, rfl⟩
theorem d_X11_ahead_41 : DC mi_X11_ahead 41 (.iconst 1) 1 42 := ⟨by decide +kernel, rfl⟩
theorem d_X11_ahead_42 : DC mi_X11_ahead 42 (.iconst 0) 1 43 := ⟨by decide +kernel, rfl⟩
theorem d_X11_ahead_43 : DC mi_X11_ahead 43 (.invokevirtual 457) 3 46 := ⟨by decide +kernel, rfl⟩
theorem d_X11_ahead_46 : DC mi_X11_ahead 46 (.aload_n 0) 1 47 := ⟨by decide +kernel, rfl⟩
theorem d_X11_ahead_47 : DC mi_X11_ahead 47 (.iload_n 1) 1 48 := ⟨by decide +kernel, rfl⟩
theorem d_X11_ahead_48 : DC mi_X11_ahead 48 (.invokevirtual 463) 3 51 := ⟨by decide +kernel, rfl⟩
theorem d_X11_ahead_51 : DC mi_X11_ahead 51 (.iload_n 2) 1 52 := ⟨by decide +kernel, rfl⟩
theorem d_X11_ahead_52 : DW mi_X11_ahead 52 (.tableswitch 92 0 3 #[32, 42, 52, 72]) := ⟨32, by decide +kernel⟩
theorem d_X11_ahead_84 : DC mi_X11_ahead 84 (.aload_n 0) 1 85 := ⟨by decide +kernel, rfl⟩
theorem d_X11_ahead_85 : DC mi_X11_ahead 85 (.getfield 81) 3 88 := ⟨by decide +kernel, rfl⟩
theorem d_X11_ahead_88 : DC mi_X11_ahead 88 (.bipush 6) 2 90 := ⟨by decide +kernel, rfl⟩
theorem d_X11_ahead_90 : DC mi_X11_ahead 90 (.iload_n 3) 1 91 := ⟨by decide +kernel, rfl⟩
theorem d_X11_ahead_91 : DC mi_X11_ahead 91 (.iadd) 1 92 := ⟨by decide +kernel, rfl⟩
theorem d_X11_ahead_92 : DC mi_X11_ahead 92 (.iaload) 1 93 := ⟨by decide +kernel, rfl⟩
theorem d_X11_ahead_93 : DC mi_X11_ahead 93 (.ireturn) 1 94 := ⟨by decide +kernel, rfl⟩
theorem d_X11_ahead_94 : DC mi_X11_ahead 94 (.aload_n 0) 1 95 := ⟨by decide +kernel, rfl⟩
theorem d_X11_ahead_95 : DC mi_X11_ahead 95 (.getfield 84) 3 98 := ⟨by decide +kernel, rfl⟩
theorem d_X11_ahead_98 : DC mi_X11_ahead 98 (.bipush 6) 2 100 := ⟨by decide +kernel, rfl⟩
theorem d_X11_ahead_100 : DC mi_X11_ahead 100 (.iload_n 3) 1 101 := ⟨by decide +kernel, rfl⟩
theorem d_X11_ahead_101 : DC mi_X11_ahead 101 (.iadd) 1 102 := ⟨by decide +kernel, rfl⟩
theorem d_X11_ahead_102 : DC mi_X11_ahead 102 (.iaload) 1 103 := ⟨by decide +kernel, rfl⟩
theorem d_X11_ahead_103 : DC mi_X11_ahead 103 (.ireturn) 1 104 := ⟨by decide +kernel, rfl⟩
theorem d_X11_ahead_104 : DC mi_X11_ahead 104 (.aload_n 0) 1 105 := ⟨by decide +kernel, rfl⟩
theorem d_X11_ahead_105 : DC mi_X11_ahead 105 (.aload_n 0) 1 106 := ⟨by decide +kernel, rfl⟩
theorem d_X11_ahead_106 : DC mi_X11_ahead 106 (.getfield 87) 3 109 := ⟨by decide +kernel, rfl⟩
theorem d_X11_ahead_109 : DC mi_X11_ahead 109 (.iconst 1) 1 110 := ⟨by decide +kernel, rfl⟩
theorem d_X11_ahead_110 : DC mi_X11_ahead 110 (.invokevirtual 466) 3 113 := ⟨by decide +kernel, rfl⟩
theorem d_X11_ahead_113 : DC mi_X11_ahead 113 (.aload_n 0) 1 114 := ⟨by decide +kernel, rfl⟩
theorem d_X11_ahead_114 : DC mi_X11_ahead 114 (.aload_n 0) 1 115 := ⟨by decide +kernel, rfl⟩
theorem d_X11_ahead_115 : DC mi_X11_ahead 115 (.getfield 87) 3 118 := ⟨by decide +kernel, rfl⟩
theorem d_X11_ahead_118 : DC mi_X11_ahead 118 (.iconst 0) 1 119 := ⟨by decide +kernel, rfl⟩
theorem d_X11_ahead_119 : DC mi_X11_ahead 119 (.invokevirtual 466) 3 122 := ⟨by decide +kernel, rfl⟩
theorem d_X11_ahead_122 : DC mi_X11_ahead 122 (.isub) 1 123 := ⟨by decide +kernel, rfl⟩
theorem d_X11_ahead_123 : DC mi_X11_ahead 123 (.ireturn) 1 124 := ⟨by decide +kernel, rfl⟩
theorem d_X11_ahead_124 : DC mi_X11_ahead 124 (.aload_n 0) 1 125 := ⟨by decide +kernel, rfl⟩
theorem d_X11_ahead_125 : DC mi_X11_ahead 125 (.aload_n 0) 1 126 := ⟨by decide +kernel, rfl⟩
theorem d_X11_ahead_126 : DC mi_X11_ahead 126 (.getfield 90) 3 129 := ⟨by decide +kernel, rfl⟩
theorem d_X11_ahead_129 : DC mi_X11_ahead 129 (.iconst 1) 1 130 := ⟨by decide +kernel, rfl⟩
theorem d_X11_ahead_130 : DC mi_X11_ahead 130 (.invokevirtual 466) 3 133 := ⟨by decide +kernel, rfl⟩
theorem d_X11_ahead_133 : DC mi_X11_ahead 133 (.aload_n 0) 1 134 := ⟨by decide +kernel, rfl⟩
theorem d_X11_ahead_134 : DC mi_X11_ahead 134 (.aload_n 0) 1 135 := ⟨by decide +kernel, rfl⟩
theorem d_X11_ahead_135 : DC mi_X11_ahead 135 (.getfield 90) 3 138 := ⟨by decide +kernel, rfl⟩
theorem d_X11_ahead_138 : DC mi_X11_ahead 138 (.iconst 0) 1 139 := ⟨by decide +kernel, rfl⟩
theorem d_X11_ahead_139 : DC mi_X11_ahead 139 (.invokevirtual 466) 3 142 := ⟨by decide +kernel, rfl⟩
theorem d_X11_ahead_142 : DC mi_X11_ahead 142 (.isub) 1 143 := ⟨by decide +kernel, rfl⟩
theorem d_X11_ahead_143 : DC mi_X11_ahead 143 (.ireturn) 1 144 := ⟨by decide +kernel, rfl⟩
theorem d_X11_ahead_144 : DC mi_X11_ahead 144 (.aload_n 0) 1 145 := ⟨by decide +kernel, rfl⟩
theorem d_X11_ahead_145 : DC mi_X11_ahead 145 (.iconst 1) 1 146 := ⟨by decide +kernel, rfl⟩
theorem d_X11_ahead_146 : DC mi_X11_ahead 146 (.invokevirtual 470) 3 149 := ⟨by decide +kernel, rfl⟩
theorem d_X11_ahead_149 : DC mi_X11_ahead 149 (.ireturn) 1 150 := ⟨by decide +kernel, rfl⟩
set_option maxHeartbeats 4000000 in
set_option maxRecDepth 100000 in
theorem sp_X11_ahead (d : Nat) (hd : 12 ≤ d) (a0 : Int32) (a1 : Int32) (a2 : Int32) (h : HH) : Sp mi_X11_ahead d iI [.ref 255, .int a0, .int a1, .int a2] h (g_X11_ahead a0 a1 a2 h) := by
  refine sp_of (lc := [(0, .ref 255), (1, .int a0), (2, .int a1), (3, .int a2)]) (by decide) (Nat.le_of_ble_eq_true rfl) rfl ?_
  unfold g_X11_ahead
  refine sx_aload_n d_X11_ahead_0 0 rfl ?_
  refine sx_iconst d_X11_ahead_1 ic0 ?_
  refine sx_putI fl_StairCountModel_148 sh_255 rfl hty_11_0 d_X11_ahead_2 (fun h1 => ?_)
  refine sx_iload_n d_X11_ahead_5 1 rfl ?_
  refine sx_if_lt d_X11_ahead_6 ?_ ?_
  · refine sx_iconst d_X11_ahead_38 icm1 ?_
    exact sx_iret rfl d_X11_ahead_39
  · refine sx_iload_n d_X11_ahead_9 1 rfl ?_
    refine sx_sipush d_X11_ahead_10 sc200 ?_
    refine sx_icmp_gt d_X11_ahead_13 ?_ ?_
    · refine sx_iconst d_X11_ahead_38 icm1 ?_
      exact sx_iret rfl d_X11_ahead_39
    · refine sx_iload_n d_X11_ahead_16 2 rfl ?_
      refine sx_if_lt d_X11_ahead_17 ?_ ?_
      · refine sx_iconst d_X11_ahead_38 icm1 ?_
        exact sx_iret rfl d_X11_ahead_39
      · refine sx_iload_n d_X11_ahead_20 2 rfl ?_
        refine sx_iconst d_X11_ahead_21 ic4 ?_
        refine sx_icmp_gt d_X11_ahead_22 ?_ ?_
        · refine sx_iconst d_X11_ahead_38 icm1 ?_
          exact sx_iret rfl d_X11_ahead_39
        · refine sx_iload_n d_X11_ahead_25 2 rfl ?_
          refine sx_iconst d_X11_ahead_26 ic2 ?_
          refine sx_jn (fun j => ∀  (h : HH), Sx mi_X11_ahead d iI (j  h) 40 [(0, .ref 255), (1, .int a0), (2, .int a1), (3, .int a2)] [] h) ?_ ?_
          · intro  h4
            refine sx_aload_n d_X11_ahead_40 0 rfl ?_
            refine sx_iconst d_X11_ahead_41 ic1 ?_
            refine sx_iconst d_X11_ahead_42 ic0 ?_
            refine sx_callV [.int (1 : Int32), .int (0 : Int32)] mv_X11_copies lM_StairCountModel_457 sh_255 (by omega) rfl rfl (Nat.le_of_ble_eq_true rfl) d_X11_ahead_43 (sp_X11_copies (d - 1) (by omega) (1 : Int32) (0 : Int32) h4) (fun _ h5 => ?_)
            refine sx_aload_n d_X11_ahead_46 0 rfl ?_
            refine sx_iload_n d_X11_ahead_47 1 rfl ?_
            refine sx_callV [.int a0] mv_X11_goesOn lM_StairCountModel_463 sh_255 (by omega) rfl rfl (Nat.le_of_ble_eq_true rfl) d_X11_ahead_48 (sp_X11_goesOn (d - 1) (by omega) a0 h5) (fun _ h7 => ?_)
            refine sx_iload_n d_X11_ahead_51 2 rfl ?_
            refine sx_if (fun e9 => ?_) (fun e9 => ?_)
            · refine sx_tsIn (off := 32) (t := 84) d_X11_ahead_52 (by rw [e9] <;> decide) (by rw [e9] <;> decide) (by rw [e9] <;> decide) (by decide) ?_
              refine sx_aload_n d_X11_ahead_84 0 rfl ?_
              refine sx_getF (a' := 278) fl_StairCountModel_81 sh_255 rfl rfl d_X11_ahead_85 ?_
              refine sx_bipush d_X11_ahead_88 bc6 ?_
              refine sx_iload_n d_X11_ahead_90 3 rfl ?_
              refine sx_iadd d_X11_ahead_91 ?_
              refine sx_iald sh_278 d_X11_ahead_92 (fun v10 => ?_)
              exact sx_iret rfl d_X11_ahead_93
            · refine sx_if (fun e11 => ?_) (fun e11 => ?_)
              · refine sx_tsIn (off := 42) (t := 94) d_X11_ahead_52 (by rw [e11] <;> decide) (by rw [e11] <;> decide) (by rw [e11] <;> decide) (by decide) ?_
                refine sx_aload_n d_X11_ahead_94 0 rfl ?_
                refine sx_getF (a' := 279) fl_StairCountModel_84 sh_255 rfl rfl d_X11_ahead_95 ?_
                refine sx_bipush d_X11_ahead_98 bc6 ?_
                refine sx_iload_n d_X11_ahead_100 3 rfl ?_
                refine sx_iadd d_X11_ahead_101 ?_
                refine sx_iald sh_279 d_X11_ahead_102 (fun v12 => ?_)
                exact sx_iret rfl d_X11_ahead_103
              · refine sx_if (fun e13 => ?_) (fun e13 => ?_)
                · refine sx_tsIn (off := 52) (t := 104) d_X11_ahead_52 (by rw [e13] <;> decide) (by rw [e13] <;> decide) (by rw [e13] <;> decide) (by decide) ?_
                  refine sx_aload_n d_X11_ahead_104 0 rfl ?_
                  refine sx_aload_n d_X11_ahead_105 0 rfl ?_
                  refine sx_getF (a' := 280) fl_StairCountModel_87 sh_255 rfl rfl d_X11_ahead_106 ?_
                  refine sx_iconst d_X11_ahead_109 ic1 ?_
                  refine sx_callV [.ref 280, .int (1 : Int32)] mv_X11_sumOf lM_StairCountModel_466 sh_255 (by omega) rfl rfl (Nat.le_of_ble_eq_true rfl) d_X11_ahead_110 (sp_X11_sumOf (d - 1) (by omega) 280 (1 : Int32) h7) (fun r15 h14 => ?_)
                  refine sx_aload_n d_X11_ahead_113 0 rfl ?_
                  refine sx_aload_n d_X11_ahead_114 0 rfl ?_
                  refine sx_getF (a' := 280) fl_StairCountModel_87 sh_255 rfl rfl d_X11_ahead_115 ?_
                  refine sx_iconst d_X11_ahead_118 ic0 ?_
                  refine sx_callV [.ref 280, .int (0 : Int32)] mv_X11_sumOf lM_StairCountModel_466 sh_255 (by omega) rfl rfl (Nat.le_of_ble_eq_true rfl) d_X11_ahead_119 (sp_X11_sumOf (d - 1) (by omega) 280 (0 : Int32) h14) (fun r17 h16 => ?_)
                  refine sx_isub d_X11_ahead_122 ?_
                  exact sx_iret rfl d_X11_ahead_123
                · refine sx_if (fun e18 => ?_) (fun e18 => ?_)
                  · refine sx_tsIn (off := 72) (t := 124) d_X11_ahead_52 (by rw [e18] <;> decide) (by rw [e18] <;> decide) (by rw [e18] <;> decide) (by decide) ?_
                    refine sx_aload_n d_X11_ahead_124 0 rfl ?_
                    refine sx_aload_n d_X11_ahead_125 0 rfl ?_
                    refine sx_getF (a' := 281) fl_StairCountModel_90 sh_255 rfl rfl d_X11_ahead_126 ?_
                    refine sx_iconst d_X11_ahead_129 ic1 ?_
                    refine sx_callV [.ref 281, .int (1 : Int32)] mv_X11_sumOf lM_StairCountModel_466 sh_255 (by omega) rfl rfl (Nat.le_of_ble_eq_true rfl) d_X11_ahead_130 (sp_X11_sumOf (d - 1) (by omega) 281 (1 : Int32) h7) (fun r20 h19 => ?_)
                    refine sx_aload_n d_X11_ahead_133 0 rfl ?_
                    refine sx_aload_n d_X11_ahead_134 0 rfl ?_
                    refine sx_getF (a' := 281) fl_StairCountModel_90 sh_255 rfl rfl d_X11_ahead_135 ?_
                    refine sx_iconst d_X11_ahead_138 ic0 ?_
                    refine sx_callV [.ref 281, .int (0 : Int32)] mv_X11_sumOf lM_StairCountModel_466 sh_255 (by omega) rfl rfl (Nat.le_of_ble_eq_true rfl) d_X11_ahead_139 (sp_X11_sumOf (d - 1) (by omega) 281 (0 : Int32) h19) (fun r22 h21 => ?_)
                    refine sx_isub d_X11_ahead_142 ?_
                    exact sx_iret rfl d_X11_ahead_143
                  · have q0 := ne_toInt (x := a1) (c := (0 : Int32)) (k := 0) e9 ti0
                    have q1 := ne_toInt (x := a1) (c := (1 : Int32)) (k := 1) e11 ti1
                    have q2 := ne_toInt (x := a1) (c := (2 : Int32)) (k := 2) e13 ti2
                    have q3 := ne_toInt (x := a1) (c := (3 : Int32)) (k := 3) e18 ti3
                    refine sx_tsOut (t := 144) d_X11_ahead_52 (by omega) (by decide) ?_
                    refine sx_aload_n d_X11_ahead_144 0 rfl ?_
                    refine sx_iconst d_X11_ahead_145 ic1 ?_
                    refine sx_callV [.int (1 : Int32)] mv_X11_entries lM_StairCountModel_470 sh_255 (by omega) rfl rfl (Nat.le_of_ble_eq_true rfl) d_X11_ahead_146 (sp_X11_entries (d - 1) (by omega) (1 : Int32) h7) (fun r24 h23 => ?_)
                    exact sx_iret rfl d_X11_ahead_149
          · intro j2 k3
            refine sx_icmp_ge d_X11_ahead_27 ?_ ?_
            · refine sx_aload_n d_X11_ahead_30 0 rfl ?_
              refine sx_iload_n d_X11_ahead_31 3 rfl ?_
              refine sx_callV [.int a2] mv_X11_isPerson lM_StairCountModel_346 sh_255 (by omega) rfl rfl (Nat.le_of_ble_eq_true rfl) d_X11_ahead_32 (sp_X11_isPerson (d - 1) (by omega) a2 h1) (fun r26 h25 => ?_)
              refine sx_if_ne d_X11_ahead_35 ?_ ?_
              · refine sx_iconst d_X11_ahead_38 icm1 ?_
                exact sx_iret rfl d_X11_ahead_39
              · exact k3 h25
            · exact k3 h1
theorem d_X11_there_0 : DC mi_X11_there 0 (.aload_n 0) 1 1 := ⟨by decide +kernel, rfl⟩
theorem d_X11_there_1 : DC mi_X11_there 1 (.iconst 0) 1 2 := ⟨by decide +kernel, rfl⟩
theorem d_X11_there_2 : DC mi_X11_there 2 (.putfield 148) 3 5 := ⟨by decide +kernel, rfl⟩
theorem d_X11_there_5 : DC mi_X11_there 5 (.aload_n 0) 1 6 := ⟨by decide +kernel, rfl⟩
theorem d_X11_there_6 : DC mi_X11_there 6 (.iload_n 1) 1 7 := ⟨by decide +kernel, rfl⟩
theorem d_X11_there_7 : DC mi_X11_there 7 (.invokevirtual 346) 3 10 := ⟨by decide +kernel, rfl⟩
theorem d_X11_there_10 : DB mi_X11_there 10 (.ifCond .eq 11) 11 13 21 := ⟨by decide +kernel, rfl, by decide⟩
theorem d_X11_there_13 : DC mi_X11_there 13 (.aload_n 0) 1 14 := ⟨by decide +kernel, rfl⟩
theorem d_X11_there_14 : DC mi_X11_there 14 (.iload_n 2) 1 15 := ⟨by decide +kernel, rfl⟩
theorem d_X11_there_15 : DC mi_X11_there 15 (.invokevirtual 444) 3 18 := ⟨by decide +kernel, rfl⟩
theorem d_X11_there_18 : DB mi_X11_there 18 (.ifCond .ne 5) 5 21 23 := ⟨by decide +kernel, rfl, by decide⟩
theorem d_X11_there_21 : DC mi_X11_there 21 (.iconst (-1)) 1 22 := ⟨by decide +kernel, rfl⟩
theorem d_X11_there_22 : DC mi_X11_there 22 (.ireturn) 1 23 := ⟨by decide +kernel, rfl⟩
theorem d_X11_there_23 : DC mi_X11_there 23 (.aload_n 0) 1 24 := ⟨by decide +kernel, rfl⟩
theorem d_X11_there_24 : DC mi_X11_there 24 (.iconst 1) 1 25 := ⟨by decide +kernel, rfl⟩
theorem d_X11_there_25 : DC mi_X11_there 25 (.iconst 0) 1 26 := ⟨by decide +kernel, rfl⟩
theorem d_X11_there_26 : DC mi_X11_there 26 (.invokevirtual 457) 3 29 := ⟨by decide +kernel, rfl⟩
theorem d_X11_there_29 : DC mi_X11_there 29 (.iconst 0) 1 30 := ⟨by decide +kernel, rfl⟩
theorem d_X11_there_30 : DC mi_X11_there 30 (.istore_n 3) 1 31 := ⟨by decide +kernel, rfl⟩
theorem d_X11_there_31 : DC mi_X11_there 31 (.iload_n 3) 1 32 := ⟨by decide +kernel, rfl⟩
theorem d_X11_there_32 : DC mi_X11_there 32 (.sipush 199) 3 35 := ⟨by decide +kernel, rfl⟩
theorem d_X11_there_35 : DB mi_X11_there 35 (.if_icmp .gt 30) 30 38 65 := ⟨by decide +kernel, rfl, by decide⟩
theorem d_X11_there_38 : DC mi_X11_there 38 (.aload_n 0) 1 39 := ⟨by decide +kernel, rfl⟩
theorem d_X11_there_39 : DC mi_X11_there 39 (.getfield 81) 3 42 := ⟨by decide +kernel, rfl⟩
theorem d_X11_there_42 : DC mi_X11_there 42 (.bipush 6) 2 44 := ⟨by decide +kernel, rfl⟩
theorem d_X11_there_44 : DC mi_X11_there 44 (.iload_n 1) 1 45 := ⟨by decide +kernel, rfl⟩
theorem d_X11_there_45 : DC mi_X11_there 45 (.iadd) 1 46 := ⟨by decide +kernel, rfl⟩
theorem d_X11_there_46 : DC mi_X11_there 46 (.iaload) 1 47 := ⟨by decide +kernel, rfl⟩
theorem d_X11_there_47 : DC mi_X11_there 47 (.iload_n 2) 1 48 := ⟨by decide +kernel, rfl⟩
theorem d_X11_there_48 : DB mi_X11_there 48 (.if_icmp .ne 5) 5 51 53 := ⟨by decide +kernel, rfl, by decide⟩
theorem d_X11_there_51 : DC mi_X11_there 51 (.iload_n 3) 1 52 := ⟨by decide +kernel, rfl⟩
theorem d_X11_there_52 : DC mi_X11_there 52 (.ireturn) 1 53 := ⟨by decide +kernel, rfl⟩
theorem d_X11_there_53 : DC mi_X11_there 53 (.aload_n 0) 1 54 := ⟨by decide +kernel, rfl⟩
theorem d_X11_there_54 : DC mi_X11_there 54 (.iconst 1) 1 55 := ⟨by decide +kernel, rfl⟩
theorem d_X11_there_55 : DC mi_X11_there 55 (.iconst 0) 1 56 := ⟨by decide +kernel, rfl⟩
theorem d_X11_there_56 : DC mi_X11_there 56 (.invokevirtual 433) 3 59 := ⟨by decide +kernel, rfl⟩
theorem d_X11_there_59 : DC mi_X11_there 59 (.iinc 3 1) 3 62 := ⟨by decide +kernel, rfl⟩
theorem d_X11_there_62 : DB mi_X11_there 62 (.goto (-31)) (-31) 65 31 := ⟨by decide +kernel, rfl, by decide⟩
theorem d_X11_there_65 : DC mi_X11_there 65 (.bipush (-2)) 2 67 := ⟨by decide +kernel, rfl⟩
theorem d_X11_there_67 : DC mi_X11_there 67 (.ireturn) 1 68 := ⟨by decide +kernel, rfl⟩
set_option maxHeartbeats 4000000 in
set_option maxRecDepth 100000 in
theorem sL_X11_there_31 (d : Nat) (hd : 11 ≤ d) (c1 : Int32) (c2 : Int32) : ∀ (n : Nat) (x3 : Int32) (h : HH), Sx mi_X11_there d iI (g_X11_there_L31 c1 c2 n x3 h) 31 [(0, .ref 255), (1, .int c1), (2, .int c2), (3, .int x3)] [] h := by
  intro n
  induction n with
  | zero => intro x3 h; exact sx_none
  | succ n ih =>
    intro x3 h
    rw [g_X11_there_L31]
    refine sx_iload_n d_X11_there_31 3 rfl ?_
    refine sx_sipush d_X11_there_32 sc199 ?_
    refine sx_icmp_gt d_X11_there_35 ?_ ?_
    · refine sx_bipush d_X11_there_65 bcm2 ?_
      exact sx_iret rfl d_X11_there_67
    · refine sx_aload_n d_X11_there_38 0 rfl ?_
      refine sx_getF (a' := 278) fl_StairCountModel_81 sh_255 rfl rfl d_X11_there_39 ?_
      refine sx_bipush d_X11_there_42 bc6 ?_
      refine sx_iload_n d_X11_there_44 1 rfl ?_
      refine sx_iadd d_X11_there_45 ?_
      refine sx_iald sh_278 d_X11_there_46 (fun v8 => ?_)
      refine sx_iload_n d_X11_there_47 2 rfl ?_
      refine sx_icmp_ne d_X11_there_48 ?_ ?_
      · refine sx_iload_n d_X11_there_51 3 rfl ?_
        exact sx_iret rfl d_X11_there_52
      · refine sx_aload_n d_X11_there_53 0 rfl ?_
        refine sx_iconst d_X11_there_54 ic1 ?_
        refine sx_iconst d_X11_there_55 ic0 ?_
        refine sx_callV [.int (1 : Int32), .int (0 : Int32)] mv_X11_passes lM_StairCountModel_433 sh_255 (by omega) rfl rfl (Nat.le_of_ble_eq_true rfl) d_X11_there_56 (sp_X11_passes (d - 1) (by omega) (1 : Int32) (0 : Int32) h) (fun _ h9 => ?_)
        refine sx_iincV (lc' := fun v11 => [(3, .int v11), (0, .ref 255), (1, .int c1), (2, .int c2)]) (k0 := 3) d_X11_there_59 rfl ii1 (by decide) (fun _ => rfl) (fun v11 => ?_)
        refine sx_goto d_X11_there_62 ?_
        refine sx_lc (lc' := [(0, .ref 255), (1, .int c1), (2, .int c2), (3, .int v11)]) [1, 2, 3, 0] rfl ?_
        exact ih v11 h9
set_option maxHeartbeats 4000000 in
set_option maxRecDepth 100000 in
theorem sp_X11_there (d : Nat) (hd : 11 ≤ d) (a0 : Int32) (a1 : Int32) (h : HH) : Sp mi_X11_there d iI [.ref 255, .int a0, .int a1] h (g_X11_there a0 a1 h) := by
  refine sp_of (lc := [(0, .ref 255), (1, .int a0), (2, .int a1)]) (by decide) (Nat.le_of_ble_eq_true rfl) rfl ?_
  unfold g_X11_there
  refine sx_aload_n d_X11_there_0 0 rfl ?_
  refine sx_iconst d_X11_there_1 ic0 ?_
  refine sx_putI fl_StairCountModel_148 sh_255 rfl hty_11_0 d_X11_there_2 (fun h1 => ?_)
  refine sx_aload_n d_X11_there_5 0 rfl ?_
  refine sx_iload_n d_X11_there_6 1 rfl ?_
  refine sx_callV [.int a0] mv_X11_isPerson lM_StairCountModel_346 sh_255 (by omega) rfl rfl (Nat.le_of_ble_eq_true rfl) d_X11_there_7 (sp_X11_isPerson (d - 1) (by omega) a0 h1) (fun r3 h2 => ?_)
  refine sx_if_eq d_X11_there_10 ?_ ?_
  · refine sx_iconst d_X11_there_21 icm1 ?_
    exact sx_iret rfl d_X11_there_22
  · refine sx_aload_n d_X11_there_13 0 rfl ?_
    refine sx_iload_n d_X11_there_14 2 rfl ?_
    refine sx_callV [.int a1] mv_X11_isFloor lM_StairCountModel_444 sh_255 (by omega) rfl rfl (Nat.le_of_ble_eq_true rfl) d_X11_there_15 (sp_X11_isFloor (d - 1) (by omega) a1 h2) (fun r5 h4 => ?_)
    refine sx_if_ne d_X11_there_18 ?_ ?_
    · refine sx_iconst d_X11_there_21 icm1 ?_
      exact sx_iret rfl d_X11_there_22
    · refine sx_aload_n d_X11_there_23 0 rfl ?_
      refine sx_iconst d_X11_there_24 ic1 ?_
      refine sx_iconst d_X11_there_25 ic0 ?_
      refine sx_callV [.int (1 : Int32), .int (0 : Int32)] mv_X11_copies lM_StairCountModel_457 sh_255 (by omega) rfl rfl (Nat.le_of_ble_eq_true rfl) d_X11_there_26 (sp_X11_copies (d - 1) (by omega) (1 : Int32) (0 : Int32) h4) (fun _ h6 => ?_)
      refine sx_iconst d_X11_there_29 ic0 ?_
      refine sx_istore_n (i := 3) (lc' := [(3, .int (0 : Int32)), (0, .ref 255), (1, .int a0), (2, .int a1)]) d_X11_there_30 rfl (by decide) rfl ?_
      refine sx_lc (lc' := [(0, .ref 255), (1, .int a0), (2, .int a1), (3, .int (0 : Int32))]) [1, 2, 3, 0] rfl ?_
      refine sL_X11_there_31 d hd a0 a1 1024 (0 : Int32) h6
theorem d_X11_getsUp_0 : DC mi_X11_getsUp 0 (.aload_n 0) 1 1 := ⟨by decide +kernel, rfl⟩
theorem d_X11_getsUp_1 : DC mi_X11_getsUp 1 (.iconst 5) 1 2 := ⟨by decide +kernel, rfl⟩
theorem d_X11_getsUp_2 : DC mi_X11_getsUp 2 (.putfield 352) 3 5 := ⟨by decide +kernel, rfl⟩
theorem d_X11_getsUp_5 : DC mi_X11_getsUp 5 (.aload_n 0) 1 6 := ⟨by decide +kernel, rfl⟩
theorem d_X11_getsUp_6 : DC mi_X11_getsUp 6 (.iconst 1) 1 7 := ⟨by decide +kernel, rfl⟩
theorem d_X11_getsUp_7 : DC mi_X11_getsUp 7 (.iload_n 1) 1 8 := ⟨by decide +kernel, rfl⟩
theorem d_X11_getsUp_8 : DC mi_X11_getsUp 8 (.iload_n 2) 1 9 := ⟨by decide +kernel, rfl⟩
theorem d_X11_getsUp_9 : DC mi_X11_getsUp 9 (.iconst 0) 1 10 := ⟨by decide +kernel, rfl⟩
theorem d_X11_getsUp_10 : DC mi_X11_getsUp 10 (.invokevirtual 412) 3 13 := ⟨by decide +kernel, rfl⟩
theorem d_X11_getsUp_13 : DC mi_X11_getsUp 13 (.aload_n 0) 1 14 := ⟨by decide +kernel, rfl⟩
theorem d_X11_getsUp_14 : DC mi_X11_getsUp 14 (.iconst 0) 1 15 := ⟨by decide +kernel, rfl⟩
theorem d_X11_getsUp_15 : DC mi_X11_getsUp 15 (.putfield 352) 3 18 := ⟨by decide +kernel, rfl⟩
theorem d_X11_getsUp_18 : DC mi_X11_getsUp 18 (.aload_n 0) 1 19 := ⟨by decide +kernel, rfl⟩
theorem d_X11_getsUp_19 : DC mi_X11_getsUp 19 (.getfield 81) 3 22 := ⟨by decide +kernel, rfl⟩
theorem d_X11_getsUp_22 : DC mi_X11_getsUp 22 (.bipush 6) 2 24 := ⟨by decide +kernel, rfl⟩
theorem d_X11_getsUp_24 : DC mi_X11_getsUp 24 (.iload_n 1) 1 25 := ⟨by decide +kernel, rfl⟩
theorem d_X11_getsUp_25 : DC mi_X11_getsUp 25 (.iadd) 1 26 := ⟨by decide +kernel, rfl⟩
theorem d_X11_getsUp_26 : DC mi_X11_getsUp 26 (.iaload) 1 27 := ⟨by decide +kernel, rfl⟩
theorem d_X11_getsUp_27 : DC mi_X11_getsUp 27 (.ireturn) 1 28 := ⟨by decide +kernel, rfl⟩
set_option maxHeartbeats 4000000 in
set_option maxRecDepth 100000 in
theorem sp_X11_getsUp (d : Nat) (hd : 9 ≤ d) (a0 : Int32) (a1 : Int32) (h : HH) : Sp mi_X11_getsUp d iI [.ref 255, .int a0, .int a1] h (g_X11_getsUp a0 a1 h) := by
  refine sp_of (lc := [(0, .ref 255), (1, .int a0), (2, .int a1)]) (by decide) (Nat.le_of_ble_eq_true rfl) rfl ?_
  unfold g_X11_getsUp
  refine sx_aload_n d_X11_getsUp_0 0 rfl ?_
  refine sx_iconst d_X11_getsUp_1 ic5 ?_
  refine sx_putI fl_StairCountModel_352 sh_255 rfl hty_11_48 d_X11_getsUp_2 (fun h1 => ?_)
  refine sx_aload_n d_X11_getsUp_5 0 rfl ?_
  refine sx_iconst d_X11_getsUp_6 ic1 ?_
  refine sx_iload_n d_X11_getsUp_7 1 rfl ?_
  refine sx_iload_n d_X11_getsUp_8 2 rfl ?_
  refine sx_iconst d_X11_getsUp_9 ic0 ?_
  refine sx_callV [.int (1 : Int32), .int a0, .int a1, .int (0 : Int32)] mv_X11_goesTo lM_StairCountModel_412 sh_255 (by omega) rfl rfl (Nat.le_of_ble_eq_true rfl) d_X11_getsUp_10 (sp_X11_goesTo (d - 1) (by omega) (1 : Int32) a0 a1 (0 : Int32) h1) (fun _ h2 => ?_)
  refine sx_aload_n d_X11_getsUp_13 0 rfl ?_
  refine sx_iconst d_X11_getsUp_14 ic0 ?_
  refine sx_putI fl_StairCountModel_352 sh_255 rfl hty_11_48 d_X11_getsUp_15 (fun h4 => ?_)
  refine sx_aload_n d_X11_getsUp_18 0 rfl ?_
  refine sx_getF (a' := 278) fl_StairCountModel_81 sh_255 rfl rfl d_X11_getsUp_19 ?_
  refine sx_bipush d_X11_getsUp_22 bc6 ?_
  refine sx_iload_n d_X11_getsUp_24 1 rfl ?_
  refine sx_iadd d_X11_getsUp_25 ?_
  refine sx_iald sh_278 d_X11_getsUp_26 (fun v5 => ?_)
  exact sx_iret rfl d_X11_getsUp_27
theorem d_X11_highest_0 : DC mi_X11_highest 0 (.aload_n 0) 1 1 := ⟨by decide +kernel, rfl⟩
theorem d_X11_highest_1 : DC mi_X11_highest 1 (.iconst 0) 1 2 := ⟨by decide +kernel, rfl⟩
theorem d_X11_highest_2 : DC mi_X11_highest 2 (.putfield 148) 3 5 := ⟨by decide +kernel, rfl⟩
theorem d_X11_highest_5 : DC mi_X11_highest 5 (.aload_n 0) 1 6 := ⟨by decide +kernel, rfl⟩
theorem d_X11_highest_6 : DC mi_X11_highest 6 (.iload_n 1) 1 7 := ⟨by decide +kernel, rfl⟩
theorem d_X11_highest_7 : DC mi_X11_highest 7 (.invokevirtual 346) 3 10 := ⟨by decide +kernel, rfl⟩
theorem d_X11_highest_10 : DB mi_X11_highest 10 (.ifCond .ne 5) 5 13 15 := ⟨by decide +kernel, rfl, by decide⟩
theorem d_X11_highest_13 : DC mi_X11_highest 13 (.iconst (-1)) 1 14 := ⟨by decide +kernel, rfl⟩
theorem d_X11_highest_14 : DC mi_X11_highest 14 (.ireturn) 1 15 := ⟨by decide +kernel, rfl⟩
theorem d_X11_highest_15 : DC mi_X11_highest 15 (.aload_n 0) 1 16 := ⟨by decide +kernel, rfl⟩
theorem d_X11_highest_16 : DC mi_X11_highest 16 (.iconst 1) 1 17 := ⟨by decide +kernel, rfl⟩
theorem d_X11_highest_17 : DC mi_X11_highest 17 (.iconst 0) 1 18 := ⟨by decide +kernel, rfl⟩
theorem d_X11_highest_18 : DC mi_X11_highest 18 (.invokevirtual 457) 3 21 := ⟨by decide +kernel, rfl⟩
theorem d_X11_highest_21 : DC mi_X11_highest 21 (.aload_n 0) 1 22 := ⟨by decide +kernel, rfl⟩
theorem d_X11_highest_22 : DC mi_X11_highest 22 (.iload_n 1) 1 23 := ⟨by decide +kernel, rfl⟩
theorem d_X11_highest_23 : DC mi_X11_highest 23 (.aload_n 0) 1 24 := ⟨by decide +kernel, rfl⟩
theorem d_X11_highest_24 : DC mi_X11_highest 24 (.getfield 13) 3 27 := ⟨by decide +kernel, rfl⟩
theorem d_X11_highest_27 : DC mi_X11_highest 27 (.iconst 0) 1 28 := ⟨by decide +kernel, rfl⟩
theorem d_X11_highest_28 : DC mi_X11_highest 28 (.iaload) 1 29 := ⟨by decide +kernel, rfl⟩
theorem d_X11_highest_29 : DC mi_X11_highest 29 (.invokevirtual 473) 3 32 := ⟨by decide +kernel, rfl⟩
theorem d_X11_highest_32 : DC mi_X11_highest 32 (.ireturn) 1 33 := ⟨by decide +kernel, rfl⟩
set_option maxHeartbeats 4000000 in
set_option maxRecDepth 100000 in
theorem sp_X11_highest (d : Nat) (hd : 10 ≤ d) (a0 : Int32) (h : HH) : Sp mi_X11_highest d iI [.ref 255, .int a0] h (g_X11_highest a0 h) := by
  refine sp_of (lc := [(0, .ref 255), (1, .int a0)]) (by decide) (Nat.le_of_ble_eq_true rfl) rfl ?_
  unfold g_X11_highest
  refine sx_aload_n d_X11_highest_0 0 rfl ?_
  refine sx_iconst d_X11_highest_1 ic0 ?_
  refine sx_putI fl_StairCountModel_148 sh_255 rfl hty_11_0 d_X11_highest_2 (fun h1 => ?_)
  refine sx_aload_n d_X11_highest_5 0 rfl ?_
  refine sx_iload_n d_X11_highest_6 1 rfl ?_
  refine sx_callV [.int a0] mv_X11_isPerson lM_StairCountModel_346 sh_255 (by omega) rfl rfl (Nat.le_of_ble_eq_true rfl) d_X11_highest_7 (sp_X11_isPerson (d - 1) (by omega) a0 h1) (fun r3 h2 => ?_)
  refine sx_if_ne d_X11_highest_10 ?_ ?_
  · refine sx_iconst d_X11_highest_13 icm1 ?_
    exact sx_iret rfl d_X11_highest_14
  · refine sx_aload_n d_X11_highest_15 0 rfl ?_
    refine sx_iconst d_X11_highest_16 ic1 ?_
    refine sx_iconst d_X11_highest_17 ic0 ?_
    refine sx_callV [.int (1 : Int32), .int (0 : Int32)] mv_X11_copies lM_StairCountModel_457 sh_255 (by omega) rfl rfl (Nat.le_of_ble_eq_true rfl) d_X11_highest_18 (sp_X11_copies (d - 1) (by omega) (1 : Int32) (0 : Int32) h2) (fun _ h4 => ?_)
    refine sx_aload_n d_X11_highest_21 0 rfl ?_
    refine sx_iload_n d_X11_highest_22 1 rfl ?_
    refine sx_aload_n d_X11_highest_23 0 rfl ?_
    refine sx_getF (a' := 257) fl_StairCountModel_13 sh_255 rfl rfl d_X11_highest_24 ?_
    refine sx_iconst d_X11_highest_27 ic0 ?_
    refine sx_iald sh_257 d_X11_highest_28 (fun v6 => ?_)
    refine sx_callV [.int a0, .int v6] mv_X11_getsUp lM_StairCountModel_473 sh_255 (by omega) rfl rfl (Nat.le_of_ble_eq_true rfl) d_X11_highest_29 (sp_X11_getsUp (d - 1) (by omega) a0 v6 h4) (fun r8 h7 => ?_)
    exact sx_iret rfl d_X11_highest_32
theorem d_X11_climbs_0 : DC mi_X11_climbs 0 (.aload_n 0) 1 1 := ⟨by decide +kernel, rfl⟩
theorem d_X11_climbs_1 : DC mi_X11_climbs 1 (.iconst 0) 1 2 := ⟨by decide +kernel, rfl⟩
theorem d_X11_climbs_2 : DC mi_X11_climbs 2 (.putfield 148) 3 5 := ⟨by decide +kernel, rfl⟩
theorem d_X11_climbs_5 : DC mi_X11_climbs 5 (.aload_n 0) 1 6 := ⟨by decide +kernel, rfl⟩
theorem d_X11_climbs_6 : DC mi_X11_climbs 6 (.iload_n 1) 1 7 := ⟨by decide +kernel, rfl⟩
theorem d_X11_climbs_7 : DC mi_X11_climbs 7 (.invokevirtual 346) 3 10 := ⟨by decide +kernel, rfl⟩
theorem d_X11_climbs_10 : DB mi_X11_climbs 10 (.ifCond .eq 15) 15 13 25 := ⟨by decide +kernel, rfl, by decide⟩
theorem d_X11_climbs_13 : DC mi_X11_climbs 13 (.aload_n 0) 1 14 := ⟨by decide +kernel, rfl⟩
theorem d_X11_climbs_14 : DC mi_X11_climbs 14 (.iload_n 2) 1 15 := ⟨by decide +kernel, rfl⟩
theorem d_X11_climbs_15 : DC mi_X11_climbs 15 (.invokevirtual 444) 3 18 := ⟨by decide +kernel, rfl⟩
theorem d_X11_climbs_18 : DB mi_X11_climbs 18 (.ifCond .eq 7) 7 21 25 := ⟨by decide +kernel, rfl, by decide⟩
theorem d_X11_climbs_21 : DC mi_X11_climbs 21 (.iload_n 2) 1 22 := ⟨by decide +kernel, rfl⟩
theorem d_X11_climbs_22 : DB mi_X11_climbs 22 (.ifCond .ne 5) 5 25 27 := ⟨by decide +kernel, rfl, by decide⟩
theorem d_X11_climbs_25 : DC mi_X11_climbs 25 (.iconst (-1)) 1 26 := ⟨by decide +kernel, rfl⟩
theorem d_X11_climbs_26 : DC mi_X11_climbs 26 (.ireturn) 1 27 := ⟨by decide +kernel, rfl⟩
theorem d_X11_climbs_27 : DC mi_X11_climbs 27 (.aload_n 0) 1 28 := ⟨by decide +kernel, rfl⟩
theorem d_X11_climbs_28 : DC mi_X11_climbs 28 (.iconst 1) 1 29 := ⟨by decide +kernel, rfl⟩
theorem d_X11_climbs_29 : DC mi_X11_climbs 29 (.iconst 0) 1 30 := ⟨by decide +kernel, rfl⟩
theorem d_X11_climbs_30 : DC mi_X11_climbs 30 (.invokevirtual 457) 3 33 := ⟨by decide +kernel, rfl⟩
theorem d_X11_climbs_33 : DC mi_X11_climbs 33 (.iconst 0) 1 34 := ⟨by decide +kernel, rfl⟩
theorem d_X11_climbs_34 : DC mi_X11_climbs 34 (.istore_n 3) 1 35 := ⟨by decide +kernel, rfl⟩
theorem d_X11_climbs_35 : DC mi_X11_climbs 35 (.iload_n 3) 1 36 := ⟨by decide +kernel, rfl⟩
theorem d_X11_climbs_36 : DC mi_X11_climbs 36 (.bipush 99) 2 38 := ⟨by decide +kernel, rfl⟩
theorem d_X11_climbs_38 : DB mi_X11_climbs 38 (.if_icmp .ge 31) 31 41 69 := ⟨by decide +kernel, rfl, by decide⟩
theorem d_X11_climbs_41 : DC mi_X11_climbs 41 (.aload_n 0) 1 42 := ⟨by decide +kernel, rfl⟩
theorem d_X11_climbs_42 : DC mi_X11_climbs 42 (.getfield 81) 3 45 := ⟨by decide +kernel, rfl⟩
theorem d_X11_climbs_45 : DC mi_X11_climbs 45 (.bipush 6) 2 47 := ⟨by decide +kernel, rfl⟩
theorem d_X11_climbs_47 : DC mi_X11_climbs 47 (.iload_n 1) 1 48 := ⟨by decide +kernel, rfl⟩
theorem d_X11_climbs_48 : DC mi_X11_climbs 48 (.iadd) 1 49 := ⟨by decide +kernel, rfl⟩
theorem d_X11_climbs_49 : DC mi_X11_climbs 49 (.iconst 0) 1 50 := ⟨by decide +kernel, rfl⟩
theorem d_X11_climbs_50 : DC mi_X11_climbs 50 (.iastore) 1 51 := ⟨by decide +kernel, rfl⟩
theorem d_X11_climbs_51 : DC mi_X11_climbs 51 (.aload_n 0) 1 52 := ⟨by decide +kernel, rfl⟩
theorem d_X11_climbs_52 : DC mi_X11_climbs 52 (.iload_n 1) 1 53 := ⟨by decide +kernel, rfl⟩
theorem d_X11_climbs_53 : DC mi_X11_climbs 53 (.iload_n 2) 1 54 := ⟨by decide +kernel, rfl⟩
theorem d_X11_climbs_54 : DC mi_X11_climbs 54 (.invokevirtual 473) 3 57 := ⟨by decide +kernel, rfl⟩
theorem d_X11_climbs_57 : DC mi_X11_climbs 57 (.iload_n 2) 1 58 := ⟨by decide +kernel, rfl⟩
theorem d_X11_climbs_58 : DB mi_X11_climbs 58 (.if_icmp .eq 5) 5 61 63 := ⟨by decide +kernel, rfl, by decide⟩
theorem d_X11_climbs_61 : DC mi_X11_climbs 61 (.iload_n 3) 1 62 := ⟨by decide +kernel, rfl⟩
theorem d_X11_climbs_62 : DC mi_X11_climbs 62 (.ireturn) 1 63 := ⟨by decide +kernel, rfl⟩
theorem d_X11_climbs_63 : DC mi_X11_climbs 63 (.iinc 3 1) 3 66 := ⟨by decide +kernel, rfl⟩
theorem d_X11_climbs_66 : DB mi_X11_climbs 66 (.goto (-31)) (-31) 69 35 := ⟨by decide +kernel, rfl, by decide⟩
theorem d_X11_climbs_69 : DC mi_X11_climbs 69 (.bipush 99) 2 71 := ⟨by decide +kernel, rfl⟩
theorem d_X11_climbs_71 : DC mi_X11_climbs 71 (.ireturn) 1 72 := ⟨by decide +kernel, rfl⟩
set_option maxHeartbeats 4000000 in
set_option maxRecDepth 100000 in
theorem sL_X11_climbs_35 (d : Nat) (hd : 10 ≤ d) (c1 : Int32) (c2 : Int32) : ∀ (n : Nat) (x3 : Int32) (h : HH), Sx mi_X11_climbs d iI (g_X11_climbs_L35 c1 c2 n x3 h) 35 [(0, .ref 255), (1, .int c1), (2, .int c2), (3, .int x3)] [] h := by
  intro n
  induction n with
  | zero => intro x3 h; exact sx_none
  | succ n ih =>
    intro x3 h
    rw [g_X11_climbs_L35]
    refine sx_iload_n d_X11_climbs_35 3 rfl ?_
    refine sx_bipush d_X11_climbs_36 bc99 ?_
    refine sx_icmp_ge d_X11_climbs_38 ?_ ?_
    · refine sx_aload_n d_X11_climbs_41 0 rfl ?_
      refine sx_getF (a' := 278) fl_StairCountModel_81 sh_255 rfl rfl d_X11_climbs_42 ?_
      refine sx_bipush d_X11_climbs_45 bc6 ?_
      refine sx_iload_n d_X11_climbs_47 1 rfl ?_
      refine sx_iadd d_X11_climbs_48 ?_
      refine sx_iconst d_X11_climbs_49 ic0 ?_
      refine sx_iast sh_278 d_X11_climbs_50 (fun h8 => ?_)
      refine sx_aload_n d_X11_climbs_51 0 rfl ?_
      refine sx_iload_n d_X11_climbs_52 1 rfl ?_
      refine sx_iload_n d_X11_climbs_53 2 rfl ?_
      refine sx_callV [.int c1, .int c2] mv_X11_getsUp lM_StairCountModel_473 sh_255 (by omega) rfl rfl (Nat.le_of_ble_eq_true rfl) d_X11_climbs_54 (sp_X11_getsUp (d - 1) (by omega) c1 c2 h8) (fun r10 h9 => ?_)
      refine sx_iload_n d_X11_climbs_57 2 rfl ?_
      refine sx_icmp_eq d_X11_climbs_58 ?_ ?_
      · refine sx_iincV (lc' := fun v11 => [(3, .int v11), (0, .ref 255), (1, .int c1), (2, .int c2)]) (k0 := 3) d_X11_climbs_63 rfl ii1 (by decide) (fun _ => rfl) (fun v11 => ?_)
        refine sx_goto d_X11_climbs_66 ?_
        refine sx_lc (lc' := [(0, .ref 255), (1, .int c1), (2, .int c2), (3, .int v11)]) [1, 2, 3, 0] rfl ?_
        exact ih v11 h9
      · refine sx_iload_n d_X11_climbs_61 3 rfl ?_
        exact sx_iret rfl d_X11_climbs_62
    · refine sx_bipush d_X11_climbs_69 bc99 ?_
      exact sx_iret rfl d_X11_climbs_71
set_option maxHeartbeats 4000000 in
set_option maxRecDepth 100000 in
theorem sp_X11_climbs (d : Nat) (hd : 10 ≤ d) (a0 : Int32) (a1 : Int32) (h : HH) : Sp mi_X11_climbs d iI [.ref 255, .int a0, .int a1] h (g_X11_climbs a0 a1 h) := by
  refine sp_of (lc := [(0, .ref 255), (1, .int a0), (2, .int a1)]) (by decide) (Nat.le_of_ble_eq_true rfl) rfl ?_
  unfold g_X11_climbs
  refine sx_aload_n d_X11_climbs_0 0 rfl ?_
  refine sx_iconst d_X11_climbs_1 ic0 ?_
  refine sx_putI fl_StairCountModel_148 sh_255 rfl hty_11_0 d_X11_climbs_2 (fun h1 => ?_)
  refine sx_aload_n d_X11_climbs_5 0 rfl ?_
  refine sx_iload_n d_X11_climbs_6 1 rfl ?_
  refine sx_callV [.int a0] mv_X11_isPerson lM_StairCountModel_346 sh_255 (by omega) rfl rfl (Nat.le_of_ble_eq_true rfl) d_X11_climbs_7 (sp_X11_isPerson (d - 1) (by omega) a0 h1) (fun r3 h2 => ?_)
  refine sx_if_eq d_X11_climbs_10 ?_ ?_
  · refine sx_iconst d_X11_climbs_25 icm1 ?_
    exact sx_iret rfl d_X11_climbs_26
  · refine sx_aload_n d_X11_climbs_13 0 rfl ?_
    refine sx_iload_n d_X11_climbs_14 2 rfl ?_
    refine sx_callV [.int a1] mv_X11_isFloor lM_StairCountModel_444 sh_255 (by omega) rfl rfl (Nat.le_of_ble_eq_true rfl) d_X11_climbs_15 (sp_X11_isFloor (d - 1) (by omega) a1 h2) (fun r5 h4 => ?_)
    refine sx_if_eq d_X11_climbs_18 ?_ ?_
    · refine sx_iconst d_X11_climbs_25 icm1 ?_
      exact sx_iret rfl d_X11_climbs_26
    · refine sx_iload_n d_X11_climbs_21 2 rfl ?_
      refine sx_if_ne d_X11_climbs_22 ?_ ?_
      · refine sx_iconst d_X11_climbs_25 icm1 ?_
        exact sx_iret rfl d_X11_climbs_26
      · refine sx_aload_n d_X11_climbs_27 0 rfl ?_
        refine sx_iconst d_X11_climbs_28 ic1 ?_
        refine sx_iconst d_X11_climbs_29 ic0 ?_
        refine sx_callV [.int (1 : Int32), .int (0 : Int32)] mv_X11_copies lM_StairCountModel_457 sh_255 (by omega) rfl rfl (Nat.le_of_ble_eq_true rfl) d_X11_climbs_30 (sp_X11_copies (d - 1) (by omega) (1 : Int32) (0 : Int32) h4) (fun _ h6 => ?_)
        refine sx_iconst d_X11_climbs_33 ic0 ?_
        refine sx_istore_n (i := 3) (lc' := [(3, .int (0 : Int32)), (0, .ref 255), (1, .int a0), (2, .int a1)]) d_X11_climbs_34 rfl (by decide) rfl ?_
        refine sx_lc (lc' := [(0, .ref 255), (1, .int a0), (2, .int a1), (3, .int (0 : Int32))]) [1, 2, 3, 0] rfl ?_
        refine sL_X11_climbs_35 d hd a0 a1 1024 (0 : Int32) h6
theorem d_X11_level_0 : DC mi_X11_level 0 (.aload_n 0) 1 1 := ⟨by decide +kernel, rfl⟩
theorem d_X11_level_1 : DC mi_X11_level 1 (.iconst 0) 1 2 := ⟨by decide +kernel, rfl⟩
theorem d_X11_level_2 : DC mi_X11_level 2 (.putfield 148) 3 5 := ⟨by decide +kernel, rfl⟩
theorem d_X11_level_5 : DC mi_X11_level 5 (.aload_n 0) 1 6 := ⟨by decide +kernel, rfl⟩
theorem d_X11_level_6 : DC mi_X11_level 6 (.iload_n 1) 1 7 := ⟨by decide +kernel, rfl⟩
theorem d_X11_level_7 : DC mi_X11_level 7 (.invokevirtual 346) 3 10 := ⟨by decide +kernel, rfl⟩
theorem d_X11_level_10 : DB mi_X11_level 10 (.ifCond .ne 5) 5 13 15 := ⟨by decide +kernel, rfl, by decide⟩
theorem d_X11_level_13 : DC mi_X11_level 13 (.iconst (-1)) 1 14 := ⟨by decide +kernel, rfl⟩
theorem d_X11_level_14 : DC mi_X11_level 14 (.ireturn) 1 15 := ⟨by decide +kernel, rfl⟩
theorem d_X11_level_15 : DC mi_X11_level 15 (.iconst 0) 1 16 := ⟨by decide +kernel, rfl⟩
theorem d_X11_level_16 : DC mi_X11_level 16 (.istore_n 2) 1 17 := ⟨by decide +kernel, rfl⟩
theorem d_X11_level_17 : DC mi_X11_level 17 (.iconst 0) 1 18 := ⟨by decide +kernel, rfl⟩
theorem d_X11_level_18 : DC mi_X11_level 18 (.istore_n 3) 1 19 := ⟨by decide +kernel, rfl⟩
theorem d_X11_level_19 : DC mi_X11_level 19 (.iload_n 3) 1 20 := ⟨by decide +kernel, rfl⟩
theorem d_X11_level_20 : DC mi_X11_level 20 (.aload_n 0) 1 21 := ⟨by decide +kernel, rfl⟩
theorem d_X11_level_21 : DC mi_X11_level 21 (.getfield 13) 3 24 := ⟨by decide +kernel, rfl⟩
theorem d_X11_level_24 : DC mi_X11_level 24 (.iconst 0) 1 25 := ⟨by decide +kernel, rfl⟩
theorem d_X11_level_25 : DC mi_X11_level 25 (.iaload) 1 26 := ⟨by decide +kernel, rfl⟩
theorem d_X11_level_26 : DB mi_X11_level 26 (.if_icmp .ge 23) 23 29 49 := ⟨by decide +kernel, rfl, by decide⟩
theorem d_X11_level_29 : DC mi_X11_level 29 (.iload_n 2) 1 30 := ⟨by decide +kernel, rfl⟩
theorem d_X11_level_30 : DC mi_X11_level 30 (.iconst 0) 1 31 := ⟨by decide +kernel, rfl⟩
theorem d_X11_level_31 : DC mi_X11_level 31 (.aload_n 0) 1 32 := ⟨by decide +kernel, rfl⟩
theorem d_X11_level_32 : DC mi_X11_level 32 (.iconst 0) 1 33 := ⟨by decide +kernel, rfl⟩
theorem d_X11_level_33 : DC mi_X11_level 33 (.iload_n 1) 1 34 := ⟨by decide +kernel, rfl⟩
theorem d_X11_level_34 : DC mi_X11_level 34 (.iload_n 3) 1 35 := ⟨by decide +kernel, rfl⟩
theorem d_X11_level_35 : DC mi_X11_level 35 (.invokevirtual 355) 3 38 := ⟨by decide +kernel, rfl⟩
theorem d_X11_level_38 : DC mi_X11_level 38 (.invokestatic 404) 3 41 := ⟨by decide +kernel, rfl⟩
theorem d_X11_level_41 : DC mi_X11_level 41 (.iadd) 1 42 := ⟨by decide +kernel, rfl⟩
theorem d_X11_level_42 : DC mi_X11_level 42 (.istore_n 2) 1 43 := ⟨by decide +kernel, rfl⟩
theorem d_X11_level_43 : DC mi_X11_level 43 (.iinc 3 1) 3 46 := ⟨by decide +kernel, rfl⟩
theorem d_X11_level_46 : DB mi_X11_level 46 (.goto (-27)) (-27) 49 19 := ⟨by decide +kernel, rfl, by decide⟩
theorem d_X11_level_49 : DC mi_X11_level 49 (.iload_n 2) 1 50 := ⟨by decide +kernel, rfl⟩
theorem d_X11_level_50 : DC mi_X11_level 50 (.ireturn) 1 51 := ⟨by decide +kernel, rfl⟩
set_option maxHeartbeats 4000000 in
set_option maxRecDepth 100000 in
theorem sL_X11_level_19 (d : Nat) (hd : 1 ≤ d) (c1 : Int32) : ∀ (n : Nat) (x2 : Int32) (x3 : Int32) (h : HH), Sx mi_X11_level d iI (g_X11_level_L19 c1 n x2 x3 h) 19 [(0, .ref 255), (1, .int c1), (2, .int x2), (3, .int x3)] [] h := by
  intro n
  induction n with
  | zero => intro x2 x3 h; exact sx_none
  | succ n ih =>
    intro x2 x3 h
    rw [g_X11_level_L19]
    refine sx_iload_n d_X11_level_19 3 rfl ?_
    refine sx_aload_n d_X11_level_20 0 rfl ?_
    refine sx_getF (a' := 257) fl_StairCountModel_13 sh_255 rfl rfl d_X11_level_21 ?_
    refine sx_iconst d_X11_level_24 ic0 ?_
    refine sx_iald sh_257 d_X11_level_25 (fun v4 => ?_)
    refine sx_icmp_ge d_X11_level_26 ?_ ?_
    · refine sx_iload_n d_X11_level_29 2 rfl ?_
      refine sx_iconst d_X11_level_30 ic0 ?_
      refine sx_aload_n d_X11_level_31 0 rfl ?_
      refine sx_iconst d_X11_level_32 ic0 ?_
      refine sx_iload_n d_X11_level_33 1 rfl ?_
      refine sx_iload_n d_X11_level_34 3 rfl ?_
      refine sx_callV [.int (0 : Int32), .int c1, .int x3] mv_X11_tallyAt lM_StairCountModel_355 sh_255 (by omega) rfl rfl (Nat.le_of_ble_eq_true rfl) d_X11_level_35 (sp_X11_tallyAt (d - 1) (by omega) (0 : Int32) c1 x3 h) (fun r6 h5 => ?_)
      refine sx_mmax lM_StairCountModel_404 (by omega) (Nat.le_of_ble_eq_true rfl) d_X11_level_38 ?_
      refine sx_iadd d_X11_level_41 ?_
      refine sx_vlI (fun v7 => ?_)
      refine sx_istore_n (i := 2) (lc' := [(2, .int v7), (0, .ref 255), (1, .int c1), (3, .int x3)]) d_X11_level_42 rfl (by decide) rfl ?_
      refine sx_iincV (lc' := fun v8 => [(3, .int v8), (2, .int v7), (0, .ref 255), (1, .int c1)]) (k0 := 3) d_X11_level_43 rfl ii1 (by decide) (fun _ => rfl) (fun v8 => ?_)
      refine sx_goto d_X11_level_46 ?_
      refine sx_lc (lc' := [(0, .ref 255), (1, .int c1), (2, .int v7), (3, .int v8)]) [2, 3, 1, 0] rfl ?_
      exact ih v7 v8 h5
    · refine sx_iload_n d_X11_level_49 2 rfl ?_
      exact sx_iret rfl d_X11_level_50
set_option maxHeartbeats 4000000 in
set_option maxRecDepth 100000 in
theorem sp_X11_level (d : Nat) (hd : 1 ≤ d) (a0 : Int32) (h : HH) : Sp mi_X11_level d iI [.ref 255, .int a0] h (g_X11_level a0 h) := by
  refine sp_of (lc := [(0, .ref 255), (1, .int a0)]) (by decide) (Nat.le_of_ble_eq_true rfl) rfl ?_
  unfold g_X11_level
  refine sx_aload_n d_X11_level_0 0 rfl ?_
  refine sx_iconst d_X11_level_1 ic0 ?_
  refine sx_putI fl_StairCountModel_148 sh_255 rfl hty_11_0 d_X11_level_2 (fun h1 => ?_)
  refine sx_aload_n d_X11_level_5 0 rfl ?_
  refine sx_iload_n d_X11_level_6 1 rfl ?_
  refine sx_callV [.int a0] mv_X11_isPerson lM_StairCountModel_346 sh_255 (by omega) rfl rfl (Nat.le_of_ble_eq_true rfl) d_X11_level_7 (sp_X11_isPerson (d - 1) (by omega) a0 h1) (fun r3 h2 => ?_)
  refine sx_if_ne d_X11_level_10 ?_ ?_
  · refine sx_iconst d_X11_level_13 icm1 ?_
    exact sx_iret rfl d_X11_level_14
  · refine sx_iconst d_X11_level_15 ic0 ?_
    refine sx_istore_n (i := 2) (lc' := [(2, .int (0 : Int32)), (0, .ref 255), (1, .int a0)]) d_X11_level_16 rfl (by decide) rfl ?_
    refine sx_iconst d_X11_level_17 ic0 ?_
    refine sx_istore_n (i := 3) (lc' := [(3, .int (0 : Int32)), (2, .int (0 : Int32)), (0, .ref 255), (1, .int a0)]) d_X11_level_18 rfl (by decide) rfl ?_
    refine sx_lc (lc' := [(0, .ref 255), (1, .int a0), (2, .int (0 : Int32)), (3, .int (0 : Int32))]) [2, 3, 1, 0] rfl ?_
    refine sL_X11_level_19 d hd a0 1024 (0 : Int32) (0 : Int32) h2
theorem d_X11_ease_0 : DC mi_X11_ease 0 (.aload_n 0) 1 1 := ⟨by decide +kernel, rfl⟩
theorem d_X11_ease_1 : DC mi_X11_ease 1 (.iconst 0) 1 2 := ⟨by decide +kernel, rfl⟩
theorem d_X11_ease_2 : DC mi_X11_ease 2 (.putfield 148) 3 5 := ⟨by decide +kernel, rfl⟩
theorem d_X11_ease_5 : DC mi_X11_ease 5 (.aload_n 0) 1 6 := ⟨by decide +kernel, rfl⟩
theorem d_X11_ease_6 : DC mi_X11_ease 6 (.iload_n 1) 1 7 := ⟨by decide +kernel, rfl⟩
theorem d_X11_ease_7 : DC mi_X11_ease 7 (.iload_n 2) 1 8 := ⟨by decide +kernel, rfl⟩
theorem d_X11_ease_8 : DC mi_X11_ease 8 (.invokevirtual 437) 3 11 := ⟨by decide +kernel, rfl⟩
theorem d_X11_ease_11 : DB mi_X11_ease 11 (.ifCond .ne 5) 5 14 16 := ⟨by decide +kernel, rfl, by decide⟩
theorem d_X11_ease_14 : DC mi_X11_ease 14 (.iconst (-1)) 1 15 := ⟨by decide +kernel, rfl⟩
theorem d_X11_ease_15 : DC mi_X11_ease 15 (.ireturn) 1 16 := ⟨by decide +kernel, rfl⟩
theorem d_X11_ease_16 : DC mi_X11_ease 16 (.iconst 0) 1 17 := ⟨by decide +kernel, rfl⟩
theorem d_X11_ease_17 : DC mi_X11_ease 17 (.istore_n 3) 1 18 := ⟨by decide +kernel, rfl⟩
theorem d_X11_ease_18 : DC mi_X11_ease 18 (.iload_n 3) 1 19 := ⟨by decide +kernel, rfl⟩
theorem d_X11_ease_19 : DC mi_X11_ease 19 (.sipush 200) 3 22 := ⟨by decide +kernel, rfl⟩
theorem d_X11_ease_22 : DB mi_X11_ease 22 (.if_icmp .gt 36) 36 25 58 := ⟨by decide +kernel, rfl, by decide⟩
theorem d_X11_ease_25 : DC mi_X11_ease 25 (.aload_n 0) 1 26 := ⟨by decide +kernel, rfl⟩
theorem d_X11_ease_26 : DC mi_X11_ease 26 (.iconst 0) 1 27 := ⟨by decide +kernel, rfl⟩
theorem d_X11_ease_27 : DC mi_X11_ease 27 (.iload_n 1) 1 28 := ⟨by decide +kernel, rfl⟩
theorem d_X11_ease_28 : DC mi_X11_ease 28 (.iload_n 2) 1 29 := ⟨by decide +kernel, rfl⟩
theorem d_X11_ease_29 : DC mi_X11_ease 29 (.aload_n 0) 1 30 := ⟨by decide +kernel, rfl⟩
theorem d_X11_ease_30 : DC mi_X11_ease 30 (.iconst 0) 1 31 := ⟨by decide +kernel, rfl⟩
theorem d_X11_ease_31 : DC mi_X11_ease 31 (.iload_n 1) 1 32 := ⟨by decide +kernel, rfl⟩
theorem d_X11_ease_32 : DC mi_X11_ease 32 (.iload_n 2) 1 33 := ⟨by decide +kernel, rfl⟩
theorem d_X11_ease_33 : DC mi_X11_ease 33 (.invokevirtual 355) 3 36 := ⟨by decide +kernel, rfl⟩
theorem d_X11_ease_36 : DC mi_X11_ease 36 (.iload_n 3) 1 37 := ⟨by decide +kernel, rfl⟩
theorem d_X11_ease_37 : DC mi_X11_ease 37 (.isub) 1 38 := ⟨by decide +kernel, rfl⟩
theorem d_X11_ease_38 : DC mi_X11_ease 38 (.invokevirtual 386) 3 41 := ⟨by decide +kernel, rfl⟩
theorem d_X11_ease_41 : DC mi_X11_ease 41 (.aload_n 0) 1 42 := ⟨by decide +kernel, rfl⟩
theorem d_X11_ease_42 : DC mi_X11_ease 42 (.getfield 25) 3 45 := ⟨by decide +kernel, rfl⟩
theorem d_X11_ease_45 : DC mi_X11_ease 45 (.iload_n 1) 1 46 := ⟨by decide +kernel, rfl⟩
theorem d_X11_ease_46 : DC mi_X11_ease 46 (.iaload) 1 47 := ⟨by decide +kernel, rfl⟩
theorem d_X11_ease_47 : DB mi_X11_ease 47 (.if_icmp .gt 5) 5 50 52 := ⟨by decide +kernel, rfl, by decide⟩
theorem d_X11_ease_50 : DC mi_X11_ease 50 (.iload_n 3) 1 51 := ⟨by decide +kernel, rfl⟩
theorem d_X11_ease_51 : DC mi_X11_ease 51 (.ireturn) 1 52 := ⟨by decide +kernel, rfl⟩
theorem d_X11_ease_52 : DC mi_X11_ease 52 (.iinc 3 1) 3 55 := ⟨by decide +kernel, rfl⟩
theorem d_X11_ease_55 : DB mi_X11_ease 55 (.goto (-37)) (-37) 58 18 := ⟨by decide +kernel, rfl, by decide⟩
theorem d_X11_ease_58 : DC mi_X11_ease 58 (.bipush (-2)) 2 60 := ⟨by decide +kernel, rfl⟩
theorem d_X11_ease_60 : DC mi_X11_ease 60 (.ireturn) 1 61 := ⟨by decide +kernel, rfl⟩
set_option maxHeartbeats 4000000 in
set_option maxRecDepth 100000 in
theorem sL_X11_ease_18 (d : Nat) (hd : 5 ≤ d) (c1 : Int32) (c2 : Int32) : ∀ (n : Nat) (x3 : Int32) (h : HH), Sx mi_X11_ease d iI (g_X11_ease_L18 c1 c2 n x3 h) 18 [(0, .ref 255), (1, .int c1), (2, .int c2), (3, .int x3)] [] h := by
  intro n
  induction n with
  | zero => intro x3 h; exact sx_none
  | succ n ih =>
    intro x3 h
    rw [g_X11_ease_L18]
    refine sx_iload_n d_X11_ease_18 3 rfl ?_
    refine sx_sipush d_X11_ease_19 sc200 ?_
    refine sx_icmp_gt d_X11_ease_22 ?_ ?_
    · refine sx_bipush d_X11_ease_58 bcm2 ?_
      exact sx_iret rfl d_X11_ease_60
    · refine sx_aload_n d_X11_ease_25 0 rfl ?_
      refine sx_iconst d_X11_ease_26 ic0 ?_
      refine sx_iload_n d_X11_ease_27 1 rfl ?_
      refine sx_iload_n d_X11_ease_28 2 rfl ?_
      refine sx_aload_n d_X11_ease_29 0 rfl ?_
      refine sx_iconst d_X11_ease_30 ic0 ?_
      refine sx_iload_n d_X11_ease_31 1 rfl ?_
      refine sx_iload_n d_X11_ease_32 2 rfl ?_
      refine sx_callV [.int (0 : Int32), .int c1, .int c2] mv_X11_tallyAt lM_StairCountModel_355 sh_255 (by omega) rfl rfl (Nat.le_of_ble_eq_true rfl) d_X11_ease_33 (sp_X11_tallyAt (d - 1) (by omega) (0 : Int32) c1 c2 h) (fun r5 h4 => ?_)
      refine sx_iload_n d_X11_ease_36 3 rfl ?_
      refine sx_isub d_X11_ease_37 ?_
      refine sx_callV [.int (0 : Int32), .int c1, .int c2, .int (r5 - x3)] mv_X11_steepWith lM_StairCountModel_386 sh_255 (by omega) rfl rfl (Nat.le_of_ble_eq_true rfl) d_X11_ease_38 (sp_X11_steepWith (d - 1) (by omega) (0 : Int32) c1 c2 (r5 - x3) h4) (fun r7 h6 => ?_)
      refine sx_aload_n d_X11_ease_41 0 rfl ?_
      refine sx_getF (a' := 261) fl_StairCountModel_25 sh_255 rfl rfl d_X11_ease_42 ?_
      refine sx_iload_n d_X11_ease_45 1 rfl ?_
      refine sx_iald sh_261 d_X11_ease_46 (fun v8 => ?_)
      refine sx_icmp_gt d_X11_ease_47 ?_ ?_
      · refine sx_iincV (lc' := fun v9 => [(3, .int v9), (0, .ref 255), (1, .int c1), (2, .int c2)]) (k0 := 3) d_X11_ease_52 rfl ii1 (by decide) (fun _ => rfl) (fun v9 => ?_)
        refine sx_goto d_X11_ease_55 ?_
        refine sx_lc (lc' := [(0, .ref 255), (1, .int c1), (2, .int c2), (3, .int v9)]) [1, 2, 3, 0] rfl ?_
        exact ih v9 h6
      · refine sx_iload_n d_X11_ease_50 3 rfl ?_
        exact sx_iret rfl d_X11_ease_51
set_option maxHeartbeats 4000000 in
set_option maxRecDepth 100000 in
theorem sp_X11_ease (d : Nat) (hd : 5 ≤ d) (a0 : Int32) (a1 : Int32) (h : HH) : Sp mi_X11_ease d iI [.ref 255, .int a0, .int a1] h (g_X11_ease a0 a1 h) := by
  refine sp_of (lc := [(0, .ref 255), (1, .int a0), (2, .int a1)]) (by decide) (Nat.le_of_ble_eq_true rfl) rfl ?_
  unfold g_X11_ease
  refine sx_aload_n d_X11_ease_0 0 rfl ?_
  refine sx_iconst d_X11_ease_1 ic0 ?_
  refine sx_putI fl_StairCountModel_148 sh_255 rfl hty_11_0 d_X11_ease_2 (fun h1 => ?_)
  refine sx_aload_n d_X11_ease_5 0 rfl ?_
  refine sx_iload_n d_X11_ease_6 1 rfl ?_
  refine sx_iload_n d_X11_ease_7 2 rfl ?_
  refine sx_callV [.int a0, .int a1] mv_X11_areOf lM_StairCountModel_437 sh_255 (by omega) rfl rfl (Nat.le_of_ble_eq_true rfl) d_X11_ease_8 (sp_X11_areOf (d - 1) (by omega) a0 a1 h1) (fun r3 h2 => ?_)
  refine sx_if_ne d_X11_ease_11 ?_ ?_
  · refine sx_iconst d_X11_ease_14 icm1 ?_
    exact sx_iret rfl d_X11_ease_15
  · refine sx_iconst d_X11_ease_16 ic0 ?_
    refine sx_istore_n (i := 3) (lc' := [(3, .int (0 : Int32)), (0, .ref 255), (1, .int a0), (2, .int a1)]) d_X11_ease_17 rfl (by decide) rfl ?_
    refine sx_lc (lc' := [(0, .ref 255), (1, .int a0), (2, .int a1), (3, .int (0 : Int32))]) [1, 2, 3, 0] rfl ?_
    refine sL_X11_ease_18 d hd a0 a1 1024 (0 : Int32) h2
theorem d_X11_betters_0 : DC mi_X11_betters 0 (.bipush 7) 2 2 := ⟨by decide +kernel, rfl⟩
theorem d_X11_betters_2 : DC mi_X11_betters 2 (.iload_n 1) 1 3 := ⟨by decide +kernel, rfl⟩
theorem d_X11_betters_3 : DC mi_X11_betters 3 (.imul) 1 4 := ⟨by decide +kernel, rfl⟩
theorem d_X11_betters_4 : DC mi_X11_betters 4 (.iload_n 2) 1 5 := ⟨by decide +kernel, rfl⟩
theorem d_X11_betters_5 : DC mi_X11_betters 5 (.iadd) 1 6 := ⟨by decide +kernel, rfl⟩
theorem d_X11_betters_6 : DC mi_X11_betters 6 (.istore 5) 2 8 := ⟨by decide +kernel, rfl⟩
theorem d_X11_betters_8 : DC mi_X11_betters 8 (.bipush 7) 2 10 := ⟨by decide +kernel, rfl⟩
theorem d_X11_betters_10 : DC mi_X11_betters 10 (.iload_n 1) 1 11 := ⟨by decide +kernel, rfl⟩
theorem d_X11_betters_11 : DC mi_X11_betters 11 (.imul) 1 12 := ⟨by decide +kernel, rfl⟩
theorem d_X11_betters_12 : DC mi_X11_betters 12 (.iload_n 3) 1 13 := ⟨by decide +kernel, rfl⟩
theorem d_X11_betters_13 : DC mi_X11_betters 13 (.iadd) 1 14 := ⟨by decide +kernel, rfl⟩
theorem d_X11_betters_14 : DC mi_X11_betters 14 (.istore 6) 2 16 := ⟨by decide +kernel, rfl⟩
theorem d_X11_betters_16 : DC mi_X11_betters 16 (.aload_n 0) 1 17 := ⟨by decide +kernel, rfl⟩
theorem d_X11_betters_17 : DC mi_X11_betters 17 (.getfield 111) 3 20 := ⟨by decide +kernel, rfl⟩
theorem d_X11_betters_20 : DC mi_X11_betters 20 (.iload 5) 2 22 := ⟨by decide +kernel, rfl⟩
theorem d_X11_betters_22 : DC mi_X11_betters 22 (.iaload) 1 23 := ⟨by decide +kernel, rfl⟩
theorem d_X11_betters_23 : DC mi_X11_betters 23 (.ldc_w 476) 3 26 := ⟨by decide +kernel, rfl⟩
theorem d_X11_betters_26 : DB mi_X11_betters 26 (.if_icmp .ne 5) 5 29 31 := ⟨by decide +kernel, rfl, by decide⟩
theorem d_X11_betters_29 : DC mi_X11_betters 29 (.iconst 0) 1 30 := ⟨by decide +kernel, rfl⟩
theorem d_X11_betters_30 : DC mi_X11_betters 30 (.ireturn) 1 31 := ⟨by decide +kernel, rfl⟩
theorem d_X11_betters_31 : DC mi_X11_betters 31 (.aload_n 0) 1 32 := ⟨by decide +kernel, rfl⟩
theorem d_X11_betters_32 : DC mi_X11_betters 32 (.getfield 111) 3 35 := ⟨by decide +kernel, rfl⟩
theorem d_X11_betters_35 : DC mi_X11_betters 35 (.iload 5) 2 37 := ⟨by decide +kernel, rfl⟩
theorem d_X11_betters_37 : DC mi_X11_betters 37 (.iaload) 1 38 := ⟨by decide +kernel, rfl⟩
theorem d_X11_betters_38 : DC mi_X11_betters 38 (.iload 4) 2 40 := ⟨by decide +kernel, rfl⟩
theorem d_X11_betters_40 : DC mi_X11_betters 40 (.iadd) 1 41 := ⟨by decide +kernel, rfl⟩
theorem d_X11_betters_41 : DC mi_X11_betters 41 (.istore 7) 2 43 := ⟨by decide +kernel, rfl⟩
theorem d_X11_betters_43 : DC mi_X11_betters 43 (.iload 7) 2 45 := ⟨by decide +kernel, rfl⟩
theorem d_X11_betters_45 : DC mi_X11_betters 45 (.aload_n 0) 1 46 := ⟨by decide +kernel, rfl⟩
theorem d_X11_betters_46 : DC mi_X11_betters 46 (.getfield 111) 3 49 := ⟨by decide +kernel, rfl⟩
theorem d_X11_betters_49 : DC mi_X11_betters 49 (.iload 6) 2 51 := ⟨by decide +kernel, rfl⟩
theorem d_X11_betters_51 : DC mi_X11_betters 51 (.iaload) 1 52 := ⟨by decide +kernel, rfl⟩
theorem d_X11_betters_52 : DB mi_X11_betters 52 (.if_icmp .gt 34) 34 55 86 := ⟨by decide +kernel, rfl, by decide⟩
theorem d_X11_betters_55 : DC mi_X11_betters 55 (.iload 7) 2 57 := ⟨by decide +kernel, rfl⟩
theorem d_X11_betters_57 : DC mi_X11_betters 57 (.aload_n 0) 1 58 := ⟨by decide +kernel, rfl⟩
theorem d_X11_betters_58 : DC mi_X11_betters 58 (.getfield 111) 3 61 := ⟨by decide +kernel, rfl⟩
theorem d_X11_betters_61 : DC mi_X11_betters 61 (.iload 6) 2 63 := ⟨by decide +kernel, rfl⟩
theorem d_X11_betters_63 : DC mi_X11_betters 63 (.iaload) 1 64 := ⟨by decide +kernel, rfl⟩
theorem d_X11_betters_64 : DB mi_X11_betters 64 (.if_icmp .ne 24) 24 67 88 := ⟨by decide +kernel, rfl, by decide⟩
theorem d_X11_betters_67 : DC mi_X11_betters 67 (.aload_n 0) 1 68 := ⟨by decide +kernel, rfl⟩
theorem d_X11_betters_68 : DC mi_X11_betters 68 (.getfield 114) 3 71 := ⟨by decide +kernel, rfl⟩
theorem d_X11_betters_71 : DC mi_X11_betters 71 (.iload 5) 2 73 := ⟨by decide +kernel, rfl⟩
theorem d_X11_betters_73 : DC mi_X11_betters 73 (.iaload) 1 74 := ⟨by decide +kernel, rfl⟩
theorem d_X11_betters_74 : DC mi_X11_betters 74 (.iconst 1) 1 75 := ⟨by decide +kernel, rfl⟩
theorem d_X11_betters_75 : DC mi_X11_betters 75 (.iadd) 1 76 := ⟨by decide +kernel, rfl⟩
theorem d_X11_betters_76 : DC mi_X11_betters 76 (.aload_n 0) 1 77 := ⟨by decide +kernel, rfl⟩
theorem d_X11_betters_77 : DC mi_X11_betters 77 (.getfield 114) 3 80 := ⟨by decide +kernel, rfl⟩
theorem d_X11_betters_80 : DC mi_X11_betters 80 (.iload 6) 2 82 := ⟨by decide +kernel, rfl⟩
theorem d_X11_betters_82 : DC mi_X11_betters 82 (.iaload) 1 83 := ⟨by decide +kernel, rfl⟩
theorem d_X11_betters_83 : DB mi_X11_betters 83 (.if_icmp .lt 5) 5 86 88 := ⟨by decide +kernel, rfl, by decide⟩
theorem d_X11_betters_86 : DC mi_X11_betters 86 (.iconst 0) 1 87 := ⟨by decide +kernel, rfl⟩
theorem d_X11_betters_87 : DC mi_X11_betters 87 (.ireturn) 1 88 := ⟨by decide +kernel, rfl⟩
theorem d_X11_betters_88 : DC mi_X11_betters 88 (.aload_n 0) 1 89 := ⟨by decide +kernel, rfl⟩
theorem d_X11_betters_89 : DC mi_X11_betters 89 (.getfield 111) 3 92 := ⟨by decide +kernel, rfl⟩
theorem d_X11_betters_92 : DC mi_X11_betters 92 (.iload 6) 2 94 := ⟨by decide +kernel, rfl⟩
theorem d_X11_betters_94 : DC mi_X11_betters 94 (.iload 7) 2 96 := ⟨by decide +kernel, rfl⟩
theorem d_X11_betters_96 : DC mi_X11_betters 96 (.iastore) 1 97 := ⟨by decide +kernel, rfl⟩
theorem d_X11_betters_97 : DC mi_X11_betters 97 (.aload_n 0) 1 98 := ⟨by decide +kernel, rfl⟩
theorem d_X11_betters_98 : DC mi_X11_betters 98 (.getfield 114) 3 101 := ⟨by decide +kernel, rfl⟩
theorem d_X11_betters_101 : DC mi_X11_betters 101 (.iload 6) 2 103 := ⟨by decide +kernel, rfl⟩
theorem d_X11_betters_103 : DC mi_X11_betters 103 (.aload_n 0) 1 104 := ⟨by decide +kernel, rfl⟩
theorem d_X11_betters_104 : DC mi_X11_betters 104 (.getfield 114) 3 107 := ⟨by decide +kernel, rfl⟩
theorem d_X11_betters_107 : DC mi_X11_betters 107 (.iload 5) 2 109 := ⟨by decide +kernel, rfl⟩
theorem d_X11_betters_109 : DC mi_X11_betters 109 (.iaload) 1 110 := ⟨by decide +kernel, rfl⟩
theorem d_X11_betters_110 : DC mi_X11_betters 110 (.iconst 1) 1 111 := ⟨by decide +kernel, rfl⟩
theorem d_X11_betters_111 : DC mi_X11_betters 111 (.iadd) 1 112 := ⟨by decide +kernel, rfl⟩
theorem d_X11_betters_112 : DC mi_X11_betters 112 (.iastore) 1 113 := ⟨by decide +kernel, rfl⟩
theorem d_X11_betters_113 : DC mi_X11_betters 113 (.iconst 1) 1 114 := ⟨by decide +kernel, rfl⟩
theorem d_X11_betters_114 : DC mi_X11_betters 114 (.ireturn) 1 115 := ⟨by decide +kernel, rfl⟩
set_option maxHeartbeats 4000000 in
set_option maxRecDepth 100000 in
theorem sp_X11_betters (d : Nat) (hd : 0 ≤ d) (a0 : Int32) (a1 : Int32) (a2 : Int32) (a3 : Int32) (h : HH) : Sp mi_X11_betters d iI [.ref 255, .int a0, .int a1, .int a2, .int a3] h (g_X11_betters a0 a1 a2 a3 h) := by
  refine sp_of (lc := [(0, .ref 255), (1, .int a0), (2, .int a1), (3, .int a2), (4, .int a3)]) (by decide) (Nat.le_of_ble_eq_true rfl) rfl ?_
  unfold g_X11_betters
  refine sx_bipush d_X11_betters_0 bc7 ?_
  refine sx_iload_n d_X11_betters_2 1 rfl ?_
  refine sx_imul d_X11_betters_3 ?_
  refine sx_iload_n d_X11_betters_4 2 rfl ?_
  refine sx_iadd d_X11_betters_5 ?_
  refine sx_vlI (fun v1 => ?_)
  refine sx_istore (i := 5) (lc' := [(5, .int v1), (0, .ref 255), (1, .int a0), (2, .int a1), (3, .int a2), (4, .int a3)]) d_X11_betters_6 (by decide) rfl ?_
  refine sx_bipush d_X11_betters_8 bc7 ?_
  refine sx_iload_n d_X11_betters_10 2 rfl ?_
  refine sx_imul d_X11_betters_11 ?_
  refine sx_iload_n d_X11_betters_12 4 rfl ?_
  refine sx_iadd d_X11_betters_13 ?_
  refine sx_vlI (fun v2 => ?_)
  refine sx_istore (i := 6) (lc' := [(6, .int v2), (5, .int v1), (0, .ref 255), (1, .int a0), (2, .int a1), (3, .int a2), (4, .int a3)]) d_X11_betters_14 (by decide) rfl ?_
  refine sx_aload_n d_X11_betters_16 2 rfl ?_
  refine sx_getF (a' := 285) fl_StairCountModel_111 sh_255 rfl rfl d_X11_betters_17 ?_
  refine sx_iload d_X11_betters_20 1 rfl ?_
  refine sx_iald sh_285 d_X11_betters_22 (fun v3 => ?_)
  refine sx_ldcw d_X11_betters_23 lK_StairCountModel_476 ?_
  refine sx_icmp_ne d_X11_betters_26 ?_ ?_
  · refine sx_iconst d_X11_betters_29 ic0 ?_
    exact sx_zret (by decide) rfl d_X11_betters_30
  · refine sx_aload_n d_X11_betters_31 2 rfl ?_
    refine sx_getF (a' := 285) fl_StairCountModel_111 sh_255 rfl rfl d_X11_betters_32 ?_
    refine sx_iload d_X11_betters_35 1 rfl ?_
    refine sx_iald sh_285 d_X11_betters_37 (fun v4 => ?_)
    refine sx_iload d_X11_betters_38 6 rfl ?_
    refine sx_iadd d_X11_betters_40 ?_
    refine sx_vlI (fun v5 => ?_)
    refine sx_istore (i := 7) (lc' := [(7, .int v5), (6, .int v2), (5, .int v1), (0, .ref 255), (1, .int a0), (2, .int a1), (3, .int a2), (4, .int a3)]) d_X11_betters_41 (by decide) rfl ?_
    refine sx_iload d_X11_betters_43 0 rfl ?_
    refine sx_aload_n d_X11_betters_45 3 rfl ?_
    refine sx_getF (a' := 285) fl_StairCountModel_111 sh_255 rfl rfl d_X11_betters_46 ?_
    refine sx_iload d_X11_betters_49 1 rfl ?_
    refine sx_iald sh_285 d_X11_betters_51 (fun v6 => ?_)
    refine sx_icmp_gt d_X11_betters_52 ?_ ?_
    · refine sx_iconst d_X11_betters_86 ic0 ?_
      exact sx_zret (by decide) rfl d_X11_betters_87
    · refine sx_iload d_X11_betters_55 0 rfl ?_
      refine sx_aload_n d_X11_betters_57 3 rfl ?_
      refine sx_getF (a' := 285) fl_StairCountModel_111 sh_255 rfl rfl d_X11_betters_58 ?_
      refine sx_iload d_X11_betters_61 1 rfl ?_
      refine sx_iald sh_285 d_X11_betters_63 (fun v7 => ?_)
      refine sx_jn (fun j => ∀  (h : HH), Sx mi_X11_betters d iI (j  h) 88 [(0, .ref 255), (5, .int v1), (6, .int v2), (7, .int v5)] [] h) ?_ ?_
      · intro  h10
        refine sx_aload_n d_X11_betters_88 0 rfl ?_
        refine sx_getF (a' := 285) fl_StairCountModel_111 sh_255 rfl rfl d_X11_betters_89 ?_
        refine sx_iload d_X11_betters_92 2 rfl ?_
        refine sx_iload d_X11_betters_94 3 rfl ?_
        refine sx_iast sh_285 d_X11_betters_96 (fun h11 => ?_)
        refine sx_aload_n d_X11_betters_97 0 rfl ?_
        refine sx_getF (a' := 286) fl_StairCountModel_114 sh_255 rfl rfl d_X11_betters_98 ?_
        refine sx_iload d_X11_betters_101 2 rfl ?_
        refine sx_aload_n d_X11_betters_103 0 rfl ?_
        refine sx_getF (a' := 286) fl_StairCountModel_114 sh_255 rfl rfl d_X11_betters_104 ?_
        refine sx_iload d_X11_betters_107 1 rfl ?_
        refine sx_iald sh_286 d_X11_betters_109 (fun v12 => ?_)
        refine sx_iconst d_X11_betters_110 ic1 ?_
        refine sx_iadd d_X11_betters_111 ?_
        refine sx_iast sh_286 d_X11_betters_112 (fun h13 => ?_)
        refine sx_iconst d_X11_betters_113 ic1 ?_
        exact sx_zret (by decide) rfl d_X11_betters_114
      · intro j8 k9
        refine sx_icmp_ne d_X11_betters_64 ?_ ?_
        · refine sx_aload_n d_X11_betters_67 3 rfl ?_
          refine sx_getF (a' := 286) fl_StairCountModel_114 sh_255 rfl rfl d_X11_betters_68 ?_
          refine sx_iload d_X11_betters_71 2 rfl ?_
          refine sx_iald sh_286 d_X11_betters_73 (fun v14 => ?_)
          refine sx_iconst d_X11_betters_74 ic1 ?_
          refine sx_iadd d_X11_betters_75 ?_
          refine sx_aload_n d_X11_betters_76 3 rfl ?_
          refine sx_getF (a' := 286) fl_StairCountModel_114 sh_255 rfl rfl d_X11_betters_77 ?_
          refine sx_iload d_X11_betters_80 1 rfl ?_
          refine sx_iald sh_286 d_X11_betters_82 (fun v15 => ?_)
          refine sx_icmp_lt d_X11_betters_83 ?_ ?_
          · refine sx_lc (lc' := [(0, .ref 255), (5, .int v1), (6, .int v2), (7, .int v5)]) [3, 2, 1, 0] rfl ?_
            exact k9 h
          · refine sx_iconst d_X11_betters_86 ic0 ?_
            exact sx_zret (by decide) rfl d_X11_betters_87
        · refine sx_lc (lc' := [(0, .ref 255), (5, .int v1), (6, .int v2), (7, .int v5)]) [3, 2, 1, 0] rfl ?_
          exact k9 h
