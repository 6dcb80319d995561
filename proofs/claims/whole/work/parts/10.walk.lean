/-! walks: X0_begin, X0_rankOf, X0_comesFirst, X0_lineUp, X7_addTired, X0_swing, X7_drawn, X0_slips, X0_joined, X0_nameOf, X10_cell, X0_valueOf, X0_steepOf, X7_addTally -/
theorem d_X0_begin_0 : DC mi_X0_begin 0 (.aload_n 0) 1 1 := ⟨by decide +kernel, rfl⟩
theorem d_X0_begin_1 : DC mi_X0_begin 1 (.aload_n 1) 1 2 := ⟨by decide +kernel, rfl⟩
theorem d_X0_begin_2 : DC mi_X0_begin 2 (.putfield 31) 3 5 := ⟨by decide +kernel, rfl⟩
theorem d_X0_begin_5 : DC mi_X0_begin 5 (.aload_n 0) 1 6 := ⟨by decide +kernel, rfl⟩
theorem d_X0_begin_6 : DC mi_X0_begin 6 (.aload_n 2) 1 7 := ⟨by decide +kernel, rfl⟩
theorem d_X0_begin_7 : DC mi_X0_begin 7 (.putfield 35) 3 10 := ⟨by decide +kernel, rfl⟩
theorem d_X0_begin_10 : DC mi_X0_begin 10 (.aload_n 0) 1 11 := ⟨by decide +kernel, rfl⟩
theorem d_X0_begin_11 : DC mi_X0_begin 11 (.iload_n 3) 1 12 := ⟨by decide +kernel, rfl⟩
theorem d_X0_begin_12 : DC mi_X0_begin 12 (.putfield 50) 3 15 := ⟨by decide +kernel, rfl⟩
theorem d_X0_begin_15 : DC mi_X0_begin 15 (.aload_n 0) 1 16 := ⟨by decide +kernel, rfl⟩
theorem d_X0_begin_16 : DC mi_X0_begin 16 (.iconst (-1)) 1 17 := ⟨by decide +kernel, rfl⟩
theorem d_X0_begin_17 : DC mi_X0_begin 17 (.putfield 54) 3 20 := ⟨by decide +kernel, rfl⟩
theorem d_X0_begin_20 : DC mi_X0_begin 20 (.aload_n 0) 1 21 := ⟨by decide +kernel, rfl⟩
theorem d_X0_begin_21 : DC mi_X0_begin 21 (.iconst 0) 1 22 := ⟨by decide +kernel, rfl⟩
theorem d_X0_begin_22 : DC mi_X0_begin 22 (.putfield 57) 3 25 := ⟨by decide +kernel, rfl⟩
theorem d_X0_begin_25 : DC mi_X0_begin 25 (.aload_n 0) 1 26 := ⟨by decide +kernel, rfl⟩
theorem d_X0_begin_26 : DC mi_X0_begin 26 (.aload_n 1) 1 27 := ⟨by decide +kernel, rfl⟩
theorem d_X0_begin_27 : DC mi_X0_begin 27 (.getfield 61) 3 30 := ⟨by decide +kernel, rfl⟩
theorem d_X0_begin_30 : DC mi_X0_begin 30 (.putfield 41) 3 33 := ⟨by decide +kernel, rfl⟩
theorem d_X0_begin_33 : DC mi_X0_begin 33 (.return_) 1 34 := ⟨by decide +kernel, rfl⟩
set_option maxHeartbeats 4000000 in
set_option maxRecDepth 100000 in
theorem sp_X0_begin (d : Nat) (hd : 0 ≤ d) (a0 : Nat) (a1 : Nat) (a2 : Int32) (h : HH) : Sp mi_X0_begin d iU [.ref 193, .ref a0, .ref a1, .int a2] h (g_X0_begin a0 a1 a2 h) := by
  refine sp_of (lc := [(0, .ref 193), (1, .ref a0), (2, .ref a1), (3, .int a2)]) (by decide) (Nat.le_of_ble_eq_true rfl) rfl ?_
  unfold g_X0_begin
  refine sx_ckH (fun ha0 => ?_)
  refine sx_ckH (fun ha1 => ?_)
  refine sx_aload_n d_X0_begin_0 0 rfl ?_
  refine sx_aload_n d_X0_begin_1 1 rfl ?_
  refine sx_putR (ty := (.object "StairCount$Plan")) fl_StairCount_Course_31 sh_193 rfl hty_0_4 (fun _ => ⟨rfl, rfl⟩) rfl d_X0_begin_2 (fun h1 => ?_)
  refine sx_aload_n d_X0_begin_5 0 rfl ?_
  refine sx_aload_n d_X0_begin_6 2 rfl ?_
  refine sx_putR (ty := (.object "StairCount$State")) fl_StairCount_Course_35 sh_193 rfl hty_0_5 (fun _ => ⟨rfl, rfl⟩) rfl d_X0_begin_7 (fun h2 => ?_)
  refine sx_aload_n d_X0_begin_10 0 rfl ?_
  refine sx_iload_n d_X0_begin_11 3 rfl ?_
  refine sx_putI fl_StairCount_Course_50 sh_193 rfl hty_0_6 d_X0_begin_12 (fun h3 => ?_)
  refine sx_aload_n d_X0_begin_15 0 rfl ?_
  refine sx_iconst d_X0_begin_16 icm1 ?_
  refine sx_putI fl_StairCount_Course_54 sh_193 rfl hty_0_7 d_X0_begin_17 (fun h4 => ?_)
  refine sx_aload_n d_X0_begin_20 0 rfl ?_
  refine sx_iconst d_X0_begin_21 ic0 ?_
  refine sx_putZ (by decide) fl_StairCount_Course_57 sh_193 rfl hty_0_8 d_X0_begin_22 (fun h5 => ?_)
  refine sx_aload_n d_X0_begin_25 0 rfl ?_
  refine sx_aload_n d_X0_begin_26 1 rfl ?_
  refine sx_getF (a' := (a0 + 3)) fl_StairCount_Course_61 ha0 rfl rfl d_X0_begin_27 ?_
  refine sx_putR (ty := (.array .int)) fl_StairCount_Course_41 sh_193 rfl hty_0_10 (fun _ => ⟨rfl, rfl⟩) rfl d_X0_begin_30 (fun h6 => ?_)
  exact sx_vret rfl d_X0_begin_33
theorem d_X0_rankOf_0 : DC mi_X0_rankOf 0 (.aload_n 0) 1 1 := ⟨by decide +kernel, rfl⟩
theorem d_X0_rankOf_1 : DC mi_X0_rankOf 1 (.getfield 31) 3 4 := ⟨by decide +kernel, rfl⟩
theorem d_X0_rankOf_4 : DC mi_X0_rankOf 4 (.getfield 85) 3 7 := ⟨by decide +kernel, rfl⟩
theorem d_X0_rankOf_7 : DC mi_X0_rankOf 7 (.iload_n 1) 1 8 := ⟨by decide +kernel, rfl⟩
theorem d_X0_rankOf_8 : DC mi_X0_rankOf 8 (.iaload) 1 9 := ⟨by decide +kernel, rfl⟩
theorem d_X0_rankOf_9 : DC mi_X0_rankOf 9 (.istore_n 2) 1 10 := ⟨by decide +kernel, rfl⟩
theorem d_X0_rankOf_10 : DC mi_X0_rankOf 10 (.iload_n 2) 1 11 := ⟨by decide +kernel, rfl⟩
theorem d_X0_rankOf_11 : DC mi_X0_rankOf 11 (.bipush 24) 2 13 := ⟨by decide +kernel, rfl⟩
theorem d_X0_rankOf_13 : DB mi_X0_rankOf 13 (.if_icmp .ne 5) 5 16 18 := ⟨by decide +kernel, rfl, by decide⟩
theorem d_X0_rankOf_16 : DC mi_X0_rankOf 16 (.iconst 0) 1 17 := ⟨by decide +kernel, rfl⟩
theorem d_X0_rankOf_17 : DC mi_X0_rankOf 17 (.ireturn) 1 18 := ⟨by decide +kernel, rfl⟩
theorem d_X0_rankOf_18 : DC mi_X0_rankOf 18 (.aload_n 0) 1 19 := ⟨by decide +kernel, rfl⟩
theorem d_X0_rankOf_19 : DC mi_X0_rankOf 19 (.getfield 31) 3 22 := ⟨by decide +kernel, rfl⟩
theorem d_X0_rankOf_22 : DC mi_X0_rankOf 22 (.getfield 82) 3 25 := ⟨by decide +kernel, rfl⟩
theorem d_X0_rankOf_25 : DC mi_X0_rankOf 25 (.iload_n 1) 1 26 := ⟨by decide +kernel, rfl⟩
theorem d_X0_rankOf_26 : DC mi_X0_rankOf 26 (.iaload) 1 27 := ⟨by decide +kernel, rfl⟩
theorem d_X0_rankOf_27 : DC mi_X0_rankOf 27 (.aload_n 0) 1 28 := ⟨by decide +kernel, rfl⟩
theorem d_X0_rankOf_28 : DC mi_X0_rankOf 28 (.getfield 35) 3 31 := ⟨by decide +kernel, rfl⟩
theorem d_X0_rankOf_31 : DC mi_X0_rankOf 31 (.getfield 98) 3 34 := ⟨by decide +kernel, rfl⟩
theorem d_X0_rankOf_34 : DC mi_X0_rankOf 34 (.aload_n 0) 1 35 := ⟨by decide +kernel, rfl⟩
theorem d_X0_rankOf_35 : DC mi_X0_rankOf 35 (.getfield 31) 3 38 := ⟨by decide +kernel, rfl⟩
theorem d_X0_rankOf_38 : DC mi_X0_rankOf 38 (.getfield 79) 3 41 := ⟨by decide +kernel, rfl⟩
theorem d_X0_rankOf_41 : DC mi_X0_rankOf 41 (.iload_n 1) 1 42 := ⟨by decide +kernel, rfl⟩
theorem d_X0_rankOf_42 : DC mi_X0_rankOf 42 (.iaload) 1 43 := ⟨by decide +kernel, rfl⟩
theorem d_X0_rankOf_43 : DC mi_X0_rankOf 43 (.iaload) 1 44 := ⟨by decide +kernel, rfl⟩
theorem d_X0_rankOf_44 : DB mi_X0_rankOf 44 (.if_icmp .ge 7) 7 47 51 := ⟨by decide +kernel, rfl, by decide⟩
theorem d_X0_rankOf_47 : DC mi_X0_rankOf 47 (.iconst 1) 1 48 := ⟨by decide +kernel, rfl⟩
theorem d_X0_rankOf_48 : DB mi_X0_rankOf 48 (.goto 4) 4 51 52 := ⟨by decide +kernel, rfl, by decide⟩
theorem d_X0_rankOf_51 : DC mi_X0_rankOf 51 (.iconst 0) 1 52 := ⟨by decide +kernel, rfl⟩
theorem d_X0_rankOf_52 : DC mi_X0_rankOf 52 (.istore_n 3) 1 53 := ⟨by decide +kernel, rfl⟩
theorem d_X0_rankOf_53 : DC mi_X0_rankOf 53 (.iload_n 2) 1 54 := ⟨by decide +kernel, rfl⟩
theorem d_X0_rankOf_54 : DC mi_X0_rankOf 54 (.bipush 22) 2 56 := ⟨by decide +kernel, rfl⟩
theorem d_X0_rankOf_56 : DB mi_X0_rankOf 56 (.if_icmp .ne 11) 11 59 67 := ⟨by decide +kernel, rfl, by decide⟩
theorem d_X0_rankOf_59 : DC mi_X0_rankOf 59 (.iload_n 3) 1 60 := ⟨by decide +kernel, rfl⟩
theorem d_X0_rankOf_60 : DB mi_X0_rankOf 60 (.ifCond .eq 7) 7 63 67 := ⟨by decide +kernel, rfl, by decide⟩
theorem d_X0_rankOf_63 : DC mi_X0_rankOf 63 (.iconst 1) 1 64 := ⟨by decide +kernel, rfl⟩
theorem d_X0_rankOf_64 : DB mi_X0_rankOf 64 (.goto 4) 4 67 68 := ⟨by decide +kernel, rfl, by decide⟩
theorem d_X0_rankOf_67 : DC mi_X0_rankOf 67 (.iconst 2) 1 68 := ⟨by decide +kernel, rfl⟩
theorem d_X0_rankOf_68 : DC mi_X0_rankOf 68 (.ireturn) 1 69 := ⟨by decide +kernel, rfl⟩
set_option maxHeartbeats 4000000 in
set_option maxRecDepth 100000 in
theorem sp_X0_rankOf (d : Nat) (hd : 0 ≤ d) (a0 : Int32) (h : HH) : Sp mi_X0_rankOf d iI [.ref 193, .int a0] h (g_X0_rankOf a0 h) := by
  refine sp_of (lc := [(0, .ref 193), (1, .int a0)]) (by decide) (Nat.le_of_ble_eq_true rfl) rfl ?_
  unfold g_X0_rankOf
  refine sx_aload_n d_X0_rankOf_0 0 rfl ?_
  refine sx_getR fl_StairCount_Course_31 sh_193 rfl d_X0_rankOf_1 (fun p1 => ?_)
  refine sx_ckH (fun ep1 => ?_)
  refine sx_getF (a' := (p1 + 7)) fl_StairCount_Course_85 ep1 rfl rfl d_X0_rankOf_4 ?_
  refine sx_iload_n d_X0_rankOf_7 1 rfl ?_
  refine sx_iald (shf_5_10 ep1) d_X0_rankOf_8 (fun v2 => ?_)
  refine sx_istore_n (i := 2) (lc' := [(2, .int v2), (0, .ref 193), (1, .int a0)]) d_X0_rankOf_9 rfl (by decide) rfl ?_
  refine sx_iload_n d_X0_rankOf_10 0 rfl ?_
  refine sx_bipush d_X0_rankOf_11 bc24 ?_
  refine sx_icmp_ne d_X0_rankOf_13 ?_ ?_
  · refine sx_iconst d_X0_rankOf_16 ic0 ?_
    exact sx_iret rfl d_X0_rankOf_17
  · refine sx_aload_n d_X0_rankOf_18 1 rfl ?_
    refine sx_getR fl_StairCount_Course_31 sh_193 rfl d_X0_rankOf_19 (fun p3 => ?_)
    refine sx_ckH (fun ep3 => ?_)
    refine sx_getF (a' := (p3 + 10)) fl_StairCount_Course_82 ep3 rfl rfl d_X0_rankOf_22 ?_
    refine sx_iload_n d_X0_rankOf_25 2 rfl ?_
    refine sx_iald (shf_5_13 ep3) d_X0_rankOf_26 (fun v4 => ?_)
    refine sx_aload_n d_X0_rankOf_27 1 rfl ?_
    refine sx_getR fl_StairCount_Course_35 sh_193 rfl d_X0_rankOf_28 (fun p5 => ?_)
    refine sx_ckH (fun ep5 => ?_)
    refine sx_getF (a' := (p5 + 1)) fl_StairCount_Course_98 ep5 rfl rfl d_X0_rankOf_31 ?_
    refine sx_aload_n d_X0_rankOf_34 1 rfl ?_
    refine sx_getR fl_StairCount_Course_31 sh_193 rfl d_X0_rankOf_35 (fun p6 => ?_)
    refine sx_ckH (fun ep6 => ?_)
    refine sx_getF (a' := (p6 + 8)) fl_StairCount_Course_79 ep6 rfl rfl d_X0_rankOf_38 ?_
    refine sx_iload_n d_X0_rankOf_41 2 rfl ?_
    refine sx_iald (shf_5_11 ep6) d_X0_rankOf_42 (fun v7 => ?_)
    refine sx_iald (shf_7_0 ep5) d_X0_rankOf_43 (fun v8 => ?_)
    refine sx_jn (fun j => ∀ (y12 : Int32) (h : HH), Sx mi_X0_rankOf d iI (j y12 h) 52 [(2, .int v2)] [.int y12] h) ?_ ?_
    · intro y12 h11
      refine sx_istore_n (i := 3) (lc' := [(3, .int y12), (2, .int v2)]) d_X0_rankOf_52 rfl (by decide) rfl ?_
      refine sx_iload_n d_X0_rankOf_53 1 rfl ?_
      refine sx_bipush d_X0_rankOf_54 bc22 ?_
      refine sx_icmp_ne d_X0_rankOf_56 ?_ ?_
      · refine sx_iload_n d_X0_rankOf_59 0 rfl ?_
        refine sx_if_eq d_X0_rankOf_60 ?_ ?_
        · refine sx_iconst d_X0_rankOf_67 ic2 ?_
          exact sx_iret rfl d_X0_rankOf_68
        · refine sx_iconst d_X0_rankOf_63 ic1 ?_
          refine sx_goto d_X0_rankOf_64 ?_
          exact sx_iret rfl d_X0_rankOf_68
      · refine sx_iconst d_X0_rankOf_67 ic2 ?_
        exact sx_iret rfl d_X0_rankOf_68
    · intro j9 k10
      refine sx_icmp_ge d_X0_rankOf_44 ?_ ?_
      · refine sx_iconst d_X0_rankOf_47 ic1 ?_
        refine sx_goto d_X0_rankOf_48 ?_
        refine sx_lc (lc' := [(2, .int v2)]) [0] rfl ?_
        exact k10 (1 : Int32) h
      · refine sx_iconst d_X0_rankOf_51 ic0 ?_
        refine sx_lc (lc' := [(2, .int v2)]) [0] rfl ?_
        exact k10 (0 : Int32) h
theorem d_X0_comesFirst_0 : DC mi_X0_comesFirst 0 (.aload_n 0) 1 1 := ⟨by decide +kernel, rfl⟩
theorem d_X0_comesFirst_1 : DC mi_X0_comesFirst 1 (.iload_n 1) 1 2 := ⟨by decide +kernel, rfl⟩
theorem d_X0_comesFirst_2 : DC mi_X0_comesFirst 2 (.invokevirtual 110) 3 5 := ⟨by decide +kernel, rfl⟩
theorem d_X0_comesFirst_5 : DC mi_X0_comesFirst 5 (.istore_n 3) 1 6 := ⟨by decide +kernel, rfl⟩
theorem d_X0_comesFirst_6 : DC mi_X0_comesFirst 6 (.aload_n 0) 1 7 := ⟨by decide +kernel, rfl⟩
theorem d_X0_comesFirst_7 : DC mi_X0_comesFirst 7 (.iload_n 2) 1 8 := ⟨by decide +kernel, rfl⟩
theorem d_X0_comesFirst_8 : DC mi_X0_comesFirst 8 (.invokevirtual 110) 3 11 := ⟨by decide +kernel, rfl⟩
theorem d_X0_comesFirst_11 : DC mi_X0_comesFirst 11 (.istore 4) 2 13 := ⟨by decide +kernel, rfl⟩
theorem d_X0_comesFirst_13 : DC mi_X0_comesFirst 13 (.iload_n 3) 1 14 := ⟨by decide +kernel, rfl⟩
theorem d_X0_comesFirst_14 : DC mi_X0_comesFirst 14 (.iload 4) 2 16 := ⟨by decide +kernel, rfl⟩
theorem d_X0_comesFirst_16 : DB mi_X0_comesFirst 16 (.if_icmp .eq 15) 15 19 31 := ⟨by decide +kernel, rfl, by decide⟩
theorem d_X0_comesFirst_19 : DC mi_X0_comesFirst 19 (.iload_n 3) 1 20 := ⟨by decide +kernel, rfl⟩
theorem d_X0_comesFirst_20 : DC mi_X0_comesFirst 20 (.iload 4) 2 22 := ⟨by decide +kernel, rfl⟩
theorem d_X0_comesFirst_22 : DB mi_X0_comesFirst 22 (.if_icmp .ge 7) 7 25 29 := ⟨by decide +kernel, rfl, by decide⟩
theorem d_X0_comesFirst_25 : DC mi_X0_comesFirst 25 (.iconst 1) 1 26 := ⟨by decide +kernel, rfl⟩
theorem d_X0_comesFirst_26 : DB mi_X0_comesFirst 26 (.goto 4) 4 29 30 := ⟨by decide +kernel, rfl, by decide⟩
theorem d_X0_comesFirst_29 : DC mi_X0_comesFirst 29 (.iconst 0) 1 30 := ⟨by decide +kernel, rfl⟩
theorem d_X0_comesFirst_30 : DC mi_X0_comesFirst 30 (.ireturn) 1 31 := ⟨by decide +kernel, rfl⟩
theorem d_X0_comesFirst_31 : DC mi_X0_comesFirst 31 (.aload_n 0) 1 32 := ⟨by decide +kernel, rfl⟩
theorem d_X0_comesFirst_32 : DC mi_X0_comesFirst 32 (.getfield 41) 3 35 := ⟨by decide +kernel, rfl⟩
theorem d_X0_comesFirst_35 : DC mi_X0_comesFirst 35 (.aload_n 0) 1 36 := ⟨by decide +kernel, rfl⟩
theorem d_X0_comesFirst_36 : DC mi_X0_comesFirst 36 (.getfield 31) 3 39 := ⟨by decide +kernel, rfl⟩
theorem d_X0_comesFirst_39 : DC mi_X0_comesFirst 39 (.getfield 79) 3 42 := ⟨by decide +kernel, rfl⟩
theorem d_X0_comesFirst_42 : DC mi_X0_comesFirst 42 (.iload_n 1) 1 43 := ⟨by decide +kernel, rfl⟩
theorem d_X0_comesFirst_43 : DC mi_X0_comesFirst 43 (.iaload) 1 44 := ⟨by decide +kernel, rfl⟩
theorem d_X0_comesFirst_44 : DC mi_X0_comesFirst 44 (.iaload) 1 45 := ⟨by decide +kernel, rfl⟩
theorem d_X0_comesFirst_45 : DC mi_X0_comesFirst 45 (.aload_n 0) 1 46 := ⟨by decide +kernel, rfl⟩
theorem d_X0_comesFirst_46 : DC mi_X0_comesFirst 46 (.getfield 41) 3 49 := ⟨by decide +kernel, rfl⟩
theorem d_X0_comesFirst_49 : DC mi_X0_comesFirst 49 (.aload_n 0) 1 50 := ⟨by decide +kernel, rfl⟩
theorem d_X0_comesFirst_50 : DC mi_X0_comesFirst 50 (.getfield 31) 3 53 := ⟨by decide +kernel, rfl⟩
theorem d_X0_comesFirst_53 : DC mi_X0_comesFirst 53 (.getfield 79) 3 56 := ⟨by decide +kernel, rfl⟩
theorem d_X0_comesFirst_56 : DC mi_X0_comesFirst 56 (.iload_n 2) 1 57 := ⟨by decide +kernel, rfl⟩
theorem d_X0_comesFirst_57 : DC mi_X0_comesFirst 57 (.iaload) 1 58 := ⟨by decide +kernel, rfl⟩
theorem d_X0_comesFirst_58 : DC mi_X0_comesFirst 58 (.iaload) 1 59 := ⟨by decide +kernel, rfl⟩
theorem d_X0_comesFirst_59 : DB mi_X0_comesFirst 59 (.if_icmp .le 7) 7 62 66 := ⟨by decide +kernel, rfl, by decide⟩
theorem d_X0_comesFirst_62 : DC mi_X0_comesFirst 62 (.iconst 1) 1 63 := ⟨by decide +kernel, rfl⟩
theorem d_X0_comesFirst_63 : DB mi_X0_comesFirst 63 (.goto 4) 4 66 67 := ⟨by decide +kernel, rfl, by decide⟩
theorem d_X0_comesFirst_66 : DC mi_X0_comesFirst 66 (.iconst 0) 1 67 := ⟨by decide +kernel, rfl⟩
theorem d_X0_comesFirst_67 : DC mi_X0_comesFirst 67 (.ireturn) 1 68 := ⟨by decide +kernel, rfl⟩
set_option maxHeartbeats 4000000 in
set_option maxRecDepth 100000 in
theorem sp_X0_comesFirst (d : Nat) (hd : 1 ≤ d) (a0 : Int32) (a1 : Int32) (h : HH) : Sp mi_X0_comesFirst d iI [.ref 193, .int a0, .int a1] h (g_X0_comesFirst a0 a1 h) := by
  refine sp_of (lc := [(0, .ref 193), (1, .int a0), (2, .int a1)]) (by decide) (Nat.le_of_ble_eq_true rfl) rfl ?_
  unfold g_X0_comesFirst
  refine sx_aload_n d_X0_comesFirst_0 0 rfl ?_
  refine sx_iload_n d_X0_comesFirst_1 1 rfl ?_
  refine sx_callV [.int a0] mv_X0_rankOf lM_StairCount_Course_110 sh_193 (by omega) rfl rfl (Nat.le_of_ble_eq_true rfl) d_X0_comesFirst_2 (sp_X0_rankOf (d - 1) (by omega) a0 h) (fun r2 h1 => ?_)
  refine sx_istore_n (i := 3) (lc' := [(3, .int r2), (0, .ref 193), (1, .int a0), (2, .int a1)]) d_X0_comesFirst_5 rfl (by decide) rfl ?_
  refine sx_aload_n d_X0_comesFirst_6 1 rfl ?_
  refine sx_iload_n d_X0_comesFirst_7 3 rfl ?_
  refine sx_callV [.int a1] mv_X0_rankOf lM_StairCount_Course_110 sh_193 (by omega) rfl rfl (Nat.le_of_ble_eq_true rfl) d_X0_comesFirst_8 (sp_X0_rankOf (d - 1) (by omega) a1 h1) (fun r4 h3 => ?_)
  refine sx_istore (i := 4) (lc' := [(4, .int r4), (3, .int r2), (0, .ref 193), (1, .int a0), (2, .int a1)]) d_X0_comesFirst_11 (by decide) rfl ?_
  refine sx_iload_n d_X0_comesFirst_13 1 rfl ?_
  refine sx_iload d_X0_comesFirst_14 0 rfl ?_
  refine sx_icmp_eq d_X0_comesFirst_16 ?_ ?_
  · refine sx_aload_n d_X0_comesFirst_31 2 rfl ?_
    refine sx_getR fl_StairCount_Course_41 sh_193 rfl d_X0_comesFirst_32 (fun p5 => ?_)
    refine sx_ckH (fun ep5 => ?_)
    refine sx_aload_n d_X0_comesFirst_35 2 rfl ?_
    refine sx_getR fl_StairCount_Course_31 sh_193 rfl d_X0_comesFirst_36 (fun p6 => ?_)
    refine sx_ckH (fun ep6 => ?_)
    refine sx_getF (a' := (p6 + 8)) fl_StairCount_Course_79 ep6 rfl rfl d_X0_comesFirst_39 ?_
    refine sx_iload_n d_X0_comesFirst_42 3 rfl ?_
    refine sx_iald (shf_5_11 ep6) d_X0_comesFirst_43 (fun v7 => ?_)
    refine sx_iald ep5 d_X0_comesFirst_44 (fun v8 => ?_)
    refine sx_aload_n d_X0_comesFirst_45 2 rfl ?_
    refine sx_getR fl_StairCount_Course_41 sh_193 rfl d_X0_comesFirst_46 (fun p9 => ?_)
    refine sx_ckH (fun ep9 => ?_)
    refine sx_aload_n d_X0_comesFirst_49 2 rfl ?_
    refine sx_getR fl_StairCount_Course_31 sh_193 rfl d_X0_comesFirst_50 (fun p10 => ?_)
    refine sx_ckH (fun ep10 => ?_)
    refine sx_getF (a' := (p10 + 8)) fl_StairCount_Course_79 ep10 rfl rfl d_X0_comesFirst_53 ?_
    refine sx_iload_n d_X0_comesFirst_56 4 rfl ?_
    refine sx_iald (shf_5_11 ep10) d_X0_comesFirst_57 (fun v11 => ?_)
    refine sx_iald ep9 d_X0_comesFirst_58 (fun v12 => ?_)
    refine sx_icmp_le d_X0_comesFirst_59 ?_ ?_
    · refine sx_iconst d_X0_comesFirst_62 ic1 ?_
      refine sx_goto d_X0_comesFirst_63 ?_
      exact sx_zret (by decide) rfl d_X0_comesFirst_67
    · refine sx_iconst d_X0_comesFirst_66 ic0 ?_
      exact sx_zret (by decide) rfl d_X0_comesFirst_67
  · refine sx_iload_n d_X0_comesFirst_19 1 rfl ?_
    refine sx_iload d_X0_comesFirst_20 0 rfl ?_
    refine sx_icmp_ge d_X0_comesFirst_22 ?_ ?_
    · refine sx_iconst d_X0_comesFirst_25 ic1 ?_
      refine sx_goto d_X0_comesFirst_26 ?_
      exact sx_zret (by decide) rfl d_X0_comesFirst_30
    · refine sx_iconst d_X0_comesFirst_29 ic0 ?_
      exact sx_zret (by decide) rfl d_X0_comesFirst_30
theorem d_X0_lineUp_0 : DC mi_X0_lineUp 0 (.aload_n 0) 1 1 := ⟨by decide +kernel, rfl⟩
theorem d_X0_lineUp_1 : DC mi_X0_lineUp 1 (.iconst 0) 1 2 := ⟨by decide +kernel, rfl⟩
theorem d_X0_lineUp_2 : DC mi_X0_lineUp 2 (.putfield 76) 3 5 := ⟨by decide +kernel, rfl⟩
theorem d_X0_lineUp_5 : DC mi_X0_lineUp 5 (.iconst 0) 1 6 := ⟨by decide +kernel, rfl⟩
theorem d_X0_lineUp_6 : DC mi_X0_lineUp 6 (.istore_n 2) 1 7 := ⟨by decide +kernel, rfl⟩
theorem d_X0_lineUp_7 : DC mi_X0_lineUp 7 (.iload_n 2) 1 8 := ⟨by decide +kernel, rfl⟩
theorem d_X0_lineUp_8 : DC mi_X0_lineUp 8 (.aload_n 0) 1 9 := ⟨by decide +kernel, rfl⟩
theorem d_X0_lineUp_9 : DC mi_X0_lineUp 9 (.getfield 31) 3 12 := ⟨by decide +kernel, rfl⟩
theorem d_X0_lineUp_12 : DC mi_X0_lineUp 12 (.getfield 101) 3 15 := ⟨by decide +kernel, rfl⟩
theorem d_X0_lineUp_15 : DB mi_X0_lineUp 15 (.if_icmp .ge 110) 110 18 125 := ⟨by decide +kernel, rfl, by decide⟩
theorem d_X0_lineUp_18 : DC mi_X0_lineUp 18 (.aload_n 0) 1 19 := ⟨by decide +kernel, rfl⟩
theorem d_X0_lineUp_19 : DC mi_X0_lineUp 19 (.getfield 31) 3 22 := ⟨by decide +kernel, rfl⟩
theorem d_X0_lineUp_22 : DC mi_X0_lineUp 22 (.getfield 104) 3 25 := ⟨by decide +kernel, rfl⟩
theorem d_X0_lineUp_25 : DC mi_X0_lineUp 25 (.iload_n 2) 1 26 := ⟨by decide +kernel, rfl⟩
theorem d_X0_lineUp_26 : DC mi_X0_lineUp 26 (.iaload) 1 27 := ⟨by decide +kernel, rfl⟩
theorem d_X0_lineUp_27 : DC mi_X0_lineUp 27 (.iload_n 1) 1 28 := ⟨by decide +kernel, rfl⟩
theorem d_X0_lineUp_28 : DB mi_X0_lineUp 28 (.if_icmp .ne 91) 91 31 119 := ⟨by decide +kernel, rfl, by decide⟩
theorem d_X0_lineUp_31 : DC mi_X0_lineUp 31 (.aload_n 0) 1 32 := ⟨by decide +kernel, rfl⟩
theorem d_X0_lineUp_32 : DC mi_X0_lineUp 32 (.getfield 31) 3 35 := ⟨by decide +kernel, rfl⟩
theorem d_X0_lineUp_35 : DC mi_X0_lineUp 35 (.getfield 79) 3 38 := ⟨by decide +kernel, rfl⟩
theorem d_X0_lineUp_38 : DC mi_X0_lineUp 38 (.iload_n 2) 1 39 := ⟨by decide +kernel, rfl⟩
theorem d_X0_lineUp_39 : DC mi_X0_lineUp 39 (.iaload) 1 40 := ⟨by decide +kernel, rfl⟩
theorem d_X0_lineUp_40 : DC mi_X0_lineUp 40 (.aload_n 0) 1 41 := ⟨by decide +kernel, rfl⟩
theorem d_X0_lineUp_41 : DC mi_X0_lineUp 41 (.getfield 54) 3 44 := ⟨by decide +kernel, rfl⟩
theorem d_X0_lineUp_44 : DB mi_X0_lineUp 44 (.if_icmp .eq 75) 75 47 119 := ⟨by decide +kernel, rfl, by decide⟩
theorem d_X0_lineUp_47 : DC mi_X0_lineUp 47 (.aload_n 0) 1 48 := ⟨by decide +kernel, rfl⟩
theorem d_X0_lineUp_48 : DC mi_X0_lineUp 48 (.getfield 76) 3 51 := ⟨by decide +kernel, rfl⟩
theorem d_X0_lineUp_51 : DC mi_X0_lineUp 51 (.istore_n 3) 1 52 := ⟨by decide +kernel, rfl⟩
theorem d_X0_lineUp_52 : DC mi_X0_lineUp 52 (.aload_n 0) 1 53 := ⟨by decide +kernel, rfl⟩
theorem d_X0_lineUp_53 : DC mi_X0_lineUp 53 (.getfield 76) 3 56 := ⟨by decide +kernel, rfl⟩
theorem d_X0_lineUp_56 : DC mi_X0_lineUp 56 (.istore 4) 2 58 := ⟨by decide +kernel, rfl⟩
theorem d_X0_lineUp_58 : DC mi_X0_lineUp 58 (.iload 4) 2 60 := ⟨by decide +kernel, rfl⟩
theorem d_X0_lineUp_60 : DB mi_X0_lineUp 60 (.ifCond .le 42) 42 63 102 := ⟨by decide +kernel, rfl, by decide⟩
theorem d_X0_lineUp_63 : DC mi_X0_lineUp 63 (.aload_n 0) 1 64 := ⟨by decide +kernel, rfl⟩
theorem d_X0_lineUp_64 : DC mi_X0_lineUp 64 (.iload_n 2) 1 65 := ⟨by decide +kernel, rfl⟩
theorem d_X0_lineUp_65 : DC mi_X0_lineUp 65 (.aload_n 0) 1 66 := ⟨by decide +kernel, rfl⟩
theorem d_X0_lineUp_66 : DC mi_X0_lineUp 66 (.getfield 11) 3 69 := ⟨by decide +kernel, rfl⟩
theorem d_X0_lineUp_69 : DC mi_X0_lineUp 69 (.iload_n 3) 1 70 := ⟨by decide +kernel, rfl⟩
theorem d_X0_lineUp_70 : DC mi_X0_lineUp 70 (.iconst 1) 1 71 := ⟨by decide +kernel, rfl⟩
theorem d_X0_lineUp_71 : DC mi_X0_lineUp 71 (.isub) 1 72 := ⟨by decide +kernel, rfl⟩
theorem d_X0_lineUp_72 : DC mi_X0_lineUp 72 (.iaload) 1 73 := ⟨by decide +kernel, rfl⟩
theorem d_X0_lineUp_73 : DC mi_X0_lineUp 73 (.invokevirtual 107) 3 76 := ⟨by decide +kernel, rfl⟩
theorem d_X0_lineUp_76 : DB mi_X0_lineUp 76 (.ifCond .eq 26) 26 79 102 := ⟨by decide +kernel, rfl, by decide⟩
theorem d_X0_lineUp_79 : DC mi_X0_lineUp 79 (.aload_n 0) 1 80 := ⟨by decide +kernel, rfl⟩
theorem d_X0_lineUp_80 : DC mi_X0_lineUp 80 (.getfield 11) 3 83 := ⟨by decide +kernel, rfl⟩
theorem d_X0_lineUp_83 : DC mi_X0_lineUp 83 (.iload_n 3) 1 84 := ⟨by decide +kernel, rfl⟩
theorem d_X0_lineUp_84 : DC mi_X0_lineUp 84 (.aload_n 0) 1 85 := ⟨by decide +kernel, rfl⟩
theorem d_X0_lineUp_85 : DC mi_X0_lineUp 85 (.getfield 11) 3 88 := ⟨by decide +kernel, rfl⟩
theorem d_X0_lineUp_88 : DC mi_X0_lineUp 88 (.iload_n 3) 1 89 := ⟨by decide +kernel, rfl⟩
theorem d_X0_lineUp_89 : DC mi_X0_lineUp 89 (.iconst 1) 1 90 := ⟨by decide +kernel, rfl⟩
theorem d_X0_lineUp_90 : DC mi_X0_lineUp 90 (.isub) 1 91 := ⟨by decide +kernel, rfl⟩
theorem d_X0_lineUp_91 : DC mi_X0_lineUp 91 (.iaload) 1 92 := ⟨by decide +kernel, rfl⟩
theorem d_X0_lineUp_92 : DC mi_X0_lineUp 92 (.iastore) 1 93 := ⟨by decide +kernel, rfl⟩
theorem d_X0_lineUp_93 : DC mi_X0_lineUp 93 (.iinc 3 (-1)) 3 96 := ⟨by decide +kernel, rfl⟩
theorem d_X0_lineUp_96 : DC mi_X0_lineUp 96 (.iinc 4 (-1)) 3 99 := ⟨by decide +kernel, rfl⟩
theorem d_X0_lineUp_99 : DB mi_X0_lineUp 99 (.goto (-41)) (-41) 102 58 := ⟨by decide +kernel, rfl, by decide⟩
theorem d_X0_lineUp_102 : DC mi_X0_lineUp 102 (.aload_n 0) 1 103 := ⟨by decide +kernel, rfl⟩
theorem d_X0_lineUp_103 : DC mi_X0_lineUp 103 (.getfield 11) 3 106 := ⟨by decide +kernel, rfl⟩
theorem d_X0_lineUp_106 : DC mi_X0_lineUp 106 (.iload_n 3) 1 107 := ⟨by decide +kernel, rfl⟩
theorem d_X0_lineUp_107 : DC mi_X0_lineUp 107 (.iload_n 2) 1 108 := ⟨by decide +kernel, rfl⟩
theorem d_X0_lineUp_108 : DC mi_X0_lineUp 108 (.iastore) 1 109 := ⟨by decide +kernel, rfl⟩
theorem d_X0_lineUp_109 : DC mi_X0_lineUp 109 (.aload_n 0) 1 110 := ⟨by decide +kernel, rfl⟩
theorem d_X0_lineUp_110 : DC mi_X0_lineUp 110 (.dup) 1 111 := ⟨by decide +kernel, rfl⟩
theorem d_X0_lineUp_111 : DC mi_X0_lineUp 111 (.getfield 76) 3 114 := ⟨by decide +kernel, rfl⟩
theorem d_X0_lineUp_114 : DC mi_X0_lineUp 114 (.iconst 1) 1 115 := ⟨by decide +kernel, rfl⟩
theorem d_X0_lineUp_115 : DC mi_X0_lineUp 115 (.iadd) 1 116 := ⟨by decide +kernel, rfl⟩
theorem d_X0_lineUp_116 : DC mi_X0_lineUp 116 (.putfield 76) 3 119 := ⟨by decide +kernel, rfl⟩
theorem d_X0_lineUp_119 : DC mi_X0_lineUp 119 (.iinc 2 1) 3 122 := ⟨by decide +kernel, rfl⟩
theorem d_X0_lineUp_122 : DB mi_X0_lineUp 122 (.goto (-115)) (-115) 125 7 := ⟨by decide +kernel, rfl, by decide⟩
theorem d_X0_lineUp_125 : DC mi_X0_lineUp 125 (.return_) 1 126 := ⟨by decide +kernel, rfl⟩
set_option maxHeartbeats 4000000 in
set_option maxRecDepth 100000 in
theorem sL_X0_lineUp_58 (d : Nat) (hd : 2 ≤ d) (K102 : Int32 → HH → Option (Unit × HH)) (c1 : Int32) (c2 : Int32) (hK102 : ∀ (z3 : Int32) (h : HH), Sx mi_X0_lineUp d iU (K102 z3 h) 102 [(0, .ref 193), (1, .int c1), (2, .int c2), (3, .int z3)] [] h) : ∀ (n : Nat) (x3 : Int32) (x4 : Int32) (h : HH), Sx mi_X0_lineUp d iU (g_X0_lineUp_L58 K102 c1 c2 n x3 x4 h) 58 [(0, .ref 193), (1, .int c1), (2, .int c2), (3, .int x3), (4, .int x4)] [] h := by
  intro n
  induction n with
  | zero => intro x3 x4 h; exact sx_none
  | succ n ih =>
    intro x3 x4 h
    rw [g_X0_lineUp_L58]
    refine sx_iload d_X0_lineUp_58 4 rfl ?_
    refine sx_if_le d_X0_lineUp_60 ?_ ?_
    · refine sx_aload_n d_X0_lineUp_63 0 rfl ?_
      refine sx_iload_n d_X0_lineUp_64 2 rfl ?_
      refine sx_aload_n d_X0_lineUp_65 0 rfl ?_
      refine sx_getF (a' := 194) fl_StairCount_Course_11 sh_193 rfl rfl d_X0_lineUp_66 ?_
      refine sx_iload_n d_X0_lineUp_69 3 rfl ?_
      refine sx_iconst d_X0_lineUp_70 ic1 ?_
      refine sx_isub d_X0_lineUp_71 ?_
      refine sx_iald sh_194 d_X0_lineUp_72 (fun v15 => ?_)
      refine sx_callV [.int c2, .int v15] mv_X0_comesFirst lM_StairCount_Course_107 sh_193 (by omega) rfl rfl (Nat.le_of_ble_eq_true rfl) d_X0_lineUp_73 (sp_X0_comesFirst (d - 1) (by omega) c2 v15 h) (fun r17 h16 => ?_)
      refine sx_if_eq d_X0_lineUp_76 ?_ ?_
      · refine sx_lc (lc' := [(0, .ref 193), (1, .int c1), (2, .int c2), (3, .int x3)]) [0, 1, 2, 3] rfl ?_
        exact hK102 x3 h16
      · refine sx_aload_n d_X0_lineUp_79 0 rfl ?_
        refine sx_getF (a' := 194) fl_StairCount_Course_11 sh_193 rfl rfl d_X0_lineUp_80 ?_
        refine sx_iload_n d_X0_lineUp_83 3 rfl ?_
        refine sx_aload_n d_X0_lineUp_84 0 rfl ?_
        refine sx_getF (a' := 194) fl_StairCount_Course_11 sh_193 rfl rfl d_X0_lineUp_85 ?_
        refine sx_iload_n d_X0_lineUp_88 3 rfl ?_
        refine sx_iconst d_X0_lineUp_89 ic1 ?_
        refine sx_isub d_X0_lineUp_90 ?_
        refine sx_iald sh_194 d_X0_lineUp_91 (fun v18 => ?_)
        refine sx_iast sh_194 d_X0_lineUp_92 (fun h19 => ?_)
        refine sx_iincV (lc' := fun v20 => [(3, .int v20), (0, .ref 193), (1, .int c1), (2, .int c2), (4, .int x4)]) (k0 := 3) d_X0_lineUp_93 rfl iim1 (by decide) (fun _ => rfl) (fun v20 => ?_)
        refine sx_iincV (lc' := fun v21 => [(4, .int v21), (3, .int v20), (0, .ref 193), (1, .int c1), (2, .int c2)]) (k0 := 4) d_X0_lineUp_96 rfl iim1 (by decide) (fun _ => rfl) (fun v21 => ?_)
        refine sx_goto d_X0_lineUp_99 ?_
        refine sx_lc (lc' := [(0, .ref 193), (1, .int c1), (2, .int c2), (3, .int v20), (4, .int v21)]) [2, 3, 4, 1, 0] rfl ?_
        exact ih v20 v21 h19
    · refine sx_lc (lc' := [(0, .ref 193), (1, .int c1), (2, .int c2), (3, .int x3)]) [0, 1, 2, 3] rfl ?_
      exact hK102 x3 h
set_option maxHeartbeats 4000000 in
set_option maxRecDepth 100000 in
theorem sL_X0_lineUp_7 (d : Nat) (hd : 2 ≤ d) (c1 : Int32) : ∀ (n : Nat) (x2 : Int32) (h : HH), Sx mi_X0_lineUp d iU (g_X0_lineUp_L7 c1 n x2 h) 7 [(0, .ref 193), (1, .int c1), (2, .int x2)] [] h := by
  intro n
  induction n with
  | zero => intro x2 h; exact sx_none
  | succ n ih =>
    intro x2 h
    rw [g_X0_lineUp_L7]
    refine sx_iload_n d_X0_lineUp_7 2 rfl ?_
    refine sx_aload_n d_X0_lineUp_8 0 rfl ?_
    refine sx_getR fl_StairCount_Course_31 sh_193 rfl d_X0_lineUp_9 (fun p2 => ?_)
    refine sx_ckH (fun ep2 => ?_)
    refine sx_getI fl_StairCount_Course_101 ep2 rfl d_X0_lineUp_12 (fun v3 => ?_)
    refine sx_icmp_ge d_X0_lineUp_15 ?_ ?_
    · refine sx_aload_n d_X0_lineUp_18 0 rfl ?_
      refine sx_getR fl_StairCount_Course_31 sh_193 rfl d_X0_lineUp_19 (fun p4 => ?_)
      refine sx_ckH (fun ep4 => ?_)
      refine sx_getF (a' := (p4 + 9)) fl_StairCount_Course_104 ep4 rfl rfl d_X0_lineUp_22 ?_
      refine sx_iload_n d_X0_lineUp_25 2 rfl ?_
      refine sx_iald (shf_5_12 ep4) d_X0_lineUp_26 (fun v5 => ?_)
      refine sx_iload_n d_X0_lineUp_27 1 rfl ?_
      refine sx_jn (fun j => ∀  (h : HH), Sx mi_X0_lineUp d iU (j  h) 119 [(0, .ref 193), (1, .int c1), (2, .int x2)] [] h) ?_ ?_
      · intro  h8
        refine sx_iincV (lc' := fun v9 => [(2, .int v9), (0, .ref 193), (1, .int c1)]) (k0 := 2) d_X0_lineUp_119 rfl ii1 (by decide) (fun _ => rfl) (fun v9 => ?_)
        refine sx_goto d_X0_lineUp_122 ?_
        refine sx_lc (lc' := [(0, .ref 193), (1, .int c1), (2, .int v9)]) [1, 2, 0] rfl ?_
        exact ih v9 h8
      · intro j6 k7
        refine sx_icmp_ne d_X0_lineUp_28 ?_ ?_
        · refine sx_aload_n d_X0_lineUp_31 0 rfl ?_
          refine sx_getR fl_StairCount_Course_31 sh_193 rfl d_X0_lineUp_32 (fun p10 => ?_)
          refine sx_ckH (fun ep10 => ?_)
          refine sx_getF (a' := (p10 + 8)) fl_StairCount_Course_79 ep10 rfl rfl d_X0_lineUp_35 ?_
          refine sx_iload_n d_X0_lineUp_38 2 rfl ?_
          refine sx_iald (shf_5_11 ep10) d_X0_lineUp_39 (fun v11 => ?_)
          refine sx_aload_n d_X0_lineUp_40 0 rfl ?_
          refine sx_getI fl_StairCount_Course_54 sh_193 rfl d_X0_lineUp_41 (fun v12 => ?_)
          refine sx_icmp_eq d_X0_lineUp_44 ?_ ?_
          · exact k7 h
          · refine sx_aload_n d_X0_lineUp_47 0 rfl ?_
            refine sx_getI fl_StairCount_Course_76 sh_193 rfl d_X0_lineUp_48 (fun v13 => ?_)
            refine sx_istore_n (i := 3) (lc' := [(3, .int v13), (0, .ref 193), (1, .int c1), (2, .int x2)]) d_X0_lineUp_51 rfl (by decide) rfl ?_
            refine sx_aload_n d_X0_lineUp_52 1 rfl ?_
            refine sx_getI fl_StairCount_Course_76 sh_193 rfl d_X0_lineUp_53 (fun v14 => ?_)
            refine sx_istore (i := 4) (lc' := [(4, .int v14), (3, .int v13), (0, .ref 193), (1, .int c1), (2, .int x2)]) d_X0_lineUp_56 (by decide) rfl ?_
            refine sx_lc (lc' := [(0, .ref 193), (1, .int c1), (2, .int x2), (3, .int v13), (4, .int v14)]) [2, 3, 4, 1, 0] rfl ?_
            refine sL_X0_lineUp_58 d hd _ c1 x2 ?_ 1024 v13 v14 h
            · intro z23 h22
              refine sx_aload_n d_X0_lineUp_102 0 rfl ?_
              refine sx_getF (a' := 194) fl_StairCount_Course_11 sh_193 rfl rfl d_X0_lineUp_103 ?_
              refine sx_iload_n d_X0_lineUp_106 3 rfl ?_
              refine sx_iload_n d_X0_lineUp_107 2 rfl ?_
              refine sx_iast sh_194 d_X0_lineUp_108 (fun h24 => ?_)
              refine sx_aload_n d_X0_lineUp_109 0 rfl ?_
              refine sx_dup d_X0_lineUp_110 rfl ?_
              refine sx_getI fl_StairCount_Course_76 sh_193 rfl d_X0_lineUp_111 (fun v25 => ?_)
              refine sx_iconst d_X0_lineUp_114 ic1 ?_
              refine sx_iadd d_X0_lineUp_115 ?_
              refine sx_putI fl_StairCount_Course_76 sh_193 rfl hty_0_3 d_X0_lineUp_116 (fun h26 => ?_)
              refine sx_lc (lc' := [(0, .ref 193), (1, .int c1), (2, .int x2)]) [0, 1, 2] rfl ?_
              exact k7 h26
        · exact k7 h
    · exact sx_vret rfl d_X0_lineUp_125
set_option maxHeartbeats 4000000 in
set_option maxRecDepth 100000 in
theorem sp_X0_lineUp (d : Nat) (hd : 2 ≤ d) (a0 : Int32) (h : HH) : Sp mi_X0_lineUp d iU [.ref 193, .int a0] h (g_X0_lineUp a0 h) := by
  refine sp_of (lc := [(0, .ref 193), (1, .int a0)]) (by decide) (Nat.le_of_ble_eq_true rfl) rfl ?_
  unfold g_X0_lineUp
  refine sx_aload_n d_X0_lineUp_0 0 rfl ?_
  refine sx_iconst d_X0_lineUp_1 ic0 ?_
  refine sx_putI fl_StairCount_Course_76 sh_193 rfl hty_0_3 d_X0_lineUp_2 (fun h1 => ?_)
  refine sx_iconst d_X0_lineUp_5 ic0 ?_
  refine sx_istore_n (i := 2) (lc' := [(2, .int (0 : Int32)), (0, .ref 193), (1, .int a0)]) d_X0_lineUp_6 rfl (by decide) rfl ?_
  refine sx_lc (lc' := [(0, .ref 193), (1, .int a0), (2, .int (0 : Int32))]) [1, 2, 0] rfl ?_
  refine sL_X0_lineUp_7 d hd a0 1024 (0 : Int32) h1
theorem d_X7_addTired_0 : DC mi_X7_addTired 0 (.aload_n 0) 1 1 := ⟨by decide +kernel, rfl⟩
theorem d_X7_addTired_1 : DC mi_X7_addTired 1 (.getfield 15) 3 4 := ⟨by decide +kernel, rfl⟩
theorem d_X7_addTired_4 : DC mi_X7_addTired 4 (.iload_n 1) 1 5 := ⟨by decide +kernel, rfl⟩
theorem d_X7_addTired_5 : DC mi_X7_addTired 5 (.ldc 55) 2 7 := ⟨by decide +kernel, rfl⟩
theorem d_X7_addTired_7 : DC mi_X7_addTired 7 (.aload_n 0) 1 8 := ⟨by decide +kernel, rfl⟩
theorem d_X7_addTired_8 : DC mi_X7_addTired 8 (.getfield 15) 3 11 := ⟨by decide +kernel, rfl⟩
theorem d_X7_addTired_11 : DC mi_X7_addTired 11 (.iload_n 1) 1 12 := ⟨by decide +kernel, rfl⟩
theorem d_X7_addTired_12 : DC mi_X7_addTired 12 (.iaload) 1 13 := ⟨by decide +kernel, rfl⟩
theorem d_X7_addTired_13 : DC mi_X7_addTired 13 (.iload_n 2) 1 14 := ⟨by decide +kernel, rfl⟩
theorem d_X7_addTired_14 : DC mi_X7_addTired 14 (.iadd) 1 15 := ⟨by decide +kernel, rfl⟩
theorem d_X7_addTired_15 : DC mi_X7_addTired 15 (.invokestatic 46) 3 18 := ⟨by decide +kernel, rfl⟩
theorem d_X7_addTired_18 : DC mi_X7_addTired 18 (.iastore) 1 19 := ⟨by decide +kernel, rfl⟩
theorem d_X7_addTired_19 : DC mi_X7_addTired 19 (.return_) 1 20 := ⟨by decide +kernel, rfl⟩
set_option maxHeartbeats 4000000 in
set_option maxRecDepth 100000 in
theorem sp_X7_addTired (d : Nat) (hd : 1 ≤ d) (this : Nat) (a0 : Int32) (a1 : Int32) (h : HH) : Sp mi_X7_addTired d iU [.ref this, .int a0, .int a1] h (g_X7_addTired this a0 a1 h) := by
  refine sp_of (lc := [(0, .ref this), (1, .int a0), (2, .int a1)]) (by decide) (Nat.le_of_ble_eq_true rfl) rfl ?_
  unfold g_X7_addTired
  refine sx_ckH (fun hthis => ?_)
  refine sx_aload_n d_X7_addTired_0 0 rfl ?_
  refine sx_getF (a' := (this + 2)) fl_StairCount_State_15 hthis rfl rfl d_X7_addTired_1 ?_
  refine sx_iload_n d_X7_addTired_4 1 rfl ?_
  refine sx_ldc d_X7_addTired_5 lK_StairCount_State_55 ?_
  refine sx_aload_n d_X7_addTired_7 0 rfl ?_
  refine sx_getF (a' := (this + 2)) fl_StairCount_State_15 hthis rfl rfl d_X7_addTired_8 ?_
  refine sx_iload_n d_X7_addTired_11 1 rfl ?_
  refine sx_iald (shf_7_1 hthis) d_X7_addTired_12 (fun v1 => ?_)
  refine sx_iload_n d_X7_addTired_13 2 rfl ?_
  refine sx_iadd d_X7_addTired_14 ?_
  refine sx_mmin lM_StairCount_State_46 (by omega) (Nat.le_of_ble_eq_true rfl) d_X7_addTired_15 ?_
  refine sx_iast (shf_7_1 hthis) d_X7_addTired_18 (fun h2 => ?_)
  exact sx_vret rfl d_X7_addTired_19
theorem d_X0_swing_0 : DC mi_X0_swing 0 (.aload_n 0) 1 1 := ⟨by decide +kernel, rfl⟩
theorem d_X0_swing_1 : DC mi_X0_swing 1 (.getfield 31) 3 4 := ⟨by decide +kernel, rfl⟩
theorem d_X0_swing_4 : DC mi_X0_swing 4 (.getfield 113) 3 7 := ⟨by decide +kernel, rfl⟩
theorem d_X0_swing_7 : DC mi_X0_swing 7 (.iload_n 2) 1 8 := ⟨by decide +kernel, rfl⟩
theorem d_X0_swing_8 : DC mi_X0_swing 8 (.iaload) 1 9 := ⟨by decide +kernel, rfl⟩
theorem d_X0_swing_9 : DC mi_X0_swing 9 (.istore_n 3) 1 10 := ⟨by decide +kernel, rfl⟩
theorem d_X0_swing_10 : DC mi_X0_swing 10 (.aload_n 0) 1 11 := ⟨by decide +kernel, rfl⟩
theorem d_X0_swing_11 : DC mi_X0_swing 11 (.getfield 31) 3 14 := ⟨by decide +kernel, rfl⟩
theorem d_X0_swing_14 : DC mi_X0_swing 14 (.getfield 116) 3 17 := ⟨by decide +kernel, rfl⟩
theorem d_X0_swing_17 : DC mi_X0_swing 17 (.iload_n 2) 1 18 := ⟨by decide +kernel, rfl⟩
theorem d_X0_swing_18 : DC mi_X0_swing 18 (.iaload) 1 19 := ⟨by decide +kernel, rfl⟩
theorem d_X0_swing_19 : DC mi_X0_swing 19 (.istore 4) 2 21 := ⟨by decide +kernel, rfl⟩
theorem d_X0_swing_21 : DC mi_X0_swing 21 (.aload_n 0) 1 22 := ⟨by decide +kernel, rfl⟩
theorem d_X0_swing_22 : DC mi_X0_swing 22 (.getfield 35) 3 25 := ⟨by decide +kernel, rfl⟩
theorem d_X0_swing_25 : DC mi_X0_swing 25 (.getfield 98) 3 28 := ⟨by decide +kernel, rfl⟩
theorem d_X0_swing_28 : DC mi_X0_swing 28 (.iload_n 1) 1 29 := ⟨by decide +kernel, rfl⟩
theorem d_X0_swing_29 : DC mi_X0_swing 29 (.iaload) 1 30 := ⟨by decide +kernel, rfl⟩
theorem d_X0_swing_30 : DC mi_X0_swing 30 (.istore 5) 2 32 := ⟨by decide +kernel, rfl⟩
theorem d_X0_swing_32 : DC mi_X0_swing 32 (.aload_n 0) 1 33 := ⟨by decide +kernel, rfl⟩
theorem d_X0_swing_33 : DC mi_X0_swing 33 (.getfield 57) 3 36 := ⟨by decide +kernel, rfl⟩
theorem d_X0_swing_36 : DB mi_X0_swing 36 (.ifCond .ne 16) 16 39 52 := ⟨by decide +kernel, rfl, by decide⟩
theorem d_X0_swing_39 : DC mi_X0_swing 39 (.iload 5) 2 41 := ⟨by decide +kernel, rfl⟩
theorem d_X0_swing_41 : DC mi_X0_swing 41 (.iload_n 3) 1 42 := ⟨by decide +kernel, rfl⟩
theorem d_X0_swing_42 : DB mi_X0_swing 42 (.if_icmp .eq 24) 24 45 66 := ⟨by decide +kernel, rfl, by decide⟩
theorem d_X0_swing_45 : DC mi_X0_swing 45 (.iload 5) 2 47 := ⟨by decide +kernel, rfl⟩
theorem d_X0_swing_47 : DC mi_X0_swing 47 (.iload 4) 2 49 := ⟨by decide +kernel, rfl⟩
theorem d_X0_swing_49 : DB mi_X0_swing 49 (.if_icmp .eq 17) 17 52 66 := ⟨by decide +kernel, rfl, by decide⟩
theorem d_X0_swing_52 : DC mi_X0_swing 52 (.aload_n 0) 1 53 := ⟨by decide +kernel, rfl⟩
theorem d_X0_swing_53 : DC mi_X0_swing 53 (.getfield 35) 3 56 := ⟨by decide +kernel, rfl⟩
theorem d_X0_swing_56 : DC mi_X0_swing 56 (.getfield 119) 3 59 := ⟨by decide +kernel, rfl⟩
theorem d_X0_swing_59 : DC mi_X0_swing 59 (.iload_n 1) 1 60 := ⟨by decide +kernel, rfl⟩
theorem d_X0_swing_60 : DC mi_X0_swing 60 (.dup2) 1 61 := ⟨by decide +kernel, rfl⟩
theorem d_X0_swing_61 : DC mi_X0_swing 61 (.iaload) 1 62 := ⟨by decide +kernel, rfl⟩
theorem d_X0_swing_62 : DC mi_X0_swing 62 (.iconst 1) 1 63 := ⟨by decide +kernel, rfl⟩
theorem d_X0_swing_63 : DC mi_X0_swing 63 (.iadd) 1 64 := ⟨by decide +kernel, rfl⟩
theorem d_X0_swing_64 : DC mi_X0_swing 64 (.iastore) 1 65 := ⟨by decide +kernel, rfl⟩
theorem d_X0_swing_65 : DC mi_X0_swing 65 (.return_) 1 66 := ⟨by decide +kernel, rfl⟩
theorem d_X0_swing_66 : DC mi_X0_swing 66 (.aload_n 0) 1 67 := ⟨by decide +kernel, rfl⟩
theorem d_X0_swing_67 : DC mi_X0_swing 67 (.getfield 35) 3 70 := ⟨by decide +kernel, rfl⟩
theorem d_X0_swing_70 : DC mi_X0_swing 70 (.getfield 98) 3 73 := ⟨by decide +kernel, rfl⟩
theorem d_X0_swing_73 : DC mi_X0_swing 73 (.iload_n 1) 1 74 := ⟨by decide +kernel, rfl⟩
theorem d_X0_swing_74 : DC mi_X0_swing 74 (.iload 5) 2 76 := ⟨by decide +kernel, rfl⟩
theorem d_X0_swing_76 : DC mi_X0_swing 76 (.iload_n 3) 1 77 := ⟨by decide +kernel, rfl⟩
theorem d_X0_swing_77 : DB mi_X0_swing 77 (.if_icmp .ne 8) 8 80 85 := ⟨by decide +kernel, rfl, by decide⟩
theorem d_X0_swing_80 : DC mi_X0_swing 80 (.iload 4) 2 82 := ⟨by decide +kernel, rfl⟩
theorem d_X0_swing_82 : DB mi_X0_swing 82 (.goto 4) 4 85 86 := ⟨by decide +kernel, rfl, by decide⟩
theorem d_X0_swing_85 : DC mi_X0_swing 85 (.iload_n 3) 1 86 := ⟨by decide +kernel, rfl⟩
theorem d_X0_swing_86 : DC mi_X0_swing 86 (.iastore) 1 87 := ⟨by decide +kernel, rfl⟩
theorem d_X0_swing_87 : DC mi_X0_swing 87 (.aload_n 0) 1 88 := ⟨by decide +kernel, rfl⟩
theorem d_X0_swing_88 : DC mi_X0_swing 88 (.getfield 35) 3 91 := ⟨by decide +kernel, rfl⟩
theorem d_X0_swing_91 : DC mi_X0_swing 91 (.iload_n 1) 1 92 := ⟨by decide +kernel, rfl⟩
theorem d_X0_swing_92 : DC mi_X0_swing 92 (.aload_n 0) 1 93 := ⟨by decide +kernel, rfl⟩
theorem d_X0_swing_93 : DC mi_X0_swing 93 (.getfield 31) 3 96 := ⟨by decide +kernel, rfl⟩
theorem d_X0_swing_96 : DC mi_X0_swing 96 (.getfield 122) 3 99 := ⟨by decide +kernel, rfl⟩
theorem d_X0_swing_99 : DC mi_X0_swing 99 (.iload_n 2) 1 100 := ⟨by decide +kernel, rfl⟩
theorem d_X0_swing_100 : DC mi_X0_swing 100 (.iaload) 1 101 := ⟨by decide +kernel, rfl⟩
theorem d_X0_swing_101 : DC mi_X0_swing 101 (.invokevirtual 125) 3 104 := ⟨by decide +kernel, rfl⟩
theorem d_X0_swing_104 : DC mi_X0_swing 104 (.return_) 1 105 := ⟨by decide +kernel, rfl⟩
set_option maxHeartbeats 4000000 in
set_option maxRecDepth 100000 in
theorem sp_X0_swing (d : Nat) (hd : 2 ≤ d) (a0 : Int32) (a1 : Int32) (h : HH) : Sp mi_X0_swing d iU [.ref 193, .int a0, .int a1] h (g_X0_swing a0 a1 h) := by
  refine sp_of (lc := [(0, .ref 193), (1, .int a0), (2, .int a1)]) (by decide) (Nat.le_of_ble_eq_true rfl) rfl ?_
  unfold g_X0_swing
  refine sx_aload_n d_X0_swing_0 0 rfl ?_
  refine sx_getR fl_StairCount_Course_31 sh_193 rfl d_X0_swing_1 (fun p1 => ?_)
  refine sx_ckH (fun ep1 => ?_)
  refine sx_getF (a' := (p1 + 4)) fl_StairCount_Course_113 ep1 rfl rfl d_X0_swing_4 ?_
  refine sx_iload_n d_X0_swing_7 2 rfl ?_
  refine sx_iald (shf_5_6 ep1) d_X0_swing_8 (fun v2 => ?_)
  refine sx_istore_n (i := 3) (lc' := [(3, .int v2), (0, .ref 193), (1, .int a0), (2, .int a1)]) d_X0_swing_9 rfl (by decide) rfl ?_
  refine sx_aload_n d_X0_swing_10 1 rfl ?_
  refine sx_getR fl_StairCount_Course_31 sh_193 rfl d_X0_swing_11 (fun p3 => ?_)
  refine sx_ckH (fun ep3 => ?_)
  refine sx_getF (a' := (p3 + 5)) fl_StairCount_Course_116 ep3 rfl rfl d_X0_swing_14 ?_
  refine sx_iload_n d_X0_swing_17 3 rfl ?_
  refine sx_iald (shf_5_7 ep3) d_X0_swing_18 (fun v4 => ?_)
  refine sx_istore (i := 4) (lc' := [(4, .int v4), (3, .int v2), (0, .ref 193), (1, .int a0), (2, .int a1)]) d_X0_swing_19 (by decide) rfl ?_
  refine sx_aload_n d_X0_swing_21 2 rfl ?_
  refine sx_getR fl_StairCount_Course_35 sh_193 rfl d_X0_swing_22 (fun p5 => ?_)
  refine sx_ckH (fun ep5 => ?_)
  refine sx_getF (a' := (p5 + 1)) fl_StairCount_Course_98 ep5 rfl rfl d_X0_swing_25 ?_
  refine sx_iload_n d_X0_swing_28 3 rfl ?_
  refine sx_iald (shf_7_0 ep5) d_X0_swing_29 (fun v6 => ?_)
  refine sx_istore (i := 5) (lc' := [(5, .int v6), (4, .int v4), (3, .int v2), (0, .ref 193), (1, .int a0), (2, .int a1)]) d_X0_swing_30 (by decide) rfl ?_
  refine sx_aload_n d_X0_swing_32 3 rfl ?_
  refine sx_getI fl_StairCount_Course_57 sh_193 rfl d_X0_swing_33 (fun v7 => ?_)
  refine sx_jn (fun j => ∀  (h : HH), Sx mi_X0_swing d iU (j  h) 52 [(0, .ref 193), (1, .int a0)] [] h) ?_ ?_
  · intro  h10
    refine sx_aload_n d_X0_swing_52 0 rfl ?_
    refine sx_getR fl_StairCount_Course_35 sh_193 rfl d_X0_swing_53 (fun p11 => ?_)
    refine sx_ckH (fun ep11 => ?_)
    refine sx_getF (a' := (p11 + 3)) fl_StairCount_Course_119 ep11 rfl rfl d_X0_swing_56 ?_
    refine sx_iload_n d_X0_swing_59 1 rfl ?_
    refine sx_dup2 d_X0_swing_60 rfl rfl ?_
    refine sx_iald (shf_7_2 ep11) d_X0_swing_61 (fun v12 => ?_)
    refine sx_iconst d_X0_swing_62 ic1 ?_
    refine sx_iadd d_X0_swing_63 ?_
    refine sx_iast (shf_7_2 ep11) d_X0_swing_64 (fun h13 => ?_)
    exact sx_vret rfl d_X0_swing_65
  · intro j8 k9
    refine sx_if_ne d_X0_swing_36 ?_ ?_
    · refine sx_iload d_X0_swing_39 0 rfl ?_
      refine sx_iload_n d_X0_swing_41 2 rfl ?_
      refine sx_jn (fun j => ∀  (h : HH), Sx mi_X0_swing d iU (j  h) 66 [(0, .ref 193), (1, .int a0), (2, .int a1), (3, .int v2), (4, .int v4), (5, .int v6)] [] h) ?_ ?_
      · intro  h16
        refine sx_aload_n d_X0_swing_66 0 rfl ?_
        refine sx_getR fl_StairCount_Course_35 sh_193 rfl d_X0_swing_67 (fun p17 => ?_)
        refine sx_ckH (fun ep17 => ?_)
        refine sx_getF (a' := (p17 + 1)) fl_StairCount_Course_98 ep17 rfl rfl d_X0_swing_70 ?_
        refine sx_iload_n d_X0_swing_73 1 rfl ?_
        refine sx_iload d_X0_swing_74 5 rfl ?_
        refine sx_iload_n d_X0_swing_76 3 rfl ?_
        refine sx_jn (fun j => ∀ (y21 : Int32) (h : HH), Sx mi_X0_swing d iU (j y21 h) 86 [(0, .ref 193), (1, .int a0), (2, .int a1)] [.int y21, .int a0, .ref (p17 + 1)] h) ?_ ?_
        · intro y21 h20
          refine sx_iast (shf_7_0 ep17) d_X0_swing_86 (fun h22 => ?_)
          refine sx_aload_n d_X0_swing_87 0 rfl ?_
          refine sx_getR fl_StairCount_Course_35 sh_193 rfl d_X0_swing_88 (fun p23 => ?_)
          refine sx_ckH (fun ep23 => ?_)
          refine sx_iload_n d_X0_swing_91 1 rfl ?_
          refine sx_aload_n d_X0_swing_92 0 rfl ?_
          refine sx_getR fl_StairCount_Course_31 sh_193 rfl d_X0_swing_93 (fun p24 => ?_)
          refine sx_ckH (fun ep24 => ?_)
          refine sx_getF (a' := (p24 + 6)) fl_StairCount_Course_122 ep24 rfl rfl d_X0_swing_96 ?_
          refine sx_iload_n d_X0_swing_99 2 rfl ?_
          refine sx_iald (shf_5_8 ep24) d_X0_swing_100 (fun v25 => ?_)
          refine sx_callV [.int a0, .int v25] mv_X7_addTired lM_StairCount_Course_125 ep23 (by omega) rfl rfl (Nat.le_of_ble_eq_true rfl) d_X0_swing_101 (sp_X7_addTired (d - 1) (by omega) p23 a0 v25 h22) (fun _ h26 => ?_)
          exact sx_vret rfl d_X0_swing_104
        · intro j18 k19
          refine sx_icmp_ne d_X0_swing_77 ?_ ?_
          · refine sx_iload d_X0_swing_80 4 rfl ?_
            refine sx_goto d_X0_swing_82 ?_
            refine sx_lc (lc' := [(0, .ref 193), (1, .int a0), (2, .int a1)]) [0, 1, 2] rfl ?_
            exact k19 v4 h16
          · refine sx_iload_n d_X0_swing_85 3 rfl ?_
            refine sx_lc (lc' := [(0, .ref 193), (1, .int a0), (2, .int a1)]) [0, 1, 2] rfl ?_
            exact k19 v2 h16
      · intro j14 k15
        refine sx_icmp_eq d_X0_swing_42 ?_ ?_
        · refine sx_lc (lc' := [(0, .ref 193), (1, .int a0), (2, .int a1), (3, .int v2), (4, .int v4), (5, .int v6)]) [3, 4, 5, 2, 1, 0] rfl ?_
          exact k15 h
        · refine sx_iload d_X0_swing_45 0 rfl ?_
          refine sx_iload d_X0_swing_47 1 rfl ?_
          refine sx_icmp_eq d_X0_swing_49 ?_ ?_
          · refine sx_lc (lc' := [(0, .ref 193), (1, .int a0), (2, .int a1), (3, .int v2), (4, .int v4), (5, .int v6)]) [3, 4, 5, 2, 1, 0] rfl ?_
            exact k15 h
          · refine sx_lc (lc' := [(0, .ref 193), (1, .int a0)]) [3, 4] rfl ?_
            exact k9 h
    · refine sx_lc (lc' := [(0, .ref 193), (1, .int a0)]) [3, 4] rfl ?_
      exact k9 h
theorem d_X7_drawn_0 : DC mi_X7_drawn 0 (.aload_n 0) 1 1 := ⟨by decide +kernel, rfl⟩
theorem d_X7_drawn_1 : DC mi_X7_drawn 1 (.aload_n 0) 1 2 := ⟨by decide +kernel, rfl⟩
theorem d_X7_drawn_2 : DC mi_X7_drawn 2 (.getfield 37) 3 5 := ⟨by decide +kernel, rfl⟩
theorem d_X7_drawn_5 : DC mi_X7_drawn 5 (.ldc 56) 2 7 := ⟨by decide +kernel, rfl⟩
theorem d_X7_drawn_7 : DC mi_X7_drawn 7 (.imul) 1 8 := ⟨by decide +kernel, rfl⟩
theorem d_X7_drawn_8 : DC mi_X7_drawn 8 (.sipush 12345) 3 11 := ⟨by decide +kernel, rfl⟩
theorem d_X7_drawn_11 : DC mi_X7_drawn 11 (.iadd) 1 12 := ⟨by decide +kernel, rfl⟩
theorem d_X7_drawn_12 : DC mi_X7_drawn 12 (.ldc 59) 2 14 := ⟨by decide +kernel, rfl⟩
theorem d_X7_drawn_14 : DC mi_X7_drawn 14 (.iand) 1 15 := ⟨by decide +kernel, rfl⟩
theorem d_X7_drawn_15 : DC mi_X7_drawn 15 (.putfield 37) 3 18 := ⟨by decide +kernel, rfl⟩
theorem d_X7_drawn_18 : DC mi_X7_drawn 18 (.aload_n 0) 1 19 := ⟨by decide +kernel, rfl⟩
theorem d_X7_drawn_19 : DC mi_X7_drawn 19 (.getfield 37) 3 22 := ⟨by decide +kernel, rfl⟩
theorem d_X7_drawn_22 : DC mi_X7_drawn 22 (.ldc 60) 2 24 := ⟨by decide +kernel, rfl⟩
theorem d_X7_drawn_24 : DC mi_X7_drawn 24 (.idiv) 1 25 := ⟨by decide +kernel, rfl⟩
theorem d_X7_drawn_25 : DC mi_X7_drawn 25 (.ireturn) 1 26 := ⟨by decide +kernel, rfl⟩
set_option maxHeartbeats 4000000 in
set_option maxRecDepth 100000 in
theorem sp_X7_drawn (d : Nat) (hd : 0 ≤ d) (this : Nat) (h : HH) : Sp mi_X7_drawn d iI [.ref this] h (g_X7_drawn this h) := by
  refine sp_of (lc := [(0, .ref this)]) (by decide) (Nat.le_of_ble_eq_true rfl) rfl ?_
  unfold g_X7_drawn
  refine sx_ckH (fun hthis => ?_)
  refine sx_aload_n d_X7_drawn_0 0 rfl ?_
  refine sx_aload_n d_X7_drawn_1 0 rfl ?_
  refine sx_getI fl_StairCount_State_37 hthis rfl d_X7_drawn_2 (fun v1 => ?_)
  refine sx_ldc d_X7_drawn_5 lK_StairCount_State_56 ?_
  refine sx_imul d_X7_drawn_7 ?_
  refine sx_sipush d_X7_drawn_8 sc12345 ?_
  refine sx_iadd d_X7_drawn_11 ?_
  refine sx_ldc d_X7_drawn_12 lK_StairCount_State_59 ?_
  refine sx_iand d_X7_drawn_14 ?_
  refine sx_putI fl_StairCount_State_37 hthis rfl hty_7_6 d_X7_drawn_15 (fun h2 => ?_)
  refine sx_aload_n d_X7_drawn_18 0 rfl ?_
  refine sx_getI fl_StairCount_State_37 hthis rfl d_X7_drawn_19 (fun v3 => ?_)
  refine sx_ldc d_X7_drawn_22 lK_StairCount_State_60 ?_
  refine sx_idiv d_X7_drawn_24 (fun v4 => ?_)
  exact sx_iret rfl d_X7_drawn_25
theorem d_X0_slips_0 : DC mi_X0_slips 0 (.aload_n 0) 1 1 := ⟨by decide +kernel, rfl⟩
theorem d_X0_slips_1 : DC mi_X0_slips 1 (.getfield 50) 3 4 := ⟨by decide +kernel, rfl⟩
theorem d_X0_slips_4 : DC mi_X0_slips 4 (.iconst 2) 1 5 := ⟨by decide +kernel, rfl⟩
theorem d_X0_slips_5 : DB mi_X0_slips 5 (.if_icmp .eq 13) 13 8 18 := ⟨by decide +kernel, rfl, by decide⟩
theorem d_X0_slips_8 : DC mi_X0_slips 8 (.aload_n 0) 1 9 := ⟨by decide +kernel, rfl⟩
theorem d_X0_slips_9 : DC mi_X0_slips 9 (.getfield 31) 3 12 := ⟨by decide +kernel, rfl⟩
theorem d_X0_slips_12 : DC mi_X0_slips 12 (.getfield 171) 3 15 := ⟨by decide +kernel, rfl⟩
theorem d_X0_slips_15 : DB mi_X0_slips 15 (.ifCond .ne 5) 5 18 20 := ⟨by decide +kernel, rfl, by decide⟩
theorem d_X0_slips_18 : DC mi_X0_slips 18 (.iconst 0) 1 19 := ⟨by decide +kernel, rfl⟩
theorem d_X0_slips_19 : DC mi_X0_slips 19 (.ireturn) 1 20 := ⟨by decide +kernel, rfl⟩
theorem d_X0_slips_20 : DC mi_X0_slips 20 (.aload_n 0) 1 21 := ⟨by decide +kernel, rfl⟩
theorem d_X0_slips_21 : DC mi_X0_slips 21 (.getfield 31) 3 24 := ⟨by decide +kernel, rfl⟩
theorem d_X0_slips_24 : DC mi_X0_slips 24 (.getfield 171) 3 27 := ⟨by decide +kernel, rfl⟩
theorem d_X0_slips_27 : DC mi_X0_slips 27 (.bipush 100) 2 29 := ⟨by decide +kernel, rfl⟩
theorem d_X0_slips_29 : DB mi_X0_slips 29 (.if_icmp .ne 5) 5 32 34 := ⟨by decide +kernel, rfl, by decide⟩
theorem d_X0_slips_32 : DC mi_X0_slips 32 (.iconst 1) 1 33 := ⟨by decide +kernel, rfl⟩
theorem d_X0_slips_33 : DC mi_X0_slips 33 (.ireturn) 1 34 := ⟨by decide +kernel, rfl⟩
theorem d_X0_slips_34 : DC mi_X0_slips 34 (.aload_n 0) 1 35 := ⟨by decide +kernel, rfl⟩
theorem d_X0_slips_35 : DC mi_X0_slips 35 (.getfield 50) 3 38 := ⟨by decide +kernel, rfl⟩
theorem d_X0_slips_38 : DC mi_X0_slips 38 (.iconst 1) 1 39 := ⟨by decide +kernel, rfl⟩
theorem d_X0_slips_39 : DB mi_X0_slips 39 (.if_icmp .ne 23) 23 42 62 := ⟨by decide +kernel, rfl, by decide⟩
theorem d_X0_slips_42 : DC mi_X0_slips 42 (.aload_n 0) 1 43 := ⟨by decide +kernel, rfl⟩
theorem d_X0_slips_43 : DC mi_X0_slips 43 (.getfield 31) 3 46 := ⟨by decide +kernel, rfl⟩
theorem d_X0_slips_46 : DC mi_X0_slips 46 (.getfield 171) 3 49 := ⟨by decide +kernel, rfl⟩
theorem d_X0_slips_49 : DC mi_X0_slips 49 (.bipush 50) 2 51 := ⟨by decide +kernel, rfl⟩
theorem d_X0_slips_51 : DB mi_X0_slips 51 (.if_icmp .lt 7) 7 54 58 := ⟨by decide +kernel, rfl, by decide⟩
theorem d_X0_slips_54 : DC mi_X0_slips 54 (.iconst 1) 1 55 := ⟨by decide +kernel, rfl⟩
theorem d_X0_slips_55 : DB mi_X0_slips 55 (.goto 32) 32 58 87 := ⟨by decide +kernel, rfl, by decide⟩
theorem d_X0_slips_58 : DC mi_X0_slips 58 (.iconst 0) 1 59 := ⟨by decide +kernel, rfl⟩
theorem d_X0_slips_59 : DB mi_X0_slips 59 (.goto 28) 28 62 87 := ⟨by decide +kernel, rfl, by decide⟩
theorem d_X0_slips_62 : DC mi_X0_slips 62 (.aload_n 0) 1 63 := ⟨by decide +kernel, rfl⟩
theorem d_X0_slips_63 : DC mi_X0_slips 63 (.getfield 35) 3 66 := ⟨by decide +kernel, rfl⟩
theorem d_X0_slips_66 : DC mi_X0_slips 66 (.invokevirtual 174) 3 69 := ⟨by decide +kernel, rfl⟩
theorem d_X0_slips_69 : DC mi_X0_slips 69 (.bipush 100) 2 71 := ⟨by decide +kernel, rfl⟩
theorem d_X0_slips_71 : DC mi_X0_slips 71 (.irem) 1 72 := ⟨by decide +kernel, rfl⟩
theorem d_X0_slips_72 : DC mi_X0_slips 72 (.aload_n 0) 1 73 := ⟨by decide +kernel, rfl⟩
theorem d_X0_slips_73 : DC mi_X0_slips 73 (.getfield 31) 3 76 := ⟨by decide +kernel, rfl⟩
theorem d_X0_slips_76 : DC mi_X0_slips 76 (.getfield 171) 3 79 := ⟨by decide +kernel, rfl⟩
theorem d_X0_slips_79 : DB mi_X0_slips 79 (.if_icmp .ge 7) 7 82 86 := ⟨by decide +kernel, rfl, by decide⟩
theorem d_X0_slips_82 : DC mi_X0_slips 82 (.iconst 1) 1 83 := ⟨by decide +kernel, rfl⟩
theorem d_X0_slips_83 : DB mi_X0_slips 83 (.goto 4) 4 86 87 := ⟨by decide +kernel, rfl, by decide⟩
theorem d_X0_slips_86 : DC mi_X0_slips 86 (.iconst 0) 1 87 := ⟨by decide +kernel, rfl⟩
theorem d_X0_slips_87 : DC mi_X0_slips 87 (.ireturn) 1 88 := ⟨by decide +kernel, rfl⟩
set_option maxHeartbeats 4000000 in
set_option maxRecDepth 100000 in
theorem sp_X0_slips (d : Nat) (hd : 1 ≤ d) (h : HH) : Sp mi_X0_slips d iI [.ref 193] h (g_X0_slips h) := by
  refine sp_of (lc := [(0, .ref 193)]) (by decide) (Nat.le_of_ble_eq_true rfl) rfl ?_
  unfold g_X0_slips
  refine sx_aload_n d_X0_slips_0 0 rfl ?_
  refine sx_getI fl_StairCount_Course_50 sh_193 rfl d_X0_slips_1 (fun v1 => ?_)
  refine sx_iconst d_X0_slips_4 ic2 ?_
  refine sx_icmp_eq d_X0_slips_5 ?_ ?_
  · refine sx_iconst d_X0_slips_18 ic0 ?_
    exact sx_zret (by decide) rfl d_X0_slips_19
  · refine sx_aload_n d_X0_slips_8 0 rfl ?_
    refine sx_getR fl_StairCount_Course_31 sh_193 rfl d_X0_slips_9 (fun p2 => ?_)
    refine sx_ckH (fun ep2 => ?_)
    refine sx_getI fl_StairCount_Course_171 ep2 rfl d_X0_slips_12 (fun v3 => ?_)
    refine sx_if_ne d_X0_slips_15 ?_ ?_
    · refine sx_iconst d_X0_slips_18 ic0 ?_
      exact sx_zret (by decide) rfl d_X0_slips_19
    · refine sx_aload_n d_X0_slips_20 0 rfl ?_
      refine sx_getR fl_StairCount_Course_31 sh_193 rfl d_X0_slips_21 (fun p4 => ?_)
      refine sx_ckH (fun ep4 => ?_)
      refine sx_getI fl_StairCount_Course_171 ep4 rfl d_X0_slips_24 (fun v5 => ?_)
      refine sx_bipush d_X0_slips_27 bc100 ?_
      refine sx_icmp_ne d_X0_slips_29 ?_ ?_
      · refine sx_iconst d_X0_slips_32 ic1 ?_
        exact sx_zret (by decide) rfl d_X0_slips_33
      · refine sx_aload_n d_X0_slips_34 0 rfl ?_
        refine sx_getI fl_StairCount_Course_50 sh_193 rfl d_X0_slips_35 (fun v6 => ?_)
        refine sx_iconst d_X0_slips_38 ic1 ?_
        refine sx_icmp_ne d_X0_slips_39 ?_ ?_
        · refine sx_aload_n d_X0_slips_42 0 rfl ?_
          refine sx_getR fl_StairCount_Course_31 sh_193 rfl d_X0_slips_43 (fun p7 => ?_)
          refine sx_ckH (fun ep7 => ?_)
          refine sx_getI fl_StairCount_Course_171 ep7 rfl d_X0_slips_46 (fun v8 => ?_)
          refine sx_bipush d_X0_slips_49 bc50 ?_
          refine sx_icmp_lt d_X0_slips_51 ?_ ?_
          · refine sx_iconst d_X0_slips_58 ic0 ?_
            refine sx_goto d_X0_slips_59 ?_
            exact sx_zret (by decide) rfl d_X0_slips_87
          · refine sx_iconst d_X0_slips_54 ic1 ?_
            refine sx_goto d_X0_slips_55 ?_
            exact sx_zret (by decide) rfl d_X0_slips_87
        · refine sx_aload_n d_X0_slips_62 0 rfl ?_
          refine sx_getR fl_StairCount_Course_35 sh_193 rfl d_X0_slips_63 (fun p9 => ?_)
          refine sx_ckH (fun ep9 => ?_)
          refine sx_callV [] mv_X7_drawn lM_StairCount_Course_174 ep9 (by omega) rfl rfl (Nat.le_of_ble_eq_true rfl) d_X0_slips_66 (sp_X7_drawn (d - 1) (by omega) p9 h) (fun r11 h10 => ?_)
          refine sx_bipush d_X0_slips_69 bc100 ?_
          refine sx_irem d_X0_slips_71 (fun v12 => ?_)
          refine sx_aload_n d_X0_slips_72 0 rfl ?_
          refine sx_getR fl_StairCount_Course_31 sh_193 rfl d_X0_slips_73 (fun p13 => ?_)
          refine sx_ckH (fun ep13 => ?_)
          refine sx_getI fl_StairCount_Course_171 ep13 rfl d_X0_slips_76 (fun v14 => ?_)
          refine sx_icmp_ge d_X0_slips_79 ?_ ?_
          · refine sx_iconst d_X0_slips_82 ic1 ?_
            refine sx_goto d_X0_slips_83 ?_
            exact sx_zret (by decide) rfl d_X0_slips_87
          · refine sx_iconst d_X0_slips_86 ic0 ?_
            exact sx_zret (by decide) rfl d_X0_slips_87
theorem d_X0_joined_0 : DC mi_X0_joined 0 (.iload_n 0) 1 1 := ⟨by decide +kernel, rfl⟩
theorem d_X0_joined_1 : DW mi_X0_joined 1 (.tableswitch 336 7 31 #[246, 258, 270, 282, 294, 306, 115, 145, 175, 230, 336, 336, 336, 336, 336, 336, 336, 336, 336, 336, 336, 336, 336, 336, 318]) := ⟨115, by decide +kernel⟩
theorem d_X0_joined_116 : DC mi_X0_joined 116 (.lload_n 1) 1 117 := ⟨by decide +kernel, rfl⟩
theorem d_X0_joined_117 : DC mi_X0_joined 117 (.lload_n 3) 1 118 := ⟨by decide +kernel, rfl⟩
theorem d_X0_joined_118 : DC mi_X0_joined 118 (.ladd) 1 119 := ⟨by decide +kernel, rfl⟩
theorem d_X0_joined_119 : DC mi_X0_joined 119 (.ldc2_w 219) 3 122 := ⟨by decide +kernel, rfl⟩
theorem d_X0_joined_122 : DC mi_X0_joined 122 (.lcmp) 1 123 := ⟨by decide +kernel, rfl⟩
theorem d_X0_joined_123 : DB mi_X0_joined 123 (.ifCond .gt 13) 13 126 136 := ⟨by decide +kernel, rfl, by decide⟩
theorem d_X0_joined_126 : DC mi_X0_joined 126 (.lload_n 1) 1 127 := ⟨by decide +kernel, rfl⟩
theorem d_X0_joined_127 : DC mi_X0_joined 127 (.lload_n 3) 1 128 := ⟨by decide +kernel, rfl⟩
theorem d_X0_joined_128 : DC mi_X0_joined 128 (.ladd) 1 129 := ⟨by decide +kernel, rfl⟩
theorem d_X0_joined_129 : DC mi_X0_joined 129 (.ldc2_w 221) 3 132 := ⟨by decide +kernel, rfl⟩
theorem d_X0_joined_132 : DC mi_X0_joined 132 (.lcmp) 1 133 := ⟨by decide +kernel, rfl⟩
theorem d_X0_joined_133 : DB mi_X0_joined 133 (.ifCond .ge 9) 9 136 142 := ⟨by decide +kernel, rfl, by decide⟩
theorem d_X0_joined_136 : DC mi_X0_joined 136 (.ldc2_w 156) 3 139 := ⟨by decide +kernel, rfl⟩
theorem d_X0_joined_139 : DB mi_X0_joined 139 (.goto 6) 6 142 145 := ⟨by decide +kernel, rfl, by decide⟩
theorem d_X0_joined_142 : DC mi_X0_joined 142 (.lload_n 1) 1 143 := ⟨by decide +kernel, rfl⟩
theorem d_X0_joined_143 : DC mi_X0_joined 143 (.lload_n 3) 1 144 := ⟨by decide +kernel, rfl⟩
theorem d_X0_joined_144 : DC mi_X0_joined 144 (.ladd) 1 145 := ⟨by decide +kernel, rfl⟩
theorem d_X0_joined_145 : DC mi_X0_joined 145 (.lreturn) 1 146 := ⟨by decide +kernel, rfl⟩
theorem d_X0_joined_146 : DC mi_X0_joined 146 (.lload_n 1) 1 147 := ⟨by decide +kernel, rfl⟩
theorem d_X0_joined_147 : DC mi_X0_joined 147 (.lload_n 3) 1 148 := ⟨by decide +kernel, rfl⟩
theorem d_X0_joined_148 : DC mi_X0_joined 148 (.lsub) 1 149 := ⟨by decide +kernel, rfl⟩
theorem d_X0_joined_149 : DC mi_X0_joined 149 (.ldc2_w 219) 3 152 := ⟨by decide +kernel, rfl⟩
theorem d_X0_joined_152 : DC mi_X0_joined 152 (.lcmp) 1 153 := ⟨by decide +kernel, rfl⟩
theorem d_X0_joined_153 : DB mi_X0_joined 153 (.ifCond .gt 13) 13 156 166 := ⟨by decide +kernel, rfl, by decide⟩
theorem d_X0_joined_156 : DC mi_X0_joined 156 (.lload_n 1) 1 157 := ⟨by decide +kernel, rfl⟩
theorem d_X0_joined_157 : DC mi_X0_joined 157 (.lload_n 3) 1 158 := ⟨by decide +kernel, rfl⟩
theorem d_X0_joined_158 : DC mi_X0_joined 158 (.lsub) 1 159 := ⟨by decide +kernel, rfl⟩
theorem d_X0_joined_159 : DC mi_X0_joined 159 (.ldc2_w 221) 3 162 := ⟨by decide +kernel, rfl⟩
theorem d_X0_joined_162 : DC mi_X0_joined 162 (.lcmp) 1 163 := ⟨by decide +kernel, rfl⟩
theorem d_X0_joined_163 : DB mi_X0_joined 163 (.ifCond .ge 9) 9 166 172 := ⟨by decide +kernel, rfl, by decide⟩
theorem d_X0_joined_166 : DC mi_X0_joined 166 (.ldc2_w 156) 3 169 := ⟨by decide +kernel, rfl⟩
theorem d_X0_joined_169 : DB mi_X0_joined 169 (.goto 6) 6 172 175 := ⟨by decide +kernel, rfl, by decide⟩
theorem d_X0_joined_172 : DC mi_X0_joined 172 (.lload_n 1) 1 173 := ⟨by decide +kernel, rfl⟩
theorem d_X0_joined_173 : DC mi_X0_joined 173 (.lload_n 3) 1 174 := ⟨by decide +kernel, rfl⟩
theorem d_X0_joined_174 : DC mi_X0_joined 174 (.lsub) 1 175 := ⟨by decide +kernel, rfl⟩
theorem d_X0_joined_175 : DC mi_X0_joined 175 (.lreturn) 1 176 := ⟨by decide +kernel, rfl⟩
theorem d_X0_joined_176 : DC mi_X0_joined 176 (.lload_n 1) 1 177 := ⟨by decide +kernel, rfl⟩
theorem d_X0_joined_177 : DC mi_X0_joined 177 (.lconst 0) 1 178 := ⟨by decide +kernel, rfl⟩
theorem d_X0_joined_178 : DC mi_X0_joined 178 (.lcmp) 1 179 := ⟨by decide +kernel, rfl⟩
theorem d_X0_joined_179 : DB mi_X0_joined 179 (.ifCond .ne 9) 9 182 188 := ⟨by decide +kernel, rfl, by decide⟩
theorem d_X0_joined_182 : DC mi_X0_joined 182 (.ldc2_w 219) 3 185 := ⟨by decide +kernel, rfl⟩
theorem d_X0_joined_185 : DB mi_X0_joined 185 (.goto 19) 19 188 204 := ⟨by decide +kernel, rfl, by decide⟩
theorem d_X0_joined_188 : DC mi_X0_joined 188 (.ldc2_w 219) 3 191 := ⟨by decide +kernel, rfl⟩
theorem d_X0_joined_191 : DC mi_X0_joined 191 (.lload_n 1) 1 192 := ⟨by decide +kernel, rfl⟩
theorem d_X0_joined_192 : DC mi_X0_joined 192 (.lconst 0) 1 193 := ⟨by decide +kernel, rfl⟩
theorem d_X0_joined_193 : DC mi_X0_joined 193 (.lcmp) 1 194 := ⟨by decide +kernel, rfl⟩
theorem d_X0_joined_194 : DB mi_X0_joined 194 (.ifCond .ge 8) 8 197 202 := ⟨by decide +kernel, rfl, by decide⟩
theorem d_X0_joined_197 : DC mi_X0_joined 197 (.lload_n 1) 1 198 := ⟨by decide +kernel, rfl⟩
theorem d_X0_joined_198 : DC mi_X0_joined 198 (.lneg) 1 199 := ⟨by decide +kernel, rfl⟩
theorem d_X0_joined_199 : DB mi_X0_joined 199 (.goto 4) 4 202 203 := ⟨by decide +kernel, rfl, by decide⟩
theorem d_X0_joined_202 : DC mi_X0_joined 202 (.lload_n 1) 1 203 := ⟨by decide +kernel, rfl⟩
theorem d_X0_joined_203 : DC mi_X0_joined 203 (.ldiv) 1 204 := ⟨by decide +kernel, rfl⟩
theorem d_X0_joined_204 : DC mi_X0_joined 204 (.lstore 5) 2 206 := ⟨by decide +kernel, rfl⟩
theorem d_X0_joined_206 : DC mi_X0_joined 206 (.lload_n 3) 1 207 := ⟨by decide +kernel, rfl⟩
theorem d_X0_joined_207 : DC mi_X0_joined 207 (.lload 5) 2 209 := ⟨by decide +kernel, rfl⟩
theorem d_X0_joined_209 : DC mi_X0_joined 209 (.lcmp) 1 210 := ⟨by decide +kernel, rfl⟩
theorem d_X0_joined_210 : DB mi_X0_joined 210 (.ifCond .gt 11) 11 213 221 := ⟨by decide +kernel, rfl, by decide⟩
theorem d_X0_joined_213 : DC mi_X0_joined 213 (.lload_n 3) 1 214 := ⟨by decide +kernel, rfl⟩
theorem d_X0_joined_214 : DC mi_X0_joined 214 (.lload 5) 2 216 := ⟨by decide +kernel, rfl⟩
theorem d_X0_joined_216 : DC mi_X0_joined 216 (.lneg) 1 217 := ⟨by decide +kernel, rfl⟩
theorem d_X0_joined_217 : DC mi_X0_joined 217 (.lcmp) 1 218 := ⟨by decide +kernel, rfl⟩
theorem d_X0_joined_218 : DB mi_X0_joined 218 (.ifCond .ge 9) 9 221 227 := ⟨by decide +kernel, rfl, by decide⟩
theorem d_X0_joined_221 : DC mi_X0_joined 221 (.ldc2_w 156) 3 224 := ⟨by decide +kernel, rfl⟩
theorem d_X0_joined_224 : DB mi_X0_joined 224 (.goto 6) 6 227 230 := ⟨by decide +kernel, rfl, by decide⟩
theorem d_X0_joined_227 : DC mi_X0_joined 227 (.lload_n 1) 1 228 := ⟨by decide +kernel, rfl⟩
theorem d_X0_joined_228 : DC mi_X0_joined 228 (.lload_n 3) 1 229 := ⟨by decide +kernel, rfl⟩
theorem d_X0_joined_229 : DC mi_X0_joined 229 (.lmul) 1 230 := ⟨by decide +kernel, rfl⟩
theorem d_X0_joined_230 : DC mi_X0_joined 230 (.lreturn) 1 231 := ⟨by decide +kernel, rfl⟩
theorem d_X0_joined_231 : DC mi_X0_joined 231 (.lload_n 3) 1 232 := ⟨by decide +kernel, rfl⟩
theorem d_X0_joined_232 : DC mi_X0_joined 232 (.lconst 0) 1 233 := ⟨by decide +kernel, rfl⟩
theorem d_X0_joined_233 : DC mi_X0_joined 233 (.lcmp) 1 234 := ⟨by decide +kernel, rfl⟩
theorem d_X0_joined_234 : DB mi_X0_joined 234 (.ifCond .ne 9) 9 237 243 := ⟨by decide +kernel, rfl, by decide⟩
theorem d_X0_joined_237 : DC mi_X0_joined 237 (.ldc2_w 156) 3 240 := ⟨by decide +kernel, rfl⟩
theorem d_X0_joined_240 : DB mi_X0_joined 240 (.goto 6) 6 243 246 := ⟨by decide +kernel, rfl, by decide⟩
theorem d_X0_joined_243 : DC mi_X0_joined 243 (.lload_n 1) 1 244 := ⟨by decide +kernel, rfl⟩
theorem d_X0_joined_244 : DC mi_X0_joined 244 (.lload_n 3) 1 245 := ⟨by decide +kernel, rfl⟩
theorem d_X0_joined_245 : DC mi_X0_joined 245 (.ldiv) 1 246 := ⟨by decide +kernel, rfl⟩
theorem d_X0_joined_246 : DC mi_X0_joined 246 (.lreturn) 1 247 := ⟨by decide +kernel, rfl⟩
theorem d_X0_joined_247 : DC mi_X0_joined 247 (.lload_n 1) 1 248 := ⟨by decide +kernel, rfl⟩
theorem d_X0_joined_248 : DC mi_X0_joined 248 (.lload_n 3) 1 249 := ⟨by decide +kernel, rfl⟩
theorem d_X0_joined_249 : DC mi_X0_joined 249 (.lcmp) 1 250 := ⟨by decide +kernel, rfl⟩
theorem d_X0_joined_250 : DB mi_X0_joined 250 (.ifCond .ge 7) 7 253 257 := ⟨by decide +kernel, rfl, by decide⟩
theorem d_X0_joined_253 : DC mi_X0_joined 253 (.lconst 1) 1 254 := ⟨by decide +kernel, rfl⟩
theorem d_X0_joined_254 : DB mi_X0_joined 254 (.goto 4) 4 257 258 := ⟨by decide +kernel, rfl, by decide⟩
theorem d_X0_joined_257 : DC mi_X0_joined 257 (.lconst 0) 1 258 := ⟨by decide +kernel, rfl⟩
theorem d_X0_joined_258 : DC mi_X0_joined 258 (.lreturn) 1 259 := ⟨by decide +kernel, rfl⟩
theorem d_X0_joined_259 : DC mi_X0_joined 259 (.lload_n 1) 1 260 := ⟨by decide +kernel, rfl⟩
theorem d_X0_joined_260 : DC mi_X0_joined 260 (.lload_n 3) 1 261 := ⟨by decide +kernel, rfl⟩
theorem d_X0_joined_261 : DC mi_X0_joined 261 (.lcmp) 1 262 := ⟨by decide +kernel, rfl⟩
theorem d_X0_joined_262 : DB mi_X0_joined 262 (.ifCond .gt 7) 7 265 269 := ⟨by decide +kernel, rfl, by decide⟩
theorem d_X0_joined_265 : DC mi_X0_joined 265 (.lconst 1) 1 266 := ⟨by decide +kernel, rfl⟩
theorem d_X0_joined_266 : DB mi_X0_joined 266 (.goto 4) 4 269 270 := ⟨by decide +kernel, rfl, by decide⟩
theorem d_X0_joined_269 : DC mi_X0_joined 269 (.lconst 0) 1 270 := ⟨by decide +kernel, rfl⟩
theorem d_X0_joined_270 : DC mi_X0_joined 270 (.lreturn) 1 271 := ⟨by decide +kernel, rfl⟩
theorem d_X0_joined_271 : DC mi_X0_joined 271 (.lload_n 1) 1 272 := ⟨by decide +kernel, rfl⟩
theorem d_X0_joined_272 : DC mi_X0_joined 272 (.lload_n 3) 1 273 := ⟨by decide +kernel, rfl⟩
theorem d_X0_joined_273 : DC mi_X0_joined 273 (.lcmp) 1 274 := ⟨by decide +kernel, rfl⟩
theorem d_X0_joined_274 : DB mi_X0_joined 274 (.ifCond .ne 7) 7 277 281 := ⟨by decide +kernel, rfl, by decide⟩
theorem d_X0_joined_277 : DC mi_X0_joined 277 (.lconst 1) 1 278 := ⟨by decide +kernel, rfl⟩
theorem d_X0_joined_278 : DB mi_X0_joined 278 (.goto 4) 4 281 282 := ⟨by decide +kernel, rfl, by decide⟩
theorem d_X0_joined_281 : DC mi_X0_joined 281 (.lconst 0) 1 282 := ⟨by decide +kernel, rfl⟩
theorem d_X0_joined_282 : DC mi_X0_joined 282 (.lreturn) 1 283 := ⟨by decide +kernel, rfl⟩
theorem d_X0_joined_283 : DC mi_X0_joined 283 (.lload_n 1) 1 284 := ⟨by decide +kernel, rfl⟩
theorem d_X0_joined_284 : DC mi_X0_joined 284 (.lload_n 3) 1 285 := ⟨by decide +kernel, rfl⟩
theorem d_X0_joined_285 : DC mi_X0_joined 285 (.lcmp) 1 286 := ⟨by decide +kernel, rfl⟩
theorem d_X0_joined_286 : DB mi_X0_joined 286 (.ifCond .eq 7) 7 289 293 := ⟨by decide +kernel, rfl, by decide⟩
theorem d_X0_joined_289 : DC mi_X0_joined 289 (.lconst 1) 1 290 := ⟨by decide +kernel, rfl⟩
theorem d_X0_joined_290 : DB mi_X0_joined 290 (.goto 4) 4 293 294 := ⟨by decide +kernel, rfl, by decide⟩
theorem d_X0_joined_293 : DC mi_X0_joined 293 (.lconst 0) 1 294 := ⟨by decide +kernel, rfl⟩
theorem d_X0_joined_294 : DC mi_X0_joined 294 (.lreturn) 1 295 := ⟨by decide +kernel, rfl⟩
theorem d_X0_joined_295 : DC mi_X0_joined 295 (.lload_n 1) 1 296 := ⟨by decide +kernel, rfl⟩
theorem d_X0_joined_296 : DC mi_X0_joined 296 (.lload_n 3) 1 297 := ⟨by decide +kernel, rfl⟩
theorem d_X0_joined_297 : DC mi_X0_joined 297 (.lcmp) 1 298 := ⟨by decide +kernel, rfl⟩
theorem d_X0_joined_298 : DB mi_X0_joined 298 (.ifCond .lt 7) 7 301 305 := ⟨by decide +kernel, rfl, by decide⟩
theorem d_X0_joined_301 : DC mi_X0_joined 301 (.lconst 1) 1 302 := ⟨by decide +kernel, rfl⟩
theorem d_X0_joined_302 : DB mi_X0_joined 302 (.goto 4) 4 305 306 := ⟨by decide +kernel, rfl, by decide⟩
theorem d_X0_joined_305 : DC mi_X0_joined 305 (.lconst 0) 1 306 := ⟨by decide +kernel, rfl⟩
theorem d_X0_joined_306 : DC mi_X0_joined 306 (.lreturn) 1 307 := ⟨by decide +kernel, rfl⟩
theorem d_X0_joined_307 : DC mi_X0_joined 307 (.lload_n 1) 1 308 := ⟨by decide +kernel, rfl⟩
theorem d_X0_joined_308 : DC mi_X0_joined 308 (.lload_n 3) 1 309 := ⟨by decide +kernel, rfl⟩
theorem d_X0_joined_309 : DC mi_X0_joined 309 (.lcmp) 1 310 := ⟨by decide +kernel, rfl⟩
theorem d_X0_joined_310 : DB mi_X0_joined 310 (.ifCond .le 7) 7 313 317 := ⟨by decide +kernel, rfl, by decide⟩
theorem d_X0_joined_313 : DC mi_X0_joined 313 (.lconst 1) 1 314 := ⟨by decide +kernel, rfl⟩
theorem d_X0_joined_314 : DB mi_X0_joined 314 (.goto 4) 4 317 318 := ⟨by decide +kernel, rfl, by decide⟩
theorem d_X0_joined_317 : DC mi_X0_joined 317 (.lconst 0) 1 318 := ⟨by decide +kernel, rfl⟩
theorem d_X0_joined_318 : DC mi_X0_joined 318 (.lreturn) 1 319 := ⟨by decide +kernel, rfl⟩
theorem d_X0_joined_319 : DC mi_X0_joined 319 (.lload_n 1) 1 320 := ⟨by decide +kernel, rfl⟩
theorem d_X0_joined_320 : DC mi_X0_joined 320 (.lconst 0) 1 321 := ⟨by decide +kernel, rfl⟩
theorem d_X0_joined_321 : DC mi_X0_joined 321 (.lcmp) 1 322 := ⟨by decide +kernel, rfl⟩
theorem d_X0_joined_322 : DB mi_X0_joined 322 (.ifCond .eq 13) 13 325 335 := ⟨by decide +kernel, rfl, by decide⟩
theorem d_X0_joined_325 : DC mi_X0_joined 325 (.lload_n 3) 1 326 := ⟨by decide +kernel, rfl⟩
theorem d_X0_joined_326 : DC mi_X0_joined 326 (.lconst 0) 1 327 := ⟨by decide +kernel, rfl⟩
theorem d_X0_joined_327 : DC mi_X0_joined 327 (.lcmp) 1 328 := ⟨by decide +kernel, rfl⟩
theorem d_X0_joined_328 : DB mi_X0_joined 328 (.ifCond .eq 7) 7 331 335 := ⟨by decide +kernel, rfl, by decide⟩
theorem d_X0_joined_331 : DC mi_X0_joined 331 (.lconst 1) 1 332 := ⟨by decide +kernel, rfl⟩
theorem d_X0_joined_332 : DB mi_X0_joined 332 (.goto 4) 4 335 336 := ⟨by decide +kernel, rfl, by decide⟩
theorem d_X0_joined_335 : DC mi_X0_joined 335 (.lconst 0) 1 336 := ⟨by decide +kernel, rfl⟩
theorem d_X0_joined_336 : DC mi_X0_joined 336 (.lreturn) 1 337 := ⟨by decide +kernel, rfl⟩
theorem d_X0_joined_337 : DC mi_X0_joined 337 (.lload_n 1) 1 338 := ⟨by decide +kernel, rfl⟩
theorem d_X0_joined_338 : DC mi_X0_joined 338 (.lconst 0) 1 339 := ⟨by decide +kernel, rfl⟩
theorem d_X0_joined_339 : DC mi_X0_joined 339 (.lcmp) 1 340 := ⟨by decide +kernel, rfl⟩
theorem d_X0_joined_340 : DB mi_X0_joined 340 (.ifCond .ne 9) 9 343 349 := ⟨by decide +kernel, rfl, by decide⟩
theorem d_X0_joined_343 : DC mi_X0_joined 343 (.lload_n 3) 1 344 := ⟨by decide +kernel, rfl⟩
theorem d_X0_joined_344 : DC mi_X0_joined 344 (.lconst 0) 1 345 := ⟨by decide +kernel, rfl⟩
theorem d_X0_joined_345 : DC mi_X0_joined 345 (.lcmp) 1 346 := ⟨by decide +kernel, rfl⟩
theorem d_X0_joined_346 : DB mi_X0_joined 346 (.ifCond .eq 7) 7 349 353 := ⟨by decide +kernel, rfl, by decide⟩
theorem d_X0_joined_349 : DC mi_X0_joined 349 (.lconst 1) 1 350 := ⟨by decide +kernel, rfl⟩
theorem d_X0_joined_350 : DB mi_X0_joined 350 (.goto 4) 4 353 354 := ⟨by decide +kernel, rfl, by decide⟩
theorem d_X0_joined_353 : DC mi_X0_joined 353 (.lconst 0) 1 354 := ⟨by decide +kernel, rfl⟩
theorem d_X0_joined_354 : DC mi_X0_joined 354 (.lreturn) 1 355 := ⟨by decide +kernel, rfl⟩
set_option maxHeartbeats 4000000 in
set_option maxRecDepth 100000 in
theorem sp_X0_joined (d : Nat) (hd : 0 ≤ d) (a0 : Int32) (a1 : Int64) (a2 : Int64) (h : HH) : Sp mi_X0_joined d iL [.int a0, .long a1, .long a2] h (g_X0_joined a0 a1 a2 h) := by
  refine sp_of (lc := [(0, .int a0), (1, .long a1), (3, .long a2)]) (by decide) (Nat.le_of_ble_eq_true rfl) rfl ?_
  unfold g_X0_joined
  refine sx_iload_n d_X0_joined_0 0 rfl ?_
  refine sx_if (fun e1 => ?_) (fun e1 => ?_)
  · refine sx_tsIn (off := 246) (t := 247) d_X0_joined_1 (by rw [e1] <;> decide) (by rw [e1] <;> decide) (by rw [e1] <;> decide) (by decide) ?_
    refine sx_lload_n d_X0_joined_247 1 rfl ?_
    refine sx_lload_n d_X0_joined_248 2 rfl ?_
    refine sx_lcmp d_X0_joined_249 ?_
    refine sx_if_ge d_X0_joined_250 ?_ ?_
    · refine sx_lconst d_X0_joined_253 lc1 ?_
      refine sx_goto d_X0_joined_254 ?_
      exact sx_lret rfl d_X0_joined_258
    · refine sx_lconst d_X0_joined_257 lc0 ?_
      exact sx_lret rfl d_X0_joined_258
  · refine sx_if (fun e2 => ?_) (fun e2 => ?_)
    · refine sx_tsIn (off := 258) (t := 259) d_X0_joined_1 (by rw [e2] <;> decide) (by rw [e2] <;> decide) (by rw [e2] <;> decide) (by decide) ?_
      refine sx_lload_n d_X0_joined_259 1 rfl ?_
      refine sx_lload_n d_X0_joined_260 2 rfl ?_
      refine sx_lcmp d_X0_joined_261 ?_
      refine sx_if_gt d_X0_joined_262 ?_ ?_
      · refine sx_lconst d_X0_joined_269 lc0 ?_
        exact sx_lret rfl d_X0_joined_270
      · refine sx_lconst d_X0_joined_265 lc1 ?_
        refine sx_goto d_X0_joined_266 ?_
        exact sx_lret rfl d_X0_joined_270
    · refine sx_if (fun e3 => ?_) (fun e3 => ?_)
      · refine sx_tsIn (off := 270) (t := 271) d_X0_joined_1 (by rw [e3] <;> decide) (by rw [e3] <;> decide) (by rw [e3] <;> decide) (by decide) ?_
        refine sx_lload_n d_X0_joined_271 1 rfl ?_
        refine sx_lload_n d_X0_joined_272 2 rfl ?_
        refine sx_lcmp d_X0_joined_273 ?_
        refine sx_if_ne d_X0_joined_274 ?_ ?_
        · refine sx_lconst d_X0_joined_277 lc1 ?_
          refine sx_goto d_X0_joined_278 ?_
          exact sx_lret rfl d_X0_joined_282
        · refine sx_lconst d_X0_joined_281 lc0 ?_
          exact sx_lret rfl d_X0_joined_282
      · refine sx_if (fun e4 => ?_) (fun e4 => ?_)
        · refine sx_tsIn (off := 282) (t := 283) d_X0_joined_1 (by rw [e4] <;> decide) (by rw [e4] <;> decide) (by rw [e4] <;> decide) (by decide) ?_
          refine sx_lload_n d_X0_joined_283 1 rfl ?_
          refine sx_lload_n d_X0_joined_284 2 rfl ?_
          refine sx_lcmp d_X0_joined_285 ?_
          refine sx_if_eq d_X0_joined_286 ?_ ?_
          · refine sx_lconst d_X0_joined_293 lc0 ?_
            exact sx_lret rfl d_X0_joined_294
          · refine sx_lconst d_X0_joined_289 lc1 ?_
            refine sx_goto d_X0_joined_290 ?_
            exact sx_lret rfl d_X0_joined_294
        · refine sx_if (fun e5 => ?_) (fun e5 => ?_)
          · refine sx_tsIn (off := 294) (t := 295) d_X0_joined_1 (by rw [e5] <;> decide) (by rw [e5] <;> decide) (by rw [e5] <;> decide) (by decide) ?_
            refine sx_lload_n d_X0_joined_295 1 rfl ?_
            refine sx_lload_n d_X0_joined_296 2 rfl ?_
            refine sx_lcmp d_X0_joined_297 ?_
            refine sx_if_lt d_X0_joined_298 ?_ ?_
            · refine sx_lconst d_X0_joined_305 lc0 ?_
              exact sx_lret rfl d_X0_joined_306
            · refine sx_lconst d_X0_joined_301 lc1 ?_
              refine sx_goto d_X0_joined_302 ?_
              exact sx_lret rfl d_X0_joined_306
          · refine sx_if (fun e6 => ?_) (fun e6 => ?_)
            · refine sx_tsIn (off := 306) (t := 307) d_X0_joined_1 (by rw [e6] <;> decide) (by rw [e6] <;> decide) (by rw [e6] <;> decide) (by decide) ?_
              refine sx_lload_n d_X0_joined_307 1 rfl ?_
              refine sx_lload_n d_X0_joined_308 2 rfl ?_
              refine sx_lcmp d_X0_joined_309 ?_
              refine sx_if_le d_X0_joined_310 ?_ ?_
              · refine sx_lconst d_X0_joined_313 lc1 ?_
                refine sx_goto d_X0_joined_314 ?_
                exact sx_lret rfl d_X0_joined_318
              · refine sx_lconst d_X0_joined_317 lc0 ?_
                exact sx_lret rfl d_X0_joined_318
            · refine sx_if (fun e7 => ?_) (fun e7 => ?_)
              · refine sx_tsIn (off := 115) (t := 116) d_X0_joined_1 (by rw [e7] <;> decide) (by rw [e7] <;> decide) (by rw [e7] <;> decide) (by decide) ?_
                refine sx_lload_n d_X0_joined_116 1 rfl ?_
                refine sx_lload_n d_X0_joined_117 2 rfl ?_
                refine sx_ladd d_X0_joined_118 ?_
                refine sx_ldc2 d_X0_joined_119 lQ_StairCount_Course_219 ?_
                refine sx_lcmp d_X0_joined_122 ?_
                refine sx_if_gt d_X0_joined_123 ?_ ?_
                · refine sx_ldc2 d_X0_joined_136 lQ_StairCount_Course_156 ?_
                  refine sx_goto d_X0_joined_139 ?_
                  exact sx_lret rfl d_X0_joined_145
                · refine sx_lload_n d_X0_joined_126 1 rfl ?_
                  refine sx_lload_n d_X0_joined_127 2 rfl ?_
                  refine sx_ladd d_X0_joined_128 ?_
                  refine sx_ldc2 d_X0_joined_129 lQ_StairCount_Course_221 ?_
                  refine sx_lcmp d_X0_joined_132 ?_
                  refine sx_if_ge d_X0_joined_133 ?_ ?_
                  · refine sx_ldc2 d_X0_joined_136 lQ_StairCount_Course_156 ?_
                    refine sx_goto d_X0_joined_139 ?_
                    exact sx_lret rfl d_X0_joined_145
                  · refine sx_lload_n d_X0_joined_142 1 rfl ?_
                    refine sx_lload_n d_X0_joined_143 2 rfl ?_
                    refine sx_ladd d_X0_joined_144 ?_
                    exact sx_lret rfl d_X0_joined_145
              · refine sx_if (fun e8 => ?_) (fun e8 => ?_)
                · refine sx_tsIn (off := 145) (t := 146) d_X0_joined_1 (by rw [e8] <;> decide) (by rw [e8] <;> decide) (by rw [e8] <;> decide) (by decide) ?_
                  refine sx_lload_n d_X0_joined_146 1 rfl ?_
                  refine sx_lload_n d_X0_joined_147 2 rfl ?_
                  refine sx_lsub d_X0_joined_148 ?_
                  refine sx_ldc2 d_X0_joined_149 lQ_StairCount_Course_219 ?_
                  refine sx_lcmp d_X0_joined_152 ?_
                  refine sx_if_gt d_X0_joined_153 ?_ ?_
                  · refine sx_ldc2 d_X0_joined_166 lQ_StairCount_Course_156 ?_
                    refine sx_goto d_X0_joined_169 ?_
                    exact sx_lret rfl d_X0_joined_175
                  · refine sx_lload_n d_X0_joined_156 1 rfl ?_
                    refine sx_lload_n d_X0_joined_157 2 rfl ?_
                    refine sx_lsub d_X0_joined_158 ?_
                    refine sx_ldc2 d_X0_joined_159 lQ_StairCount_Course_221 ?_
                    refine sx_lcmp d_X0_joined_162 ?_
                    refine sx_if_ge d_X0_joined_163 ?_ ?_
                    · refine sx_ldc2 d_X0_joined_166 lQ_StairCount_Course_156 ?_
                      refine sx_goto d_X0_joined_169 ?_
                      exact sx_lret rfl d_X0_joined_175
                    · refine sx_lload_n d_X0_joined_172 1 rfl ?_
                      refine sx_lload_n d_X0_joined_173 2 rfl ?_
                      refine sx_lsub d_X0_joined_174 ?_
                      exact sx_lret rfl d_X0_joined_175
                · refine sx_if (fun e9 => ?_) (fun e9 => ?_)
                  · refine sx_tsIn (off := 175) (t := 176) d_X0_joined_1 (by rw [e9] <;> decide) (by rw [e9] <;> decide) (by rw [e9] <;> decide) (by decide) ?_
                    refine sx_lload_n d_X0_joined_176 1 rfl ?_
                    refine sx_lconst d_X0_joined_177 lc0 ?_
                    refine sx_lcmp d_X0_joined_178 ?_
                    refine sx_jn (fun j => ∀ (y13 : Int64) (h : HH), Sx mi_X0_joined d iL (j y13 h) 204 [(1, .long a1), (3, .long a2)] [.long y13] h) ?_ ?_
                    · intro y13 h12
                      refine sx_lstore (i := 5) (lc' := [(5, .long y13), (1, .long a1), (3, .long a2)]) d_X0_joined_204 (by decide) rfl ?_
                      refine sx_lload_n d_X0_joined_206 2 rfl ?_
                      refine sx_lload d_X0_joined_207 0 rfl ?_
                      refine sx_lcmp d_X0_joined_209 ?_
                      refine sx_if_gt d_X0_joined_210 ?_ ?_
                      · refine sx_ldc2 d_X0_joined_221 lQ_StairCount_Course_156 ?_
                        refine sx_goto d_X0_joined_224 ?_
                        exact sx_lret rfl d_X0_joined_230
                      · refine sx_lload_n d_X0_joined_213 2 rfl ?_
                        refine sx_lload d_X0_joined_214 0 rfl ?_
                        refine sx_lneg d_X0_joined_216 ?_
                        refine sx_lcmp d_X0_joined_217 ?_
                        refine sx_if_ge d_X0_joined_218 ?_ ?_
                        · refine sx_ldc2 d_X0_joined_221 lQ_StairCount_Course_156 ?_
                          refine sx_goto d_X0_joined_224 ?_
                          exact sx_lret rfl d_X0_joined_230
                        · refine sx_lload_n d_X0_joined_227 1 rfl ?_
                          refine sx_lload_n d_X0_joined_228 2 rfl ?_
                          refine sx_lmul d_X0_joined_229 ?_
                          exact sx_lret rfl d_X0_joined_230
                    · intro j10 k11
                      refine sx_if_ne d_X0_joined_179 ?_ ?_
                      · refine sx_ldc2 d_X0_joined_182 lQ_StairCount_Course_219 ?_
                        refine sx_goto d_X0_joined_185 ?_
                        refine sx_lc (lc' := [(1, .long a1), (3, .long a2)]) [1, 2] rfl ?_
                        exact k11 (1000000000000 : Int64) h
                      · refine sx_ldc2 d_X0_joined_188 lQ_StairCount_Course_219 ?_
                        refine sx_lload_n d_X0_joined_191 1 rfl ?_
                        refine sx_lconst d_X0_joined_192 lc0 ?_
                        refine sx_lcmp d_X0_joined_193 ?_
                        refine sx_jn (fun j => ∀ (y17 : Int64) (h : HH), Sx mi_X0_joined d iL (j y17 h) 203 [(1, .long a1), (3, .long a2)] [.long y17, .long (1000000000000 : Int64)] h) ?_ ?_
                        · intro y17 h16
                          refine sx_ldiv d_X0_joined_203 (fun v18 => ?_)
                          exact k11 v18 h16
                        · intro j14 k15
                          refine sx_if_ge d_X0_joined_194 ?_ ?_
                          · refine sx_lload_n d_X0_joined_197 1 rfl ?_
                            refine sx_lneg d_X0_joined_198 ?_
                            refine sx_goto d_X0_joined_199 ?_
                            refine sx_lc (lc' := [(1, .long a1), (3, .long a2)]) [1, 2] rfl ?_
                            exact k15 (-a1) h
                          · refine sx_lload_n d_X0_joined_202 1 rfl ?_
                            refine sx_lc (lc' := [(1, .long a1), (3, .long a2)]) [1, 2] rfl ?_
                            exact k15 a1 h
                  · refine sx_if (fun e19 => ?_) (fun e19 => ?_)
                    · refine sx_tsIn (off := 230) (t := 231) d_X0_joined_1 (by rw [e19] <;> decide) (by rw [e19] <;> decide) (by rw [e19] <;> decide) (by decide) ?_
                      refine sx_lload_n d_X0_joined_231 2 rfl ?_
                      refine sx_lconst d_X0_joined_232 lc0 ?_
                      refine sx_lcmp d_X0_joined_233 ?_
                      refine sx_if_ne d_X0_joined_234 ?_ ?_
                      · refine sx_ldc2 d_X0_joined_237 lQ_StairCount_Course_156 ?_
                        refine sx_goto d_X0_joined_240 ?_
                        exact sx_lret rfl d_X0_joined_246
                      · refine sx_lload_n d_X0_joined_243 1 rfl ?_
                        refine sx_lload_n d_X0_joined_244 2 rfl ?_
                        refine sx_ldiv d_X0_joined_245 (fun v20 => ?_)
                        exact sx_lret rfl d_X0_joined_246
                    · refine sx_if (fun e21 => ?_) (fun e21 => ?_)
                      · refine sx_tsIn (off := 318) (t := 319) d_X0_joined_1 (by rw [e21] <;> decide) (by rw [e21] <;> decide) (by rw [e21] <;> decide) (by decide) ?_
                        refine sx_lload_n d_X0_joined_319 1 rfl ?_
                        refine sx_lconst d_X0_joined_320 lc0 ?_
                        refine sx_lcmp d_X0_joined_321 ?_
                        refine sx_if_eq d_X0_joined_322 ?_ ?_
                        · refine sx_lconst d_X0_joined_335 lc0 ?_
                          exact sx_lret rfl d_X0_joined_336
                        · refine sx_lload_n d_X0_joined_325 2 rfl ?_
                          refine sx_lconst d_X0_joined_326 lc0 ?_
                          refine sx_lcmp d_X0_joined_327 ?_
                          refine sx_if_eq d_X0_joined_328 ?_ ?_
                          · refine sx_lconst d_X0_joined_335 lc0 ?_
                            exact sx_lret rfl d_X0_joined_336
                          · refine sx_lconst d_X0_joined_331 lc1 ?_
                            refine sx_goto d_X0_joined_332 ?_
                            exact sx_lret rfl d_X0_joined_336
                      · have q7 := ne_toInt (x := a0) (c := (7 : Int32)) (k := 7) e1 ti7
                        have q8 := ne_toInt (x := a0) (c := (8 : Int32)) (k := 8) e2 ti8
                        have q9 := ne_toInt (x := a0) (c := (9 : Int32)) (k := 9) e3 ti9
                        have q10 := ne_toInt (x := a0) (c := (10 : Int32)) (k := 10) e4 ti10
                        have q11 := ne_toInt (x := a0) (c := (11 : Int32)) (k := 11) e5 ti11
                        have q12 := ne_toInt (x := a0) (c := (12 : Int32)) (k := 12) e6 ti12
                        have q13 := ne_toInt (x := a0) (c := (13 : Int32)) (k := 13) e7 ti13
                        have q14 := ne_toInt (x := a0) (c := (14 : Int32)) (k := 14) e8 ti14
                        have q15 := ne_toInt (x := a0) (c := (15 : Int32)) (k := 15) e9 ti15
                        have q16 := ne_toInt (x := a0) (c := (16 : Int32)) (k := 16) e19 ti16
                        have q31 := ne_toInt (x := a0) (c := (31 : Int32)) (k := 31) e21 ti31
                        refine sx_tsD (t := 337) d_X0_joined_1 ?_ (by decide) ?_
                        · by_cases w17 : a0.toInt = 17
                          · exact Or.inr (by rw [w17]; decide)
                          by_cases w18 : a0.toInt = 18
                          · exact Or.inr (by rw [w18]; decide)
                          by_cases w19 : a0.toInt = 19
                          · exact Or.inr (by rw [w19]; decide)
                          by_cases w20 : a0.toInt = 20
                          · exact Or.inr (by rw [w20]; decide)
                          by_cases w21 : a0.toInt = 21
                          · exact Or.inr (by rw [w21]; decide)
                          by_cases w22 : a0.toInt = 22
                          · exact Or.inr (by rw [w22]; decide)
                          by_cases w23 : a0.toInt = 23
                          · exact Or.inr (by rw [w23]; decide)
                          by_cases w24 : a0.toInt = 24
                          · exact Or.inr (by rw [w24]; decide)
                          by_cases w25 : a0.toInt = 25
                          · exact Or.inr (by rw [w25]; decide)
                          by_cases w26 : a0.toInt = 26
                          · exact Or.inr (by rw [w26]; decide)
                          by_cases w27 : a0.toInt = 27
                          · exact Or.inr (by rw [w27]; decide)
                          by_cases w28 : a0.toInt = 28
                          · exact Or.inr (by rw [w28]; decide)
                          by_cases w29 : a0.toInt = 29
                          · exact Or.inr (by rw [w29]; decide)
                          by_cases w30 : a0.toInt = 30
                          · exact Or.inr (by rw [w30]; decide)
                          exact Or.inl (by omega)
                        refine sx_lload_n d_X0_joined_337 1 rfl ?_
                        refine sx_lconst d_X0_joined_338 lc0 ?_
                        refine sx_lcmp d_X0_joined_339 ?_
                        refine sx_if_ne d_X0_joined_340 ?_ ?_
                        · refine sx_lload_n d_X0_joined_343 2 rfl ?_
                          refine sx_lconst d_X0_joined_344 lc0 ?_
                          refine sx_lcmp d_X0_joined_345 ?_
                          refine sx_if_eq d_X0_joined_346 ?_ ?_
                          · refine sx_lconst d_X0_joined_353 lc0 ?_
                            exact sx_lret rfl d_X0_joined_354
                          · refine sx_lconst d_X0_joined_349 lc1 ?_
                            refine sx_goto d_X0_joined_350 ?_
                            exact sx_lret rfl d_X0_joined_354
                        · refine sx_lconst d_X0_joined_349 lc1 ?_
                          refine sx_goto d_X0_joined_350 ?_
                          exact sx_lret rfl d_X0_joined_354
theorem d_X0_nameOf_0 : DC mi_X0_nameOf 0 (.iload_n 1) 1 1 := ⟨by decide +kernel, rfl⟩
theorem d_X0_nameOf_1 : DW mi_X0_nameOf 1 (.tableswitch 76 35 40 #[39, 49, 51, 58, 76, 68]) := ⟨39, by decide +kernel⟩
theorem d_X0_nameOf_40 : DC mi_X0_nameOf 40 (.aload_n 0) 1 41 := ⟨by decide +kernel, rfl⟩
theorem d_X0_nameOf_41 : DC mi_X0_nameOf 41 (.getfield 31) 3 44 := ⟨by decide +kernel, rfl⟩
theorem d_X0_nameOf_44 : DC mi_X0_nameOf 44 (.getfield 178) 3 47 := ⟨by decide +kernel, rfl⟩
theorem d_X0_nameOf_47 : DC mi_X0_nameOf 47 (.iload_n 3) 1 48 := ⟨by decide +kernel, rfl⟩
theorem d_X0_nameOf_48 : DC mi_X0_nameOf 48 (.iaload) 1 49 := ⟨by decide +kernel, rfl⟩
theorem d_X0_nameOf_49 : DC mi_X0_nameOf 49 (.ireturn) 1 50 := ⟨by decide +kernel, rfl⟩
theorem d_X0_nameOf_50 : DC mi_X0_nameOf 50 (.iload_n 3) 1 51 := ⟨by decide +kernel, rfl⟩
theorem d_X0_nameOf_51 : DC mi_X0_nameOf 51 (.ireturn) 1 52 := ⟨by decide +kernel, rfl⟩
theorem d_X0_nameOf_52 : DC mi_X0_nameOf 52 (.aload_n 0) 1 53 := ⟨by decide +kernel, rfl⟩
theorem d_X0_nameOf_53 : DC mi_X0_nameOf 53 (.getfield 41) 3 56 := ⟨by decide +kernel, rfl⟩
theorem d_X0_nameOf_56 : DC mi_X0_nameOf 56 (.iload_n 2) 1 57 := ⟨by decide +kernel, rfl⟩
theorem d_X0_nameOf_57 : DC mi_X0_nameOf 57 (.iaload) 1 58 := ⟨by decide +kernel, rfl⟩
theorem d_X0_nameOf_58 : DC mi_X0_nameOf 58 (.ireturn) 1 59 := ⟨by decide +kernel, rfl⟩
theorem d_X0_nameOf_59 : DC mi_X0_nameOf 59 (.aload_n 0) 1 60 := ⟨by decide +kernel, rfl⟩
theorem d_X0_nameOf_60 : DC mi_X0_nameOf 60 (.getfield 35) 3 63 := ⟨by decide +kernel, rfl⟩
theorem d_X0_nameOf_63 : DC mi_X0_nameOf 63 (.getfield 213) 3 66 := ⟨by decide +kernel, rfl⟩
theorem d_X0_nameOf_66 : DC mi_X0_nameOf 66 (.iload_n 2) 1 67 := ⟨by decide +kernel, rfl⟩
theorem d_X0_nameOf_67 : DC mi_X0_nameOf 67 (.iaload) 1 68 := ⟨by decide +kernel, rfl⟩
theorem d_X0_nameOf_68 : DC mi_X0_nameOf 68 (.ireturn) 1 69 := ⟨by decide +kernel, rfl⟩
theorem d_X0_nameOf_69 : DC mi_X0_nameOf 69 (.aload_n 0) 1 70 := ⟨by decide +kernel, rfl⟩
theorem d_X0_nameOf_70 : DC mi_X0_nameOf 70 (.getfield 35) 3 73 := ⟨by decide +kernel, rfl⟩
theorem d_X0_nameOf_73 : DC mi_X0_nameOf 73 (.getfield 62) 3 76 := ⟨by decide +kernel, rfl⟩
theorem d_X0_nameOf_76 : DC mi_X0_nameOf 76 (.ireturn) 1 77 := ⟨by decide +kernel, rfl⟩
theorem d_X0_nameOf_77 : DC mi_X0_nameOf 77 (.iconst 0) 1 78 := ⟨by decide +kernel, rfl⟩
theorem d_X0_nameOf_78 : DC mi_X0_nameOf 78 (.istore 4) 2 80 := ⟨by decide +kernel, rfl⟩
theorem d_X0_nameOf_80 : DC mi_X0_nameOf 80 (.iconst 0) 1 81 := ⟨by decide +kernel, rfl⟩
theorem d_X0_nameOf_81 : DC mi_X0_nameOf 81 (.istore 5) 2 83 := ⟨by decide +kernel, rfl⟩
theorem d_X0_nameOf_83 : DC mi_X0_nameOf 83 (.iload 5) 2 85 := ⟨by decide +kernel, rfl⟩
theorem d_X0_nameOf_85 : DC mi_X0_nameOf 85 (.aload_n 0) 1 86 := ⟨by decide +kernel, rfl⟩
theorem d_X0_nameOf_86 : DC mi_X0_nameOf 86 (.getfield 31) 3 89 := ⟨by decide +kernel, rfl⟩
theorem d_X0_nameOf_89 : DC mi_X0_nameOf 89 (.getfield 216) 3 92 := ⟨by decide +kernel, rfl⟩
theorem d_X0_nameOf_92 : DB mi_X0_nameOf 92 (.if_icmp .ge 33) 33 95 125 := ⟨by decide +kernel, rfl, by decide⟩
theorem d_X0_nameOf_95 : DC mi_X0_nameOf 95 (.iload 4) 2 97 := ⟨by decide +kernel, rfl⟩
theorem d_X0_nameOf_97 : DC mi_X0_nameOf 97 (.aload_n 0) 1 98 := ⟨by decide +kernel, rfl⟩
theorem d_X0_nameOf_98 : DC mi_X0_nameOf 98 (.getfield 35) 3 101 := ⟨by decide +kernel, rfl⟩
theorem d_X0_nameOf_101 : DC mi_X0_nameOf 101 (.getfield 98) 3 104 := ⟨by decide +kernel, rfl⟩
theorem d_X0_nameOf_104 : DC mi_X0_nameOf 104 (.iload 5) 2 106 := ⟨by decide +kernel, rfl⟩
theorem d_X0_nameOf_106 : DC mi_X0_nameOf 106 (.iaload) 1 107 := ⟨by decide +kernel, rfl⟩
theorem d_X0_nameOf_107 : DC mi_X0_nameOf 107 (.iload_n 3) 1 108 := ⟨by decide +kernel, rfl⟩
theorem d_X0_nameOf_108 : DB mi_X0_nameOf 108 (.if_icmp .ne 7) 7 111 115 := ⟨by decide +kernel, rfl, by decide⟩
theorem d_X0_nameOf_111 : DC mi_X0_nameOf 111 (.iconst 1) 1 112 := ⟨by decide +kernel, rfl⟩
theorem d_X0_nameOf_112 : DB mi_X0_nameOf 112 (.goto 4) 4 115 116 := ⟨by decide +kernel, rfl, by decide⟩
theorem d_X0_nameOf_115 : DC mi_X0_nameOf 115 (.iconst 0) 1 116 := ⟨by decide +kernel, rfl⟩
theorem d_X0_nameOf_116 : DC mi_X0_nameOf 116 (.iadd) 1 117 := ⟨by decide +kernel, rfl⟩
theorem d_X0_nameOf_117 : DC mi_X0_nameOf 117 (.istore 4) 2 119 := ⟨by decide +kernel, rfl⟩
theorem d_X0_nameOf_119 : DC mi_X0_nameOf 119 (.iinc 5 1) 3 122 := ⟨by decide +kernel, rfl⟩
theorem d_X0_nameOf_122 : DB mi_X0_nameOf 122 (.goto (-39)) (-39) 125 83 := ⟨by decide +kernel, rfl, by decide⟩
theorem d_X0_nameOf_125 : DC mi_X0_nameOf 125 (.iload 4) 2 127 := ⟨by decide +kernel, rfl⟩
theorem d_X0_nameOf_127 : DC mi_X0_nameOf 127 (.ireturn) 1 128 := ⟨by decide +kernel, rfl⟩
set_option maxHeartbeats 4000000 in
set_option maxRecDepth 100000 in
theorem sL_X0_nameOf_83 (d : Nat) (hd : 0 ≤ d) (c3 : Int32) : ∀ (n : Nat) (x4 : Int32) (x5 : Int32) (h : HH), Sx mi_X0_nameOf d iI (g_X0_nameOf_L83 c3 n x4 x5 h) 83 [(0, .ref 193), (3, .int c3), (4, .int x4), (5, .int x5)] [] h := by
  intro n
  induction n with
  | zero => intro x4 x5 h; exact sx_none
  | succ n ih =>
    intro x4 x5 h
    rw [g_X0_nameOf_L83]
    refine sx_iload d_X0_nameOf_83 3 rfl ?_
    refine sx_aload_n d_X0_nameOf_85 0 rfl ?_
    refine sx_getR fl_StairCount_Course_31 sh_193 rfl d_X0_nameOf_86 (fun p14 => ?_)
    refine sx_ckH (fun ep14 => ?_)
    refine sx_getI fl_StairCount_Course_216 ep14 rfl d_X0_nameOf_89 (fun v15 => ?_)
    refine sx_icmp_ge d_X0_nameOf_92 ?_ ?_
    · refine sx_iload d_X0_nameOf_95 2 rfl ?_
      refine sx_aload_n d_X0_nameOf_97 0 rfl ?_
      refine sx_getR fl_StairCount_Course_35 sh_193 rfl d_X0_nameOf_98 (fun p16 => ?_)
      refine sx_ckH (fun ep16 => ?_)
      refine sx_getF (a' := (p16 + 1)) fl_StairCount_Course_98 ep16 rfl rfl d_X0_nameOf_101 ?_
      refine sx_iload d_X0_nameOf_104 3 rfl ?_
      refine sx_iald (shf_7_0 ep16) d_X0_nameOf_106 (fun v17 => ?_)
      refine sx_iload_n d_X0_nameOf_107 1 rfl ?_
      refine sx_jn (fun j => ∀ (y21 : Int32) (h : HH), Sx mi_X0_nameOf d iI (j y21 h) 116 [(0, .ref 193), (3, .int c3), (5, .int x5)] [.int y21, .int x4] h) ?_ ?_
      · intro y21 h20
        refine sx_iadd d_X0_nameOf_116 ?_
        refine sx_vlI (fun v22 => ?_)
        refine sx_istore (i := 4) (lc' := [(4, .int v22), (0, .ref 193), (3, .int c3), (5, .int x5)]) d_X0_nameOf_117 (by decide) rfl ?_
        refine sx_iincV (lc' := fun v23 => [(5, .int v23), (4, .int v22), (0, .ref 193), (3, .int c3)]) (k0 := 3) d_X0_nameOf_119 rfl ii1 (by decide) (fun _ => rfl) (fun v23 => ?_)
        refine sx_goto d_X0_nameOf_122 ?_
        refine sx_lc (lc' := [(0, .ref 193), (3, .int c3), (4, .int v22), (5, .int v23)]) [2, 3, 1, 0] rfl ?_
        exact ih v22 v23 h20
      · intro j18 k19
        refine sx_icmp_ne d_X0_nameOf_108 ?_ ?_
        · refine sx_iconst d_X0_nameOf_111 ic1 ?_
          refine sx_goto d_X0_nameOf_112 ?_
          refine sx_lc (lc' := [(0, .ref 193), (3, .int c3), (5, .int x5)]) [0, 1, 3] rfl ?_
          exact k19 (1 : Int32) h
        · refine sx_iconst d_X0_nameOf_115 ic0 ?_
          refine sx_lc (lc' := [(0, .ref 193), (3, .int c3), (5, .int x5)]) [0, 1, 3] rfl ?_
          exact k19 (0 : Int32) h
    · refine sx_iload d_X0_nameOf_125 2 rfl ?_
      exact sx_iret rfl d_X0_nameOf_127
set_option maxHeartbeats 4000000 in
set_option maxRecDepth 100000 in
theorem sp_X0_nameOf (d : Nat) (hd : 0 ≤ d) (a0 : Int32) (a1 : Int32) (a2 : Int32) (h : HH) : Sp mi_X0_nameOf d iI [.ref 193, .int a0, .int a1, .int a2] h (g_X0_nameOf a0 a1 a2 h) := by
  refine sp_of (lc := [(0, .ref 193), (1, .int a0), (2, .int a1), (3, .int a2)]) (by decide) (Nat.le_of_ble_eq_true rfl) rfl ?_
  unfold g_X0_nameOf
  refine sx_iload_n d_X0_nameOf_0 1 rfl ?_
  refine sx_if (fun e1 => ?_) (fun e1 => ?_)
  · refine sx_tsIn (off := 39) (t := 40) d_X0_nameOf_1 (by rw [e1] <;> decide) (by rw [e1] <;> decide) (by rw [e1] <;> decide) (by decide) ?_
    refine sx_aload_n d_X0_nameOf_40 0 rfl ?_
    refine sx_getR fl_StairCount_Course_31 sh_193 rfl d_X0_nameOf_41 (fun p2 => ?_)
    refine sx_ckH (fun ep2 => ?_)
    refine sx_getF (a' := (p2 + 1)) fl_StairCount_Course_178 ep2 rfl rfl d_X0_nameOf_44 ?_
    refine sx_iload_n d_X0_nameOf_47 3 rfl ?_
    refine sx_iald (shf_5_1 ep2) d_X0_nameOf_48 (fun v3 => ?_)
    exact sx_iret rfl d_X0_nameOf_49
  · refine sx_if (fun e4 => ?_) (fun e4 => ?_)
    · refine sx_tsIn (off := 49) (t := 50) d_X0_nameOf_1 (by rw [e4] <;> decide) (by rw [e4] <;> decide) (by rw [e4] <;> decide) (by decide) ?_
      refine sx_iload_n d_X0_nameOf_50 3 rfl ?_
      exact sx_iret rfl d_X0_nameOf_51
    · refine sx_if (fun e5 => ?_) (fun e5 => ?_)
      · refine sx_tsIn (off := 51) (t := 52) d_X0_nameOf_1 (by rw [e5] <;> decide) (by rw [e5] <;> decide) (by rw [e5] <;> decide) (by decide) ?_
        refine sx_aload_n d_X0_nameOf_52 0 rfl ?_
        refine sx_getR fl_StairCount_Course_41 sh_193 rfl d_X0_nameOf_53 (fun p6 => ?_)
        refine sx_ckH (fun ep6 => ?_)
        refine sx_iload_n d_X0_nameOf_56 2 rfl ?_
        refine sx_iald ep6 d_X0_nameOf_57 (fun v7 => ?_)
        exact sx_iret rfl d_X0_nameOf_58
      · refine sx_if (fun e8 => ?_) (fun e8 => ?_)
        · refine sx_tsIn (off := 58) (t := 59) d_X0_nameOf_1 (by rw [e8] <;> decide) (by rw [e8] <;> decide) (by rw [e8] <;> decide) (by decide) ?_
          refine sx_aload_n d_X0_nameOf_59 0 rfl ?_
          refine sx_getR fl_StairCount_Course_35 sh_193 rfl d_X0_nameOf_60 (fun p9 => ?_)
          refine sx_ckH (fun ep9 => ?_)
          refine sx_getF (a' := (p9 + 2)) fl_StairCount_Course_213 ep9 rfl rfl d_X0_nameOf_63 ?_
          refine sx_iload_n d_X0_nameOf_66 2 rfl ?_
          refine sx_iald (shf_7_1 ep9) d_X0_nameOf_67 (fun v10 => ?_)
          exact sx_iret rfl d_X0_nameOf_68
        · refine sx_if (fun e11 => ?_) (fun e11 => ?_)
          · refine sx_tsIn (off := 68) (t := 69) d_X0_nameOf_1 (by rw [e11] <;> decide) (by rw [e11] <;> decide) (by rw [e11] <;> decide) (by decide) ?_
            refine sx_aload_n d_X0_nameOf_69 0 rfl ?_
            refine sx_getR fl_StairCount_Course_35 sh_193 rfl d_X0_nameOf_70 (fun p12 => ?_)
            refine sx_ckH (fun ep12 => ?_)
            refine sx_getI fl_StairCount_Course_62 ep12 rfl d_X0_nameOf_73 (fun v13 => ?_)
            exact sx_iret rfl d_X0_nameOf_76
          · have q35 := ne_toInt (x := a0) (c := (35 : Int32)) (k := 35) e1 ti35
            have q36 := ne_toInt (x := a0) (c := (36 : Int32)) (k := 36) e4 ti36
            have q37 := ne_toInt (x := a0) (c := (37 : Int32)) (k := 37) e5 ti37
            have q38 := ne_toInt (x := a0) (c := (38 : Int32)) (k := 38) e8 ti38
            have q40 := ne_toInt (x := a0) (c := (40 : Int32)) (k := 40) e11 ti40
            refine sx_tsD (t := 77) d_X0_nameOf_1 ?_ (by decide) ?_
            · by_cases w39 : a0.toInt = 39
              · exact Or.inr (by rw [w39]; decide)
              exact Or.inl (by omega)
            refine sx_iconst d_X0_nameOf_77 ic0 ?_
            refine sx_istore (i := 4) (lc' := [(4, .int (0 : Int32)), (0, .ref 193), (1, .int a0), (2, .int a1), (3, .int a2)]) d_X0_nameOf_78 (by decide) rfl ?_
            refine sx_iconst d_X0_nameOf_80 ic0 ?_
            refine sx_istore (i := 5) (lc' := [(5, .int (0 : Int32)), (4, .int (0 : Int32)), (0, .ref 193), (1, .int a0), (2, .int a1), (3, .int a2)]) d_X0_nameOf_81 (by decide) rfl ?_
            refine sx_lc (lc' := [(0, .ref 193), (3, .int a2), (4, .int (0 : Int32)), (5, .int (0 : Int32))]) [2, 5, 1, 0] rfl ?_
            refine sL_X0_nameOf_83 d hd a2 1024 (0 : Int32) (0 : Int32) h
theorem d_X10_cell_0 : DC mi_X10_cell 0 (.iload_n 0) 1 1 := ⟨by decide +kernel, rfl⟩
theorem d_X10_cell_1 : DC mi_X10_cell 1 (.bipush 6) 2 3 := ⟨by decide +kernel, rfl⟩
theorem d_X10_cell_3 : DC mi_X10_cell 3 (.imul) 1 4 := ⟨by decide +kernel, rfl⟩
theorem d_X10_cell_4 : DC mi_X10_cell 4 (.iload_n 1) 1 5 := ⟨by decide +kernel, rfl⟩
theorem d_X10_cell_5 : DC mi_X10_cell 5 (.iadd) 1 6 := ⟨by decide +kernel, rfl⟩
theorem d_X10_cell_6 : DC mi_X10_cell 6 (.ireturn) 1 7 := ⟨by decide +kernel, rfl⟩
set_option maxHeartbeats 4000000 in
set_option maxRecDepth 100000 in
theorem sp_X10_cell (d : Nat) (hd : 0 ≤ d) (a0 : Int32) (a1 : Int32) (h : HH) : Sp mi_X10_cell d iI [.int a0, .int a1] h (g_X10_cell a0 a1 h) := by
  refine sp_of (lc := [(0, .int a0), (1, .int a1)]) (by decide) (Nat.le_of_ble_eq_true rfl) rfl ?_
  unfold g_X10_cell
  refine sx_iload_n d_X10_cell_0 0 rfl ?_
  refine sx_bipush d_X10_cell_1 bc6 ?_
  refine sx_imul d_X10_cell_3 ?_
  refine sx_iload_n d_X10_cell_4 1 rfl ?_
  refine sx_iadd d_X10_cell_5 ?_
  exact sx_iret rfl d_X10_cell_6
theorem d_X0_valueOf_0 : DC mi_X0_valueOf 0 (.aload_n 0) 1 1 := ⟨by decide +kernel, rfl⟩
theorem d_X0_valueOf_1 : DC mi_X0_valueOf 1 (.getfield 31) 3 4 := ⟨by decide +kernel, rfl⟩
theorem d_X0_valueOf_4 : DC mi_X0_valueOf 4 (.getfield 188) 3 7 := ⟨by decide +kernel, rfl⟩
theorem d_X0_valueOf_7 : DC mi_X0_valueOf 7 (.astore 5) 2 9 := ⟨by decide +kernel, rfl⟩
theorem d_X0_valueOf_9 : DC mi_X0_valueOf 9 (.aload_n 0) 1 10 := ⟨by decide +kernel, rfl⟩
theorem d_X0_valueOf_10 : DC mi_X0_valueOf 10 (.getfield 35) 3 13 := ⟨by decide +kernel, rfl⟩
theorem d_X0_valueOf_13 : DC mi_X0_valueOf 13 (.getfield 181) 3 16 := ⟨by decide +kernel, rfl⟩
theorem d_X0_valueOf_16 : DC mi_X0_valueOf 16 (.iload_n 2) 1 17 := ⟨by decide +kernel, rfl⟩
theorem d_X0_valueOf_17 : DC mi_X0_valueOf 17 (.iload_n 3) 1 18 := ⟨by decide +kernel, rfl⟩
theorem d_X0_valueOf_18 : DC mi_X0_valueOf 18 (.invokestatic 131) 3 21 := ⟨by decide +kernel, rfl⟩
theorem d_X0_valueOf_21 : DC mi_X0_valueOf 21 (.iaload) 1 22 := ⟨by decide +kernel, rfl⟩
theorem d_X0_valueOf_22 : DC mi_X0_valueOf 22 (.iload 4) 2 24 := ⟨by decide +kernel, rfl⟩
theorem d_X0_valueOf_24 : DC mi_X0_valueOf 24 (.isub) 1 25 := ⟨by decide +kernel, rfl⟩
theorem d_X0_valueOf_25 : DC mi_X0_valueOf 25 (.istore 6) 2 27 := ⟨by decide +kernel, rfl⟩
theorem d_X0_valueOf_27 : DC mi_X0_valueOf 27 (.iconst 0) 1 28 := ⟨by decide +kernel, rfl⟩
theorem d_X0_valueOf_28 : DC mi_X0_valueOf 28 (.istore 7) 2 30 := ⟨by decide +kernel, rfl⟩
theorem d_X0_valueOf_30 : DC mi_X0_valueOf 30 (.aload 5) 2 32 := ⟨by decide +kernel, rfl⟩
theorem d_X0_valueOf_32 : DC mi_X0_valueOf 32 (.getfield 192) 3 35 := ⟨by decide +kernel, rfl⟩
theorem d_X0_valueOf_35 : DC mi_X0_valueOf 35 (.iload_n 1) 1 36 := ⟨by decide +kernel, rfl⟩
theorem d_X0_valueOf_36 : DC mi_X0_valueOf 36 (.iaload) 1 37 := ⟨by decide +kernel, rfl⟩
theorem d_X0_valueOf_37 : DC mi_X0_valueOf 37 (.istore 8) 2 39 := ⟨by decide +kernel, rfl⟩
theorem d_X0_valueOf_39 : DC mi_X0_valueOf 39 (.iload 8) 2 41 := ⟨by decide +kernel, rfl⟩
theorem d_X0_valueOf_41 : DC mi_X0_valueOf 41 (.aload 5) 2 43 := ⟨by decide +kernel, rfl⟩
theorem d_X0_valueOf_43 : DC mi_X0_valueOf 43 (.getfield 197) 3 46 := ⟨by decide +kernel, rfl⟩
theorem d_X0_valueOf_46 : DC mi_X0_valueOf 46 (.iload_n 1) 1 47 := ⟨by decide +kernel, rfl⟩
theorem d_X0_valueOf_47 : DC mi_X0_valueOf 47 (.iaload) 1 48 := ⟨by decide +kernel, rfl⟩
theorem d_X0_valueOf_48 : DB mi_X0_valueOf 48 (.if_icmp .ge 222) 222 51 270 := ⟨by decide +kernel, rfl, by decide⟩
theorem d_X0_valueOf_51 : DC mi_X0_valueOf 51 (.aload 5) 2 53 := ⟨by decide +kernel, rfl⟩
theorem d_X0_valueOf_53 : DC mi_X0_valueOf 53 (.getfield 200) 3 56 := ⟨by decide +kernel, rfl⟩
theorem d_X0_valueOf_56 : DC mi_X0_valueOf 56 (.iload 8) 2 58 := ⟨by decide +kernel, rfl⟩
theorem d_X0_valueOf_58 : DC mi_X0_valueOf 58 (.iaload) 1 59 := ⟨by decide +kernel, rfl⟩
theorem d_X0_valueOf_59 : DC mi_X0_valueOf 59 (.istore 9) 2 61 := ⟨by decide +kernel, rfl⟩
theorem d_X0_valueOf_61 : DC mi_X0_valueOf 61 (.iload 9) 2 63 := ⟨by decide +kernel, rfl⟩
theorem d_X0_valueOf_63 : DC mi_X0_valueOf 63 (.iconst 2) 1 64 := ⟨by decide +kernel, rfl⟩
theorem d_X0_valueOf_64 : DB mi_X0_valueOf 64 (.if_icmp .eq 10) 10 67 74 := ⟨by decide +kernel, rfl, by decide⟩
theorem d_X0_valueOf_67 : DC mi_X0_valueOf 67 (.iload 9) 2 69 := ⟨by decide +kernel, rfl⟩
theorem d_X0_valueOf_69 : DC mi_X0_valueOf 69 (.bipush 34) 2 71 := ⟨by decide +kernel, rfl⟩
theorem d_X0_valueOf_71 : DB mi_X0_valueOf 71 (.if_icmp .lt 7) 7 74 78 := ⟨by decide +kernel, rfl, by decide⟩
theorem d_X0_valueOf_74 : DC mi_X0_valueOf 74 (.iconst 0) 1 75 := ⟨by decide +kernel, rfl⟩
theorem d_X0_valueOf_75 : DB mi_X0_valueOf 75 (.goto 15) 15 78 90 := ⟨by decide +kernel, rfl, by decide⟩
theorem d_X0_valueOf_78 : DC mi_X0_valueOf 78 (.iload 9) 2 80 := ⟨by decide +kernel, rfl⟩
theorem d_X0_valueOf_80 : DC mi_X0_valueOf 80 (.bipush 33) 2 82 := ⟨by decide +kernel, rfl⟩
theorem d_X0_valueOf_82 : DB mi_X0_valueOf 82 (.if_icmp .ne 7) 7 85 89 := ⟨by decide +kernel, rfl, by decide⟩
theorem d_X0_valueOf_85 : DC mi_X0_valueOf 85 (.iconst 1) 1 86 := ⟨by decide +kernel, rfl⟩
theorem d_X0_valueOf_86 : DB mi_X0_valueOf 86 (.goto 4) 4 89 90 := ⟨by decide +kernel, rfl, by decide⟩
theorem d_X0_valueOf_89 : DC mi_X0_valueOf 89 (.iconst 2) 1 90 := ⟨by decide +kernel, rfl⟩
theorem d_X0_valueOf_90 : DC mi_X0_valueOf 90 (.istore 10) 2 92 := ⟨by decide +kernel, rfl⟩
theorem d_X0_valueOf_92 : DC mi_X0_valueOf 92 (.iload 7) 2 94 := ⟨by decide +kernel, rfl⟩
theorem d_X0_valueOf_94 : DC mi_X0_valueOf 94 (.iload 10) 2 96 := ⟨by decide +kernel, rfl⟩
theorem d_X0_valueOf_96 : DC mi_X0_valueOf 96 (.isub) 1 97 := ⟨by decide +kernel, rfl⟩
theorem d_X0_valueOf_97 : DC mi_X0_valueOf 97 (.istore 7) 2 99 := ⟨by decide +kernel, rfl⟩
theorem d_X0_valueOf_99 : DC mi_X0_valueOf 99 (.iload 7) 2 101 := ⟨by decide +kernel, rfl⟩
theorem d_X0_valueOf_101 : DB mi_X0_valueOf 101 (.ifCond .lt 15) 15 104 116 := ⟨by decide +kernel, rfl, by decide⟩
theorem d_X0_valueOf_104 : DC mi_X0_valueOf 104 (.iload 7) 2 106 := ⟨by decide +kernel, rfl⟩
theorem d_X0_valueOf_106 : DC mi_X0_valueOf 106 (.iconst 1) 1 107 := ⟨by decide +kernel, rfl⟩
theorem d_X0_valueOf_107 : DC mi_X0_valueOf 107 (.iadd) 1 108 := ⟨by decide +kernel, rfl⟩
theorem d_X0_valueOf_108 : DC mi_X0_valueOf 108 (.aload_n 0) 1 109 := ⟨by decide +kernel, rfl⟩
theorem d_X0_valueOf_109 : DC mi_X0_valueOf 109 (.getfield 17) 3 112 := ⟨by decide +kernel, rfl⟩
theorem d_X0_valueOf_112 : DC mi_X0_valueOf 112 (.arraylength) 1 113 := ⟨by decide +kernel, rfl⟩
theorem d_X0_valueOf_113 : DB mi_X0_valueOf 113 (.if_icmp .lt 7) 7 116 120 := ⟨by decide +kernel, rfl, by decide⟩
theorem d_X0_valueOf_116 : DC mi_X0_valueOf 116 (.ldc2_w 156) 3 119 := ⟨by decide +kernel, rfl⟩
theorem d_X0_valueOf_119 : DC mi_X0_valueOf 119 (.lreturn) 1 120 := ⟨by decide +kernel, rfl⟩
theorem d_X0_valueOf_120 : DC mi_X0_valueOf 120 (.iload 9) 2 122 := ⟨by decide +kernel, rfl⟩
theorem d_X0_valueOf_122 : DC mi_X0_valueOf 122 (.iconst 2) 1 123 := ⟨by decide +kernel, rfl⟩
theorem d_X0_valueOf_123 : DB mi_X0_valueOf 123 (.if_icmp .ne 22) 22 126 145 := ⟨by decide +kernel, rfl, by decide⟩
theorem d_X0_valueOf_126 : DC mi_X0_valueOf 126 (.aload_n 0) 1 127 := ⟨by decide +kernel, rfl⟩
theorem d_X0_valueOf_127 : DC mi_X0_valueOf 127 (.getfield 17) 3 130 := ⟨by decide +kernel, rfl⟩
theorem d_X0_valueOf_130 : DC mi_X0_valueOf 130 (.iload 7) 2 132 := ⟨by decide +kernel, rfl⟩
theorem d_X0_valueOf_132 : DC mi_X0_valueOf 132 (.aload 5) 2 134 := ⟨by decide +kernel, rfl⟩
theorem d_X0_valueOf_134 : DC mi_X0_valueOf 134 (.getfield 203) 3 137 := ⟨by decide +kernel, rfl⟩
theorem d_X0_valueOf_137 : DC mi_X0_valueOf 137 (.iload 8) 2 139 := ⟨by decide +kernel, rfl⟩
theorem d_X0_valueOf_139 : DC mi_X0_valueOf 139 (.iaload) 1 140 := ⟨by decide +kernel, rfl⟩
theorem d_X0_valueOf_140 : DC mi_X0_valueOf 140 (.i2l) 1 141 := ⟨by decide +kernel, rfl⟩
theorem d_X0_valueOf_141 : DC mi_X0_valueOf 141 (.lastore) 1 142 := ⟨by decide +kernel, rfl⟩
theorem d_X0_valueOf_142 : DB mi_X0_valueOf 142 (.goto 101) 101 145 243 := ⟨by decide +kernel, rfl, by decide⟩
theorem d_X0_valueOf_145 : DC mi_X0_valueOf 145 (.iload 10) 2 147 := ⟨by decide +kernel, rfl⟩
theorem d_X0_valueOf_147 : DB mi_X0_valueOf 147 (.ifCond .ne 35) 35 150 182 := ⟨by decide +kernel, rfl, by decide⟩
theorem d_X0_valueOf_150 : DC mi_X0_valueOf 150 (.aload_n 0) 1 151 := ⟨by decide +kernel, rfl⟩
theorem d_X0_valueOf_151 : DC mi_X0_valueOf 151 (.getfield 17) 3 154 := ⟨by decide +kernel, rfl⟩
theorem d_X0_valueOf_154 : DC mi_X0_valueOf 154 (.iload 7) 2 156 := ⟨by decide +kernel, rfl⟩
theorem d_X0_valueOf_156 : DC mi_X0_valueOf 156 (.iload 9) 2 158 := ⟨by decide +kernel, rfl⟩
theorem d_X0_valueOf_158 : DC mi_X0_valueOf 158 (.bipush 34) 2 160 := ⟨by decide +kernel, rfl⟩
theorem d_X0_valueOf_160 : DB mi_X0_valueOf 160 (.if_icmp .ne 9) 9 163 169 := ⟨by decide +kernel, rfl, by decide⟩
theorem d_X0_valueOf_163 : DC mi_X0_valueOf 163 (.iload 6) 2 165 := ⟨by decide +kernel, rfl⟩
theorem d_X0_valueOf_165 : DC mi_X0_valueOf 165 (.i2l) 1 166 := ⟨by decide +kernel, rfl⟩
theorem d_X0_valueOf_166 : DB mi_X0_valueOf 166 (.goto 12) 12 169 178 := ⟨by decide +kernel, rfl, by decide⟩
theorem d_X0_valueOf_169 : DC mi_X0_valueOf 169 (.aload_n 0) 1 170 := ⟨by decide +kernel, rfl⟩
theorem d_X0_valueOf_170 : DC mi_X0_valueOf 170 (.iload 9) 2 172 := ⟨by decide +kernel, rfl⟩
theorem d_X0_valueOf_172 : DC mi_X0_valueOf 172 (.iload_n 2) 1 173 := ⟨by decide +kernel, rfl⟩
theorem d_X0_valueOf_173 : DC mi_X0_valueOf 173 (.iload_n 3) 1 174 := ⟨by decide +kernel, rfl⟩
theorem d_X0_valueOf_174 : DC mi_X0_valueOf 174 (.invokevirtual 206) 3 177 := ⟨by decide +kernel, rfl⟩
theorem d_X0_valueOf_177 : DC mi_X0_valueOf 177 (.i2l) 1 178 := ⟨by decide +kernel, rfl⟩
theorem d_X0_valueOf_178 : DC mi_X0_valueOf 178 (.lastore) 1 179 := ⟨by decide +kernel, rfl⟩
theorem d_X0_valueOf_179 : DB mi_X0_valueOf 179 (.goto 64) 64 182 243 := ⟨by decide +kernel, rfl, by decide⟩
theorem d_X0_valueOf_182 : DC mi_X0_valueOf 182 (.iload 10) 2 184 := ⟨by decide +kernel, rfl⟩
theorem d_X0_valueOf_184 : DC mi_X0_valueOf 184 (.iconst 1) 1 185 := ⟨by decide +kernel, rfl⟩
theorem d_X0_valueOf_185 : DB mi_X0_valueOf 185 (.if_icmp .ne 30) 30 188 215 := ⟨by decide +kernel, rfl, by decide⟩
theorem d_X0_valueOf_188 : DC mi_X0_valueOf 188 (.aload_n 0) 1 189 := ⟨by decide +kernel, rfl⟩
theorem d_X0_valueOf_189 : DC mi_X0_valueOf 189 (.getfield 17) 3 192 := ⟨by decide +kernel, rfl⟩
theorem d_X0_valueOf_192 : DC mi_X0_valueOf 192 (.iload 7) 2 194 := ⟨by decide +kernel, rfl⟩
theorem d_X0_valueOf_194 : DC mi_X0_valueOf 194 (.aload_n 0) 1 195 := ⟨by decide +kernel, rfl⟩
theorem d_X0_valueOf_195 : DC mi_X0_valueOf 195 (.getfield 17) 3 198 := ⟨by decide +kernel, rfl⟩
theorem d_X0_valueOf_198 : DC mi_X0_valueOf 198 (.iload 7) 2 200 := ⟨by decide +kernel, rfl⟩
theorem d_X0_valueOf_200 : DC mi_X0_valueOf 200 (.laload) 1 201 := ⟨by decide +kernel, rfl⟩
theorem d_X0_valueOf_201 : DC mi_X0_valueOf 201 (.lconst 0) 1 202 := ⟨by decide +kernel, rfl⟩
theorem d_X0_valueOf_202 : DC mi_X0_valueOf 202 (.lcmp) 1 203 := ⟨by decide +kernel, rfl⟩
theorem d_X0_valueOf_203 : DB mi_X0_valueOf 203 (.ifCond .ne 7) 7 206 210 := ⟨by decide +kernel, rfl, by decide⟩
theorem d_X0_valueOf_206 : DC mi_X0_valueOf 206 (.lconst 1) 1 207 := ⟨by decide +kernel, rfl⟩
theorem d_X0_valueOf_207 : DB mi_X0_valueOf 207 (.goto 4) 4 210 211 := ⟨by decide +kernel, rfl, by decide⟩
theorem d_X0_valueOf_210 : DC mi_X0_valueOf 210 (.lconst 0) 1 211 := ⟨by decide +kernel, rfl⟩
theorem d_X0_valueOf_211 : DC mi_X0_valueOf 211 (.lastore) 1 212 := ⟨by decide +kernel, rfl⟩
theorem d_X0_valueOf_212 : DB mi_X0_valueOf 212 (.goto 31) 31 215 243 := ⟨by decide +kernel, rfl, by decide⟩
theorem d_X0_valueOf_215 : DC mi_X0_valueOf 215 (.aload_n 0) 1 216 := ⟨by decide +kernel, rfl⟩
theorem d_X0_valueOf_216 : DC mi_X0_valueOf 216 (.getfield 17) 3 219 := ⟨by decide +kernel, rfl⟩
theorem d_X0_valueOf_219 : DC mi_X0_valueOf 219 (.iload 7) 2 221 := ⟨by decide +kernel, rfl⟩
theorem d_X0_valueOf_221 : DC mi_X0_valueOf 221 (.iload 9) 2 223 := ⟨by decide +kernel, rfl⟩
theorem d_X0_valueOf_223 : DC mi_X0_valueOf 223 (.aload_n 0) 1 224 := ⟨by decide +kernel, rfl⟩
theorem d_X0_valueOf_224 : DC mi_X0_valueOf 224 (.getfield 17) 3 227 := ⟨by decide +kernel, rfl⟩
theorem d_X0_valueOf_227 : DC mi_X0_valueOf 227 (.iload 7) 2 229 := ⟨by decide +kernel, rfl⟩
theorem d_X0_valueOf_229 : DC mi_X0_valueOf 229 (.laload) 1 230 := ⟨by decide +kernel, rfl⟩
theorem d_X0_valueOf_230 : DC mi_X0_valueOf 230 (.aload_n 0) 1 231 := ⟨by decide +kernel, rfl⟩
theorem d_X0_valueOf_231 : DC mi_X0_valueOf 231 (.getfield 17) 3 234 := ⟨by decide +kernel, rfl⟩
theorem d_X0_valueOf_234 : DC mi_X0_valueOf 234 (.iload 7) 2 236 := ⟨by decide +kernel, rfl⟩
theorem d_X0_valueOf_236 : DC mi_X0_valueOf 236 (.iconst 1) 1 237 := ⟨by decide +kernel, rfl⟩
theorem d_X0_valueOf_237 : DC mi_X0_valueOf 237 (.iadd) 1 238 := ⟨by decide +kernel, rfl⟩
theorem d_X0_valueOf_238 : DC mi_X0_valueOf 238 (.laload) 1 239 := ⟨by decide +kernel, rfl⟩
theorem d_X0_valueOf_239 : DC mi_X0_valueOf 239 (.invokestatic 209) 3 242 := ⟨by decide +kernel, rfl⟩
theorem d_X0_valueOf_242 : DC mi_X0_valueOf 242 (.lastore) 1 243 := ⟨by decide +kernel, rfl⟩
theorem d_X0_valueOf_243 : DC mi_X0_valueOf 243 (.aload_n 0) 1 244 := ⟨by decide +kernel, rfl⟩
theorem d_X0_valueOf_244 : DC mi_X0_valueOf 244 (.getfield 17) 3 247 := ⟨by decide +kernel, rfl⟩
theorem d_X0_valueOf_247 : DC mi_X0_valueOf 247 (.iload 7) 2 249 := ⟨by decide +kernel, rfl⟩
theorem d_X0_valueOf_249 : DC mi_X0_valueOf 249 (.laload) 1 250 := ⟨by decide +kernel, rfl⟩
theorem d_X0_valueOf_250 : DC mi_X0_valueOf 250 (.ldc2_w 156) 3 253 := ⟨by decide +kernel, rfl⟩
theorem d_X0_valueOf_253 : DC mi_X0_valueOf 253 (.lcmp) 1 254 := ⟨by decide +kernel, rfl⟩
theorem d_X0_valueOf_254 : DB mi_X0_valueOf 254 (.ifCond .ne 7) 7 257 261 := ⟨by decide +kernel, rfl, by decide⟩
theorem d_X0_valueOf_257 : DC mi_X0_valueOf 257 (.ldc2_w 156) 3 260 := ⟨by decide +kernel, rfl⟩
theorem d_X0_valueOf_260 : DC mi_X0_valueOf 260 (.lreturn) 1 261 := ⟨by decide +kernel, rfl⟩
theorem d_X0_valueOf_261 : DC mi_X0_valueOf 261 (.iinc 7 1) 3 264 := ⟨by decide +kernel, rfl⟩
theorem d_X0_valueOf_264 : DC mi_X0_valueOf 264 (.iinc 8 1) 3 267 := ⟨by decide +kernel, rfl⟩
theorem d_X0_valueOf_267 : DB mi_X0_valueOf 267 (.goto (-228)) (-228) 270 39 := ⟨by decide +kernel, rfl, by decide⟩
theorem d_X0_valueOf_270 : DC mi_X0_valueOf 270 (.iload 7) 2 272 := ⟨by decide +kernel, rfl⟩
theorem d_X0_valueOf_272 : DC mi_X0_valueOf 272 (.iconst 1) 1 273 := ⟨by decide +kernel, rfl⟩
theorem d_X0_valueOf_273 : DB mi_X0_valueOf 273 (.if_icmp .ne 12) 12 276 285 := ⟨by decide +kernel, rfl, by decide⟩
theorem d_X0_valueOf_276 : DC mi_X0_valueOf 276 (.aload_n 0) 1 277 := ⟨by decide +kernel, rfl⟩
theorem d_X0_valueOf_277 : DC mi_X0_valueOf 277 (.getfield 17) 3 280 := ⟨by decide +kernel, rfl⟩
theorem d_X0_valueOf_280 : DC mi_X0_valueOf 280 (.iconst 0) 1 281 := ⟨by decide +kernel, rfl⟩
theorem d_X0_valueOf_281 : DC mi_X0_valueOf 281 (.laload) 1 282 := ⟨by decide +kernel, rfl⟩
theorem d_X0_valueOf_282 : DB mi_X0_valueOf 282 (.goto 6) 6 285 288 := ⟨by decide +kernel, rfl, by decide⟩
theorem d_X0_valueOf_285 : DC mi_X0_valueOf 285 (.ldc2_w 156) 3 288 := ⟨by decide +kernel, rfl⟩
theorem d_X0_valueOf_288 : DC mi_X0_valueOf 288 (.lreturn) 1 289 := ⟨by decide +kernel, rfl⟩
set_option maxHeartbeats 4000000 in
set_option maxRecDepth 100000 in
theorem sL_X0_valueOf_39 (d : Nat) (hd : 1 ≤ d) (K270 : Int32 → HH → Option (Int64 × HH)) (c1 : Int32) (c2 : Int32) (c3 : Int32) (b_p1 : Nat) (c6 : Int32) (e5 : shL[(b_p1 + 11)]? = some (.inl 2)) (hK270 : ∀ (z7 : Int32) (h : HH), Sx mi_X0_valueOf d iL (K270 z7 h) 270 [(0, .ref 193), (7, .int z7)] [] h) : ∀ (n : Nat) (x7 : Int32) (x8 : Int32) (h : HH), Sx mi_X0_valueOf d iL (g_X0_valueOf_L39 K270 c1 c2 c3 b_p1 c6 n x7 x8 h) 39 [(0, .ref 193), (1, .int c1), (2, .int c2), (3, .int c3), (5, .ref (b_p1 + 11)), (6, .int c6), (7, .int x7), (8, .int x8)] [] h := by
  intro n
  induction n with
  | zero => intro x7 x8 h; exact sx_none
  | succ n ih =>
    intro x7 x8 h
    rw [g_X0_valueOf_L39]
    refine sx_iload d_X0_valueOf_39 7 rfl ?_
    refine sx_aload d_X0_valueOf_41 4 rfl ?_
    refine sx_getF (a' := (b_p1 + 15)) fl_StairCount_Course_197 e5 rfl rfl d_X0_valueOf_43 ?_
    refine sx_iload_n d_X0_valueOf_46 1 rfl ?_
    refine sx_iald (shf_2_4 e5) d_X0_valueOf_47 (fun v8 => ?_)
    refine sx_icmp_ge d_X0_valueOf_48 ?_ ?_
    · refine sx_aload d_X0_valueOf_51 4 rfl ?_
      refine sx_getF (a' := (b_p1 + 12)) fl_StairCount_Course_200 e5 rfl rfl d_X0_valueOf_53 ?_
      refine sx_iload d_X0_valueOf_56 7 rfl ?_
      refine sx_iald (shf_2_0 e5) d_X0_valueOf_58 (fun v9 => ?_)
      refine sx_istore (i := 9) (lc' := [(9, .int v9), (0, .ref 193), (1, .int c1), (2, .int c2), (3, .int c3), (5, .ref (b_p1 + 11)), (6, .int c6), (7, .int x7), (8, .int x8)]) d_X0_valueOf_59 (by decide) rfl ?_
      refine sx_iload d_X0_valueOf_61 0 rfl ?_
      refine sx_iconst d_X0_valueOf_63 ic2 ?_
      refine sx_jn (fun j => ∀ (y13 : Int32) (h : HH), Sx mi_X0_valueOf d iL (j y13 h) 90 [(0, .ref 193), (1, .int c1), (2, .int c2), (3, .int c3), (5, .ref (b_p1 + 11)), (6, .int c6), (7, .int x7), (8, .int x8), (9, .int v9)] [.int y13] h) ?_ ?_
      · intro y13 h12
        refine sx_istore (i := 10) (lc' := [(10, .int y13), (0, .ref 193), (1, .int c1), (2, .int c2), (3, .int c3), (5, .ref (b_p1 + 11)), (6, .int c6), (7, .int x7), (8, .int x8), (9, .int v9)]) d_X0_valueOf_90 (by decide) rfl ?_
        refine sx_iload d_X0_valueOf_92 7 rfl ?_
        refine sx_iload d_X0_valueOf_94 0 rfl ?_
        refine sx_isub d_X0_valueOf_96 ?_
        refine sx_vlI (fun v14 => ?_)
        refine sx_istore (i := 7) (lc' := [(7, .int v14), (10, .int y13), (0, .ref 193), (1, .int c1), (2, .int c2), (3, .int c3), (5, .ref (b_p1 + 11)), (6, .int c6), (8, .int x8), (9, .int v9)]) d_X0_valueOf_97 (by decide) rfl ?_
        refine sx_iload d_X0_valueOf_99 0 rfl ?_
        refine sx_if_lt d_X0_valueOf_101 ?_ ?_
        · refine sx_ldc2 d_X0_valueOf_116 lQ_StairCount_Course_156 ?_
          exact sx_lret rfl d_X0_valueOf_119
        · refine sx_iload d_X0_valueOf_104 0 rfl ?_
          refine sx_iconst d_X0_valueOf_106 ic1 ?_
          refine sx_iadd d_X0_valueOf_107 ?_
          refine sx_aload_n d_X0_valueOf_108 2 rfl ?_
          refine sx_getF (a' := 195) fl_StairCount_Course_17 sh_193 rfl rfl d_X0_valueOf_109 ?_
          refine sx_alen (v := (64 : Int32)) sh_195 nl64 d_X0_valueOf_112 ?_
          refine sx_icmp_lt d_X0_valueOf_113 ?_ ?_
          · refine sx_iload d_X0_valueOf_120 9 rfl ?_
            refine sx_iconst d_X0_valueOf_122 ic2 ?_
            refine sx_jn (fun j => ∀  (h : HH), Sx mi_X0_valueOf d iL (j  h) 243 [(0, .ref 193), (1, .int c1), (2, .int c2), (3, .int c3), (5, .ref (b_p1 + 11)), (6, .int c6), (7, .int v14), (8, .int x8)] [] h) ?_ ?_
            · intro  h17
              refine sx_aload_n d_X0_valueOf_243 0 rfl ?_
              refine sx_getF (a' := 195) fl_StairCount_Course_17 sh_193 rfl rfl d_X0_valueOf_244 ?_
              refine sx_iload d_X0_valueOf_247 6 rfl ?_
              refine sx_lald sh_195 d_X0_valueOf_249 (fun v18 => ?_)
              refine sx_ldc2 d_X0_valueOf_250 lQ_StairCount_Course_156 ?_
              refine sx_lcmp d_X0_valueOf_253 ?_
              refine sx_if_ne d_X0_valueOf_254 ?_ ?_
              · refine sx_ldc2 d_X0_valueOf_257 lQ_StairCount_Course_156 ?_
                exact sx_lret rfl d_X0_valueOf_260
              · refine sx_iincV (lc' := fun v19 => [(7, .int v19), (0, .ref 193), (1, .int c1), (2, .int c2), (3, .int c3), (5, .ref (b_p1 + 11)), (6, .int c6), (8, .int x8)]) (k0 := 6) d_X0_valueOf_261 rfl ii1 (by decide) (fun _ => rfl) (fun v19 => ?_)
                refine sx_iincV (lc' := fun v20 => [(8, .int v20), (7, .int v19), (0, .ref 193), (1, .int c1), (2, .int c2), (3, .int c3), (5, .ref (b_p1 + 11)), (6, .int c6)]) (k0 := 7) d_X0_valueOf_264 rfl ii1 (by decide) (fun _ => rfl) (fun v20 => ?_)
                refine sx_goto d_X0_valueOf_267 ?_
                refine sx_lc (lc' := [(0, .ref 193), (1, .int c1), (2, .int c2), (3, .int c3), (5, .ref (b_p1 + 11)), (6, .int c6), (7, .int v19), (8, .int v20)]) [2, 3, 4, 5, 6, 7, 1, 0] rfl ?_
                exact ih v19 v20 h17
            · intro j15 k16
              refine sx_icmp_ne d_X0_valueOf_123 ?_ ?_
              · refine sx_aload_n d_X0_valueOf_126 2 rfl ?_
                refine sx_getF (a' := 195) fl_StairCount_Course_17 sh_193 rfl rfl d_X0_valueOf_127 ?_
                refine sx_iload d_X0_valueOf_130 0 rfl ?_
                refine sx_aload d_X0_valueOf_132 6 rfl ?_
                refine sx_getF (a' := (b_p1 + 13)) fl_StairCount_Course_203 e5 rfl rfl d_X0_valueOf_134 ?_
                refine sx_iload d_X0_valueOf_137 8 rfl ?_
                refine sx_iald (shf_2_1 e5) d_X0_valueOf_139 (fun v21 => ?_)
                refine sx_i2l d_X0_valueOf_140 ?_
                refine sx_last sh_195 d_X0_valueOf_141 (fun h22 => ?_)
                refine sx_goto d_X0_valueOf_142 ?_
                refine sx_lc (lc' := [(0, .ref 193), (1, .int c1), (2, .int c2), (3, .int c3), (5, .ref (b_p1 + 11)), (6, .int c6), (7, .int v14), (8, .int x8)]) [2, 3, 4, 5, 6, 7, 0, 8] rfl ?_
                exact k16 h22
              · refine sx_iload d_X0_valueOf_145 1 rfl ?_
                refine sx_if_ne d_X0_valueOf_147 ?_ ?_
                · refine sx_aload_n d_X0_valueOf_150 2 rfl ?_
                  refine sx_getF (a' := 195) fl_StairCount_Course_17 sh_193 rfl rfl d_X0_valueOf_151 ?_
                  refine sx_iload d_X0_valueOf_154 0 rfl ?_
                  refine sx_iload d_X0_valueOf_156 9 rfl ?_
                  refine sx_bipush d_X0_valueOf_158 bc34 ?_
                  refine sx_jn (fun j => ∀ (y26 : Int64) (h : HH), Sx mi_X0_valueOf d iL (j y26 h) 178 [(0, .ref 193), (1, .int c1), (2, .int c2), (3, .int c3), (5, .ref (b_p1 + 11)), (6, .int c6), (7, .int v14), (8, .int x8)] [.long y26, .int v14, .ref 195] h) ?_ ?_
                  · intro y26 h25
                    refine sx_last sh_195 d_X0_valueOf_178 (fun h27 => ?_)
                    refine sx_goto d_X0_valueOf_179 ?_
                    exact k16 h27
                  · intro j23 k24
                    refine sx_icmp_ne d_X0_valueOf_160 ?_ ?_
                    · refine sx_iload d_X0_valueOf_163 7 rfl ?_
                      refine sx_i2l d_X0_valueOf_165 ?_
                      refine sx_goto d_X0_valueOf_166 ?_
                      refine sx_lc (lc' := [(0, .ref 193), (1, .int c1), (2, .int c2), (3, .int c3), (5, .ref (b_p1 + 11)), (6, .int c6), (7, .int v14), (8, .int x8)]) [2, 3, 4, 5, 6, 7, 0, 8] rfl ?_
                      exact k24 (Int32.toInt64 c6) h12
                    · refine sx_aload_n d_X0_valueOf_169 2 rfl ?_
                      refine sx_iload d_X0_valueOf_170 9 rfl ?_
                      refine sx_iload_n d_X0_valueOf_172 4 rfl ?_
                      refine sx_iload_n d_X0_valueOf_173 5 rfl ?_
                      refine sx_callV [.int v9, .int c2, .int c3] mv_X0_nameOf lM_StairCount_Course_206 sh_193 (by omega) rfl rfl (Nat.le_of_ble_eq_true rfl) d_X0_valueOf_174 (sp_X0_nameOf (d - 1) (by omega) v9 c2 c3 h12) (fun r29 h28 => ?_)
                      refine sx_i2l d_X0_valueOf_177 ?_
                      refine sx_lc (lc' := [(0, .ref 193), (1, .int c1), (2, .int c2), (3, .int c3), (5, .ref (b_p1 + 11)), (6, .int c6), (7, .int v14), (8, .int x8)]) [2, 3, 4, 5, 6, 7, 0, 8] rfl ?_
                      exact k24 (Int32.toInt64 r29) h28
                · refine sx_iload d_X0_valueOf_182 1 rfl ?_
                  refine sx_iconst d_X0_valueOf_184 ic1 ?_
                  refine sx_icmp_ne d_X0_valueOf_185 ?_ ?_
                  · refine sx_aload_n d_X0_valueOf_188 2 rfl ?_
                    refine sx_getF (a' := 195) fl_StairCount_Course_17 sh_193 rfl rfl d_X0_valueOf_189 ?_
                    refine sx_iload d_X0_valueOf_192 0 rfl ?_
                    refine sx_aload_n d_X0_valueOf_194 2 rfl ?_
                    refine sx_getF (a' := 195) fl_StairCount_Course_17 sh_193 rfl rfl d_X0_valueOf_195 ?_
                    refine sx_iload d_X0_valueOf_198 0 rfl ?_
                    refine sx_lald sh_195 d_X0_valueOf_200 (fun v30 => ?_)
                    refine sx_lconst d_X0_valueOf_201 lc0 ?_
                    refine sx_lcmp d_X0_valueOf_202 ?_
                    refine sx_jn (fun j => ∀ (y34 : Int64) (h : HH), Sx mi_X0_valueOf d iL (j y34 h) 211 [(0, .ref 193), (1, .int c1), (2, .int c2), (3, .int c3), (5, .ref (b_p1 + 11)), (6, .int c6), (7, .int v14), (8, .int x8)] [.long y34, .int v14, .ref 195] h) ?_ ?_
                    · intro y34 h33
                      refine sx_last sh_195 d_X0_valueOf_211 (fun h35 => ?_)
                      refine sx_goto d_X0_valueOf_212 ?_
                      exact k16 h35
                    · intro j31 k32
                      refine sx_if_ne d_X0_valueOf_203 ?_ ?_
                      · refine sx_lconst d_X0_valueOf_206 lc1 ?_
                        refine sx_goto d_X0_valueOf_207 ?_
                        refine sx_lc (lc' := [(0, .ref 193), (1, .int c1), (2, .int c2), (3, .int c3), (5, .ref (b_p1 + 11)), (6, .int c6), (7, .int v14), (8, .int x8)]) [2, 3, 4, 5, 6, 7, 0, 8] rfl ?_
                        exact k32 (1 : Int64) h12
                      · refine sx_lconst d_X0_valueOf_210 lc0 ?_
                        refine sx_lc (lc' := [(0, .ref 193), (1, .int c1), (2, .int c2), (3, .int c3), (5, .ref (b_p1 + 11)), (6, .int c6), (7, .int v14), (8, .int x8)]) [2, 3, 4, 5, 6, 7, 0, 8] rfl ?_
                        exact k32 (0 : Int64) h12
                  · refine sx_aload_n d_X0_valueOf_215 2 rfl ?_
                    refine sx_getF (a' := 195) fl_StairCount_Course_17 sh_193 rfl rfl d_X0_valueOf_216 ?_
                    refine sx_iload d_X0_valueOf_219 0 rfl ?_
                    refine sx_iload d_X0_valueOf_221 9 rfl ?_
                    refine sx_aload_n d_X0_valueOf_223 2 rfl ?_
                    refine sx_getF (a' := 195) fl_StairCount_Course_17 sh_193 rfl rfl d_X0_valueOf_224 ?_
                    refine sx_iload d_X0_valueOf_227 0 rfl ?_
                    refine sx_lald sh_195 d_X0_valueOf_229 (fun v36 => ?_)
                    refine sx_aload_n d_X0_valueOf_230 2 rfl ?_
                    refine sx_getF (a' := 195) fl_StairCount_Course_17 sh_193 rfl rfl d_X0_valueOf_231 ?_
                    refine sx_iload d_X0_valueOf_234 0 rfl ?_
                    refine sx_iconst d_X0_valueOf_236 ic1 ?_
                    refine sx_iadd d_X0_valueOf_237 ?_
                    refine sx_lald sh_195 d_X0_valueOf_238 (fun v37 => ?_)
                    refine sx_callS [.int v9, .long v36, .long v37] ms_X0_joined lM_StairCount_Course_209 (by omega) rfl rfl (Nat.le_of_ble_eq_true rfl) d_X0_valueOf_239 (sp_X0_joined (d - 1) (by omega) v9 v36 v37 h12) (fun r39 h38 => ?_)
                    refine sx_last sh_195 d_X0_valueOf_242 (fun h40 => ?_)
                    refine sx_lc (lc' := [(0, .ref 193), (1, .int c1), (2, .int c2), (3, .int c3), (5, .ref (b_p1 + 11)), (6, .int c6), (7, .int v14), (8, .int x8)]) [2, 3, 4, 5, 6, 7, 0, 8] rfl ?_
                    exact k16 h40
          · refine sx_ldc2 d_X0_valueOf_116 lQ_StairCount_Course_156 ?_
            exact sx_lret rfl d_X0_valueOf_119
      · intro j10 k11
        refine sx_jn (fun j => ∀  (h : HH), Sx mi_X0_valueOf d iL (j  h) 74 [(0, .ref 193), (1, .int c1), (2, .int c2), (3, .int c3), (5, .ref (b_p1 + 11)), (6, .int c6), (7, .int x7), (8, .int x8), (9, .int v9)] [] h) ?_ ?_
        · intro  h43
          refine sx_iconst d_X0_valueOf_74 ic0 ?_
          refine sx_goto d_X0_valueOf_75 ?_
          exact k11 (0 : Int32) h43
        · intro j41 k42
          refine sx_icmp_eq d_X0_valueOf_64 ?_ ?_
          · refine sx_lc (lc' := [(0, .ref 193), (1, .int c1), (2, .int c2), (3, .int c3), (5, .ref (b_p1 + 11)), (6, .int c6), (7, .int x7), (8, .int x8), (9, .int v9)]) [1, 2, 3, 4, 5, 6, 7, 8, 0] rfl ?_
            exact k42 h
          · refine sx_iload d_X0_valueOf_67 0 rfl ?_
            refine sx_bipush d_X0_valueOf_69 bc34 ?_
            refine sx_icmp_lt d_X0_valueOf_71 ?_ ?_
            · refine sx_iload d_X0_valueOf_78 0 rfl ?_
              refine sx_bipush d_X0_valueOf_80 bc33 ?_
              refine sx_icmp_ne d_X0_valueOf_82 ?_ ?_
              · refine sx_iconst d_X0_valueOf_85 ic1 ?_
                refine sx_goto d_X0_valueOf_86 ?_
                refine sx_lc (lc' := [(0, .ref 193), (1, .int c1), (2, .int c2), (3, .int c3), (5, .ref (b_p1 + 11)), (6, .int c6), (7, .int x7), (8, .int x8), (9, .int v9)]) [1, 2, 3, 4, 5, 6, 7, 8, 0] rfl ?_
                exact k11 (1 : Int32) h
              · refine sx_iconst d_X0_valueOf_89 ic2 ?_
                refine sx_lc (lc' := [(0, .ref 193), (1, .int c1), (2, .int c2), (3, .int c3), (5, .ref (b_p1 + 11)), (6, .int c6), (7, .int x7), (8, .int x8), (9, .int v9)]) [1, 2, 3, 4, 5, 6, 7, 8, 0] rfl ?_
                exact k11 (2 : Int32) h
            · refine sx_lc (lc' := [(0, .ref 193), (1, .int c1), (2, .int c2), (3, .int c3), (5, .ref (b_p1 + 11)), (6, .int c6), (7, .int x7), (8, .int x8), (9, .int v9)]) [1, 2, 3, 4, 5, 6, 7, 8, 0] rfl ?_
              exact k42 h
    · refine sx_lc (lc' := [(0, .ref 193), (7, .int x7)]) [0, 6] rfl ?_
      exact hK270 x7 h
set_option maxHeartbeats 4000000 in
set_option maxRecDepth 100000 in
theorem sp_X0_valueOf (d : Nat) (hd : 1 ≤ d) (a0 : Int32) (a1 : Int32) (a2 : Int32) (a3 : Int32) (h : HH) : Sp mi_X0_valueOf d iL [.ref 193, .int a0, .int a1, .int a2, .int a3] h (g_X0_valueOf a0 a1 a2 a3 h) := by
  refine sp_of (lc := [(0, .ref 193), (1, .int a0), (2, .int a1), (3, .int a2), (4, .int a3)]) (by decide) (Nat.le_of_ble_eq_true rfl) rfl ?_
  unfold g_X0_valueOf
  refine sx_aload_n d_X0_valueOf_0 0 rfl ?_
  refine sx_getR fl_StairCount_Course_31 sh_193 rfl d_X0_valueOf_1 (fun p1 => ?_)
  refine sx_ckH (fun ep1 => ?_)
  refine sx_getF (a' := (p1 + 11)) fl_StairCount_Course_188 ep1 rfl rfl d_X0_valueOf_4 ?_
  refine sx_astore (i := 5) (lc' := [(5, .ref (p1 + 11)), (0, .ref 193), (1, .int a0), (2, .int a1), (3, .int a2), (4, .int a3)]) d_X0_valueOf_7 (by decide) rfl ?_
  refine sx_aload_n d_X0_valueOf_9 1 rfl ?_
  refine sx_getR fl_StairCount_Course_35 sh_193 rfl d_X0_valueOf_10 (fun p2 => ?_)
  refine sx_ckH (fun ep2 => ?_)
  refine sx_getF (a' := (p2 + 5)) fl_StairCount_Course_181 ep2 rfl rfl d_X0_valueOf_13 ?_
  refine sx_iload_n d_X0_valueOf_16 3 rfl ?_
  refine sx_iload_n d_X0_valueOf_17 4 rfl ?_
  refine sx_callSN [.int a1, .int a2] ms_X10_cell lM_StairCount_Course_131 (by omega) rfl rfl (Nat.le_of_ble_eq_true rfl) d_X0_valueOf_18 (sp_X10_cell (d - 1) (by omega) a1 a2 h) (fun r4 h3 => ?_)
  refine sx_iald (shf_7_4 ep2) d_X0_valueOf_21 (fun v5 => ?_)
  refine sx_iload d_X0_valueOf_22 5 rfl ?_
  refine sx_isub d_X0_valueOf_24 ?_
  refine sx_vlI (fun v6 => ?_)
  refine sx_istore (i := 6) (lc' := [(6, .int v6), (5, .ref (p1 + 11)), (0, .ref 193), (1, .int a0), (2, .int a1), (3, .int a2), (4, .int a3)]) d_X0_valueOf_25 (by decide) rfl ?_
  refine sx_iconst d_X0_valueOf_27 ic0 ?_
  refine sx_istore (i := 7) (lc' := [(7, .int (0 : Int32)), (6, .int v6), (5, .ref (p1 + 11)), (0, .ref 193), (1, .int a0), (2, .int a1), (3, .int a2), (4, .int a3)]) d_X0_valueOf_28 (by decide) rfl ?_
  refine sx_aload d_X0_valueOf_30 2 rfl ?_
  refine sx_getF (a' := (p1 + 14)) fl_StairCount_Course_192 (shf_5_14 ep1) rfl rfl d_X0_valueOf_32 ?_
  refine sx_iload_n d_X0_valueOf_35 4 rfl ?_
  refine sx_iald (shf_2_3 (shf_5_14 ep1)) d_X0_valueOf_36 (fun v7 => ?_)
  refine sx_istore (i := 8) (lc' := [(8, .int v7), (7, .int (0 : Int32)), (6, .int v6), (5, .ref (p1 + 11)), (0, .ref 193), (1, .int a0), (2, .int a1), (3, .int a2), (4, .int a3)]) d_X0_valueOf_37 (by decide) rfl ?_
  refine sx_lc (lc' := [(0, .ref 193), (1, .int a0), (2, .int a1), (3, .int a2), (5, .ref (p1 + 11)), (6, .int v6), (7, .int (0 : Int32)), (8, .int v7)]) [4, 5, 6, 7, 3, 2, 1, 0] rfl ?_
  refine sL_X0_valueOf_39 d hd _ a0 a1 a2 p1 v6 ((shf_5_14 ep1)) ?_ 1024 (0 : Int32) v7 h3
  · intro z45 h44
    refine sx_iload d_X0_valueOf_270 1 rfl ?_
    refine sx_iconst d_X0_valueOf_272 ic1 ?_
    refine sx_icmp_ne d_X0_valueOf_273 ?_ ?_
    · refine sx_aload_n d_X0_valueOf_276 0 rfl ?_
      refine sx_getF (a' := 195) fl_StairCount_Course_17 sh_193 rfl rfl d_X0_valueOf_277 ?_
      refine sx_iconst d_X0_valueOf_280 ic0 ?_
      refine sx_lald sh_195 d_X0_valueOf_281 (fun v46 => ?_)
      refine sx_goto d_X0_valueOf_282 ?_
      exact sx_lret rfl d_X0_valueOf_288
    · refine sx_ldc2 d_X0_valueOf_285 lQ_StairCount_Course_156 ?_
      exact sx_lret rfl d_X0_valueOf_288
theorem d_X0_steepOf_0 : DC mi_X0_steepOf 0 (.aload_n 0) 1 1 := ⟨by decide +kernel, rfl⟩
theorem d_X0_steepOf_1 : DC mi_X0_steepOf 1 (.iconst 0) 1 2 := ⟨by decide +kernel, rfl⟩
theorem d_X0_steepOf_2 : DC mi_X0_steepOf 2 (.iload_n 1) 1 3 := ⟨by decide +kernel, rfl⟩
theorem d_X0_steepOf_3 : DC mi_X0_steepOf 3 (.iload_n 2) 1 4 := ⟨by decide +kernel, rfl⟩
theorem d_X0_steepOf_4 : DC mi_X0_steepOf 4 (.iload_n 3) 1 5 := ⟨by decide +kernel, rfl⟩
theorem d_X0_steepOf_5 : DC mi_X0_steepOf 5 (.invokevirtual 145) 3 8 := ⟨by decide +kernel, rfl⟩
theorem d_X0_steepOf_8 : DC mi_X0_steepOf 8 (.lstore 4) 2 10 := ⟨by decide +kernel, rfl⟩
theorem d_X0_steepOf_10 : DC mi_X0_steepOf 10 (.lload 4) 2 12 := ⟨by decide +kernel, rfl⟩
theorem d_X0_steepOf_12 : DC mi_X0_steepOf 12 (.ldc2_w 156) 3 15 := ⟨by decide +kernel, rfl⟩
theorem d_X0_steepOf_15 : DC mi_X0_steepOf 15 (.lcmp) 1 16 := ⟨by decide +kernel, rfl⟩
theorem d_X0_steepOf_16 : DB mi_X0_steepOf 16 (.ifCond .ne 29) 29 19 45 := ⟨by decide +kernel, rfl, by decide⟩
theorem d_X0_steepOf_19 : DC mi_X0_steepOf 19 (.aload_n 0) 1 20 := ⟨by decide +kernel, rfl⟩
theorem d_X0_steepOf_20 : DC mi_X0_steepOf 20 (.getfield 31) 3 23 := ⟨by decide +kernel, rfl⟩
theorem d_X0_steepOf_23 : DC mi_X0_steepOf 23 (.getfield 178) 3 26 := ⟨by decide +kernel, rfl⟩
theorem d_X0_steepOf_26 : DC mi_X0_steepOf 26 (.iload_n 2) 1 27 := ⟨by decide +kernel, rfl⟩
theorem d_X0_steepOf_27 : DC mi_X0_steepOf 27 (.iaload) 1 28 := ⟨by decide +kernel, rfl⟩
theorem d_X0_steepOf_28 : DC mi_X0_steepOf 28 (.aload_n 0) 1 29 := ⟨by decide +kernel, rfl⟩
theorem d_X0_steepOf_29 : DC mi_X0_steepOf 29 (.getfield 35) 3 32 := ⟨by decide +kernel, rfl⟩
theorem d_X0_steepOf_32 : DC mi_X0_steepOf 32 (.getfield 181) 3 35 := ⟨by decide +kernel, rfl⟩
theorem d_X0_steepOf_35 : DC mi_X0_steepOf 35 (.iload_n 1) 1 36 := ⟨by decide +kernel, rfl⟩
theorem d_X0_steepOf_36 : DC mi_X0_steepOf 36 (.iload_n 2) 1 37 := ⟨by decide +kernel, rfl⟩
theorem d_X0_steepOf_37 : DC mi_X0_steepOf 37 (.invokestatic 131) 3 40 := ⟨by decide +kernel, rfl⟩
theorem d_X0_steepOf_40 : DC mi_X0_steepOf 40 (.iaload) 1 41 := ⟨by decide +kernel, rfl⟩
theorem d_X0_steepOf_41 : DC mi_X0_steepOf 41 (.iadd) 1 42 := ⟨by decide +kernel, rfl⟩
theorem d_X0_steepOf_42 : DC mi_X0_steepOf 42 (.iload_n 3) 1 43 := ⟨by decide +kernel, rfl⟩
theorem d_X0_steepOf_43 : DC mi_X0_steepOf 43 (.isub) 1 44 := ⟨by decide +kernel, rfl⟩
theorem d_X0_steepOf_44 : DC mi_X0_steepOf 44 (.ireturn) 1 45 := ⟨by decide +kernel, rfl⟩
theorem d_X0_steepOf_45 : DC mi_X0_steepOf 45 (.aload_n 0) 1 46 := ⟨by decide +kernel, rfl⟩
theorem d_X0_steepOf_46 : DC mi_X0_steepOf 46 (.getfield 31) 3 49 := ⟨by decide +kernel, rfl⟩
theorem d_X0_steepOf_49 : DC mi_X0_steepOf 49 (.getfield 178) 3 52 := ⟨by decide +kernel, rfl⟩
theorem d_X0_steepOf_52 : DC mi_X0_steepOf 52 (.iload_n 2) 1 53 := ⟨by decide +kernel, rfl⟩
theorem d_X0_steepOf_53 : DC mi_X0_steepOf 53 (.iaload) 1 54 := ⟨by decide +kernel, rfl⟩
theorem d_X0_steepOf_54 : DC mi_X0_steepOf 54 (.ldc2_w 184) 3 57 := ⟨by decide +kernel, rfl⟩
theorem d_X0_steepOf_57 : DC mi_X0_steepOf 57 (.ldc2_w 186) 3 60 := ⟨by decide +kernel, rfl⟩
theorem d_X0_steepOf_60 : DC mi_X0_steepOf 60 (.lload 4) 2 62 := ⟨by decide +kernel, rfl⟩
theorem d_X0_steepOf_62 : DC mi_X0_steepOf 62 (.invokestatic 165) 3 65 := ⟨by decide +kernel, rfl⟩
theorem d_X0_steepOf_65 : DC mi_X0_steepOf 65 (.invokestatic 169) 3 68 := ⟨by decide +kernel, rfl⟩
theorem d_X0_steepOf_68 : DC mi_X0_steepOf 68 (.l2i) 1 69 := ⟨by decide +kernel, rfl⟩
theorem d_X0_steepOf_69 : DC mi_X0_steepOf 69 (.iadd) 1 70 := ⟨by decide +kernel, rfl⟩
theorem d_X0_steepOf_70 : DC mi_X0_steepOf 70 (.ireturn) 1 71 := ⟨by decide +kernel, rfl⟩
set_option maxHeartbeats 4000000 in
set_option maxRecDepth 100000 in
theorem sp_X0_steepOf (d : Nat) (hd : 2 ≤ d) (a0 : Int32) (a1 : Int32) (a2 : Int32) (h : HH) : Sp mi_X0_steepOf d iI [.ref 193, .int a0, .int a1, .int a2] h (g_X0_steepOf a0 a1 a2 h) := by
  refine sp_of (lc := [(0, .ref 193), (1, .int a0), (2, .int a1), (3, .int a2)]) (by decide) (Nat.le_of_ble_eq_true rfl) rfl ?_
  unfold g_X0_steepOf
  refine sx_aload_n d_X0_steepOf_0 0 rfl ?_
  refine sx_iconst d_X0_steepOf_1 ic0 ?_
  refine sx_iload_n d_X0_steepOf_2 1 rfl ?_
  refine sx_iload_n d_X0_steepOf_3 2 rfl ?_
  refine sx_iload_n d_X0_steepOf_4 3 rfl ?_
  refine sx_callV [.int (0 : Int32), .int a0, .int a1, .int a2] mv_X0_valueOf lM_StairCount_Course_145 sh_193 (by omega) rfl rfl (Nat.le_of_ble_eq_true rfl) d_X0_steepOf_5 (sp_X0_valueOf (d - 1) (by omega) (0 : Int32) a0 a1 a2 h) (fun r2 h1 => ?_)
  refine sx_lstore (i := 4) (lc' := [(4, .long r2), (0, .ref 193), (1, .int a0), (2, .int a1), (3, .int a2)]) d_X0_steepOf_8 (by decide) rfl ?_
  refine sx_lload d_X0_steepOf_10 0 rfl ?_
  refine sx_ldc2 d_X0_steepOf_12 lQ_StairCount_Course_156 ?_
  refine sx_lcmp d_X0_steepOf_15 ?_
  refine sx_if_ne d_X0_steepOf_16 ?_ ?_
  · refine sx_aload_n d_X0_steepOf_19 1 rfl ?_
    refine sx_getR fl_StairCount_Course_31 sh_193 rfl d_X0_steepOf_20 (fun p3 => ?_)
    refine sx_ckH (fun ep3 => ?_)
    refine sx_getF (a' := (p3 + 1)) fl_StairCount_Course_178 ep3 rfl rfl d_X0_steepOf_23 ?_
    refine sx_iload_n d_X0_steepOf_26 3 rfl ?_
    refine sx_iald (shf_5_1 ep3) d_X0_steepOf_27 (fun v4 => ?_)
    refine sx_aload_n d_X0_steepOf_28 1 rfl ?_
    refine sx_getR fl_StairCount_Course_35 sh_193 rfl d_X0_steepOf_29 (fun p5 => ?_)
    refine sx_ckH (fun ep5 => ?_)
    refine sx_getF (a' := (p5 + 5)) fl_StairCount_Course_181 ep5 rfl rfl d_X0_steepOf_32 ?_
    refine sx_iload_n d_X0_steepOf_35 2 rfl ?_
    refine sx_iload_n d_X0_steepOf_36 3 rfl ?_
    refine sx_callSN [.int a0, .int a1] ms_X10_cell lM_StairCount_Course_131 (by omega) rfl rfl (Nat.le_of_ble_eq_true rfl) d_X0_steepOf_37 (sp_X10_cell (d - 1) (by omega) a0 a1 h1) (fun r7 h6 => ?_)
    refine sx_iald (shf_7_4 ep5) d_X0_steepOf_40 (fun v8 => ?_)
    refine sx_iadd d_X0_steepOf_41 ?_
    refine sx_iload_n d_X0_steepOf_42 4 rfl ?_
    refine sx_isub d_X0_steepOf_43 ?_
    exact sx_iret rfl d_X0_steepOf_44
  · refine sx_aload_n d_X0_steepOf_45 1 rfl ?_
    refine sx_getR fl_StairCount_Course_31 sh_193 rfl d_X0_steepOf_46 (fun p9 => ?_)
    refine sx_ckH (fun ep9 => ?_)
    refine sx_getF (a' := (p9 + 1)) fl_StairCount_Course_178 ep9 rfl rfl d_X0_steepOf_49 ?_
    refine sx_iload_n d_X0_steepOf_52 3 rfl ?_
    refine sx_iald (shf_5_1 ep9) d_X0_steepOf_53 (fun v10 => ?_)
    refine sx_ldc2 d_X0_steepOf_54 lQ_StairCount_Course_184 ?_
    refine sx_ldc2 d_X0_steepOf_57 lQ_StairCount_Course_186 ?_
    refine sx_lload d_X0_steepOf_60 0 rfl ?_
    refine sx_mminL lM_StairCount_Course_165 (by omega) (Nat.le_of_ble_eq_true rfl) d_X0_steepOf_62 ?_
    refine sx_mmaxL lM_StairCount_Course_169 (by omega) (Nat.le_of_ble_eq_true rfl) d_X0_steepOf_65 ?_
    refine sx_l2i d_X0_steepOf_68 ?_
    refine sx_iadd d_X0_steepOf_69 ?_
    exact sx_iret rfl d_X0_steepOf_70
theorem d_X7_addTally_0 : DC mi_X7_addTally 0 (.aload_n 0) 1 1 := ⟨by decide +kernel, rfl⟩
theorem d_X7_addTally_1 : DC mi_X7_addTally 1 (.getfield 24) 3 4 := ⟨by decide +kernel, rfl⟩
theorem d_X7_addTally_4 : DC mi_X7_addTally 4 (.iload_n 1) 1 5 := ⟨by decide +kernel, rfl⟩
theorem d_X7_addTally_5 : DC mi_X7_addTally 5 (.bipush (-99)) 2 7 := ⟨by decide +kernel, rfl⟩
theorem d_X7_addTally_7 : DC mi_X7_addTally 7 (.sipush 999) 3 10 := ⟨by decide +kernel, rfl⟩
theorem d_X7_addTally_10 : DC mi_X7_addTally 10 (.aload_n 0) 1 11 := ⟨by decide +kernel, rfl⟩
theorem d_X7_addTally_11 : DC mi_X7_addTally 11 (.getfield 24) 3 14 := ⟨by decide +kernel, rfl⟩
theorem d_X7_addTally_14 : DC mi_X7_addTally 14 (.iload_n 1) 1 15 := ⟨by decide +kernel, rfl⟩
theorem d_X7_addTally_15 : DC mi_X7_addTally 15 (.iaload) 1 16 := ⟨by decide +kernel, rfl⟩
theorem d_X7_addTally_16 : DC mi_X7_addTally 16 (.iload_n 2) 1 17 := ⟨by decide +kernel, rfl⟩
theorem d_X7_addTally_17 : DC mi_X7_addTally 17 (.iadd) 1 18 := ⟨by decide +kernel, rfl⟩
theorem d_X7_addTally_18 : DC mi_X7_addTally 18 (.invokestatic 46) 3 21 := ⟨by decide +kernel, rfl⟩
theorem d_X7_addTally_21 : DC mi_X7_addTally 21 (.invokestatic 52) 3 24 := ⟨by decide +kernel, rfl⟩
theorem d_X7_addTally_24 : DC mi_X7_addTally 24 (.iastore) 1 25 := ⟨by decide +kernel, rfl⟩
theorem d_X7_addTally_25 : DC mi_X7_addTally 25 (.return_) 1 26 := ⟨by decide +kernel, rfl⟩
set_option maxHeartbeats 4000000 in
set_option maxRecDepth 100000 in
theorem sp_X7_addTally (d : Nat) (hd : 1 ≤ d) (this : Nat) (a0 : Int32) (a1 : Int32) (h : HH) : Sp mi_X7_addTally d iU [.ref this, .int a0, .int a1] h (g_X7_addTally this a0 a1 h) := by
  refine sp_of (lc := [(0, .ref this), (1, .int a0), (2, .int a1)]) (by decide) (Nat.le_of_ble_eq_true rfl) rfl ?_
  unfold g_X7_addTally
  refine sx_ckH (fun hthis => ?_)
  refine sx_aload_n d_X7_addTally_0 0 rfl ?_
  refine sx_getF (a' := (this + 5)) fl_StairCount_State_24 hthis rfl rfl d_X7_addTally_1 ?_
  refine sx_iload_n d_X7_addTally_4 1 rfl ?_
  refine sx_bipush d_X7_addTally_5 bcm99 ?_
  refine sx_sipush d_X7_addTally_7 sc999 ?_
  refine sx_aload_n d_X7_addTally_10 0 rfl ?_
  refine sx_getF (a' := (this + 5)) fl_StairCount_State_24 hthis rfl rfl d_X7_addTally_11 ?_
  refine sx_iload_n d_X7_addTally_14 1 rfl ?_
  refine sx_iald (shf_7_4 hthis) d_X7_addTally_15 (fun v1 => ?_)
  refine sx_iload_n d_X7_addTally_16 2 rfl ?_
  refine sx_iadd d_X7_addTally_17 ?_
  refine sx_mmin lM_StairCount_State_46 (by omega) (Nat.le_of_ble_eq_true rfl) d_X7_addTally_18 ?_
  refine sx_mmax lM_StairCount_State_52 (by omega) (Nat.le_of_ble_eq_true rfl) d_X7_addTally_21 ?_
  refine sx_iast (shf_7_4 hthis) d_X7_addTally_24 (fun h2 => ?_)
  exact sx_vret rfl d_X7_addTally_25
