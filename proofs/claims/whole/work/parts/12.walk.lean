/-! walks: X4_push, X4_pop, X7_clear, X5_clear, X5_personOf, X6_kind, X6_advance, X6_fail, X6_value, X6_look, X6_number, X6_takeWord, X6_readFlight, X6_knownPerson, X6_readGoing, X6_readLadder, X6_await, X6_emit, X6_takeKnot, X6_strength, X6_waitingStrength, X6_readPart, X6_release, X6_readE -/
theorem d_X4_push_0 : DC mi_X4_push 0 (.aload_n 0) 1 1 := ⟨by decide +kernel, rfl⟩
theorem d_X4_push_1 : DC mi_X4_push 1 (.getfield 11) 3 4 := ⟨by decide +kernel, rfl⟩
theorem d_X4_push_4 : DC mi_X4_push 4 (.aload_n 0) 1 5 := ⟨by decide +kernel, rfl⟩
theorem d_X4_push_5 : DC mi_X4_push 5 (.getfield 22) 3 8 := ⟨by decide +kernel, rfl⟩
theorem d_X4_push_8 : DC mi_X4_push 8 (.aaload) 1 9 := ⟨by decide +kernel, rfl⟩
theorem d_X4_push_9 : DC mi_X4_push 9 (.aload_n 1) 1 10 := ⟨by decide +kernel, rfl⟩
theorem d_X4_push_10 : DC mi_X4_push 10 (.invokevirtual 25) 3 13 := ⟨by decide +kernel, rfl⟩
theorem d_X4_push_13 : DC mi_X4_push 13 (.aload_n 0) 1 14 := ⟨by decide +kernel, rfl⟩
theorem d_X4_push_14 : DC mi_X4_push 14 (.aload_n 0) 1 15 := ⟨by decide +kernel, rfl⟩
theorem d_X4_push_15 : DC mi_X4_push 15 (.getfield 22) 3 18 := ⟨by decide +kernel, rfl⟩
theorem d_X4_push_18 : DC mi_X4_push 18 (.iconst 1) 1 19 := ⟨by decide +kernel, rfl⟩
theorem d_X4_push_19 : DC mi_X4_push 19 (.iadd) 1 20 := ⟨by decide +kernel, rfl⟩
theorem d_X4_push_20 : DC mi_X4_push 20 (.bipush 20) 2 22 := ⟨by decide +kernel, rfl⟩
theorem d_X4_push_22 : DC mi_X4_push 22 (.irem) 1 23 := ⟨by decide +kernel, rfl⟩
theorem d_X4_push_23 : DC mi_X4_push 23 (.putfield 22) 3 26 := ⟨by decide +kernel, rfl⟩
theorem d_X4_push_26 : DC mi_X4_push 26 (.aload_n 0) 1 27 := ⟨by decide +kernel, rfl⟩
theorem d_X4_push_27 : DC mi_X4_push 27 (.aload_n 0) 1 28 := ⟨by decide +kernel, rfl⟩
theorem d_X4_push_28 : DC mi_X4_push 28 (.getfield 18) 3 31 := ⟨by decide +kernel, rfl⟩
theorem d_X4_push_31 : DC mi_X4_push 31 (.iconst 1) 1 32 := ⟨by decide +kernel, rfl⟩
theorem d_X4_push_32 : DC mi_X4_push 32 (.iadd) 1 33 := ⟨by decide +kernel, rfl⟩
theorem d_X4_push_33 : DC mi_X4_push 33 (.bipush 20) 2 35 := ⟨by decide +kernel, rfl⟩
theorem d_X4_push_35 : DC mi_X4_push 35 (.invokestatic 29) 3 38 := ⟨by decide +kernel, rfl⟩
theorem d_X4_push_38 : DC mi_X4_push 38 (.putfield 18) 3 41 := ⟨by decide +kernel, rfl⟩
theorem d_X4_push_41 : DC mi_X4_push 41 (.return_) 1 42 := ⟨by decide +kernel, rfl⟩
set_option maxHeartbeats 4000000 in
set_option maxRecDepth 100000 in
theorem sp_X4_push (d : Nat) (hd : 2 ≤ d) (a0 : Nat) (h : HH) : Sp mi_X4_push d iU [.ref 64, .ref a0] h (g_X4_push a0 h) := by
  refine sp_of (lc := [(0, .ref 64), (1, .ref a0)]) (by decide) (Nat.le_of_ble_eq_true rfl) rfl ?_
  unfold g_X4_push
  refine sx_ckH (fun ha0 => ?_)
  refine sx_aload_n d_X4_push_0 0 rfl ?_
  refine sx_getF (a' := 65) fl_StairCount_Past_11 sh_64 rfl rfl d_X4_push_1 ?_
  refine sx_aload_n d_X4_push_4 0 rfl ?_
  refine sx_getI fl_StairCount_Past_22 sh_64 rfl d_X4_push_5 (fun v1 => ?_)
  refine sx_aald sh_65 rfl d_X4_push_8 (fun p2 => ?_)
  refine sx_ckH (fun ep2 => ?_)
  refine sx_aload_n d_X4_push_9 1 rfl ?_
  refine sx_callV [.ref a0] mv_X7_take lM_StairCount_Past_25 ep2 (by omega) rfl rfl (Nat.le_of_ble_eq_true rfl) d_X4_push_10 (sp_X7_take (d - 1) (by omega) p2 a0 h) (fun _ h3 => ?_)
  refine sx_aload_n d_X4_push_13 0 rfl ?_
  refine sx_aload_n d_X4_push_14 0 rfl ?_
  refine sx_getI fl_StairCount_Past_22 sh_64 rfl d_X4_push_15 (fun v5 => ?_)
  refine sx_iconst d_X4_push_18 ic1 ?_
  refine sx_iadd d_X4_push_19 ?_
  refine sx_bipush d_X4_push_20 bc20 ?_
  refine sx_irem d_X4_push_22 (fun v6 => ?_)
  refine sx_putI fl_StairCount_Past_22 sh_64 rfl hty_4_1 d_X4_push_23 (fun h7 => ?_)
  refine sx_aload_n d_X4_push_26 0 rfl ?_
  refine sx_aload_n d_X4_push_27 0 rfl ?_
  refine sx_getI fl_StairCount_Past_18 sh_64 rfl d_X4_push_28 (fun v8 => ?_)
  refine sx_iconst d_X4_push_31 ic1 ?_
  refine sx_iadd d_X4_push_32 ?_
  refine sx_bipush d_X4_push_33 bc20 ?_
  refine sx_mmin lM_StairCount_Past_29 (by omega) (Nat.le_of_ble_eq_true rfl) d_X4_push_35 ?_
  refine sx_putI fl_StairCount_Past_18 sh_64 rfl hty_4_2 d_X4_push_38 (fun h9 => ?_)
  exact sx_vret rfl d_X4_push_41
theorem d_X4_pop_0 : DC mi_X4_pop 0 (.aload_n 0) 1 1 := ⟨by decide +kernel, rfl⟩
theorem d_X4_pop_1 : DC mi_X4_pop 1 (.getfield 18) 3 4 := ⟨by decide +kernel, rfl⟩
theorem d_X4_pop_4 : DB mi_X4_pop 4 (.ifCond .ne 5) 5 7 9 := ⟨by decide +kernel, rfl, by decide⟩
theorem d_X4_pop_7 : DC mi_X4_pop 7 (.iconst 0) 1 8 := ⟨by decide +kernel, rfl⟩
theorem d_X4_pop_8 : DC mi_X4_pop 8 (.ireturn) 1 9 := ⟨by decide +kernel, rfl⟩
theorem d_X4_pop_9 : DC mi_X4_pop 9 (.aload_n 0) 1 10 := ⟨by decide +kernel, rfl⟩
theorem d_X4_pop_10 : DC mi_X4_pop 10 (.aload_n 0) 1 11 := ⟨by decide +kernel, rfl⟩
theorem d_X4_pop_11 : DC mi_X4_pop 11 (.getfield 22) 3 14 := ⟨by decide +kernel, rfl⟩
theorem d_X4_pop_14 : DC mi_X4_pop 14 (.bipush 20) 2 16 := ⟨by decide +kernel, rfl⟩
theorem d_X4_pop_16 : DC mi_X4_pop 16 (.iadd) 1 17 := ⟨by decide +kernel, rfl⟩
theorem d_X4_pop_17 : DC mi_X4_pop 17 (.iconst 1) 1 18 := ⟨by decide +kernel, rfl⟩
theorem d_X4_pop_18 : DC mi_X4_pop 18 (.isub) 1 19 := ⟨by decide +kernel, rfl⟩
theorem d_X4_pop_19 : DC mi_X4_pop 19 (.bipush 20) 2 21 := ⟨by decide +kernel, rfl⟩
theorem d_X4_pop_21 : DC mi_X4_pop 21 (.irem) 1 22 := ⟨by decide +kernel, rfl⟩
theorem d_X4_pop_22 : DC mi_X4_pop 22 (.putfield 22) 3 25 := ⟨by decide +kernel, rfl⟩
theorem d_X4_pop_25 : DC mi_X4_pop 25 (.aload_n 0) 1 26 := ⟨by decide +kernel, rfl⟩
theorem d_X4_pop_26 : DC mi_X4_pop 26 (.dup) 1 27 := ⟨by decide +kernel, rfl⟩
theorem d_X4_pop_27 : DC mi_X4_pop 27 (.getfield 18) 3 30 := ⟨by decide +kernel, rfl⟩
theorem d_X4_pop_30 : DC mi_X4_pop 30 (.iconst 1) 1 31 := ⟨by decide +kernel, rfl⟩
theorem d_X4_pop_31 : DC mi_X4_pop 31 (.isub) 1 32 := ⟨by decide +kernel, rfl⟩
theorem d_X4_pop_32 : DC mi_X4_pop 32 (.putfield 18) 3 35 := ⟨by decide +kernel, rfl⟩
theorem d_X4_pop_35 : DC mi_X4_pop 35 (.aload_n 1) 1 36 := ⟨by decide +kernel, rfl⟩
theorem d_X4_pop_36 : DC mi_X4_pop 36 (.aload_n 0) 1 37 := ⟨by decide +kernel, rfl⟩
theorem d_X4_pop_37 : DC mi_X4_pop 37 (.getfield 11) 3 40 := ⟨by decide +kernel, rfl⟩
theorem d_X4_pop_40 : DC mi_X4_pop 40 (.aload_n 0) 1 41 := ⟨by decide +kernel, rfl⟩
theorem d_X4_pop_41 : DC mi_X4_pop 41 (.getfield 22) 3 44 := ⟨by decide +kernel, rfl⟩
theorem d_X4_pop_44 : DC mi_X4_pop 44 (.aaload) 1 45 := ⟨by decide +kernel, rfl⟩
theorem d_X4_pop_45 : DC mi_X4_pop 45 (.invokevirtual 25) 3 48 := ⟨by decide +kernel, rfl⟩
theorem d_X4_pop_48 : DC mi_X4_pop 48 (.iconst 1) 1 49 := ⟨by decide +kernel, rfl⟩
theorem d_X4_pop_49 : DC mi_X4_pop 49 (.ireturn) 1 50 := ⟨by decide +kernel, rfl⟩
set_option maxHeartbeats 4000000 in
set_option maxRecDepth 100000 in
theorem sp_X4_pop (d : Nat) (hd : 2 ≤ d) (a0 : Nat) (h : HH) : Sp mi_X4_pop d iI [.ref 64, .ref a0] h (g_X4_pop a0 h) := by
  refine sp_of (lc := [(0, .ref 64), (1, .ref a0)]) (by decide) (Nat.le_of_ble_eq_true rfl) rfl ?_
  unfold g_X4_pop
  refine sx_ckH (fun ha0 => ?_)
  refine sx_aload_n d_X4_pop_0 0 rfl ?_
  refine sx_getI fl_StairCount_Past_18 sh_64 rfl d_X4_pop_1 (fun v1 => ?_)
  refine sx_if_ne d_X4_pop_4 ?_ ?_
  · refine sx_iconst d_X4_pop_7 ic0 ?_
    exact sx_zret (by decide) rfl d_X4_pop_8
  · refine sx_aload_n d_X4_pop_9 0 rfl ?_
    refine sx_aload_n d_X4_pop_10 0 rfl ?_
    refine sx_getI fl_StairCount_Past_22 sh_64 rfl d_X4_pop_11 (fun v2 => ?_)
    refine sx_bipush d_X4_pop_14 bc20 ?_
    refine sx_iadd d_X4_pop_16 ?_
    refine sx_iconst d_X4_pop_17 ic1 ?_
    refine sx_isub d_X4_pop_18 ?_
    refine sx_bipush d_X4_pop_19 bc20 ?_
    refine sx_irem d_X4_pop_21 (fun v3 => ?_)
    refine sx_putI fl_StairCount_Past_22 sh_64 rfl hty_4_1 d_X4_pop_22 (fun h4 => ?_)
    refine sx_aload_n d_X4_pop_25 0 rfl ?_
    refine sx_dup d_X4_pop_26 rfl ?_
    refine sx_getI fl_StairCount_Past_18 sh_64 rfl d_X4_pop_27 (fun v5 => ?_)
    refine sx_iconst d_X4_pop_30 ic1 ?_
    refine sx_isub d_X4_pop_31 ?_
    refine sx_putI fl_StairCount_Past_18 sh_64 rfl hty_4_2 d_X4_pop_32 (fun h6 => ?_)
    refine sx_aload_n d_X4_pop_35 1 rfl ?_
    refine sx_aload_n d_X4_pop_36 0 rfl ?_
    refine sx_getF (a' := 65) fl_StairCount_Past_11 sh_64 rfl rfl d_X4_pop_37 ?_
    refine sx_aload_n d_X4_pop_40 0 rfl ?_
    refine sx_getI fl_StairCount_Past_22 sh_64 rfl d_X4_pop_41 (fun v7 => ?_)
    refine sx_aald sh_65 rfl d_X4_pop_44 (fun p8 => ?_)
    refine sx_ckH (fun ep8 => ?_)
    refine sx_callV [.ref p8] mv_X7_take lM_StairCount_Past_25 ha0 (by omega) rfl rfl (Nat.le_of_ble_eq_true rfl) d_X4_pop_45 (sp_X7_take (d - 1) (by omega) a0 p8 h6) (fun _ h9 => ?_)
    refine sx_iconst d_X4_pop_48 ic1 ?_
    exact sx_zret (by decide) rfl d_X4_pop_49
theorem d_X7_clear_0 : DC mi_X7_clear 0 (.aload_n 0) 1 1 := ⟨by decide +kernel, rfl⟩
theorem d_X7_clear_1 : DC mi_X7_clear 1 (.getfield 9) 3 4 := ⟨by decide +kernel, rfl⟩
theorem d_X7_clear_4 : DC mi_X7_clear 4 (.iconst 0) 1 5 := ⟨by decide +kernel, rfl⟩
theorem d_X7_clear_5 : DC mi_X7_clear 5 (.invokestatic 27) 3 8 := ⟨by decide +kernel, rfl⟩
theorem d_X7_clear_8 : DC mi_X7_clear 8 (.aload_n 0) 1 9 := ⟨by decide +kernel, rfl⟩
theorem d_X7_clear_9 : DC mi_X7_clear 9 (.getfield 15) 3 12 := ⟨by decide +kernel, rfl⟩
theorem d_X7_clear_12 : DC mi_X7_clear 12 (.iconst 0) 1 13 := ⟨by decide +kernel, rfl⟩
theorem d_X7_clear_13 : DC mi_X7_clear 13 (.invokestatic 27) 3 16 := ⟨by decide +kernel, rfl⟩
theorem d_X7_clear_16 : DC mi_X7_clear 16 (.aload_n 0) 1 17 := ⟨by decide +kernel, rfl⟩
theorem d_X7_clear_17 : DC mi_X7_clear 17 (.getfield 18) 3 20 := ⟨by decide +kernel, rfl⟩
theorem d_X7_clear_20 : DC mi_X7_clear 20 (.iconst 0) 1 21 := ⟨by decide +kernel, rfl⟩
theorem d_X7_clear_21 : DC mi_X7_clear 21 (.invokestatic 27) 3 24 := ⟨by decide +kernel, rfl⟩
theorem d_X7_clear_24 : DC mi_X7_clear 24 (.aload_n 0) 1 25 := ⟨by decide +kernel, rfl⟩
theorem d_X7_clear_25 : DC mi_X7_clear 25 (.getfield 21) 3 28 := ⟨by decide +kernel, rfl⟩
theorem d_X7_clear_28 : DC mi_X7_clear 28 (.iconst 0) 1 29 := ⟨by decide +kernel, rfl⟩
theorem d_X7_clear_29 : DC mi_X7_clear 29 (.invokestatic 27) 3 32 := ⟨by decide +kernel, rfl⟩
theorem d_X7_clear_32 : DC mi_X7_clear 32 (.aload_n 0) 1 33 := ⟨by decide +kernel, rfl⟩
theorem d_X7_clear_33 : DC mi_X7_clear 33 (.getfield 24) 3 36 := ⟨by decide +kernel, rfl⟩
theorem d_X7_clear_36 : DC mi_X7_clear 36 (.iconst 0) 1 37 := ⟨by decide +kernel, rfl⟩
theorem d_X7_clear_37 : DC mi_X7_clear 37 (.invokestatic 27) 3 40 := ⟨by decide +kernel, rfl⟩
theorem d_X7_clear_40 : DC mi_X7_clear 40 (.aload_n 0) 1 41 := ⟨by decide +kernel, rfl⟩
theorem d_X7_clear_41 : DC mi_X7_clear 41 (.iconst 0) 1 42 := ⟨by decide +kernel, rfl⟩
theorem d_X7_clear_42 : DC mi_X7_clear 42 (.putfield 33) 3 45 := ⟨by decide +kernel, rfl⟩
theorem d_X7_clear_45 : DC mi_X7_clear 45 (.aload_n 0) 1 46 := ⟨by decide +kernel, rfl⟩
theorem d_X7_clear_46 : DC mi_X7_clear 46 (.iconst 0) 1 47 := ⟨by decide +kernel, rfl⟩
theorem d_X7_clear_47 : DC mi_X7_clear 47 (.putfield 37) 3 50 := ⟨by decide +kernel, rfl⟩
theorem d_X7_clear_50 : DC mi_X7_clear 50 (.return_) 1 51 := ⟨by decide +kernel, rfl⟩
set_option maxHeartbeats 4000000 in
set_option maxRecDepth 100000 in
theorem sp_X7_clear (d : Nat) (hd : 1 ≤ d) (this : Nat) (h : HH) : Sp mi_X7_clear d iU [.ref this] h (g_X7_clear this h) := by
  refine sp_of (lc := [(0, .ref this)]) (by decide) (Nat.le_of_ble_eq_true rfl) rfl ?_
  unfold g_X7_clear
  refine sx_ckH (fun hthis => ?_)
  refine sx_aload_n d_X7_clear_0 0 rfl ?_
  refine sx_getF (a' := (this + 1)) fl_StairCount_State_9 hthis rfl rfl d_X7_clear_1 ?_
  refine sx_iconst d_X7_clear_4 ic0 ?_
  refine sx_callS [.ref (this + 1), .int (0 : Int32)] ms_J7_fill_53178 lM_StairCount_State_27 (by omega) rfl rfl (Nat.le_of_ble_eq_true rfl) d_X7_clear_5 (sp_J7_fill_53178 (d - 1) (by omega) (this + 1) (0 : Int32) h) (fun _ h1 => ?_)
  refine sx_aload_n d_X7_clear_8 0 rfl ?_
  refine sx_getF (a' := (this + 2)) fl_StairCount_State_15 hthis rfl rfl d_X7_clear_9 ?_
  refine sx_iconst d_X7_clear_12 ic0 ?_
  refine sx_callS [.ref (this + 2), .int (0 : Int32)] ms_J7_fill_53178 lM_StairCount_State_27 (by omega) rfl rfl (Nat.le_of_ble_eq_true rfl) d_X7_clear_13 (sp_J7_fill_53178 (d - 1) (by omega) (this + 2) (0 : Int32) h1) (fun _ h3 => ?_)
  refine sx_aload_n d_X7_clear_16 0 rfl ?_
  refine sx_getF (a' := (this + 3)) fl_StairCount_State_18 hthis rfl rfl d_X7_clear_17 ?_
  refine sx_iconst d_X7_clear_20 ic0 ?_
  refine sx_callS [.ref (this + 3), .int (0 : Int32)] ms_J7_fill_53178 lM_StairCount_State_27 (by omega) rfl rfl (Nat.le_of_ble_eq_true rfl) d_X7_clear_21 (sp_J7_fill_53178 (d - 1) (by omega) (this + 3) (0 : Int32) h3) (fun _ h5 => ?_)
  refine sx_aload_n d_X7_clear_24 0 rfl ?_
  refine sx_getF (a' := (this + 4)) fl_StairCount_State_21 hthis rfl rfl d_X7_clear_25 ?_
  refine sx_iconst d_X7_clear_28 ic0 ?_
  refine sx_callS [.ref (this + 4), .int (0 : Int32)] ms_J7_fill_53178 lM_StairCount_State_27 (by omega) rfl rfl (Nat.le_of_ble_eq_true rfl) d_X7_clear_29 (sp_J7_fill_53178 (d - 1) (by omega) (this + 4) (0 : Int32) h5) (fun _ h7 => ?_)
  refine sx_aload_n d_X7_clear_32 0 rfl ?_
  refine sx_getF (a' := (this + 5)) fl_StairCount_State_24 hthis rfl rfl d_X7_clear_33 ?_
  refine sx_iconst d_X7_clear_36 ic0 ?_
  refine sx_callS [.ref (this + 5), .int (0 : Int32)] ms_J7_fill_53178 lM_StairCount_State_27 (by omega) rfl rfl (Nat.le_of_ble_eq_true rfl) d_X7_clear_37 (sp_J7_fill_53178 (d - 1) (by omega) (this + 5) (0 : Int32) h7) (fun _ h9 => ?_)
  refine sx_aload_n d_X7_clear_40 0 rfl ?_
  refine sx_iconst d_X7_clear_41 ic0 ?_
  refine sx_putI fl_StairCount_State_33 hthis rfl hty_7_5 d_X7_clear_42 (fun h11 => ?_)
  refine sx_aload_n d_X7_clear_45 0 rfl ?_
  refine sx_iconst d_X7_clear_46 ic0 ?_
  refine sx_putI fl_StairCount_State_37 hthis rfl hty_7_6 d_X7_clear_47 (fun h12 => ?_)
  exact sx_vret rfl d_X7_clear_50
theorem d_X5_clear_0 : DC mi_X5_clear 0 (.aload_n 0) 1 1 := ⟨by decide +kernel, rfl⟩
theorem d_X5_clear_1 : DC mi_X5_clear 1 (.iconst 0) 1 2 := ⟨by decide +kernel, rfl⟩
theorem d_X5_clear_2 : DC mi_X5_clear 2 (.putfield 56) 3 5 := ⟨by decide +kernel, rfl⟩
theorem d_X5_clear_5 : DC mi_X5_clear 5 (.aload_n 0) 1 6 := ⟨by decide +kernel, rfl⟩
theorem d_X5_clear_6 : DC mi_X5_clear 6 (.iconst 0) 1 7 := ⟨by decide +kernel, rfl⟩
theorem d_X5_clear_7 : DC mi_X5_clear 7 (.putfield 60) 3 10 := ⟨by decide +kernel, rfl⟩
theorem d_X5_clear_10 : DC mi_X5_clear 10 (.aload_n 0) 1 11 := ⟨by decide +kernel, rfl⟩
theorem d_X5_clear_11 : DC mi_X5_clear 11 (.iconst 0) 1 12 := ⟨by decide +kernel, rfl⟩
theorem d_X5_clear_12 : DC mi_X5_clear 12 (.putfield 63) 3 15 := ⟨by decide +kernel, rfl⟩
theorem d_X5_clear_15 : DC mi_X5_clear 15 (.aload_n 0) 1 16 := ⟨by decide +kernel, rfl⟩
theorem d_X5_clear_16 : DC mi_X5_clear 16 (.iconst 0) 1 17 := ⟨by decide +kernel, rfl⟩
theorem d_X5_clear_17 : DC mi_X5_clear 17 (.putfield 66) 3 20 := ⟨by decide +kernel, rfl⟩
theorem d_X5_clear_20 : DC mi_X5_clear 20 (.aload_n 0) 1 21 := ⟨by decide +kernel, rfl⟩
theorem d_X5_clear_21 : DC mi_X5_clear 21 (.getfield 45) 3 24 := ⟨by decide +kernel, rfl⟩
theorem d_X5_clear_24 : DC mi_X5_clear 24 (.invokevirtual 69) 3 27 := ⟨by decide +kernel, rfl⟩
theorem d_X5_clear_27 : DC mi_X5_clear 27 (.aload_n 0) 1 28 := ⟨by decide +kernel, rfl⟩
theorem d_X5_clear_28 : DC mi_X5_clear 28 (.iconst 0) 1 29 := ⟨by decide +kernel, rfl⟩
theorem d_X5_clear_29 : DC mi_X5_clear 29 (.putfield 72) 3 32 := ⟨by decide +kernel, rfl⟩
theorem d_X5_clear_32 : DC mi_X5_clear 32 (.aload_n 0) 1 33 := ⟨by decide +kernel, rfl⟩
theorem d_X5_clear_33 : DC mi_X5_clear 33 (.getfield 52) 3 36 := ⟨by decide +kernel, rfl⟩
theorem d_X5_clear_36 : DC mi_X5_clear 36 (.invokevirtual 75) 3 39 := ⟨by decide +kernel, rfl⟩
theorem d_X5_clear_39 : DC mi_X5_clear 39 (.return_) 1 40 := ⟨by decide +kernel, rfl⟩
set_option maxHeartbeats 4000000 in
set_option maxRecDepth 100000 in
theorem sp_X5_clear (d : Nat) (hd : 2 ≤ d) (this : Nat) (h : HH) : Sp mi_X5_clear d iU [.ref this] h (g_X5_clear this h) := by
  refine sp_of (lc := [(0, .ref this)]) (by decide) (Nat.le_of_ble_eq_true rfl) rfl ?_
  unfold g_X5_clear
  refine sx_ckH (fun hthis => ?_)
  refine sx_aload_n d_X5_clear_0 0 rfl ?_
  refine sx_iconst d_X5_clear_1 ic0 ?_
  refine sx_putI fl_StairCount_Plan_56 hthis rfl hty_5_0 d_X5_clear_2 (fun h1 => ?_)
  refine sx_aload_n d_X5_clear_5 0 rfl ?_
  refine sx_iconst d_X5_clear_6 ic0 ?_
  refine sx_putI fl_StairCount_Plan_60 hthis rfl hty_5_2 d_X5_clear_7 (fun h2 => ?_)
  refine sx_aload_n d_X5_clear_10 0 rfl ?_
  refine sx_iconst d_X5_clear_11 ic0 ?_
  refine sx_putI fl_StairCount_Plan_63 hthis rfl hty_5_5 d_X5_clear_12 (fun h3 => ?_)
  refine sx_aload_n d_X5_clear_15 0 rfl ?_
  refine sx_iconst d_X5_clear_16 ic0 ?_
  refine sx_putI fl_StairCount_Plan_66 hthis rfl hty_5_9 d_X5_clear_17 (fun h4 => ?_)
  refine sx_aload_n d_X5_clear_20 0 rfl ?_
  refine sx_getF (a' := (this + 11)) fl_StairCount_Plan_45 hthis rfl rfl d_X5_clear_21 ?_
  refine sx_callV [] mv_X2_clear lM_StairCount_Plan_69 (shf_5_14 hthis) (by omega) rfl rfl (Nat.le_of_ble_eq_true rfl) d_X5_clear_24 (sp_X2_clear (d - 1) (by omega) (this + 11) h4) (fun _ h5 => ?_)
  refine sx_aload_n d_X5_clear_27 0 rfl ?_
  refine sx_iconst d_X5_clear_28 ic0 ?_
  refine sx_putI fl_StairCount_Plan_72 hthis rfl hty_5_15 d_X5_clear_29 (fun h7 => ?_)
  refine sx_aload_n d_X5_clear_32 0 rfl ?_
  refine sx_getF (a' := (this + 16)) fl_StairCount_Plan_52 hthis rfl rfl d_X5_clear_33 ?_
  refine sx_callV [] mv_X7_clear lM_StairCount_Plan_75 (shf_5_16 hthis) (by omega) rfl rfl (Nat.le_of_ble_eq_true rfl) d_X5_clear_36 (sp_X7_clear (d - 1) (by omega) (this + 16) h7) (fun _ h8 => ?_)
  exact sx_vret rfl d_X5_clear_39
theorem d_X5_personOf_0 : DC mi_X5_personOf 0 (.iconst 0) 1 1 := ⟨by decide +kernel, rfl⟩
theorem d_X5_personOf_1 : DC mi_X5_personOf 1 (.istore_n 2) 1 2 := ⟨by decide +kernel, rfl⟩
theorem d_X5_personOf_2 : DC mi_X5_personOf 2 (.iload_n 2) 1 3 := ⟨by decide +kernel, rfl⟩
theorem d_X5_personOf_3 : DC mi_X5_personOf 3 (.aload_n 0) 1 4 := ⟨by decide +kernel, rfl⟩
theorem d_X5_personOf_4 : DC mi_X5_personOf 4 (.getfield 60) 3 7 := ⟨by decide +kernel, rfl⟩
theorem d_X5_personOf_7 : DB mi_X5_personOf 7 (.if_icmp .ge 21) 21 10 28 := ⟨by decide +kernel, rfl, by decide⟩
theorem d_X5_personOf_10 : DC mi_X5_personOf 10 (.aload_n 0) 1 11 := ⟨by decide +kernel, rfl⟩
theorem d_X5_personOf_11 : DC mi_X5_personOf 11 (.getfield 15) 3 14 := ⟨by decide +kernel, rfl⟩
theorem d_X5_personOf_14 : DC mi_X5_personOf 14 (.iload_n 2) 1 15 := ⟨by decide +kernel, rfl⟩
theorem d_X5_personOf_15 : DC mi_X5_personOf 15 (.iaload) 1 16 := ⟨by decide +kernel, rfl⟩
theorem d_X5_personOf_16 : DC mi_X5_personOf 16 (.iload_n 1) 1 17 := ⟨by decide +kernel, rfl⟩
theorem d_X5_personOf_17 : DB mi_X5_personOf 17 (.if_icmp .ne 5) 5 20 22 := ⟨by decide +kernel, rfl, by decide⟩
theorem d_X5_personOf_20 : DC mi_X5_personOf 20 (.iload_n 2) 1 21 := ⟨by decide +kernel, rfl⟩
theorem d_X5_personOf_21 : DC mi_X5_personOf 21 (.ireturn) 1 22 := ⟨by decide +kernel, rfl⟩
theorem d_X5_personOf_22 : DC mi_X5_personOf 22 (.iinc 2 1) 3 25 := ⟨by decide +kernel, rfl⟩
theorem d_X5_personOf_25 : DB mi_X5_personOf 25 (.goto (-23)) (-23) 28 2 := ⟨by decide +kernel, rfl, by decide⟩
theorem d_X5_personOf_28 : DC mi_X5_personOf 28 (.iconst (-1)) 1 29 := ⟨by decide +kernel, rfl⟩
theorem d_X5_personOf_29 : DC mi_X5_personOf 29 (.ireturn) 1 30 := ⟨by decide +kernel, rfl⟩
set_option maxHeartbeats 4000000 in
set_option maxRecDepth 100000 in
theorem sL_X5_personOf_2 (d : Nat) (hd : 0 ≤ d) (b_this : Nat) (c1 : Int32) (e0 : shL[b_this]? = some (.inl 5)) : ∀ (n : Nat) (x2 : Int32) (h : HH), Sx mi_X5_personOf d iI (g_X5_personOf_L2 b_this c1 n x2 h) 2 [(0, .ref b_this), (1, .int c1), (2, .int x2)] [] h := by
  intro n
  induction n with
  | zero => intro x2 h; exact sx_none
  | succ n ih =>
    intro x2 h
    rw [g_X5_personOf_L2]
    refine sx_iload_n d_X5_personOf_2 2 rfl ?_
    refine sx_aload_n d_X5_personOf_3 0 rfl ?_
    refine sx_getI fl_StairCount_Plan_60 e0 rfl d_X5_personOf_4 (fun v1 => ?_)
    refine sx_icmp_ge d_X5_personOf_7 ?_ ?_
    · refine sx_aload_n d_X5_personOf_10 0 rfl ?_
      refine sx_getF (a' := (b_this + 2)) fl_StairCount_Plan_15 e0 rfl rfl d_X5_personOf_11 ?_
      refine sx_iload_n d_X5_personOf_14 2 rfl ?_
      refine sx_iald (shf_5_3 e0) d_X5_personOf_15 (fun v2 => ?_)
      refine sx_iload_n d_X5_personOf_16 1 rfl ?_
      refine sx_icmp_ne d_X5_personOf_17 ?_ ?_
      · refine sx_iload_n d_X5_personOf_20 2 rfl ?_
        exact sx_iret rfl d_X5_personOf_21
      · refine sx_iincV (lc' := fun v3 => [(2, .int v3), (0, .ref b_this), (1, .int c1)]) (k0 := 2) d_X5_personOf_22 rfl ii1 (by decide) (fun _ => rfl) (fun v3 => ?_)
        refine sx_goto d_X5_personOf_25 ?_
        refine sx_lc (lc' := [(0, .ref b_this), (1, .int c1), (2, .int v3)]) [1, 2, 0] rfl ?_
        exact ih v3 h
    · refine sx_iconst d_X5_personOf_28 icm1 ?_
      exact sx_iret rfl d_X5_personOf_29
set_option maxHeartbeats 4000000 in
set_option maxRecDepth 100000 in
theorem sp_X5_personOf (d : Nat) (hd : 0 ≤ d) (this : Nat) (a0 : Int32) (h : HH) : Sp mi_X5_personOf d iI [.ref this, .int a0] h (g_X5_personOf this a0 h) := by
  refine sp_of (lc := [(0, .ref this), (1, .int a0)]) (by decide) (Nat.le_of_ble_eq_true rfl) rfl ?_
  unfold g_X5_personOf
  refine sx_ckH (fun hthis => ?_)
  refine sx_iconst d_X5_personOf_0 ic0 ?_
  refine sx_istore_n (i := 2) (lc' := [(2, .int (0 : Int32)), (0, .ref this), (1, .int a0)]) d_X5_personOf_1 rfl (by decide) rfl ?_
  refine sx_lc (lc' := [(0, .ref this), (1, .int a0), (2, .int (0 : Int32))]) [1, 2, 0] rfl ?_
  refine sL_X5_personOf_2 d hd this a0 (hthis) 1024 (0 : Int32) h
theorem d_X6_kind_0 : DC mi_X6_kind 0 (.aload_n 0) 1 1 := ⟨by decide +kernel, rfl⟩
theorem d_X6_kind_1 : DC mi_X6_kind 1 (.getfield 36) 3 4 := ⟨by decide +kernel, rfl⟩
theorem d_X6_kind_4 : DC mi_X6_kind 4 (.aload_n 0) 1 5 := ⟨by decide +kernel, rfl⟩
theorem d_X6_kind_5 : DC mi_X6_kind 5 (.getfield 12) 3 8 := ⟨by decide +kernel, rfl⟩
theorem d_X6_kind_8 : DC mi_X6_kind 8 (.getfield 59) 3 11 := ⟨by decide +kernel, rfl⟩
theorem d_X6_kind_11 : DB mi_X6_kind 11 (.if_icmp .ge 18) 18 14 29 := ⟨by decide +kernel, rfl, by decide⟩
theorem d_X6_kind_14 : DC mi_X6_kind 14 (.aload_n 0) 1 15 := ⟨by decide +kernel, rfl⟩
theorem d_X6_kind_15 : DC mi_X6_kind 15 (.getfield 12) 3 18 := ⟨by decide +kernel, rfl⟩
theorem d_X6_kind_18 : DC mi_X6_kind 18 (.getfield 69) 3 21 := ⟨by decide +kernel, rfl⟩
theorem d_X6_kind_21 : DC mi_X6_kind 21 (.aload_n 0) 1 22 := ⟨by decide +kernel, rfl⟩
theorem d_X6_kind_22 : DC mi_X6_kind 22 (.getfield 36) 3 25 := ⟨by decide +kernel, rfl⟩
theorem d_X6_kind_25 : DC mi_X6_kind 25 (.iaload) 1 26 := ⟨by decide +kernel, rfl⟩
theorem d_X6_kind_26 : DB mi_X6_kind 26 (.goto 4) 4 29 30 := ⟨by decide +kernel, rfl, by decide⟩
theorem d_X6_kind_29 : DC mi_X6_kind 29 (.iconst 0) 1 30 := ⟨by decide +kernel, rfl⟩
theorem d_X6_kind_30 : DC mi_X6_kind 30 (.ireturn) 1 31 := ⟨by decide +kernel, rfl⟩
set_option maxHeartbeats 4000000 in
set_option maxRecDepth 100000 in
theorem sp_X6_kind (d : Nat) (hd : 0 ≤ d) (h : HH) : Sp mi_X6_kind d iI [.ref 24] h (g_X6_kind h) := by
  refine sp_of (lc := [(0, .ref 24)]) (by decide) (Nat.le_of_ble_eq_true rfl) rfl ?_
  unfold g_X6_kind
  refine sx_aload_n d_X6_kind_0 0 rfl ?_
  refine sx_getI fl_StairCount_Reader_36 sh_24 rfl d_X6_kind_1 (fun v1 => ?_)
  refine sx_aload_n d_X6_kind_4 0 rfl ?_
  refine sx_getF (a' := 25) fl_StairCount_Reader_12 sh_24 rfl rfl d_X6_kind_5 ?_
  refine sx_getI fl_StairCount_Reader_59 sh_25 rfl d_X6_kind_8 (fun v2 => ?_)
  refine sx_icmp_ge d_X6_kind_11 ?_ ?_
  · refine sx_aload_n d_X6_kind_14 0 rfl ?_
    refine sx_getF (a' := 25) fl_StairCount_Reader_12 sh_24 rfl rfl d_X6_kind_15 ?_
    refine sx_getF (a' := 26) fl_StairCount_Reader_69 sh_25 rfl rfl d_X6_kind_18 ?_
    refine sx_aload_n d_X6_kind_21 0 rfl ?_
    refine sx_getI fl_StairCount_Reader_36 sh_24 rfl d_X6_kind_22 (fun v3 => ?_)
    refine sx_iald sh_26 d_X6_kind_25 (fun v4 => ?_)
    refine sx_goto d_X6_kind_26 ?_
    exact sx_iret rfl d_X6_kind_30
  · refine sx_iconst d_X6_kind_29 ic0 ?_
    exact sx_iret rfl d_X6_kind_30
theorem d_X6_advance_0 : DC mi_X6_advance 0 (.aload_n 0) 1 1 := ⟨by decide +kernel, rfl⟩
theorem d_X6_advance_1 : DC mi_X6_advance 1 (.getfield 36) 3 4 := ⟨by decide +kernel, rfl⟩
theorem d_X6_advance_4 : DC mi_X6_advance 4 (.aload_n 0) 1 5 := ⟨by decide +kernel, rfl⟩
theorem d_X6_advance_5 : DC mi_X6_advance 5 (.getfield 12) 3 8 := ⟨by decide +kernel, rfl⟩
theorem d_X6_advance_8 : DC mi_X6_advance 8 (.getfield 59) 3 11 := ⟨by decide +kernel, rfl⟩
theorem d_X6_advance_11 : DB mi_X6_advance 11 (.if_icmp .ge 13) 13 14 24 := ⟨by decide +kernel, rfl, by decide⟩
theorem d_X6_advance_14 : DC mi_X6_advance 14 (.aload_n 0) 1 15 := ⟨by decide +kernel, rfl⟩
theorem d_X6_advance_15 : DC mi_X6_advance 15 (.dup) 1 16 := ⟨by decide +kernel, rfl⟩
theorem d_X6_advance_16 : DC mi_X6_advance 16 (.getfield 36) 3 19 := ⟨by decide +kernel, rfl⟩
theorem d_X6_advance_19 : DC mi_X6_advance 19 (.iconst 1) 1 20 := ⟨by decide +kernel, rfl⟩
theorem d_X6_advance_20 : DC mi_X6_advance 20 (.iadd) 1 21 := ⟨by decide +kernel, rfl⟩
theorem d_X6_advance_21 : DC mi_X6_advance 21 (.putfield 36) 3 24 := ⟨by decide +kernel, rfl⟩
theorem d_X6_advance_24 : DC mi_X6_advance 24 (.return_) 1 25 := ⟨by decide +kernel, rfl⟩
set_option maxHeartbeats 4000000 in
set_option maxRecDepth 100000 in
theorem sp_X6_advance (d : Nat) (hd : 0 ≤ d) (h : HH) : Sp mi_X6_advance d iU [.ref 24] h (g_X6_advance h) := by
  refine sp_of (lc := [(0, .ref 24)]) (by decide) (Nat.le_of_ble_eq_true rfl) rfl ?_
  unfold g_X6_advance
  refine sx_aload_n d_X6_advance_0 0 rfl ?_
  refine sx_getI fl_StairCount_Reader_36 sh_24 rfl d_X6_advance_1 (fun v1 => ?_)
  refine sx_aload_n d_X6_advance_4 0 rfl ?_
  refine sx_getF (a' := 25) fl_StairCount_Reader_12 sh_24 rfl rfl d_X6_advance_5 ?_
  refine sx_getI fl_StairCount_Reader_59 sh_25 rfl d_X6_advance_8 (fun v2 => ?_)
  refine sx_icmp_ge d_X6_advance_11 ?_ ?_
  · refine sx_aload_n d_X6_advance_14 0 rfl ?_
    refine sx_dup d_X6_advance_15 rfl ?_
    refine sx_getI fl_StairCount_Reader_36 sh_24 rfl d_X6_advance_16 (fun v3 => ?_)
    refine sx_iconst d_X6_advance_19 ic1 ?_
    refine sx_iadd d_X6_advance_20 ?_
    refine sx_putI fl_StairCount_Reader_36 sh_24 rfl hty_6_3 d_X6_advance_21 (fun h4 => ?_)
    exact sx_vret rfl d_X6_advance_24
  · exact sx_vret rfl d_X6_advance_24
theorem d_X6_fail_0 : DC mi_X6_fail 0 (.aload_n 0) 1 1 := ⟨by decide +kernel, rfl⟩
theorem d_X6_fail_1 : DC mi_X6_fail 1 (.getfield 40) 3 4 := ⟨by decide +kernel, rfl⟩
theorem d_X6_fail_4 : DB mi_X6_fail 4 (.ifCond .ne 42) 42 7 46 := ⟨by decide +kernel, rfl, by decide⟩
theorem d_X6_fail_7 : DC mi_X6_fail 7 (.aload_n 0) 1 8 := ⟨by decide +kernel, rfl⟩
theorem d_X6_fail_8 : DC mi_X6_fail 8 (.iload_n 1) 1 9 := ⟨by decide +kernel, rfl⟩
theorem d_X6_fail_9 : DC mi_X6_fail 9 (.putfield 40) 3 12 := ⟨by decide +kernel, rfl⟩
theorem d_X6_fail_12 : DC mi_X6_fail 12 (.aload_n 0) 1 13 := ⟨by decide +kernel, rfl⟩
theorem d_X6_fail_13 : DC mi_X6_fail 13 (.aload_n 0) 1 14 := ⟨by decide +kernel, rfl⟩
theorem d_X6_fail_14 : DC mi_X6_fail 14 (.getfield 36) 3 17 := ⟨by decide +kernel, rfl⟩
theorem d_X6_fail_17 : DC mi_X6_fail 17 (.aload_n 0) 1 18 := ⟨by decide +kernel, rfl⟩
theorem d_X6_fail_18 : DC mi_X6_fail 18 (.getfield 12) 3 21 := ⟨by decide +kernel, rfl⟩
theorem d_X6_fail_21 : DC mi_X6_fail 21 (.getfield 59) 3 24 := ⟨by decide +kernel, rfl⟩
theorem d_X6_fail_24 : DB mi_X6_fail 24 (.if_icmp .ge 18) 18 27 42 := ⟨by decide +kernel, rfl, by decide⟩
theorem d_X6_fail_27 : DC mi_X6_fail 27 (.aload_n 0) 1 28 := ⟨by decide +kernel, rfl⟩
theorem d_X6_fail_28 : DC mi_X6_fail 28 (.getfield 12) 3 31 := ⟨by decide +kernel, rfl⟩
theorem d_X6_fail_31 : DC mi_X6_fail 31 (.getfield 75) 3 34 := ⟨by decide +kernel, rfl⟩
theorem d_X6_fail_34 : DC mi_X6_fail 34 (.aload_n 0) 1 35 := ⟨by decide +kernel, rfl⟩
theorem d_X6_fail_35 : DC mi_X6_fail 35 (.getfield 36) 3 38 := ⟨by decide +kernel, rfl⟩
theorem d_X6_fail_38 : DC mi_X6_fail 38 (.iaload) 1 39 := ⟨by decide +kernel, rfl⟩
theorem d_X6_fail_39 : DB mi_X6_fail 39 (.goto 4) 4 42 43 := ⟨by decide +kernel, rfl, by decide⟩
theorem d_X6_fail_42 : DC mi_X6_fail 42 (.iconst 0) 1 43 := ⟨by decide +kernel, rfl⟩
theorem d_X6_fail_43 : DC mi_X6_fail 43 (.putfield 43) 3 46 := ⟨by decide +kernel, rfl⟩
theorem d_X6_fail_46 : DC mi_X6_fail 46 (.return_) 1 47 := ⟨by decide +kernel, rfl⟩
set_option maxHeartbeats 4000000 in
set_option maxRecDepth 100000 in
theorem sp_X6_fail (d : Nat) (hd : 0 ≤ d) (a0 : Int32) (h : HH) : Sp mi_X6_fail d iU [.ref 24, .int a0] h (g_X6_fail a0 h) := by
  refine sp_of (lc := [(0, .ref 24), (1, .int a0)]) (by decide) (Nat.le_of_ble_eq_true rfl) rfl ?_
  unfold g_X6_fail
  refine sx_aload_n d_X6_fail_0 0 rfl ?_
  refine sx_getI fl_StairCount_Reader_40 sh_24 rfl d_X6_fail_1 (fun v1 => ?_)
  refine sx_if_ne d_X6_fail_4 ?_ ?_
  · refine sx_aload_n d_X6_fail_7 0 rfl ?_
    refine sx_iload_n d_X6_fail_8 1 rfl ?_
    refine sx_putI fl_StairCount_Reader_40 sh_24 rfl hty_6_4 d_X6_fail_9 (fun h2 => ?_)
    refine sx_aload_n d_X6_fail_12 0 rfl ?_
    refine sx_aload_n d_X6_fail_13 0 rfl ?_
    refine sx_getI fl_StairCount_Reader_36 sh_24 rfl d_X6_fail_14 (fun v3 => ?_)
    refine sx_aload_n d_X6_fail_17 0 rfl ?_
    refine sx_getF (a' := 25) fl_StairCount_Reader_12 sh_24 rfl rfl d_X6_fail_18 ?_
    refine sx_getI fl_StairCount_Reader_59 sh_25 rfl d_X6_fail_21 (fun v4 => ?_)
    refine sx_jn (fun j => ∀ (y8 : Int32) (h : HH), Sx mi_X6_fail d iU (j y8 h) 43 [] [.int y8, .ref 24] h) ?_ ?_
    · intro y8 h7
      refine sx_putI fl_StairCount_Reader_43 sh_24 rfl hty_6_5 d_X6_fail_43 (fun h9 => ?_)
      exact sx_vret rfl d_X6_fail_46
    · intro j5 k6
      refine sx_icmp_ge d_X6_fail_24 ?_ ?_
      · refine sx_aload_n d_X6_fail_27 0 rfl ?_
        refine sx_getF (a' := 25) fl_StairCount_Reader_12 sh_24 rfl rfl d_X6_fail_28 ?_
        refine sx_getF (a' := 27) fl_StairCount_Reader_75 sh_25 rfl rfl d_X6_fail_31 ?_
        refine sx_aload_n d_X6_fail_34 0 rfl ?_
        refine sx_getI fl_StairCount_Reader_36 sh_24 rfl d_X6_fail_35 (fun v10 => ?_)
        refine sx_iald sh_27 d_X6_fail_38 (fun v11 => ?_)
        refine sx_goto d_X6_fail_39 ?_
        refine sx_lc (lc' := []) [] rfl ?_
        exact k6 v11 h2
      · refine sx_iconst d_X6_fail_42 ic0 ?_
        refine sx_lc (lc' := []) [] rfl ?_
        exact k6 (0 : Int32) h2
  · exact sx_vret rfl d_X6_fail_46
theorem d_X6_value_0 : DC mi_X6_value 0 (.aload_n 0) 1 1 := ⟨by decide +kernel, rfl⟩
theorem d_X6_value_1 : DC mi_X6_value 1 (.getfield 36) 3 4 := ⟨by decide +kernel, rfl⟩
theorem d_X6_value_4 : DC mi_X6_value 4 (.aload_n 0) 1 5 := ⟨by decide +kernel, rfl⟩
theorem d_X6_value_5 : DC mi_X6_value 5 (.getfield 12) 3 8 := ⟨by decide +kernel, rfl⟩
theorem d_X6_value_8 : DC mi_X6_value 8 (.getfield 59) 3 11 := ⟨by decide +kernel, rfl⟩
theorem d_X6_value_11 : DB mi_X6_value 11 (.if_icmp .ge 18) 18 14 29 := ⟨by decide +kernel, rfl, by decide⟩
theorem d_X6_value_14 : DC mi_X6_value 14 (.aload_n 0) 1 15 := ⟨by decide +kernel, rfl⟩
theorem d_X6_value_15 : DC mi_X6_value 15 (.getfield 12) 3 18 := ⟨by decide +kernel, rfl⟩
theorem d_X6_value_18 : DC mi_X6_value 18 (.getfield 72) 3 21 := ⟨by decide +kernel, rfl⟩
theorem d_X6_value_21 : DC mi_X6_value 21 (.aload_n 0) 1 22 := ⟨by decide +kernel, rfl⟩
theorem d_X6_value_22 : DC mi_X6_value 22 (.getfield 36) 3 25 := ⟨by decide +kernel, rfl⟩
theorem d_X6_value_25 : DC mi_X6_value 25 (.iaload) 1 26 := ⟨by decide +kernel, rfl⟩
theorem d_X6_value_26 : DB mi_X6_value 26 (.goto 4) 4 29 30 := ⟨by decide +kernel, rfl, by decide⟩
theorem d_X6_value_29 : DC mi_X6_value 29 (.iconst 0) 1 30 := ⟨by decide +kernel, rfl⟩
theorem d_X6_value_30 : DC mi_X6_value 30 (.ireturn) 1 31 := ⟨by decide +kernel, rfl⟩
set_option maxHeartbeats 4000000 in
set_option maxRecDepth 100000 in
theorem sp_X6_value (d : Nat) (hd : 0 ≤ d) (h : HH) : Sp mi_X6_value d iI [.ref 24] h (g_X6_value h) := by
  refine sp_of (lc := [(0, .ref 24)]) (by decide) (Nat.le_of_ble_eq_true rfl) rfl ?_
  unfold g_X6_value
  refine sx_aload_n d_X6_value_0 0 rfl ?_
  refine sx_getI fl_StairCount_Reader_36 sh_24 rfl d_X6_value_1 (fun v1 => ?_)
  refine sx_aload_n d_X6_value_4 0 rfl ?_
  refine sx_getF (a' := 25) fl_StairCount_Reader_12 sh_24 rfl rfl d_X6_value_5 ?_
  refine sx_getI fl_StairCount_Reader_59 sh_25 rfl d_X6_value_8 (fun v2 => ?_)
  refine sx_icmp_ge d_X6_value_11 ?_ ?_
  · refine sx_aload_n d_X6_value_14 0 rfl ?_
    refine sx_getF (a' := 25) fl_StairCount_Reader_12 sh_24 rfl rfl d_X6_value_15 ?_
    refine sx_getF (a' := 28) fl_StairCount_Reader_72 sh_25 rfl rfl d_X6_value_18 ?_
    refine sx_aload_n d_X6_value_21 0 rfl ?_
    refine sx_getI fl_StairCount_Reader_36 sh_24 rfl d_X6_value_22 (fun v3 => ?_)
    refine sx_iald sh_28 d_X6_value_25 (fun v4 => ?_)
    refine sx_goto d_X6_value_26 ?_
    exact sx_iret rfl d_X6_value_30
  · refine sx_iconst d_X6_value_29 ic0 ?_
    exact sx_iret rfl d_X6_value_30
theorem d_X6_look_0 : DC mi_X6_look 0 (.aload_n 0) 1 1 := ⟨by decide +kernel, rfl⟩
theorem d_X6_look_1 : DC mi_X6_look 1 (.getfield 40) 3 4 := ⟨by decide +kernel, rfl⟩
theorem d_X6_look_4 : DB mi_X6_look 4 (.ifCond .eq 5) 5 7 9 := ⟨by decide +kernel, rfl, by decide⟩
theorem d_X6_look_7 : DC mi_X6_look 7 (.iload_n 1) 1 8 := ⟨by decide +kernel, rfl⟩
theorem d_X6_look_8 : DC mi_X6_look 8 (.ireturn) 1 9 := ⟨by decide +kernel, rfl⟩
theorem d_X6_look_9 : DC mi_X6_look 9 (.aload_n 0) 1 10 := ⟨by decide +kernel, rfl⟩
theorem d_X6_look_10 : DC mi_X6_look 10 (.invokevirtual 62) 3 13 := ⟨by decide +kernel, rfl⟩
theorem d_X6_look_13 : DC mi_X6_look 13 (.iconst 2) 1 14 := ⟨by decide +kernel, rfl⟩
theorem d_X6_look_14 : DB mi_X6_look 14 (.if_icmp .eq 10) 10 17 24 := ⟨by decide +kernel, rfl, by decide⟩
theorem d_X6_look_17 : DC mi_X6_look 17 (.aload_n 0) 1 18 := ⟨by decide +kernel, rfl⟩
theorem d_X6_look_18 : DC mi_X6_look 18 (.iconst 1) 1 19 := ⟨by decide +kernel, rfl⟩
theorem d_X6_look_19 : DC mi_X6_look 19 (.invokevirtual 103) 3 22 := ⟨by decide +kernel, rfl⟩
theorem d_X6_look_22 : DC mi_X6_look 22 (.iload_n 1) 1 23 := ⟨by decide +kernel, rfl⟩
theorem d_X6_look_23 : DC mi_X6_look 23 (.ireturn) 1 24 := ⟨by decide +kernel, rfl⟩
theorem d_X6_look_24 : DC mi_X6_look 24 (.aload_n 0) 1 25 := ⟨by decide +kernel, rfl⟩
theorem d_X6_look_25 : DC mi_X6_look 25 (.invokevirtual 109) 3 28 := ⟨by decide +kernel, rfl⟩
theorem d_X6_look_28 : DC mi_X6_look 28 (.iload_n 1) 1 29 := ⟨by decide +kernel, rfl⟩
theorem d_X6_look_29 : DB mi_X6_look 29 (.if_icmp .lt 11) 11 32 40 := ⟨by decide +kernel, rfl, by decide⟩
theorem d_X6_look_32 : DC mi_X6_look 32 (.aload_n 0) 1 33 := ⟨by decide +kernel, rfl⟩
theorem d_X6_look_33 : DC mi_X6_look 33 (.invokevirtual 109) 3 36 := ⟨by decide +kernel, rfl⟩
theorem d_X6_look_36 : DC mi_X6_look 36 (.iload_n 2) 1 37 := ⟨by decide +kernel, rfl⟩
theorem d_X6_look_37 : DB mi_X6_look 37 (.if_icmp .le 10) 10 40 47 := ⟨by decide +kernel, rfl, by decide⟩
theorem d_X6_look_40 : DC mi_X6_look 40 (.aload_n 0) 1 41 := ⟨by decide +kernel, rfl⟩
theorem d_X6_look_41 : DC mi_X6_look 41 (.iconst 2) 1 42 := ⟨by decide +kernel, rfl⟩
theorem d_X6_look_42 : DC mi_X6_look 42 (.invokevirtual 103) 3 45 := ⟨by decide +kernel, rfl⟩
theorem d_X6_look_45 : DC mi_X6_look 45 (.iload_n 1) 1 46 := ⟨by decide +kernel, rfl⟩
theorem d_X6_look_46 : DC mi_X6_look 46 (.ireturn) 1 47 := ⟨by decide +kernel, rfl⟩
theorem d_X6_look_47 : DC mi_X6_look 47 (.aload_n 0) 1 48 := ⟨by decide +kernel, rfl⟩
theorem d_X6_look_48 : DC mi_X6_look 48 (.invokevirtual 109) 3 51 := ⟨by decide +kernel, rfl⟩
theorem d_X6_look_51 : DC mi_X6_look 51 (.ireturn) 1 52 := ⟨by decide +kernel, rfl⟩
set_option maxHeartbeats 4000000 in
set_option maxRecDepth 100000 in
theorem sp_X6_look (d : Nat) (hd : 1 ≤ d) (a0 : Int32) (a1 : Int32) (h : HH) : Sp mi_X6_look d iI [.ref 24, .int a0, .int a1] h (g_X6_look a0 a1 h) := by
  refine sp_of (lc := [(0, .ref 24), (1, .int a0), (2, .int a1)]) (by decide) (Nat.le_of_ble_eq_true rfl) rfl ?_
  unfold g_X6_look
  refine sx_aload_n d_X6_look_0 0 rfl ?_
  refine sx_getI fl_StairCount_Reader_40 sh_24 rfl d_X6_look_1 (fun v1 => ?_)
  refine sx_if_eq d_X6_look_4 ?_ ?_
  · refine sx_aload_n d_X6_look_9 0 rfl ?_
    refine sx_callV [] mv_X6_kind lM_StairCount_Reader_62 sh_24 (by omega) rfl rfl (Nat.le_of_ble_eq_true rfl) d_X6_look_10 (sp_X6_kind (d - 1) (by omega) h) (fun r3 h2 => ?_)
    refine sx_iconst d_X6_look_13 ic2 ?_
    refine sx_icmp_eq d_X6_look_14 ?_ ?_
    · refine sx_aload_n d_X6_look_24 0 rfl ?_
      refine sx_callV [] mv_X6_value lM_StairCount_Reader_109 sh_24 (by omega) rfl rfl (Nat.le_of_ble_eq_true rfl) d_X6_look_25 (sp_X6_value (d - 1) (by omega) h2) (fun r5 h4 => ?_)
      refine sx_iload_n d_X6_look_28 1 rfl ?_
      refine sx_jn (fun j => ∀  (h : HH), Sx mi_X6_look d iI (j  h) 40 [(0, .ref 24), (1, .int a0)] [] h) ?_ ?_
      · intro  h8
        refine sx_aload_n d_X6_look_40 0 rfl ?_
        refine sx_iconst d_X6_look_41 ic2 ?_
        refine sx_callV [.int (2 : Int32)] mv_X6_fail lM_StairCount_Reader_103 sh_24 (by omega) rfl rfl (Nat.le_of_ble_eq_true rfl) d_X6_look_42 (sp_X6_fail (d - 1) (by omega) (2 : Int32) h8) (fun _ h9 => ?_)
        refine sx_iload_n d_X6_look_45 1 rfl ?_
        exact sx_iret rfl d_X6_look_46
      · intro j6 k7
        refine sx_icmp_lt d_X6_look_29 ?_ ?_
        · refine sx_lc (lc' := [(0, .ref 24), (1, .int a0)]) [0, 1] rfl ?_
          exact k7 h4
        · refine sx_aload_n d_X6_look_32 0 rfl ?_
          refine sx_callV [] mv_X6_value lM_StairCount_Reader_109 sh_24 (by omega) rfl rfl (Nat.le_of_ble_eq_true rfl) d_X6_look_33 (sp_X6_value (d - 1) (by omega) h4) (fun r12 h11 => ?_)
          refine sx_iload_n d_X6_look_36 2 rfl ?_
          refine sx_icmp_le d_X6_look_37 ?_ ?_
          · refine sx_lc (lc' := [(0, .ref 24), (1, .int a0)]) [0, 1] rfl ?_
            exact k7 h11
          · refine sx_aload_n d_X6_look_47 0 rfl ?_
            refine sx_callV [] mv_X6_value lM_StairCount_Reader_109 sh_24 (by omega) rfl rfl (Nat.le_of_ble_eq_true rfl) d_X6_look_48 (sp_X6_value (d - 1) (by omega) h11) (fun r14 h13 => ?_)
            exact sx_iret rfl d_X6_look_51
    · refine sx_aload_n d_X6_look_17 0 rfl ?_
      refine sx_iconst d_X6_look_18 ic1 ?_
      refine sx_callV [.int (1 : Int32)] mv_X6_fail lM_StairCount_Reader_103 sh_24 (by omega) rfl rfl (Nat.le_of_ble_eq_true rfl) d_X6_look_19 (sp_X6_fail (d - 1) (by omega) (1 : Int32) h2) (fun _ h15 => ?_)
      refine sx_iload_n d_X6_look_22 1 rfl ?_
      exact sx_iret rfl d_X6_look_23
  · refine sx_iload_n d_X6_look_7 1 rfl ?_
    exact sx_iret rfl d_X6_look_8
theorem d_X6_number_0 : DC mi_X6_number 0 (.aload_n 0) 1 1 := ⟨by decide +kernel, rfl⟩
theorem d_X6_number_1 : DC mi_X6_number 1 (.iload_n 1) 1 2 := ⟨by decide +kernel, rfl⟩
theorem d_X6_number_2 : DC mi_X6_number 2 (.iload_n 2) 1 3 := ⟨by decide +kernel, rfl⟩
theorem d_X6_number_3 : DC mi_X6_number 3 (.invokevirtual 112) 3 6 := ⟨by decide +kernel, rfl⟩
theorem d_X6_number_6 : DC mi_X6_number 6 (.istore_n 3) 1 7 := ⟨by decide +kernel, rfl⟩
theorem d_X6_number_7 : DC mi_X6_number 7 (.aload_n 0) 1 8 := ⟨by decide +kernel, rfl⟩
theorem d_X6_number_8 : DC mi_X6_number 8 (.invokevirtual 106) 3 11 := ⟨by decide +kernel, rfl⟩
theorem d_X6_number_11 : DC mi_X6_number 11 (.iload_n 3) 1 12 := ⟨by decide +kernel, rfl⟩
theorem d_X6_number_12 : DC mi_X6_number 12 (.ireturn) 1 13 := ⟨by decide +kernel, rfl⟩
set_option maxHeartbeats 4000000 in
set_option maxRecDepth 100000 in
theorem sp_X6_number (d : Nat) (hd : 2 ≤ d) (a0 : Int32) (a1 : Int32) (h : HH) : Sp mi_X6_number d iI [.ref 24, .int a0, .int a1] h (g_X6_number a0 a1 h) := by
  refine sp_of (lc := [(0, .ref 24), (1, .int a0), (2, .int a1)]) (by decide) (Nat.le_of_ble_eq_true rfl) rfl ?_
  unfold g_X6_number
  refine sx_aload_n d_X6_number_0 0 rfl ?_
  refine sx_iload_n d_X6_number_1 1 rfl ?_
  refine sx_iload_n d_X6_number_2 2 rfl ?_
  refine sx_callV [.int a0, .int a1] mv_X6_look lM_StairCount_Reader_112 sh_24 (by omega) rfl rfl (Nat.le_of_ble_eq_true rfl) d_X6_number_3 (sp_X6_look (d - 1) (by omega) a0 a1 h) (fun r2 h1 => ?_)
  refine sx_istore_n (i := 3) (lc' := [(3, .int r2), (0, .ref 24), (1, .int a0), (2, .int a1)]) d_X6_number_6 rfl (by decide) rfl ?_
  refine sx_aload_n d_X6_number_7 1 rfl ?_
  refine sx_callV [] mv_X6_advance lM_StairCount_Reader_106 sh_24 (by omega) rfl rfl (Nat.le_of_ble_eq_true rfl) d_X6_number_8 (sp_X6_advance (d - 1) (by omega) h1) (fun _ h3 => ?_)
  refine sx_iload_n d_X6_number_11 0 rfl ?_
  exact sx_iret rfl d_X6_number_12
theorem d_X6_takeWord_0 : DC mi_X6_takeWord 0 (.iload_n 1) 1 1 := ⟨by decide +kernel, rfl⟩
theorem d_X6_takeWord_1 : DC mi_X6_takeWord 1 (.iload_n 2) 1 2 := ⟨by decide +kernel, rfl⟩
theorem d_X6_takeWord_2 : DB mi_X6_takeWord 2 (.if_icmp .lt 8) 8 5 10 := ⟨by decide +kernel, rfl, by decide⟩
theorem d_X6_takeWord_5 : DC mi_X6_takeWord 5 (.aload_n 0) 1 6 := ⟨by decide +kernel, rfl⟩
theorem d_X6_takeWord_6 : DC mi_X6_takeWord 6 (.iconst 2) 1 7 := ⟨by decide +kernel, rfl⟩
theorem d_X6_takeWord_7 : DC mi_X6_takeWord 7 (.invokevirtual 103) 3 10 := ⟨by decide +kernel, rfl⟩
theorem d_X6_takeWord_10 : DC mi_X6_takeWord 10 (.aload_n 0) 1 11 := ⟨by decide +kernel, rfl⟩
theorem d_X6_takeWord_11 : DC mi_X6_takeWord 11 (.invokevirtual 106) 3 14 := ⟨by decide +kernel, rfl⟩
theorem d_X6_takeWord_14 : DC mi_X6_takeWord 14 (.return_) 1 15 := ⟨by decide +kernel, rfl⟩
set_option maxHeartbeats 4000000 in
set_option maxRecDepth 100000 in
theorem sp_X6_takeWord (d : Nat) (hd : 1 ≤ d) (a0 : Int32) (a1 : Int32) (h : HH) : Sp mi_X6_takeWord d iU [.ref 24, .int a0, .int a1] h (g_X6_takeWord a0 a1 h) := by
  refine sp_of (lc := [(0, .ref 24), (1, .int a0), (2, .int a1)]) (by decide) (Nat.le_of_ble_eq_true rfl) rfl ?_
  unfold g_X6_takeWord
  refine sx_iload_n d_X6_takeWord_0 1 rfl ?_
  refine sx_iload_n d_X6_takeWord_1 2 rfl ?_
  refine sx_jn (fun j => ∀  (h : HH), Sx mi_X6_takeWord d iU (j  h) 10 [(0, .ref 24)] [] h) ?_ ?_
  · intro  h3
    refine sx_aload_n d_X6_takeWord_10 0 rfl ?_
    refine sx_callV [] mv_X6_advance lM_StairCount_Reader_106 sh_24 (by omega) rfl rfl (Nat.le_of_ble_eq_true rfl) d_X6_takeWord_11 (sp_X6_advance (d - 1) (by omega) h3) (fun _ h4 => ?_)
    exact sx_vret rfl d_X6_takeWord_14
  · intro j1 k2
    refine sx_icmp_lt d_X6_takeWord_2 ?_ ?_
    · refine sx_lc (lc' := [(0, .ref 24)]) [0] rfl ?_
      exact k2 h
    · refine sx_aload_n d_X6_takeWord_5 0 rfl ?_
      refine sx_iconst d_X6_takeWord_6 ic2 ?_
      refine sx_callV [.int (2 : Int32)] mv_X6_fail lM_StairCount_Reader_103 sh_24 (by omega) rfl rfl (Nat.le_of_ble_eq_true rfl) d_X6_takeWord_7 (sp_X6_fail (d - 1) (by omega) (2 : Int32) h) (fun _ h6 => ?_)
      refine sx_lc (lc' := [(0, .ref 24)]) [0] rfl ?_
      exact k2 h6
theorem d_X6_readFlight_0 : DC mi_X6_readFlight 0 (.aload_n 0) 1 1 := ⟨by decide +kernel, rfl⟩
theorem d_X6_readFlight_1 : DC mi_X6_readFlight 1 (.getfield 46) 3 4 := ⟨by decide +kernel, rfl⟩
theorem d_X6_readFlight_4 : DB mi_X6_readFlight 4 (.ifCond .eq 8) 8 7 12 := ⟨by decide +kernel, rfl, by decide⟩
theorem d_X6_readFlight_7 : DC mi_X6_readFlight 7 (.aload_n 0) 1 8 := ⟨by decide +kernel, rfl⟩
theorem d_X6_readFlight_8 : DC mi_X6_readFlight 8 (.iconst 1) 1 9 := ⟨by decide +kernel, rfl⟩
theorem d_X6_readFlight_9 : DC mi_X6_readFlight 9 (.invokevirtual 103) 3 12 := ⟨by decide +kernel, rfl⟩
theorem d_X6_readFlight_12 : DC mi_X6_readFlight 12 (.aload_n 0) 1 13 := ⟨by decide +kernel, rfl⟩
theorem d_X6_readFlight_13 : DC mi_X6_readFlight 13 (.aload_n 0) 1 14 := ⟨by decide +kernel, rfl⟩
theorem d_X6_readFlight_14 : DC mi_X6_readFlight 14 (.getfield 25) 3 17 := ⟨by decide +kernel, rfl⟩
theorem d_X6_readFlight_17 : DC mi_X6_readFlight 17 (.getfield 120) 3 20 := ⟨by decide +kernel, rfl⟩
theorem d_X6_readFlight_20 : DC mi_X6_readFlight 20 (.bipush 6) 2 22 := ⟨by decide +kernel, rfl⟩
theorem d_X6_readFlight_22 : DC mi_X6_readFlight 22 (.invokevirtual 123) 3 25 := ⟨by decide +kernel, rfl⟩
theorem d_X6_readFlight_25 : DC mi_X6_readFlight 25 (.aload_n 0) 1 26 := ⟨by decide +kernel, rfl⟩
theorem d_X6_readFlight_26 : DC mi_X6_readFlight 26 (.iconst 1) 1 27 := ⟨by decide +kernel, rfl⟩
theorem d_X6_readFlight_27 : DC mi_X6_readFlight 27 (.bipush 20) 2 29 := ⟨by decide +kernel, rfl⟩
theorem d_X6_readFlight_29 : DC mi_X6_readFlight 29 (.invokevirtual 127) 3 32 := ⟨by decide +kernel, rfl⟩
theorem d_X6_readFlight_32 : DC mi_X6_readFlight 32 (.istore_n 1) 1 33 := ⟨by decide +kernel, rfl⟩
theorem d_X6_readFlight_33 : DC mi_X6_readFlight 33 (.aload_n 0) 1 34 := ⟨by decide +kernel, rfl⟩
theorem d_X6_readFlight_34 : DC mi_X6_readFlight 34 (.getfield 40) 3 37 := ⟨by decide +kernel, rfl⟩
theorem d_X6_readFlight_37 : DB mi_X6_readFlight 37 (.ifCond .ne 32) 32 40 69 := ⟨by decide +kernel, rfl, by decide⟩
theorem d_X6_readFlight_40 : DC mi_X6_readFlight 40 (.aload_n 0) 1 41 := ⟨by decide +kernel, rfl⟩
theorem d_X6_readFlight_41 : DC mi_X6_readFlight 41 (.getfield 25) 3 44 := ⟨by decide +kernel, rfl⟩
theorem d_X6_readFlight_44 : DC mi_X6_readFlight 44 (.getfield 130) 3 47 := ⟨by decide +kernel, rfl⟩
theorem d_X6_readFlight_47 : DC mi_X6_readFlight 47 (.aload_n 0) 1 48 := ⟨by decide +kernel, rfl⟩
theorem d_X6_readFlight_48 : DC mi_X6_readFlight 48 (.getfield 25) 3 51 := ⟨by decide +kernel, rfl⟩
theorem d_X6_readFlight_51 : DC mi_X6_readFlight 51 (.getfield 120) 3 54 := ⟨by decide +kernel, rfl⟩
theorem d_X6_readFlight_54 : DC mi_X6_readFlight 54 (.iload_n 1) 1 55 := ⟨by decide +kernel, rfl⟩
theorem d_X6_readFlight_55 : DC mi_X6_readFlight 55 (.iastore) 1 56 := ⟨by decide +kernel, rfl⟩
theorem d_X6_readFlight_56 : DC mi_X6_readFlight 56 (.aload_n 0) 1 57 := ⟨by decide +kernel, rfl⟩
theorem d_X6_readFlight_57 : DC mi_X6_readFlight 57 (.getfield 25) 3 60 := ⟨by decide +kernel, rfl⟩
theorem d_X6_readFlight_60 : DC mi_X6_readFlight 60 (.dup) 1 61 := ⟨by decide +kernel, rfl⟩
theorem d_X6_readFlight_61 : DC mi_X6_readFlight 61 (.getfield 120) 3 64 := ⟨by decide +kernel, rfl⟩
theorem d_X6_readFlight_64 : DC mi_X6_readFlight 64 (.iconst 1) 1 65 := ⟨by decide +kernel, rfl⟩
theorem d_X6_readFlight_65 : DC mi_X6_readFlight 65 (.iadd) 1 66 := ⟨by decide +kernel, rfl⟩
theorem d_X6_readFlight_66 : DC mi_X6_readFlight 66 (.putfield 120) 3 69 := ⟨by decide +kernel, rfl⟩
theorem d_X6_readFlight_69 : DC mi_X6_readFlight 69 (.return_) 1 70 := ⟨by decide +kernel, rfl⟩
set_option maxHeartbeats 4000000 in
set_option maxRecDepth 100000 in
theorem sp_X6_readFlight (d : Nat) (hd : 3 ≤ d) (h : HH) : Sp mi_X6_readFlight d iU [.ref 24] h (g_X6_readFlight h) := by
  refine sp_of (lc := [(0, .ref 24)]) (by decide) (Nat.le_of_ble_eq_true rfl) rfl ?_
  unfold g_X6_readFlight
  refine sx_aload_n d_X6_readFlight_0 0 rfl ?_
  refine sx_getI fl_StairCount_Reader_46 sh_24 rfl d_X6_readFlight_1 (fun v1 => ?_)
  refine sx_jn (fun j => ∀  (h : HH), Sx mi_X6_readFlight d iU (j  h) 12 [(0, .ref 24)] [] h) ?_ ?_
  · intro  h4
    refine sx_aload_n d_X6_readFlight_12 0 rfl ?_
    refine sx_aload_n d_X6_readFlight_13 0 rfl ?_
    refine sx_getR fl_StairCount_Reader_25 sh_24 rfl d_X6_readFlight_14 (fun p5 => ?_)
    refine sx_ckH (fun ep5 => ?_)
    refine sx_getI fl_StairCount_Reader_120 ep5 rfl d_X6_readFlight_17 (fun v6 => ?_)
    refine sx_bipush d_X6_readFlight_20 bc6 ?_
    refine sx_callV [.int v6, .int (6 : Int32)] mv_X6_takeWord lM_StairCount_Reader_123 sh_24 (by omega) rfl rfl (Nat.le_of_ble_eq_true rfl) d_X6_readFlight_22 (sp_X6_takeWord (d - 1) (by omega) v6 (6 : Int32) h4) (fun _ h7 => ?_)
    refine sx_aload_n d_X6_readFlight_25 0 rfl ?_
    refine sx_iconst d_X6_readFlight_26 ic1 ?_
    refine sx_bipush d_X6_readFlight_27 bc20 ?_
    refine sx_callV [.int (1 : Int32), .int (20 : Int32)] mv_X6_number lM_StairCount_Reader_127 sh_24 (by omega) rfl rfl (Nat.le_of_ble_eq_true rfl) d_X6_readFlight_29 (sp_X6_number (d - 1) (by omega) (1 : Int32) (20 : Int32) h7) (fun r10 h9 => ?_)
    refine sx_istore_n (i := 1) (lc' := [(1, .int r10), (0, .ref 24)]) d_X6_readFlight_32 rfl (by decide) rfl ?_
    refine sx_aload_n d_X6_readFlight_33 1 rfl ?_
    refine sx_getI fl_StairCount_Reader_40 sh_24 rfl d_X6_readFlight_34 (fun v11 => ?_)
    refine sx_if_ne d_X6_readFlight_37 ?_ ?_
    · refine sx_aload_n d_X6_readFlight_40 1 rfl ?_
      refine sx_getR fl_StairCount_Reader_25 sh_24 rfl d_X6_readFlight_41 (fun p12 => ?_)
      refine sx_ckH (fun ep12 => ?_)
      refine sx_getF (a' := (p12 + 1)) fl_StairCount_Reader_130 ep12 rfl rfl d_X6_readFlight_44 ?_
      refine sx_aload_n d_X6_readFlight_47 1 rfl ?_
      refine sx_getR fl_StairCount_Reader_25 sh_24 rfl d_X6_readFlight_48 (fun p13 => ?_)
      refine sx_ckH (fun ep13 => ?_)
      refine sx_getI fl_StairCount_Reader_120 ep13 rfl d_X6_readFlight_51 (fun v14 => ?_)
      refine sx_iload_n d_X6_readFlight_54 0 rfl ?_
      refine sx_iast (shf_5_1 ep12) d_X6_readFlight_55 (fun h15 => ?_)
      refine sx_aload_n d_X6_readFlight_56 1 rfl ?_
      refine sx_getR fl_StairCount_Reader_25 sh_24 rfl d_X6_readFlight_57 (fun p16 => ?_)
      refine sx_ckH (fun ep16 => ?_)
      refine sx_dup d_X6_readFlight_60 rfl ?_
      refine sx_getI fl_StairCount_Reader_120 ep16 rfl d_X6_readFlight_61 (fun v17 => ?_)
      refine sx_iconst d_X6_readFlight_64 ic1 ?_
      refine sx_iadd d_X6_readFlight_65 ?_
      refine sx_putI fl_StairCount_Reader_120 ep16 rfl hty_5_0 d_X6_readFlight_66 (fun h18 => ?_)
      exact sx_vret rfl d_X6_readFlight_69
    · exact sx_vret rfl d_X6_readFlight_69
  · intro j2 k3
    refine sx_if_eq d_X6_readFlight_4 ?_ ?_
    · exact k3 h
    · refine sx_aload_n d_X6_readFlight_7 0 rfl ?_
      refine sx_iconst d_X6_readFlight_8 ic1 ?_
      refine sx_callV [.int (1 : Int32)] mv_X6_fail lM_StairCount_Reader_103 sh_24 (by omega) rfl rfl (Nat.le_of_ble_eq_true rfl) d_X6_readFlight_9 (sp_X6_fail (d - 1) (by omega) (1 : Int32) h) (fun _ h19 => ?_)
      exact k3 h19
theorem d_X6_knownPerson_0 : DC mi_X6_knownPerson 0 (.aload_n 0) 1 1 := ⟨by decide +kernel, rfl⟩
theorem d_X6_knownPerson_1 : DC mi_X6_knownPerson 1 (.getfield 40) 3 4 := ⟨by decide +kernel, rfl⟩
theorem d_X6_knownPerson_4 : DB mi_X6_knownPerson 4 (.ifCond .eq 5) 5 7 9 := ⟨by decide +kernel, rfl, by decide⟩
theorem d_X6_knownPerson_7 : DC mi_X6_knownPerson 7 (.iconst (-1)) 1 8 := ⟨by decide +kernel, rfl⟩
theorem d_X6_knownPerson_8 : DC mi_X6_knownPerson 8 (.ireturn) 1 9 := ⟨by decide +kernel, rfl⟩
theorem d_X6_knownPerson_9 : DC mi_X6_knownPerson 9 (.aload_n 0) 1 10 := ⟨by decide +kernel, rfl⟩
theorem d_X6_knownPerson_10 : DC mi_X6_knownPerson 10 (.getfield 25) 3 13 := ⟨by decide +kernel, rfl⟩
theorem d_X6_knownPerson_13 : DC mi_X6_knownPerson 13 (.aload_n 0) 1 14 := ⟨by decide +kernel, rfl⟩
theorem d_X6_knownPerson_14 : DC mi_X6_knownPerson 14 (.invokevirtual 109) 3 17 := ⟨by decide +kernel, rfl⟩
theorem d_X6_knownPerson_17 : DC mi_X6_knownPerson 17 (.invokevirtual 116) 3 20 := ⟨by decide +kernel, rfl⟩
theorem d_X6_knownPerson_20 : DC mi_X6_knownPerson 20 (.istore_n 1) 1 21 := ⟨by decide +kernel, rfl⟩
theorem d_X6_knownPerson_21 : DC mi_X6_knownPerson 21 (.aload_n 0) 1 22 := ⟨by decide +kernel, rfl⟩
theorem d_X6_knownPerson_22 : DC mi_X6_knownPerson 22 (.invokevirtual 62) 3 25 := ⟨by decide +kernel, rfl⟩
theorem d_X6_knownPerson_25 : DC mi_X6_knownPerson 25 (.iconst 3) 1 26 := ⟨by decide +kernel, rfl⟩
theorem d_X6_knownPerson_26 : DB mi_X6_knownPerson 26 (.if_icmp .eq 11) 11 29 37 := ⟨by decide +kernel, rfl, by decide⟩
theorem d_X6_knownPerson_29 : DC mi_X6_knownPerson 29 (.aload_n 0) 1 30 := ⟨by decide +kernel, rfl⟩
theorem d_X6_knownPerson_30 : DC mi_X6_knownPerson 30 (.iconst 1) 1 31 := ⟨by decide +kernel, rfl⟩
theorem d_X6_knownPerson_31 : DC mi_X6_knownPerson 31 (.invokevirtual 103) 3 34 := ⟨by decide +kernel, rfl⟩
theorem d_X6_knownPerson_34 : DB mi_X6_knownPerson 34 (.goto 13) 13 37 47 := ⟨by decide +kernel, rfl, by decide⟩
theorem d_X6_knownPerson_37 : DC mi_X6_knownPerson 37 (.iload_n 1) 1 38 := ⟨by decide +kernel, rfl⟩
theorem d_X6_knownPerson_38 : DC mi_X6_knownPerson 38 (.iconst (-1)) 1 39 := ⟨by decide +kernel, rfl⟩
theorem d_X6_knownPerson_39 : DB mi_X6_knownPerson 39 (.if_icmp .ne 8) 8 42 47 := ⟨by decide +kernel, rfl, by decide⟩
theorem d_X6_knownPerson_42 : DC mi_X6_knownPerson 42 (.aload_n 0) 1 43 := ⟨by decide +kernel, rfl⟩
theorem d_X6_knownPerson_43 : DC mi_X6_knownPerson 43 (.iconst 4) 1 44 := ⟨by decide +kernel, rfl⟩
theorem d_X6_knownPerson_44 : DC mi_X6_knownPerson 44 (.invokevirtual 103) 3 47 := ⟨by decide +kernel, rfl⟩
theorem d_X6_knownPerson_47 : DC mi_X6_knownPerson 47 (.aload_n 0) 1 48 := ⟨by decide +kernel, rfl⟩
theorem d_X6_knownPerson_48 : DC mi_X6_knownPerson 48 (.invokevirtual 106) 3 51 := ⟨by decide +kernel, rfl⟩
theorem d_X6_knownPerson_51 : DC mi_X6_knownPerson 51 (.iload_n 1) 1 52 := ⟨by decide +kernel, rfl⟩
theorem d_X6_knownPerson_52 : DC mi_X6_knownPerson 52 (.ireturn) 1 53 := ⟨by decide +kernel, rfl⟩
set_option maxHeartbeats 4000000 in
set_option maxRecDepth 100000 in
theorem sp_X6_knownPerson (d : Nat) (hd : 1 ≤ d) (h : HH) : Sp mi_X6_knownPerson d iI [.ref 24] h (g_X6_knownPerson h) := by
  refine sp_of (lc := [(0, .ref 24)]) (by decide) (Nat.le_of_ble_eq_true rfl) rfl ?_
  unfold g_X6_knownPerson
  refine sx_aload_n d_X6_knownPerson_0 0 rfl ?_
  refine sx_getI fl_StairCount_Reader_40 sh_24 rfl d_X6_knownPerson_1 (fun v1 => ?_)
  refine sx_if_eq d_X6_knownPerson_4 ?_ ?_
  · refine sx_aload_n d_X6_knownPerson_9 0 rfl ?_
    refine sx_getR fl_StairCount_Reader_25 sh_24 rfl d_X6_knownPerson_10 (fun p2 => ?_)
    refine sx_ckH (fun ep2 => ?_)
    refine sx_aload_n d_X6_knownPerson_13 0 rfl ?_
    refine sx_callV [] mv_X6_value lM_StairCount_Reader_109 sh_24 (by omega) rfl rfl (Nat.le_of_ble_eq_true rfl) d_X6_knownPerson_14 (sp_X6_value (d - 1) (by omega) h) (fun r4 h3 => ?_)
    refine sx_callV [.int r4] mv_X5_personOf lM_StairCount_Reader_116 ep2 (by omega) rfl rfl (Nat.le_of_ble_eq_true rfl) d_X6_knownPerson_17 (sp_X5_personOf (d - 1) (by omega) p2 r4 h3) (fun r6 h5 => ?_)
    refine sx_istore_n (i := 1) (lc' := [(1, .int r6), (0, .ref 24)]) d_X6_knownPerson_20 rfl (by decide) rfl ?_
    refine sx_aload_n d_X6_knownPerson_21 1 rfl ?_
    refine sx_callV [] mv_X6_kind lM_StairCount_Reader_62 sh_24 (by omega) rfl rfl (Nat.le_of_ble_eq_true rfl) d_X6_knownPerson_22 (sp_X6_kind (d - 1) (by omega) h5) (fun r8 h7 => ?_)
    refine sx_iconst d_X6_knownPerson_25 ic3 ?_
    refine sx_jn (fun j => ∀  (h : HH), Sx mi_X6_knownPerson d iI (j  h) 47 [(0, .ref 24), (1, .int r6)] [] h) ?_ ?_
    · intro  h11
      refine sx_aload_n d_X6_knownPerson_47 0 rfl ?_
      refine sx_callV [] mv_X6_advance lM_StairCount_Reader_106 sh_24 (by omega) rfl rfl (Nat.le_of_ble_eq_true rfl) d_X6_knownPerson_48 (sp_X6_advance (d - 1) (by omega) h11) (fun _ h12 => ?_)
      refine sx_iload_n d_X6_knownPerson_51 1 rfl ?_
      exact sx_iret rfl d_X6_knownPerson_52
    · intro j9 k10
      refine sx_icmp_eq d_X6_knownPerson_26 ?_ ?_
      · refine sx_iload_n d_X6_knownPerson_37 0 rfl ?_
        refine sx_iconst d_X6_knownPerson_38 icm1 ?_
        refine sx_icmp_ne d_X6_knownPerson_39 ?_ ?_
        · refine sx_aload_n d_X6_knownPerson_42 1 rfl ?_
          refine sx_iconst d_X6_knownPerson_43 ic4 ?_
          refine sx_callV [.int (4 : Int32)] mv_X6_fail lM_StairCount_Reader_103 sh_24 (by omega) rfl rfl (Nat.le_of_ble_eq_true rfl) d_X6_knownPerson_44 (sp_X6_fail (d - 1) (by omega) (4 : Int32) h7) (fun _ h14 => ?_)
          refine sx_lc (lc' := [(0, .ref 24), (1, .int r6)]) [1, 0] rfl ?_
          exact k10 h14
        · refine sx_lc (lc' := [(0, .ref 24), (1, .int r6)]) [1, 0] rfl ?_
          exact k10 h7
      · refine sx_aload_n d_X6_knownPerson_29 1 rfl ?_
        refine sx_iconst d_X6_knownPerson_30 ic1 ?_
        refine sx_callV [.int (1 : Int32)] mv_X6_fail lM_StairCount_Reader_103 sh_24 (by omega) rfl rfl (Nat.le_of_ble_eq_true rfl) d_X6_knownPerson_31 (sp_X6_fail (d - 1) (by omega) (1 : Int32) h7) (fun _ h16 => ?_)
        refine sx_goto d_X6_knownPerson_34 ?_
        refine sx_lc (lc' := [(0, .ref 24), (1, .int r6)]) [1, 0] rfl ?_
        exact k10 h16
  · refine sx_iconst d_X6_knownPerson_7 icm1 ?_
    exact sx_iret rfl d_X6_knownPerson_8
theorem d_X6_readGoing_0 : DC mi_X6_readGoing 0 (.aload_n 0) 1 1 := ⟨by decide +kernel, rfl⟩
theorem d_X6_readGoing_1 : DC mi_X6_readGoing 1 (.aload_n 0) 1 2 := ⟨by decide +kernel, rfl⟩
theorem d_X6_readGoing_2 : DC mi_X6_readGoing 2 (.getfield 25) 3 5 := ⟨by decide +kernel, rfl⟩
theorem d_X6_readGoing_5 : DC mi_X6_readGoing 5 (.getfield 172) 3 8 := ⟨by decide +kernel, rfl⟩
theorem d_X6_readGoing_8 : DC mi_X6_readGoing 8 (.bipush 20) 2 10 := ⟨by decide +kernel, rfl⟩
theorem d_X6_readGoing_10 : DC mi_X6_readGoing 10 (.invokevirtual 123) 3 13 := ⟨by decide +kernel, rfl⟩
theorem d_X6_readGoing_13 : DC mi_X6_readGoing 13 (.aload_n 0) 1 14 := ⟨by decide +kernel, rfl⟩
theorem d_X6_readGoing_14 : DC mi_X6_readGoing 14 (.invokevirtual 151) 3 17 := ⟨by decide +kernel, rfl⟩
theorem d_X6_readGoing_17 : DC mi_X6_readGoing 17 (.istore_n 2) 1 18 := ⟨by decide +kernel, rfl⟩
theorem d_X6_readGoing_18 : DC mi_X6_readGoing 18 (.aload_n 0) 1 19 := ⟨by decide +kernel, rfl⟩
theorem d_X6_readGoing_19 : DC mi_X6_readGoing 19 (.iconst 0) 1 20 := ⟨by decide +kernel, rfl⟩
theorem d_X6_readGoing_20 : DC mi_X6_readGoing 20 (.bipush 99) 2 22 := ⟨by decide +kernel, rfl⟩
theorem d_X6_readGoing_22 : DC mi_X6_readGoing 22 (.invokevirtual 127) 3 25 := ⟨by decide +kernel, rfl⟩
theorem d_X6_readGoing_25 : DC mi_X6_readGoing 25 (.istore_n 3) 1 26 := ⟨by decide +kernel, rfl⟩
theorem d_X6_readGoing_26 : DC mi_X6_readGoing 26 (.iconst 0) 1 27 := ⟨by decide +kernel, rfl⟩
theorem d_X6_readGoing_27 : DC mi_X6_readGoing 27 (.istore 4) 2 29 := ⟨by decide +kernel, rfl⟩
theorem d_X6_readGoing_29 : DC mi_X6_readGoing 29 (.iload_n 1) 1 30 := ⟨by decide +kernel, rfl⟩
theorem d_X6_readGoing_30 : DC mi_X6_readGoing 30 (.bipush 22) 2 32 := ⟨by decide +kernel, rfl⟩
theorem d_X6_readGoing_32 : DB mi_X6_readGoing 32 (.if_icmp .ne 20) 20 35 52 := ⟨by decide +kernel, rfl, by decide⟩
theorem d_X6_readGoing_35 : DC mi_X6_readGoing 35 (.aload_n 0) 1 36 := ⟨by decide +kernel, rfl⟩
theorem d_X6_readGoing_36 : DC mi_X6_readGoing 36 (.iconst 0) 1 37 := ⟨by decide +kernel, rfl⟩
theorem d_X6_readGoing_37 : DC mi_X6_readGoing 37 (.aload_n 0) 1 38 := ⟨by decide +kernel, rfl⟩
theorem d_X6_readGoing_38 : DC mi_X6_readGoing 38 (.getfield 25) 3 41 := ⟨by decide +kernel, rfl⟩
theorem d_X6_readGoing_41 : DC mi_X6_readGoing 41 (.getfield 120) 3 44 := ⟨by decide +kernel, rfl⟩
theorem d_X6_readGoing_44 : DC mi_X6_readGoing 44 (.invokevirtual 127) 3 47 := ⟨by decide +kernel, rfl⟩
theorem d_X6_readGoing_47 : DC mi_X6_readGoing 47 (.istore 4) 2 49 := ⟨by decide +kernel, rfl⟩
theorem d_X6_readGoing_49 : DB mi_X6_readGoing 49 (.goto 45) 45 52 94 := ⟨by decide +kernel, rfl, by decide⟩
theorem d_X6_readGoing_52 : DC mi_X6_readGoing 52 (.iload_n 1) 1 53 := ⟨by decide +kernel, rfl⟩
theorem d_X6_readGoing_53 : DC mi_X6_readGoing 53 (.bipush 23) 2 55 := ⟨by decide +kernel, rfl⟩
theorem d_X6_readGoing_55 : DB mi_X6_readGoing 55 (.if_icmp .ne 39) 39 58 94 := ⟨by decide +kernel, rfl, by decide⟩
theorem d_X6_readGoing_58 : DC mi_X6_readGoing 58 (.aload_n 0) 1 59 := ⟨by decide +kernel, rfl⟩
theorem d_X6_readGoing_59 : DC mi_X6_readGoing 59 (.iconst 0) 1 60 := ⟨by decide +kernel, rfl⟩
theorem d_X6_readGoing_60 : DC mi_X6_readGoing 60 (.iconst 5) 1 61 := ⟨by decide +kernel, rfl⟩
theorem d_X6_readGoing_61 : DC mi_X6_readGoing 61 (.invokevirtual 112) 3 64 := ⟨by decide +kernel, rfl⟩
theorem d_X6_readGoing_64 : DC mi_X6_readGoing 64 (.istore 4) 2 66 := ⟨by decide +kernel, rfl⟩
theorem d_X6_readGoing_66 : DC mi_X6_readGoing 66 (.aload_n 0) 1 67 := ⟨by decide +kernel, rfl⟩
theorem d_X6_readGoing_67 : DC mi_X6_readGoing 67 (.getfield 40) 3 70 := ⟨by decide +kernel, rfl⟩
theorem d_X6_readGoing_70 : DB mi_X6_readGoing 70 (.ifCond .ne 20) 20 73 90 := ⟨by decide +kernel, rfl, by decide⟩
theorem d_X6_readGoing_73 : DC mi_X6_readGoing 73 (.iload 4) 2 75 := ⟨by decide +kernel, rfl⟩
theorem d_X6_readGoing_75 : DC mi_X6_readGoing 75 (.aload_n 0) 1 76 := ⟨by decide +kernel, rfl⟩
theorem d_X6_readGoing_76 : DC mi_X6_readGoing 76 (.getfield 25) 3 79 := ⟨by decide +kernel, rfl⟩
theorem d_X6_readGoing_79 : DC mi_X6_readGoing 79 (.getfield 160) 3 82 := ⟨by decide +kernel, rfl⟩
theorem d_X6_readGoing_82 : DB mi_X6_readGoing 82 (.if_icmp .lt 8) 8 85 90 := ⟨by decide +kernel, rfl, by decide⟩
theorem d_X6_readGoing_85 : DC mi_X6_readGoing 85 (.aload_n 0) 1 86 := ⟨by decide +kernel, rfl⟩
theorem d_X6_readGoing_86 : DC mi_X6_readGoing 86 (.iconst 4) 1 87 := ⟨by decide +kernel, rfl⟩
theorem d_X6_readGoing_87 : DC mi_X6_readGoing 87 (.invokevirtual 103) 3 90 := ⟨by decide +kernel, rfl⟩
theorem d_X6_readGoing_90 : DC mi_X6_readGoing 90 (.aload_n 0) 1 91 := ⟨by decide +kernel, rfl⟩
theorem d_X6_readGoing_91 : DC mi_X6_readGoing 91 (.invokevirtual 106) 3 94 := ⟨by decide +kernel, rfl⟩
theorem d_X6_readGoing_94 : DC mi_X6_readGoing 94 (.aload_n 0) 1 95 := ⟨by decide +kernel, rfl⟩
theorem d_X6_readGoing_95 : DC mi_X6_readGoing 95 (.getfield 40) 3 98 := ⟨by decide +kernel, rfl⟩
theorem d_X6_readGoing_98 : DB mi_X6_readGoing 98 (.ifCond .ne 81) 81 101 179 := ⟨by decide +kernel, rfl, by decide⟩
theorem d_X6_readGoing_101 : DC mi_X6_readGoing 101 (.aload_n 0) 1 102 := ⟨by decide +kernel, rfl⟩
theorem d_X6_readGoing_102 : DC mi_X6_readGoing 102 (.getfield 25) 3 105 := ⟨by decide +kernel, rfl⟩
theorem d_X6_readGoing_105 : DC mi_X6_readGoing 105 (.getfield 175) 3 108 := ⟨by decide +kernel, rfl⟩
theorem d_X6_readGoing_108 : DC mi_X6_readGoing 108 (.aload_n 0) 1 109 := ⟨by decide +kernel, rfl⟩
theorem d_X6_readGoing_109 : DC mi_X6_readGoing 109 (.getfield 25) 3 112 := ⟨by decide +kernel, rfl⟩
theorem d_X6_readGoing_112 : DC mi_X6_readGoing 112 (.getfield 172) 3 115 := ⟨by decide +kernel, rfl⟩
theorem d_X6_readGoing_115 : DC mi_X6_readGoing 115 (.iload_n 1) 1 116 := ⟨by decide +kernel, rfl⟩
theorem d_X6_readGoing_116 : DC mi_X6_readGoing 116 (.iastore) 1 117 := ⟨by decide +kernel, rfl⟩
theorem d_X6_readGoing_117 : DC mi_X6_readGoing 117 (.aload_n 0) 1 118 := ⟨by decide +kernel, rfl⟩
theorem d_X6_readGoing_118 : DC mi_X6_readGoing 118 (.getfield 25) 3 121 := ⟨by decide +kernel, rfl⟩
theorem d_X6_readGoing_121 : DC mi_X6_readGoing 121 (.getfield 178) 3 124 := ⟨by decide +kernel, rfl⟩
theorem d_X6_readGoing_124 : DC mi_X6_readGoing 124 (.aload_n 0) 1 125 := ⟨by decide +kernel, rfl⟩
theorem d_X6_readGoing_125 : DC mi_X6_readGoing 125 (.getfield 25) 3 128 := ⟨by decide +kernel, rfl⟩
theorem d_X6_readGoing_128 : DC mi_X6_readGoing 128 (.getfield 172) 3 131 := ⟨by decide +kernel, rfl⟩
theorem d_X6_readGoing_131 : DC mi_X6_readGoing 131 (.iload_n 2) 1 132 := ⟨by decide +kernel, rfl⟩
theorem d_X6_readGoing_132 : DC mi_X6_readGoing 132 (.iastore) 1 133 := ⟨by decide +kernel, rfl⟩
theorem d_X6_readGoing_133 : DC mi_X6_readGoing 133 (.aload_n 0) 1 134 := ⟨by decide +kernel, rfl⟩
theorem d_X6_readGoing_134 : DC mi_X6_readGoing 134 (.getfield 25) 3 137 := ⟨by decide +kernel, rfl⟩
theorem d_X6_readGoing_137 : DC mi_X6_readGoing 137 (.getfield 181) 3 140 := ⟨by decide +kernel, rfl⟩
theorem d_X6_readGoing_140 : DC mi_X6_readGoing 140 (.aload_n 0) 1 141 := ⟨by decide +kernel, rfl⟩
theorem d_X6_readGoing_141 : DC mi_X6_readGoing 141 (.getfield 25) 3 144 := ⟨by decide +kernel, rfl⟩
theorem d_X6_readGoing_144 : DC mi_X6_readGoing 144 (.getfield 172) 3 147 := ⟨by decide +kernel, rfl⟩
theorem d_X6_readGoing_147 : DC mi_X6_readGoing 147 (.iload_n 3) 1 148 := ⟨by decide +kernel, rfl⟩
theorem d_X6_readGoing_148 : DC mi_X6_readGoing 148 (.iastore) 1 149 := ⟨by decide +kernel, rfl⟩
theorem d_X6_readGoing_149 : DC mi_X6_readGoing 149 (.aload_n 0) 1 150 := ⟨by decide +kernel, rfl⟩
theorem d_X6_readGoing_150 : DC mi_X6_readGoing 150 (.getfield 25) 3 153 := ⟨by decide +kernel, rfl⟩
theorem d_X6_readGoing_153 : DC mi_X6_readGoing 153 (.getfield 184) 3 156 := ⟨by decide +kernel, rfl⟩
theorem d_X6_readGoing_156 : DC mi_X6_readGoing 156 (.aload_n 0) 1 157 := ⟨by decide +kernel, rfl⟩
theorem d_X6_readGoing_157 : DC mi_X6_readGoing 157 (.getfield 25) 3 160 := ⟨by decide +kernel, rfl⟩
theorem d_X6_readGoing_160 : DC mi_X6_readGoing 160 (.getfield 172) 3 163 := ⟨by decide +kernel, rfl⟩
theorem d_X6_readGoing_163 : DC mi_X6_readGoing 163 (.iload 4) 2 165 := ⟨by decide +kernel, rfl⟩
theorem d_X6_readGoing_165 : DC mi_X6_readGoing 165 (.iastore) 1 166 := ⟨by decide +kernel, rfl⟩
theorem d_X6_readGoing_166 : DC mi_X6_readGoing 166 (.aload_n 0) 1 167 := ⟨by decide +kernel, rfl⟩
theorem d_X6_readGoing_167 : DC mi_X6_readGoing 167 (.getfield 25) 3 170 := ⟨by decide +kernel, rfl⟩
theorem d_X6_readGoing_170 : DC mi_X6_readGoing 170 (.dup) 1 171 := ⟨by decide +kernel, rfl⟩
theorem d_X6_readGoing_171 : DC mi_X6_readGoing 171 (.getfield 172) 3 174 := ⟨by decide +kernel, rfl⟩
theorem d_X6_readGoing_174 : DC mi_X6_readGoing 174 (.iconst 1) 1 175 := ⟨by decide +kernel, rfl⟩
theorem d_X6_readGoing_175 : DC mi_X6_readGoing 175 (.iadd) 1 176 := ⟨by decide +kernel, rfl⟩
theorem d_X6_readGoing_176 : DC mi_X6_readGoing 176 (.putfield 172) 3 179 := ⟨by decide +kernel, rfl⟩
theorem d_X6_readGoing_179 : DC mi_X6_readGoing 179 (.return_) 1 180 := ⟨by decide +kernel, rfl⟩
set_option maxHeartbeats 4000000 in
set_option maxRecDepth 100000 in
theorem sp_X6_readGoing (d : Nat) (hd : 3 ≤ d) (a0 : Int32) (h : HH) : Sp mi_X6_readGoing d iU [.ref 24, .int a0] h (g_X6_readGoing a0 h) := by
  refine sp_of (lc := [(0, .ref 24), (1, .int a0)]) (by decide) (Nat.le_of_ble_eq_true rfl) rfl ?_
  unfold g_X6_readGoing
  refine sx_aload_n d_X6_readGoing_0 0 rfl ?_
  refine sx_aload_n d_X6_readGoing_1 0 rfl ?_
  refine sx_getR fl_StairCount_Reader_25 sh_24 rfl d_X6_readGoing_2 (fun p1 => ?_)
  refine sx_ckH (fun ep1 => ?_)
  refine sx_getI fl_StairCount_Reader_172 ep1 rfl d_X6_readGoing_5 (fun v2 => ?_)
  refine sx_bipush d_X6_readGoing_8 bc20 ?_
  refine sx_callV [.int v2, .int (20 : Int32)] mv_X6_takeWord lM_StairCount_Reader_123 sh_24 (by omega) rfl rfl (Nat.le_of_ble_eq_true rfl) d_X6_readGoing_10 (sp_X6_takeWord (d - 1) (by omega) v2 (20 : Int32) h) (fun _ h3 => ?_)
  refine sx_aload_n d_X6_readGoing_13 0 rfl ?_
  refine sx_callV [] mv_X6_knownPerson lM_StairCount_Reader_151 sh_24 (by omega) rfl rfl (Nat.le_of_ble_eq_true rfl) d_X6_readGoing_14 (sp_X6_knownPerson (d - 1) (by omega) h3) (fun r6 h5 => ?_)
  refine sx_istore_n (i := 2) (lc' := [(2, .int r6), (0, .ref 24), (1, .int a0)]) d_X6_readGoing_17 rfl (by decide) rfl ?_
  refine sx_aload_n d_X6_readGoing_18 1 rfl ?_
  refine sx_iconst d_X6_readGoing_19 ic0 ?_
  refine sx_bipush d_X6_readGoing_20 bc99 ?_
  refine sx_callV [.int (0 : Int32), .int (99 : Int32)] mv_X6_number lM_StairCount_Reader_127 sh_24 (by omega) rfl rfl (Nat.le_of_ble_eq_true rfl) d_X6_readGoing_22 (sp_X6_number (d - 1) (by omega) (0 : Int32) (99 : Int32) h5) (fun r8 h7 => ?_)
  refine sx_istore_n (i := 3) (lc' := [(3, .int r8), (2, .int r6), (0, .ref 24), (1, .int a0)]) d_X6_readGoing_25 rfl (by decide) rfl ?_
  refine sx_iconst d_X6_readGoing_26 ic0 ?_
  refine sx_istore (i := 4) (lc' := [(4, .int (0 : Int32)), (3, .int r8), (2, .int r6), (0, .ref 24), (1, .int a0)]) d_X6_readGoing_27 (by decide) rfl ?_
  refine sx_iload_n d_X6_readGoing_29 4 rfl ?_
  refine sx_bipush d_X6_readGoing_30 bc22 ?_
  refine sx_jn (fun j => ∀ (u12 : Int32) (h : HH), Sx mi_X6_readGoing d iU (j u12 h) 94 [(0, .ref 24), (1, .int a0), (2, .int r6), (3, .int r8), (4, .int u12)] [] h) ?_ ?_
  · intro u12 h11
    refine sx_aload_n d_X6_readGoing_94 0 rfl ?_
    refine sx_getI fl_StairCount_Reader_40 sh_24 rfl d_X6_readGoing_95 (fun v13 => ?_)
    refine sx_if_ne d_X6_readGoing_98 ?_ ?_
    · refine sx_aload_n d_X6_readGoing_101 0 rfl ?_
      refine sx_getR fl_StairCount_Reader_25 sh_24 rfl d_X6_readGoing_102 (fun p14 => ?_)
      refine sx_ckH (fun ep14 => ?_)
      refine sx_getF (a' := (p14 + 7)) fl_StairCount_Reader_175 ep14 rfl rfl d_X6_readGoing_105 ?_
      refine sx_aload_n d_X6_readGoing_108 0 rfl ?_
      refine sx_getR fl_StairCount_Reader_25 sh_24 rfl d_X6_readGoing_109 (fun p15 => ?_)
      refine sx_ckH (fun ep15 => ?_)
      refine sx_getI fl_StairCount_Reader_172 ep15 rfl d_X6_readGoing_112 (fun v16 => ?_)
      refine sx_iload_n d_X6_readGoing_115 1 rfl ?_
      refine sx_iast (shf_5_10 ep14) d_X6_readGoing_116 (fun h17 => ?_)
      refine sx_aload_n d_X6_readGoing_117 0 rfl ?_
      refine sx_getR fl_StairCount_Reader_25 sh_24 rfl d_X6_readGoing_118 (fun p18 => ?_)
      refine sx_ckH (fun ep18 => ?_)
      refine sx_getF (a' := (p18 + 8)) fl_StairCount_Reader_178 ep18 rfl rfl d_X6_readGoing_121 ?_
      refine sx_aload_n d_X6_readGoing_124 0 rfl ?_
      refine sx_getR fl_StairCount_Reader_25 sh_24 rfl d_X6_readGoing_125 (fun p19 => ?_)
      refine sx_ckH (fun ep19 => ?_)
      refine sx_getI fl_StairCount_Reader_172 ep19 rfl d_X6_readGoing_128 (fun v20 => ?_)
      refine sx_iload_n d_X6_readGoing_131 2 rfl ?_
      refine sx_iast (shf_5_11 ep18) d_X6_readGoing_132 (fun h21 => ?_)
      refine sx_aload_n d_X6_readGoing_133 0 rfl ?_
      refine sx_getR fl_StairCount_Reader_25 sh_24 rfl d_X6_readGoing_134 (fun p22 => ?_)
      refine sx_ckH (fun ep22 => ?_)
      refine sx_getF (a' := (p22 + 9)) fl_StairCount_Reader_181 ep22 rfl rfl d_X6_readGoing_137 ?_
      refine sx_aload_n d_X6_readGoing_140 0 rfl ?_
      refine sx_getR fl_StairCount_Reader_25 sh_24 rfl d_X6_readGoing_141 (fun p23 => ?_)
      refine sx_ckH (fun ep23 => ?_)
      refine sx_getI fl_StairCount_Reader_172 ep23 rfl d_X6_readGoing_144 (fun v24 => ?_)
      refine sx_iload_n d_X6_readGoing_147 3 rfl ?_
      refine sx_iast (shf_5_12 ep22) d_X6_readGoing_148 (fun h25 => ?_)
      refine sx_aload_n d_X6_readGoing_149 0 rfl ?_
      refine sx_getR fl_StairCount_Reader_25 sh_24 rfl d_X6_readGoing_150 (fun p26 => ?_)
      refine sx_ckH (fun ep26 => ?_)
      refine sx_getF (a' := (p26 + 10)) fl_StairCount_Reader_184 ep26 rfl rfl d_X6_readGoing_153 ?_
      refine sx_aload_n d_X6_readGoing_156 0 rfl ?_
      refine sx_getR fl_StairCount_Reader_25 sh_24 rfl d_X6_readGoing_157 (fun p27 => ?_)
      refine sx_ckH (fun ep27 => ?_)
      refine sx_getI fl_StairCount_Reader_172 ep27 rfl d_X6_readGoing_160 (fun v28 => ?_)
      refine sx_iload d_X6_readGoing_163 4 rfl ?_
      refine sx_iast (shf_5_13 ep26) d_X6_readGoing_165 (fun h29 => ?_)
      refine sx_aload_n d_X6_readGoing_166 0 rfl ?_
      refine sx_getR fl_StairCount_Reader_25 sh_24 rfl d_X6_readGoing_167 (fun p30 => ?_)
      refine sx_ckH (fun ep30 => ?_)
      refine sx_dup d_X6_readGoing_170 rfl ?_
      refine sx_getI fl_StairCount_Reader_172 ep30 rfl d_X6_readGoing_171 (fun v31 => ?_)
      refine sx_iconst d_X6_readGoing_174 ic1 ?_
      refine sx_iadd d_X6_readGoing_175 ?_
      refine sx_putI fl_StairCount_Reader_172 ep30 rfl hty_5_9 d_X6_readGoing_176 (fun h32 => ?_)
      exact sx_vret rfl d_X6_readGoing_179
    · exact sx_vret rfl d_X6_readGoing_179
  · intro j9 k10
    refine sx_icmp_ne d_X6_readGoing_32 ?_ ?_
    · refine sx_aload_n d_X6_readGoing_35 3 rfl ?_
      refine sx_iconst d_X6_readGoing_36 ic0 ?_
      refine sx_aload_n d_X6_readGoing_37 3 rfl ?_
      refine sx_getR fl_StairCount_Reader_25 sh_24 rfl d_X6_readGoing_38 (fun p33 => ?_)
      refine sx_ckH (fun ep33 => ?_)
      refine sx_getI fl_StairCount_Reader_120 ep33 rfl d_X6_readGoing_41 (fun v34 => ?_)
      refine sx_callV [.int (0 : Int32), .int v34] mv_X6_number lM_StairCount_Reader_127 sh_24 (by omega) rfl rfl (Nat.le_of_ble_eq_true rfl) d_X6_readGoing_44 (sp_X6_number (d - 1) (by omega) (0 : Int32) v34 h7) (fun r36 h35 => ?_)
      refine sx_istore (i := 4) (lc' := [(4, .int r36), (3, .int r8), (2, .int r6), (0, .ref 24), (1, .int a0)]) d_X6_readGoing_47 (by decide) rfl ?_
      refine sx_goto d_X6_readGoing_49 ?_
      refine sx_lc (lc' := [(0, .ref 24), (1, .int a0), (2, .int r6), (3, .int r8), (4, .int r36)]) [3, 4, 2, 1, 0] rfl ?_
      exact k10 r36 h35
    · refine sx_iload_n d_X6_readGoing_52 4 rfl ?_
      refine sx_bipush d_X6_readGoing_53 bc23 ?_
      refine sx_icmp_ne d_X6_readGoing_55 ?_ ?_
      · refine sx_aload_n d_X6_readGoing_58 3 rfl ?_
        refine sx_iconst d_X6_readGoing_59 ic0 ?_
        refine sx_iconst d_X6_readGoing_60 ic5 ?_
        refine sx_callV [.int (0 : Int32), .int (5 : Int32)] mv_X6_look lM_StairCount_Reader_112 sh_24 (by omega) rfl rfl (Nat.le_of_ble_eq_true rfl) d_X6_readGoing_61 (sp_X6_look (d - 1) (by omega) (0 : Int32) (5 : Int32) h7) (fun r38 h37 => ?_)
        refine sx_istore (i := 4) (lc' := [(4, .int r38), (3, .int r8), (2, .int r6), (0, .ref 24), (1, .int a0)]) d_X6_readGoing_64 (by decide) rfl ?_
        refine sx_aload_n d_X6_readGoing_66 3 rfl ?_
        refine sx_getI fl_StairCount_Reader_40 sh_24 rfl d_X6_readGoing_67 (fun v39 => ?_)
        refine sx_jn (fun j => ∀  (h : HH), Sx mi_X6_readGoing d iU (j  h) 90 [(0, .ref 24), (1, .int a0), (2, .int r6), (3, .int r8), (4, .int r38)] [] h) ?_ ?_
        · intro  h42
          refine sx_aload_n d_X6_readGoing_90 0 rfl ?_
          refine sx_callV [] mv_X6_advance lM_StairCount_Reader_106 sh_24 (by omega) rfl rfl (Nat.le_of_ble_eq_true rfl) d_X6_readGoing_91 (sp_X6_advance (d - 1) (by omega) h42) (fun _ h43 => ?_)
          exact k10 r38 h43
        · intro j40 k41
          refine sx_if_ne d_X6_readGoing_70 ?_ ?_
          · refine sx_iload d_X6_readGoing_73 0 rfl ?_
            refine sx_aload_n d_X6_readGoing_75 3 rfl ?_
            refine sx_getR fl_StairCount_Reader_25 sh_24 rfl d_X6_readGoing_76 (fun p45 => ?_)
            refine sx_ckH (fun ep45 => ?_)
            refine sx_getI fl_StairCount_Reader_160 ep45 rfl d_X6_readGoing_79 (fun v46 => ?_)
            refine sx_icmp_lt d_X6_readGoing_82 ?_ ?_
            · refine sx_lc (lc' := [(0, .ref 24), (1, .int a0), (2, .int r6), (3, .int r8), (4, .int r38)]) [3, 4, 2, 1, 0] rfl ?_
              exact k41 h37
            · refine sx_aload_n d_X6_readGoing_85 3 rfl ?_
              refine sx_iconst d_X6_readGoing_86 ic4 ?_
              refine sx_callV [.int (4 : Int32)] mv_X6_fail lM_StairCount_Reader_103 sh_24 (by omega) rfl rfl (Nat.le_of_ble_eq_true rfl) d_X6_readGoing_87 (sp_X6_fail (d - 1) (by omega) (4 : Int32) h37) (fun _ h47 => ?_)
              refine sx_lc (lc' := [(0, .ref 24), (1, .int a0), (2, .int r6), (3, .int r8), (4, .int r38)]) [3, 4, 2, 1, 0] rfl ?_
              exact k41 h47
          · refine sx_lc (lc' := [(0, .ref 24), (1, .int a0), (2, .int r6), (3, .int r8), (4, .int r38)]) [3, 4, 2, 1, 0] rfl ?_
            exact k41 h37
      · refine sx_lc (lc' := [(0, .ref 24), (1, .int a0), (2, .int r6), (3, .int r8), (4, .int (0 : Int32))]) [3, 4, 2, 1, 0] rfl ?_
        exact k10 (0 : Int32) h7
theorem d_X6_readLadder_0 : DC mi_X6_readLadder 0 (.aload_n 0) 1 1 := ⟨by decide +kernel, rfl⟩
theorem d_X6_readLadder_1 : DC mi_X6_readLadder 1 (.aload_n 0) 1 2 := ⟨by decide +kernel, rfl⟩
theorem d_X6_readLadder_2 : DC mi_X6_readLadder 2 (.getfield 25) 3 5 := ⟨by decide +kernel, rfl⟩
theorem d_X6_readLadder_5 : DC mi_X6_readLadder 5 (.getfield 160) 3 8 := ⟨by decide +kernel, rfl⟩
theorem d_X6_readLadder_8 : DC mi_X6_readLadder 8 (.bipush 6) 2 10 := ⟨by decide +kernel, rfl⟩
theorem d_X6_readLadder_10 : DC mi_X6_readLadder 10 (.invokevirtual 123) 3 13 := ⟨by decide +kernel, rfl⟩
theorem d_X6_readLadder_13 : DC mi_X6_readLadder 13 (.aload_n 0) 1 14 := ⟨by decide +kernel, rfl⟩
theorem d_X6_readLadder_14 : DC mi_X6_readLadder 14 (.iconst 0) 1 15 := ⟨by decide +kernel, rfl⟩
theorem d_X6_readLadder_15 : DC mi_X6_readLadder 15 (.aload_n 0) 1 16 := ⟨by decide +kernel, rfl⟩
theorem d_X6_readLadder_16 : DC mi_X6_readLadder 16 (.getfield 25) 3 19 := ⟨by decide +kernel, rfl⟩
theorem d_X6_readLadder_19 : DC mi_X6_readLadder 19 (.getfield 120) 3 22 := ⟨by decide +kernel, rfl⟩
theorem d_X6_readLadder_22 : DC mi_X6_readLadder 22 (.invokevirtual 127) 3 25 := ⟨by decide +kernel, rfl⟩
theorem d_X6_readLadder_25 : DC mi_X6_readLadder 25 (.istore_n 1) 1 26 := ⟨by decide +kernel, rfl⟩
theorem d_X6_readLadder_26 : DC mi_X6_readLadder 26 (.aload_n 0) 1 27 := ⟨by decide +kernel, rfl⟩
theorem d_X6_readLadder_27 : DC mi_X6_readLadder 27 (.iconst 0) 1 28 := ⟨by decide +kernel, rfl⟩
theorem d_X6_readLadder_28 : DC mi_X6_readLadder 28 (.aload_n 0) 1 29 := ⟨by decide +kernel, rfl⟩
theorem d_X6_readLadder_29 : DC mi_X6_readLadder 29 (.getfield 25) 3 32 := ⟨by decide +kernel, rfl⟩
theorem d_X6_readLadder_32 : DC mi_X6_readLadder 32 (.getfield 120) 3 35 := ⟨by decide +kernel, rfl⟩
theorem d_X6_readLadder_35 : DC mi_X6_readLadder 35 (.invokevirtual 112) 3 38 := ⟨by decide +kernel, rfl⟩
theorem d_X6_readLadder_38 : DC mi_X6_readLadder 38 (.istore_n 2) 1 39 := ⟨by decide +kernel, rfl⟩
theorem d_X6_readLadder_39 : DC mi_X6_readLadder 39 (.aload_n 0) 1 40 := ⟨by decide +kernel, rfl⟩
theorem d_X6_readLadder_40 : DC mi_X6_readLadder 40 (.getfield 40) 3 43 := ⟨by decide +kernel, rfl⟩
theorem d_X6_readLadder_43 : DB mi_X6_readLadder 43 (.ifCond .ne 13) 13 46 56 := ⟨by decide +kernel, rfl, by decide⟩
theorem d_X6_readLadder_46 : DC mi_X6_readLadder 46 (.iload_n 1) 1 47 := ⟨by decide +kernel, rfl⟩
theorem d_X6_readLadder_47 : DC mi_X6_readLadder 47 (.iload_n 2) 1 48 := ⟨by decide +kernel, rfl⟩
theorem d_X6_readLadder_48 : DB mi_X6_readLadder 48 (.if_icmp .ne 8) 8 51 56 := ⟨by decide +kernel, rfl, by decide⟩
theorem d_X6_readLadder_51 : DC mi_X6_readLadder 51 (.aload_n 0) 1 52 := ⟨by decide +kernel, rfl⟩
theorem d_X6_readLadder_52 : DC mi_X6_readLadder 52 (.iconst 5) 1 53 := ⟨by decide +kernel, rfl⟩
theorem d_X6_readLadder_53 : DC mi_X6_readLadder 53 (.invokevirtual 103) 3 56 := ⟨by decide +kernel, rfl⟩
theorem d_X6_readLadder_56 : DC mi_X6_readLadder 56 (.aload_n 0) 1 57 := ⟨by decide +kernel, rfl⟩
theorem d_X6_readLadder_57 : DC mi_X6_readLadder 57 (.invokevirtual 106) 3 60 := ⟨by decide +kernel, rfl⟩
theorem d_X6_readLadder_60 : DC mi_X6_readLadder 60 (.aload_n 0) 1 61 := ⟨by decide +kernel, rfl⟩
theorem d_X6_readLadder_61 : DC mi_X6_readLadder 61 (.iconst 0) 1 62 := ⟨by decide +kernel, rfl⟩
theorem d_X6_readLadder_62 : DC mi_X6_readLadder 62 (.bipush 99) 2 64 := ⟨by decide +kernel, rfl⟩
theorem d_X6_readLadder_64 : DC mi_X6_readLadder 64 (.invokevirtual 127) 3 67 := ⟨by decide +kernel, rfl⟩
theorem d_X6_readLadder_67 : DC mi_X6_readLadder 67 (.istore_n 3) 1 68 := ⟨by decide +kernel, rfl⟩
theorem d_X6_readLadder_68 : DC mi_X6_readLadder 68 (.aload_n 0) 1 69 := ⟨by decide +kernel, rfl⟩
theorem d_X6_readLadder_69 : DC mi_X6_readLadder 69 (.getfield 40) 3 72 := ⟨by decide +kernel, rfl⟩
theorem d_X6_readLadder_72 : DB mi_X6_readLadder 72 (.ifCond .ne 64) 64 75 136 := ⟨by decide +kernel, rfl, by decide⟩
theorem d_X6_readLadder_75 : DC mi_X6_readLadder 75 (.aload_n 0) 1 76 := ⟨by decide +kernel, rfl⟩
theorem d_X6_readLadder_76 : DC mi_X6_readLadder 76 (.getfield 25) 3 79 := ⟨by decide +kernel, rfl⟩
theorem d_X6_readLadder_79 : DC mi_X6_readLadder 79 (.getfield 163) 3 82 := ⟨by decide +kernel, rfl⟩
theorem d_X6_readLadder_82 : DC mi_X6_readLadder 82 (.aload_n 0) 1 83 := ⟨by decide +kernel, rfl⟩
theorem d_X6_readLadder_83 : DC mi_X6_readLadder 83 (.getfield 25) 3 86 := ⟨by decide +kernel, rfl⟩
theorem d_X6_readLadder_86 : DC mi_X6_readLadder 86 (.getfield 160) 3 89 := ⟨by decide +kernel, rfl⟩
theorem d_X6_readLadder_89 : DC mi_X6_readLadder 89 (.iload_n 1) 1 90 := ⟨by decide +kernel, rfl⟩
theorem d_X6_readLadder_90 : DC mi_X6_readLadder 90 (.iastore) 1 91 := ⟨by decide +kernel, rfl⟩
theorem d_X6_readLadder_91 : DC mi_X6_readLadder 91 (.aload_n 0) 1 92 := ⟨by decide +kernel, rfl⟩
theorem d_X6_readLadder_92 : DC mi_X6_readLadder 92 (.getfield 25) 3 95 := ⟨by decide +kernel, rfl⟩
theorem d_X6_readLadder_95 : DC mi_X6_readLadder 95 (.getfield 166) 3 98 := ⟨by decide +kernel, rfl⟩
theorem d_X6_readLadder_98 : DC mi_X6_readLadder 98 (.aload_n 0) 1 99 := ⟨by decide +kernel, rfl⟩
theorem d_X6_readLadder_99 : DC mi_X6_readLadder 99 (.getfield 25) 3 102 := ⟨by decide +kernel, rfl⟩
theorem d_X6_readLadder_102 : DC mi_X6_readLadder 102 (.getfield 160) 3 105 := ⟨by decide +kernel, rfl⟩
theorem d_X6_readLadder_105 : DC mi_X6_readLadder 105 (.iload_n 2) 1 106 := ⟨by decide +kernel, rfl⟩
theorem d_X6_readLadder_106 : DC mi_X6_readLadder 106 (.iastore) 1 107 := ⟨by decide +kernel, rfl⟩
theorem d_X6_readLadder_107 : DC mi_X6_readLadder 107 (.aload_n 0) 1 108 := ⟨by decide +kernel, rfl⟩
theorem d_X6_readLadder_108 : DC mi_X6_readLadder 108 (.getfield 25) 3 111 := ⟨by decide +kernel, rfl⟩
theorem d_X6_readLadder_111 : DC mi_X6_readLadder 111 (.getfield 169) 3 114 := ⟨by decide +kernel, rfl⟩
theorem d_X6_readLadder_114 : DC mi_X6_readLadder 114 (.aload_n 0) 1 115 := ⟨by decide +kernel, rfl⟩
theorem d_X6_readLadder_115 : DC mi_X6_readLadder 115 (.getfield 25) 3 118 := ⟨by decide +kernel, rfl⟩
theorem d_X6_readLadder_118 : DC mi_X6_readLadder 118 (.getfield 160) 3 121 := ⟨by decide +kernel, rfl⟩
theorem d_X6_readLadder_121 : DC mi_X6_readLadder 121 (.iload_n 3) 1 122 := ⟨by decide +kernel, rfl⟩
theorem d_X6_readLadder_122 : DC mi_X6_readLadder 122 (.iastore) 1 123 := ⟨by decide +kernel, rfl⟩
theorem d_X6_readLadder_123 : DC mi_X6_readLadder 123 (.aload_n 0) 1 124 := ⟨by decide +kernel, rfl⟩
theorem d_X6_readLadder_124 : DC mi_X6_readLadder 124 (.getfield 25) 3 127 := ⟨by decide +kernel, rfl⟩
theorem d_X6_readLadder_127 : DC mi_X6_readLadder 127 (.dup) 1 128 := ⟨by decide +kernel, rfl⟩
theorem d_X6_readLadder_128 : DC mi_X6_readLadder 128 (.getfield 160) 3 131 := ⟨by decide +kernel, rfl⟩
theorem d_X6_readLadder_131 : DC mi_X6_readLadder 131 (.iconst 1) 1 132 := ⟨by decide +kernel, rfl⟩
theorem d_X6_readLadder_132 : DC mi_X6_readLadder 132 (.iadd) 1 133 := ⟨by decide +kernel, rfl⟩
theorem d_X6_readLadder_133 : DC mi_X6_readLadder 133 (.putfield 160) 3 136 := ⟨by decide +kernel, rfl⟩
theorem d_X6_readLadder_136 : DC mi_X6_readLadder 136 (.return_) 1 137 := ⟨by decide +kernel, rfl⟩
set_option maxHeartbeats 4000000 in
set_option maxRecDepth 100000 in
theorem sp_X6_readLadder (d : Nat) (hd : 3 ≤ d) (h : HH) : Sp mi_X6_readLadder d iU [.ref 24] h (g_X6_readLadder h) := by
  refine sp_of (lc := [(0, .ref 24)]) (by decide) (Nat.le_of_ble_eq_true rfl) rfl ?_
  unfold g_X6_readLadder
  refine sx_aload_n d_X6_readLadder_0 0 rfl ?_
  refine sx_aload_n d_X6_readLadder_1 0 rfl ?_
  refine sx_getR fl_StairCount_Reader_25 sh_24 rfl d_X6_readLadder_2 (fun p1 => ?_)
  refine sx_ckH (fun ep1 => ?_)
  refine sx_getI fl_StairCount_Reader_160 ep1 rfl d_X6_readLadder_5 (fun v2 => ?_)
  refine sx_bipush d_X6_readLadder_8 bc6 ?_
  refine sx_callV [.int v2, .int (6 : Int32)] mv_X6_takeWord lM_StairCount_Reader_123 sh_24 (by omega) rfl rfl (Nat.le_of_ble_eq_true rfl) d_X6_readLadder_10 (sp_X6_takeWord (d - 1) (by omega) v2 (6 : Int32) h) (fun _ h3 => ?_)
  refine sx_aload_n d_X6_readLadder_13 0 rfl ?_
  refine sx_iconst d_X6_readLadder_14 ic0 ?_
  refine sx_aload_n d_X6_readLadder_15 0 rfl ?_
  refine sx_getR fl_StairCount_Reader_25 sh_24 rfl d_X6_readLadder_16 (fun p5 => ?_)
  refine sx_ckH (fun ep5 => ?_)
  refine sx_getI fl_StairCount_Reader_120 ep5 rfl d_X6_readLadder_19 (fun v6 => ?_)
  refine sx_callV [.int (0 : Int32), .int v6] mv_X6_number lM_StairCount_Reader_127 sh_24 (by omega) rfl rfl (Nat.le_of_ble_eq_true rfl) d_X6_readLadder_22 (sp_X6_number (d - 1) (by omega) (0 : Int32) v6 h3) (fun r8 h7 => ?_)
  refine sx_istore_n (i := 1) (lc' := [(1, .int r8), (0, .ref 24)]) d_X6_readLadder_25 rfl (by decide) rfl ?_
  refine sx_aload_n d_X6_readLadder_26 1 rfl ?_
  refine sx_iconst d_X6_readLadder_27 ic0 ?_
  refine sx_aload_n d_X6_readLadder_28 1 rfl ?_
  refine sx_getR fl_StairCount_Reader_25 sh_24 rfl d_X6_readLadder_29 (fun p9 => ?_)
  refine sx_ckH (fun ep9 => ?_)
  refine sx_getI fl_StairCount_Reader_120 ep9 rfl d_X6_readLadder_32 (fun v10 => ?_)
  refine sx_callV [.int (0 : Int32), .int v10] mv_X6_look lM_StairCount_Reader_112 sh_24 (by omega) rfl rfl (Nat.le_of_ble_eq_true rfl) d_X6_readLadder_35 (sp_X6_look (d - 1) (by omega) (0 : Int32) v10 h7) (fun r12 h11 => ?_)
  refine sx_istore_n (i := 2) (lc' := [(2, .int r12), (1, .int r8), (0, .ref 24)]) d_X6_readLadder_38 rfl (by decide) rfl ?_
  refine sx_aload_n d_X6_readLadder_39 2 rfl ?_
  refine sx_getI fl_StairCount_Reader_40 sh_24 rfl d_X6_readLadder_40 (fun v13 => ?_)
  refine sx_jn (fun j => ∀  (h : HH), Sx mi_X6_readLadder d iU (j  h) 56 [(0, .ref 24), (1, .int r8), (2, .int r12)] [] h) ?_ ?_
  · intro  h16
    refine sx_aload_n d_X6_readLadder_56 0 rfl ?_
    refine sx_callV [] mv_X6_advance lM_StairCount_Reader_106 sh_24 (by omega) rfl rfl (Nat.le_of_ble_eq_true rfl) d_X6_readLadder_57 (sp_X6_advance (d - 1) (by omega) h16) (fun _ h17 => ?_)
    refine sx_aload_n d_X6_readLadder_60 0 rfl ?_
    refine sx_iconst d_X6_readLadder_61 ic0 ?_
    refine sx_bipush d_X6_readLadder_62 bc99 ?_
    refine sx_callV [.int (0 : Int32), .int (99 : Int32)] mv_X6_number lM_StairCount_Reader_127 sh_24 (by omega) rfl rfl (Nat.le_of_ble_eq_true rfl) d_X6_readLadder_64 (sp_X6_number (d - 1) (by omega) (0 : Int32) (99 : Int32) h17) (fun r20 h19 => ?_)
    refine sx_istore_n (i := 3) (lc' := [(3, .int r20), (0, .ref 24), (1, .int r8), (2, .int r12)]) d_X6_readLadder_67 rfl (by decide) rfl ?_
    refine sx_aload_n d_X6_readLadder_68 1 rfl ?_
    refine sx_getI fl_StairCount_Reader_40 sh_24 rfl d_X6_readLadder_69 (fun v21 => ?_)
    refine sx_if_ne d_X6_readLadder_72 ?_ ?_
    · refine sx_aload_n d_X6_readLadder_75 1 rfl ?_
      refine sx_getR fl_StairCount_Reader_25 sh_24 rfl d_X6_readLadder_76 (fun p22 => ?_)
      refine sx_ckH (fun ep22 => ?_)
      refine sx_getF (a' := (p22 + 4)) fl_StairCount_Reader_163 ep22 rfl rfl d_X6_readLadder_79 ?_
      refine sx_aload_n d_X6_readLadder_82 1 rfl ?_
      refine sx_getR fl_StairCount_Reader_25 sh_24 rfl d_X6_readLadder_83 (fun p23 => ?_)
      refine sx_ckH (fun ep23 => ?_)
      refine sx_getI fl_StairCount_Reader_160 ep23 rfl d_X6_readLadder_86 (fun v24 => ?_)
      refine sx_iload_n d_X6_readLadder_89 2 rfl ?_
      refine sx_iast (shf_5_6 ep22) d_X6_readLadder_90 (fun h25 => ?_)
      refine sx_aload_n d_X6_readLadder_91 1 rfl ?_
      refine sx_getR fl_StairCount_Reader_25 sh_24 rfl d_X6_readLadder_92 (fun p26 => ?_)
      refine sx_ckH (fun ep26 => ?_)
      refine sx_getF (a' := (p26 + 5)) fl_StairCount_Reader_166 ep26 rfl rfl d_X6_readLadder_95 ?_
      refine sx_aload_n d_X6_readLadder_98 1 rfl ?_
      refine sx_getR fl_StairCount_Reader_25 sh_24 rfl d_X6_readLadder_99 (fun p27 => ?_)
      refine sx_ckH (fun ep27 => ?_)
      refine sx_getI fl_StairCount_Reader_160 ep27 rfl d_X6_readLadder_102 (fun v28 => ?_)
      refine sx_iload_n d_X6_readLadder_105 3 rfl ?_
      refine sx_iast (shf_5_7 ep26) d_X6_readLadder_106 (fun h29 => ?_)
      refine sx_aload_n d_X6_readLadder_107 1 rfl ?_
      refine sx_getR fl_StairCount_Reader_25 sh_24 rfl d_X6_readLadder_108 (fun p30 => ?_)
      refine sx_ckH (fun ep30 => ?_)
      refine sx_getF (a' := (p30 + 6)) fl_StairCount_Reader_169 ep30 rfl rfl d_X6_readLadder_111 ?_
      refine sx_aload_n d_X6_readLadder_114 1 rfl ?_
      refine sx_getR fl_StairCount_Reader_25 sh_24 rfl d_X6_readLadder_115 (fun p31 => ?_)
      refine sx_ckH (fun ep31 => ?_)
      refine sx_getI fl_StairCount_Reader_160 ep31 rfl d_X6_readLadder_118 (fun v32 => ?_)
      refine sx_iload_n d_X6_readLadder_121 0 rfl ?_
      refine sx_iast (shf_5_8 ep30) d_X6_readLadder_122 (fun h33 => ?_)
      refine sx_aload_n d_X6_readLadder_123 1 rfl ?_
      refine sx_getR fl_StairCount_Reader_25 sh_24 rfl d_X6_readLadder_124 (fun p34 => ?_)
      refine sx_ckH (fun ep34 => ?_)
      refine sx_dup d_X6_readLadder_127 rfl ?_
      refine sx_getI fl_StairCount_Reader_160 ep34 rfl d_X6_readLadder_128 (fun v35 => ?_)
      refine sx_iconst d_X6_readLadder_131 ic1 ?_
      refine sx_iadd d_X6_readLadder_132 ?_
      refine sx_putI fl_StairCount_Reader_160 ep34 rfl hty_5_5 d_X6_readLadder_133 (fun h36 => ?_)
      exact sx_vret rfl d_X6_readLadder_136
    · exact sx_vret rfl d_X6_readLadder_136
  · intro j14 k15
    refine sx_if_ne d_X6_readLadder_43 ?_ ?_
    · refine sx_iload_n d_X6_readLadder_46 1 rfl ?_
      refine sx_iload_n d_X6_readLadder_47 0 rfl ?_
      refine sx_icmp_ne d_X6_readLadder_48 ?_ ?_
      · refine sx_aload_n d_X6_readLadder_51 2 rfl ?_
        refine sx_iconst d_X6_readLadder_52 ic5 ?_
        refine sx_callV [.int (5 : Int32)] mv_X6_fail lM_StairCount_Reader_103 sh_24 (by omega) rfl rfl (Nat.le_of_ble_eq_true rfl) d_X6_readLadder_53 (sp_X6_fail (d - 1) (by omega) (5 : Int32) h11) (fun _ h37 => ?_)
        refine sx_lc (lc' := [(0, .ref 24), (1, .int r8), (2, .int r12)]) [2, 1, 0] rfl ?_
        exact k15 h37
      · refine sx_lc (lc' := [(0, .ref 24), (1, .int r8), (2, .int r12)]) [2, 1, 0] rfl ?_
        exact k15 h11
    · refine sx_lc (lc' := [(0, .ref 24), (1, .int r8), (2, .int r12)]) [2, 1, 0] rfl ?_
      exact k15 h11
theorem d_X6_await_0 : DC mi_X6_await 0 (.aload_n 0) 1 1 := ⟨by decide +kernel, rfl⟩
theorem d_X6_await_1 : DC mi_X6_await 1 (.getfield 40) 3 4 := ⟨by decide +kernel, rfl⟩
theorem d_X6_await_4 : DB mi_X6_await 4 (.ifCond .ne 35) 35 7 39 := ⟨by decide +kernel, rfl, by decide⟩
theorem d_X6_await_7 : DC mi_X6_await 7 (.aload_n 0) 1 8 := ⟨by decide +kernel, rfl⟩
theorem d_X6_await_8 : DC mi_X6_await 8 (.getfield 215) 3 11 := ⟨by decide +kernel, rfl⟩
theorem d_X6_await_11 : DC mi_X6_await 11 (.aload_n 0) 1 12 := ⟨by decide +kernel, rfl⟩
theorem d_X6_await_12 : DC mi_X6_await 12 (.getfield 18) 3 15 := ⟨by decide +kernel, rfl⟩
theorem d_X6_await_15 : DC mi_X6_await 15 (.arraylength) 1 16 := ⟨by decide +kernel, rfl⟩
theorem d_X6_await_16 : DB mi_X6_await 16 (.if_icmp .ge 23) 23 19 39 := ⟨by decide +kernel, rfl, by decide⟩
theorem d_X6_await_19 : DC mi_X6_await 19 (.aload_n 0) 1 20 := ⟨by decide +kernel, rfl⟩
theorem d_X6_await_20 : DC mi_X6_await 20 (.getfield 18) 3 23 := ⟨by decide +kernel, rfl⟩
theorem d_X6_await_23 : DC mi_X6_await 23 (.aload_n 0) 1 24 := ⟨by decide +kernel, rfl⟩
theorem d_X6_await_24 : DC mi_X6_await 24 (.getfield 215) 3 27 := ⟨by decide +kernel, rfl⟩
theorem d_X6_await_27 : DC mi_X6_await 27 (.iload_n 1) 1 28 := ⟨by decide +kernel, rfl⟩
theorem d_X6_await_28 : DC mi_X6_await 28 (.iastore) 1 29 := ⟨by decide +kernel, rfl⟩
theorem d_X6_await_29 : DC mi_X6_await 29 (.aload_n 0) 1 30 := ⟨by decide +kernel, rfl⟩
theorem d_X6_await_30 : DC mi_X6_await 30 (.dup) 1 31 := ⟨by decide +kernel, rfl⟩
theorem d_X6_await_31 : DC mi_X6_await 31 (.getfield 215) 3 34 := ⟨by decide +kernel, rfl⟩
theorem d_X6_await_34 : DC mi_X6_await 34 (.iconst 1) 1 35 := ⟨by decide +kernel, rfl⟩
theorem d_X6_await_35 : DC mi_X6_await 35 (.iadd) 1 36 := ⟨by decide +kernel, rfl⟩
theorem d_X6_await_36 : DC mi_X6_await 36 (.putfield 215) 3 39 := ⟨by decide +kernel, rfl⟩
theorem d_X6_await_39 : DC mi_X6_await 39 (.return_) 1 40 := ⟨by decide +kernel, rfl⟩
set_option maxHeartbeats 4000000 in
set_option maxRecDepth 100000 in
theorem sp_X6_await (d : Nat) (hd : 0 ≤ d) (a0 : Int32) (h : HH) : Sp mi_X6_await d iU [.ref 24, .int a0] h (g_X6_await a0 h) := by
  refine sp_of (lc := [(0, .ref 24), (1, .int a0)]) (by decide) (Nat.le_of_ble_eq_true rfl) rfl ?_
  unfold g_X6_await
  refine sx_aload_n d_X6_await_0 0 rfl ?_
  refine sx_getI fl_StairCount_Reader_40 sh_24 rfl d_X6_await_1 (fun v1 => ?_)
  refine sx_if_ne d_X6_await_4 ?_ ?_
  · refine sx_aload_n d_X6_await_7 0 rfl ?_
    refine sx_getI fl_StairCount_Reader_215 sh_24 rfl d_X6_await_8 (fun v2 => ?_)
    refine sx_aload_n d_X6_await_11 0 rfl ?_
    refine sx_getF (a' := 29) fl_StairCount_Reader_18 sh_24 rfl rfl d_X6_await_12 ?_
    refine sx_alen (v := (72 : Int32)) sh_29 nl72 d_X6_await_15 ?_
    refine sx_icmp_ge d_X6_await_16 ?_ ?_
    · refine sx_aload_n d_X6_await_19 0 rfl ?_
      refine sx_getF (a' := 29) fl_StairCount_Reader_18 sh_24 rfl rfl d_X6_await_20 ?_
      refine sx_aload_n d_X6_await_23 0 rfl ?_
      refine sx_getI fl_StairCount_Reader_215 sh_24 rfl d_X6_await_24 (fun v3 => ?_)
      refine sx_iload_n d_X6_await_27 1 rfl ?_
      refine sx_iast sh_29 d_X6_await_28 (fun h4 => ?_)
      refine sx_aload_n d_X6_await_29 0 rfl ?_
      refine sx_dup d_X6_await_30 rfl ?_
      refine sx_getI fl_StairCount_Reader_215 sh_24 rfl d_X6_await_31 (fun v5 => ?_)
      refine sx_iconst d_X6_await_34 ic1 ?_
      refine sx_iadd d_X6_await_35 ?_
      refine sx_putI fl_StairCount_Reader_215 sh_24 rfl hty_6_9 d_X6_await_36 (fun h6 => ?_)
      exact sx_vret rfl d_X6_await_39
    · exact sx_vret rfl d_X6_await_39
  · exact sx_vret rfl d_X6_await_39
theorem d_X6_emit_0 : DC mi_X6_emit 0 (.aload_n 0) 1 1 := ⟨by decide +kernel, rfl⟩
theorem d_X6_emit_1 : DC mi_X6_emit 1 (.getfield 40) 3 4 := ⟨by decide +kernel, rfl⟩
theorem d_X6_emit_4 : DB mi_X6_emit 4 (.ifCond .ne 15) 15 7 19 := ⟨by decide +kernel, rfl, by decide⟩
theorem d_X6_emit_7 : DC mi_X6_emit 7 (.aload_n 0) 1 8 := ⟨by decide +kernel, rfl⟩
theorem d_X6_emit_8 : DC mi_X6_emit 8 (.getfield 25) 3 11 := ⟨by decide +kernel, rfl⟩
theorem d_X6_emit_11 : DC mi_X6_emit 11 (.getfield 193) 3 14 := ⟨by decide +kernel, rfl⟩
theorem d_X6_emit_14 : DC mi_X6_emit 14 (.iload_n 1) 1 15 := ⟨by decide +kernel, rfl⟩
theorem d_X6_emit_15 : DC mi_X6_emit 15 (.iload_n 2) 1 16 := ⟨by decide +kernel, rfl⟩
theorem d_X6_emit_16 : DC mi_X6_emit 16 (.invokevirtual 242) 3 19 := ⟨by decide +kernel, rfl⟩
theorem d_X6_emit_19 : DC mi_X6_emit 19 (.return_) 1 20 := ⟨by decide +kernel, rfl⟩
set_option maxHeartbeats 4000000 in
set_option maxRecDepth 100000 in
theorem sp_X6_emit (d : Nat) (hd : 1 ≤ d) (a0 : Int32) (a1 : Int32) (h : HH) : Sp mi_X6_emit d iU [.ref 24, .int a0, .int a1] h (g_X6_emit a0 a1 h) := by
  refine sp_of (lc := [(0, .ref 24), (1, .int a0), (2, .int a1)]) (by decide) (Nat.le_of_ble_eq_true rfl) rfl ?_
  unfold g_X6_emit
  refine sx_aload_n d_X6_emit_0 0 rfl ?_
  refine sx_getI fl_StairCount_Reader_40 sh_24 rfl d_X6_emit_1 (fun v1 => ?_)
  refine sx_if_ne d_X6_emit_4 ?_ ?_
  · refine sx_aload_n d_X6_emit_7 0 rfl ?_
    refine sx_getR fl_StairCount_Reader_25 sh_24 rfl d_X6_emit_8 (fun p2 => ?_)
    refine sx_ckH (fun ep2 => ?_)
    refine sx_getF (a' := (p2 + 11)) fl_StairCount_Reader_193 ep2 rfl rfl d_X6_emit_11 ?_
    refine sx_iload_n d_X6_emit_14 1 rfl ?_
    refine sx_iload_n d_X6_emit_15 2 rfl ?_
    refine sx_callV [.int a0, .int a1] mv_X2_put lM_StairCount_Reader_242 (shf_5_14 ep2) (by omega) rfl rfl (Nat.le_of_ble_eq_true rfl) d_X6_emit_16 (sp_X2_put (d - 1) (by omega) (p2 + 11) a0 a1 h) (fun _ h3 => ?_)
    exact sx_vret rfl d_X6_emit_19
  · exact sx_vret rfl d_X6_emit_19
theorem d_X6_takeKnot_0 : DC mi_X6_takeKnot 0 (.aload_n 0) 1 1 := ⟨by decide +kernel, rfl⟩
theorem d_X6_takeKnot_1 : DC mi_X6_takeKnot 1 (.getfield 56) 3 4 := ⟨by decide +kernel, rfl⟩
theorem d_X6_takeKnot_4 : DC mi_X6_takeKnot 4 (.bipush 64) 2 6 := ⟨by decide +kernel, rfl⟩
theorem d_X6_takeKnot_6 : DB mi_X6_takeKnot 6 (.if_icmp .lt 8) 8 9 14 := ⟨by decide +kernel, rfl, by decide⟩
theorem d_X6_takeKnot_9 : DC mi_X6_takeKnot 9 (.aload_n 0) 1 10 := ⟨by decide +kernel, rfl⟩
theorem d_X6_takeKnot_10 : DC mi_X6_takeKnot 10 (.iconst 2) 1 11 := ⟨by decide +kernel, rfl⟩
theorem d_X6_takeKnot_11 : DC mi_X6_takeKnot 11 (.invokevirtual 103) 3 14 := ⟨by decide +kernel, rfl⟩
theorem d_X6_takeKnot_14 : DC mi_X6_takeKnot 14 (.aload_n 0) 1 15 := ⟨by decide +kernel, rfl⟩
theorem d_X6_takeKnot_15 : DC mi_X6_takeKnot 15 (.dup) 1 16 := ⟨by decide +kernel, rfl⟩
theorem d_X6_takeKnot_16 : DC mi_X6_takeKnot 16 (.getfield 56) 3 19 := ⟨by decide +kernel, rfl⟩
theorem d_X6_takeKnot_19 : DC mi_X6_takeKnot 19 (.iconst 1) 1 20 := ⟨by decide +kernel, rfl⟩
theorem d_X6_takeKnot_20 : DC mi_X6_takeKnot 20 (.iadd) 1 21 := ⟨by decide +kernel, rfl⟩
theorem d_X6_takeKnot_21 : DC mi_X6_takeKnot 21 (.putfield 56) 3 24 := ⟨by decide +kernel, rfl⟩
theorem d_X6_takeKnot_24 : DC mi_X6_takeKnot 24 (.aload_n 0) 1 25 := ⟨by decide +kernel, rfl⟩
theorem d_X6_takeKnot_25 : DC mi_X6_takeKnot 25 (.invokevirtual 106) 3 28 := ⟨by decide +kernel, rfl⟩
theorem d_X6_takeKnot_28 : DC mi_X6_takeKnot 28 (.return_) 1 29 := ⟨by decide +kernel, rfl⟩
set_option maxHeartbeats 4000000 in
set_option maxRecDepth 100000 in
theorem sp_X6_takeKnot (d : Nat) (hd : 1 ≤ d) (h : HH) : Sp mi_X6_takeKnot d iU [.ref 24] h (g_X6_takeKnot h) := by
  refine sp_of (lc := [(0, .ref 24)]) (by decide) (Nat.le_of_ble_eq_true rfl) rfl ?_
  unfold g_X6_takeKnot
  refine sx_aload_n d_X6_takeKnot_0 0 rfl ?_
  refine sx_getI fl_StairCount_Reader_56 sh_24 rfl d_X6_takeKnot_1 (fun v1 => ?_)
  refine sx_bipush d_X6_takeKnot_4 bc64 ?_
  refine sx_jn (fun j => ∀  (h : HH), Sx mi_X6_takeKnot d iU (j  h) 14 [(0, .ref 24)] [] h) ?_ ?_
  · intro  h4
    refine sx_aload_n d_X6_takeKnot_14 0 rfl ?_
    refine sx_dup d_X6_takeKnot_15 rfl ?_
    refine sx_getI fl_StairCount_Reader_56 sh_24 rfl d_X6_takeKnot_16 (fun v5 => ?_)
    refine sx_iconst d_X6_takeKnot_19 ic1 ?_
    refine sx_iadd d_X6_takeKnot_20 ?_
    refine sx_putI fl_StairCount_Reader_56 sh_24 rfl hty_6_11 d_X6_takeKnot_21 (fun h6 => ?_)
    refine sx_aload_n d_X6_takeKnot_24 0 rfl ?_
    refine sx_callV [] mv_X6_advance lM_StairCount_Reader_106 sh_24 (by omega) rfl rfl (Nat.le_of_ble_eq_true rfl) d_X6_takeKnot_25 (sp_X6_advance (d - 1) (by omega) h6) (fun _ h7 => ?_)
    exact sx_vret rfl d_X6_takeKnot_28
  · intro j2 k3
    refine sx_icmp_lt d_X6_takeKnot_6 ?_ ?_
    · exact k3 h
    · refine sx_aload_n d_X6_takeKnot_9 0 rfl ?_
      refine sx_iconst d_X6_takeKnot_10 ic2 ?_
      refine sx_callV [.int (2 : Int32)] mv_X6_fail lM_StairCount_Reader_103 sh_24 (by omega) rfl rfl (Nat.le_of_ble_eq_true rfl) d_X6_takeKnot_11 (sp_X6_fail (d - 1) (by omega) (2 : Int32) h) (fun _ h9 => ?_)
      exact k3 h9
theorem d_X6_strength_0 : DC mi_X6_strength 0 (.iload_n 0) 1 1 := ⟨by decide +kernel, rfl⟩
theorem d_X6_strength_1 : DC mi_X6_strength 1 (.bipush 32) 2 3 := ⟨by decide +kernel, rfl⟩
theorem d_X6_strength_3 : DB mi_X6_strength 3 (.if_icmp .ne 5) 5 6 8 := ⟨by decide +kernel, rfl, by decide⟩
theorem d_X6_strength_6 : DC mi_X6_strength 6 (.iconst 1) 1 7 := ⟨by decide +kernel, rfl⟩
theorem d_X6_strength_7 : DC mi_X6_strength 7 (.ireturn) 1 8 := ⟨by decide +kernel, rfl⟩
theorem d_X6_strength_8 : DC mi_X6_strength 8 (.iload_n 0) 1 9 := ⟨by decide +kernel, rfl⟩
theorem d_X6_strength_9 : DC mi_X6_strength 9 (.bipush 31) 2 11 := ⟨by decide +kernel, rfl⟩
theorem d_X6_strength_11 : DB mi_X6_strength 11 (.if_icmp .ne 5) 5 14 16 := ⟨by decide +kernel, rfl, by decide⟩
theorem d_X6_strength_14 : DC mi_X6_strength 14 (.iconst 2) 1 15 := ⟨by decide +kernel, rfl⟩
theorem d_X6_strength_15 : DC mi_X6_strength 15 (.ireturn) 1 16 := ⟨by decide +kernel, rfl⟩
theorem d_X6_strength_16 : DC mi_X6_strength 16 (.iload_n 0) 1 17 := ⟨by decide +kernel, rfl⟩
theorem d_X6_strength_17 : DC mi_X6_strength 17 (.bipush 33) 2 19 := ⟨by decide +kernel, rfl⟩
theorem d_X6_strength_19 : DB mi_X6_strength 19 (.if_icmp .ne 5) 5 22 24 := ⟨by decide +kernel, rfl, by decide⟩
theorem d_X6_strength_22 : DC mi_X6_strength 22 (.iconst 3) 1 23 := ⟨by decide +kernel, rfl⟩
theorem d_X6_strength_23 : DC mi_X6_strength 23 (.ireturn) 1 24 := ⟨by decide +kernel, rfl⟩
theorem d_X6_strength_24 : DC mi_X6_strength 24 (.iload_n 0) 1 25 := ⟨by decide +kernel, rfl⟩
theorem d_X6_strength_25 : DC mi_X6_strength 25 (.bipush 7) 2 27 := ⟨by decide +kernel, rfl⟩
theorem d_X6_strength_27 : DB mi_X6_strength 27 (.if_icmp .lt 11) 11 30 38 := ⟨by decide +kernel, rfl, by decide⟩
theorem d_X6_strength_30 : DC mi_X6_strength 30 (.iload_n 0) 1 31 := ⟨by decide +kernel, rfl⟩
theorem d_X6_strength_31 : DC mi_X6_strength 31 (.bipush 12) 2 33 := ⟨by decide +kernel, rfl⟩
theorem d_X6_strength_33 : DB mi_X6_strength 33 (.if_icmp .gt 5) 5 36 38 := ⟨by decide +kernel, rfl, by decide⟩
theorem d_X6_strength_36 : DC mi_X6_strength 36 (.iconst 4) 1 37 := ⟨by decide +kernel, rfl⟩
theorem d_X6_strength_37 : DC mi_X6_strength 37 (.ireturn) 1 38 := ⟨by decide +kernel, rfl⟩
theorem d_X6_strength_38 : DC mi_X6_strength 38 (.iload_n 0) 1 39 := ⟨by decide +kernel, rfl⟩
theorem d_X6_strength_39 : DC mi_X6_strength 39 (.bipush 13) 2 41 := ⟨by decide +kernel, rfl⟩
theorem d_X6_strength_41 : DB mi_X6_strength 41 (.if_icmp .eq 9) 9 44 50 := ⟨by decide +kernel, rfl, by decide⟩
theorem d_X6_strength_44 : DC mi_X6_strength 44 (.iload_n 0) 1 45 := ⟨by decide +kernel, rfl⟩
theorem d_X6_strength_45 : DC mi_X6_strength 45 (.bipush 14) 2 47 := ⟨by decide +kernel, rfl⟩
theorem d_X6_strength_47 : DB mi_X6_strength 47 (.if_icmp .ne 5) 5 50 52 := ⟨by decide +kernel, rfl, by decide⟩
theorem d_X6_strength_50 : DC mi_X6_strength 50 (.iconst 5) 1 51 := ⟨by decide +kernel, rfl⟩
theorem d_X6_strength_51 : DC mi_X6_strength 51 (.ireturn) 1 52 := ⟨by decide +kernel, rfl⟩
theorem d_X6_strength_52 : DC mi_X6_strength 52 (.iload_n 0) 1 53 := ⟨by decide +kernel, rfl⟩
theorem d_X6_strength_53 : DC mi_X6_strength 53 (.bipush 15) 2 55 := ⟨by decide +kernel, rfl⟩
theorem d_X6_strength_55 : DB mi_X6_strength 55 (.if_icmp .eq 9) 9 58 64 := ⟨by decide +kernel, rfl, by decide⟩
theorem d_X6_strength_58 : DC mi_X6_strength 58 (.iload_n 0) 1 59 := ⟨by decide +kernel, rfl⟩
theorem d_X6_strength_59 : DC mi_X6_strength 59 (.bipush 16) 2 61 := ⟨by decide +kernel, rfl⟩
theorem d_X6_strength_61 : DB mi_X6_strength 61 (.if_icmp .ne 8) 8 64 69 := ⟨by decide +kernel, rfl, by decide⟩
theorem d_X6_strength_64 : DC mi_X6_strength 64 (.bipush 6) 2 66 := ⟨by decide +kernel, rfl⟩
theorem d_X6_strength_66 : DB mi_X6_strength 66 (.goto 4) 4 69 70 := ⟨by decide +kernel, rfl, by decide⟩
theorem d_X6_strength_69 : DC mi_X6_strength 69 (.iconst 0) 1 70 := ⟨by decide +kernel, rfl⟩
theorem d_X6_strength_70 : DC mi_X6_strength 70 (.ireturn) 1 71 := ⟨by decide +kernel, rfl⟩
set_option maxHeartbeats 4000000 in
set_option maxRecDepth 100000 in
theorem sp_X6_strength (d : Nat) (hd : 0 ≤ d) (a0 : Int32) (h : HH) : Sp mi_X6_strength d iI [.int a0] h (g_X6_strength a0 h) := by
  refine sp_of (lc := [(0, .int a0)]) (by decide) (Nat.le_of_ble_eq_true rfl) rfl ?_
  unfold g_X6_strength
  refine sx_iload_n d_X6_strength_0 0 rfl ?_
  refine sx_bipush d_X6_strength_1 bc32 ?_
  refine sx_icmp_ne d_X6_strength_3 ?_ ?_
  · refine sx_iconst d_X6_strength_6 ic1 ?_
    exact sx_iret rfl d_X6_strength_7
  · refine sx_iload_n d_X6_strength_8 0 rfl ?_
    refine sx_bipush d_X6_strength_9 bc31 ?_
    refine sx_icmp_ne d_X6_strength_11 ?_ ?_
    · refine sx_iconst d_X6_strength_14 ic2 ?_
      exact sx_iret rfl d_X6_strength_15
    · refine sx_iload_n d_X6_strength_16 0 rfl ?_
      refine sx_bipush d_X6_strength_17 bc33 ?_
      refine sx_icmp_ne d_X6_strength_19 ?_ ?_
      · refine sx_iconst d_X6_strength_22 ic3 ?_
        exact sx_iret rfl d_X6_strength_23
      · refine sx_iload_n d_X6_strength_24 0 rfl ?_
        refine sx_bipush d_X6_strength_25 bc7 ?_
        refine sx_jn (fun j => ∀  (h : HH), Sx mi_X6_strength d iI (j  h) 38 [(0, .int a0)] [] h) ?_ ?_
        · intro  h3
          refine sx_iload_n d_X6_strength_38 0 rfl ?_
          refine sx_bipush d_X6_strength_39 bc13 ?_
          refine sx_icmp_eq d_X6_strength_41 ?_ ?_
          · refine sx_iconst d_X6_strength_50 ic5 ?_
            exact sx_iret rfl d_X6_strength_51
          · refine sx_iload_n d_X6_strength_44 0 rfl ?_
            refine sx_bipush d_X6_strength_45 bc14 ?_
            refine sx_icmp_ne d_X6_strength_47 ?_ ?_
            · refine sx_iconst d_X6_strength_50 ic5 ?_
              exact sx_iret rfl d_X6_strength_51
            · refine sx_iload_n d_X6_strength_52 0 rfl ?_
              refine sx_bipush d_X6_strength_53 bc15 ?_
              refine sx_icmp_eq d_X6_strength_55 ?_ ?_
              · refine sx_bipush d_X6_strength_64 bc6 ?_
                refine sx_goto d_X6_strength_66 ?_
                exact sx_iret rfl d_X6_strength_70
              · refine sx_iload_n d_X6_strength_58 0 rfl ?_
                refine sx_bipush d_X6_strength_59 bc16 ?_
                refine sx_icmp_ne d_X6_strength_61 ?_ ?_
                · refine sx_bipush d_X6_strength_64 bc6 ?_
                  refine sx_goto d_X6_strength_66 ?_
                  exact sx_iret rfl d_X6_strength_70
                · refine sx_iconst d_X6_strength_69 ic0 ?_
                  exact sx_iret rfl d_X6_strength_70
        · intro j1 k2
          refine sx_icmp_lt d_X6_strength_27 ?_ ?_
          · exact k2 h
          · refine sx_iload_n d_X6_strength_30 0 rfl ?_
            refine sx_bipush d_X6_strength_31 bc12 ?_
            refine sx_icmp_gt d_X6_strength_33 ?_ ?_
            · exact k2 h
            · refine sx_iconst d_X6_strength_36 ic4 ?_
              exact sx_iret rfl d_X6_strength_37
theorem d_X6_waitingStrength_0 : DC mi_X6_waitingStrength 0 (.aload_n 0) 1 1 := ⟨by decide +kernel, rfl⟩
theorem d_X6_waitingStrength_1 : DC mi_X6_waitingStrength 1 (.getfield 215) 3 4 := ⟨by decide +kernel, rfl⟩
theorem d_X6_waitingStrength_4 : DB mi_X6_waitingStrength 4 (.ifCond .le 20) 20 7 24 := ⟨by decide +kernel, rfl, by decide⟩
theorem d_X6_waitingStrength_7 : DC mi_X6_waitingStrength 7 (.aload_n 0) 1 8 := ⟨by decide +kernel, rfl⟩
theorem d_X6_waitingStrength_8 : DC mi_X6_waitingStrength 8 (.getfield 18) 3 11 := ⟨by decide +kernel, rfl⟩
theorem d_X6_waitingStrength_11 : DC mi_X6_waitingStrength 11 (.aload_n 0) 1 12 := ⟨by decide +kernel, rfl⟩
theorem d_X6_waitingStrength_12 : DC mi_X6_waitingStrength 12 (.getfield 215) 3 15 := ⟨by decide +kernel, rfl⟩
theorem d_X6_waitingStrength_15 : DC mi_X6_waitingStrength 15 (.iconst 1) 1 16 := ⟨by decide +kernel, rfl⟩
theorem d_X6_waitingStrength_16 : DC mi_X6_waitingStrength 16 (.isub) 1 17 := ⟨by decide +kernel, rfl⟩
theorem d_X6_waitingStrength_17 : DC mi_X6_waitingStrength 17 (.iaload) 1 18 := ⟨by decide +kernel, rfl⟩
theorem d_X6_waitingStrength_18 : DC mi_X6_waitingStrength 18 (.invokestatic 221) 3 21 := ⟨by decide +kernel, rfl⟩
theorem d_X6_waitingStrength_21 : DB mi_X6_waitingStrength 21 (.goto 4) 4 24 25 := ⟨by decide +kernel, rfl, by decide⟩
theorem d_X6_waitingStrength_24 : DC mi_X6_waitingStrength 24 (.iconst 0) 1 25 := ⟨by decide +kernel, rfl⟩
theorem d_X6_waitingStrength_25 : DC mi_X6_waitingStrength 25 (.ireturn) 1 26 := ⟨by decide +kernel, rfl⟩
set_option maxHeartbeats 4000000 in
set_option maxRecDepth 100000 in
theorem sp_X6_waitingStrength (d : Nat) (hd : 1 ≤ d) (h : HH) : Sp mi_X6_waitingStrength d iI [.ref 24] h (g_X6_waitingStrength h) := by
  refine sp_of (lc := [(0, .ref 24)]) (by decide) (Nat.le_of_ble_eq_true rfl) rfl ?_
  unfold g_X6_waitingStrength
  refine sx_aload_n d_X6_waitingStrength_0 0 rfl ?_
  refine sx_getI fl_StairCount_Reader_215 sh_24 rfl d_X6_waitingStrength_1 (fun v1 => ?_)
  refine sx_if_le d_X6_waitingStrength_4 ?_ ?_
  · refine sx_aload_n d_X6_waitingStrength_7 0 rfl ?_
    refine sx_getF (a' := 29) fl_StairCount_Reader_18 sh_24 rfl rfl d_X6_waitingStrength_8 ?_
    refine sx_aload_n d_X6_waitingStrength_11 0 rfl ?_
    refine sx_getI fl_StairCount_Reader_215 sh_24 rfl d_X6_waitingStrength_12 (fun v2 => ?_)
    refine sx_iconst d_X6_waitingStrength_15 ic1 ?_
    refine sx_isub d_X6_waitingStrength_16 ?_
    refine sx_iald sh_29 d_X6_waitingStrength_17 (fun v3 => ?_)
    refine sx_callS [.int v3] ms_X6_strength lM_StairCount_Reader_221 (by omega) rfl rfl (Nat.le_of_ble_eq_true rfl) d_X6_waitingStrength_18 (sp_X6_strength (d - 1) (by omega) v3 h) (fun r5 h4 => ?_)
    refine sx_goto d_X6_waitingStrength_21 ?_
    exact sx_iret rfl d_X6_waitingStrength_25
  · refine sx_iconst d_X6_waitingStrength_24 ic0 ?_
    exact sx_iret rfl d_X6_waitingStrength_25
theorem d_X6_readPart_0 : DC mi_X6_readPart 0 (.iload_n 1) 1 1 := ⟨by decide +kernel, rfl⟩
theorem d_X6_readPart_1 : DC mi_X6_readPart 1 (.iconst 5) 1 2 := ⟨by decide +kernel, rfl⟩
theorem d_X6_readPart_2 : DB mi_X6_readPart 2 (.if_icmp .ne 41) 41 5 43 := ⟨by decide +kernel, rfl, by decide⟩
theorem d_X6_readPart_5 : DC mi_X6_readPart 5 (.aload_n 0) 1 6 := ⟨by decide +kernel, rfl⟩
theorem d_X6_readPart_6 : DC mi_X6_readPart 6 (.getfield 218) 3 9 := ⟨by decide +kernel, rfl⟩
theorem d_X6_readPart_9 : DC mi_X6_readPart 9 (.bipush 8) 2 11 := ⟨by decide +kernel, rfl⟩
theorem d_X6_readPart_11 : DB mi_X6_readPart 11 (.if_icmp .lt 11) 11 14 22 := ⟨by decide +kernel, rfl, by decide⟩
theorem d_X6_readPart_14 : DC mi_X6_readPart 14 (.aload_n 0) 1 15 := ⟨by decide +kernel, rfl⟩
theorem d_X6_readPart_15 : DC mi_X6_readPart 15 (.iconst 2) 1 16 := ⟨by decide +kernel, rfl⟩
theorem d_X6_readPart_16 : DC mi_X6_readPart 16 (.invokevirtual 103) 3 19 := ⟨by decide +kernel, rfl⟩
theorem d_X6_readPart_19 : DB mi_X6_readPart 19 (.goto 22) 22 22 41 := ⟨by decide +kernel, rfl, by decide⟩
theorem d_X6_readPart_22 : DC mi_X6_readPart 22 (.aload_n 0) 1 23 := ⟨by decide +kernel, rfl⟩
theorem d_X6_readPart_23 : DC mi_X6_readPart 23 (.dup) 1 24 := ⟨by decide +kernel, rfl⟩
theorem d_X6_readPart_24 : DC mi_X6_readPart 24 (.getfield 218) 3 27 := ⟨by decide +kernel, rfl⟩
theorem d_X6_readPart_27 : DC mi_X6_readPart 27 (.iconst 1) 1 28 := ⟨by decide +kernel, rfl⟩
theorem d_X6_readPart_28 : DC mi_X6_readPart 28 (.iadd) 1 29 := ⟨by decide +kernel, rfl⟩
theorem d_X6_readPart_29 : DC mi_X6_readPart 29 (.putfield 218) 3 32 := ⟨by decide +kernel, rfl⟩
theorem d_X6_readPart_32 : DC mi_X6_readPart 32 (.aload_n 0) 1 33 := ⟨by decide +kernel, rfl⟩
theorem d_X6_readPart_33 : DC mi_X6_readPart 33 (.iload_n 1) 1 34 := ⟨by decide +kernel, rfl⟩
theorem d_X6_readPart_34 : DC mi_X6_readPart 34 (.invokevirtual 236) 3 37 := ⟨by decide +kernel, rfl⟩
theorem d_X6_readPart_37 : DC mi_X6_readPart 37 (.aload_n 0) 1 38 := ⟨by decide +kernel, rfl⟩
theorem d_X6_readPart_38 : DC mi_X6_readPart 38 (.invokevirtual 106) 3 41 := ⟨by decide +kernel, rfl⟩
theorem d_X6_readPart_41 : DC mi_X6_readPart 41 (.iconst 0) 1 42 := ⟨by decide +kernel, rfl⟩
theorem d_X6_readPart_42 : DC mi_X6_readPart 42 (.ireturn) 1 43 := ⟨by decide +kernel, rfl⟩
theorem d_X6_readPart_43 : DC mi_X6_readPart 43 (.iload_n 1) 1 44 := ⟨by decide +kernel, rfl⟩
theorem d_X6_readPart_44 : DC mi_X6_readPart 44 (.bipush 33) 2 46 := ⟨by decide +kernel, rfl⟩
theorem d_X6_readPart_46 : DB mi_X6_readPart 46 (.if_icmp .ne 22) 22 49 68 := ⟨by decide +kernel, rfl, by decide⟩
theorem d_X6_readPart_49 : DC mi_X6_readPart 49 (.aload_n 0) 1 50 := ⟨by decide +kernel, rfl⟩
theorem d_X6_readPart_50 : DC mi_X6_readPart 50 (.invokevirtual 230) 3 53 := ⟨by decide +kernel, rfl⟩
theorem d_X6_readPart_53 : DC mi_X6_readPart 53 (.iconst 4) 1 54 := ⟨by decide +kernel, rfl⟩
theorem d_X6_readPart_54 : DB mi_X6_readPart 54 (.if_icmp .ge 14) 14 57 68 := ⟨by decide +kernel, rfl, by decide⟩
theorem d_X6_readPart_57 : DC mi_X6_readPart 57 (.aload_n 0) 1 58 := ⟨by decide +kernel, rfl⟩
theorem d_X6_readPart_58 : DC mi_X6_readPart 58 (.invokevirtual 233) 3 61 := ⟨by decide +kernel, rfl⟩
theorem d_X6_readPart_61 : DC mi_X6_readPart 61 (.aload_n 0) 1 62 := ⟨by decide +kernel, rfl⟩
theorem d_X6_readPart_62 : DC mi_X6_readPart 62 (.iload_n 1) 1 63 := ⟨by decide +kernel, rfl⟩
theorem d_X6_readPart_63 : DC mi_X6_readPart 63 (.invokevirtual 236) 3 66 := ⟨by decide +kernel, rfl⟩
theorem d_X6_readPart_66 : DC mi_X6_readPart 66 (.iconst 0) 1 67 := ⟨by decide +kernel, rfl⟩
theorem d_X6_readPart_67 : DC mi_X6_readPart 67 (.ireturn) 1 68 := ⟨by decide +kernel, rfl⟩
theorem d_X6_readPart_68 : DC mi_X6_readPart 68 (.iload_n 1) 1 69 := ⟨by decide +kernel, rfl⟩
theorem d_X6_readPart_69 : DC mi_X6_readPart 69 (.iconst 2) 1 70 := ⟨by decide +kernel, rfl⟩
theorem d_X6_readPart_70 : DB mi_X6_readPart 70 (.if_icmp .ne 7) 7 73 77 := ⟨by decide +kernel, rfl, by decide⟩
theorem d_X6_readPart_73 : DC mi_X6_readPart 73 (.iconst 1) 1 74 := ⟨by decide +kernel, rfl⟩
theorem d_X6_readPart_74 : DB mi_X6_readPart 74 (.goto 4) 4 77 78 := ⟨by decide +kernel, rfl, by decide⟩
theorem d_X6_readPart_77 : DC mi_X6_readPart 77 (.iconst 0) 1 78 := ⟨by decide +kernel, rfl⟩
theorem d_X6_readPart_78 : DC mi_X6_readPart 78 (.istore_n 2) 1 79 := ⟨by decide +kernel, rfl⟩
theorem d_X6_readPart_79 : DC mi_X6_readPart 79 (.iload_n 2) 1 80 := ⟨by decide +kernel, rfl⟩
theorem d_X6_readPart_80 : DB mi_X6_readPart 80 (.ifCond .ne 22) 22 83 102 := ⟨by decide +kernel, rfl, by decide⟩
theorem d_X6_readPart_83 : DC mi_X6_readPart 83 (.iload_n 1) 1 84 := ⟨by decide +kernel, rfl⟩
theorem d_X6_readPart_84 : DC mi_X6_readPart 84 (.bipush 34) 2 86 := ⟨by decide +kernel, rfl⟩
theorem d_X6_readPart_86 : DB mi_X6_readPart 86 (.if_icmp .lt 9) 9 89 95 := ⟨by decide +kernel, rfl, by decide⟩
theorem d_X6_readPart_89 : DC mi_X6_readPart 89 (.iload_n 1) 1 90 := ⟨by decide +kernel, rfl⟩
theorem d_X6_readPart_90 : DC mi_X6_readPart 90 (.bipush 40) 2 92 := ⟨by decide +kernel, rfl⟩
theorem d_X6_readPart_92 : DB mi_X6_readPart 92 (.if_icmp .le 10) 10 95 102 := ⟨by decide +kernel, rfl, by decide⟩
theorem d_X6_readPart_95 : DC mi_X6_readPart 95 (.aload_n 0) 1 96 := ⟨by decide +kernel, rfl⟩
theorem d_X6_readPart_96 : DC mi_X6_readPart 96 (.iconst 1) 1 97 := ⟨by decide +kernel, rfl⟩
theorem d_X6_readPart_97 : DC mi_X6_readPart 97 (.invokevirtual 103) 3 100 := ⟨by decide +kernel, rfl⟩
theorem d_X6_readPart_100 : DC mi_X6_readPart 100 (.iconst 0) 1 101 := ⟨by decide +kernel, rfl⟩
theorem d_X6_readPart_101 : DC mi_X6_readPart 101 (.ireturn) 1 102 := ⟨by decide +kernel, rfl⟩
theorem d_X6_readPart_102 : DC mi_X6_readPart 102 (.iload_n 2) 1 103 := ⟨by decide +kernel, rfl⟩
theorem d_X6_readPart_103 : DB mi_X6_readPart 103 (.ifCond .eq 14) 14 106 117 := ⟨by decide +kernel, rfl, by decide⟩
theorem d_X6_readPart_106 : DC mi_X6_readPart 106 (.aload_n 0) 1 107 := ⟨by decide +kernel, rfl⟩
theorem d_X6_readPart_107 : DC mi_X6_readPart 107 (.iconst 0) 1 108 := ⟨by decide +kernel, rfl⟩
theorem d_X6_readPart_108 : DC mi_X6_readPart 108 (.sipush 9999) 3 111 := ⟨by decide +kernel, rfl⟩
theorem d_X6_readPart_111 : DC mi_X6_readPart 111 (.invokevirtual 112) 3 114 := ⟨by decide +kernel, rfl⟩
theorem d_X6_readPart_114 : DB mi_X6_readPart 114 (.goto 4) 4 117 118 := ⟨by decide +kernel, rfl, by decide⟩
theorem d_X6_readPart_117 : DC mi_X6_readPart 117 (.iconst 0) 1 118 := ⟨by decide +kernel, rfl⟩
theorem d_X6_readPart_118 : DC mi_X6_readPart 118 (.istore_n 3) 1 119 := ⟨by decide +kernel, rfl⟩
theorem d_X6_readPart_119 : DC mi_X6_readPart 119 (.aload_n 0) 1 120 := ⟨by decide +kernel, rfl⟩
theorem d_X6_readPart_120 : DC mi_X6_readPart 120 (.invokevirtual 233) 3 123 := ⟨by decide +kernel, rfl⟩
theorem d_X6_readPart_123 : DC mi_X6_readPart 123 (.aload_n 0) 1 124 := ⟨by decide +kernel, rfl⟩
theorem d_X6_readPart_124 : DC mi_X6_readPart 124 (.iload_n 1) 1 125 := ⟨by decide +kernel, rfl⟩
theorem d_X6_readPart_125 : DC mi_X6_readPart 125 (.iload_n 3) 1 126 := ⟨by decide +kernel, rfl⟩
theorem d_X6_readPart_126 : DC mi_X6_readPart 126 (.invokevirtual 239) 3 129 := ⟨by decide +kernel, rfl⟩
theorem d_X6_readPart_129 : DC mi_X6_readPart 129 (.iconst 1) 1 130 := ⟨by decide +kernel, rfl⟩
theorem d_X6_readPart_130 : DC mi_X6_readPart 130 (.ireturn) 1 131 := ⟨by decide +kernel, rfl⟩
set_option maxHeartbeats 4000000 in
set_option maxRecDepth 100000 in
theorem sp_X6_readPart (d : Nat) (hd : 2 ≤ d) (a0 : Int32) (h : HH) : Sp mi_X6_readPart d iI [.ref 24, .int a0] h (g_X6_readPart a0 h) := by
  refine sp_of (lc := [(0, .ref 24), (1, .int a0)]) (by decide) (Nat.le_of_ble_eq_true rfl) rfl ?_
  unfold g_X6_readPart
  refine sx_iload_n d_X6_readPart_0 1 rfl ?_
  refine sx_iconst d_X6_readPart_1 ic5 ?_
  refine sx_icmp_ne d_X6_readPart_2 ?_ ?_
  · refine sx_aload_n d_X6_readPart_5 0 rfl ?_
    refine sx_getI fl_StairCount_Reader_218 sh_24 rfl d_X6_readPart_6 (fun v1 => ?_)
    refine sx_bipush d_X6_readPart_9 bc8 ?_
    refine sx_icmp_lt d_X6_readPart_11 ?_ ?_
    · refine sx_aload_n d_X6_readPart_22 0 rfl ?_
      refine sx_dup d_X6_readPart_23 rfl ?_
      refine sx_getI fl_StairCount_Reader_218 sh_24 rfl d_X6_readPart_24 (fun v2 => ?_)
      refine sx_iconst d_X6_readPart_27 ic1 ?_
      refine sx_iadd d_X6_readPart_28 ?_
      refine sx_putI fl_StairCount_Reader_218 sh_24 rfl hty_6_10 d_X6_readPart_29 (fun h3 => ?_)
      refine sx_aload_n d_X6_readPart_32 0 rfl ?_
      refine sx_iload_n d_X6_readPart_33 1 rfl ?_
      refine sx_callV [.int a0] mv_X6_await lM_StairCount_Reader_236 sh_24 (by omega) rfl rfl (Nat.le_of_ble_eq_true rfl) d_X6_readPart_34 (sp_X6_await (d - 1) (by omega) a0 h3) (fun _ h4 => ?_)
      refine sx_aload_n d_X6_readPart_37 0 rfl ?_
      refine sx_callV [] mv_X6_advance lM_StairCount_Reader_106 sh_24 (by omega) rfl rfl (Nat.le_of_ble_eq_true rfl) d_X6_readPart_38 (sp_X6_advance (d - 1) (by omega) h4) (fun _ h6 => ?_)
      refine sx_iconst d_X6_readPart_41 ic0 ?_
      exact sx_zret (by decide) rfl d_X6_readPart_42
    · refine sx_aload_n d_X6_readPart_14 0 rfl ?_
      refine sx_iconst d_X6_readPart_15 ic2 ?_
      refine sx_callV [.int (2 : Int32)] mv_X6_fail lM_StairCount_Reader_103 sh_24 (by omega) rfl rfl (Nat.le_of_ble_eq_true rfl) d_X6_readPart_16 (sp_X6_fail (d - 1) (by omega) (2 : Int32) h) (fun _ h8 => ?_)
      refine sx_goto d_X6_readPart_19 ?_
      refine sx_iconst d_X6_readPart_41 ic0 ?_
      exact sx_zret (by decide) rfl d_X6_readPart_42
  · refine sx_iload_n d_X6_readPart_43 1 rfl ?_
    refine sx_bipush d_X6_readPart_44 bc33 ?_
    refine sx_jn (fun j => ∀  (h : HH), Sx mi_X6_readPart d iI (j  h) 68 [(0, .ref 24), (1, .int a0)] [] h) ?_ ?_
    · intro  h12
      refine sx_iload_n d_X6_readPart_68 1 rfl ?_
      refine sx_iconst d_X6_readPart_69 ic2 ?_
      refine sx_jn (fun j => ∀ (y16 : Int32) (h : HH), Sx mi_X6_readPart d iI (j y16 h) 78 [(0, .ref 24), (1, .int a0)] [.int y16] h) ?_ ?_
      · intro y16 h15
        refine sx_istore_n (i := 2) (lc' := [(2, .int y16), (0, .ref 24), (1, .int a0)]) d_X6_readPart_78 rfl (by decide) rfl ?_
        refine sx_iload_n d_X6_readPart_79 0 rfl ?_
        refine sx_jn (fun j => ∀  (h : HH), Sx mi_X6_readPart d iI (j  h) 102 [(0, .ref 24), (1, .int a0), (2, .int y16)] [] h) ?_ ?_
        · intro  h19
          refine sx_iload_n d_X6_readPart_102 2 rfl ?_
          refine sx_jn (fun j => ∀ (y23 : Int32) (h : HH), Sx mi_X6_readPart d iI (j y23 h) 118 [(0, .ref 24), (1, .int a0)] [.int y23] h) ?_ ?_
          · intro y23 h22
            refine sx_istore_n (i := 3) (lc' := [(3, .int y23), (0, .ref 24), (1, .int a0)]) d_X6_readPart_118 rfl (by decide) rfl ?_
            refine sx_aload_n d_X6_readPart_119 1 rfl ?_
            refine sx_callV [] mv_X6_takeKnot lM_StairCount_Reader_233 sh_24 (by omega) rfl rfl (Nat.le_of_ble_eq_true rfl) d_X6_readPart_120 (sp_X6_takeKnot (d - 1) (by omega) h22) (fun _ h24 => ?_)
            refine sx_aload_n d_X6_readPart_123 1 rfl ?_
            refine sx_iload_n d_X6_readPart_124 2 rfl ?_
            refine sx_iload_n d_X6_readPart_125 0 rfl ?_
            refine sx_callV [.int a0, .int y23] mv_X6_emit lM_StairCount_Reader_239 sh_24 (by omega) rfl rfl (Nat.le_of_ble_eq_true rfl) d_X6_readPart_126 (sp_X6_emit (d - 1) (by omega) a0 y23 h24) (fun _ h26 => ?_)
            refine sx_iconst d_X6_readPart_129 ic1 ?_
            exact sx_zret (by decide) rfl d_X6_readPart_130
          · intro j20 k21
            refine sx_if_eq d_X6_readPart_103 ?_ ?_
            · refine sx_iconst d_X6_readPart_117 ic0 ?_
              refine sx_lc (lc' := [(0, .ref 24), (1, .int a0)]) [0, 1] rfl ?_
              exact k21 (0 : Int32) h19
            · refine sx_aload_n d_X6_readPart_106 0 rfl ?_
              refine sx_iconst d_X6_readPart_107 ic0 ?_
              refine sx_sipush d_X6_readPart_108 sc9999 ?_
              refine sx_callV [.int (0 : Int32), .int (9999 : Int32)] mv_X6_look lM_StairCount_Reader_112 sh_24 (by omega) rfl rfl (Nat.le_of_ble_eq_true rfl) d_X6_readPart_111 (sp_X6_look (d - 1) (by omega) (0 : Int32) (9999 : Int32) h19) (fun r29 h28 => ?_)
              refine sx_goto d_X6_readPart_114 ?_
              refine sx_lc (lc' := [(0, .ref 24), (1, .int a0)]) [0, 1] rfl ?_
              exact k21 r29 h28
        · intro j17 k18
          refine sx_if_ne d_X6_readPart_80 ?_ ?_
          · refine sx_iload_n d_X6_readPart_83 2 rfl ?_
            refine sx_bipush d_X6_readPart_84 bc34 ?_
            refine sx_jn (fun j => ∀  (h : HH), Sx mi_X6_readPart d iI (j  h) 95 [(0, .ref 24)] [] h) ?_ ?_
            · intro  h32
              refine sx_aload_n d_X6_readPart_95 0 rfl ?_
              refine sx_iconst d_X6_readPart_96 ic1 ?_
              refine sx_callV [.int (1 : Int32)] mv_X6_fail lM_StairCount_Reader_103 sh_24 (by omega) rfl rfl (Nat.le_of_ble_eq_true rfl) d_X6_readPart_97 (sp_X6_fail (d - 1) (by omega) (1 : Int32) h32) (fun _ h33 => ?_)
              refine sx_iconst d_X6_readPart_100 ic0 ?_
              exact sx_zret (by decide) rfl d_X6_readPart_101
            · intro j30 k31
              refine sx_icmp_lt d_X6_readPart_86 ?_ ?_
              · refine sx_lc (lc' := [(0, .ref 24)]) [1] rfl ?_
                exact k31 h15
              · refine sx_iload_n d_X6_readPart_89 2 rfl ?_
                refine sx_bipush d_X6_readPart_90 bc40 ?_
                refine sx_icmp_le d_X6_readPart_92 ?_ ?_
                · refine sx_lc (lc' := [(0, .ref 24)]) [1] rfl ?_
                  exact k31 h15
                · refine sx_lc (lc' := [(0, .ref 24), (1, .int a0), (2, .int y16)]) [1, 2, 0] rfl ?_
                  exact k18 h15
          · refine sx_lc (lc' := [(0, .ref 24), (1, .int a0), (2, .int y16)]) [1, 2, 0] rfl ?_
            exact k18 h15
      · intro j13 k14
        refine sx_icmp_ne d_X6_readPart_70 ?_ ?_
        · refine sx_iconst d_X6_readPart_73 ic1 ?_
          refine sx_goto d_X6_readPart_74 ?_
          exact k14 (1 : Int32) h12
        · refine sx_iconst d_X6_readPart_77 ic0 ?_
          exact k14 (0 : Int32) h12
    · intro j10 k11
      refine sx_icmp_ne d_X6_readPart_46 ?_ ?_
      · refine sx_aload_n d_X6_readPart_49 0 rfl ?_
        refine sx_callV [] mv_X6_waitingStrength lM_StairCount_Reader_230 sh_24 (by omega) rfl rfl (Nat.le_of_ble_eq_true rfl) d_X6_readPart_50 (sp_X6_waitingStrength (d - 1) (by omega) h) (fun r36 h35 => ?_)
        refine sx_iconst d_X6_readPart_53 ic4 ?_
        refine sx_icmp_ge d_X6_readPart_54 ?_ ?_
        · refine sx_aload_n d_X6_readPart_57 0 rfl ?_
          refine sx_callV [] mv_X6_takeKnot lM_StairCount_Reader_233 sh_24 (by omega) rfl rfl (Nat.le_of_ble_eq_true rfl) d_X6_readPart_58 (sp_X6_takeKnot (d - 1) (by omega) h35) (fun _ h37 => ?_)
          refine sx_aload_n d_X6_readPart_61 0 rfl ?_
          refine sx_iload_n d_X6_readPart_62 1 rfl ?_
          refine sx_callV [.int a0] mv_X6_await lM_StairCount_Reader_236 sh_24 (by omega) rfl rfl (Nat.le_of_ble_eq_true rfl) d_X6_readPart_63 (sp_X6_await (d - 1) (by omega) a0 h37) (fun _ h39 => ?_)
          refine sx_iconst d_X6_readPart_66 ic0 ?_
          exact sx_zret (by decide) rfl d_X6_readPart_67
        · exact k11 h35
      · exact k11 h
theorem d_X6_release_0 : DC mi_X6_release 0 (.aload_n 0) 1 1 := ⟨by decide +kernel, rfl⟩
theorem d_X6_release_1 : DC mi_X6_release 1 (.getfield 215) 3 4 := ⟨by decide +kernel, rfl⟩
theorem d_X6_release_4 : DC mi_X6_release 4 (.istore_n 2) 1 5 := ⟨by decide +kernel, rfl⟩
theorem d_X6_release_5 : DC mi_X6_release 5 (.iload_n 2) 1 6 := ⟨by decide +kernel, rfl⟩
theorem d_X6_release_6 : DB mi_X6_release 6 (.ifCond .le 41) 41 9 47 := ⟨by decide +kernel, rfl, by decide⟩
theorem d_X6_release_9 : DC mi_X6_release 9 (.aload_n 0) 1 10 := ⟨by decide +kernel, rfl⟩
theorem d_X6_release_10 : DC mi_X6_release 10 (.invokevirtual 230) 3 13 := ⟨by decide +kernel, rfl⟩
theorem d_X6_release_13 : DC mi_X6_release 13 (.iload_n 1) 1 14 := ⟨by decide +kernel, rfl⟩
theorem d_X6_release_14 : DB mi_X6_release 14 (.if_icmp .lt 33) 33 17 47 := ⟨by decide +kernel, rfl, by decide⟩
theorem d_X6_release_17 : DC mi_X6_release 17 (.aload_n 0) 1 18 := ⟨by decide +kernel, rfl⟩
theorem d_X6_release_18 : DC mi_X6_release 18 (.dup) 1 19 := ⟨by decide +kernel, rfl⟩
theorem d_X6_release_19 : DC mi_X6_release 19 (.getfield 215) 3 22 := ⟨by decide +kernel, rfl⟩
theorem d_X6_release_22 : DC mi_X6_release 22 (.iconst 1) 1 23 := ⟨by decide +kernel, rfl⟩
theorem d_X6_release_23 : DC mi_X6_release 23 (.isub) 1 24 := ⟨by decide +kernel, rfl⟩
theorem d_X6_release_24 : DC mi_X6_release 24 (.putfield 215) 3 27 := ⟨by decide +kernel, rfl⟩
theorem d_X6_release_27 : DC mi_X6_release 27 (.aload_n 0) 1 28 := ⟨by decide +kernel, rfl⟩
theorem d_X6_release_28 : DC mi_X6_release 28 (.aload_n 0) 1 29 := ⟨by decide +kernel, rfl⟩
theorem d_X6_release_29 : DC mi_X6_release 29 (.getfield 18) 3 32 := ⟨by decide +kernel, rfl⟩
theorem d_X6_release_32 : DC mi_X6_release 32 (.aload_n 0) 1 33 := ⟨by decide +kernel, rfl⟩
theorem d_X6_release_33 : DC mi_X6_release 33 (.getfield 215) 3 36 := ⟨by decide +kernel, rfl⟩
theorem d_X6_release_36 : DC mi_X6_release 36 (.iaload) 1 37 := ⟨by decide +kernel, rfl⟩
theorem d_X6_release_37 : DC mi_X6_release 37 (.iconst 0) 1 38 := ⟨by decide +kernel, rfl⟩
theorem d_X6_release_38 : DC mi_X6_release 38 (.invokevirtual 239) 3 41 := ⟨by decide +kernel, rfl⟩
theorem d_X6_release_41 : DC mi_X6_release 41 (.iinc 2 (-1)) 3 44 := ⟨by decide +kernel, rfl⟩
theorem d_X6_release_44 : DB mi_X6_release 44 (.goto (-39)) (-39) 47 5 := ⟨by decide +kernel, rfl, by decide⟩
theorem d_X6_release_47 : DC mi_X6_release 47 (.return_) 1 48 := ⟨by decide +kernel, rfl⟩
set_option maxHeartbeats 4000000 in
set_option maxRecDepth 100000 in
theorem sL_X6_release_5 (d : Nat) (hd : 2 ≤ d) (c1 : Int32) : ∀ (n : Nat) (x2 : Int32) (h : HH), Sx mi_X6_release d iU (g_X6_release_L5 c1 n x2 h) 5 [(0, .ref 24), (1, .int c1), (2, .int x2)] [] h := by
  intro n
  induction n with
  | zero => intro x2 h; exact sx_none
  | succ n ih =>
    intro x2 h
    rw [g_X6_release_L5]
    refine sx_iload_n d_X6_release_5 2 rfl ?_
    refine sx_if_le d_X6_release_6 ?_ ?_
    · refine sx_aload_n d_X6_release_9 0 rfl ?_
      refine sx_callV [] mv_X6_waitingStrength lM_StairCount_Reader_230 sh_24 (by omega) rfl rfl (Nat.le_of_ble_eq_true rfl) d_X6_release_10 (sp_X6_waitingStrength (d - 1) (by omega) h) (fun r3 h2 => ?_)
      refine sx_iload_n d_X6_release_13 1 rfl ?_
      refine sx_icmp_lt d_X6_release_14 ?_ ?_
      · exact sx_vret rfl d_X6_release_47
      · refine sx_aload_n d_X6_release_17 0 rfl ?_
        refine sx_dup d_X6_release_18 rfl ?_
        refine sx_getI fl_StairCount_Reader_215 sh_24 rfl d_X6_release_19 (fun v4 => ?_)
        refine sx_iconst d_X6_release_22 ic1 ?_
        refine sx_isub d_X6_release_23 ?_
        refine sx_putI fl_StairCount_Reader_215 sh_24 rfl hty_6_9 d_X6_release_24 (fun h5 => ?_)
        refine sx_aload_n d_X6_release_27 0 rfl ?_
        refine sx_aload_n d_X6_release_28 0 rfl ?_
        refine sx_getF (a' := 29) fl_StairCount_Reader_18 sh_24 rfl rfl d_X6_release_29 ?_
        refine sx_aload_n d_X6_release_32 0 rfl ?_
        refine sx_getI fl_StairCount_Reader_215 sh_24 rfl d_X6_release_33 (fun v6 => ?_)
        refine sx_iald sh_29 d_X6_release_36 (fun v7 => ?_)
        refine sx_iconst d_X6_release_37 ic0 ?_
        refine sx_callV [.int v7, .int (0 : Int32)] mv_X6_emit lM_StairCount_Reader_239 sh_24 (by omega) rfl rfl (Nat.le_of_ble_eq_true rfl) d_X6_release_38 (sp_X6_emit (d - 1) (by omega) v7 (0 : Int32) h5) (fun _ h8 => ?_)
        refine sx_iincV (lc' := fun v10 => [(2, .int v10), (0, .ref 24), (1, .int c1)]) (k0 := 2) d_X6_release_41 rfl iim1 (by decide) (fun _ => rfl) (fun v10 => ?_)
        refine sx_goto d_X6_release_44 ?_
        refine sx_lc (lc' := [(0, .ref 24), (1, .int c1), (2, .int v10)]) [1, 2, 0] rfl ?_
        exact ih v10 h8
    · exact sx_vret rfl d_X6_release_47
set_option maxHeartbeats 4000000 in
set_option maxRecDepth 100000 in
theorem sp_X6_release (d : Nat) (hd : 2 ≤ d) (a0 : Int32) (h : HH) : Sp mi_X6_release d iU [.ref 24, .int a0] h (g_X6_release a0 h) := by
  refine sp_of (lc := [(0, .ref 24), (1, .int a0)]) (by decide) (Nat.le_of_ble_eq_true rfl) rfl ?_
  unfold g_X6_release
  refine sx_aload_n d_X6_release_0 0 rfl ?_
  refine sx_getI fl_StairCount_Reader_215 sh_24 rfl d_X6_release_1 (fun v1 => ?_)
  refine sx_istore_n (i := 2) (lc' := [(2, .int v1), (0, .ref 24), (1, .int a0)]) d_X6_release_4 rfl (by decide) rfl ?_
  refine sx_lc (lc' := [(0, .ref 24), (1, .int a0), (2, .int v1)]) [1, 2, 0] rfl ?_
  refine sL_X6_release_5 d hd a0 1024 v1 h
theorem d_X6_readE_0 : DC mi_X6_readE 0 (.aload_n 0) 1 1 := ⟨by decide +kernel, rfl⟩
theorem d_X6_readE_1 : DC mi_X6_readE 1 (.iconst 0) 1 2 := ⟨by decide +kernel, rfl⟩
theorem d_X6_readE_2 : DC mi_X6_readE 2 (.putfield 215) 3 5 := ⟨by decide +kernel, rfl⟩
theorem d_X6_readE_5 : DC mi_X6_readE 5 (.aload_n 0) 1 6 := ⟨by decide +kernel, rfl⟩
theorem d_X6_readE_6 : DC mi_X6_readE 6 (.iconst 0) 1 7 := ⟨by decide +kernel, rfl⟩
theorem d_X6_readE_7 : DC mi_X6_readE 7 (.putfield 218) 3 10 := ⟨by decide +kernel, rfl⟩
theorem d_X6_readE_10 : DC mi_X6_readE 10 (.iconst 1) 1 11 := ⟨by decide +kernel, rfl⟩
theorem d_X6_readE_11 : DC mi_X6_readE 11 (.istore_n 1) 1 12 := ⟨by decide +kernel, rfl⟩
theorem d_X6_readE_12 : DC mi_X6_readE 12 (.aload_n 0) 1 13 := ⟨by decide +kernel, rfl⟩
theorem d_X6_readE_13 : DC mi_X6_readE 13 (.getfield 12) 3 16 := ⟨by decide +kernel, rfl⟩
theorem d_X6_readE_16 : DC mi_X6_readE 16 (.getfield 59) 3 19 := ⟨by decide +kernel, rfl⟩
theorem d_X6_readE_19 : DC mi_X6_readE 19 (.istore_n 2) 1 20 := ⟨by decide +kernel, rfl⟩
theorem d_X6_readE_20 : DC mi_X6_readE 20 (.iload_n 2) 1 21 := ⟨by decide +kernel, rfl⟩
theorem d_X6_readE_21 : DB mi_X6_readE 21 (.ifCond .le 151) 151 24 172 := ⟨by decide +kernel, rfl, by decide⟩
theorem d_X6_readE_24 : DC mi_X6_readE 24 (.aload_n 0) 1 25 := ⟨by decide +kernel, rfl⟩
theorem d_X6_readE_25 : DC mi_X6_readE 25 (.getfield 40) 3 28 := ⟨by decide +kernel, rfl⟩
theorem d_X6_readE_28 : DB mi_X6_readE 28 (.ifCond .ne 144) 144 31 172 := ⟨by decide +kernel, rfl, by decide⟩
theorem d_X6_readE_31 : DC mi_X6_readE 31 (.aload_n 0) 1 32 := ⟨by decide +kernel, rfl⟩
theorem d_X6_readE_32 : DC mi_X6_readE 32 (.invokevirtual 62) 3 35 := ⟨by decide +kernel, rfl⟩
theorem d_X6_readE_35 : DC mi_X6_readE 35 (.istore_n 3) 1 36 := ⟨by decide +kernel, rfl⟩
theorem d_X6_readE_36 : DC mi_X6_readE 36 (.iload_n 3) 1 37 := ⟨by decide +kernel, rfl⟩
theorem d_X6_readE_37 : DC mi_X6_readE 37 (.invokestatic 221) 3 40 := ⟨by decide +kernel, rfl⟩
theorem d_X6_readE_40 : DC mi_X6_readE 40 (.istore 4) 2 42 := ⟨by decide +kernel, rfl⟩
theorem d_X6_readE_42 : DC mi_X6_readE 42 (.iload_n 1) 1 43 := ⟨by decide +kernel, rfl⟩
theorem d_X6_readE_43 : DB mi_X6_readE 43 (.ifCond .eq 20) 20 46 63 := ⟨by decide +kernel, rfl, by decide⟩
theorem d_X6_readE_46 : DC mi_X6_readE 46 (.aload_n 0) 1 47 := ⟨by decide +kernel, rfl⟩
theorem d_X6_readE_47 : DC mi_X6_readE 47 (.iload_n 3) 1 48 := ⟨by decide +kernel, rfl⟩
theorem d_X6_readE_48 : DC mi_X6_readE 48 (.invokevirtual 224) 3 51 := ⟨by decide +kernel, rfl⟩
theorem d_X6_readE_51 : DB mi_X6_readE 51 (.ifCond .ne 7) 7 54 58 := ⟨by decide +kernel, rfl, by decide⟩
theorem d_X6_readE_54 : DC mi_X6_readE 54 (.iconst 1) 1 55 := ⟨by decide +kernel, rfl⟩
theorem d_X6_readE_55 : DB mi_X6_readE 55 (.goto 4) 4 58 59 := ⟨by decide +kernel, rfl, by decide⟩
theorem d_X6_readE_58 : DC mi_X6_readE 58 (.iconst 0) 1 59 := ⟨by decide +kernel, rfl⟩
theorem d_X6_readE_59 : DC mi_X6_readE 59 (.istore_n 1) 1 60 := ⟨by decide +kernel, rfl⟩
theorem d_X6_readE_60 : DB mi_X6_readE 60 (.goto 106) 106 63 166 := ⟨by decide +kernel, rfl, by decide⟩
theorem d_X6_readE_63 : DC mi_X6_readE 63 (.iload_n 3) 1 64 := ⟨by decide +kernel, rfl⟩
theorem d_X6_readE_64 : DC mi_X6_readE 64 (.bipush 6) 2 66 := ⟨by decide +kernel, rfl⟩
theorem d_X6_readE_66 : DB mi_X6_readE 66 (.if_icmp .ne 42) 42 69 108 := ⟨by decide +kernel, rfl, by decide⟩
theorem d_X6_readE_69 : DC mi_X6_readE 69 (.aload_n 0) 1 70 := ⟨by decide +kernel, rfl⟩
theorem d_X6_readE_70 : DC mi_X6_readE 70 (.getfield 218) 3 73 := ⟨by decide +kernel, rfl⟩
theorem d_X6_readE_73 : DB mi_X6_readE 73 (.ifCond .le 35) 35 76 108 := ⟨by decide +kernel, rfl, by decide⟩
theorem d_X6_readE_76 : DC mi_X6_readE 76 (.aload_n 0) 1 77 := ⟨by decide +kernel, rfl⟩
theorem d_X6_readE_77 : DC mi_X6_readE 77 (.iconst 1) 1 78 := ⟨by decide +kernel, rfl⟩
theorem d_X6_readE_78 : DC mi_X6_readE 78 (.invokevirtual 227) 3 81 := ⟨by decide +kernel, rfl⟩
theorem d_X6_readE_81 : DC mi_X6_readE 81 (.aload_n 0) 1 82 := ⟨by decide +kernel, rfl⟩
theorem d_X6_readE_82 : DC mi_X6_readE 82 (.dup) 1 83 := ⟨by decide +kernel, rfl⟩
theorem d_X6_readE_83 : DC mi_X6_readE 83 (.getfield 215) 3 86 := ⟨by decide +kernel, rfl⟩
theorem d_X6_readE_86 : DC mi_X6_readE 86 (.iconst 1) 1 87 := ⟨by decide +kernel, rfl⟩
theorem d_X6_readE_87 : DC mi_X6_readE 87 (.isub) 1 88 := ⟨by decide +kernel, rfl⟩
theorem d_X6_readE_88 : DC mi_X6_readE 88 (.putfield 215) 3 91 := ⟨by decide +kernel, rfl⟩
theorem d_X6_readE_91 : DC mi_X6_readE 91 (.aload_n 0) 1 92 := ⟨by decide +kernel, rfl⟩
theorem d_X6_readE_92 : DC mi_X6_readE 92 (.dup) 1 93 := ⟨by decide +kernel, rfl⟩
theorem d_X6_readE_93 : DC mi_X6_readE 93 (.getfield 218) 3 96 := ⟨by decide +kernel, rfl⟩
theorem d_X6_readE_96 : DC mi_X6_readE 96 (.iconst 1) 1 97 := ⟨by decide +kernel, rfl⟩
theorem d_X6_readE_97 : DC mi_X6_readE 97 (.isub) 1 98 := ⟨by decide +kernel, rfl⟩
theorem d_X6_readE_98 : DC mi_X6_readE 98 (.putfield 218) 3 101 := ⟨by decide +kernel, rfl⟩
theorem d_X6_readE_101 : DC mi_X6_readE 101 (.aload_n 0) 1 102 := ⟨by decide +kernel, rfl⟩
theorem d_X6_readE_102 : DC mi_X6_readE 102 (.invokevirtual 106) 3 105 := ⟨by decide +kernel, rfl⟩
theorem d_X6_readE_105 : DB mi_X6_readE 105 (.goto 61) 61 108 166 := ⟨by decide +kernel, rfl, by decide⟩
theorem d_X6_readE_108 : DC mi_X6_readE 108 (.iload 4) 2 110 := ⟨by decide +kernel, rfl⟩
theorem d_X6_readE_110 : DB mi_X6_readE 110 (.ifCond .eq 62) 62 113 172 := ⟨by decide +kernel, rfl, by decide⟩
theorem d_X6_readE_113 : DC mi_X6_readE 113 (.iload_n 3) 1 114 := ⟨by decide +kernel, rfl⟩
theorem d_X6_readE_114 : DC mi_X6_readE 114 (.bipush 33) 2 116 := ⟨by decide +kernel, rfl⟩
theorem d_X6_readE_116 : DB mi_X6_readE 116 (.if_icmp .ne 6) 6 119 122 := ⟨by decide +kernel, rfl, by decide⟩
theorem d_X6_readE_119 : DB mi_X6_readE 119 (.goto 53) 53 122 172 := ⟨by decide +kernel, rfl, by decide⟩
theorem d_X6_readE_122 : DC mi_X6_readE 122 (.aload_n 0) 1 123 := ⟨by decide +kernel, rfl⟩
theorem d_X6_readE_123 : DC mi_X6_readE 123 (.iload 4) 2 125 := ⟨by decide +kernel, rfl⟩
theorem d_X6_readE_125 : DC mi_X6_readE 125 (.iconst 1) 1 126 := ⟨by decide +kernel, rfl⟩
theorem d_X6_readE_126 : DC mi_X6_readE 126 (.iadd) 1 127 := ⟨by decide +kernel, rfl⟩
theorem d_X6_readE_127 : DC mi_X6_readE 127 (.invokevirtual 227) 3 130 := ⟨by decide +kernel, rfl⟩
theorem d_X6_readE_130 : DC mi_X6_readE 130 (.iload 4) 2 132 := ⟨by decide +kernel, rfl⟩
theorem d_X6_readE_132 : DC mi_X6_readE 132 (.iconst 4) 1 133 := ⟨by decide +kernel, rfl⟩
theorem d_X6_readE_133 : DB mi_X6_readE 133 (.if_icmp .ne 16) 16 136 149 := ⟨by decide +kernel, rfl, by decide⟩
theorem d_X6_readE_136 : DC mi_X6_readE 136 (.aload_n 0) 1 137 := ⟨by decide +kernel, rfl⟩
theorem d_X6_readE_137 : DC mi_X6_readE 137 (.invokevirtual 230) 3 140 := ⟨by decide +kernel, rfl⟩
theorem d_X6_readE_140 : DC mi_X6_readE 140 (.iconst 4) 1 141 := ⟨by decide +kernel, rfl⟩
theorem d_X6_readE_141 : DB mi_X6_readE 141 (.if_icmp .ne 8) 8 144 149 := ⟨by decide +kernel, rfl, by decide⟩
theorem d_X6_readE_144 : DC mi_X6_readE 144 (.aload_n 0) 1 145 := ⟨by decide +kernel, rfl⟩
theorem d_X6_readE_145 : DC mi_X6_readE 145 (.iconst 1) 1 146 := ⟨by decide +kernel, rfl⟩
theorem d_X6_readE_146 : DC mi_X6_readE 146 (.invokevirtual 103) 3 149 := ⟨by decide +kernel, rfl⟩
theorem d_X6_readE_149 : DC mi_X6_readE 149 (.aload_n 0) 1 150 := ⟨by decide +kernel, rfl⟩
theorem d_X6_readE_150 : DC mi_X6_readE 150 (.iload 4) 2 152 := ⟨by decide +kernel, rfl⟩
theorem d_X6_readE_152 : DC mi_X6_readE 152 (.invokevirtual 227) 3 155 := ⟨by decide +kernel, rfl⟩
theorem d_X6_readE_155 : DC mi_X6_readE 155 (.aload_n 0) 1 156 := ⟨by decide +kernel, rfl⟩
theorem d_X6_readE_156 : DC mi_X6_readE 156 (.invokevirtual 233) 3 159 := ⟨by decide +kernel, rfl⟩
theorem d_X6_readE_159 : DC mi_X6_readE 159 (.aload_n 0) 1 160 := ⟨by decide +kernel, rfl⟩
theorem d_X6_readE_160 : DC mi_X6_readE 160 (.iload_n 3) 1 161 := ⟨by decide +kernel, rfl⟩
theorem d_X6_readE_161 : DC mi_X6_readE 161 (.invokevirtual 236) 3 164 := ⟨by decide +kernel, rfl⟩
theorem d_X6_readE_164 : DC mi_X6_readE 164 (.iconst 1) 1 165 := ⟨by decide +kernel, rfl⟩
theorem d_X6_readE_165 : DC mi_X6_readE 165 (.istore_n 1) 1 166 := ⟨by decide +kernel, rfl⟩
theorem d_X6_readE_166 : DC mi_X6_readE 166 (.iinc 2 (-1)) 3 169 := ⟨by decide +kernel, rfl⟩
theorem d_X6_readE_169 : DB mi_X6_readE 169 (.goto (-149)) (-149) 172 20 := ⟨by decide +kernel, rfl, by decide⟩
theorem d_X6_readE_172 : DC mi_X6_readE 172 (.aload_n 0) 1 173 := ⟨by decide +kernel, rfl⟩
theorem d_X6_readE_173 : DC mi_X6_readE 173 (.getfield 218) 3 176 := ⟨by decide +kernel, rfl⟩
theorem d_X6_readE_176 : DB mi_X6_readE 176 (.ifCond .le 8) 8 179 184 := ⟨by decide +kernel, rfl, by decide⟩
theorem d_X6_readE_179 : DC mi_X6_readE 179 (.aload_n 0) 1 180 := ⟨by decide +kernel, rfl⟩
theorem d_X6_readE_180 : DC mi_X6_readE 180 (.iconst 1) 1 181 := ⟨by decide +kernel, rfl⟩
theorem d_X6_readE_181 : DC mi_X6_readE 181 (.invokevirtual 103) 3 184 := ⟨by decide +kernel, rfl⟩
theorem d_X6_readE_184 : DC mi_X6_readE 184 (.aload_n 0) 1 185 := ⟨by decide +kernel, rfl⟩
theorem d_X6_readE_185 : DC mi_X6_readE 185 (.iconst 1) 1 186 := ⟨by decide +kernel, rfl⟩
theorem d_X6_readE_186 : DC mi_X6_readE 186 (.invokevirtual 227) 3 189 := ⟨by decide +kernel, rfl⟩
theorem d_X6_readE_189 : DC mi_X6_readE 189 (.return_) 1 190 := ⟨by decide +kernel, rfl⟩
set_option maxHeartbeats 4000000 in
set_option maxRecDepth 100000 in
theorem sL_X6_readE_20 (d : Nat) (hd : 3 ≤ d) (K172 : HH → Option (Unit × HH)) (K119 : HH → Option (Unit × HH)) (hK172 : ∀ (h : HH), Sx mi_X6_readE d iU (K172 h) 172 [(0, .ref 24)] [] h) (hK119 : ∀ (h : HH), Sx mi_X6_readE d iU (K119 h) 119 [(0, .ref 24)] [] h) : ∀ (n : Nat) (x1 : Int32) (x2 : Int32) (h : HH), Sx mi_X6_readE d iU (g_X6_readE_L20 K172 K119 n x1 x2 h) 20 [(0, .ref 24), (1, .int x1), (2, .int x2)] [] h := by
  intro n
  induction n with
  | zero => intro x1 x2 h; exact sx_none
  | succ n ih =>
    intro x1 x2 h
    rw [g_X6_readE_L20]
    refine sx_iload_n d_X6_readE_20 2 rfl ?_
    refine sx_if_le d_X6_readE_21 ?_ ?_
    · refine sx_aload_n d_X6_readE_24 0 rfl ?_
      refine sx_getI fl_StairCount_Reader_40 sh_24 rfl d_X6_readE_25 (fun v4 => ?_)
      refine sx_if_ne d_X6_readE_28 ?_ ?_
      · refine sx_aload_n d_X6_readE_31 0 rfl ?_
        refine sx_callV [] mv_X6_kind lM_StairCount_Reader_62 sh_24 (by omega) rfl rfl (Nat.le_of_ble_eq_true rfl) d_X6_readE_32 (sp_X6_kind (d - 1) (by omega) h) (fun r6 h5 => ?_)
        refine sx_istore_n (i := 3) (lc' := [(3, .int r6), (0, .ref 24), (1, .int x1), (2, .int x2)]) d_X6_readE_35 rfl (by decide) rfl ?_
        refine sx_iload_n d_X6_readE_36 0 rfl ?_
        refine sx_callS [.int r6] ms_X6_strength lM_StairCount_Reader_221 (by omega) rfl rfl (Nat.le_of_ble_eq_true rfl) d_X6_readE_37 (sp_X6_strength (d - 1) (by omega) r6 h5) (fun r8 h7 => ?_)
        refine sx_istore (i := 4) (lc' := [(4, .int r8), (3, .int r6), (0, .ref 24), (1, .int x1), (2, .int x2)]) d_X6_readE_40 (by decide) rfl ?_
        refine sx_iload_n d_X6_readE_42 3 rfl ?_
        refine sx_jn (fun j => ∀ (u12 : Int32) (h : HH), Sx mi_X6_readE d iU (j u12 h) 166 [(0, .ref 24), (1, .int u12), (2, .int x2)] [] h) ?_ ?_
        · intro u12 h11
          refine sx_iincV (lc' := fun v13 => [(2, .int v13), (0, .ref 24), (1, .int u12)]) (k0 := 2) d_X6_readE_166 rfl iim1 (by decide) (fun _ => rfl) (fun v13 => ?_)
          refine sx_goto d_X6_readE_169 ?_
          refine sx_lc (lc' := [(0, .ref 24), (1, .int u12), (2, .int v13)]) [1, 2, 0] rfl ?_
          exact ih u12 v13 h11
        · intro j9 k10
          refine sx_if_eq d_X6_readE_43 ?_ ?_
          · refine sx_iload_n d_X6_readE_63 1 rfl ?_
            refine sx_bipush d_X6_readE_64 bc6 ?_
            refine sx_jn (fun j => ∀  (h : HH), Sx mi_X6_readE d iU (j  h) 108 [(0, .ref 24), (2, .int x2), (3, .int r6), (4, .int r8)] [] h) ?_ ?_
            · intro  h16
              refine sx_iload d_X6_readE_108 3 rfl ?_
              refine sx_if_eq d_X6_readE_110 ?_ ?_
              · refine sx_lc (lc' := [(0, .ref 24)]) [0] rfl ?_
                exact hK172 h16
              · refine sx_iload_n d_X6_readE_113 2 rfl ?_
                refine sx_bipush d_X6_readE_114 bc33 ?_
                refine sx_icmp_ne d_X6_readE_116 ?_ ?_
                · refine sx_lc (lc' := [(0, .ref 24)]) [0] rfl ?_
                  exact hK119 h16
                · refine sx_aload_n d_X6_readE_122 0 rfl ?_
                  refine sx_iload d_X6_readE_123 3 rfl ?_
                  refine sx_iconst d_X6_readE_125 ic1 ?_
                  refine sx_iadd d_X6_readE_126 ?_
                  refine sx_callV [.int (r8 + (1 : Int32))] mv_X6_release lM_StairCount_Reader_227 sh_24 (by omega) rfl rfl (Nat.le_of_ble_eq_true rfl) d_X6_readE_127 (sp_X6_release (d - 1) (by omega) (r8 + (1 : Int32)) h16) (fun _ h17 => ?_)
                  refine sx_iload d_X6_readE_130 3 rfl ?_
                  refine sx_iconst d_X6_readE_132 ic4 ?_
                  refine sx_jn (fun j => ∀  (h : HH), Sx mi_X6_readE d iU (j  h) 149 [(0, .ref 24), (2, .int x2), (3, .int r6), (4, .int r8)] [] h) ?_ ?_
                  · intro  h21
                    refine sx_aload_n d_X6_readE_149 0 rfl ?_
                    refine sx_iload d_X6_readE_150 3 rfl ?_
                    refine sx_callV [.int r8] mv_X6_release lM_StairCount_Reader_227 sh_24 (by omega) rfl rfl (Nat.le_of_ble_eq_true rfl) d_X6_readE_152 (sp_X6_release (d - 1) (by omega) r8 h21) (fun _ h22 => ?_)
                    refine sx_aload_n d_X6_readE_155 0 rfl ?_
                    refine sx_callV [] mv_X6_takeKnot lM_StairCount_Reader_233 sh_24 (by omega) rfl rfl (Nat.le_of_ble_eq_true rfl) d_X6_readE_156 (sp_X6_takeKnot (d - 1) (by omega) h22) (fun _ h24 => ?_)
                    refine sx_aload_n d_X6_readE_159 0 rfl ?_
                    refine sx_iload_n d_X6_readE_160 2 rfl ?_
                    refine sx_callV [.int r6] mv_X6_await lM_StairCount_Reader_236 sh_24 (by omega) rfl rfl (Nat.le_of_ble_eq_true rfl) d_X6_readE_161 (sp_X6_await (d - 1) (by omega) r6 h24) (fun _ h26 => ?_)
                    refine sx_iconst d_X6_readE_164 ic1 ?_
                    refine sx_istore_n (i := 1) (lc' := [(1, .int (1 : Int32)), (0, .ref 24), (2, .int x2), (3, .int r6), (4, .int r8)]) d_X6_readE_165 rfl (by decide) rfl ?_
                    refine sx_lc (lc' := [(0, .ref 24), (1, .int (1 : Int32)), (2, .int x2)]) [1, 0, 2] rfl ?_
                    exact k10 (1 : Int32) h26
                  · intro j19 k20
                    refine sx_icmp_ne d_X6_readE_133 ?_ ?_
                    · refine sx_aload_n d_X6_readE_136 0 rfl ?_
                      refine sx_callV [] mv_X6_waitingStrength lM_StairCount_Reader_230 sh_24 (by omega) rfl rfl (Nat.le_of_ble_eq_true rfl) d_X6_readE_137 (sp_X6_waitingStrength (d - 1) (by omega) h17) (fun r29 h28 => ?_)
                      refine sx_iconst d_X6_readE_140 ic4 ?_
                      refine sx_icmp_ne d_X6_readE_141 ?_ ?_
                      · refine sx_aload_n d_X6_readE_144 0 rfl ?_
                        refine sx_iconst d_X6_readE_145 ic1 ?_
                        refine sx_callV [.int (1 : Int32)] mv_X6_fail lM_StairCount_Reader_103 sh_24 (by omega) rfl rfl (Nat.le_of_ble_eq_true rfl) d_X6_readE_146 (sp_X6_fail (d - 1) (by omega) (1 : Int32) h28) (fun _ h30 => ?_)
                        exact k20 h30
                      · exact k20 h28
                    · exact k20 h17
            · intro j14 k15
              refine sx_icmp_ne d_X6_readE_66 ?_ ?_
              · refine sx_aload_n d_X6_readE_69 2 rfl ?_
                refine sx_getI fl_StairCount_Reader_218 sh_24 rfl d_X6_readE_70 (fun v32 => ?_)
                refine sx_if_le d_X6_readE_73 ?_ ?_
                · refine sx_aload_n d_X6_readE_76 2 rfl ?_
                  refine sx_iconst d_X6_readE_77 ic1 ?_
                  refine sx_callV [.int (1 : Int32)] mv_X6_release lM_StairCount_Reader_227 sh_24 (by omega) rfl rfl (Nat.le_of_ble_eq_true rfl) d_X6_readE_78 (sp_X6_release (d - 1) (by omega) (1 : Int32) h7) (fun _ h33 => ?_)
                  refine sx_aload_n d_X6_readE_81 2 rfl ?_
                  refine sx_dup d_X6_readE_82 rfl ?_
                  refine sx_getI fl_StairCount_Reader_215 sh_24 rfl d_X6_readE_83 (fun v35 => ?_)
                  refine sx_iconst d_X6_readE_86 ic1 ?_
                  refine sx_isub d_X6_readE_87 ?_
                  refine sx_putI fl_StairCount_Reader_215 sh_24 rfl hty_6_9 d_X6_readE_88 (fun h36 => ?_)
                  refine sx_aload_n d_X6_readE_91 2 rfl ?_
                  refine sx_dup d_X6_readE_92 rfl ?_
                  refine sx_getI fl_StairCount_Reader_218 sh_24 rfl d_X6_readE_93 (fun v37 => ?_)
                  refine sx_iconst d_X6_readE_96 ic1 ?_
                  refine sx_isub d_X6_readE_97 ?_
                  refine sx_putI fl_StairCount_Reader_218 sh_24 rfl hty_6_10 d_X6_readE_98 (fun h38 => ?_)
                  refine sx_aload_n d_X6_readE_101 2 rfl ?_
                  refine sx_callV [] mv_X6_advance lM_StairCount_Reader_106 sh_24 (by omega) rfl rfl (Nat.le_of_ble_eq_true rfl) d_X6_readE_102 (sp_X6_advance (d - 1) (by omega) h38) (fun _ h39 => ?_)
                  refine sx_goto d_X6_readE_105 ?_
                  refine sx_lc (lc' := [(0, .ref 24), (1, .int x1), (2, .int x2)]) [2, 3, 4] rfl ?_
                  exact k10 x1 h39
                · refine sx_lc (lc' := [(0, .ref 24), (2, .int x2), (3, .int r6), (4, .int r8)]) [2, 4, 1, 0] rfl ?_
                  exact k15 h7
              · refine sx_lc (lc' := [(0, .ref 24), (2, .int x2), (3, .int r6), (4, .int r8)]) [2, 4, 1, 0] rfl ?_
                exact k15 h7
          · refine sx_aload_n d_X6_readE_46 2 rfl ?_
            refine sx_iload_n d_X6_readE_47 1 rfl ?_
            refine sx_callV [.int r6] mv_X6_readPart lM_StairCount_Reader_224 sh_24 (by omega) rfl rfl (Nat.le_of_ble_eq_true rfl) d_X6_readE_48 (sp_X6_readPart (d - 1) (by omega) r6 h7) (fun r42 h41 => ?_)
            refine sx_jn (fun j => ∀ (y46 : Int32) (h : HH), Sx mi_X6_readE d iU (j y46 h) 59 [(0, .ref 24), (2, .int x2)] [.int y46] h) ?_ ?_
            · intro y46 h45
              refine sx_istore_n (i := 1) (lc' := [(1, .int y46), (0, .ref 24), (2, .int x2)]) d_X6_readE_59 rfl (by decide) rfl ?_
              refine sx_goto d_X6_readE_60 ?_
              refine sx_lc (lc' := [(0, .ref 24), (1, .int y46), (2, .int x2)]) [1, 0, 2] rfl ?_
              exact k10 y46 h45
            · intro j43 k44
              refine sx_if_ne d_X6_readE_51 ?_ ?_
              · refine sx_iconst d_X6_readE_54 ic1 ?_
                refine sx_goto d_X6_readE_55 ?_
                refine sx_lc (lc' := [(0, .ref 24), (2, .int x2)]) [2, 4] rfl ?_
                exact k44 (1 : Int32) h41
              · refine sx_iconst d_X6_readE_58 ic0 ?_
                refine sx_lc (lc' := [(0, .ref 24), (2, .int x2)]) [2, 4] rfl ?_
                exact k44 (0 : Int32) h41
      · refine sx_lc (lc' := [(0, .ref 24)]) [0] rfl ?_
        exact hK172 h
    · refine sx_lc (lc' := [(0, .ref 24)]) [0] rfl ?_
      exact hK172 h
set_option maxHeartbeats 4000000 in
set_option maxRecDepth 100000 in
theorem sp_X6_readE (d : Nat) (hd : 3 ≤ d) (h : HH) : Sp mi_X6_readE d iU [.ref 24] h (g_X6_readE h) := by
  refine sp_of (lc := [(0, .ref 24)]) (by decide) (Nat.le_of_ble_eq_true rfl) rfl ?_
  unfold g_X6_readE
  refine sx_aload_n d_X6_readE_0 0 rfl ?_
  refine sx_iconst d_X6_readE_1 ic0 ?_
  refine sx_putI fl_StairCount_Reader_215 sh_24 rfl hty_6_9 d_X6_readE_2 (fun h1 => ?_)
  refine sx_aload_n d_X6_readE_5 0 rfl ?_
  refine sx_iconst d_X6_readE_6 ic0 ?_
  refine sx_putI fl_StairCount_Reader_218 sh_24 rfl hty_6_10 d_X6_readE_7 (fun h2 => ?_)
  refine sx_iconst d_X6_readE_10 ic1 ?_
  refine sx_istore_n (i := 1) (lc' := [(1, .int (1 : Int32)), (0, .ref 24)]) d_X6_readE_11 rfl (by decide) rfl ?_
  refine sx_aload_n d_X6_readE_12 1 rfl ?_
  refine sx_getF (a' := 25) fl_StairCount_Reader_12 sh_24 rfl rfl d_X6_readE_13 ?_
  refine sx_getI fl_StairCount_Reader_59 sh_25 rfl d_X6_readE_16 (fun v3 => ?_)
  refine sx_istore_n (i := 2) (lc' := [(2, .int v3), (1, .int (1 : Int32)), (0, .ref 24)]) d_X6_readE_19 rfl (by decide) rfl ?_
  refine sx_lc (lc' := [(0, .ref 24), (1, .int (1 : Int32)), (2, .int v3)]) [2, 1, 0] rfl ?_
  refine sL_X6_readE_20 d hd _ _ ?_ ?_ 1024 (1 : Int32) v3 h2
  · intro h47
    refine sx_aload_n d_X6_readE_172 0 rfl ?_
    refine sx_getI fl_StairCount_Reader_218 sh_24 rfl d_X6_readE_173 (fun v48 => ?_)
    refine sx_jn (fun j => ∀  (h : HH), Sx mi_X6_readE d iU (j  h) 184 [(0, .ref 24)] [] h) ?_ ?_
    · intro  h51
      refine sx_aload_n d_X6_readE_184 0 rfl ?_
      refine sx_iconst d_X6_readE_185 ic1 ?_
      refine sx_callV [.int (1 : Int32)] mv_X6_release lM_StairCount_Reader_227 sh_24 (by omega) rfl rfl (Nat.le_of_ble_eq_true rfl) d_X6_readE_186 (sp_X6_release (d - 1) (by omega) (1 : Int32) h51) (fun _ h52 => ?_)
      exact sx_vret rfl d_X6_readE_189
    · intro j49 k50
      refine sx_if_le d_X6_readE_176 ?_ ?_
      · refine sx_aload_n d_X6_readE_179 0 rfl ?_
        refine sx_iconst d_X6_readE_180 ic1 ?_
        refine sx_callV [.int (1 : Int32)] mv_X6_fail lM_StairCount_Reader_103 sh_24 (by omega) rfl rfl (Nat.le_of_ble_eq_true rfl) d_X6_readE_181 (sp_X6_fail (d - 1) (by omega) (1 : Int32) h47) (fun _ h54 => ?_)
        exact k50 h54
      · exact k50 h47
  · intro h56
    refine sx_goto d_X6_readE_119 ?_
    refine sx_aload_n d_X6_readE_172 0 rfl ?_
    refine sx_getI fl_StairCount_Reader_218 sh_24 rfl d_X6_readE_173 (fun v57 => ?_)
    refine sx_jn (fun j => ∀  (h : HH), Sx mi_X6_readE d iU (j  h) 184 [(0, .ref 24)] [] h) ?_ ?_
    · intro  h60
      refine sx_aload_n d_X6_readE_184 0 rfl ?_
      refine sx_iconst d_X6_readE_185 ic1 ?_
      refine sx_callV [.int (1 : Int32)] mv_X6_release lM_StairCount_Reader_227 sh_24 (by omega) rfl rfl (Nat.le_of_ble_eq_true rfl) d_X6_readE_186 (sp_X6_release (d - 1) (by omega) (1 : Int32) h60) (fun _ h61 => ?_)
      exact sx_vret rfl d_X6_readE_189
    · intro j58 k59
      refine sx_if_le d_X6_readE_176 ?_ ?_
      · refine sx_aload_n d_X6_readE_179 0 rfl ?_
        refine sx_iconst d_X6_readE_180 ic1 ?_
        refine sx_callV [.int (1 : Int32)] mv_X6_fail lM_StairCount_Reader_103 sh_24 (by omega) rfl rfl (Nat.le_of_ble_eq_true rfl) d_X6_readE_181 (sp_X6_fail (d - 1) (by omega) (1 : Int32) h56) (fun _ h63 => ?_)
        exact k59 h63
      · exact k59 h56
