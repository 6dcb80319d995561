/-! walks: X11_isSo, X11_fitsHad, X11_hadsOf, X11_hads, X11_worstAt, X11_ask, X11_chance, X11_tried, X11_undo, X11_keep, X11_back, X11_count -/
theorem d_X11_isSo_0 : DC mi_X11_isSo 0 (.iconst 0) 1 1 := ⟨by decide +kernel, rfl⟩
theorem d_X11_isSo_1 : DC mi_X11_isSo 1 (.istore_n 2) 1 2 := ⟨by decide +kernel, rfl⟩
theorem d_X11_isSo_2 : DC mi_X11_isSo 2 (.iload_n 2) 1 3 := ⟨by decide +kernel, rfl⟩
theorem d_X11_isSo_3 : DC mi_X11_isSo 3 (.aload_n 0) 1 4 := ⟨by decide +kernel, rfl⟩
theorem d_X11_isSo_4 : DC mi_X11_isSo 4 (.invokevirtual 500) 3 7 := ⟨by decide +kernel, rfl⟩
theorem d_X11_isSo_7 : DB mi_X11_isSo 7 (.if_icmp .ge 80) 80 10 87 := ⟨by decide +kernel, rfl, by decide⟩
theorem d_X11_isSo_10 : DC mi_X11_isSo 10 (.aload_n 0) 1 11 := ⟨by decide +kernel, rfl⟩
theorem d_X11_isSo_11 : DC mi_X11_isSo 11 (.getfield 139) 3 14 := ⟨by decide +kernel, rfl⟩
theorem d_X11_isSo_14 : DC mi_X11_isSo 14 (.iload_n 2) 1 15 := ⟨by decide +kernel, rfl⟩
theorem d_X11_isSo_15 : DC mi_X11_isSo 15 (.baload) 1 16 := ⟨by decide +kernel, rfl⟩
theorem d_X11_isSo_16 : DB mi_X11_isSo 16 (.ifCond .ne 65) 65 19 81 := ⟨by decide +kernel, rfl, by decide⟩
theorem d_X11_isSo_19 : DC mi_X11_isSo 19 (.aload_n 0) 1 20 := ⟨by decide +kernel, rfl⟩
theorem d_X11_isSo_20 : DC mi_X11_isSo 20 (.getfield 136) 3 23 := ⟨by decide +kernel, rfl⟩
theorem d_X11_isSo_23 : DC mi_X11_isSo 23 (.iload_n 2) 1 24 := ⟨by decide +kernel, rfl⟩
theorem d_X11_isSo_24 : DC mi_X11_isSo 24 (.iaload) 1 25 := ⟨by decide +kernel, rfl⟩
theorem d_X11_isSo_25 : DC mi_X11_isSo 25 (.iconst (-1)) 1 26 := ⟨by decide +kernel, rfl⟩
theorem d_X11_isSo_26 : DB mi_X11_isSo 26 (.if_icmp .ne 55) 55 29 81 := ⟨by decide +kernel, rfl, by decide⟩
theorem d_X11_isSo_29 : DC mi_X11_isSo 29 (.aload_n 0) 1 30 := ⟨by decide +kernel, rfl⟩
theorem d_X11_isSo_30 : DC mi_X11_isSo 30 (.getfield 123) 3 33 := ⟨by decide +kernel, rfl⟩
theorem d_X11_isSo_33 : DC mi_X11_isSo 33 (.iload_n 2) 1 34 := ⟨by decide +kernel, rfl⟩
theorem d_X11_isSo_34 : DC mi_X11_isSo 34 (.iaload) 1 35 := ⟨by decide +kernel, rfl⟩
theorem d_X11_isSo_35 : DC mi_X11_isSo 35 (.iload_n 1) 1 36 := ⟨by decide +kernel, rfl⟩
theorem d_X11_isSo_36 : DB mi_X11_isSo 36 (.if_icmp .eq 6) 6 39 42 := ⟨by decide +kernel, rfl, by decide⟩
theorem d_X11_isSo_39 : DB mi_X11_isSo 39 (.goto 42) 42 42 81 := ⟨by decide +kernel, rfl, by decide⟩
theorem d_X11_isSo_42 : DC mi_X11_isSo 42 (.aload_n 0) 1 43 := ⟨by decide +kernel, rfl⟩
theorem d_X11_isSo_43 : DC mi_X11_isSo 43 (.getfield 81) 3 46 := ⟨by decide +kernel, rfl⟩
theorem d_X11_isSo_46 : DC mi_X11_isSo 46 (.bipush 6) 2 48 := ⟨by decide +kernel, rfl⟩
theorem d_X11_isSo_48 : DC mi_X11_isSo 48 (.aload_n 0) 1 49 := ⟨by decide +kernel, rfl⟩
theorem d_X11_isSo_49 : DC mi_X11_isSo 49 (.getfield 126) 3 52 := ⟨by decide +kernel, rfl⟩
theorem d_X11_isSo_52 : DC mi_X11_isSo 52 (.iload_n 2) 1 53 := ⟨by decide +kernel, rfl⟩
theorem d_X11_isSo_53 : DC mi_X11_isSo 53 (.iaload) 1 54 := ⟨by decide +kernel, rfl⟩
theorem d_X11_isSo_54 : DC mi_X11_isSo 54 (.iadd) 1 55 := ⟨by decide +kernel, rfl⟩
theorem d_X11_isSo_55 : DC mi_X11_isSo 55 (.iaload) 1 56 := ⟨by decide +kernel, rfl⟩
theorem d_X11_isSo_56 : DC mi_X11_isSo 56 (.aload_n 0) 1 57 := ⟨by decide +kernel, rfl⟩
theorem d_X11_isSo_57 : DC mi_X11_isSo 57 (.getfield 129) 3 60 := ⟨by decide +kernel, rfl⟩
theorem d_X11_isSo_60 : DC mi_X11_isSo 60 (.iload_n 2) 1 61 := ⟨by decide +kernel, rfl⟩
theorem d_X11_isSo_61 : DC mi_X11_isSo 61 (.iaload) 1 62 := ⟨by decide +kernel, rfl⟩
theorem d_X11_isSo_62 : DB mi_X11_isSo 62 (.if_icmp .ne 7) 7 65 69 := ⟨by decide +kernel, rfl, by decide⟩
theorem d_X11_isSo_65 : DC mi_X11_isSo 65 (.iconst 1) 1 66 := ⟨by decide +kernel, rfl⟩
theorem d_X11_isSo_66 : DB mi_X11_isSo 66 (.goto 4) 4 69 70 := ⟨by decide +kernel, rfl, by decide⟩
theorem d_X11_isSo_69 : DC mi_X11_isSo 69 (.iconst 0) 1 70 := ⟨by decide +kernel, rfl⟩
theorem d_X11_isSo_70 : DC mi_X11_isSo 70 (.aload_n 0) 1 71 := ⟨by decide +kernel, rfl⟩
theorem d_X11_isSo_71 : DC mi_X11_isSo 71 (.getfield 132) 3 74 := ⟨by decide +kernel, rfl⟩
theorem d_X11_isSo_74 : DC mi_X11_isSo 74 (.iload_n 2) 1 75 := ⟨by decide +kernel, rfl⟩
theorem d_X11_isSo_75 : DC mi_X11_isSo 75 (.baload) 1 76 := ⟨by decide +kernel, rfl⟩
theorem d_X11_isSo_76 : DB mi_X11_isSo 76 (.if_icmp .eq 5) 5 79 81 := ⟨by decide +kernel, rfl, by decide⟩
theorem d_X11_isSo_79 : DC mi_X11_isSo 79 (.iconst 0) 1 80 := ⟨by decide +kernel, rfl⟩
theorem d_X11_isSo_80 : DC mi_X11_isSo 80 (.ireturn) 1 81 := ⟨by decide +kernel, rfl⟩
theorem d_X11_isSo_81 : DC mi_X11_isSo 81 (.iinc 2 1) 3 84 := ⟨by decide +kernel, rfl⟩
theorem d_X11_isSo_84 : DB mi_X11_isSo 84 (.goto (-82)) (-82) 87 2 := ⟨by decide +kernel, rfl, by decide⟩
theorem d_X11_isSo_87 : DC mi_X11_isSo 87 (.iconst 1) 1 88 := ⟨by decide +kernel, rfl⟩
theorem d_X11_isSo_88 : DC mi_X11_isSo 88 (.ireturn) 1 89 := ⟨by decide +kernel, rfl⟩
set_option maxHeartbeats 4000000 in
set_option maxRecDepth 100000 in
theorem sL_X11_isSo_2 (d : Nat) (hd : 1 ≤ d) (c1 : Int32) : ∀ (n : Nat) (x2 : Int32) (h : HH), Sx mi_X11_isSo d iI (g_X11_isSo_L2 c1 n x2 h) 2 [(0, .ref 255), (1, .int c1), (2, .int x2)] [] h := by
  intro n
  induction n with
  | zero => intro x2 h; exact sx_none
  | succ n ih =>
    intro x2 h
    rw [g_X11_isSo_L2]
    refine sx_iload_n d_X11_isSo_2 2 rfl ?_
    refine sx_aload_n d_X11_isSo_3 0 rfl ?_
    refine sx_callV [] mv_X11_knownMany lM_StairCountModel_500 sh_255 (by omega) rfl rfl (Nat.le_of_ble_eq_true rfl) d_X11_isSo_4 (sp_X11_knownMany (d - 1) (by omega) h) (fun r2 h1 => ?_)
    refine sx_icmp_ge d_X11_isSo_7 ?_ ?_
    · refine sx_aload_n d_X11_isSo_10 0 rfl ?_
      refine sx_getF (a' := 293) fl_StairCountModel_139 sh_255 rfl rfl d_X11_isSo_11 ?_
      refine sx_iload_n d_X11_isSo_14 2 rfl ?_
      refine sx_zald sh_293 d_X11_isSo_15 (fun v3 => ?_)
      refine sx_jn (fun j => ∀  (h : HH), Sx mi_X11_isSo d iI (j  h) 81 [(0, .ref 255), (1, .int c1), (2, .int x2)] [] h) ?_ ?_
      · intro  h6
        refine sx_iincV (lc' := fun v7 => [(2, .int v7), (0, .ref 255), (1, .int c1)]) (k0 := 2) d_X11_isSo_81 rfl ii1 (by decide) (fun _ => rfl) (fun v7 => ?_)
        refine sx_goto d_X11_isSo_84 ?_
        refine sx_lc (lc' := [(0, .ref 255), (1, .int c1), (2, .int v7)]) [1, 2, 0] rfl ?_
        exact ih v7 h6
      · intro j4 k5
        refine sx_if_ne d_X11_isSo_16 ?_ ?_
        · refine sx_aload_n d_X11_isSo_19 0 rfl ?_
          refine sx_getF (a' := 292) fl_StairCountModel_136 sh_255 rfl rfl d_X11_isSo_20 ?_
          refine sx_iload_n d_X11_isSo_23 2 rfl ?_
          refine sx_iald sh_292 d_X11_isSo_24 (fun v8 => ?_)
          refine sx_iconst d_X11_isSo_25 icm1 ?_
          refine sx_icmp_ne d_X11_isSo_26 ?_ ?_
          · refine sx_aload_n d_X11_isSo_29 0 rfl ?_
            refine sx_getF (a' := 288) fl_StairCountModel_123 sh_255 rfl rfl d_X11_isSo_30 ?_
            refine sx_iload_n d_X11_isSo_33 2 rfl ?_
            refine sx_iald sh_288 d_X11_isSo_34 (fun v9 => ?_)
            refine sx_iload_n d_X11_isSo_35 1 rfl ?_
            refine sx_icmp_eq d_X11_isSo_36 ?_ ?_
            · refine sx_aload_n d_X11_isSo_42 0 rfl ?_
              refine sx_getF (a' := 278) fl_StairCountModel_81 sh_255 rfl rfl d_X11_isSo_43 ?_
              refine sx_bipush d_X11_isSo_46 bc6 ?_
              refine sx_aload_n d_X11_isSo_48 0 rfl ?_
              refine sx_getF (a' := 289) fl_StairCountModel_126 sh_255 rfl rfl d_X11_isSo_49 ?_
              refine sx_iload_n d_X11_isSo_52 2 rfl ?_
              refine sx_iald sh_289 d_X11_isSo_53 (fun v10 => ?_)
              refine sx_iadd d_X11_isSo_54 ?_
              refine sx_iald sh_278 d_X11_isSo_55 (fun v11 => ?_)
              refine sx_aload_n d_X11_isSo_56 0 rfl ?_
              refine sx_getF (a' := 290) fl_StairCountModel_129 sh_255 rfl rfl d_X11_isSo_57 ?_
              refine sx_iload_n d_X11_isSo_60 2 rfl ?_
              refine sx_iald sh_290 d_X11_isSo_61 (fun v12 => ?_)
              refine sx_jn (fun j => ∀ (y16 : Int32) (h : HH), Sx mi_X11_isSo d iI (j y16 h) 70 [(0, .ref 255), (1, .int c1), (2, .int x2)] [.int y16] h) ?_ ?_
              · intro y16 h15
                refine sx_aload_n d_X11_isSo_70 0 rfl ?_
                refine sx_getF (a' := 291) fl_StairCountModel_132 sh_255 rfl rfl d_X11_isSo_71 ?_
                refine sx_iload_n d_X11_isSo_74 2 rfl ?_
                refine sx_zald sh_291 d_X11_isSo_75 (fun v17 => ?_)
                refine sx_icmp_eq d_X11_isSo_76 ?_ ?_
                · exact k5 h15
                · refine sx_iconst d_X11_isSo_79 ic0 ?_
                  exact sx_zret (by decide) rfl d_X11_isSo_80
              · intro j13 k14
                refine sx_icmp_ne d_X11_isSo_62 ?_ ?_
                · refine sx_iconst d_X11_isSo_65 ic1 ?_
                  refine sx_goto d_X11_isSo_66 ?_
                  exact k14 (1 : Int32) h1
                · refine sx_iconst d_X11_isSo_69 ic0 ?_
                  exact k14 (0 : Int32) h1
            · refine sx_goto d_X11_isSo_39 ?_
              exact k5 h1
          · exact k5 h1
        · exact k5 h1
    · refine sx_iconst d_X11_isSo_87 ic1 ?_
      exact sx_zret (by decide) rfl d_X11_isSo_88
set_option maxHeartbeats 4000000 in
set_option maxRecDepth 100000 in
theorem sp_X11_isSo (d : Nat) (hd : 1 ≤ d) (a0 : Int32) (h : HH) : Sp mi_X11_isSo d iI [.ref 255, .int a0] h (g_X11_isSo a0 h) := by
  refine sp_of (lc := [(0, .ref 255), (1, .int a0)]) (by decide) (Nat.le_of_ble_eq_true rfl) rfl ?_
  unfold g_X11_isSo
  refine sx_iconst d_X11_isSo_0 ic0 ?_
  refine sx_istore_n (i := 2) (lc' := [(2, .int (0 : Int32)), (0, .ref 255), (1, .int a0)]) d_X11_isSo_1 rfl (by decide) rfl ?_
  refine sx_lc (lc' := [(0, .ref 255), (1, .int a0), (2, .int (0 : Int32))]) [1, 2, 0] rfl ?_
  refine sL_X11_isSo_2 d hd a0 1024 (0 : Int32) h
theorem d_X11_fitsHad_0 : DC mi_X11_fitsHad 0 (.aload_n 0) 1 1 := ⟨by decide +kernel, rfl⟩
theorem d_X11_fitsHad_1 : DC mi_X11_fitsHad 1 (.iconst 1) 1 2 := ⟨by decide +kernel, rfl⟩
theorem d_X11_fitsHad_2 : DC mi_X11_fitsHad 2 (.invokevirtual 343) 3 5 := ⟨by decide +kernel, rfl⟩
theorem d_X11_fitsHad_5 : DC mi_X11_fitsHad 5 (.iconst 1) 1 6 := ⟨by decide +kernel, rfl⟩
theorem d_X11_fitsHad_6 : DC mi_X11_fitsHad 6 (.istore_n 2) 1 7 := ⟨by decide +kernel, rfl⟩
theorem d_X11_fitsHad_7 : DC mi_X11_fitsHad 7 (.iload_n 2) 1 8 := ⟨by decide +kernel, rfl⟩
theorem d_X11_fitsHad_8 : DC mi_X11_fitsHad 8 (.iload_n 1) 1 9 := ⟨by decide +kernel, rfl⟩
theorem d_X11_fitsHad_9 : DB mi_X11_fitsHad 9 (.if_icmp .gt 25) 25 12 34 := ⟨by decide +kernel, rfl, by decide⟩
theorem d_X11_fitsHad_12 : DC mi_X11_fitsHad 12 (.aload_n 0) 1 13 := ⟨by decide +kernel, rfl⟩
theorem d_X11_fitsHad_13 : DC mi_X11_fitsHad 13 (.iconst 1) 1 14 := ⟨by decide +kernel, rfl⟩
theorem d_X11_fitsHad_14 : DC mi_X11_fitsHad 14 (.iconst 0) 1 15 := ⟨by decide +kernel, rfl⟩
theorem d_X11_fitsHad_15 : DC mi_X11_fitsHad 15 (.invokevirtual 433) 3 18 := ⟨by decide +kernel, rfl⟩
theorem d_X11_fitsHad_18 : DC mi_X11_fitsHad 18 (.aload_n 0) 1 19 := ⟨by decide +kernel, rfl⟩
theorem d_X11_fitsHad_19 : DC mi_X11_fitsHad 19 (.iload_n 2) 1 20 := ⟨by decide +kernel, rfl⟩
theorem d_X11_fitsHad_20 : DC mi_X11_fitsHad 20 (.invokevirtual 503) 3 23 := ⟨by decide +kernel, rfl⟩
theorem d_X11_fitsHad_23 : DB mi_X11_fitsHad 23 (.ifCond .ne 5) 5 26 28 := ⟨by decide +kernel, rfl, by decide⟩
theorem d_X11_fitsHad_26 : DC mi_X11_fitsHad 26 (.iconst 0) 1 27 := ⟨by decide +kernel, rfl⟩
theorem d_X11_fitsHad_27 : DC mi_X11_fitsHad 27 (.ireturn) 1 28 := ⟨by decide +kernel, rfl⟩
theorem d_X11_fitsHad_28 : DC mi_X11_fitsHad 28 (.iinc 2 1) 3 31 := ⟨by decide +kernel, rfl⟩
theorem d_X11_fitsHad_31 : DB mi_X11_fitsHad 31 (.goto (-24)) (-24) 34 7 := ⟨by decide +kernel, rfl, by decide⟩
theorem d_X11_fitsHad_34 : DC mi_X11_fitsHad 34 (.iconst 1) 1 35 := ⟨by decide +kernel, rfl⟩
theorem d_X11_fitsHad_35 : DC mi_X11_fitsHad 35 (.ireturn) 1 36 := ⟨by decide +kernel, rfl⟩
set_option maxHeartbeats 4000000 in
set_option maxRecDepth 100000 in
theorem sL_X11_fitsHad_7 (d : Nat) (hd : 11 ≤ d) (c1 : Int32) : ∀ (n : Nat) (x2 : Int32) (h : HH), Sx mi_X11_fitsHad d iI (g_X11_fitsHad_L7 c1 n x2 h) 7 [(0, .ref 255), (1, .int c1), (2, .int x2)] [] h := by
  intro n
  induction n with
  | zero => intro x2 h; exact sx_none
  | succ n ih =>
    intro x2 h
    rw [g_X11_fitsHad_L7]
    refine sx_iload_n d_X11_fitsHad_7 2 rfl ?_
    refine sx_iload_n d_X11_fitsHad_8 1 rfl ?_
    refine sx_icmp_gt d_X11_fitsHad_9 ?_ ?_
    · refine sx_iconst d_X11_fitsHad_34 ic1 ?_
      exact sx_zret (by decide) rfl d_X11_fitsHad_35
    · refine sx_aload_n d_X11_fitsHad_12 0 rfl ?_
      refine sx_iconst d_X11_fitsHad_13 ic1 ?_
      refine sx_iconst d_X11_fitsHad_14 ic0 ?_
      refine sx_callV [.int (1 : Int32), .int (0 : Int32)] mv_X11_passes lM_StairCountModel_433 sh_255 (by omega) rfl rfl (Nat.le_of_ble_eq_true rfl) d_X11_fitsHad_15 (sp_X11_passes (d - 1) (by omega) (1 : Int32) (0 : Int32) h) (fun _ h3 => ?_)
      refine sx_aload_n d_X11_fitsHad_18 0 rfl ?_
      refine sx_iload_n d_X11_fitsHad_19 2 rfl ?_
      refine sx_callV [.int x2] mv_X11_isSo lM_StairCountModel_503 sh_255 (by omega) rfl rfl (Nat.le_of_ble_eq_true rfl) d_X11_fitsHad_20 (sp_X11_isSo (d - 1) (by omega) x2 h3) (fun r6 h5 => ?_)
      refine sx_if_ne d_X11_fitsHad_23 ?_ ?_
      · refine sx_iconst d_X11_fitsHad_26 ic0 ?_
        exact sx_zret (by decide) rfl d_X11_fitsHad_27
      · refine sx_iincV (lc' := fun v7 => [(2, .int v7), (0, .ref 255), (1, .int c1)]) (k0 := 2) d_X11_fitsHad_28 rfl ii1 (by decide) (fun _ => rfl) (fun v7 => ?_)
        refine sx_goto d_X11_fitsHad_31 ?_
        refine sx_lc (lc' := [(0, .ref 255), (1, .int c1), (2, .int v7)]) [1, 2, 0] rfl ?_
        exact ih v7 h5
set_option maxHeartbeats 4000000 in
set_option maxRecDepth 100000 in
theorem sp_X11_fitsHad (d : Nat) (hd : 11 ≤ d) (a0 : Int32) (h : HH) : Sp mi_X11_fitsHad d iI [.ref 255, .int a0] h (g_X11_fitsHad a0 h) := by
  refine sp_of (lc := [(0, .ref 255), (1, .int a0)]) (by decide) (Nat.le_of_ble_eq_true rfl) rfl ?_
  unfold g_X11_fitsHad
  refine sx_aload_n d_X11_fitsHad_0 0 rfl ?_
  refine sx_iconst d_X11_fitsHad_1 ic1 ?_
  refine sx_callV [.int (1 : Int32)] mv_X11_starts lM_StairCountModel_343 sh_255 (by omega) rfl rfl (Nat.le_of_ble_eq_true rfl) d_X11_fitsHad_2 (sp_X11_starts (d - 1) (by omega) (1 : Int32) h) (fun _ h1 => ?_)
  refine sx_iconst d_X11_fitsHad_5 ic1 ?_
  refine sx_istore_n (i := 2) (lc' := [(2, .int (1 : Int32)), (0, .ref 255), (1, .int a0)]) d_X11_fitsHad_6 rfl (by decide) rfl ?_
  refine sx_lc (lc' := [(0, .ref 255), (1, .int a0), (2, .int (1 : Int32))]) [1, 2, 0] rfl ?_
  refine sL_X11_fitsHad_7 d hd a0 1024 (1 : Int32) h1
theorem d_X11_hadsOf_0 : DC mi_X11_hadsOf 0 (.iconst 0) 1 1 := ⟨by decide +kernel, rfl⟩
theorem d_X11_hadsOf_1 : DC mi_X11_hadsOf 1 (.istore_n 3) 1 2 := ⟨by decide +kernel, rfl⟩
theorem d_X11_hadsOf_2 : DC mi_X11_hadsOf 2 (.iconst 0) 1 3 := ⟨by decide +kernel, rfl⟩
theorem d_X11_hadsOf_3 : DC mi_X11_hadsOf 3 (.istore 4) 2 5 := ⟨by decide +kernel, rfl⟩
theorem d_X11_hadsOf_5 : DC mi_X11_hadsOf 5 (.iload 4) 2 7 := ⟨by decide +kernel, rfl⟩
theorem d_X11_hadsOf_7 : DC mi_X11_hadsOf 7 (.aload_n 0) 1 8 := ⟨by decide +kernel, rfl⟩
theorem d_X11_hadsOf_8 : DC mi_X11_hadsOf 8 (.invokevirtual 500) 3 11 := ⟨by decide +kernel, rfl⟩
theorem d_X11_hadsOf_11 : DB mi_X11_hadsOf 11 (.if_icmp .ge 17) 17 14 28 := ⟨by decide +kernel, rfl, by decide⟩
theorem d_X11_hadsOf_14 : DC mi_X11_hadsOf 14 (.aload_n 0) 1 15 := ⟨by decide +kernel, rfl⟩
theorem d_X11_hadsOf_15 : DC mi_X11_hadsOf 15 (.getfield 139) 3 18 := ⟨by decide +kernel, rfl⟩
theorem d_X11_hadsOf_18 : DC mi_X11_hadsOf 18 (.iload 4) 2 20 := ⟨by decide +kernel, rfl⟩
theorem d_X11_hadsOf_20 : DC mi_X11_hadsOf 20 (.iconst 0) 1 21 := ⟨by decide +kernel, rfl⟩
theorem d_X11_hadsOf_21 : DC mi_X11_hadsOf 21 (.bastore) 1 22 := ⟨by decide +kernel, rfl⟩
theorem d_X11_hadsOf_22 : DC mi_X11_hadsOf 22 (.iinc 4 1) 3 25 := ⟨by decide +kernel, rfl⟩
theorem d_X11_hadsOf_25 : DB mi_X11_hadsOf 25 (.goto (-20)) (-20) 28 5 := ⟨by decide +kernel, rfl, by decide⟩
theorem d_X11_hadsOf_28 : DC mi_X11_hadsOf 28 (.aload_n 0) 1 29 := ⟨by decide +kernel, rfl⟩
theorem d_X11_hadsOf_29 : DC mi_X11_hadsOf 29 (.invokevirtual 500) 3 32 := ⟨by decide +kernel, rfl⟩
theorem d_X11_hadsOf_32 : DC mi_X11_hadsOf 32 (.iconst 1) 1 33 := ⟨by decide +kernel, rfl⟩
theorem d_X11_hadsOf_33 : DC mi_X11_hadsOf 33 (.isub) 1 34 := ⟨by decide +kernel, rfl⟩
theorem d_X11_hadsOf_34 : DC mi_X11_hadsOf 34 (.istore 4) 2 36 := ⟨by decide +kernel, rfl⟩
theorem d_X11_hadsOf_36 : DC mi_X11_hadsOf 36 (.iload 4) 2 38 := ⟨by decide +kernel, rfl⟩
theorem d_X11_hadsOf_38 : DB mi_X11_hadsOf 38 (.ifCond .lt 43) 43 41 81 := ⟨by decide +kernel, rfl, by decide⟩
theorem d_X11_hadsOf_41 : DC mi_X11_hadsOf 41 (.aload_n 0) 1 42 := ⟨by decide +kernel, rfl⟩
theorem d_X11_hadsOf_42 : DC mi_X11_hadsOf 42 (.getfield 139) 3 45 := ⟨by decide +kernel, rfl⟩
theorem d_X11_hadsOf_45 : DC mi_X11_hadsOf 45 (.iload 4) 2 47 := ⟨by decide +kernel, rfl⟩
theorem d_X11_hadsOf_47 : DC mi_X11_hadsOf 47 (.baload) 1 48 := ⟨by decide +kernel, rfl⟩
theorem d_X11_hadsOf_48 : DB mi_X11_hadsOf 48 (.ifCond .ne 27) 27 51 75 := ⟨by decide +kernel, rfl, by decide⟩
theorem d_X11_hadsOf_51 : DC mi_X11_hadsOf 51 (.aload_n 0) 1 52 := ⟨by decide +kernel, rfl⟩
theorem d_X11_hadsOf_52 : DC mi_X11_hadsOf 52 (.getfield 136) 3 55 := ⟨by decide +kernel, rfl⟩
theorem d_X11_hadsOf_55 : DC mi_X11_hadsOf 55 (.iload 4) 2 57 := ⟨by decide +kernel, rfl⟩
theorem d_X11_hadsOf_57 : DC mi_X11_hadsOf 57 (.iaload) 1 58 := ⟨by decide +kernel, rfl⟩
theorem d_X11_hadsOf_58 : DC mi_X11_hadsOf 58 (.iconst (-1)) 1 59 := ⟨by decide +kernel, rfl⟩
theorem d_X11_hadsOf_59 : DB mi_X11_hadsOf 59 (.if_icmp .eq 16) 16 62 75 := ⟨by decide +kernel, rfl, by decide⟩
theorem d_X11_hadsOf_62 : DC mi_X11_hadsOf 62 (.aload_n 0) 1 63 := ⟨by decide +kernel, rfl⟩
theorem d_X11_hadsOf_63 : DC mi_X11_hadsOf 63 (.getfield 139) 3 66 := ⟨by decide +kernel, rfl⟩
theorem d_X11_hadsOf_66 : DC mi_X11_hadsOf 66 (.aload_n 0) 1 67 := ⟨by decide +kernel, rfl⟩
theorem d_X11_hadsOf_67 : DC mi_X11_hadsOf 67 (.getfield 136) 3 70 := ⟨by decide +kernel, rfl⟩
theorem d_X11_hadsOf_70 : DC mi_X11_hadsOf 70 (.iload 4) 2 72 := ⟨by decide +kernel, rfl⟩
theorem d_X11_hadsOf_72 : DC mi_X11_hadsOf 72 (.iaload) 1 73 := ⟨by decide +kernel, rfl⟩
theorem d_X11_hadsOf_73 : DC mi_X11_hadsOf 73 (.iconst 1) 1 74 := ⟨by decide +kernel, rfl⟩
theorem d_X11_hadsOf_74 : DC mi_X11_hadsOf 74 (.bastore) 1 75 := ⟨by decide +kernel, rfl⟩
theorem d_X11_hadsOf_75 : DC mi_X11_hadsOf 75 (.iinc 4 (-1)) 3 78 := ⟨by decide +kernel, rfl⟩
theorem d_X11_hadsOf_78 : DB mi_X11_hadsOf 78 (.goto (-42)) (-42) 81 36 := ⟨by decide +kernel, rfl, by decide⟩
theorem d_X11_hadsOf_81 : DC mi_X11_hadsOf 81 (.iconst 0) 1 82 := ⟨by decide +kernel, rfl⟩
theorem d_X11_hadsOf_82 : DC mi_X11_hadsOf 82 (.istore 4) 2 84 := ⟨by decide +kernel, rfl⟩
theorem d_X11_hadsOf_84 : DC mi_X11_hadsOf 84 (.iload 4) 2 86 := ⟨by decide +kernel, rfl⟩
theorem d_X11_hadsOf_86 : DC mi_X11_hadsOf 86 (.aload_n 0) 1 87 := ⟨by decide +kernel, rfl⟩
theorem d_X11_hadsOf_87 : DC mi_X11_hadsOf 87 (.invokevirtual 500) 3 90 := ⟨by decide +kernel, rfl⟩
theorem d_X11_hadsOf_90 : DB mi_X11_hadsOf 90 (.if_icmp .ge 42) 42 93 132 := ⟨by decide +kernel, rfl, by decide⟩
theorem d_X11_hadsOf_93 : DC mi_X11_hadsOf 93 (.aload_n 0) 1 94 := ⟨by decide +kernel, rfl⟩
theorem d_X11_hadsOf_94 : DC mi_X11_hadsOf 94 (.getfield 139) 3 97 := ⟨by decide +kernel, rfl⟩
theorem d_X11_hadsOf_97 : DC mi_X11_hadsOf 97 (.iload 4) 2 99 := ⟨by decide +kernel, rfl⟩
theorem d_X11_hadsOf_99 : DC mi_X11_hadsOf 99 (.baload) 1 100 := ⟨by decide +kernel, rfl⟩
theorem d_X11_hadsOf_100 : DB mi_X11_hadsOf 100 (.ifCond .ne 26) 26 103 126 := ⟨by decide +kernel, rfl, by decide⟩
theorem d_X11_hadsOf_103 : DC mi_X11_hadsOf 103 (.aload_n 0) 1 104 := ⟨by decide +kernel, rfl⟩
theorem d_X11_hadsOf_104 : DC mi_X11_hadsOf 104 (.getfield 136) 3 107 := ⟨by decide +kernel, rfl⟩
theorem d_X11_hadsOf_107 : DC mi_X11_hadsOf 107 (.iload 4) 2 109 := ⟨by decide +kernel, rfl⟩
theorem d_X11_hadsOf_109 : DC mi_X11_hadsOf 109 (.iaload) 1 110 := ⟨by decide +kernel, rfl⟩
theorem d_X11_hadsOf_110 : DC mi_X11_hadsOf 110 (.iconst (-1)) 1 111 := ⟨by decide +kernel, rfl⟩
theorem d_X11_hadsOf_111 : DB mi_X11_hadsOf 111 (.if_icmp .ne 15) 15 114 126 := ⟨by decide +kernel, rfl, by decide⟩
theorem d_X11_hadsOf_114 : DC mi_X11_hadsOf 114 (.iload_n 3) 1 115 := ⟨by decide +kernel, rfl⟩
theorem d_X11_hadsOf_115 : DC mi_X11_hadsOf 115 (.aload_n 0) 1 116 := ⟨by decide +kernel, rfl⟩
theorem d_X11_hadsOf_116 : DC mi_X11_hadsOf 116 (.getfield 123) 3 119 := ⟨by decide +kernel, rfl⟩
theorem d_X11_hadsOf_119 : DC mi_X11_hadsOf 119 (.iload 4) 2 121 := ⟨by decide +kernel, rfl⟩
theorem d_X11_hadsOf_121 : DC mi_X11_hadsOf 121 (.iaload) 1 122 := ⟨by decide +kernel, rfl⟩
theorem d_X11_hadsOf_122 : DC mi_X11_hadsOf 122 (.invokestatic 404) 3 125 := ⟨by decide +kernel, rfl⟩
theorem d_X11_hadsOf_125 : DC mi_X11_hadsOf 125 (.istore_n 3) 1 126 := ⟨by decide +kernel, rfl⟩
theorem d_X11_hadsOf_126 : DC mi_X11_hadsOf 126 (.iinc 4 1) 3 129 := ⟨by decide +kernel, rfl⟩
theorem d_X11_hadsOf_129 : DB mi_X11_hadsOf 129 (.goto (-45)) (-45) 132 84 := ⟨by decide +kernel, rfl, by decide⟩
theorem d_X11_hadsOf_132 : DC mi_X11_hadsOf 132 (.iconst 0) 1 133 := ⟨by decide +kernel, rfl⟩
theorem d_X11_hadsOf_133 : DC mi_X11_hadsOf 133 (.istore 4) 2 135 := ⟨by decide +kernel, rfl⟩
theorem d_X11_hadsOf_135 : DC mi_X11_hadsOf 135 (.aload_n 0) 1 136 := ⟨by decide +kernel, rfl⟩
theorem d_X11_hadsOf_136 : DC mi_X11_hadsOf 136 (.iload_n 1) 1 137 := ⟨by decide +kernel, rfl⟩
theorem d_X11_hadsOf_137 : DC mi_X11_hadsOf 137 (.putfield 96) 3 140 := ⟨by decide +kernel, rfl⟩
theorem d_X11_hadsOf_140 : DC mi_X11_hadsOf 140 (.aload_n 0) 1 141 := ⟨by decide +kernel, rfl⟩
theorem d_X11_hadsOf_141 : DC mi_X11_hadsOf 141 (.iload_n 2) 1 142 := ⟨by decide +kernel, rfl⟩
theorem d_X11_hadsOf_142 : DC mi_X11_hadsOf 142 (.putfield 99) 3 145 := ⟨by decide +kernel, rfl⟩
theorem d_X11_hadsOf_145 : DC mi_X11_hadsOf 145 (.iconst 0) 1 146 := ⟨by decide +kernel, rfl⟩
theorem d_X11_hadsOf_146 : DC mi_X11_hadsOf 146 (.istore 5) 2 148 := ⟨by decide +kernel, rfl⟩
theorem d_X11_hadsOf_148 : DC mi_X11_hadsOf 148 (.iload 5) 2 150 := ⟨by decide +kernel, rfl⟩
theorem d_X11_hadsOf_150 : DC mi_X11_hadsOf 150 (.bipush 19) 2 152 := ⟨by decide +kernel, rfl⟩
theorem d_X11_hadsOf_152 : DB mi_X11_hadsOf 152 (.if_icmp .ge 39) 39 155 191 := ⟨by decide +kernel, rfl, by decide⟩
theorem d_X11_hadsOf_155 : DC mi_X11_hadsOf 155 (.aload_n 0) 1 156 := ⟨by decide +kernel, rfl⟩
theorem d_X11_hadsOf_156 : DC mi_X11_hadsOf 156 (.iload 5) 2 158 := ⟨by decide +kernel, rfl⟩
theorem d_X11_hadsOf_158 : DC mi_X11_hadsOf 158 (.bipush 9) 2 160 := ⟨by decide +kernel, rfl⟩
theorem d_X11_hadsOf_160 : DC mi_X11_hadsOf 160 (.isub) 1 161 := ⟨by decide +kernel, rfl⟩
theorem d_X11_hadsOf_161 : DC mi_X11_hadsOf 161 (.putfield 340) 3 164 := ⟨by decide +kernel, rfl⟩
theorem d_X11_hadsOf_164 : DC mi_X11_hadsOf 164 (.iload 4) 2 166 := ⟨by decide +kernel, rfl⟩
theorem d_X11_hadsOf_166 : DC mi_X11_hadsOf 166 (.aload_n 0) 1 167 := ⟨by decide +kernel, rfl⟩
theorem d_X11_hadsOf_167 : DC mi_X11_hadsOf 167 (.iload_n 3) 1 168 := ⟨by decide +kernel, rfl⟩
theorem d_X11_hadsOf_168 : DC mi_X11_hadsOf 168 (.invokevirtual 506) 3 171 := ⟨by decide +kernel, rfl⟩
theorem d_X11_hadsOf_171 : DB mi_X11_hadsOf 171 (.ifCond .eq 10) 10 174 181 := ⟨by decide +kernel, rfl, by decide⟩
theorem d_X11_hadsOf_174 : DC mi_X11_hadsOf 174 (.iconst 1) 1 175 := ⟨by decide +kernel, rfl⟩
theorem d_X11_hadsOf_175 : DC mi_X11_hadsOf 175 (.iload 5) 2 177 := ⟨by decide +kernel, rfl⟩
theorem d_X11_hadsOf_177 : DC mi_X11_hadsOf 177 (.ishl) 1 178 := ⟨by decide +kernel, rfl⟩
theorem d_X11_hadsOf_178 : DB mi_X11_hadsOf 178 (.goto 4) 4 181 182 := ⟨by decide +kernel, rfl, by decide⟩
theorem d_X11_hadsOf_181 : DC mi_X11_hadsOf 181 (.iconst 0) 1 182 := ⟨by decide +kernel, rfl⟩
theorem d_X11_hadsOf_182 : DC mi_X11_hadsOf 182 (.ior) 1 183 := ⟨by decide +kernel, rfl⟩
theorem d_X11_hadsOf_183 : DC mi_X11_hadsOf 183 (.istore 4) 2 185 := ⟨by decide +kernel, rfl⟩
theorem d_X11_hadsOf_185 : DC mi_X11_hadsOf 185 (.iinc 5 1) 3 188 := ⟨by decide +kernel, rfl⟩
theorem d_X11_hadsOf_188 : DB mi_X11_hadsOf 188 (.goto (-40)) (-40) 191 148 := ⟨by decide +kernel, rfl, by decide⟩
theorem d_X11_hadsOf_191 : DC mi_X11_hadsOf 191 (.aload_n 0) 1 192 := ⟨by decide +kernel, rfl⟩
theorem d_X11_hadsOf_192 : DC mi_X11_hadsOf 192 (.iconst (-1)) 1 193 := ⟨by decide +kernel, rfl⟩
theorem d_X11_hadsOf_193 : DC mi_X11_hadsOf 193 (.putfield 96) 3 196 := ⟨by decide +kernel, rfl⟩
theorem d_X11_hadsOf_196 : DC mi_X11_hadsOf 196 (.iload 4) 2 198 := ⟨by decide +kernel, rfl⟩
theorem d_X11_hadsOf_198 : DC mi_X11_hadsOf 198 (.ireturn) 1 199 := ⟨by decide +kernel, rfl⟩
set_option maxHeartbeats 4000000 in
set_option maxRecDepth 100000 in
theorem sL_X11_hadsOf_5 (d : Nat) (hd : 12 ≤ d) (K28 : HH → Option (Int32 × HH)) (c1 : Int32) (c2 : Int32) (hK28 : ∀ (h : HH), Sx mi_X11_hadsOf d iI (K28 h) 28 [(0, .ref 255), (1, .int c1), (2, .int c2), (3, .int (0 : Int32))] [] h) : ∀ (n : Nat) (x4 : Int32) (h : HH), Sx mi_X11_hadsOf d iI (g_X11_hadsOf_L5 K28 c1 c2 n x4 h) 5 [(0, .ref 255), (1, .int c1), (2, .int c2), (3, .int (0 : Int32)), (4, .int x4)] [] h := by
  intro n
  induction n with
  | zero => intro x4 h; exact sx_none
  | succ n ih =>
    intro x4 h
    rw [g_X11_hadsOf_L5]
    refine sx_iload d_X11_hadsOf_5 4 rfl ?_
    refine sx_aload_n d_X11_hadsOf_7 0 rfl ?_
    refine sx_callV [] mv_X11_knownMany lM_StairCountModel_500 sh_255 (by omega) rfl rfl (Nat.le_of_ble_eq_true rfl) d_X11_hadsOf_8 (sp_X11_knownMany (d - 1) (by omega) h) (fun r2 h1 => ?_)
    refine sx_icmp_ge d_X11_hadsOf_11 ?_ ?_
    · refine sx_aload_n d_X11_hadsOf_14 0 rfl ?_
      refine sx_getF (a' := 293) fl_StairCountModel_139 sh_255 rfl rfl d_X11_hadsOf_15 ?_
      refine sx_iload d_X11_hadsOf_18 4 rfl ?_
      refine sx_iconst d_X11_hadsOf_20 ic0 ?_
      refine sx_zast sh_293 d_X11_hadsOf_21 (fun h3 => ?_)
      refine sx_iincV (lc' := fun v4 => [(4, .int v4), (0, .ref 255), (1, .int c1), (2, .int c2), (3, .int (0 : Int32))]) (k0 := 4) d_X11_hadsOf_22 rfl ii1 (by decide) (fun _ => rfl) (fun v4 => ?_)
      refine sx_goto d_X11_hadsOf_25 ?_
      refine sx_lc (lc' := [(0, .ref 255), (1, .int c1), (2, .int c2), (3, .int (0 : Int32)), (4, .int v4)]) [1, 2, 3, 4, 0] rfl ?_
      exact ih v4 h3
    · refine sx_lc (lc' := [(0, .ref 255), (1, .int c1), (2, .int c2), (3, .int (0 : Int32))]) [0, 1, 2, 3] rfl ?_
      exact hK28 h1
set_option maxHeartbeats 4000000 in
set_option maxRecDepth 100000 in
theorem sL_X11_hadsOf_36 (d : Nat) (hd : 12 ≤ d) (K81 : HH → Option (Int32 × HH)) (c1 : Int32) (c2 : Int32) (hK81 : ∀ (h : HH), Sx mi_X11_hadsOf d iI (K81 h) 81 [(0, .ref 255), (1, .int c1), (2, .int c2), (3, .int (0 : Int32))] [] h) : ∀ (n : Nat) (x4 : Int32) (h : HH), Sx mi_X11_hadsOf d iI (g_X11_hadsOf_L36 K81 c1 c2 n x4 h) 36 [(0, .ref 255), (1, .int c1), (2, .int c2), (3, .int (0 : Int32)), (4, .int x4)] [] h := by
  intro n
  induction n with
  | zero => intro x4 h; exact sx_none
  | succ n ih =>
    intro x4 h
    rw [g_X11_hadsOf_L36]
    refine sx_iload d_X11_hadsOf_36 4 rfl ?_
    refine sx_if_lt d_X11_hadsOf_38 ?_ ?_
    · refine sx_lc (lc' := [(0, .ref 255), (1, .int c1), (2, .int c2), (3, .int (0 : Int32))]) [0, 1, 2, 3] rfl ?_
      exact hK81 h
    · refine sx_aload_n d_X11_hadsOf_41 0 rfl ?_
      refine sx_getF (a' := 293) fl_StairCountModel_139 sh_255 rfl rfl d_X11_hadsOf_42 ?_
      refine sx_iload d_X11_hadsOf_45 4 rfl ?_
      refine sx_zald sh_293 d_X11_hadsOf_47 (fun v9 => ?_)
      refine sx_jn (fun j => ∀  (h : HH), Sx mi_X11_hadsOf d iI (j  h) 75 [(0, .ref 255), (1, .int c1), (2, .int c2), (3, .int (0 : Int32)), (4, .int x4)] [] h) ?_ ?_
      · intro  h12
        refine sx_iincV (lc' := fun v13 => [(4, .int v13), (0, .ref 255), (1, .int c1), (2, .int c2), (3, .int (0 : Int32))]) (k0 := 4) d_X11_hadsOf_75 rfl iim1 (by decide) (fun _ => rfl) (fun v13 => ?_)
        refine sx_goto d_X11_hadsOf_78 ?_
        refine sx_lc (lc' := [(0, .ref 255), (1, .int c1), (2, .int c2), (3, .int (0 : Int32)), (4, .int v13)]) [1, 2, 3, 4, 0] rfl ?_
        exact ih v13 h12
      · intro j10 k11
        refine sx_if_ne d_X11_hadsOf_48 ?_ ?_
        · refine sx_aload_n d_X11_hadsOf_51 0 rfl ?_
          refine sx_getF (a' := 292) fl_StairCountModel_136 sh_255 rfl rfl d_X11_hadsOf_52 ?_
          refine sx_iload d_X11_hadsOf_55 4 rfl ?_
          refine sx_iald sh_292 d_X11_hadsOf_57 (fun v14 => ?_)
          refine sx_iconst d_X11_hadsOf_58 icm1 ?_
          refine sx_icmp_eq d_X11_hadsOf_59 ?_ ?_
          · exact k11 h
          · refine sx_aload_n d_X11_hadsOf_62 0 rfl ?_
            refine sx_getF (a' := 293) fl_StairCountModel_139 sh_255 rfl rfl d_X11_hadsOf_63 ?_
            refine sx_aload_n d_X11_hadsOf_66 0 rfl ?_
            refine sx_getF (a' := 292) fl_StairCountModel_136 sh_255 rfl rfl d_X11_hadsOf_67 ?_
            refine sx_iload d_X11_hadsOf_70 4 rfl ?_
            refine sx_iald sh_292 d_X11_hadsOf_72 (fun v15 => ?_)
            refine sx_iconst d_X11_hadsOf_73 ic1 ?_
            refine sx_zast sh_293 d_X11_hadsOf_74 (fun h16 => ?_)
            exact k11 h16
        · exact k11 h
set_option maxHeartbeats 4000000 in
set_option maxRecDepth 100000 in
theorem sL_X11_hadsOf_84 (d : Nat) (hd : 12 ≤ d) (K132 : Int32 → HH → Option (Int32 × HH)) (c1 : Int32) (c2 : Int32) (hK132 : ∀ (z3 : Int32) (h : HH), Sx mi_X11_hadsOf d iI (K132 z3 h) 132 [(0, .ref 255), (1, .int c1), (2, .int c2), (3, .int z3)] [] h) : ∀ (n : Nat) (x3 : Int32) (x4 : Int32) (h : HH), Sx mi_X11_hadsOf d iI (g_X11_hadsOf_L84 K132 c1 c2 n x3 x4 h) 84 [(0, .ref 255), (1, .int c1), (2, .int c2), (3, .int x3), (4, .int x4)] [] h := by
  intro n
  induction n with
  | zero => intro x3 x4 h; exact sx_none
  | succ n ih =>
    intro x3 x4 h
    rw [g_X11_hadsOf_L84]
    refine sx_iload d_X11_hadsOf_84 4 rfl ?_
    refine sx_aload_n d_X11_hadsOf_86 0 rfl ?_
    refine sx_callV [] mv_X11_knownMany lM_StairCountModel_500 sh_255 (by omega) rfl rfl (Nat.le_of_ble_eq_true rfl) d_X11_hadsOf_87 (sp_X11_knownMany (d - 1) (by omega) h) (fun r19 h18 => ?_)
    refine sx_icmp_ge d_X11_hadsOf_90 ?_ ?_
    · refine sx_aload_n d_X11_hadsOf_93 0 rfl ?_
      refine sx_getF (a' := 293) fl_StairCountModel_139 sh_255 rfl rfl d_X11_hadsOf_94 ?_
      refine sx_iload d_X11_hadsOf_97 4 rfl ?_
      refine sx_zald sh_293 d_X11_hadsOf_99 (fun v20 => ?_)
      refine sx_jn (fun j => ∀ (u24 : Int32) (h : HH), Sx mi_X11_hadsOf d iI (j u24 h) 126 [(0, .ref 255), (1, .int c1), (2, .int c2), (3, .int u24), (4, .int x4)] [] h) ?_ ?_
      · intro u24 h23
        refine sx_iincV (lc' := fun v25 => [(4, .int v25), (0, .ref 255), (1, .int c1), (2, .int c2), (3, .int u24)]) (k0 := 4) d_X11_hadsOf_126 rfl ii1 (by decide) (fun _ => rfl) (fun v25 => ?_)
        refine sx_goto d_X11_hadsOf_129 ?_
        refine sx_lc (lc' := [(0, .ref 255), (1, .int c1), (2, .int c2), (3, .int u24), (4, .int v25)]) [1, 2, 3, 4, 0] rfl ?_
        exact ih u24 v25 h23
      · intro j21 k22
        refine sx_if_ne d_X11_hadsOf_100 ?_ ?_
        · refine sx_aload_n d_X11_hadsOf_103 0 rfl ?_
          refine sx_getF (a' := 292) fl_StairCountModel_136 sh_255 rfl rfl d_X11_hadsOf_104 ?_
          refine sx_iload d_X11_hadsOf_107 4 rfl ?_
          refine sx_iald sh_292 d_X11_hadsOf_109 (fun v26 => ?_)
          refine sx_iconst d_X11_hadsOf_110 icm1 ?_
          refine sx_icmp_ne d_X11_hadsOf_111 ?_ ?_
          · refine sx_iload_n d_X11_hadsOf_114 3 rfl ?_
            refine sx_aload_n d_X11_hadsOf_115 0 rfl ?_
            refine sx_getF (a' := 288) fl_StairCountModel_123 sh_255 rfl rfl d_X11_hadsOf_116 ?_
            refine sx_iload d_X11_hadsOf_119 4 rfl ?_
            refine sx_iald sh_288 d_X11_hadsOf_121 (fun v27 => ?_)
            refine sx_mmax lM_StairCountModel_404 (by omega) (Nat.le_of_ble_eq_true rfl) d_X11_hadsOf_122 ?_
            refine sx_vlI (fun v28 => ?_)
            refine sx_istore_n (i := 3) (lc' := [(3, .int v28), (0, .ref 255), (1, .int c1), (2, .int c2), (4, .int x4)]) d_X11_hadsOf_125 rfl (by decide) rfl ?_
            refine sx_lc (lc' := [(0, .ref 255), (1, .int c1), (2, .int c2), (3, .int v28), (4, .int x4)]) [1, 2, 3, 0, 4] rfl ?_
            exact k22 v28 h18
          · exact k22 x3 h18
        · exact k22 x3 h18
    · refine sx_lc (lc' := [(0, .ref 255), (1, .int c1), (2, .int c2), (3, .int x3)]) [0, 1, 2, 3] rfl ?_
      exact hK132 x3 h18
set_option maxHeartbeats 4000000 in
set_option maxRecDepth 100000 in
theorem sL_X11_hadsOf_148 (d : Nat) (hd : 12 ≤ d) (K191 : Int32 → HH → Option (Int32 × HH)) (c3 : Int32) (hK191 : ∀ (z4 : Int32) (h : HH), Sx mi_X11_hadsOf d iI (K191 z4 h) 191 [(0, .ref 255), (4, .int z4)] [] h) : ∀ (n : Nat) (x4 : Int32) (x5 : Int32) (h : HH), Sx mi_X11_hadsOf d iI (g_X11_hadsOf_L148 K191 c3 n x4 x5 h) 148 [(0, .ref 255), (3, .int c3), (4, .int x4), (5, .int x5)] [] h := by
  intro n
  induction n with
  | zero => intro x4 x5 h; exact sx_none
  | succ n ih =>
    intro x4 x5 h
    rw [g_X11_hadsOf_L148]
    refine sx_iload d_X11_hadsOf_148 3 rfl ?_
    refine sx_bipush d_X11_hadsOf_150 bc19 ?_
    refine sx_icmp_ge d_X11_hadsOf_152 ?_ ?_
    · refine sx_aload_n d_X11_hadsOf_155 0 rfl ?_
      refine sx_iload d_X11_hadsOf_156 3 rfl ?_
      refine sx_bipush d_X11_hadsOf_158 bc9 ?_
      refine sx_isub d_X11_hadsOf_160 ?_
      refine sx_putI fl_StairCountModel_340 sh_255 rfl hty_11_47 d_X11_hadsOf_161 (fun h33 => ?_)
      refine sx_iload d_X11_hadsOf_164 2 rfl ?_
      refine sx_aload_n d_X11_hadsOf_166 0 rfl ?_
      refine sx_iload_n d_X11_hadsOf_167 1 rfl ?_
      refine sx_callV [.int c3] mv_X11_fitsHad lM_StairCountModel_506 sh_255 (by omega) rfl rfl (Nat.le_of_ble_eq_true rfl) d_X11_hadsOf_168 (sp_X11_fitsHad (d - 1) (by omega) c3 h33) (fun r35 h34 => ?_)
      refine sx_jn (fun j => ∀ (y39 : Int32) (h : HH), Sx mi_X11_hadsOf d iI (j y39 h) 182 [(0, .ref 255), (3, .int c3), (5, .int x5)] [.int y39, .int x4] h) ?_ ?_
      · intro y39 h38
        refine sx_ior d_X11_hadsOf_182 ?_
        refine sx_vlI (fun v40 => ?_)
        refine sx_istore (i := 4) (lc' := [(4, .int v40), (0, .ref 255), (3, .int c3), (5, .int x5)]) d_X11_hadsOf_183 (by decide) rfl ?_
        refine sx_iincV (lc' := fun v41 => [(5, .int v41), (4, .int v40), (0, .ref 255), (3, .int c3)]) (k0 := 3) d_X11_hadsOf_185 rfl ii1 (by decide) (fun _ => rfl) (fun v41 => ?_)
        refine sx_goto d_X11_hadsOf_188 ?_
        refine sx_lc (lc' := [(0, .ref 255), (3, .int c3), (4, .int v40), (5, .int v41)]) [2, 3, 1, 0] rfl ?_
        exact ih v40 v41 h38
      · intro j36 k37
        refine sx_if_eq d_X11_hadsOf_171 ?_ ?_
        · refine sx_iconst d_X11_hadsOf_181 ic0 ?_
          refine sx_lc (lc' := [(0, .ref 255), (3, .int c3), (5, .int x5)]) [0, 1, 3] rfl ?_
          exact k37 (0 : Int32) h34
        · refine sx_iconst d_X11_hadsOf_174 ic1 ?_
          refine sx_iload d_X11_hadsOf_175 3 rfl ?_
          refine sx_ishl d_X11_hadsOf_177 ?_
          refine sx_goto d_X11_hadsOf_178 ?_
          refine sx_lc (lc' := [(0, .ref 255), (3, .int c3), (5, .int x5)]) [0, 1, 3] rfl ?_
          exact k37 ((1 : Int32) <<< (x5 &&& 31)) h34
    · refine sx_lc (lc' := [(0, .ref 255), (4, .int x4)]) [0, 2] rfl ?_
      exact hK191 x4 h
set_option maxHeartbeats 4000000 in
set_option maxRecDepth 100000 in
theorem sp_X11_hadsOf (d : Nat) (hd : 12 ≤ d) (a0 : Int32) (a1 : Int32) (h : HH) : Sp mi_X11_hadsOf d iI [.ref 255, .int a0, .int a1] h (g_X11_hadsOf a0 a1 h) := by
  refine sp_of (lc := [(0, .ref 255), (1, .int a0), (2, .int a1)]) (by decide) (Nat.le_of_ble_eq_true rfl) rfl ?_
  unfold g_X11_hadsOf
  refine sx_iconst d_X11_hadsOf_0 ic0 ?_
  refine sx_istore_n (i := 3) (lc' := [(3, .int (0 : Int32)), (0, .ref 255), (1, .int a0), (2, .int a1)]) d_X11_hadsOf_1 rfl (by decide) rfl ?_
  refine sx_iconst d_X11_hadsOf_2 ic0 ?_
  refine sx_istore (i := 4) (lc' := [(4, .int (0 : Int32)), (3, .int (0 : Int32)), (0, .ref 255), (1, .int a0), (2, .int a1)]) d_X11_hadsOf_3 (by decide) rfl ?_
  refine sx_lc (lc' := [(0, .ref 255), (1, .int a0), (2, .int a1), (3, .int (0 : Int32)), (4, .int (0 : Int32))]) [2, 3, 4, 1, 0] rfl ?_
  refine sL_X11_hadsOf_5 d hd _ a0 a1 ?_ 1024 (0 : Int32) h
  · intro h5
    refine sx_aload_n d_X11_hadsOf_28 0 rfl ?_
    refine sx_callV [] mv_X11_knownMany lM_StairCountModel_500 sh_255 (by omega) rfl rfl (Nat.le_of_ble_eq_true rfl) d_X11_hadsOf_29 (sp_X11_knownMany (d - 1) (by omega) h5) (fun r7 h6 => ?_)
    refine sx_iconst d_X11_hadsOf_32 ic1 ?_
    refine sx_isub d_X11_hadsOf_33 ?_
    refine sx_vlI (fun v8 => ?_)
    refine sx_istore (i := 4) (lc' := [(4, .int v8), (0, .ref 255), (1, .int a0), (2, .int a1), (3, .int (0 : Int32))]) d_X11_hadsOf_34 (by decide) rfl ?_
    refine sx_lc (lc' := [(0, .ref 255), (1, .int a0), (2, .int a1), (3, .int (0 : Int32)), (4, .int v8)]) [1, 2, 3, 4, 0] rfl ?_
    refine sL_X11_hadsOf_36 d hd _ a0 a1 ?_ 1024 v8 h6
    · intro h17
      refine sx_iconst d_X11_hadsOf_81 ic0 ?_
      refine sx_istore (i := 4) (lc' := [(4, .int (0 : Int32)), (0, .ref 255), (1, .int a0), (2, .int a1), (3, .int (0 : Int32))]) d_X11_hadsOf_82 (by decide) rfl ?_
      refine sx_lc (lc' := [(0, .ref 255), (1, .int a0), (2, .int a1), (3, .int (0 : Int32)), (4, .int (0 : Int32))]) [1, 2, 3, 4, 0] rfl ?_
      refine sL_X11_hadsOf_84 d hd _ a0 a1 ?_ 1024 (0 : Int32) (0 : Int32) h17
      · intro z30 h29
        refine sx_iconst d_X11_hadsOf_132 ic0 ?_
        refine sx_istore (i := 4) (lc' := [(4, .int (0 : Int32)), (0, .ref 255), (1, .int a0), (2, .int a1), (3, .int z30)]) d_X11_hadsOf_133 (by decide) rfl ?_
        refine sx_aload_n d_X11_hadsOf_135 1 rfl ?_
        refine sx_iload_n d_X11_hadsOf_136 2 rfl ?_
        refine sx_putI fl_StairCountModel_96 sh_255 rfl hty_11_45 d_X11_hadsOf_137 (fun h31 => ?_)
        refine sx_aload_n d_X11_hadsOf_140 1 rfl ?_
        refine sx_iload_n d_X11_hadsOf_141 3 rfl ?_
        refine sx_putI fl_StairCountModel_99 sh_255 rfl hty_11_46 d_X11_hadsOf_142 (fun h32 => ?_)
        refine sx_iconst d_X11_hadsOf_145 ic0 ?_
        refine sx_istore (i := 5) (lc' := [(5, .int (0 : Int32)), (4, .int (0 : Int32)), (0, .ref 255), (1, .int a0), (2, .int a1), (3, .int z30)]) d_X11_hadsOf_146 (by decide) rfl ?_
        refine sx_lc (lc' := [(0, .ref 255), (3, .int z30), (4, .int (0 : Int32)), (5, .int (0 : Int32))]) [2, 5, 1, 0] rfl ?_
        refine sL_X11_hadsOf_148 d hd _ z30 ?_ 1024 (0 : Int32) (0 : Int32) h32
        · intro z43 h42
          refine sx_aload_n d_X11_hadsOf_191 0 rfl ?_
          refine sx_iconst d_X11_hadsOf_192 icm1 ?_
          refine sx_putI fl_StairCountModel_96 sh_255 rfl hty_11_45 d_X11_hadsOf_193 (fun h44 => ?_)
          refine sx_iload d_X11_hadsOf_196 1 rfl ?_
          exact sx_iret rfl d_X11_hadsOf_198
theorem d_X11_hads_0 : DC mi_X11_hads 0 (.aload_n 0) 1 1 := ⟨by decide +kernel, rfl⟩
theorem d_X11_hads_1 : DC mi_X11_hads 1 (.iconst 0) 1 2 := ⟨by decide +kernel, rfl⟩
theorem d_X11_hads_2 : DC mi_X11_hads 2 (.putfield 148) 3 5 := ⟨by decide +kernel, rfl⟩
theorem d_X11_hads_5 : DC mi_X11_hads 5 (.aload_n 0) 1 6 := ⟨by decide +kernel, rfl⟩
theorem d_X11_hads_6 : DC mi_X11_hads 6 (.iload_n 1) 1 7 := ⟨by decide +kernel, rfl⟩
theorem d_X11_hads_7 : DC mi_X11_hads 7 (.iload_n 2) 1 8 := ⟨by decide +kernel, rfl⟩
theorem d_X11_hads_8 : DC mi_X11_hads 8 (.invokevirtual 437) 3 11 := ⟨by decide +kernel, rfl⟩
theorem d_X11_hads_11 : DB mi_X11_hads 11 (.ifCond .eq 12) 12 14 23 := ⟨by decide +kernel, rfl, by decide⟩
theorem d_X11_hads_14 : DC mi_X11_hads 14 (.aload_n 0) 1 15 := ⟨by decide +kernel, rfl⟩
theorem d_X11_hads_15 : DC mi_X11_hads 15 (.iload_n 1) 1 16 := ⟨by decide +kernel, rfl⟩
theorem d_X11_hads_16 : DC mi_X11_hads 16 (.iload_n 2) 1 17 := ⟨by decide +kernel, rfl⟩
theorem d_X11_hads_17 : DC mi_X11_hads 17 (.invokevirtual 509) 3 20 := ⟨by decide +kernel, rfl⟩
theorem d_X11_hads_20 : DB mi_X11_hads 20 (.goto 4) 4 23 24 := ⟨by decide +kernel, rfl, by decide⟩
theorem d_X11_hads_23 : DC mi_X11_hads 23 (.iconst (-1)) 1 24 := ⟨by decide +kernel, rfl⟩
theorem d_X11_hads_24 : DC mi_X11_hads 24 (.ireturn) 1 25 := ⟨by decide +kernel, rfl⟩
set_option maxHeartbeats 4000000 in
set_option maxRecDepth 100000 in
theorem sp_X11_hads (d : Nat) (hd : 13 ≤ d) (a0 : Int32) (a1 : Int32) (h : HH) : Sp mi_X11_hads d iI [.ref 255, .int a0, .int a1] h (g_X11_hads a0 a1 h) := by
  refine sp_of (lc := [(0, .ref 255), (1, .int a0), (2, .int a1)]) (by decide) (Nat.le_of_ble_eq_true rfl) rfl ?_
  unfold g_X11_hads
  refine sx_aload_n d_X11_hads_0 0 rfl ?_
  refine sx_iconst d_X11_hads_1 ic0 ?_
  refine sx_putI fl_StairCountModel_148 sh_255 rfl hty_11_0 d_X11_hads_2 (fun h1 => ?_)
  refine sx_aload_n d_X11_hads_5 0 rfl ?_
  refine sx_iload_n d_X11_hads_6 1 rfl ?_
  refine sx_iload_n d_X11_hads_7 2 rfl ?_
  refine sx_callV [.int a0, .int a1] mv_X11_areOf lM_StairCountModel_437 sh_255 (by omega) rfl rfl (Nat.le_of_ble_eq_true rfl) d_X11_hads_8 (sp_X11_areOf (d - 1) (by omega) a0 a1 h1) (fun r3 h2 => ?_)
  refine sx_if_eq d_X11_hads_11 ?_ ?_
  · refine sx_iconst d_X11_hads_23 icm1 ?_
    exact sx_iret rfl d_X11_hads_24
  · refine sx_aload_n d_X11_hads_14 0 rfl ?_
    refine sx_iload_n d_X11_hads_15 1 rfl ?_
    refine sx_iload_n d_X11_hads_16 2 rfl ?_
    refine sx_callV [.int a0, .int a1] mv_X11_hadsOf lM_StairCountModel_509 sh_255 (by omega) rfl rfl (Nat.le_of_ble_eq_true rfl) d_X11_hads_17 (sp_X11_hadsOf (d - 1) (by omega) a0 a1 h2) (fun r5 h4 => ?_)
    refine sx_goto d_X11_hads_20 ?_
    exact sx_iret rfl d_X11_hads_24
theorem d_X11_worstAt_0 : DC mi_X11_worstAt 0 (.iconst 0) 1 1 := ⟨by decide +kernel, rfl⟩
theorem d_X11_worstAt_1 : DC mi_X11_worstAt 1 (.istore_n 3) 1 2 := ⟨by decide +kernel, rfl⟩
theorem d_X11_worstAt_2 : DC mi_X11_worstAt 2 (.iconst 0) 1 3 := ⟨by decide +kernel, rfl⟩
theorem d_X11_worstAt_3 : DC mi_X11_worstAt 3 (.istore 4) 2 5 := ⟨by decide +kernel, rfl⟩
theorem d_X11_worstAt_5 : DC mi_X11_worstAt 5 (.iload 4) 2 7 := ⟨by decide +kernel, rfl⟩
theorem d_X11_worstAt_7 : DC mi_X11_worstAt 7 (.bipush 19) 2 9 := ⟨by decide +kernel, rfl⟩
theorem d_X11_worstAt_9 : DB mi_X11_worstAt 9 (.if_icmp .ge 92) 92 12 101 := ⟨by decide +kernel, rfl, by decide⟩
theorem d_X11_worstAt_12 : DC mi_X11_worstAt 12 (.iconst 0) 1 13 := ⟨by decide +kernel, rfl⟩
theorem d_X11_worstAt_13 : DC mi_X11_worstAt 13 (.istore 5) 2 15 := ⟨by decide +kernel, rfl⟩
theorem d_X11_worstAt_15 : DC mi_X11_worstAt 15 (.iconst 0) 1 16 := ⟨by decide +kernel, rfl⟩
theorem d_X11_worstAt_16 : DC mi_X11_worstAt 16 (.istore 6) 2 18 := ⟨by decide +kernel, rfl⟩
theorem d_X11_worstAt_18 : DC mi_X11_worstAt 18 (.iload 6) 2 20 := ⟨by decide +kernel, rfl⟩
theorem d_X11_worstAt_20 : DC mi_X11_worstAt 20 (.bipush 19) 2 22 := ⟨by decide +kernel, rfl⟩
theorem d_X11_worstAt_22 : DB mi_X11_worstAt 22 (.if_icmp .ge 56) 56 25 78 := ⟨by decide +kernel, rfl, by decide⟩
theorem d_X11_worstAt_25 : DC mi_X11_worstAt 25 (.iload 5) 2 27 := ⟨by decide +kernel, rfl⟩
theorem d_X11_worstAt_27 : DC mi_X11_worstAt 27 (.iload_n 1) 1 28 := ⟨by decide +kernel, rfl⟩
theorem d_X11_worstAt_28 : DC mi_X11_worstAt 28 (.iload 6) 2 30 := ⟨by decide +kernel, rfl⟩
theorem d_X11_worstAt_30 : DC mi_X11_worstAt 30 (.ishr) 1 31 := ⟨by decide +kernel, rfl⟩
theorem d_X11_worstAt_31 : DC mi_X11_worstAt 31 (.iconst 1) 1 32 := ⟨by decide +kernel, rfl⟩
theorem d_X11_worstAt_32 : DC mi_X11_worstAt 32 (.iand) 1 33 := ⟨by decide +kernel, rfl⟩
theorem d_X11_worstAt_33 : DC mi_X11_worstAt 33 (.iconst 1) 1 34 := ⟨by decide +kernel, rfl⟩
theorem d_X11_worstAt_34 : DB mi_X11_worstAt 34 (.if_icmp .ne 34) 34 37 68 := ⟨by decide +kernel, rfl, by decide⟩
theorem d_X11_worstAt_37 : DC mi_X11_worstAt 37 (.aload_n 0) 1 38 := ⟨by decide +kernel, rfl⟩
theorem d_X11_worstAt_38 : DC mi_X11_worstAt 38 (.getfield 142) 3 41 := ⟨by decide +kernel, rfl⟩
theorem d_X11_worstAt_41 : DC mi_X11_worstAt 41 (.bipush 41) 2 43 := ⟨by decide +kernel, rfl⟩
theorem d_X11_worstAt_43 : DC mi_X11_worstAt 43 (.iload 6) 2 45 := ⟨by decide +kernel, rfl⟩
theorem d_X11_worstAt_45 : DC mi_X11_worstAt 45 (.imul) 1 46 := ⟨by decide +kernel, rfl⟩
theorem d_X11_worstAt_46 : DC mi_X11_worstAt 46 (.iload_n 2) 1 47 := ⟨by decide +kernel, rfl⟩
theorem d_X11_worstAt_47 : DC mi_X11_worstAt 47 (.iadd) 1 48 := ⟨by decide +kernel, rfl⟩
theorem d_X11_worstAt_48 : DC mi_X11_worstAt 48 (.iaload) 1 49 := ⟨by decide +kernel, rfl⟩
theorem d_X11_worstAt_49 : DC mi_X11_worstAt 49 (.aload_n 0) 1 50 := ⟨by decide +kernel, rfl⟩
theorem d_X11_worstAt_50 : DC mi_X11_worstAt 50 (.getfield 142) 3 53 := ⟨by decide +kernel, rfl⟩
theorem d_X11_worstAt_53 : DC mi_X11_worstAt 53 (.bipush 41) 2 55 := ⟨by decide +kernel, rfl⟩
theorem d_X11_worstAt_55 : DC mi_X11_worstAt 55 (.iload 4) 2 57 := ⟨by decide +kernel, rfl⟩
theorem d_X11_worstAt_57 : DC mi_X11_worstAt 57 (.imul) 1 58 := ⟨by decide +kernel, rfl⟩
theorem d_X11_worstAt_58 : DC mi_X11_worstAt 58 (.iload_n 2) 1 59 := ⟨by decide +kernel, rfl⟩
theorem d_X11_worstAt_59 : DC mi_X11_worstAt 59 (.iadd) 1 60 := ⟨by decide +kernel, rfl⟩
theorem d_X11_worstAt_60 : DC mi_X11_worstAt 60 (.iaload) 1 61 := ⟨by decide +kernel, rfl⟩
theorem d_X11_worstAt_61 : DB mi_X11_worstAt 61 (.if_icmp .ne 7) 7 64 68 := ⟨by decide +kernel, rfl, by decide⟩
theorem d_X11_worstAt_64 : DC mi_X11_worstAt 64 (.iconst 1) 1 65 := ⟨by decide +kernel, rfl⟩
theorem d_X11_worstAt_65 : DB mi_X11_worstAt 65 (.goto 4) 4 68 69 := ⟨by decide +kernel, rfl, by decide⟩
theorem d_X11_worstAt_68 : DC mi_X11_worstAt 68 (.iconst 0) 1 69 := ⟨by decide +kernel, rfl⟩
theorem d_X11_worstAt_69 : DC mi_X11_worstAt 69 (.iadd) 1 70 := ⟨by decide +kernel, rfl⟩
theorem d_X11_worstAt_70 : DC mi_X11_worstAt 70 (.istore 5) 2 72 := ⟨by decide +kernel, rfl⟩
theorem d_X11_worstAt_72 : DC mi_X11_worstAt 72 (.iinc 6 1) 3 75 := ⟨by decide +kernel, rfl⟩
theorem d_X11_worstAt_75 : DB mi_X11_worstAt 75 (.goto (-57)) (-57) 78 18 := ⟨by decide +kernel, rfl, by decide⟩
theorem d_X11_worstAt_78 : DC mi_X11_worstAt 78 (.iload_n 1) 1 79 := ⟨by decide +kernel, rfl⟩
theorem d_X11_worstAt_79 : DC mi_X11_worstAt 79 (.iload 4) 2 81 := ⟨by decide +kernel, rfl⟩
theorem d_X11_worstAt_81 : DC mi_X11_worstAt 81 (.ishr) 1 82 := ⟨by decide +kernel, rfl⟩
theorem d_X11_worstAt_82 : DC mi_X11_worstAt 82 (.iconst 1) 1 83 := ⟨by decide +kernel, rfl⟩
theorem d_X11_worstAt_83 : DC mi_X11_worstAt 83 (.iand) 1 84 := ⟨by decide +kernel, rfl⟩
theorem d_X11_worstAt_84 : DC mi_X11_worstAt 84 (.iconst 1) 1 85 := ⟨by decide +kernel, rfl⟩
theorem d_X11_worstAt_85 : DB mi_X11_worstAt 85 (.if_icmp .ne 10) 10 88 95 := ⟨by decide +kernel, rfl, by decide⟩
theorem d_X11_worstAt_88 : DC mi_X11_worstAt 88 (.iload_n 3) 1 89 := ⟨by decide +kernel, rfl⟩
theorem d_X11_worstAt_89 : DC mi_X11_worstAt 89 (.iload 5) 2 91 := ⟨by decide +kernel, rfl⟩
theorem d_X11_worstAt_91 : DC mi_X11_worstAt 91 (.invokestatic 404) 3 94 := ⟨by decide +kernel, rfl⟩
theorem d_X11_worstAt_94 : DC mi_X11_worstAt 94 (.istore_n 3) 1 95 := ⟨by decide +kernel, rfl⟩
theorem d_X11_worstAt_95 : DC mi_X11_worstAt 95 (.iinc 4 1) 3 98 := ⟨by decide +kernel, rfl⟩
theorem d_X11_worstAt_98 : DB mi_X11_worstAt 98 (.goto (-93)) (-93) 101 5 := ⟨by decide +kernel, rfl, by decide⟩
theorem d_X11_worstAt_101 : DC mi_X11_worstAt 101 (.iload_n 3) 1 102 := ⟨by decide +kernel, rfl⟩
theorem d_X11_worstAt_102 : DC mi_X11_worstAt 102 (.ireturn) 1 103 := ⟨by decide +kernel, rfl⟩
set_option maxHeartbeats 4000000 in
set_option maxRecDepth 100000 in
theorem sL_X11_worstAt_18 (d : Nat) (hd : 1 ≤ d) (K78 : Int32 → HH → Option (Int32 × HH)) (c1 : Int32) (c2 : Int32) (c3 : Int32) (c4 : Int32) (hK78 : ∀ (z5 : Int32) (h : HH), Sx mi_X11_worstAt d iI (K78 z5 h) 78 [(0, .ref 255), (1, .int c1), (2, .int c2), (3, .int c3), (4, .int c4), (5, .int z5)] [] h) : ∀ (n : Nat) (x5 : Int32) (x6 : Int32) (h : HH), Sx mi_X11_worstAt d iI (g_X11_worstAt_L18 K78 c1 c2 c3 c4 n x5 x6 h) 18 [(0, .ref 255), (1, .int c1), (2, .int c2), (3, .int c3), (4, .int c4), (5, .int x5), (6, .int x6)] [] h := by
  intro n
  induction n with
  | zero => intro x5 x6 h; exact sx_none
  | succ n ih =>
    intro x5 x6 h
    rw [g_X11_worstAt_L18]
    refine sx_iload d_X11_worstAt_18 6 rfl ?_
    refine sx_bipush d_X11_worstAt_20 bc19 ?_
    refine sx_icmp_ge d_X11_worstAt_22 ?_ ?_
    · refine sx_iload d_X11_worstAt_25 5 rfl ?_
      refine sx_iload_n d_X11_worstAt_27 1 rfl ?_
      refine sx_iload d_X11_worstAt_28 6 rfl ?_
      refine sx_ishr d_X11_worstAt_30 ?_
      refine sx_iconst d_X11_worstAt_31 ic1 ?_
      refine sx_iand d_X11_worstAt_32 ?_
      refine sx_iconst d_X11_worstAt_33 ic1 ?_
      refine sx_jn (fun j => ∀ (y4 : Int32) (h : HH), Sx mi_X11_worstAt d iI (j y4 h) 69 [(0, .ref 255), (1, .int c1), (2, .int c2), (3, .int c3), (4, .int c4), (6, .int x6)] [.int y4, .int x5] h) ?_ ?_
      · intro y4 h3
        refine sx_iadd d_X11_worstAt_69 ?_
        refine sx_vlI (fun v5 => ?_)
        refine sx_istore (i := 5) (lc' := [(5, .int v5), (0, .ref 255), (1, .int c1), (2, .int c2), (3, .int c3), (4, .int c4), (6, .int x6)]) d_X11_worstAt_70 (by decide) rfl ?_
        refine sx_iincV (lc' := fun v6 => [(6, .int v6), (5, .int v5), (0, .ref 255), (1, .int c1), (2, .int c2), (3, .int c3), (4, .int c4)]) (k0 := 6) d_X11_worstAt_72 rfl ii1 (by decide) (fun _ => rfl) (fun v6 => ?_)
        refine sx_goto d_X11_worstAt_75 ?_
        refine sx_lc (lc' := [(0, .ref 255), (1, .int c1), (2, .int c2), (3, .int c3), (4, .int c4), (5, .int v5), (6, .int v6)]) [2, 3, 4, 5, 6, 1, 0] rfl ?_
        exact ih v5 v6 h3
      · intro j1 k2
        refine sx_jn (fun j => ∀  (h : HH), Sx mi_X11_worstAt d iI (j  h) 68 [(0, .ref 255), (1, .int c1), (2, .int c2), (3, .int c3), (4, .int c4), (6, .int x6)] [.int x5] h) ?_ ?_
        · intro  h9
          refine sx_iconst d_X11_worstAt_68 ic0 ?_
          exact k2 (0 : Int32) h9
        · intro j7 k8
          refine sx_icmp_ne d_X11_worstAt_34 ?_ ?_
          · refine sx_aload_n d_X11_worstAt_37 0 rfl ?_
            refine sx_getF (a' := 294) fl_StairCountModel_142 sh_255 rfl rfl d_X11_worstAt_38 ?_
            refine sx_bipush d_X11_worstAt_41 bc41 ?_
            refine sx_iload d_X11_worstAt_43 6 rfl ?_
            refine sx_imul d_X11_worstAt_45 ?_
            refine sx_iload_n d_X11_worstAt_46 2 rfl ?_
            refine sx_iadd d_X11_worstAt_47 ?_
            refine sx_iald sh_294 d_X11_worstAt_48 (fun v10 => ?_)
            refine sx_aload_n d_X11_worstAt_49 0 rfl ?_
            refine sx_getF (a' := 294) fl_StairCountModel_142 sh_255 rfl rfl d_X11_worstAt_50 ?_
            refine sx_bipush d_X11_worstAt_53 bc41 ?_
            refine sx_iload d_X11_worstAt_55 4 rfl ?_
            refine sx_imul d_X11_worstAt_57 ?_
            refine sx_iload_n d_X11_worstAt_58 2 rfl ?_
            refine sx_iadd d_X11_worstAt_59 ?_
            refine sx_iald sh_294 d_X11_worstAt_60 (fun v11 => ?_)
            refine sx_icmp_ne d_X11_worstAt_61 ?_ ?_
            · refine sx_iconst d_X11_worstAt_64 ic1 ?_
              refine sx_goto d_X11_worstAt_65 ?_
              refine sx_lc (lc' := [(0, .ref 255), (1, .int c1), (2, .int c2), (3, .int c3), (4, .int c4), (6, .int x6)]) [0, 1, 2, 3, 4, 6] rfl ?_
              exact k2 (1 : Int32) h
            · refine sx_lc (lc' := [(0, .ref 255), (1, .int c1), (2, .int c2), (3, .int c3), (4, .int c4), (6, .int x6)]) [0, 1, 2, 3, 4, 6] rfl ?_
              exact k8 h
          · refine sx_lc (lc' := [(0, .ref 255), (1, .int c1), (2, .int c2), (3, .int c3), (4, .int c4), (6, .int x6)]) [0, 1, 2, 3, 4, 6] rfl ?_
            exact k8 h
    · refine sx_lc (lc' := [(0, .ref 255), (1, .int c1), (2, .int c2), (3, .int c3), (4, .int c4), (5, .int x5)]) [0, 1, 2, 3, 4, 5] rfl ?_
      exact hK78 x5 h
set_option maxHeartbeats 4000000 in
set_option maxRecDepth 100000 in
theorem sL_X11_worstAt_5 (d : Nat) (hd : 1 ≤ d) (c1 : Int32) (c2 : Int32) : ∀ (n : Nat) (x3 : Int32) (x4 : Int32) (h : HH), Sx mi_X11_worstAt d iI (g_X11_worstAt_L5 c1 c2 n x3 x4 h) 5 [(0, .ref 255), (1, .int c1), (2, .int c2), (3, .int x3), (4, .int x4)] [] h := by
  intro n
  induction n with
  | zero => intro x3 x4 h; exact sx_none
  | succ n ih =>
    intro x3 x4 h
    rw [g_X11_worstAt_L5]
    refine sx_iload d_X11_worstAt_5 4 rfl ?_
    refine sx_bipush d_X11_worstAt_7 bc19 ?_
    refine sx_icmp_ge d_X11_worstAt_9 ?_ ?_
    · refine sx_iconst d_X11_worstAt_12 ic0 ?_
      refine sx_istore (i := 5) (lc' := [(5, .int (0 : Int32)), (0, .ref 255), (1, .int c1), (2, .int c2), (3, .int x3), (4, .int x4)]) d_X11_worstAt_13 (by decide) rfl ?_
      refine sx_iconst d_X11_worstAt_15 ic0 ?_
      refine sx_istore (i := 6) (lc' := [(6, .int (0 : Int32)), (5, .int (0 : Int32)), (0, .ref 255), (1, .int c1), (2, .int c2), (3, .int x3), (4, .int x4)]) d_X11_worstAt_16 (by decide) rfl ?_
      refine sx_lc (lc' := [(0, .ref 255), (1, .int c1), (2, .int c2), (3, .int x3), (4, .int x4), (5, .int (0 : Int32)), (6, .int (0 : Int32))]) [2, 3, 4, 5, 6, 1, 0] rfl ?_
      refine sL_X11_worstAt_18 d hd _ c1 c2 x3 x4 ?_ 1024 (0 : Int32) (0 : Int32) h
      · intro z13 h12
        refine sx_iload_n d_X11_worstAt_78 1 rfl ?_
        refine sx_iload d_X11_worstAt_79 4 rfl ?_
        refine sx_ishr d_X11_worstAt_81 ?_
        refine sx_iconst d_X11_worstAt_82 ic1 ?_
        refine sx_iand d_X11_worstAt_83 ?_
        refine sx_iconst d_X11_worstAt_84 ic1 ?_
        refine sx_jn (fun j => ∀ (u17 : Int32) (h : HH), Sx mi_X11_worstAt d iI (j u17 h) 95 [(0, .ref 255), (1, .int c1), (2, .int c2), (3, .int u17), (4, .int x4)] [] h) ?_ ?_
        · intro u17 h16
          refine sx_iincV (lc' := fun v18 => [(4, .int v18), (0, .ref 255), (1, .int c1), (2, .int c2), (3, .int u17)]) (k0 := 4) d_X11_worstAt_95 rfl ii1 (by decide) (fun _ => rfl) (fun v18 => ?_)
          refine sx_goto d_X11_worstAt_98 ?_
          refine sx_lc (lc' := [(0, .ref 255), (1, .int c1), (2, .int c2), (3, .int u17), (4, .int v18)]) [1, 2, 3, 4, 0] rfl ?_
          exact ih u17 v18 h16
        · intro j14 k15
          refine sx_icmp_ne d_X11_worstAt_85 ?_ ?_
          · refine sx_iload_n d_X11_worstAt_88 3 rfl ?_
            refine sx_iload d_X11_worstAt_89 5 rfl ?_
            refine sx_mmax lM_StairCountModel_404 (by omega) (Nat.le_of_ble_eq_true rfl) d_X11_worstAt_91 ?_
            refine sx_vlI (fun v19 => ?_)
            refine sx_istore_n (i := 3) (lc' := [(3, .int v19), (0, .ref 255), (1, .int c1), (2, .int c2), (4, .int x4), (5, .int z13)]) d_X11_worstAt_94 rfl (by decide) rfl ?_
            refine sx_lc (lc' := [(0, .ref 255), (1, .int c1), (2, .int c2), (3, .int v19), (4, .int x4)]) [1, 2, 3, 0, 4] rfl ?_
            exact k15 v19 h12
          · refine sx_lc (lc' := [(0, .ref 255), (1, .int c1), (2, .int c2), (3, .int x3), (4, .int x4)]) [0, 1, 2, 3, 4] rfl ?_
            exact k15 x3 h12
    · refine sx_iload_n d_X11_worstAt_101 3 rfl ?_
      exact sx_iret rfl d_X11_worstAt_102
set_option maxHeartbeats 4000000 in
set_option maxRecDepth 100000 in
theorem sp_X11_worstAt (d : Nat) (hd : 1 ≤ d) (a0 : Int32) (a1 : Int32) (h : HH) : Sp mi_X11_worstAt d iI [.ref 255, .int a0, .int a1] h (g_X11_worstAt a0 a1 h) := by
  refine sp_of (lc := [(0, .ref 255), (1, .int a0), (2, .int a1)]) (by decide) (Nat.le_of_ble_eq_true rfl) rfl ?_
  unfold g_X11_worstAt
  refine sx_iconst d_X11_worstAt_0 ic0 ?_
  refine sx_istore_n (i := 3) (lc' := [(3, .int (0 : Int32)), (0, .ref 255), (1, .int a0), (2, .int a1)]) d_X11_worstAt_1 rfl (by decide) rfl ?_
  refine sx_iconst d_X11_worstAt_2 ic0 ?_
  refine sx_istore (i := 4) (lc' := [(4, .int (0 : Int32)), (3, .int (0 : Int32)), (0, .ref 255), (1, .int a0), (2, .int a1)]) d_X11_worstAt_3 (by decide) rfl ?_
  refine sx_lc (lc' := [(0, .ref 255), (1, .int a0), (2, .int a1), (3, .int (0 : Int32)), (4, .int (0 : Int32))]) [2, 3, 4, 1, 0] rfl ?_
  refine sL_X11_worstAt_5 d hd a0 a1 1024 (0 : Int32) (0 : Int32) h
theorem d_X11_ask_0 : DC mi_X11_ask 0 (.aload_n 0) 1 1 := ⟨by decide +kernel, rfl⟩
theorem d_X11_ask_1 : DC mi_X11_ask 1 (.iconst 0) 1 2 := ⟨by decide +kernel, rfl⟩
theorem d_X11_ask_2 : DC mi_X11_ask 2 (.putfield 148) 3 5 := ⟨by decide +kernel, rfl⟩
theorem d_X11_ask_5 : DC mi_X11_ask 5 (.aload_n 0) 1 6 := ⟨by decide +kernel, rfl⟩
theorem d_X11_ask_6 : DC mi_X11_ask 6 (.iload_n 1) 1 7 := ⟨by decide +kernel, rfl⟩
theorem d_X11_ask_7 : DC mi_X11_ask 7 (.iload_n 2) 1 8 := ⟨by decide +kernel, rfl⟩
theorem d_X11_ask_8 : DC mi_X11_ask 8 (.invokevirtual 437) 3 11 := ⟨by decide +kernel, rfl⟩
theorem d_X11_ask_11 : DB mi_X11_ask 11 (.ifCond .eq 12) 12 14 23 := ⟨by decide +kernel, rfl, by decide⟩
theorem d_X11_ask_14 : DC mi_X11_ask 14 (.iload_n 3) 1 15 := ⟨by decide +kernel, rfl⟩
theorem d_X11_ask_15 : DB mi_X11_ask 15 (.ifCond .lt 8) 8 18 23 := ⟨by decide +kernel, rfl, by decide⟩
theorem d_X11_ask_18 : DC mi_X11_ask 18 (.iload_n 3) 1 19 := ⟨by decide +kernel, rfl⟩
theorem d_X11_ask_19 : DC mi_X11_ask 19 (.iconst 1) 1 20 := ⟨by decide +kernel, rfl⟩
theorem d_X11_ask_20 : DB mi_X11_ask 20 (.if_icmp .le 5) 5 23 25 := ⟨by decide +kernel, rfl, by decide⟩
theorem d_X11_ask_23 : DC mi_X11_ask 23 (.iconst (-1)) 1 24 := ⟨by decide +kernel, rfl⟩
theorem d_X11_ask_24 : DC mi_X11_ask 24 (.ireturn) 1 25 := ⟨by decide +kernel, rfl⟩
theorem d_X11_ask_25 : DC mi_X11_ask 25 (.aload_n 0) 1 26 := ⟨by decide +kernel, rfl⟩
theorem d_X11_ask_26 : DC mi_X11_ask 26 (.iload_n 1) 1 27 := ⟨by decide +kernel, rfl⟩
theorem d_X11_ask_27 : DC mi_X11_ask 27 (.iload_n 2) 1 28 := ⟨by decide +kernel, rfl⟩
theorem d_X11_ask_28 : DC mi_X11_ask 28 (.invokevirtual 509) 3 31 := ⟨by decide +kernel, rfl⟩
theorem d_X11_ask_31 : DC mi_X11_ask 31 (.istore 4) 2 33 := ⟨by decide +kernel, rfl⟩
theorem d_X11_ask_33 : DC mi_X11_ask 33 (.aload_n 0) 1 34 := ⟨by decide +kernel, rfl⟩
theorem d_X11_ask_34 : DC mi_X11_ask 34 (.iload_n 1) 1 35 := ⟨by decide +kernel, rfl⟩
theorem d_X11_ask_35 : DC mi_X11_ask 35 (.putfield 96) 3 38 := ⟨by decide +kernel, rfl⟩
theorem d_X11_ask_38 : DC mi_X11_ask 38 (.iconst 0) 1 39 := ⟨by decide +kernel, rfl⟩
theorem d_X11_ask_39 : DC mi_X11_ask 39 (.istore 5) 2 41 := ⟨by decide +kernel, rfl⟩
theorem d_X11_ask_41 : DC mi_X11_ask 41 (.iload 5) 2 43 := ⟨by decide +kernel, rfl⟩
theorem d_X11_ask_43 : DC mi_X11_ask 43 (.bipush 19) 2 45 := ⟨by decide +kernel, rfl⟩
theorem d_X11_ask_45 : DB mi_X11_ask 45 (.if_icmp .ge 67) 67 48 112 := ⟨by decide +kernel, rfl, by decide⟩
theorem d_X11_ask_48 : DC mi_X11_ask 48 (.aload_n 0) 1 49 := ⟨by decide +kernel, rfl⟩
theorem d_X11_ask_49 : DC mi_X11_ask 49 (.iload 5) 2 51 := ⟨by decide +kernel, rfl⟩
theorem d_X11_ask_51 : DC mi_X11_ask 51 (.bipush 9) 2 53 := ⟨by decide +kernel, rfl⟩
theorem d_X11_ask_53 : DC mi_X11_ask 53 (.isub) 1 54 := ⟨by decide +kernel, rfl⟩
theorem d_X11_ask_54 : DC mi_X11_ask 54 (.putfield 340) 3 57 := ⟨by decide +kernel, rfl⟩
theorem d_X11_ask_57 : DC mi_X11_ask 57 (.aload_n 0) 1 58 := ⟨by decide +kernel, rfl⟩
theorem d_X11_ask_58 : DC mi_X11_ask 58 (.iconst 1) 1 59 := ⟨by decide +kernel, rfl⟩
theorem d_X11_ask_59 : DC mi_X11_ask 59 (.invokevirtual 343) 3 62 := ⟨by decide +kernel, rfl⟩
theorem d_X11_ask_62 : DC mi_X11_ask 62 (.iconst 1) 1 63 := ⟨by decide +kernel, rfl⟩
theorem d_X11_ask_63 : DC mi_X11_ask 63 (.istore 6) 2 65 := ⟨by decide +kernel, rfl⟩
theorem d_X11_ask_65 : DC mi_X11_ask 65 (.iload 6) 2 67 := ⟨by decide +kernel, rfl⟩
theorem d_X11_ask_67 : DC mi_X11_ask 67 (.bipush 40) 2 69 := ⟨by decide +kernel, rfl⟩
theorem d_X11_ask_69 : DB mi_X11_ask 69 (.if_icmp .gt 37) 37 72 106 := ⟨by decide +kernel, rfl, by decide⟩
theorem d_X11_ask_72 : DC mi_X11_ask 72 (.aload_n 0) 1 73 := ⟨by decide +kernel, rfl⟩
theorem d_X11_ask_73 : DC mi_X11_ask 73 (.iconst 1) 1 74 := ⟨by decide +kernel, rfl⟩
theorem d_X11_ask_74 : DC mi_X11_ask 74 (.iconst 0) 1 75 := ⟨by decide +kernel, rfl⟩
theorem d_X11_ask_75 : DC mi_X11_ask 75 (.invokevirtual 433) 3 78 := ⟨by decide +kernel, rfl⟩
theorem d_X11_ask_78 : DC mi_X11_ask 78 (.aload_n 0) 1 79 := ⟨by decide +kernel, rfl⟩
theorem d_X11_ask_79 : DC mi_X11_ask 79 (.getfield 142) 3 82 := ⟨by decide +kernel, rfl⟩
theorem d_X11_ask_82 : DC mi_X11_ask 82 (.bipush 41) 2 84 := ⟨by decide +kernel, rfl⟩
theorem d_X11_ask_84 : DC mi_X11_ask 84 (.iload 5) 2 86 := ⟨by decide +kernel, rfl⟩
theorem d_X11_ask_86 : DC mi_X11_ask 86 (.imul) 1 87 := ⟨by decide +kernel, rfl⟩
theorem d_X11_ask_87 : DC mi_X11_ask 87 (.iload 6) 2 89 := ⟨by decide +kernel, rfl⟩
theorem d_X11_ask_89 : DC mi_X11_ask 89 (.iadd) 1 90 := ⟨by decide +kernel, rfl⟩
theorem d_X11_ask_90 : DC mi_X11_ask 90 (.aload_n 0) 1 91 := ⟨by decide +kernel, rfl⟩
theorem d_X11_ask_91 : DC mi_X11_ask 91 (.getfield 81) 3 94 := ⟨by decide +kernel, rfl⟩
theorem d_X11_ask_94 : DC mi_X11_ask 94 (.bipush 6) 2 96 := ⟨by decide +kernel, rfl⟩
theorem d_X11_ask_96 : DC mi_X11_ask 96 (.iload_n 1) 1 97 := ⟨by decide +kernel, rfl⟩
theorem d_X11_ask_97 : DC mi_X11_ask 97 (.iadd) 1 98 := ⟨by decide +kernel, rfl⟩
theorem d_X11_ask_98 : DC mi_X11_ask 98 (.iaload) 1 99 := ⟨by decide +kernel, rfl⟩
theorem d_X11_ask_99 : DC mi_X11_ask 99 (.iastore) 1 100 := ⟨by decide +kernel, rfl⟩
theorem d_X11_ask_100 : DC mi_X11_ask 100 (.iinc 6 1) 3 103 := ⟨by decide +kernel, rfl⟩
theorem d_X11_ask_103 : DB mi_X11_ask 103 (.goto (-38)) (-38) 106 65 := ⟨by decide +kernel, rfl, by decide⟩
theorem d_X11_ask_106 : DC mi_X11_ask 106 (.iinc 5 1) 3 109 := ⟨by decide +kernel, rfl⟩
theorem d_X11_ask_109 : DB mi_X11_ask 109 (.goto (-68)) (-68) 112 41 := ⟨by decide +kernel, rfl, by decide⟩
theorem d_X11_ask_112 : DC mi_X11_ask 112 (.aload_n 0) 1 113 := ⟨by decide +kernel, rfl⟩
theorem d_X11_ask_113 : DC mi_X11_ask 113 (.iconst (-1)) 1 114 := ⟨by decide +kernel, rfl⟩
theorem d_X11_ask_114 : DC mi_X11_ask 114 (.putfield 96) 3 117 := ⟨by decide +kernel, rfl⟩
theorem d_X11_ask_117 : DC mi_X11_ask 117 (.iconst 1) 1 118 := ⟨by decide +kernel, rfl⟩
theorem d_X11_ask_118 : DC mi_X11_ask 118 (.istore 5) 2 120 := ⟨by decide +kernel, rfl⟩
theorem d_X11_ask_120 : DC mi_X11_ask 120 (.iconst 2) 1 121 := ⟨by decide +kernel, rfl⟩
theorem d_X11_ask_121 : DC mi_X11_ask 121 (.istore 6) 2 123 := ⟨by decide +kernel, rfl⟩
theorem d_X11_ask_123 : DC mi_X11_ask 123 (.iload 6) 2 125 := ⟨by decide +kernel, rfl⟩
theorem d_X11_ask_125 : DC mi_X11_ask 125 (.bipush 40) 2 127 := ⟨by decide +kernel, rfl⟩
theorem d_X11_ask_127 : DB mi_X11_ask 127 (.if_icmp .gt 32) 32 130 159 := ⟨by decide +kernel, rfl, by decide⟩
theorem d_X11_ask_130 : DC mi_X11_ask 130 (.aload_n 0) 1 131 := ⟨by decide +kernel, rfl⟩
theorem d_X11_ask_131 : DC mi_X11_ask 131 (.iload 4) 2 133 := ⟨by decide +kernel, rfl⟩
theorem d_X11_ask_133 : DC mi_X11_ask 133 (.iload 6) 2 135 := ⟨by decide +kernel, rfl⟩
theorem d_X11_ask_135 : DC mi_X11_ask 135 (.invokevirtual 512) 3 138 := ⟨by decide +kernel, rfl⟩
theorem d_X11_ask_138 : DC mi_X11_ask 138 (.aload_n 0) 1 139 := ⟨by decide +kernel, rfl⟩
theorem d_X11_ask_139 : DC mi_X11_ask 139 (.iload 4) 2 141 := ⟨by decide +kernel, rfl⟩
theorem d_X11_ask_141 : DC mi_X11_ask 141 (.iload 5) 2 143 := ⟨by decide +kernel, rfl⟩
theorem d_X11_ask_143 : DC mi_X11_ask 143 (.invokevirtual 512) 3 146 := ⟨by decide +kernel, rfl⟩
theorem d_X11_ask_146 : DB mi_X11_ask 146 (.if_icmp .ge 7) 7 149 153 := ⟨by decide +kernel, rfl, by decide⟩
theorem d_X11_ask_149 : DC mi_X11_ask 149 (.iload 6) 2 151 := ⟨by decide +kernel, rfl⟩
theorem d_X11_ask_151 : DC mi_X11_ask 151 (.istore 5) 2 153 := ⟨by decide +kernel, rfl⟩
theorem d_X11_ask_153 : DC mi_X11_ask 153 (.iinc 6 1) 3 156 := ⟨by decide +kernel, rfl⟩
theorem d_X11_ask_156 : DB mi_X11_ask 156 (.goto (-33)) (-33) 159 123 := ⟨by decide +kernel, rfl, by decide⟩
theorem d_X11_ask_159 : DC mi_X11_ask 159 (.iload_n 3) 1 160 := ⟨by decide +kernel, rfl⟩
theorem d_X11_ask_160 : DB mi_X11_ask 160 (.ifCond .ne 8) 8 163 168 := ⟨by decide +kernel, rfl, by decide⟩
theorem d_X11_ask_163 : DC mi_X11_ask 163 (.iload 5) 2 165 := ⟨by decide +kernel, rfl⟩
theorem d_X11_ask_165 : DB mi_X11_ask 165 (.goto 11) 11 168 176 := ⟨by decide +kernel, rfl, by decide⟩
theorem d_X11_ask_168 : DC mi_X11_ask 168 (.aload_n 0) 1 169 := ⟨by decide +kernel, rfl⟩
theorem d_X11_ask_169 : DC mi_X11_ask 169 (.iload 4) 2 171 := ⟨by decide +kernel, rfl⟩
theorem d_X11_ask_171 : DC mi_X11_ask 171 (.iload 5) 2 173 := ⟨by decide +kernel, rfl⟩
theorem d_X11_ask_173 : DC mi_X11_ask 173 (.invokevirtual 512) 3 176 := ⟨by decide +kernel, rfl⟩
theorem d_X11_ask_176 : DC mi_X11_ask 176 (.ireturn) 1 177 := ⟨by decide +kernel, rfl⟩
set_option maxHeartbeats 4000000 in
set_option maxRecDepth 100000 in
theorem sL_X11_ask_65 (d : Nat) (hd : 13 ≤ d) (K106 : HH → Option (Int32 × HH)) (c1 : Int32) (c3 : Int32) (c4 : Int32) (c5 : Int32) (hK106 : ∀ (h : HH), Sx mi_X11_ask d iI (K106 h) 106 [(0, .ref 255), (1, .int c1), (3, .int c3), (4, .int c4), (5, .int c5)] [] h) : ∀ (n : Nat) (x6 : Int32) (h : HH), Sx mi_X11_ask d iI (g_X11_ask_L65 K106 c1 c3 c4 c5 n x6 h) 65 [(0, .ref 255), (1, .int c1), (3, .int c3), (4, .int c4), (5, .int c5), (6, .int x6)] [] h := by
  intro n
  induction n with
  | zero => intro x6 h; exact sx_none
  | succ n ih =>
    intro x6 h
    rw [g_X11_ask_L65]
    refine sx_iload d_X11_ask_65 5 rfl ?_
    refine sx_bipush d_X11_ask_67 bc40 ?_
    refine sx_icmp_gt d_X11_ask_69 ?_ ?_
    · refine sx_lc (lc' := [(0, .ref 255), (1, .int c1), (3, .int c3), (4, .int c4), (5, .int c5)]) [0, 1, 2, 3, 4] rfl ?_
      exact hK106 h
    · refine sx_aload_n d_X11_ask_72 0 rfl ?_
      refine sx_iconst d_X11_ask_73 ic1 ?_
      refine sx_iconst d_X11_ask_74 ic0 ?_
      refine sx_callV [.int (1 : Int32), .int (0 : Int32)] mv_X11_passes lM_StairCountModel_433 sh_255 (by omega) rfl rfl (Nat.le_of_ble_eq_true rfl) d_X11_ask_75 (sp_X11_passes (d - 1) (by omega) (1 : Int32) (0 : Int32) h) (fun _ h10 => ?_)
      refine sx_aload_n d_X11_ask_78 0 rfl ?_
      refine sx_getF (a' := 294) fl_StairCountModel_142 sh_255 rfl rfl d_X11_ask_79 ?_
      refine sx_bipush d_X11_ask_82 bc41 ?_
      refine sx_iload d_X11_ask_84 4 rfl ?_
      refine sx_imul d_X11_ask_86 ?_
      refine sx_iload d_X11_ask_87 5 rfl ?_
      refine sx_iadd d_X11_ask_89 ?_
      refine sx_aload_n d_X11_ask_90 0 rfl ?_
      refine sx_getF (a' := 278) fl_StairCountModel_81 sh_255 rfl rfl d_X11_ask_91 ?_
      refine sx_bipush d_X11_ask_94 bc6 ?_
      refine sx_iload_n d_X11_ask_96 1 rfl ?_
      refine sx_iadd d_X11_ask_97 ?_
      refine sx_iald sh_278 d_X11_ask_98 (fun v12 => ?_)
      refine sx_iast sh_294 d_X11_ask_99 (fun h13 => ?_)
      refine sx_iincV (lc' := fun v14 => [(6, .int v14), (0, .ref 255), (1, .int c1), (3, .int c3), (4, .int c4), (5, .int c5)]) (k0 := 5) d_X11_ask_100 rfl ii1 (by decide) (fun _ => rfl) (fun v14 => ?_)
      refine sx_goto d_X11_ask_103 ?_
      refine sx_lc (lc' := [(0, .ref 255), (1, .int c1), (3, .int c3), (4, .int c4), (5, .int c5), (6, .int v14)]) [1, 2, 3, 4, 5, 0] rfl ?_
      exact ih v14 h13
set_option maxHeartbeats 4000000 in
set_option maxRecDepth 100000 in
theorem sL_X11_ask_41 (d : Nat) (hd : 13 ≤ d) (K112 : HH → Option (Int32 × HH)) (c1 : Int32) (c3 : Int32) (c4 : Int32) (hK112 : ∀ (h : HH), Sx mi_X11_ask d iI (K112 h) 112 [(0, .ref 255), (3, .int c3), (4, .int c4)] [] h) : ∀ (n : Nat) (x5 : Int32) (h : HH), Sx mi_X11_ask d iI (g_X11_ask_L41 K112 c1 c3 c4 n x5 h) 41 [(0, .ref 255), (1, .int c1), (3, .int c3), (4, .int c4), (5, .int x5)] [] h := by
  intro n
  induction n with
  | zero => intro x5 h; exact sx_none
  | succ n ih =>
    intro x5 h
    rw [g_X11_ask_L41]
    refine sx_iload d_X11_ask_41 4 rfl ?_
    refine sx_bipush d_X11_ask_43 bc19 ?_
    refine sx_icmp_ge d_X11_ask_45 ?_ ?_
    · refine sx_aload_n d_X11_ask_48 0 rfl ?_
      refine sx_iload d_X11_ask_49 4 rfl ?_
      refine sx_bipush d_X11_ask_51 bc9 ?_
      refine sx_isub d_X11_ask_53 ?_
      refine sx_putI fl_StairCountModel_340 sh_255 rfl hty_11_47 d_X11_ask_54 (fun h7 => ?_)
      refine sx_aload_n d_X11_ask_57 0 rfl ?_
      refine sx_iconst d_X11_ask_58 ic1 ?_
      refine sx_callV [.int (1 : Int32)] mv_X11_starts lM_StairCountModel_343 sh_255 (by omega) rfl rfl (Nat.le_of_ble_eq_true rfl) d_X11_ask_59 (sp_X11_starts (d - 1) (by omega) (1 : Int32) h7) (fun _ h8 => ?_)
      refine sx_iconst d_X11_ask_62 ic1 ?_
      refine sx_istore (i := 6) (lc' := [(6, .int (1 : Int32)), (0, .ref 255), (1, .int c1), (3, .int c3), (4, .int c4), (5, .int x5)]) d_X11_ask_63 (by decide) rfl ?_
      refine sx_lc (lc' := [(0, .ref 255), (1, .int c1), (3, .int c3), (4, .int c4), (5, .int x5), (6, .int (1 : Int32))]) [1, 2, 3, 4, 5, 0] rfl ?_
      refine sL_X11_ask_65 d hd _ c1 c3 c4 x5 ?_ 1024 (1 : Int32) h8
      · intro h15
        refine sx_iincV (lc' := fun v16 => [(5, .int v16), (0, .ref 255), (1, .int c1), (3, .int c3), (4, .int c4)]) (k0 := 4) d_X11_ask_106 rfl ii1 (by decide) (fun _ => rfl) (fun v16 => ?_)
        refine sx_goto d_X11_ask_109 ?_
        refine sx_lc (lc' := [(0, .ref 255), (1, .int c1), (3, .int c3), (4, .int c4), (5, .int v16)]) [1, 2, 3, 4, 0] rfl ?_
        exact ih v16 h15
    · refine sx_lc (lc' := [(0, .ref 255), (3, .int c3), (4, .int c4)]) [0, 2, 3] rfl ?_
      exact hK112 h
set_option maxHeartbeats 4000000 in
set_option maxRecDepth 100000 in
theorem sL_X11_ask_123 (d : Nat) (hd : 13 ≤ d) (K159 : Int32 → HH → Option (Int32 × HH)) (c3 : Int32) (c4 : Int32) (hK159 : ∀ (z5 : Int32) (h : HH), Sx mi_X11_ask d iI (K159 z5 h) 159 [(0, .ref 255), (3, .int c3), (4, .int c4), (5, .int z5)] [] h) : ∀ (n : Nat) (x5 : Int32) (x6 : Int32) (h : HH), Sx mi_X11_ask d iI (g_X11_ask_L123 K159 c3 c4 n x5 x6 h) 123 [(0, .ref 255), (3, .int c3), (4, .int c4), (5, .int x5), (6, .int x6)] [] h := by
  intro n
  induction n with
  | zero => intro x5 x6 h; exact sx_none
  | succ n ih =>
    intro x5 x6 h
    rw [g_X11_ask_L123]
    refine sx_iload d_X11_ask_123 4 rfl ?_
    refine sx_bipush d_X11_ask_125 bc40 ?_
    refine sx_icmp_gt d_X11_ask_127 ?_ ?_
    · refine sx_lc (lc' := [(0, .ref 255), (3, .int c3), (4, .int c4), (5, .int x5)]) [0, 1, 2, 3] rfl ?_
      exact hK159 x5 h
    · refine sx_aload_n d_X11_ask_130 0 rfl ?_
      refine sx_iload d_X11_ask_131 2 rfl ?_
      refine sx_iload d_X11_ask_133 4 rfl ?_
      refine sx_callV [.int c4, .int x6] mv_X11_worstAt lM_StairCountModel_512 sh_255 (by omega) rfl rfl (Nat.le_of_ble_eq_true rfl) d_X11_ask_135 (sp_X11_worstAt (d - 1) (by omega) c4 x6 h) (fun r20 h19 => ?_)
      refine sx_aload_n d_X11_ask_138 0 rfl ?_
      refine sx_iload d_X11_ask_139 2 rfl ?_
      refine sx_iload d_X11_ask_141 3 rfl ?_
      refine sx_callV [.int c4, .int x5] mv_X11_worstAt lM_StairCountModel_512 sh_255 (by omega) rfl rfl (Nat.le_of_ble_eq_true rfl) d_X11_ask_143 (sp_X11_worstAt (d - 1) (by omega) c4 x5 h19) (fun r22 h21 => ?_)
      refine sx_jn (fun j => ∀ (u26 : Int32) (h : HH), Sx mi_X11_ask d iI (j u26 h) 153 [(0, .ref 255), (3, .int c3), (4, .int c4), (5, .int u26), (6, .int x6)] [] h) ?_ ?_
      · intro u26 h25
        refine sx_iincV (lc' := fun v27 => [(6, .int v27), (0, .ref 255), (3, .int c3), (4, .int c4), (5, .int u26)]) (k0 := 4) d_X11_ask_153 rfl ii1 (by decide) (fun _ => rfl) (fun v27 => ?_)
        refine sx_goto d_X11_ask_156 ?_
        refine sx_lc (lc' := [(0, .ref 255), (3, .int c3), (4, .int c4), (5, .int u26), (6, .int v27)]) [1, 2, 3, 4, 0] rfl ?_
        exact ih u26 v27 h25
      · intro j23 k24
        refine sx_icmp_ge d_X11_ask_146 ?_ ?_
        · refine sx_iload d_X11_ask_149 4 rfl ?_
          refine sx_istore (i := 5) (lc' := [(5, .int x6), (0, .ref 255), (3, .int c3), (4, .int c4), (6, .int x6)]) d_X11_ask_151 (by decide) rfl ?_
          refine sx_lc (lc' := [(0, .ref 255), (3, .int c3), (4, .int c4), (5, .int x6), (6, .int x6)]) [1, 2, 3, 0, 4] rfl ?_
          exact k24 x6 h21
        · exact k24 x5 h21
set_option maxHeartbeats 4000000 in
set_option maxRecDepth 100000 in
theorem sp_X11_ask (d : Nat) (hd : 13 ≤ d) (a0 : Int32) (a1 : Int32) (a2 : Int32) (h : HH) : Sp mi_X11_ask d iI [.ref 255, .int a0, .int a1, .int a2] h (g_X11_ask a0 a1 a2 h) := by
  refine sp_of (lc := [(0, .ref 255), (1, .int a0), (2, .int a1), (3, .int a2)]) (by decide) (Nat.le_of_ble_eq_true rfl) rfl ?_
  unfold g_X11_ask
  refine sx_aload_n d_X11_ask_0 0 rfl ?_
  refine sx_iconst d_X11_ask_1 ic0 ?_
  refine sx_putI fl_StairCountModel_148 sh_255 rfl hty_11_0 d_X11_ask_2 (fun h1 => ?_)
  refine sx_aload_n d_X11_ask_5 0 rfl ?_
  refine sx_iload_n d_X11_ask_6 1 rfl ?_
  refine sx_iload_n d_X11_ask_7 2 rfl ?_
  refine sx_callV [.int a0, .int a1] mv_X11_areOf lM_StairCountModel_437 sh_255 (by omega) rfl rfl (Nat.le_of_ble_eq_true rfl) d_X11_ask_8 (sp_X11_areOf (d - 1) (by omega) a0 a1 h1) (fun r3 h2 => ?_)
  refine sx_if_eq d_X11_ask_11 ?_ ?_
  · refine sx_iconst d_X11_ask_23 icm1 ?_
    exact sx_iret rfl d_X11_ask_24
  · refine sx_iload_n d_X11_ask_14 3 rfl ?_
    refine sx_if_lt d_X11_ask_15 ?_ ?_
    · refine sx_iconst d_X11_ask_23 icm1 ?_
      exact sx_iret rfl d_X11_ask_24
    · refine sx_iload_n d_X11_ask_18 3 rfl ?_
      refine sx_iconst d_X11_ask_19 ic1 ?_
      refine sx_icmp_le d_X11_ask_20 ?_ ?_
      · refine sx_iconst d_X11_ask_23 icm1 ?_
        exact sx_iret rfl d_X11_ask_24
      · refine sx_aload_n d_X11_ask_25 0 rfl ?_
        refine sx_iload_n d_X11_ask_26 1 rfl ?_
        refine sx_iload_n d_X11_ask_27 2 rfl ?_
        refine sx_callV [.int a0, .int a1] mv_X11_hadsOf lM_StairCountModel_509 sh_255 (by omega) rfl rfl (Nat.le_of_ble_eq_true rfl) d_X11_ask_28 (sp_X11_hadsOf (d - 1) (by omega) a0 a1 h2) (fun r5 h4 => ?_)
        refine sx_istore (i := 4) (lc' := [(4, .int r5), (0, .ref 255), (1, .int a0), (2, .int a1), (3, .int a2)]) d_X11_ask_31 (by decide) rfl ?_
        refine sx_aload_n d_X11_ask_33 1 rfl ?_
        refine sx_iload_n d_X11_ask_34 2 rfl ?_
        refine sx_putI fl_StairCountModel_96 sh_255 rfl hty_11_45 d_X11_ask_35 (fun h6 => ?_)
        refine sx_iconst d_X11_ask_38 ic0 ?_
        refine sx_istore (i := 5) (lc' := [(5, .int (0 : Int32)), (4, .int r5), (0, .ref 255), (1, .int a0), (2, .int a1), (3, .int a2)]) d_X11_ask_39 (by decide) rfl ?_
        refine sx_lc (lc' := [(0, .ref 255), (1, .int a0), (3, .int a2), (4, .int r5), (5, .int (0 : Int32))]) [2, 3, 5, 1, 0] rfl ?_
        refine sL_X11_ask_41 d hd _ a0 a2 r5 ?_ 1024 (0 : Int32) h6
        · intro h17
          refine sx_aload_n d_X11_ask_112 0 rfl ?_
          refine sx_iconst d_X11_ask_113 icm1 ?_
          refine sx_putI fl_StairCountModel_96 sh_255 rfl hty_11_45 d_X11_ask_114 (fun h18 => ?_)
          refine sx_iconst d_X11_ask_117 ic1 ?_
          refine sx_istore (i := 5) (lc' := [(5, .int (1 : Int32)), (0, .ref 255), (3, .int a2), (4, .int r5)]) d_X11_ask_118 (by decide) rfl ?_
          refine sx_iconst d_X11_ask_120 ic2 ?_
          refine sx_istore (i := 6) (lc' := [(6, .int (2 : Int32)), (5, .int (1 : Int32)), (0, .ref 255), (3, .int a2), (4, .int r5)]) d_X11_ask_121 (by decide) rfl ?_
          refine sx_lc (lc' := [(0, .ref 255), (3, .int a2), (4, .int r5), (5, .int (1 : Int32)), (6, .int (2 : Int32))]) [2, 3, 4, 1, 0] rfl ?_
          refine sL_X11_ask_123 d hd _ a2 r5 ?_ 1024 (1 : Int32) (2 : Int32) h18
          · intro z29 h28
            refine sx_iload_n d_X11_ask_159 1 rfl ?_
            refine sx_if_ne d_X11_ask_160 ?_ ?_
            · refine sx_iload d_X11_ask_163 3 rfl ?_
              refine sx_goto d_X11_ask_165 ?_
              exact sx_iret rfl d_X11_ask_176
            · refine sx_aload_n d_X11_ask_168 0 rfl ?_
              refine sx_iload d_X11_ask_169 2 rfl ?_
              refine sx_iload d_X11_ask_171 3 rfl ?_
              refine sx_callV [.int r5, .int z29] mv_X11_worstAt lM_StairCountModel_512 sh_255 (by omega) rfl rfl (Nat.le_of_ble_eq_true rfl) d_X11_ask_173 (sp_X11_worstAt (d - 1) (by omega) r5 z29 h28) (fun r31 h30 => ?_)
              exact sx_iret rfl d_X11_ask_176
theorem d_X11_chance_0 : DC mi_X11_chance 0 (.aload_n 0) 1 1 := ⟨by decide +kernel, rfl⟩
theorem d_X11_chance_1 : DC mi_X11_chance 1 (.iconst 0) 1 2 := ⟨by decide +kernel, rfl⟩
theorem d_X11_chance_2 : DC mi_X11_chance 2 (.putfield 148) 3 5 := ⟨by decide +kernel, rfl⟩
theorem d_X11_chance_5 : DC mi_X11_chance 5 (.iload_n 1) 1 6 := ⟨by decide +kernel, rfl⟩
theorem d_X11_chance_6 : DB mi_X11_chance 6 (.ifCond .lt 31) 31 9 37 := ⟨by decide +kernel, rfl, by decide⟩
theorem d_X11_chance_9 : DC mi_X11_chance 9 (.iload_n 2) 1 10 := ⟨by decide +kernel, rfl⟩
theorem d_X11_chance_10 : DC mi_X11_chance 10 (.iconst 1) 1 11 := ⟨by decide +kernel, rfl⟩
theorem d_X11_chance_11 : DB mi_X11_chance 11 (.if_icmp .lt 26) 26 14 37 := ⟨by decide +kernel, rfl, by decide⟩
theorem d_X11_chance_14 : DC mi_X11_chance 14 (.iload_n 2) 1 15 := ⟨by decide +kernel, rfl⟩
theorem d_X11_chance_15 : DC mi_X11_chance 15 (.bipush 99) 2 17 := ⟨by decide +kernel, rfl⟩
theorem d_X11_chance_17 : DB mi_X11_chance 17 (.if_icmp .gt 20) 20 20 37 := ⟨by decide +kernel, rfl, by decide⟩
theorem d_X11_chance_20 : DC mi_X11_chance 20 (.aload_n 0) 1 21 := ⟨by decide +kernel, rfl⟩
theorem d_X11_chance_21 : DC mi_X11_chance 21 (.iload_n 3) 1 22 := ⟨by decide +kernel, rfl⟩
theorem d_X11_chance_22 : DC mi_X11_chance 22 (.invokevirtual 346) 3 25 := ⟨by decide +kernel, rfl⟩
theorem d_X11_chance_25 : DB mi_X11_chance 25 (.ifCond .eq 12) 12 28 37 := ⟨by decide +kernel, rfl, by decide⟩
theorem d_X11_chance_28 : DC mi_X11_chance 28 (.aload_n 0) 1 29 := ⟨by decide +kernel, rfl⟩
theorem d_X11_chance_29 : DC mi_X11_chance 29 (.iload 4) 2 31 := ⟨by decide +kernel, rfl⟩
theorem d_X11_chance_31 : DC mi_X11_chance 31 (.invokevirtual 444) 3 34 := ⟨by decide +kernel, rfl⟩
theorem d_X11_chance_34 : DB mi_X11_chance 34 (.ifCond .ne 5) 5 37 39 := ⟨by decide +kernel, rfl, by decide⟩
theorem d_X11_chance_37 : DC mi_X11_chance 37 (.iconst (-1)) 1 38 := ⟨by decide +kernel, rfl⟩
theorem d_X11_chance_38 : DC mi_X11_chance 38 (.ireturn) 1 39 := ⟨by decide +kernel, rfl⟩
theorem d_X11_chance_39 : DC mi_X11_chance 39 (.iload_n 1) 1 40 := ⟨by decide +kernel, rfl⟩
theorem d_X11_chance_40 : DC mi_X11_chance 40 (.istore 5) 2 42 := ⟨by decide +kernel, rfl⟩
theorem d_X11_chance_42 : DC mi_X11_chance 42 (.iconst 0) 1 43 := ⟨by decide +kernel, rfl⟩
theorem d_X11_chance_43 : DC mi_X11_chance 43 (.istore 6) 2 45 := ⟨by decide +kernel, rfl⟩
theorem d_X11_chance_45 : DC mi_X11_chance 45 (.iconst 0) 1 46 := ⟨by decide +kernel, rfl⟩
theorem d_X11_chance_46 : DC mi_X11_chance 46 (.istore 7) 2 48 := ⟨by decide +kernel, rfl⟩
theorem d_X11_chance_48 : DC mi_X11_chance 48 (.iload 7) 2 50 := ⟨by decide +kernel, rfl⟩
theorem d_X11_chance_50 : DC mi_X11_chance 50 (.bipush 10) 2 52 := ⟨by decide +kernel, rfl⟩
theorem d_X11_chance_52 : DB mi_X11_chance 52 (.if_icmp .ge 76) 76 55 128 := ⟨by decide +kernel, rfl, by decide⟩
theorem d_X11_chance_55 : DC mi_X11_chance 55 (.aload_n 0) 1 56 := ⟨by decide +kernel, rfl⟩
theorem d_X11_chance_56 : DC mi_X11_chance 56 (.iconst 1) 1 57 := ⟨by decide +kernel, rfl⟩
theorem d_X11_chance_57 : DC mi_X11_chance 57 (.iconst 0) 1 58 := ⟨by decide +kernel, rfl⟩
theorem d_X11_chance_58 : DC mi_X11_chance 58 (.invokevirtual 457) 3 61 := ⟨by decide +kernel, rfl⟩
theorem d_X11_chance_61 : DC mi_X11_chance 61 (.aload_n 0) 1 62 := ⟨by decide +kernel, rfl⟩
theorem d_X11_chance_62 : DC mi_X11_chance 62 (.getfield 78) 3 65 := ⟨by decide +kernel, rfl⟩
theorem d_X11_chance_65 : DC mi_X11_chance 65 (.iconst 1) 1 66 := ⟨by decide +kernel, rfl⟩
theorem d_X11_chance_66 : DC mi_X11_chance 66 (.iload 5) 2 68 := ⟨by decide +kernel, rfl⟩
theorem d_X11_chance_68 : DC mi_X11_chance 68 (.iastore) 1 69 := ⟨by decide +kernel, rfl⟩
theorem d_X11_chance_69 : DC mi_X11_chance 69 (.iconst 0) 1 70 := ⟨by decide +kernel, rfl⟩
theorem d_X11_chance_70 : DC mi_X11_chance 70 (.istore 8) 2 72 := ⟨by decide +kernel, rfl⟩
theorem d_X11_chance_72 : DC mi_X11_chance 72 (.iload 8) 2 74 := ⟨by decide +kernel, rfl⟩
theorem d_X11_chance_74 : DC mi_X11_chance 74 (.iload_n 2) 1 75 := ⟨by decide +kernel, rfl⟩
theorem d_X11_chance_75 : DB mi_X11_chance 75 (.if_icmp .ge 15) 15 78 90 := ⟨by decide +kernel, rfl, by decide⟩
theorem d_X11_chance_78 : DC mi_X11_chance 78 (.aload_n 0) 1 79 := ⟨by decide +kernel, rfl⟩
theorem d_X11_chance_79 : DC mi_X11_chance 79 (.iconst 1) 1 80 := ⟨by decide +kernel, rfl⟩
theorem d_X11_chance_80 : DC mi_X11_chance 80 (.iconst 1) 1 81 := ⟨by decide +kernel, rfl⟩
theorem d_X11_chance_81 : DC mi_X11_chance 81 (.invokevirtual 433) 3 84 := ⟨by decide +kernel, rfl⟩
theorem d_X11_chance_84 : DC mi_X11_chance 84 (.iinc 8 1) 3 87 := ⟨by decide +kernel, rfl⟩
theorem d_X11_chance_87 : DB mi_X11_chance 87 (.goto (-15)) (-15) 90 72 := ⟨by decide +kernel, rfl, by decide⟩
theorem d_X11_chance_90 : DC mi_X11_chance 90 (.aload_n 0) 1 91 := ⟨by decide +kernel, rfl⟩
theorem d_X11_chance_91 : DC mi_X11_chance 91 (.getfield 78) 3 94 := ⟨by decide +kernel, rfl⟩
theorem d_X11_chance_94 : DC mi_X11_chance 94 (.iconst 1) 1 95 := ⟨by decide +kernel, rfl⟩
theorem d_X11_chance_95 : DC mi_X11_chance 95 (.iaload) 1 96 := ⟨by decide +kernel, rfl⟩
theorem d_X11_chance_96 : DC mi_X11_chance 96 (.istore 5) 2 98 := ⟨by decide +kernel, rfl⟩
theorem d_X11_chance_98 : DC mi_X11_chance 98 (.iload 6) 2 100 := ⟨by decide +kernel, rfl⟩
theorem d_X11_chance_100 : DC mi_X11_chance 100 (.aload_n 0) 1 101 := ⟨by decide +kernel, rfl⟩
theorem d_X11_chance_101 : DC mi_X11_chance 101 (.getfield 81) 3 104 := ⟨by decide +kernel, rfl⟩
theorem d_X11_chance_104 : DC mi_X11_chance 104 (.bipush 6) 2 106 := ⟨by decide +kernel, rfl⟩
theorem d_X11_chance_106 : DC mi_X11_chance 106 (.iload_n 3) 1 107 := ⟨by decide +kernel, rfl⟩
theorem d_X11_chance_107 : DC mi_X11_chance 107 (.iadd) 1 108 := ⟨by decide +kernel, rfl⟩
theorem d_X11_chance_108 : DC mi_X11_chance 108 (.iaload) 1 109 := ⟨by decide +kernel, rfl⟩
theorem d_X11_chance_109 : DC mi_X11_chance 109 (.iload 4) 2 111 := ⟨by decide +kernel, rfl⟩
theorem d_X11_chance_111 : DB mi_X11_chance 111 (.if_icmp .ne 7) 7 114 118 := ⟨by decide +kernel, rfl, by decide⟩
theorem d_X11_chance_114 : DC mi_X11_chance 114 (.iconst 1) 1 115 := ⟨by decide +kernel, rfl⟩
theorem d_X11_chance_115 : DB mi_X11_chance 115 (.goto 4) 4 118 119 := ⟨by decide +kernel, rfl, by decide⟩
theorem d_X11_chance_118 : DC mi_X11_chance 118 (.iconst 0) 1 119 := ⟨by decide +kernel, rfl⟩
theorem d_X11_chance_119 : DC mi_X11_chance 119 (.iadd) 1 120 := ⟨by decide +kernel, rfl⟩
theorem d_X11_chance_120 : DC mi_X11_chance 120 (.istore 6) 2 122 := ⟨by decide +kernel, rfl⟩
theorem d_X11_chance_122 : DC mi_X11_chance 122 (.iinc 7 1) 3 125 := ⟨by decide +kernel, rfl⟩
theorem d_X11_chance_125 : DB mi_X11_chance 125 (.goto (-77)) (-77) 128 48 := ⟨by decide +kernel, rfl, by decide⟩
theorem d_X11_chance_128 : DC mi_X11_chance 128 (.iload 6) 2 130 := ⟨by decide +kernel, rfl⟩
theorem d_X11_chance_130 : DC mi_X11_chance 130 (.ireturn) 1 131 := ⟨by decide +kernel, rfl⟩
set_option maxHeartbeats 4000000 in
set_option maxRecDepth 100000 in
theorem sL_X11_chance_72 (d : Nat) (hd : 11 ≤ d) (K90 : HH → Option (Int32 × HH)) (c2 : Int32) (c3 : Int32) (c4 : Int32) (c6 : Int32) (c7 : Int32) (hK90 : ∀ (h : HH), Sx mi_X11_chance d iI (K90 h) 90 [(0, .ref 255), (2, .int c2), (3, .int c3), (4, .int c4), (6, .int c6), (7, .int c7)] [] h) : ∀ (n : Nat) (x8 : Int32) (h : HH), Sx mi_X11_chance d iI (g_X11_chance_L72 K90 c2 c3 c4 c6 c7 n x8 h) 72 [(0, .ref 255), (2, .int c2), (3, .int c3), (4, .int c4), (6, .int c6), (7, .int c7), (8, .int x8)] [] h := by
  intro n
  induction n with
  | zero => intro x8 h; exact sx_none
  | succ n ih =>
    intro x8 h
    rw [g_X11_chance_L72]
    refine sx_iload d_X11_chance_72 6 rfl ?_
    refine sx_iload_n d_X11_chance_74 1 rfl ?_
    refine sx_icmp_ge d_X11_chance_75 ?_ ?_
    · refine sx_aload_n d_X11_chance_78 0 rfl ?_
      refine sx_iconst d_X11_chance_79 ic1 ?_
      refine sx_iconst d_X11_chance_80 ic1 ?_
      refine sx_callV [.int (1 : Int32), .int (1 : Int32)] mv_X11_passes lM_StairCountModel_433 sh_255 (by omega) rfl rfl (Nat.le_of_ble_eq_true rfl) d_X11_chance_81 (sp_X11_passes (d - 1) (by omega) (1 : Int32) (1 : Int32) h) (fun _ h9 => ?_)
      refine sx_iincV (lc' := fun v11 => [(8, .int v11), (0, .ref 255), (2, .int c2), (3, .int c3), (4, .int c4), (6, .int c6), (7, .int c7)]) (k0 := 6) d_X11_chance_84 rfl ii1 (by decide) (fun _ => rfl) (fun v11 => ?_)
      refine sx_goto d_X11_chance_87 ?_
      refine sx_lc (lc' := [(0, .ref 255), (2, .int c2), (3, .int c3), (4, .int c4), (6, .int c6), (7, .int c7), (8, .int v11)]) [1, 2, 3, 4, 5, 6, 0] rfl ?_
      exact ih v11 h9
    · refine sx_lc (lc' := [(0, .ref 255), (2, .int c2), (3, .int c3), (4, .int c4), (6, .int c6), (7, .int c7)]) [0, 1, 2, 3, 4, 5] rfl ?_
      exact hK90 h
set_option maxHeartbeats 4000000 in
set_option maxRecDepth 100000 in
theorem sL_X11_chance_48 (d : Nat) (hd : 11 ≤ d) (c2 : Int32) (c3 : Int32) (c4 : Int32) : ∀ (n : Nat) (x5 : Int32) (x6 : Int32) (x7 : Int32) (h : HH), Sx mi_X11_chance d iI (g_X11_chance_L48 c2 c3 c4 n x5 x6 x7 h) 48 [(0, .ref 255), (2, .int c2), (3, .int c3), (4, .int c4), (5, .int x5), (6, .int x6), (7, .int x7)] [] h := by
  intro n
  induction n with
  | zero => intro x5 x6 x7 h; exact sx_none
  | succ n ih =>
    intro x5 x6 x7 h
    rw [g_X11_chance_L48]
    refine sx_iload d_X11_chance_48 6 rfl ?_
    refine sx_bipush d_X11_chance_50 bc10 ?_
    refine sx_icmp_ge d_X11_chance_52 ?_ ?_
    · refine sx_aload_n d_X11_chance_55 0 rfl ?_
      refine sx_iconst d_X11_chance_56 ic1 ?_
      refine sx_iconst d_X11_chance_57 ic0 ?_
      refine sx_callV [.int (1 : Int32), .int (0 : Int32)] mv_X11_copies lM_StairCountModel_457 sh_255 (by omega) rfl rfl (Nat.le_of_ble_eq_true rfl) d_X11_chance_58 (sp_X11_copies (d - 1) (by omega) (1 : Int32) (0 : Int32) h) (fun _ h6 => ?_)
      refine sx_aload_n d_X11_chance_61 0 rfl ?_
      refine sx_getF (a' := 277) fl_StairCountModel_78 sh_255 rfl rfl d_X11_chance_62 ?_
      refine sx_iconst d_X11_chance_65 ic1 ?_
      refine sx_iload d_X11_chance_66 4 rfl ?_
      refine sx_iast sh_277 d_X11_chance_68 (fun h8 => ?_)
      refine sx_iconst d_X11_chance_69 ic0 ?_
      refine sx_istore (i := 8) (lc' := [(8, .int (0 : Int32)), (0, .ref 255), (2, .int c2), (3, .int c3), (4, .int c4), (5, .int x5), (6, .int x6), (7, .int x7)]) d_X11_chance_70 (by decide) rfl ?_
      refine sx_lc (lc' := [(0, .ref 255), (2, .int c2), (3, .int c3), (4, .int c4), (6, .int x6), (7, .int x7), (8, .int (0 : Int32))]) [1, 2, 3, 4, 6, 7, 0] rfl ?_
      refine sL_X11_chance_72 d hd _ c2 c3 c4 x6 x7 ?_ 1024 (0 : Int32) h8
      · intro h12
        refine sx_aload_n d_X11_chance_90 0 rfl ?_
        refine sx_getF (a' := 277) fl_StairCountModel_78 sh_255 rfl rfl d_X11_chance_91 ?_
        refine sx_iconst d_X11_chance_94 ic1 ?_
        refine sx_iald sh_277 d_X11_chance_95 (fun v13 => ?_)
        refine sx_istore (i := 5) (lc' := [(5, .int v13), (0, .ref 255), (2, .int c2), (3, .int c3), (4, .int c4), (6, .int x6), (7, .int x7)]) d_X11_chance_96 (by decide) rfl ?_
        refine sx_iload d_X11_chance_98 5 rfl ?_
        refine sx_aload_n d_X11_chance_100 1 rfl ?_
        refine sx_getF (a' := 278) fl_StairCountModel_81 sh_255 rfl rfl d_X11_chance_101 ?_
        refine sx_bipush d_X11_chance_104 bc6 ?_
        refine sx_iload_n d_X11_chance_106 3 rfl ?_
        refine sx_iadd d_X11_chance_107 ?_
        refine sx_iald sh_278 d_X11_chance_108 (fun v14 => ?_)
        refine sx_iload d_X11_chance_109 4 rfl ?_
        refine sx_jn (fun j => ∀ (y18 : Int32) (h : HH), Sx mi_X11_chance d iI (j y18 h) 119 [(0, .ref 255), (2, .int c2), (3, .int c3), (4, .int c4), (5, .int v13), (7, .int x7)] [.int y18, .int x6] h) ?_ ?_
        · intro y18 h17
          refine sx_iadd d_X11_chance_119 ?_
          refine sx_vlI (fun v19 => ?_)
          refine sx_istore (i := 6) (lc' := [(6, .int v19), (0, .ref 255), (2, .int c2), (3, .int c3), (4, .int c4), (5, .int v13), (7, .int x7)]) d_X11_chance_120 (by decide) rfl ?_
          refine sx_iincV (lc' := fun v20 => [(7, .int v20), (6, .int v19), (0, .ref 255), (2, .int c2), (3, .int c3), (4, .int c4), (5, .int v13)]) (k0 := 6) d_X11_chance_122 rfl ii1 (by decide) (fun _ => rfl) (fun v20 => ?_)
          refine sx_goto d_X11_chance_125 ?_
          refine sx_lc (lc' := [(0, .ref 255), (2, .int c2), (3, .int c3), (4, .int c4), (5, .int v13), (6, .int v19), (7, .int v20)]) [2, 3, 4, 5, 6, 1, 0] rfl ?_
          exact ih v13 v19 v20 h17
        · intro j15 k16
          refine sx_icmp_ne d_X11_chance_111 ?_ ?_
          · refine sx_iconst d_X11_chance_114 ic1 ?_
            refine sx_goto d_X11_chance_115 ?_
            refine sx_lc (lc' := [(0, .ref 255), (2, .int c2), (3, .int c3), (4, .int c4), (5, .int v13), (7, .int x7)]) [1, 2, 3, 4, 0, 6] rfl ?_
            exact k16 (1 : Int32) h12
          · refine sx_iconst d_X11_chance_118 ic0 ?_
            refine sx_lc (lc' := [(0, .ref 255), (2, .int c2), (3, .int c3), (4, .int c4), (5, .int v13), (7, .int x7)]) [1, 2, 3, 4, 0, 6] rfl ?_
            exact k16 (0 : Int32) h12
    · refine sx_iload d_X11_chance_128 5 rfl ?_
      exact sx_iret rfl d_X11_chance_130
set_option maxHeartbeats 4000000 in
set_option maxRecDepth 100000 in
theorem sp_X11_chance (d : Nat) (hd : 11 ≤ d) (a0 : Int32) (a1 : Int32) (a2 : Int32) (a3 : Int32) (h : HH) : Sp mi_X11_chance d iI [.ref 255, .int a0, .int a1, .int a2, .int a3] h (g_X11_chance a0 a1 a2 a3 h) := by
  refine sp_of (lc := [(0, .ref 255), (1, .int a0), (2, .int a1), (3, .int a2), (4, .int a3)]) (by decide) (Nat.le_of_ble_eq_true rfl) rfl ?_
  unfold g_X11_chance
  refine sx_aload_n d_X11_chance_0 0 rfl ?_
  refine sx_iconst d_X11_chance_1 ic0 ?_
  refine sx_putI fl_StairCountModel_148 sh_255 rfl hty_11_0 d_X11_chance_2 (fun h1 => ?_)
  refine sx_iload_n d_X11_chance_5 1 rfl ?_
  refine sx_if_lt d_X11_chance_6 ?_ ?_
  · refine sx_iconst d_X11_chance_37 icm1 ?_
    exact sx_iret rfl d_X11_chance_38
  · refine sx_iload_n d_X11_chance_9 2 rfl ?_
    refine sx_iconst d_X11_chance_10 ic1 ?_
    refine sx_icmp_lt d_X11_chance_11 ?_ ?_
    · refine sx_iconst d_X11_chance_37 icm1 ?_
      exact sx_iret rfl d_X11_chance_38
    · refine sx_iload_n d_X11_chance_14 2 rfl ?_
      refine sx_bipush d_X11_chance_15 bc99 ?_
      refine sx_icmp_gt d_X11_chance_17 ?_ ?_
      · refine sx_iconst d_X11_chance_37 icm1 ?_
        exact sx_iret rfl d_X11_chance_38
      · refine sx_aload_n d_X11_chance_20 0 rfl ?_
        refine sx_iload_n d_X11_chance_21 3 rfl ?_
        refine sx_callV [.int a2] mv_X11_isPerson lM_StairCountModel_346 sh_255 (by omega) rfl rfl (Nat.le_of_ble_eq_true rfl) d_X11_chance_22 (sp_X11_isPerson (d - 1) (by omega) a2 h1) (fun r3 h2 => ?_)
        refine sx_if_eq d_X11_chance_25 ?_ ?_
        · refine sx_iconst d_X11_chance_37 icm1 ?_
          exact sx_iret rfl d_X11_chance_38
        · refine sx_aload_n d_X11_chance_28 0 rfl ?_
          refine sx_iload d_X11_chance_29 4 rfl ?_
          refine sx_callV [.int a3] mv_X11_isFloor lM_StairCountModel_444 sh_255 (by omega) rfl rfl (Nat.le_of_ble_eq_true rfl) d_X11_chance_31 (sp_X11_isFloor (d - 1) (by omega) a3 h2) (fun r5 h4 => ?_)
          refine sx_if_ne d_X11_chance_34 ?_ ?_
          · refine sx_iconst d_X11_chance_37 icm1 ?_
            exact sx_iret rfl d_X11_chance_38
          · refine sx_iload_n d_X11_chance_39 1 rfl ?_
            refine sx_istore (i := 5) (lc' := [(5, .int a0), (0, .ref 255), (1, .int a0), (2, .int a1), (3, .int a2), (4, .int a3)]) d_X11_chance_40 (by decide) rfl ?_
            refine sx_iconst d_X11_chance_42 ic0 ?_
            refine sx_istore (i := 6) (lc' := [(6, .int (0 : Int32)), (5, .int a0), (0, .ref 255), (1, .int a0), (2, .int a1), (3, .int a2), (4, .int a3)]) d_X11_chance_43 (by decide) rfl ?_
            refine sx_iconst d_X11_chance_45 ic0 ?_
            refine sx_istore (i := 7) (lc' := [(7, .int (0 : Int32)), (6, .int (0 : Int32)), (5, .int a0), (0, .ref 255), (1, .int a0), (2, .int a1), (3, .int a2), (4, .int a3)]) d_X11_chance_46 (by decide) rfl ?_
            refine sx_lc (lc' := [(0, .ref 255), (2, .int a1), (3, .int a2), (4, .int a3), (5, .int a0), (6, .int (0 : Int32)), (7, .int (0 : Int32))]) [3, 5, 6, 7, 2, 1, 0] rfl ?_
            refine sL_X11_chance_48 d hd a1 a2 a3 1024 a0 (0 : Int32) (0 : Int32) h4
theorem d_X11_tried_0 : DC mi_X11_tried 0 (.aload_n 0) 1 1 := ⟨by decide +kernel, rfl⟩
theorem d_X11_tried_1 : DC mi_X11_tried 1 (.iconst 0) 1 2 := ⟨by decide +kernel, rfl⟩
theorem d_X11_tried_2 : DC mi_X11_tried 2 (.putfield 148) 3 5 := ⟨by decide +kernel, rfl⟩
theorem d_X11_tried_5 : DC mi_X11_tried 5 (.iload_n 1) 1 6 := ⟨by decide +kernel, rfl⟩
theorem d_X11_tried_6 : DC mi_X11_tried 6 (.iconst 2) 1 7 := ⟨by decide +kernel, rfl⟩
theorem d_X11_tried_7 : DB mi_X11_tried 7 (.if_icmp .ne 11) 11 10 18 := ⟨by decide +kernel, rfl, by decide⟩
theorem d_X11_tried_10 : DC mi_X11_tried 10 (.aload_n 0) 1 11 := ⟨by decide +kernel, rfl⟩
theorem d_X11_tried_11 : DC mi_X11_tried 11 (.iload_n 2) 1 12 := ⟨by decide +kernel, rfl⟩
theorem d_X11_tried_12 : DC mi_X11_tried 12 (.invokevirtual 346) 3 15 := ⟨by decide +kernel, rfl⟩
theorem d_X11_tried_15 : DB mi_X11_tried 15 (.goto 21) 21 18 36 := ⟨by decide +kernel, rfl, by decide⟩
theorem d_X11_tried_18 : DC mi_X11_tried 18 (.iload_n 1) 1 19 := ⟨by decide +kernel, rfl⟩
theorem d_X11_tried_19 : DB mi_X11_tried 19 (.ifCond .lt 16) 16 22 35 := ⟨by decide +kernel, rfl, by decide⟩
theorem d_X11_tried_22 : DC mi_X11_tried 22 (.iload_n 1) 1 23 := ⟨by decide +kernel, rfl⟩
theorem d_X11_tried_23 : DC mi_X11_tried 23 (.iconst 4) 1 24 := ⟨by decide +kernel, rfl⟩
theorem d_X11_tried_24 : DB mi_X11_tried 24 (.if_icmp .gt 11) 11 27 35 := ⟨by decide +kernel, rfl, by decide⟩
theorem d_X11_tried_27 : DC mi_X11_tried 27 (.iload_n 2) 1 28 := ⟨by decide +kernel, rfl⟩
theorem d_X11_tried_28 : DB mi_X11_tried 28 (.ifCond .ne 7) 7 31 35 := ⟨by decide +kernel, rfl, by decide⟩
theorem d_X11_tried_31 : DC mi_X11_tried 31 (.iconst 1) 1 32 := ⟨by decide +kernel, rfl⟩
theorem d_X11_tried_32 : DB mi_X11_tried 32 (.goto 4) 4 35 36 := ⟨by decide +kernel, rfl, by decide⟩
theorem d_X11_tried_35 : DC mi_X11_tried 35 (.iconst 0) 1 36 := ⟨by decide +kernel, rfl⟩
theorem d_X11_tried_36 : DC mi_X11_tried 36 (.istore 4) 2 38 := ⟨by decide +kernel, rfl⟩
theorem d_X11_tried_38 : DC mi_X11_tried 38 (.iload 4) 2 40 := ⟨by decide +kernel, rfl⟩
theorem d_X11_tried_40 : DB mi_X11_tried 40 (.ifCond .eq 14) 14 43 54 := ⟨by decide +kernel, rfl, by decide⟩
theorem d_X11_tried_43 : DC mi_X11_tried 43 (.iload_n 3) 1 44 := ⟨by decide +kernel, rfl⟩
theorem d_X11_tried_44 : DB mi_X11_tried 44 (.ifCond .lt 10) 10 47 54 := ⟨by decide +kernel, rfl, by decide⟩
theorem d_X11_tried_47 : DC mi_X11_tried 47 (.iload_n 3) 1 48 := ⟨by decide +kernel, rfl⟩
theorem d_X11_tried_48 : DC mi_X11_tried 48 (.sipush 200) 3 51 := ⟨by decide +kernel, rfl⟩
theorem d_X11_tried_51 : DB mi_X11_tried 51 (.if_icmp .le 5) 5 54 56 := ⟨by decide +kernel, rfl, by decide⟩
theorem d_X11_tried_54 : DC mi_X11_tried 54 (.iconst (-1)) 1 55 := ⟨by decide +kernel, rfl⟩
theorem d_X11_tried_55 : DC mi_X11_tried 55 (.ireturn) 1 56 := ⟨by decide +kernel, rfl⟩
theorem d_X11_tried_56 : DC mi_X11_tried 56 (.aload_n 0) 1 57 := ⟨by decide +kernel, rfl⟩
theorem d_X11_tried_57 : DC mi_X11_tried 57 (.iconst 1) 1 58 := ⟨by decide +kernel, rfl⟩
theorem d_X11_tried_58 : DC mi_X11_tried 58 (.iconst 0) 1 59 := ⟨by decide +kernel, rfl⟩
theorem d_X11_tried_59 : DC mi_X11_tried 59 (.invokevirtual 457) 3 62 := ⟨by decide +kernel, rfl⟩
theorem d_X11_tried_62 : DC mi_X11_tried 62 (.iconst 0) 1 63 := ⟨by decide +kernel, rfl⟩
theorem d_X11_tried_63 : DC mi_X11_tried 63 (.istore 5) 2 65 := ⟨by decide +kernel, rfl⟩
theorem d_X11_tried_65 : DC mi_X11_tried 65 (.iload 5) 2 67 := ⟨by decide +kernel, rfl⟩
theorem d_X11_tried_67 : DC mi_X11_tried 67 (.bipush 36) 2 69 := ⟨by decide +kernel, rfl⟩
theorem d_X11_tried_69 : DB mi_X11_tried 69 (.if_icmp .ge 25) 25 72 94 := ⟨by decide +kernel, rfl, by decide⟩
theorem d_X11_tried_72 : DC mi_X11_tried 72 (.iload_n 1) 1 73 := ⟨by decide +kernel, rfl⟩
theorem d_X11_tried_73 : DC mi_X11_tried 73 (.iconst 1) 1 74 := ⟨by decide +kernel, rfl⟩
theorem d_X11_tried_74 : DB mi_X11_tried 74 (.if_icmp .ne 20) 20 77 94 := ⟨by decide +kernel, rfl, by decide⟩
theorem d_X11_tried_77 : DC mi_X11_tried 77 (.aload_n 0) 1 78 := ⟨by decide +kernel, rfl⟩
theorem d_X11_tried_78 : DC mi_X11_tried 78 (.getfield 93) 3 81 := ⟨by decide +kernel, rfl⟩
theorem d_X11_tried_81 : DC mi_X11_tried 81 (.bipush 36) 2 83 := ⟨by decide +kernel, rfl⟩
theorem d_X11_tried_83 : DC mi_X11_tried 83 (.iload 5) 2 85 := ⟨by decide +kernel, rfl⟩
theorem d_X11_tried_85 : DC mi_X11_tried 85 (.iadd) 1 86 := ⟨by decide +kernel, rfl⟩
theorem d_X11_tried_86 : DC mi_X11_tried 86 (.iconst 0) 1 87 := ⟨by decide +kernel, rfl⟩
theorem d_X11_tried_87 : DC mi_X11_tried 87 (.iastore) 1 88 := ⟨by decide +kernel, rfl⟩
theorem d_X11_tried_88 : DC mi_X11_tried 88 (.iinc 5 1) 3 91 := ⟨by decide +kernel, rfl⟩
theorem d_X11_tried_91 : DB mi_X11_tried 91 (.goto (-26)) (-26) 94 65 := ⟨by decide +kernel, rfl, by decide⟩
theorem d_X11_tried_94 : DC mi_X11_tried 94 (.aload_n 0) 1 95 := ⟨by decide +kernel, rfl⟩
theorem d_X11_tried_95 : DC mi_X11_tried 95 (.iload_n 1) 1 96 := ⟨by decide +kernel, rfl⟩
theorem d_X11_tried_96 : DB mi_X11_tried 96 (.ifCond .ne 7) 7 99 103 := ⟨by decide +kernel, rfl, by decide⟩
theorem d_X11_tried_99 : DC mi_X11_tried 99 (.iconst 5) 1 100 := ⟨by decide +kernel, rfl⟩
theorem d_X11_tried_100 : DB mi_X11_tried 100 (.goto 4) 4 103 104 := ⟨by decide +kernel, rfl, by decide⟩
theorem d_X11_tried_103 : DC mi_X11_tried 103 (.iload_n 1) 1 104 := ⟨by decide +kernel, rfl⟩
theorem d_X11_tried_104 : DC mi_X11_tried 104 (.putfield 352) 3 107 := ⟨by decide +kernel, rfl⟩
theorem d_X11_tried_107 : DC mi_X11_tried 107 (.aload_n 0) 1 108 := ⟨by decide +kernel, rfl⟩
theorem d_X11_tried_108 : DC mi_X11_tried 108 (.iload_n 2) 1 109 := ⟨by decide +kernel, rfl⟩
theorem d_X11_tried_109 : DC mi_X11_tried 109 (.putfield 102) 3 112 := ⟨by decide +kernel, rfl⟩
theorem d_X11_tried_112 : DC mi_X11_tried 112 (.aload_n 0) 1 113 := ⟨by decide +kernel, rfl⟩
theorem d_X11_tried_113 : DC mi_X11_tried 113 (.iload_n 3) 1 114 := ⟨by decide +kernel, rfl⟩
theorem d_X11_tried_114 : DC mi_X11_tried 114 (.invokevirtual 463) 3 117 := ⟨by decide +kernel, rfl⟩
theorem d_X11_tried_117 : DC mi_X11_tried 117 (.aload_n 0) 1 118 := ⟨by decide +kernel, rfl⟩
theorem d_X11_tried_118 : DC mi_X11_tried 118 (.iconst 0) 1 119 := ⟨by decide +kernel, rfl⟩
theorem d_X11_tried_119 : DC mi_X11_tried 119 (.putfield 352) 3 122 := ⟨by decide +kernel, rfl⟩
theorem d_X11_tried_122 : DC mi_X11_tried 122 (.aload_n 0) 1 123 := ⟨by decide +kernel, rfl⟩
theorem d_X11_tried_123 : DC mi_X11_tried 123 (.iconst (-1)) 1 124 := ⟨by decide +kernel, rfl⟩
theorem d_X11_tried_124 : DC mi_X11_tried 124 (.putfield 102) 3 127 := ⟨by decide +kernel, rfl⟩
theorem d_X11_tried_127 : DC mi_X11_tried 127 (.aload_n 0) 1 128 := ⟨by decide +kernel, rfl⟩
theorem d_X11_tried_128 : DC mi_X11_tried 128 (.aload_n 0) 1 129 := ⟨by decide +kernel, rfl⟩
theorem d_X11_tried_129 : DC mi_X11_tried 129 (.getfield 81) 3 132 := ⟨by decide +kernel, rfl⟩
theorem d_X11_tried_132 : DC mi_X11_tried 132 (.iconst 1) 1 133 := ⟨by decide +kernel, rfl⟩
theorem d_X11_tried_133 : DC mi_X11_tried 133 (.invokevirtual 466) 3 136 := ⟨by decide +kernel, rfl⟩
theorem d_X11_tried_136 : DC mi_X11_tried 136 (.ireturn) 1 137 := ⟨by decide +kernel, rfl⟩
set_option maxHeartbeats 4000000 in
set_option maxRecDepth 100000 in
theorem sL_X11_tried_65 (d : Nat) (hd : 12 ≤ d) (K94 : HH → Option (Int32 × HH)) (c1 : Int32) (c2 : Int32) (c3 : Int32) (hK94 : ∀ (h : HH), Sx mi_X11_tried d iI (K94 h) 94 [(0, .ref 255), (1, .int c1), (2, .int c2), (3, .int c3)] [] h) : ∀ (n : Nat) (x5 : Int32) (h : HH), Sx mi_X11_tried d iI (g_X11_tried_L65 K94 c1 c2 c3 n x5 h) 65 [(0, .ref 255), (1, .int c1), (2, .int c2), (3, .int c3), (5, .int x5)] [] h := by
  intro n
  induction n with
  | zero => intro x5 h; exact sx_none
  | succ n ih =>
    intro x5 h
    rw [g_X11_tried_L65]
    refine sx_iload d_X11_tried_65 4 rfl ?_
    refine sx_bipush d_X11_tried_67 bc36 ?_
    refine sx_icmp_ge d_X11_tried_69 ?_ ?_
    · refine sx_iload_n d_X11_tried_72 1 rfl ?_
      refine sx_iconst d_X11_tried_73 ic1 ?_
      refine sx_icmp_ne d_X11_tried_74 ?_ ?_
      · refine sx_aload_n d_X11_tried_77 0 rfl ?_
        refine sx_getF (a' := 282) fl_StairCountModel_93 sh_255 rfl rfl d_X11_tried_78 ?_
        refine sx_bipush d_X11_tried_81 bc36 ?_
        refine sx_iload d_X11_tried_83 4 rfl ?_
        refine sx_iadd d_X11_tried_85 ?_
        refine sx_iconst d_X11_tried_86 ic0 ?_
        refine sx_iast sh_282 d_X11_tried_87 (fun h8 => ?_)
        refine sx_iincV (lc' := fun v9 => [(5, .int v9), (0, .ref 255), (1, .int c1), (2, .int c2), (3, .int c3)]) (k0 := 4) d_X11_tried_88 rfl ii1 (by decide) (fun _ => rfl) (fun v9 => ?_)
        refine sx_goto d_X11_tried_91 ?_
        refine sx_lc (lc' := [(0, .ref 255), (1, .int c1), (2, .int c2), (3, .int c3), (5, .int v9)]) [1, 2, 3, 4, 0] rfl ?_
        exact ih v9 h8
      · refine sx_lc (lc' := [(0, .ref 255), (1, .int c1), (2, .int c2), (3, .int c3)]) [0, 1, 2, 3] rfl ?_
        exact hK94 h
    · refine sx_lc (lc' := [(0, .ref 255), (1, .int c1), (2, .int c2), (3, .int c3)]) [0, 1, 2, 3] rfl ?_
      exact hK94 h
set_option maxHeartbeats 4000000 in
set_option maxRecDepth 100000 in
theorem sp_X11_tried (d : Nat) (hd : 12 ≤ d) (a0 : Int32) (a1 : Int32) (a2 : Int32) (h : HH) : Sp mi_X11_tried d iI [.ref 255, .int a0, .int a1, .int a2] h (g_X11_tried a0 a1 a2 h) := by
  refine sp_of (lc := [(0, .ref 255), (1, .int a0), (2, .int a1), (3, .int a2)]) (by decide) (Nat.le_of_ble_eq_true rfl) rfl ?_
  unfold g_X11_tried
  refine sx_aload_n d_X11_tried_0 0 rfl ?_
  refine sx_iconst d_X11_tried_1 ic0 ?_
  refine sx_putI fl_StairCountModel_148 sh_255 rfl hty_11_0 d_X11_tried_2 (fun h1 => ?_)
  refine sx_iload_n d_X11_tried_5 1 rfl ?_
  refine sx_iconst d_X11_tried_6 ic2 ?_
  refine sx_jn (fun j => ∀ (y5 : Int32) (h : HH), Sx mi_X11_tried d iI (j y5 h) 36 [(0, .ref 255), (1, .int a0), (2, .int a1), (3, .int a2)] [.int y5] h) ?_ ?_
  · intro y5 h4
    refine sx_istore (i := 4) (lc' := [(4, .int y5), (0, .ref 255), (1, .int a0), (2, .int a1), (3, .int a2)]) d_X11_tried_36 (by decide) rfl ?_
    refine sx_iload d_X11_tried_38 0 rfl ?_
    refine sx_if_eq d_X11_tried_40 ?_ ?_
    · refine sx_iconst d_X11_tried_54 icm1 ?_
      exact sx_iret rfl d_X11_tried_55
    · refine sx_iload_n d_X11_tried_43 4 rfl ?_
      refine sx_if_lt d_X11_tried_44 ?_ ?_
      · refine sx_iconst d_X11_tried_54 icm1 ?_
        exact sx_iret rfl d_X11_tried_55
      · refine sx_iload_n d_X11_tried_47 4 rfl ?_
        refine sx_sipush d_X11_tried_48 sc200 ?_
        refine sx_icmp_le d_X11_tried_51 ?_ ?_
        · refine sx_iconst d_X11_tried_54 icm1 ?_
          exact sx_iret rfl d_X11_tried_55
        · refine sx_aload_n d_X11_tried_56 1 rfl ?_
          refine sx_iconst d_X11_tried_57 ic1 ?_
          refine sx_iconst d_X11_tried_58 ic0 ?_
          refine sx_callV [.int (1 : Int32), .int (0 : Int32)] mv_X11_copies lM_StairCountModel_457 sh_255 (by omega) rfl rfl (Nat.le_of_ble_eq_true rfl) d_X11_tried_59 (sp_X11_copies (d - 1) (by omega) (1 : Int32) (0 : Int32) h4) (fun _ h6 => ?_)
          refine sx_iconst d_X11_tried_62 ic0 ?_
          refine sx_istore (i := 5) (lc' := [(5, .int (0 : Int32)), (4, .int y5), (0, .ref 255), (1, .int a0), (2, .int a1), (3, .int a2)]) d_X11_tried_63 (by decide) rfl ?_
          refine sx_lc (lc' := [(0, .ref 255), (1, .int a0), (2, .int a1), (3, .int a2), (5, .int (0 : Int32))]) [2, 3, 4, 5, 0] rfl ?_
          refine sL_X11_tried_65 d hd _ a0 a1 a2 ?_ 1024 (0 : Int32) h6
          · intro h10
            refine sx_aload_n d_X11_tried_94 0 rfl ?_
            refine sx_iload_n d_X11_tried_95 1 rfl ?_
            refine sx_jn (fun j => ∀ (y14 : Int32) (h : HH), Sx mi_X11_tried d iI (j y14 h) 104 [(0, .ref 255), (2, .int a1), (3, .int a2)] [.int y14, .ref 255] h) ?_ ?_
            · intro y14 h13
              refine sx_putI fl_StairCountModel_352 sh_255 rfl hty_11_48 d_X11_tried_104 (fun h15 => ?_)
              refine sx_aload_n d_X11_tried_107 0 rfl ?_
              refine sx_iload_n d_X11_tried_108 1 rfl ?_
              refine sx_putI fl_StairCountModel_102 sh_255 rfl hty_11_49 d_X11_tried_109 (fun h16 => ?_)
              refine sx_aload_n d_X11_tried_112 0 rfl ?_
              refine sx_iload_n d_X11_tried_113 2 rfl ?_
              refine sx_callV [.int a2] mv_X11_goesOn lM_StairCountModel_463 sh_255 (by omega) rfl rfl (Nat.le_of_ble_eq_true rfl) d_X11_tried_114 (sp_X11_goesOn (d - 1) (by omega) a2 h16) (fun _ h17 => ?_)
              refine sx_aload_n d_X11_tried_117 0 rfl ?_
              refine sx_iconst d_X11_tried_118 ic0 ?_
              refine sx_putI fl_StairCountModel_352 sh_255 rfl hty_11_48 d_X11_tried_119 (fun h19 => ?_)
              refine sx_aload_n d_X11_tried_122 0 rfl ?_
              refine sx_iconst d_X11_tried_123 icm1 ?_
              refine sx_putI fl_StairCountModel_102 sh_255 rfl hty_11_49 d_X11_tried_124 (fun h20 => ?_)
              refine sx_aload_n d_X11_tried_127 0 rfl ?_
              refine sx_aload_n d_X11_tried_128 0 rfl ?_
              refine sx_getF (a' := 278) fl_StairCountModel_81 sh_255 rfl rfl d_X11_tried_129 ?_
              refine sx_iconst d_X11_tried_132 ic1 ?_
              refine sx_callV [.ref 278, .int (1 : Int32)] mv_X11_sumOf lM_StairCountModel_466 sh_255 (by omega) rfl rfl (Nat.le_of_ble_eq_true rfl) d_X11_tried_133 (sp_X11_sumOf (d - 1) (by omega) 278 (1 : Int32) h20) (fun r22 h21 => ?_)
              exact sx_iret rfl d_X11_tried_136
            · intro j11 k12
              refine sx_if_ne d_X11_tried_96 ?_ ?_
              · refine sx_iconst d_X11_tried_99 ic5 ?_
                refine sx_goto d_X11_tried_100 ?_
                refine sx_lc (lc' := [(0, .ref 255), (2, .int a1), (3, .int a2)]) [0, 2, 3] rfl ?_
                exact k12 (5 : Int32) h10
              · refine sx_iload_n d_X11_tried_103 1 rfl ?_
                refine sx_lc (lc' := [(0, .ref 255), (2, .int a1), (3, .int a2)]) [0, 2, 3] rfl ?_
                exact k12 a0 h10
  · intro j2 k3
    refine sx_icmp_ne d_X11_tried_7 ?_ ?_
    · refine sx_aload_n d_X11_tried_10 0 rfl ?_
      refine sx_iload_n d_X11_tried_11 2 rfl ?_
      refine sx_callV [.int a1] mv_X11_isPerson lM_StairCountModel_346 sh_255 (by omega) rfl rfl (Nat.le_of_ble_eq_true rfl) d_X11_tried_12 (sp_X11_isPerson (d - 1) (by omega) a1 h1) (fun r24 h23 => ?_)
      refine sx_goto d_X11_tried_15 ?_
      exact k3 r24 h23
    · refine sx_iload_n d_X11_tried_18 1 rfl ?_
      refine sx_jn (fun j => ∀  (h : HH), Sx mi_X11_tried d iI (j  h) 35 [(0, .ref 255), (1, .int a0), (2, .int a1), (3, .int a2)] [] h) ?_ ?_
      · intro  h27
        refine sx_iconst d_X11_tried_35 ic0 ?_
        exact k3 (0 : Int32) h27
      · intro j25 k26
        refine sx_if_lt d_X11_tried_19 ?_ ?_
        · exact k26 h1
        · refine sx_iload_n d_X11_tried_22 1 rfl ?_
          refine sx_iconst d_X11_tried_23 ic4 ?_
          refine sx_icmp_gt d_X11_tried_24 ?_ ?_
          · exact k26 h1
          · refine sx_iload_n d_X11_tried_27 2 rfl ?_
            refine sx_if_ne d_X11_tried_28 ?_ ?_
            · refine sx_iconst d_X11_tried_31 ic1 ?_
              refine sx_goto d_X11_tried_32 ?_
              exact k3 (1 : Int32) h1
            · exact k26 h1
theorem d_X11_undo_0 : DC mi_X11_undo 0 (.aload_n 0) 1 1 := ⟨by decide +kernel, rfl⟩
theorem d_X11_undo_1 : DC mi_X11_undo 1 (.iconst 0) 1 2 := ⟨by decide +kernel, rfl⟩
theorem d_X11_undo_2 : DC mi_X11_undo 2 (.putfield 148) 3 5 := ⟨by decide +kernel, rfl⟩
theorem d_X11_undo_5 : DC mi_X11_undo 5 (.aload_n 0) 1 6 := ⟨by decide +kernel, rfl⟩
theorem d_X11_undo_6 : DC mi_X11_undo 6 (.getfield 317) 3 9 := ⟨by decide +kernel, rfl⟩
theorem d_X11_undo_9 : DB mi_X11_undo 9 (.ifCond .ne 5) 5 12 14 := ⟨by decide +kernel, rfl, by decide⟩
theorem d_X11_undo_12 : DC mi_X11_undo 12 (.iconst (-1)) 1 13 := ⟨by decide +kernel, rfl⟩
theorem d_X11_undo_13 : DC mi_X11_undo 13 (.ireturn) 1 14 := ⟨by decide +kernel, rfl⟩
theorem d_X11_undo_14 : DC mi_X11_undo 14 (.aload_n 0) 1 15 := ⟨by decide +kernel, rfl⟩
theorem d_X11_undo_15 : DC mi_X11_undo 15 (.dup) 1 16 := ⟨by decide +kernel, rfl⟩
theorem d_X11_undo_16 : DC mi_X11_undo 16 (.getfield 317) 3 19 := ⟨by decide +kernel, rfl⟩
theorem d_X11_undo_19 : DC mi_X11_undo 19 (.iconst 1) 1 20 := ⟨by decide +kernel, rfl⟩
theorem d_X11_undo_20 : DC mi_X11_undo 20 (.isub) 1 21 := ⟨by decide +kernel, rfl⟩
theorem d_X11_undo_21 : DC mi_X11_undo 21 (.putfield 317) 3 24 := ⟨by decide +kernel, rfl⟩
theorem d_X11_undo_24 : DC mi_X11_undo 24 (.aload_n 0) 1 25 := ⟨by decide +kernel, rfl⟩
theorem d_X11_undo_25 : DC mi_X11_undo 25 (.iconst 0) 1 26 := ⟨by decide +kernel, rfl⟩
theorem d_X11_undo_26 : DC mi_X11_undo 26 (.iconst 3) 1 27 := ⟨by decide +kernel, rfl⟩
theorem d_X11_undo_27 : DC mi_X11_undo 27 (.aload_n 0) 1 28 := ⟨by decide +kernel, rfl⟩
theorem d_X11_undo_28 : DC mi_X11_undo 28 (.getfield 317) 3 31 := ⟨by decide +kernel, rfl⟩
theorem d_X11_undo_31 : DC mi_X11_undo 31 (.iadd) 1 32 := ⟨by decide +kernel, rfl⟩
theorem d_X11_undo_32 : DC mi_X11_undo 32 (.invokevirtual 457) 3 35 := ⟨by decide +kernel, rfl⟩
theorem d_X11_undo_35 : DC mi_X11_undo 35 (.aload_n 0) 1 36 := ⟨by decide +kernel, rfl⟩
theorem d_X11_undo_36 : DC mi_X11_undo 36 (.getfield 317) 3 39 := ⟨by decide +kernel, rfl⟩
theorem d_X11_undo_39 : DC mi_X11_undo 39 (.ireturn) 1 40 := ⟨by decide +kernel, rfl⟩
set_option maxHeartbeats 4000000 in
set_option maxRecDepth 100000 in
theorem sp_X11_undo (d : Nat) (hd : 1 ≤ d) (h : HH) : Sp mi_X11_undo d iI [.ref 255] h (g_X11_undo h) := by
  refine sp_of (lc := [(0, .ref 255)]) (by decide) (Nat.le_of_ble_eq_true rfl) rfl ?_
  unfold g_X11_undo
  refine sx_aload_n d_X11_undo_0 0 rfl ?_
  refine sx_iconst d_X11_undo_1 ic0 ?_
  refine sx_putI fl_StairCountModel_148 sh_255 rfl hty_11_0 d_X11_undo_2 (fun h1 => ?_)
  refine sx_aload_n d_X11_undo_5 0 rfl ?_
  refine sx_getI fl_StairCountModel_317 sh_255 rfl d_X11_undo_6 (fun v2 => ?_)
  refine sx_if_ne d_X11_undo_9 ?_ ?_
  · refine sx_iconst d_X11_undo_12 icm1 ?_
    exact sx_iret rfl d_X11_undo_13
  · refine sx_aload_n d_X11_undo_14 0 rfl ?_
    refine sx_dup d_X11_undo_15 rfl ?_
    refine sx_getI fl_StairCountModel_317 sh_255 rfl d_X11_undo_16 (fun v3 => ?_)
    refine sx_iconst d_X11_undo_19 ic1 ?_
    refine sx_isub d_X11_undo_20 ?_
    refine sx_putI fl_StairCountModel_317 sh_255 rfl hty_11_44 d_X11_undo_21 (fun h4 => ?_)
    refine sx_aload_n d_X11_undo_24 0 rfl ?_
    refine sx_iconst d_X11_undo_25 ic0 ?_
    refine sx_iconst d_X11_undo_26 ic3 ?_
    refine sx_aload_n d_X11_undo_27 0 rfl ?_
    refine sx_getI fl_StairCountModel_317 sh_255 rfl d_X11_undo_28 (fun v5 => ?_)
    refine sx_iadd d_X11_undo_31 ?_
    refine sx_callV [.int (0 : Int32), .int ((3 : Int32) + v5)] mv_X11_copies lM_StairCountModel_457 sh_255 (by omega) rfl rfl (Nat.le_of_ble_eq_true rfl) d_X11_undo_32 (sp_X11_copies (d - 1) (by omega) (0 : Int32) ((3 : Int32) + v5) h4) (fun _ h6 => ?_)
    refine sx_aload_n d_X11_undo_35 0 rfl ?_
    refine sx_getI fl_StairCountModel_317 sh_255 rfl d_X11_undo_36 (fun v8 => ?_)
    exact sx_iret rfl d_X11_undo_39
theorem d_X11_keep_0 : DC mi_X11_keep 0 (.aload_n 0) 1 1 := ⟨by decide +kernel, rfl⟩
theorem d_X11_keep_1 : DC mi_X11_keep 1 (.iconst 0) 1 2 := ⟨by decide +kernel, rfl⟩
theorem d_X11_keep_2 : DC mi_X11_keep 2 (.putfield 148) 3 5 := ⟨by decide +kernel, rfl⟩
theorem d_X11_keep_5 : DC mi_X11_keep 5 (.aload_n 0) 1 6 := ⟨by decide +kernel, rfl⟩
theorem d_X11_keep_6 : DC mi_X11_keep 6 (.iconst 2) 1 7 := ⟨by decide +kernel, rfl⟩
theorem d_X11_keep_7 : DC mi_X11_keep 7 (.iconst 0) 1 8 := ⟨by decide +kernel, rfl⟩
theorem d_X11_keep_8 : DC mi_X11_keep 8 (.invokevirtual 457) 3 11 := ⟨by decide +kernel, rfl⟩
theorem d_X11_keep_11 : DC mi_X11_keep 11 (.aload_n 0) 1 12 := ⟨by decide +kernel, rfl⟩
theorem d_X11_keep_12 : DC mi_X11_keep 12 (.iconst 1) 1 13 := ⟨by decide +kernel, rfl⟩
theorem d_X11_keep_13 : DC mi_X11_keep 13 (.putfield 313) 3 16 := ⟨by decide +kernel, rfl⟩
theorem d_X11_keep_16 : DC mi_X11_keep 16 (.aload_n 0) 1 17 := ⟨by decide +kernel, rfl⟩
theorem d_X11_keep_17 : DC mi_X11_keep 17 (.getfield 75) 3 20 := ⟨by decide +kernel, rfl⟩
theorem d_X11_keep_20 : DC mi_X11_keep 20 (.iconst 0) 1 21 := ⟨by decide +kernel, rfl⟩
theorem d_X11_keep_21 : DC mi_X11_keep 21 (.iaload) 1 22 := ⟨by decide +kernel, rfl⟩
theorem d_X11_keep_22 : DC mi_X11_keep 22 (.ireturn) 1 23 := ⟨by decide +kernel, rfl⟩
set_option maxHeartbeats 4000000 in
set_option maxRecDepth 100000 in
theorem sp_X11_keep (d : Nat) (hd : 1 ≤ d) (h : HH) : Sp mi_X11_keep d iI [.ref 255] h (g_X11_keep h) := by
  refine sp_of (lc := [(0, .ref 255)]) (by decide) (Nat.le_of_ble_eq_true rfl) rfl ?_
  unfold g_X11_keep
  refine sx_aload_n d_X11_keep_0 0 rfl ?_
  refine sx_iconst d_X11_keep_1 ic0 ?_
  refine sx_putI fl_StairCountModel_148 sh_255 rfl hty_11_0 d_X11_keep_2 (fun h1 => ?_)
  refine sx_aload_n d_X11_keep_5 0 rfl ?_
  refine sx_iconst d_X11_keep_6 ic2 ?_
  refine sx_iconst d_X11_keep_7 ic0 ?_
  refine sx_callV [.int (2 : Int32), .int (0 : Int32)] mv_X11_copies lM_StairCountModel_457 sh_255 (by omega) rfl rfl (Nat.le_of_ble_eq_true rfl) d_X11_keep_8 (sp_X11_copies (d - 1) (by omega) (2 : Int32) (0 : Int32) h1) (fun _ h2 => ?_)
  refine sx_aload_n d_X11_keep_11 0 rfl ?_
  refine sx_iconst d_X11_keep_12 ic1 ?_
  refine sx_putZ (by decide) fl_StairCountModel_313 sh_255 rfl hty_11_43 d_X11_keep_13 (fun h4 => ?_)
  refine sx_aload_n d_X11_keep_16 0 rfl ?_
  refine sx_getF (a' := 276) fl_StairCountModel_75 sh_255 rfl rfl d_X11_keep_17 ?_
  refine sx_iconst d_X11_keep_20 ic0 ?_
  refine sx_iald sh_276 d_X11_keep_21 (fun v5 => ?_)
  exact sx_iret rfl d_X11_keep_22
theorem d_X11_back_0 : DC mi_X11_back 0 (.aload_n 0) 1 1 := ⟨by decide +kernel, rfl⟩
theorem d_X11_back_1 : DC mi_X11_back 1 (.iconst 0) 1 2 := ⟨by decide +kernel, rfl⟩
theorem d_X11_back_2 : DC mi_X11_back 2 (.putfield 148) 3 5 := ⟨by decide +kernel, rfl⟩
theorem d_X11_back_5 : DC mi_X11_back 5 (.aload_n 0) 1 6 := ⟨by decide +kernel, rfl⟩
theorem d_X11_back_6 : DC mi_X11_back 6 (.getfield 313) 3 9 := ⟨by decide +kernel, rfl⟩
theorem d_X11_back_9 : DB mi_X11_back 9 (.ifCond .ne 5) 5 12 14 := ⟨by decide +kernel, rfl, by decide⟩
theorem d_X11_back_12 : DC mi_X11_back 12 (.iconst (-1)) 1 13 := ⟨by decide +kernel, rfl⟩
theorem d_X11_back_13 : DC mi_X11_back 13 (.ireturn) 1 14 := ⟨by decide +kernel, rfl⟩
theorem d_X11_back_14 : DC mi_X11_back 14 (.aload_n 0) 1 15 := ⟨by decide +kernel, rfl⟩
theorem d_X11_back_15 : DC mi_X11_back 15 (.iconst 0) 1 16 := ⟨by decide +kernel, rfl⟩
theorem d_X11_back_16 : DC mi_X11_back 16 (.iconst 2) 1 17 := ⟨by decide +kernel, rfl⟩
theorem d_X11_back_17 : DC mi_X11_back 17 (.invokevirtual 457) 3 20 := ⟨by decide +kernel, rfl⟩
theorem d_X11_back_20 : DC mi_X11_back 20 (.aload_n 0) 1 21 := ⟨by decide +kernel, rfl⟩
theorem d_X11_back_21 : DC mi_X11_back 21 (.iconst 0) 1 22 := ⟨by decide +kernel, rfl⟩
theorem d_X11_back_22 : DC mi_X11_back 22 (.putfield 317) 3 25 := ⟨by decide +kernel, rfl⟩
theorem d_X11_back_25 : DC mi_X11_back 25 (.aload_n 0) 1 26 := ⟨by decide +kernel, rfl⟩
theorem d_X11_back_26 : DC mi_X11_back 26 (.getfield 75) 3 29 := ⟨by decide +kernel, rfl⟩
theorem d_X11_back_29 : DC mi_X11_back 29 (.iconst 0) 1 30 := ⟨by decide +kernel, rfl⟩
theorem d_X11_back_30 : DC mi_X11_back 30 (.iaload) 1 31 := ⟨by decide +kernel, rfl⟩
theorem d_X11_back_31 : DC mi_X11_back 31 (.ireturn) 1 32 := ⟨by decide +kernel, rfl⟩
set_option maxHeartbeats 4000000 in
set_option maxRecDepth 100000 in
theorem sp_X11_back (d : Nat) (hd : 1 ≤ d) (h : HH) : Sp mi_X11_back d iI [.ref 255] h (g_X11_back h) := by
  refine sp_of (lc := [(0, .ref 255)]) (by decide) (Nat.le_of_ble_eq_true rfl) rfl ?_
  unfold g_X11_back
  refine sx_aload_n d_X11_back_0 0 rfl ?_
  refine sx_iconst d_X11_back_1 ic0 ?_
  refine sx_putI fl_StairCountModel_148 sh_255 rfl hty_11_0 d_X11_back_2 (fun h1 => ?_)
  refine sx_aload_n d_X11_back_5 0 rfl ?_
  refine sx_getI fl_StairCountModel_313 sh_255 rfl d_X11_back_6 (fun v2 => ?_)
  refine sx_if_ne d_X11_back_9 ?_ ?_
  · refine sx_iconst d_X11_back_12 icm1 ?_
    exact sx_iret rfl d_X11_back_13
  · refine sx_aload_n d_X11_back_14 0 rfl ?_
    refine sx_iconst d_X11_back_15 ic0 ?_
    refine sx_iconst d_X11_back_16 ic2 ?_
    refine sx_callV [.int (0 : Int32), .int (2 : Int32)] mv_X11_copies lM_StairCountModel_457 sh_255 (by omega) rfl rfl (Nat.le_of_ble_eq_true rfl) d_X11_back_17 (sp_X11_copies (d - 1) (by omega) (0 : Int32) (2 : Int32) h1) (fun _ h3 => ?_)
    refine sx_aload_n d_X11_back_20 0 rfl ?_
    refine sx_iconst d_X11_back_21 ic0 ?_
    refine sx_putI fl_StairCountModel_317 sh_255 rfl hty_11_44 d_X11_back_22 (fun h5 => ?_)
    refine sx_aload_n d_X11_back_25 0 rfl ?_
    refine sx_getF (a' := 276) fl_StairCountModel_75 sh_255 rfl rfl d_X11_back_26 ?_
    refine sx_iconst d_X11_back_29 ic0 ?_
    refine sx_iald sh_276 d_X11_back_30 (fun v6 => ?_)
    exact sx_iret rfl d_X11_back_31
theorem d_X11_count_0 : DC mi_X11_count 0 (.aload_n 0) 1 1 := ⟨by decide +kernel, rfl⟩
theorem d_X11_count_1 : DC mi_X11_count 1 (.iconst 0) 1 2 := ⟨by decide +kernel, rfl⟩
theorem d_X11_count_2 : DC mi_X11_count 2 (.putfield 148) 3 5 := ⟨by decide +kernel, rfl⟩
theorem d_X11_count_5 : DC mi_X11_count 5 (.iload_n 1) 1 6 := ⟨by decide +kernel, rfl⟩
theorem d_X11_count_6 : DW mi_X11_count 6 (.tableswitch 174 0 13 #[70, 77, 84, 91, 98, 106, 113, 119, 129, 139, 149, 159, 164, 169]) := ⟨70, by decide +kernel⟩
theorem d_X11_count_76 : DC mi_X11_count 76 (.aload_n 0) 1 77 := ⟨by decide +kernel, rfl⟩
theorem d_X11_count_77 : DC mi_X11_count 77 (.getfield 13) 3 80 := ⟨by decide +kernel, rfl⟩
theorem d_X11_count_80 : DC mi_X11_count 80 (.iconst 0) 1 81 := ⟨by decide +kernel, rfl⟩
theorem d_X11_count_81 : DC mi_X11_count 81 (.iaload) 1 82 := ⟨by decide +kernel, rfl⟩
theorem d_X11_count_82 : DC mi_X11_count 82 (.ireturn) 1 83 := ⟨by decide +kernel, rfl⟩
theorem d_X11_count_83 : DC mi_X11_count 83 (.aload_n 0) 1 84 := ⟨by decide +kernel, rfl⟩
theorem d_X11_count_84 : DC mi_X11_count 84 (.getfield 13) 3 87 := ⟨by decide +kernel, rfl⟩
theorem d_X11_count_87 : DC mi_X11_count 87 (.iconst 1) 1 88 := ⟨by decide +kernel, rfl⟩
theorem d_X11_count_88 : DC mi_X11_count 88 (.iaload) 1 89 := ⟨by decide +kernel, rfl⟩
theorem d_X11_count_89 : DC mi_X11_count 89 (.ireturn) 1 90 := ⟨by decide +kernel, rfl⟩
theorem d_X11_count_90 : DC mi_X11_count 90 (.aload_n 0) 1 91 := ⟨by decide +kernel, rfl⟩
theorem d_X11_count_91 : DC mi_X11_count 91 (.getfield 13) 3 94 := ⟨by decide +kernel, rfl⟩
theorem d_X11_count_94 : DC mi_X11_count 94 (.iconst 2) 1 95 := ⟨by decide +kernel, rfl⟩
theorem d_X11_count_95 : DC mi_X11_count 95 (.iaload) 1 96 := ⟨by decide +kernel, rfl⟩
theorem d_X11_count_96 : DC mi_X11_count 96 (.ireturn) 1 97 := ⟨by decide +kernel, rfl⟩
theorem d_X11_count_97 : DC mi_X11_count 97 (.aload_n 0) 1 98 := ⟨by decide +kernel, rfl⟩
theorem d_X11_count_98 : DC mi_X11_count 98 (.getfield 13) 3 101 := ⟨by decide +kernel, rfl⟩
theorem d_X11_count_101 : DC mi_X11_count 101 (.iconst 3) 1 102 := ⟨by decide +kernel, rfl⟩
theorem d_X11_count_102 : DC mi_X11_count 102 (.iaload) 1 103 := ⟨by decide +kernel, rfl⟩
theorem d_X11_count_103 : DC mi_X11_count 103 (.ireturn) 1 104 := ⟨by decide +kernel, rfl⟩
theorem d_X11_count_104 : DC mi_X11_count 104 (.aload_n 0) 1 105 := ⟨by decide +kernel, rfl⟩
theorem d_X11_count_105 : DC mi_X11_count 105 (.getfield 13) 3 108 := ⟨by decide +kernel, rfl⟩
theorem d_X11_count_108 : DC mi_X11_count 108 (.bipush 6) 2 110 := ⟨by decide +kernel, rfl⟩
theorem d_X11_count_110 : DC mi_X11_count 110 (.iaload) 1 111 := ⟨by decide +kernel, rfl⟩
theorem d_X11_count_111 : DC mi_X11_count 111 (.ireturn) 1 112 := ⟨by decide +kernel, rfl⟩
theorem d_X11_count_112 : DC mi_X11_count 112 (.aload_n 0) 1 113 := ⟨by decide +kernel, rfl⟩
theorem d_X11_count_113 : DC mi_X11_count 113 (.getfield 75) 3 116 := ⟨by decide +kernel, rfl⟩
theorem d_X11_count_116 : DC mi_X11_count 116 (.iconst 0) 1 117 := ⟨by decide +kernel, rfl⟩
theorem d_X11_count_117 : DC mi_X11_count 117 (.iaload) 1 118 := ⟨by decide +kernel, rfl⟩
theorem d_X11_count_118 : DC mi_X11_count 118 (.ireturn) 1 119 := ⟨by decide +kernel, rfl⟩
theorem d_X11_count_119 : DC mi_X11_count 119 (.aload_n 0) 1 120 := ⟨by decide +kernel, rfl⟩
theorem d_X11_count_120 : DC mi_X11_count 120 (.iconst 0) 1 121 := ⟨by decide +kernel, rfl⟩
theorem d_X11_count_121 : DC mi_X11_count 121 (.invokevirtual 470) 3 124 := ⟨by decide +kernel, rfl⟩
theorem d_X11_count_124 : DC mi_X11_count 124 (.ireturn) 1 125 := ⟨by decide +kernel, rfl⟩
theorem d_X11_count_125 : DC mi_X11_count 125 (.aload_n 0) 1 126 := ⟨by decide +kernel, rfl⟩
theorem d_X11_count_126 : DC mi_X11_count 126 (.aload_n 0) 1 127 := ⟨by decide +kernel, rfl⟩
theorem d_X11_count_127 : DC mi_X11_count 127 (.getfield 84) 3 130 := ⟨by decide +kernel, rfl⟩
theorem d_X11_count_130 : DC mi_X11_count 130 (.iconst 0) 1 131 := ⟨by decide +kernel, rfl⟩
theorem d_X11_count_131 : DC mi_X11_count 131 (.invokevirtual 466) 3 134 := ⟨by decide +kernel, rfl⟩
theorem d_X11_count_134 : DC mi_X11_count 134 (.ireturn) 1 135 := ⟨by decide +kernel, rfl⟩
theorem d_X11_count_135 : DC mi_X11_count 135 (.aload_n 0) 1 136 := ⟨by decide +kernel, rfl⟩
theorem d_X11_count_136 : DC mi_X11_count 136 (.aload_n 0) 1 137 := ⟨by decide +kernel, rfl⟩
theorem d_X11_count_137 : DC mi_X11_count 137 (.getfield 87) 3 140 := ⟨by decide +kernel, rfl⟩
theorem d_X11_count_140 : DC mi_X11_count 140 (.iconst 0) 1 141 := ⟨by decide +kernel, rfl⟩
theorem d_X11_count_141 : DC mi_X11_count 141 (.invokevirtual 466) 3 144 := ⟨by decide +kernel, rfl⟩
theorem d_X11_count_144 : DC mi_X11_count 144 (.ireturn) 1 145 := ⟨by decide +kernel, rfl⟩
theorem d_X11_count_145 : DC mi_X11_count 145 (.aload_n 0) 1 146 := ⟨by decide +kernel, rfl⟩
theorem d_X11_count_146 : DC mi_X11_count 146 (.aload_n 0) 1 147 := ⟨by decide +kernel, rfl⟩
theorem d_X11_count_147 : DC mi_X11_count 147 (.getfield 90) 3 150 := ⟨by decide +kernel, rfl⟩
theorem d_X11_count_150 : DC mi_X11_count 150 (.iconst 0) 1 151 := ⟨by decide +kernel, rfl⟩
theorem d_X11_count_151 : DC mi_X11_count 151 (.invokevirtual 466) 3 154 := ⟨by decide +kernel, rfl⟩
theorem d_X11_count_154 : DC mi_X11_count 154 (.ireturn) 1 155 := ⟨by decide +kernel, rfl⟩
theorem d_X11_count_155 : DC mi_X11_count 155 (.aload_n 0) 1 156 := ⟨by decide +kernel, rfl⟩
theorem d_X11_count_156 : DC mi_X11_count 156 (.aload_n 0) 1 157 := ⟨by decide +kernel, rfl⟩
theorem d_X11_count_157 : DC mi_X11_count 157 (.getfield 81) 3 160 := ⟨by decide +kernel, rfl⟩
theorem d_X11_count_160 : DC mi_X11_count 160 (.iconst 0) 1 161 := ⟨by decide +kernel, rfl⟩
theorem d_X11_count_161 : DC mi_X11_count 161 (.invokevirtual 466) 3 164 := ⟨by decide +kernel, rfl⟩
theorem d_X11_count_164 : DC mi_X11_count 164 (.ireturn) 1 165 := ⟨by decide +kernel, rfl⟩
theorem d_X11_count_165 : DC mi_X11_count 165 (.aload_n 0) 1 166 := ⟨by decide +kernel, rfl⟩
theorem d_X11_count_166 : DC mi_X11_count 166 (.getfield 310) 3 169 := ⟨by decide +kernel, rfl⟩
theorem d_X11_count_169 : DC mi_X11_count 169 (.ireturn) 1 170 := ⟨by decide +kernel, rfl⟩
theorem d_X11_count_170 : DC mi_X11_count 170 (.aload_n 0) 1 171 := ⟨by decide +kernel, rfl⟩
theorem d_X11_count_171 : DC mi_X11_count 171 (.invokevirtual 500) 3 174 := ⟨by decide +kernel, rfl⟩
theorem d_X11_count_174 : DC mi_X11_count 174 (.ireturn) 1 175 := ⟨by decide +kernel, rfl⟩
theorem d_X11_count_175 : DC mi_X11_count 175 (.aload_n 0) 1 176 := ⟨by decide +kernel, rfl⟩
theorem d_X11_count_176 : DC mi_X11_count 176 (.getfield 317) 3 179 := ⟨by decide +kernel, rfl⟩
theorem d_X11_count_179 : DC mi_X11_count 179 (.ireturn) 1 180 := ⟨by decide +kernel, rfl⟩
theorem d_X11_count_180 : DC mi_X11_count 180 (.iconst (-1)) 1 181 := ⟨by decide +kernel, rfl⟩
theorem d_X11_count_181 : DC mi_X11_count 181 (.ireturn) 1 182 := ⟨by decide +kernel, rfl⟩
set_option maxHeartbeats 4000000 in
set_option maxRecDepth 100000 in
theorem sp_X11_count (d : Nat) (hd : 1 ≤ d) (a0 : Int32) (h : HH) : Sp mi_X11_count d iI [.ref 255, .int a0] h (g_X11_count a0 h) := by
  refine sp_of (lc := [(0, .ref 255), (1, .int a0)]) (by decide) (Nat.le_of_ble_eq_true rfl) rfl ?_
  unfold g_X11_count
  refine sx_aload_n d_X11_count_0 0 rfl ?_
  refine sx_iconst d_X11_count_1 ic0 ?_
  refine sx_putI fl_StairCountModel_148 sh_255 rfl hty_11_0 d_X11_count_2 (fun h1 => ?_)
  refine sx_iload_n d_X11_count_5 1 rfl ?_
  refine sx_if (fun e2 => ?_) (fun e2 => ?_)
  · refine sx_tsIn (off := 70) (t := 76) d_X11_count_6 (by rw [e2] <;> decide) (by rw [e2] <;> decide) (by rw [e2] <;> decide) (by decide) ?_
    refine sx_aload_n d_X11_count_76 0 rfl ?_
    refine sx_getF (a' := 257) fl_StairCountModel_13 sh_255 rfl rfl d_X11_count_77 ?_
    refine sx_iconst d_X11_count_80 ic0 ?_
    refine sx_iald sh_257 d_X11_count_81 (fun v3 => ?_)
    exact sx_iret rfl d_X11_count_82
  · refine sx_if (fun e4 => ?_) (fun e4 => ?_)
    · refine sx_tsIn (off := 77) (t := 83) d_X11_count_6 (by rw [e4] <;> decide) (by rw [e4] <;> decide) (by rw [e4] <;> decide) (by decide) ?_
      refine sx_aload_n d_X11_count_83 0 rfl ?_
      refine sx_getF (a' := 257) fl_StairCountModel_13 sh_255 rfl rfl d_X11_count_84 ?_
      refine sx_iconst d_X11_count_87 ic1 ?_
      refine sx_iald sh_257 d_X11_count_88 (fun v5 => ?_)
      exact sx_iret rfl d_X11_count_89
    · refine sx_if (fun e6 => ?_) (fun e6 => ?_)
      · refine sx_tsIn (off := 84) (t := 90) d_X11_count_6 (by rw [e6] <;> decide) (by rw [e6] <;> decide) (by rw [e6] <;> decide) (by decide) ?_
        refine sx_aload_n d_X11_count_90 0 rfl ?_
        refine sx_getF (a' := 257) fl_StairCountModel_13 sh_255 rfl rfl d_X11_count_91 ?_
        refine sx_iconst d_X11_count_94 ic2 ?_
        refine sx_iald sh_257 d_X11_count_95 (fun v7 => ?_)
        exact sx_iret rfl d_X11_count_96
      · refine sx_if (fun e8 => ?_) (fun e8 => ?_)
        · refine sx_tsIn (off := 91) (t := 97) d_X11_count_6 (by rw [e8] <;> decide) (by rw [e8] <;> decide) (by rw [e8] <;> decide) (by decide) ?_
          refine sx_aload_n d_X11_count_97 0 rfl ?_
          refine sx_getF (a' := 257) fl_StairCountModel_13 sh_255 rfl rfl d_X11_count_98 ?_
          refine sx_iconst d_X11_count_101 ic3 ?_
          refine sx_iald sh_257 d_X11_count_102 (fun v9 => ?_)
          exact sx_iret rfl d_X11_count_103
        · refine sx_if (fun e10 => ?_) (fun e10 => ?_)
          · refine sx_tsIn (off := 98) (t := 104) d_X11_count_6 (by rw [e10] <;> decide) (by rw [e10] <;> decide) (by rw [e10] <;> decide) (by decide) ?_
            refine sx_aload_n d_X11_count_104 0 rfl ?_
            refine sx_getF (a' := 257) fl_StairCountModel_13 sh_255 rfl rfl d_X11_count_105 ?_
            refine sx_bipush d_X11_count_108 bc6 ?_
            refine sx_iald sh_257 d_X11_count_110 (fun v11 => ?_)
            exact sx_iret rfl d_X11_count_111
          · refine sx_if (fun e12 => ?_) (fun e12 => ?_)
            · refine sx_tsIn (off := 106) (t := 112) d_X11_count_6 (by rw [e12] <;> decide) (by rw [e12] <;> decide) (by rw [e12] <;> decide) (by decide) ?_
              refine sx_aload_n d_X11_count_112 0 rfl ?_
              refine sx_getF (a' := 276) fl_StairCountModel_75 sh_255 rfl rfl d_X11_count_113 ?_
              refine sx_iconst d_X11_count_116 ic0 ?_
              refine sx_iald sh_276 d_X11_count_117 (fun v13 => ?_)
              exact sx_iret rfl d_X11_count_118
            · refine sx_if (fun e14 => ?_) (fun e14 => ?_)
              · refine sx_tsIn (off := 113) (t := 119) d_X11_count_6 (by rw [e14] <;> decide) (by rw [e14] <;> decide) (by rw [e14] <;> decide) (by decide) ?_
                refine sx_aload_n d_X11_count_119 0 rfl ?_
                refine sx_iconst d_X11_count_120 ic0 ?_
                refine sx_callV [.int (0 : Int32)] mv_X11_entries lM_StairCountModel_470 sh_255 (by omega) rfl rfl (Nat.le_of_ble_eq_true rfl) d_X11_count_121 (sp_X11_entries (d - 1) (by omega) (0 : Int32) h1) (fun r16 h15 => ?_)
                exact sx_iret rfl d_X11_count_124
              · refine sx_if (fun e17 => ?_) (fun e17 => ?_)
                · refine sx_tsIn (off := 119) (t := 125) d_X11_count_6 (by rw [e17] <;> decide) (by rw [e17] <;> decide) (by rw [e17] <;> decide) (by decide) ?_
                  refine sx_aload_n d_X11_count_125 0 rfl ?_
                  refine sx_aload_n d_X11_count_126 0 rfl ?_
                  refine sx_getF (a' := 279) fl_StairCountModel_84 sh_255 rfl rfl d_X11_count_127 ?_
                  refine sx_iconst d_X11_count_130 ic0 ?_
                  refine sx_callV [.ref 279, .int (0 : Int32)] mv_X11_sumOf lM_StairCountModel_466 sh_255 (by omega) rfl rfl (Nat.le_of_ble_eq_true rfl) d_X11_count_131 (sp_X11_sumOf (d - 1) (by omega) 279 (0 : Int32) h1) (fun r19 h18 => ?_)
                  exact sx_iret rfl d_X11_count_134
                · refine sx_if (fun e20 => ?_) (fun e20 => ?_)
                  · refine sx_tsIn (off := 129) (t := 135) d_X11_count_6 (by rw [e20] <;> decide) (by rw [e20] <;> decide) (by rw [e20] <;> decide) (by decide) ?_
                    refine sx_aload_n d_X11_count_135 0 rfl ?_
                    refine sx_aload_n d_X11_count_136 0 rfl ?_
                    refine sx_getF (a' := 280) fl_StairCountModel_87 sh_255 rfl rfl d_X11_count_137 ?_
                    refine sx_iconst d_X11_count_140 ic0 ?_
                    refine sx_callV [.ref 280, .int (0 : Int32)] mv_X11_sumOf lM_StairCountModel_466 sh_255 (by omega) rfl rfl (Nat.le_of_ble_eq_true rfl) d_X11_count_141 (sp_X11_sumOf (d - 1) (by omega) 280 (0 : Int32) h1) (fun r22 h21 => ?_)
                    exact sx_iret rfl d_X11_count_144
                  · refine sx_if (fun e23 => ?_) (fun e23 => ?_)
                    · refine sx_tsIn (off := 139) (t := 145) d_X11_count_6 (by rw [e23] <;> decide) (by rw [e23] <;> decide) (by rw [e23] <;> decide) (by decide) ?_
                      refine sx_aload_n d_X11_count_145 0 rfl ?_
                      refine sx_aload_n d_X11_count_146 0 rfl ?_
                      refine sx_getF (a' := 281) fl_StairCountModel_90 sh_255 rfl rfl d_X11_count_147 ?_
                      refine sx_iconst d_X11_count_150 ic0 ?_
                      refine sx_callV [.ref 281, .int (0 : Int32)] mv_X11_sumOf lM_StairCountModel_466 sh_255 (by omega) rfl rfl (Nat.le_of_ble_eq_true rfl) d_X11_count_151 (sp_X11_sumOf (d - 1) (by omega) 281 (0 : Int32) h1) (fun r25 h24 => ?_)
                      exact sx_iret rfl d_X11_count_154
                    · refine sx_if (fun e26 => ?_) (fun e26 => ?_)
                      · refine sx_tsIn (off := 149) (t := 155) d_X11_count_6 (by rw [e26] <;> decide) (by rw [e26] <;> decide) (by rw [e26] <;> decide) (by decide) ?_
                        refine sx_aload_n d_X11_count_155 0 rfl ?_
                        refine sx_aload_n d_X11_count_156 0 rfl ?_
                        refine sx_getF (a' := 278) fl_StairCountModel_81 sh_255 rfl rfl d_X11_count_157 ?_
                        refine sx_iconst d_X11_count_160 ic0 ?_
                        refine sx_callV [.ref 278, .int (0 : Int32)] mv_X11_sumOf lM_StairCountModel_466 sh_255 (by omega) rfl rfl (Nat.le_of_ble_eq_true rfl) d_X11_count_161 (sp_X11_sumOf (d - 1) (by omega) 278 (0 : Int32) h1) (fun r28 h27 => ?_)
                        exact sx_iret rfl d_X11_count_164
                      · refine sx_if (fun e29 => ?_) (fun e29 => ?_)
                        · refine sx_tsIn (off := 159) (t := 165) d_X11_count_6 (by rw [e29] <;> decide) (by rw [e29] <;> decide) (by rw [e29] <;> decide) (by decide) ?_
                          refine sx_aload_n d_X11_count_165 0 rfl ?_
                          refine sx_getI fl_StairCountModel_310 sh_255 rfl d_X11_count_166 (fun v30 => ?_)
                          exact sx_iret rfl d_X11_count_169
                        · refine sx_if (fun e31 => ?_) (fun e31 => ?_)
                          · refine sx_tsIn (off := 164) (t := 170) d_X11_count_6 (by rw [e31] <;> decide) (by rw [e31] <;> decide) (by rw [e31] <;> decide) (by decide) ?_
                            refine sx_aload_n d_X11_count_170 0 rfl ?_
                            refine sx_callV [] mv_X11_knownMany lM_StairCountModel_500 sh_255 (by omega) rfl rfl (Nat.le_of_ble_eq_true rfl) d_X11_count_171 (sp_X11_knownMany (d - 1) (by omega) h1) (fun r33 h32 => ?_)
                            exact sx_iret rfl d_X11_count_174
                          · refine sx_if (fun e34 => ?_) (fun e34 => ?_)
                            · refine sx_tsIn (off := 169) (t := 175) d_X11_count_6 (by rw [e34] <;> decide) (by rw [e34] <;> decide) (by rw [e34] <;> decide) (by decide) ?_
                              refine sx_aload_n d_X11_count_175 0 rfl ?_
                              refine sx_getI fl_StairCountModel_317 sh_255 rfl d_X11_count_176 (fun v35 => ?_)
                              exact sx_iret rfl d_X11_count_179
                            · have q0 := ne_toInt (x := a0) (c := (0 : Int32)) (k := 0) e2 ti0
                              have q1 := ne_toInt (x := a0) (c := (1 : Int32)) (k := 1) e4 ti1
                              have q2 := ne_toInt (x := a0) (c := (2 : Int32)) (k := 2) e6 ti2
                              have q3 := ne_toInt (x := a0) (c := (3 : Int32)) (k := 3) e8 ti3
                              have q4 := ne_toInt (x := a0) (c := (4 : Int32)) (k := 4) e10 ti4
                              have q5 := ne_toInt (x := a0) (c := (5 : Int32)) (k := 5) e12 ti5
                              have q6 := ne_toInt (x := a0) (c := (6 : Int32)) (k := 6) e14 ti6
                              have q7 := ne_toInt (x := a0) (c := (7 : Int32)) (k := 7) e17 ti7
                              have q8 := ne_toInt (x := a0) (c := (8 : Int32)) (k := 8) e20 ti8
                              have q9 := ne_toInt (x := a0) (c := (9 : Int32)) (k := 9) e23 ti9
                              have q10 := ne_toInt (x := a0) (c := (10 : Int32)) (k := 10) e26 ti10
                              have q11 := ne_toInt (x := a0) (c := (11 : Int32)) (k := 11) e29 ti11
                              have q12 := ne_toInt (x := a0) (c := (12 : Int32)) (k := 12) e31 ti12
                              have q13 := ne_toInt (x := a0) (c := (13 : Int32)) (k := 13) e34 ti13
                              refine sx_tsOut (t := 180) d_X11_count_6 (by omega) (by decide) ?_
                              refine sx_iconst d_X11_count_180 icm1 ?_
                              exact sx_iret rfl d_X11_count_181
