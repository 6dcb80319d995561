/-! walks: X6_readLaw, X6_readPerson, X6_readSeed, X6_readSlip, X6_readTally, X6_readLine, X8_isDigit, X8_put, X8_cutNumber, X8_doubleKind, X8_singleKind, X8_cutSign, X8_isLetter, X8_kindOf, X8_cutWord, X8_cut, X6_read, X7_tallies, X7_sumOf -/
theorem d_X6_readLaw_0 : DC mi_X6_readLaw 0 (.aload_n 0) 1 1 := ⟨by decide +kernel, rfl⟩
theorem d_X6_readLaw_1 : DC mi_X6_readLaw 1 (.invokevirtual 106) 3 4 := ⟨by decide +kernel, rfl⟩
theorem d_X6_readLaw_4 : DC mi_X6_readLaw 4 (.aload_n 0) 1 5 := ⟨by decide +kernel, rfl⟩
theorem d_X6_readLaw_5 : DC mi_X6_readLaw 5 (.invokevirtual 62) 3 8 := ⟨by decide +kernel, rfl⟩
theorem d_X6_readLaw_8 : DC mi_X6_readLaw 8 (.bipush 28) 2 10 := ⟨by decide +kernel, rfl⟩
theorem d_X6_readLaw_10 : DC mi_X6_readLaw 10 (.isub) 1 11 := ⟨by decide +kernel, rfl⟩
theorem d_X6_readLaw_11 : DC mi_X6_readLaw 11 (.istore_n 1) 1 12 := ⟨by decide +kernel, rfl⟩
theorem d_X6_readLaw_12 : DC mi_X6_readLaw 12 (.iload_n 1) 1 13 := ⟨by decide +kernel, rfl⟩
theorem d_X6_readLaw_13 : DB mi_X6_readLaw 13 (.ifCond .lt 8) 8 16 21 := ⟨by decide +kernel, rfl, by decide⟩
theorem d_X6_readLaw_16 : DC mi_X6_readLaw 16 (.iload_n 1) 1 17 := ⟨by decide +kernel, rfl⟩
theorem d_X6_readLaw_17 : DC mi_X6_readLaw 17 (.iconst 3) 1 18 := ⟨by decide +kernel, rfl⟩
theorem d_X6_readLaw_18 : DB mi_X6_readLaw 18 (.if_icmp .lt 9) 9 21 27 := ⟨by decide +kernel, rfl, by decide⟩
theorem d_X6_readLaw_21 : DC mi_X6_readLaw 21 (.aload_n 0) 1 22 := ⟨by decide +kernel, rfl⟩
theorem d_X6_readLaw_22 : DC mi_X6_readLaw 22 (.iconst 1) 1 23 := ⟨by decide +kernel, rfl⟩
theorem d_X6_readLaw_23 : DC mi_X6_readLaw 23 (.invokevirtual 103) 3 26 := ⟨by decide +kernel, rfl⟩
theorem d_X6_readLaw_26 : DC mi_X6_readLaw 26 (.return_) 1 27 := ⟨by decide +kernel, rfl⟩
theorem d_X6_readLaw_27 : DC mi_X6_readLaw 27 (.aload_n 0) 1 28 := ⟨by decide +kernel, rfl⟩
theorem d_X6_readLaw_28 : DC mi_X6_readLaw 28 (.getfield 25) 3 31 := ⟨by decide +kernel, rfl⟩
theorem d_X6_readLaw_31 : DC mi_X6_readLaw 31 (.getfield 193) 3 34 := ⟨by decide +kernel, rfl⟩
theorem d_X6_readLaw_34 : DC mi_X6_readLaw 34 (.iload_n 1) 1 35 := ⟨by decide +kernel, rfl⟩
theorem d_X6_readLaw_35 : DC mi_X6_readLaw 35 (.invokevirtual 197) 3 38 := ⟨by decide +kernel, rfl⟩
theorem d_X6_readLaw_38 : DB mi_X6_readLaw 38 (.ifCond .eq 9) 9 41 47 := ⟨by decide +kernel, rfl, by decide⟩
theorem d_X6_readLaw_41 : DC mi_X6_readLaw 41 (.aload_n 0) 1 42 := ⟨by decide +kernel, rfl⟩
theorem d_X6_readLaw_42 : DC mi_X6_readLaw 42 (.iconst 3) 1 43 := ⟨by decide +kernel, rfl⟩
theorem d_X6_readLaw_43 : DC mi_X6_readLaw 43 (.invokevirtual 103) 3 46 := ⟨by decide +kernel, rfl⟩
theorem d_X6_readLaw_46 : DC mi_X6_readLaw 46 (.return_) 1 47 := ⟨by decide +kernel, rfl⟩
theorem d_X6_readLaw_47 : DC mi_X6_readLaw 47 (.aload_n 0) 1 48 := ⟨by decide +kernel, rfl⟩
theorem d_X6_readLaw_48 : DC mi_X6_readLaw 48 (.invokevirtual 106) 3 51 := ⟨by decide +kernel, rfl⟩
theorem d_X6_readLaw_51 : DC mi_X6_readLaw 51 (.aload_n 0) 1 52 := ⟨by decide +kernel, rfl⟩
theorem d_X6_readLaw_52 : DC mi_X6_readLaw 52 (.getfield 25) 3 55 := ⟨by decide +kernel, rfl⟩
theorem d_X6_readLaw_55 : DC mi_X6_readLaw 55 (.getfield 193) 3 58 := ⟨by decide +kernel, rfl⟩
theorem d_X6_readLaw_58 : DC mi_X6_readLaw 58 (.getfield 203) 3 61 := ⟨by decide +kernel, rfl⟩
theorem d_X6_readLaw_61 : DC mi_X6_readLaw 61 (.iload_n 1) 1 62 := ⟨by decide +kernel, rfl⟩
theorem d_X6_readLaw_62 : DC mi_X6_readLaw 62 (.aload_n 0) 1 63 := ⟨by decide +kernel, rfl⟩
theorem d_X6_readLaw_63 : DC mi_X6_readLaw 63 (.getfield 25) 3 66 := ⟨by decide +kernel, rfl⟩
theorem d_X6_readLaw_66 : DC mi_X6_readLaw 66 (.getfield 193) 3 69 := ⟨by decide +kernel, rfl⟩
theorem d_X6_readLaw_69 : DC mi_X6_readLaw 69 (.getfield 206) 3 72 := ⟨by decide +kernel, rfl⟩
theorem d_X6_readLaw_72 : DC mi_X6_readLaw 72 (.iastore) 1 73 := ⟨by decide +kernel, rfl⟩
theorem d_X6_readLaw_73 : DC mi_X6_readLaw 73 (.aload_n 0) 1 74 := ⟨by decide +kernel, rfl⟩
theorem d_X6_readLaw_74 : DC mi_X6_readLaw 74 (.invokevirtual 209) 3 77 := ⟨by decide +kernel, rfl⟩
theorem d_X6_readLaw_77 : DC mi_X6_readLaw 77 (.aload_n 0) 1 78 := ⟨by decide +kernel, rfl⟩
theorem d_X6_readLaw_78 : DC mi_X6_readLaw 78 (.getfield 25) 3 81 := ⟨by decide +kernel, rfl⟩
theorem d_X6_readLaw_81 : DC mi_X6_readLaw 81 (.getfield 193) 3 84 := ⟨by decide +kernel, rfl⟩
theorem d_X6_readLaw_84 : DC mi_X6_readLaw 84 (.getfield 212) 3 87 := ⟨by decide +kernel, rfl⟩
theorem d_X6_readLaw_87 : DC mi_X6_readLaw 87 (.iload_n 1) 1 88 := ⟨by decide +kernel, rfl⟩
theorem d_X6_readLaw_88 : DC mi_X6_readLaw 88 (.aload_n 0) 1 89 := ⟨by decide +kernel, rfl⟩
theorem d_X6_readLaw_89 : DC mi_X6_readLaw 89 (.getfield 25) 3 92 := ⟨by decide +kernel, rfl⟩
theorem d_X6_readLaw_92 : DC mi_X6_readLaw 92 (.getfield 193) 3 95 := ⟨by decide +kernel, rfl⟩
theorem d_X6_readLaw_95 : DC mi_X6_readLaw 95 (.getfield 206) 3 98 := ⟨by decide +kernel, rfl⟩
theorem d_X6_readLaw_98 : DC mi_X6_readLaw 98 (.iastore) 1 99 := ⟨by decide +kernel, rfl⟩
theorem d_X6_readLaw_99 : DC mi_X6_readLaw 99 (.return_) 1 100 := ⟨by decide +kernel, rfl⟩
set_option maxHeartbeats 4000000 in
set_option maxRecDepth 100000 in
theorem sp_X6_readLaw (d : Nat) (hd : 4 ≤ d) (h : HH) : Sp mi_X6_readLaw d iU [.ref 24] h (g_X6_readLaw h) := by
  refine sp_of (lc := [(0, .ref 24)]) (by decide) (Nat.le_of_ble_eq_true rfl) rfl ?_
  unfold g_X6_readLaw
  refine sx_aload_n d_X6_readLaw_0 0 rfl ?_
  refine sx_callV [] mv_X6_advance lM_StairCount_Reader_106 sh_24 (by omega) rfl rfl (Nat.le_of_ble_eq_true rfl) d_X6_readLaw_1 (sp_X6_advance (d - 1) (by omega) h) (fun _ h1 => ?_)
  refine sx_aload_n d_X6_readLaw_4 0 rfl ?_
  refine sx_callV [] mv_X6_kind lM_StairCount_Reader_62 sh_24 (by omega) rfl rfl (Nat.le_of_ble_eq_true rfl) d_X6_readLaw_5 (sp_X6_kind (d - 1) (by omega) h1) (fun r4 h3 => ?_)
  refine sx_bipush d_X6_readLaw_8 bc28 ?_
  refine sx_isub d_X6_readLaw_10 ?_
  refine sx_vlI (fun v5 => ?_)
  refine sx_istore_n (i := 1) (lc' := [(1, .int v5), (0, .ref 24)]) d_X6_readLaw_11 rfl (by decide) rfl ?_
  refine sx_iload_n d_X6_readLaw_12 0 rfl ?_
  refine sx_jn (fun j => ∀  (h : HH), Sx mi_X6_readLaw d iU (j  h) 21 [(0, .ref 24)] [] h) ?_ ?_
  · intro  h8
    refine sx_aload_n d_X6_readLaw_21 0 rfl ?_
    refine sx_iconst d_X6_readLaw_22 ic1 ?_
    refine sx_callV [.int (1 : Int32)] mv_X6_fail lM_StairCount_Reader_103 sh_24 (by omega) rfl rfl (Nat.le_of_ble_eq_true rfl) d_X6_readLaw_23 (sp_X6_fail (d - 1) (by omega) (1 : Int32) h8) (fun _ h9 => ?_)
    exact sx_vret rfl d_X6_readLaw_26
  · intro j6 k7
    refine sx_if_lt d_X6_readLaw_13 ?_ ?_
    · refine sx_lc (lc' := [(0, .ref 24)]) [1] rfl ?_
      exact k7 h3
    · refine sx_iload_n d_X6_readLaw_16 0 rfl ?_
      refine sx_iconst d_X6_readLaw_17 ic3 ?_
      refine sx_icmp_lt d_X6_readLaw_18 ?_ ?_
      · refine sx_aload_n d_X6_readLaw_27 1 rfl ?_
        refine sx_getR fl_StairCount_Reader_25 sh_24 rfl d_X6_readLaw_28 (fun p11 => ?_)
        refine sx_ckH (fun ep11 => ?_)
        refine sx_getF (a' := (p11 + 11)) fl_StairCount_Reader_193 ep11 rfl rfl d_X6_readLaw_31 ?_
        refine sx_iload_n d_X6_readLaw_34 0 rfl ?_
        refine sx_callV [.int v5] mv_X2_hasLaw lM_StairCount_Reader_197 (shf_5_14 ep11) (by omega) rfl rfl (Nat.le_of_ble_eq_true rfl) d_X6_readLaw_35 (sp_X2_hasLaw (d - 1) (by omega) (p11 + 11) v5 h3) (fun r13 h12 => ?_)
        refine sx_if_eq d_X6_readLaw_38 ?_ ?_
        · refine sx_aload_n d_X6_readLaw_47 1 rfl ?_
          refine sx_callV [] mv_X6_advance lM_StairCount_Reader_106 sh_24 (by omega) rfl rfl (Nat.le_of_ble_eq_true rfl) d_X6_readLaw_48 (sp_X6_advance (d - 1) (by omega) h12) (fun _ h14 => ?_)
          refine sx_aload_n d_X6_readLaw_51 1 rfl ?_
          refine sx_getR fl_StairCount_Reader_25 sh_24 rfl d_X6_readLaw_52 (fun p16 => ?_)
          refine sx_ckH (fun ep16 => ?_)
          refine sx_getF (a' := (p16 + 11)) fl_StairCount_Reader_193 ep16 rfl rfl d_X6_readLaw_55 ?_
          refine sx_getF (a' := (p16 + 14)) fl_StairCount_Reader_203 (shf_5_14 ep16) rfl rfl d_X6_readLaw_58 ?_
          refine sx_iload_n d_X6_readLaw_61 0 rfl ?_
          refine sx_aload_n d_X6_readLaw_62 1 rfl ?_
          refine sx_getR fl_StairCount_Reader_25 sh_24 rfl d_X6_readLaw_63 (fun p17 => ?_)
          refine sx_ckH (fun ep17 => ?_)
          refine sx_getF (a' := (p17 + 11)) fl_StairCount_Reader_193 ep17 rfl rfl d_X6_readLaw_66 ?_
          refine sx_getI fl_StairCount_Reader_206 (shf_5_14 ep17) rfl d_X6_readLaw_69 (fun v18 => ?_)
          refine sx_iast (shf_2_3 (shf_5_14 ep16)) d_X6_readLaw_72 (fun h19 => ?_)
          refine sx_aload_n d_X6_readLaw_73 1 rfl ?_
          refine sx_callV [] mv_X6_readE lM_StairCount_Reader_209 sh_24 (by omega) rfl rfl (Nat.le_of_ble_eq_true rfl) d_X6_readLaw_74 (sp_X6_readE (d - 1) (by omega) h19) (fun _ h20 => ?_)
          refine sx_aload_n d_X6_readLaw_77 1 rfl ?_
          refine sx_getR fl_StairCount_Reader_25 sh_24 rfl d_X6_readLaw_78 (fun p22 => ?_)
          refine sx_ckH (fun ep22 => ?_)
          refine sx_getF (a' := (p22 + 11)) fl_StairCount_Reader_193 ep22 rfl rfl d_X6_readLaw_81 ?_
          refine sx_getF (a' := (p22 + 15)) fl_StairCount_Reader_212 (shf_5_14 ep22) rfl rfl d_X6_readLaw_84 ?_
          refine sx_iload_n d_X6_readLaw_87 0 rfl ?_
          refine sx_aload_n d_X6_readLaw_88 1 rfl ?_
          refine sx_getR fl_StairCount_Reader_25 sh_24 rfl d_X6_readLaw_89 (fun p23 => ?_)
          refine sx_ckH (fun ep23 => ?_)
          refine sx_getF (a' := (p23 + 11)) fl_StairCount_Reader_193 ep23 rfl rfl d_X6_readLaw_92 ?_
          refine sx_getI fl_StairCount_Reader_206 (shf_5_14 ep23) rfl d_X6_readLaw_95 (fun v24 => ?_)
          refine sx_iast (shf_2_4 (shf_5_14 ep22)) d_X6_readLaw_98 (fun h25 => ?_)
          exact sx_vret rfl d_X6_readLaw_99
        · refine sx_aload_n d_X6_readLaw_41 1 rfl ?_
          refine sx_iconst d_X6_readLaw_42 ic3 ?_
          refine sx_callV [.int (3 : Int32)] mv_X6_fail lM_StairCount_Reader_103 sh_24 (by omega) rfl rfl (Nat.le_of_ble_eq_true rfl) d_X6_readLaw_43 (sp_X6_fail (d - 1) (by omega) (3 : Int32) h12) (fun _ h26 => ?_)
          exact sx_vret rfl d_X6_readLaw_46
      · refine sx_lc (lc' := [(0, .ref 24)]) [1] rfl ?_
        exact k7 h3
theorem d_X6_readPerson_0 : DC mi_X6_readPerson 0 (.aload_n 0) 1 1 := ⟨by decide +kernel, rfl⟩
theorem d_X6_readPerson_1 : DC mi_X6_readPerson 1 (.aload_n 0) 1 2 := ⟨by decide +kernel, rfl⟩
theorem d_X6_readPerson_2 : DC mi_X6_readPerson 2 (.getfield 25) 3 5 := ⟨by decide +kernel, rfl⟩
theorem d_X6_readPerson_5 : DC mi_X6_readPerson 5 (.getfield 133) 3 8 := ⟨by decide +kernel, rfl⟩
theorem d_X6_readPerson_8 : DC mi_X6_readPerson 8 (.bipush 6) 2 10 := ⟨by decide +kernel, rfl⟩
theorem d_X6_readPerson_10 : DC mi_X6_readPerson 10 (.invokevirtual 123) 3 13 := ⟨by decide +kernel, rfl⟩
theorem d_X6_readPerson_13 : DC mi_X6_readPerson 13 (.aload_n 0) 1 14 := ⟨by decide +kernel, rfl⟩
theorem d_X6_readPerson_14 : DC mi_X6_readPerson 14 (.invokevirtual 109) 3 17 := ⟨by decide +kernel, rfl⟩
theorem d_X6_readPerson_17 : DC mi_X6_readPerson 17 (.istore_n 1) 1 18 := ⟨by decide +kernel, rfl⟩
theorem d_X6_readPerson_18 : DC mi_X6_readPerson 18 (.aload_n 0) 1 19 := ⟨by decide +kernel, rfl⟩
theorem d_X6_readPerson_19 : DC mi_X6_readPerson 19 (.invokevirtual 62) 3 22 := ⟨by decide +kernel, rfl⟩
theorem d_X6_readPerson_22 : DC mi_X6_readPerson 22 (.iconst 3) 1 23 := ⟨by decide +kernel, rfl⟩
theorem d_X6_readPerson_23 : DB mi_X6_readPerson 23 (.if_icmp .eq 11) 11 26 34 := ⟨by decide +kernel, rfl, by decide⟩
theorem d_X6_readPerson_26 : DC mi_X6_readPerson 26 (.aload_n 0) 1 27 := ⟨by decide +kernel, rfl⟩
theorem d_X6_readPerson_27 : DC mi_X6_readPerson 27 (.iconst 1) 1 28 := ⟨by decide +kernel, rfl⟩
theorem d_X6_readPerson_28 : DC mi_X6_readPerson 28 (.invokevirtual 103) 3 31 := ⟨by decide +kernel, rfl⟩
theorem d_X6_readPerson_31 : DB mi_X6_readPerson 31 (.goto 20) 20 34 51 := ⟨by decide +kernel, rfl, by decide⟩
theorem d_X6_readPerson_34 : DC mi_X6_readPerson 34 (.aload_n 0) 1 35 := ⟨by decide +kernel, rfl⟩
theorem d_X6_readPerson_35 : DC mi_X6_readPerson 35 (.getfield 25) 3 38 := ⟨by decide +kernel, rfl⟩
theorem d_X6_readPerson_38 : DC mi_X6_readPerson 38 (.iload_n 1) 1 39 := ⟨by decide +kernel, rfl⟩
theorem d_X6_readPerson_39 : DC mi_X6_readPerson 39 (.invokevirtual 116) 3 42 := ⟨by decide +kernel, rfl⟩
theorem d_X6_readPerson_42 : DC mi_X6_readPerson 42 (.iconst (-1)) 1 43 := ⟨by decide +kernel, rfl⟩
theorem d_X6_readPerson_43 : DB mi_X6_readPerson 43 (.if_icmp .eq 8) 8 46 51 := ⟨by decide +kernel, rfl, by decide⟩
theorem d_X6_readPerson_46 : DC mi_X6_readPerson 46 (.aload_n 0) 1 47 := ⟨by decide +kernel, rfl⟩
theorem d_X6_readPerson_47 : DC mi_X6_readPerson 47 (.iconst 3) 1 48 := ⟨by decide +kernel, rfl⟩
theorem d_X6_readPerson_48 : DC mi_X6_readPerson 48 (.invokevirtual 103) 3 51 := ⟨by decide +kernel, rfl⟩
theorem d_X6_readPerson_51 : DC mi_X6_readPerson 51 (.aload_n 0) 1 52 := ⟨by decide +kernel, rfl⟩
theorem d_X6_readPerson_52 : DC mi_X6_readPerson 52 (.invokevirtual 106) 3 55 := ⟨by decide +kernel, rfl⟩
theorem d_X6_readPerson_55 : DC mi_X6_readPerson 55 (.aload_n 0) 1 56 := ⟨by decide +kernel, rfl⟩
theorem d_X6_readPerson_56 : DC mi_X6_readPerson 56 (.iconst 0) 1 57 := ⟨by decide +kernel, rfl⟩
theorem d_X6_readPerson_57 : DC mi_X6_readPerson 57 (.aload_n 0) 1 58 := ⟨by decide +kernel, rfl⟩
theorem d_X6_readPerson_58 : DC mi_X6_readPerson 58 (.getfield 25) 3 61 := ⟨by decide +kernel, rfl⟩
theorem d_X6_readPerson_61 : DC mi_X6_readPerson 61 (.getfield 120) 3 64 := ⟨by decide +kernel, rfl⟩
theorem d_X6_readPerson_64 : DC mi_X6_readPerson 64 (.invokevirtual 127) 3 67 := ⟨by decide +kernel, rfl⟩
theorem d_X6_readPerson_67 : DC mi_X6_readPerson 67 (.istore_n 2) 1 68 := ⟨by decide +kernel, rfl⟩
theorem d_X6_readPerson_68 : DC mi_X6_readPerson 68 (.aload_n 0) 1 69 := ⟨by decide +kernel, rfl⟩
theorem d_X6_readPerson_69 : DC mi_X6_readPerson 69 (.iconst 0) 1 70 := ⟨by decide +kernel, rfl⟩
theorem d_X6_readPerson_70 : DC mi_X6_readPerson 70 (.bipush 99) 2 72 := ⟨by decide +kernel, rfl⟩
theorem d_X6_readPerson_72 : DC mi_X6_readPerson 72 (.invokevirtual 127) 3 75 := ⟨by decide +kernel, rfl⟩
theorem d_X6_readPerson_75 : DC mi_X6_readPerson 75 (.istore_n 3) 1 76 := ⟨by decide +kernel, rfl⟩
theorem d_X6_readPerson_76 : DC mi_X6_readPerson 76 (.aload_n 0) 1 77 := ⟨by decide +kernel, rfl⟩
theorem d_X6_readPerson_77 : DC mi_X6_readPerson 77 (.getfield 40) 3 80 := ⟨by decide +kernel, rfl⟩
theorem d_X6_readPerson_80 : DB mi_X6_readPerson 80 (.ifCond .ne 67) 67 83 147 := ⟨by decide +kernel, rfl, by decide⟩
theorem d_X6_readPerson_83 : DC mi_X6_readPerson 83 (.aload_n 0) 1 84 := ⟨by decide +kernel, rfl⟩
theorem d_X6_readPerson_84 : DC mi_X6_readPerson 84 (.getfield 25) 3 87 := ⟨by decide +kernel, rfl⟩
theorem d_X6_readPerson_87 : DC mi_X6_readPerson 87 (.getfield 136) 3 90 := ⟨by decide +kernel, rfl⟩
theorem d_X6_readPerson_90 : DC mi_X6_readPerson 90 (.aload_n 0) 1 91 := ⟨by decide +kernel, rfl⟩
theorem d_X6_readPerson_91 : DC mi_X6_readPerson 91 (.getfield 25) 3 94 := ⟨by decide +kernel, rfl⟩
theorem d_X6_readPerson_94 : DC mi_X6_readPerson 94 (.getfield 133) 3 97 := ⟨by decide +kernel, rfl⟩
theorem d_X6_readPerson_97 : DC mi_X6_readPerson 97 (.iload_n 1) 1 98 := ⟨by decide +kernel, rfl⟩
theorem d_X6_readPerson_98 : DC mi_X6_readPerson 98 (.iastore) 1 99 := ⟨by decide +kernel, rfl⟩
theorem d_X6_readPerson_99 : DC mi_X6_readPerson 99 (.aload_n 0) 1 100 := ⟨by decide +kernel, rfl⟩
theorem d_X6_readPerson_100 : DC mi_X6_readPerson 100 (.getfield 25) 3 103 := ⟨by decide +kernel, rfl⟩
theorem d_X6_readPerson_103 : DC mi_X6_readPerson 103 (.getfield 139) 3 106 := ⟨by decide +kernel, rfl⟩
theorem d_X6_readPerson_106 : DC mi_X6_readPerson 106 (.aload_n 0) 1 107 := ⟨by decide +kernel, rfl⟩
theorem d_X6_readPerson_107 : DC mi_X6_readPerson 107 (.getfield 25) 3 110 := ⟨by decide +kernel, rfl⟩
theorem d_X6_readPerson_110 : DC mi_X6_readPerson 110 (.getfield 133) 3 113 := ⟨by decide +kernel, rfl⟩
theorem d_X6_readPerson_113 : DC mi_X6_readPerson 113 (.iload_n 3) 1 114 := ⟨by decide +kernel, rfl⟩
theorem d_X6_readPerson_114 : DC mi_X6_readPerson 114 (.iastore) 1 115 := ⟨by decide +kernel, rfl⟩
theorem d_X6_readPerson_115 : DC mi_X6_readPerson 115 (.aload_n 0) 1 116 := ⟨by decide +kernel, rfl⟩
theorem d_X6_readPerson_116 : DC mi_X6_readPerson 116 (.getfield 25) 3 119 := ⟨by decide +kernel, rfl⟩
theorem d_X6_readPerson_119 : DC mi_X6_readPerson 119 (.getfield 142) 3 122 := ⟨by decide +kernel, rfl⟩
theorem d_X6_readPerson_122 : DC mi_X6_readPerson 122 (.getfield 146) 3 125 := ⟨by decide +kernel, rfl⟩
theorem d_X6_readPerson_125 : DC mi_X6_readPerson 125 (.aload_n 0) 1 126 := ⟨by decide +kernel, rfl⟩
theorem d_X6_readPerson_126 : DC mi_X6_readPerson 126 (.getfield 25) 3 129 := ⟨by decide +kernel, rfl⟩
theorem d_X6_readPerson_129 : DC mi_X6_readPerson 129 (.getfield 133) 3 132 := ⟨by decide +kernel, rfl⟩
theorem d_X6_readPerson_132 : DC mi_X6_readPerson 132 (.iload_n 2) 1 133 := ⟨by decide +kernel, rfl⟩
theorem d_X6_readPerson_133 : DC mi_X6_readPerson 133 (.iastore) 1 134 := ⟨by decide +kernel, rfl⟩
theorem d_X6_readPerson_134 : DC mi_X6_readPerson 134 (.aload_n 0) 1 135 := ⟨by decide +kernel, rfl⟩
theorem d_X6_readPerson_135 : DC mi_X6_readPerson 135 (.getfield 25) 3 138 := ⟨by decide +kernel, rfl⟩
theorem d_X6_readPerson_138 : DC mi_X6_readPerson 138 (.dup) 1 139 := ⟨by decide +kernel, rfl⟩
theorem d_X6_readPerson_139 : DC mi_X6_readPerson 139 (.getfield 133) 3 142 := ⟨by decide +kernel, rfl⟩
theorem d_X6_readPerson_142 : DC mi_X6_readPerson 142 (.iconst 1) 1 143 := ⟨by decide +kernel, rfl⟩
theorem d_X6_readPerson_143 : DC mi_X6_readPerson 143 (.iadd) 1 144 := ⟨by decide +kernel, rfl⟩
theorem d_X6_readPerson_144 : DC mi_X6_readPerson 144 (.putfield 133) 3 147 := ⟨by decide +kernel, rfl⟩
theorem d_X6_readPerson_147 : DC mi_X6_readPerson 147 (.return_) 1 148 := ⟨by decide +kernel, rfl⟩
set_option maxHeartbeats 4000000 in
set_option maxRecDepth 100000 in
theorem sp_X6_readPerson (d : Nat) (hd : 3 ≤ d) (h : HH) : Sp mi_X6_readPerson d iU [.ref 24] h (g_X6_readPerson h) := by
  refine sp_of (lc := [(0, .ref 24)]) (by decide) (Nat.le_of_ble_eq_true rfl) rfl ?_
  unfold g_X6_readPerson
  refine sx_aload_n d_X6_readPerson_0 0 rfl ?_
  refine sx_aload_n d_X6_readPerson_1 0 rfl ?_
  refine sx_getR fl_StairCount_Reader_25 sh_24 rfl d_X6_readPerson_2 (fun p1 => ?_)
  refine sx_ckH (fun ep1 => ?_)
  refine sx_getI fl_StairCount_Reader_133 ep1 rfl d_X6_readPerson_5 (fun v2 => ?_)
  refine sx_bipush d_X6_readPerson_8 bc6 ?_
  refine sx_callV [.int v2, .int (6 : Int32)] mv_X6_takeWord lM_StairCount_Reader_123 sh_24 (by omega) rfl rfl (Nat.le_of_ble_eq_true rfl) d_X6_readPerson_10 (sp_X6_takeWord (d - 1) (by omega) v2 (6 : Int32) h) (fun _ h3 => ?_)
  refine sx_aload_n d_X6_readPerson_13 0 rfl ?_
  refine sx_callV [] mv_X6_value lM_StairCount_Reader_109 sh_24 (by omega) rfl rfl (Nat.le_of_ble_eq_true rfl) d_X6_readPerson_14 (sp_X6_value (d - 1) (by omega) h3) (fun r6 h5 => ?_)
  refine sx_istore_n (i := 1) (lc' := [(1, .int r6), (0, .ref 24)]) d_X6_readPerson_17 rfl (by decide) rfl ?_
  refine sx_aload_n d_X6_readPerson_18 1 rfl ?_
  refine sx_callV [] mv_X6_kind lM_StairCount_Reader_62 sh_24 (by omega) rfl rfl (Nat.le_of_ble_eq_true rfl) d_X6_readPerson_19 (sp_X6_kind (d - 1) (by omega) h5) (fun r8 h7 => ?_)
  refine sx_iconst d_X6_readPerson_22 ic3 ?_
  refine sx_jn (fun j => ∀  (h : HH), Sx mi_X6_readPerson d iU (j  h) 51 [(0, .ref 24), (1, .int r6)] [] h) ?_ ?_
  · intro  h11
    refine sx_aload_n d_X6_readPerson_51 0 rfl ?_
    refine sx_callV [] mv_X6_advance lM_StairCount_Reader_106 sh_24 (by omega) rfl rfl (Nat.le_of_ble_eq_true rfl) d_X6_readPerson_52 (sp_X6_advance (d - 1) (by omega) h11) (fun _ h12 => ?_)
    refine sx_aload_n d_X6_readPerson_55 0 rfl ?_
    refine sx_iconst d_X6_readPerson_56 ic0 ?_
    refine sx_aload_n d_X6_readPerson_57 0 rfl ?_
    refine sx_getR fl_StairCount_Reader_25 sh_24 rfl d_X6_readPerson_58 (fun p14 => ?_)
    refine sx_ckH (fun ep14 => ?_)
    refine sx_getI fl_StairCount_Reader_120 ep14 rfl d_X6_readPerson_61 (fun v15 => ?_)
    refine sx_callV [.int (0 : Int32), .int v15] mv_X6_number lM_StairCount_Reader_127 sh_24 (by omega) rfl rfl (Nat.le_of_ble_eq_true rfl) d_X6_readPerson_64 (sp_X6_number (d - 1) (by omega) (0 : Int32) v15 h12) (fun r17 h16 => ?_)
    refine sx_istore_n (i := 2) (lc' := [(2, .int r17), (0, .ref 24), (1, .int r6)]) d_X6_readPerson_67 rfl (by decide) rfl ?_
    refine sx_aload_n d_X6_readPerson_68 1 rfl ?_
    refine sx_iconst d_X6_readPerson_69 ic0 ?_
    refine sx_bipush d_X6_readPerson_70 bc99 ?_
    refine sx_callV [.int (0 : Int32), .int (99 : Int32)] mv_X6_number lM_StairCount_Reader_127 sh_24 (by omega) rfl rfl (Nat.le_of_ble_eq_true rfl) d_X6_readPerson_72 (sp_X6_number (d - 1) (by omega) (0 : Int32) (99 : Int32) h16) (fun r19 h18 => ?_)
    refine sx_istore_n (i := 3) (lc' := [(3, .int r19), (2, .int r17), (0, .ref 24), (1, .int r6)]) d_X6_readPerson_75 rfl (by decide) rfl ?_
    refine sx_aload_n d_X6_readPerson_76 2 rfl ?_
    refine sx_getI fl_StairCount_Reader_40 sh_24 rfl d_X6_readPerson_77 (fun v20 => ?_)
    refine sx_if_ne d_X6_readPerson_80 ?_ ?_
    · refine sx_aload_n d_X6_readPerson_83 2 rfl ?_
      refine sx_getR fl_StairCount_Reader_25 sh_24 rfl d_X6_readPerson_84 (fun p21 => ?_)
      refine sx_ckH (fun ep21 => ?_)
      refine sx_getF (a' := (p21 + 2)) fl_StairCount_Reader_136 ep21 rfl rfl d_X6_readPerson_87 ?_
      refine sx_aload_n d_X6_readPerson_90 2 rfl ?_
      refine sx_getR fl_StairCount_Reader_25 sh_24 rfl d_X6_readPerson_91 (fun p22 => ?_)
      refine sx_ckH (fun ep22 => ?_)
      refine sx_getI fl_StairCount_Reader_133 ep22 rfl d_X6_readPerson_94 (fun v23 => ?_)
      refine sx_iload_n d_X6_readPerson_97 3 rfl ?_
      refine sx_iast (shf_5_3 ep21) d_X6_readPerson_98 (fun h24 => ?_)
      refine sx_aload_n d_X6_readPerson_99 2 rfl ?_
      refine sx_getR fl_StairCount_Reader_25 sh_24 rfl d_X6_readPerson_100 (fun p25 => ?_)
      refine sx_ckH (fun ep25 => ?_)
      refine sx_getF (a' := (p25 + 3)) fl_StairCount_Reader_139 ep25 rfl rfl d_X6_readPerson_103 ?_
      refine sx_aload_n d_X6_readPerson_106 2 rfl ?_
      refine sx_getR fl_StairCount_Reader_25 sh_24 rfl d_X6_readPerson_107 (fun p26 => ?_)
      refine sx_ckH (fun ep26 => ?_)
      refine sx_getI fl_StairCount_Reader_133 ep26 rfl d_X6_readPerson_110 (fun v27 => ?_)
      refine sx_iload_n d_X6_readPerson_113 0 rfl ?_
      refine sx_iast (shf_5_4 ep25) d_X6_readPerson_114 (fun h28 => ?_)
      refine sx_aload_n d_X6_readPerson_115 2 rfl ?_
      refine sx_getR fl_StairCount_Reader_25 sh_24 rfl d_X6_readPerson_116 (fun p29 => ?_)
      refine sx_ckH (fun ep29 => ?_)
      refine sx_getF (a' := (p29 + 16)) fl_StairCount_Reader_142 ep29 rfl rfl d_X6_readPerson_119 ?_
      refine sx_getF (a' := (p29 + 17)) fl_StairCount_Reader_146 (shf_5_16 ep29) rfl rfl d_X6_readPerson_122 ?_
      refine sx_aload_n d_X6_readPerson_125 2 rfl ?_
      refine sx_getR fl_StairCount_Reader_25 sh_24 rfl d_X6_readPerson_126 (fun p30 => ?_)
      refine sx_ckH (fun ep30 => ?_)
      refine sx_getI fl_StairCount_Reader_133 ep30 rfl d_X6_readPerson_129 (fun v31 => ?_)
      refine sx_iload_n d_X6_readPerson_132 1 rfl ?_
      refine sx_iast (shf_7_0 (shf_5_16 ep29)) d_X6_readPerson_133 (fun h32 => ?_)
      refine sx_aload_n d_X6_readPerson_134 2 rfl ?_
      refine sx_getR fl_StairCount_Reader_25 sh_24 rfl d_X6_readPerson_135 (fun p33 => ?_)
      refine sx_ckH (fun ep33 => ?_)
      refine sx_dup d_X6_readPerson_138 rfl ?_
      refine sx_getI fl_StairCount_Reader_133 ep33 rfl d_X6_readPerson_139 (fun v34 => ?_)
      refine sx_iconst d_X6_readPerson_142 ic1 ?_
      refine sx_iadd d_X6_readPerson_143 ?_
      refine sx_putI fl_StairCount_Reader_133 ep33 rfl hty_5_2 d_X6_readPerson_144 (fun h35 => ?_)
      exact sx_vret rfl d_X6_readPerson_147
    · exact sx_vret rfl d_X6_readPerson_147
  · intro j9 k10
    refine sx_icmp_eq d_X6_readPerson_23 ?_ ?_
    · refine sx_aload_n d_X6_readPerson_34 1 rfl ?_
      refine sx_getR fl_StairCount_Reader_25 sh_24 rfl d_X6_readPerson_35 (fun p36 => ?_)
      refine sx_ckH (fun ep36 => ?_)
      refine sx_iload_n d_X6_readPerson_38 0 rfl ?_
      refine sx_callV [.int r6] mv_X5_personOf lM_StairCount_Reader_116 ep36 (by omega) rfl rfl (Nat.le_of_ble_eq_true rfl) d_X6_readPerson_39 (sp_X5_personOf (d - 1) (by omega) p36 r6 h7) (fun r38 h37 => ?_)
      refine sx_iconst d_X6_readPerson_42 icm1 ?_
      refine sx_icmp_eq d_X6_readPerson_43 ?_ ?_
      · refine sx_lc (lc' := [(0, .ref 24), (1, .int r6)]) [1, 0] rfl ?_
        exact k10 h37
      · refine sx_aload_n d_X6_readPerson_46 1 rfl ?_
        refine sx_iconst d_X6_readPerson_47 ic3 ?_
        refine sx_callV [.int (3 : Int32)] mv_X6_fail lM_StairCount_Reader_103 sh_24 (by omega) rfl rfl (Nat.le_of_ble_eq_true rfl) d_X6_readPerson_48 (sp_X6_fail (d - 1) (by omega) (3 : Int32) h37) (fun _ h39 => ?_)
        refine sx_lc (lc' := [(0, .ref 24), (1, .int r6)]) [1, 0] rfl ?_
        exact k10 h39
    · refine sx_aload_n d_X6_readPerson_26 1 rfl ?_
      refine sx_iconst d_X6_readPerson_27 ic1 ?_
      refine sx_callV [.int (1 : Int32)] mv_X6_fail lM_StairCount_Reader_103 sh_24 (by omega) rfl rfl (Nat.le_of_ble_eq_true rfl) d_X6_readPerson_28 (sp_X6_fail (d - 1) (by omega) (1 : Int32) h7) (fun _ h41 => ?_)
      refine sx_goto d_X6_readPerson_31 ?_
      refine sx_lc (lc' := [(0, .ref 24), (1, .int r6)]) [1, 0] rfl ?_
      exact k10 h41
theorem d_X6_readSeed_0 : DC mi_X6_readSeed 0 (.aload_n 0) 1 1 := ⟨by decide +kernel, rfl⟩
theorem d_X6_readSeed_1 : DC mi_X6_readSeed 1 (.getfield 53) 3 4 := ⟨by decide +kernel, rfl⟩
theorem d_X6_readSeed_4 : DB mi_X6_readSeed 4 (.ifCond .eq 8) 8 7 12 := ⟨by decide +kernel, rfl, by decide⟩
theorem d_X6_readSeed_7 : DC mi_X6_readSeed 7 (.aload_n 0) 1 8 := ⟨by decide +kernel, rfl⟩
theorem d_X6_readSeed_8 : DC mi_X6_readSeed 8 (.iconst 3) 1 9 := ⟨by decide +kernel, rfl⟩
theorem d_X6_readSeed_9 : DC mi_X6_readSeed 9 (.invokevirtual 103) 3 12 := ⟨by decide +kernel, rfl⟩
theorem d_X6_readSeed_12 : DC mi_X6_readSeed 12 (.aload_n 0) 1 13 := ⟨by decide +kernel, rfl⟩
theorem d_X6_readSeed_13 : DC mi_X6_readSeed 13 (.iconst 1) 1 14 := ⟨by decide +kernel, rfl⟩
theorem d_X6_readSeed_14 : DC mi_X6_readSeed 14 (.putfield 53) 3 17 := ⟨by decide +kernel, rfl⟩
theorem d_X6_readSeed_17 : DC mi_X6_readSeed 17 (.aload_n 0) 1 18 := ⟨by decide +kernel, rfl⟩
theorem d_X6_readSeed_18 : DC mi_X6_readSeed 18 (.invokevirtual 106) 3 21 := ⟨by decide +kernel, rfl⟩
theorem d_X6_readSeed_21 : DC mi_X6_readSeed 21 (.aload_n 0) 1 22 := ⟨by decide +kernel, rfl⟩
theorem d_X6_readSeed_22 : DC mi_X6_readSeed 22 (.getfield 25) 3 25 := ⟨by decide +kernel, rfl⟩
theorem d_X6_readSeed_25 : DC mi_X6_readSeed 25 (.getfield 142) 3 28 := ⟨by decide +kernel, rfl⟩
theorem d_X6_readSeed_28 : DC mi_X6_readSeed 28 (.aload_n 0) 1 29 := ⟨by decide +kernel, rfl⟩
theorem d_X6_readSeed_29 : DC mi_X6_readSeed 29 (.iconst 0) 1 30 := ⟨by decide +kernel, rfl⟩
theorem d_X6_readSeed_30 : DC mi_X6_readSeed 30 (.ldc 190) 2 32 := ⟨by decide +kernel, rfl⟩
theorem d_X6_readSeed_32 : DC mi_X6_readSeed 32 (.invokevirtual 127) 3 35 := ⟨by decide +kernel, rfl⟩
theorem d_X6_readSeed_35 : DC mi_X6_readSeed 35 (.putfield 191) 3 38 := ⟨by decide +kernel, rfl⟩
theorem d_X6_readSeed_38 : DC mi_X6_readSeed 38 (.return_) 1 39 := ⟨by decide +kernel, rfl⟩
set_option maxHeartbeats 4000000 in
set_option maxRecDepth 100000 in
theorem sp_X6_readSeed (d : Nat) (hd : 3 ≤ d) (h : HH) : Sp mi_X6_readSeed d iU [.ref 24] h (g_X6_readSeed h) := by
  refine sp_of (lc := [(0, .ref 24)]) (by decide) (Nat.le_of_ble_eq_true rfl) rfl ?_
  unfold g_X6_readSeed
  refine sx_aload_n d_X6_readSeed_0 0 rfl ?_
  refine sx_getI fl_StairCount_Reader_53 sh_24 rfl d_X6_readSeed_1 (fun v1 => ?_)
  refine sx_jn (fun j => ∀  (h : HH), Sx mi_X6_readSeed d iU (j  h) 12 [(0, .ref 24)] [] h) ?_ ?_
  · intro  h4
    refine sx_aload_n d_X6_readSeed_12 0 rfl ?_
    refine sx_iconst d_X6_readSeed_13 ic1 ?_
    refine sx_putZ (by decide) fl_StairCount_Reader_53 sh_24 rfl hty_6_8 d_X6_readSeed_14 (fun h5 => ?_)
    refine sx_aload_n d_X6_readSeed_17 0 rfl ?_
    refine sx_callV [] mv_X6_advance lM_StairCount_Reader_106 sh_24 (by omega) rfl rfl (Nat.le_of_ble_eq_true rfl) d_X6_readSeed_18 (sp_X6_advance (d - 1) (by omega) h5) (fun _ h6 => ?_)
    refine sx_aload_n d_X6_readSeed_21 0 rfl ?_
    refine sx_getR fl_StairCount_Reader_25 sh_24 rfl d_X6_readSeed_22 (fun p8 => ?_)
    refine sx_ckH (fun ep8 => ?_)
    refine sx_getF (a' := (p8 + 16)) fl_StairCount_Reader_142 ep8 rfl rfl d_X6_readSeed_25 ?_
    refine sx_aload_n d_X6_readSeed_28 0 rfl ?_
    refine sx_iconst d_X6_readSeed_29 ic0 ?_
    refine sx_ldc d_X6_readSeed_30 lK_StairCount_Reader_190 ?_
    refine sx_callV [.int (0 : Int32), .int (99999 : Int32)] mv_X6_number lM_StairCount_Reader_127 sh_24 (by omega) rfl rfl (Nat.le_of_ble_eq_true rfl) d_X6_readSeed_32 (sp_X6_number (d - 1) (by omega) (0 : Int32) (99999 : Int32) h6) (fun r10 h9 => ?_)
    refine sx_putI fl_StairCount_Reader_191 (shf_5_16 ep8) rfl hty_7_6 d_X6_readSeed_35 (fun h11 => ?_)
    exact sx_vret rfl d_X6_readSeed_38
  · intro j2 k3
    refine sx_if_eq d_X6_readSeed_4 ?_ ?_
    · exact k3 h
    · refine sx_aload_n d_X6_readSeed_7 0 rfl ?_
      refine sx_iconst d_X6_readSeed_8 ic3 ?_
      refine sx_callV [.int (3 : Int32)] mv_X6_fail lM_StairCount_Reader_103 sh_24 (by omega) rfl rfl (Nat.le_of_ble_eq_true rfl) d_X6_readSeed_9 (sp_X6_fail (d - 1) (by omega) (3 : Int32) h) (fun _ h12 => ?_)
      exact k3 h12
theorem d_X6_readSlip_0 : DC mi_X6_readSlip 0 (.aload_n 0) 1 1 := ⟨by decide +kernel, rfl⟩
theorem d_X6_readSlip_1 : DC mi_X6_readSlip 1 (.getfield 50) 3 4 := ⟨by decide +kernel, rfl⟩
theorem d_X6_readSlip_4 : DB mi_X6_readSlip 4 (.ifCond .eq 8) 8 7 12 := ⟨by decide +kernel, rfl, by decide⟩
theorem d_X6_readSlip_7 : DC mi_X6_readSlip 7 (.aload_n 0) 1 8 := ⟨by decide +kernel, rfl⟩
theorem d_X6_readSlip_8 : DC mi_X6_readSlip 8 (.iconst 3) 1 9 := ⟨by decide +kernel, rfl⟩
theorem d_X6_readSlip_9 : DC mi_X6_readSlip 9 (.invokevirtual 103) 3 12 := ⟨by decide +kernel, rfl⟩
theorem d_X6_readSlip_12 : DC mi_X6_readSlip 12 (.aload_n 0) 1 13 := ⟨by decide +kernel, rfl⟩
theorem d_X6_readSlip_13 : DC mi_X6_readSlip 13 (.iconst 1) 1 14 := ⟨by decide +kernel, rfl⟩
theorem d_X6_readSlip_14 : DC mi_X6_readSlip 14 (.putfield 50) 3 17 := ⟨by decide +kernel, rfl⟩
theorem d_X6_readSlip_17 : DC mi_X6_readSlip 17 (.aload_n 0) 1 18 := ⟨by decide +kernel, rfl⟩
theorem d_X6_readSlip_18 : DC mi_X6_readSlip 18 (.invokevirtual 106) 3 21 := ⟨by decide +kernel, rfl⟩
theorem d_X6_readSlip_21 : DC mi_X6_readSlip 21 (.aload_n 0) 1 22 := ⟨by decide +kernel, rfl⟩
theorem d_X6_readSlip_22 : DC mi_X6_readSlip 22 (.getfield 25) 3 25 := ⟨by decide +kernel, rfl⟩
theorem d_X6_readSlip_25 : DC mi_X6_readSlip 25 (.aload_n 0) 1 26 := ⟨by decide +kernel, rfl⟩
theorem d_X6_readSlip_26 : DC mi_X6_readSlip 26 (.iconst 0) 1 27 := ⟨by decide +kernel, rfl⟩
theorem d_X6_readSlip_27 : DC mi_X6_readSlip 27 (.bipush 100) 2 29 := ⟨by decide +kernel, rfl⟩
theorem d_X6_readSlip_29 : DC mi_X6_readSlip 29 (.invokevirtual 127) 3 32 := ⟨by decide +kernel, rfl⟩
theorem d_X6_readSlip_32 : DC mi_X6_readSlip 32 (.putfield 187) 3 35 := ⟨by decide +kernel, rfl⟩
theorem d_X6_readSlip_35 : DC mi_X6_readSlip 35 (.return_) 1 36 := ⟨by decide +kernel, rfl⟩
set_option maxHeartbeats 4000000 in
set_option maxRecDepth 100000 in
theorem sp_X6_readSlip (d : Nat) (hd : 3 ≤ d) (h : HH) : Sp mi_X6_readSlip d iU [.ref 24] h (g_X6_readSlip h) := by
  refine sp_of (lc := [(0, .ref 24)]) (by decide) (Nat.le_of_ble_eq_true rfl) rfl ?_
  unfold g_X6_readSlip
  refine sx_aload_n d_X6_readSlip_0 0 rfl ?_
  refine sx_getI fl_StairCount_Reader_50 sh_24 rfl d_X6_readSlip_1 (fun v1 => ?_)
  refine sx_jn (fun j => ∀  (h : HH), Sx mi_X6_readSlip d iU (j  h) 12 [(0, .ref 24)] [] h) ?_ ?_
  · intro  h4
    refine sx_aload_n d_X6_readSlip_12 0 rfl ?_
    refine sx_iconst d_X6_readSlip_13 ic1 ?_
    refine sx_putZ (by decide) fl_StairCount_Reader_50 sh_24 rfl hty_6_7 d_X6_readSlip_14 (fun h5 => ?_)
    refine sx_aload_n d_X6_readSlip_17 0 rfl ?_
    refine sx_callV [] mv_X6_advance lM_StairCount_Reader_106 sh_24 (by omega) rfl rfl (Nat.le_of_ble_eq_true rfl) d_X6_readSlip_18 (sp_X6_advance (d - 1) (by omega) h5) (fun _ h6 => ?_)
    refine sx_aload_n d_X6_readSlip_21 0 rfl ?_
    refine sx_getR fl_StairCount_Reader_25 sh_24 rfl d_X6_readSlip_22 (fun p8 => ?_)
    refine sx_ckH (fun ep8 => ?_)
    refine sx_aload_n d_X6_readSlip_25 0 rfl ?_
    refine sx_iconst d_X6_readSlip_26 ic0 ?_
    refine sx_bipush d_X6_readSlip_27 bc100 ?_
    refine sx_callV [.int (0 : Int32), .int (100 : Int32)] mv_X6_number lM_StairCount_Reader_127 sh_24 (by omega) rfl rfl (Nat.le_of_ble_eq_true rfl) d_X6_readSlip_29 (sp_X6_number (d - 1) (by omega) (0 : Int32) (100 : Int32) h6) (fun r10 h9 => ?_)
    refine sx_putI fl_StairCount_Reader_187 ep8 rfl hty_5_15 d_X6_readSlip_32 (fun h11 => ?_)
    exact sx_vret rfl d_X6_readSlip_35
  · intro j2 k3
    refine sx_if_eq d_X6_readSlip_4 ?_ ?_
    · exact k3 h
    · refine sx_aload_n d_X6_readSlip_7 0 rfl ?_
      refine sx_iconst d_X6_readSlip_8 ic3 ?_
      refine sx_callV [.int (3 : Int32)] mv_X6_fail lM_StairCount_Reader_103 sh_24 (by omega) rfl rfl (Nat.le_of_ble_eq_true rfl) d_X6_readSlip_9 (sp_X6_fail (d - 1) (by omega) (3 : Int32) h) (fun _ h12 => ?_)
      exact k3 h12
theorem d_X6_readTally_0 : DC mi_X6_readTally 0 (.aload_n 0) 1 1 := ⟨by decide +kernel, rfl⟩
theorem d_X6_readTally_1 : DC mi_X6_readTally 1 (.invokevirtual 106) 3 4 := ⟨by decide +kernel, rfl⟩
theorem d_X6_readTally_4 : DC mi_X6_readTally 4 (.aload_n 0) 1 5 := ⟨by decide +kernel, rfl⟩
theorem d_X6_readTally_5 : DC mi_X6_readTally 5 (.invokevirtual 151) 3 8 := ⟨by decide +kernel, rfl⟩
theorem d_X6_readTally_8 : DC mi_X6_readTally 8 (.istore_n 2) 1 9 := ⟨by decide +kernel, rfl⟩
theorem d_X6_readTally_9 : DC mi_X6_readTally 9 (.aload_n 0) 1 10 := ⟨by decide +kernel, rfl⟩
theorem d_X6_readTally_10 : DC mi_X6_readTally 10 (.iconst 0) 1 11 := ⟨by decide +kernel, rfl⟩
theorem d_X6_readTally_11 : DC mi_X6_readTally 11 (.aload_n 0) 1 12 := ⟨by decide +kernel, rfl⟩
theorem d_X6_readTally_12 : DC mi_X6_readTally 12 (.getfield 25) 3 15 := ⟨by decide +kernel, rfl⟩
theorem d_X6_readTally_15 : DC mi_X6_readTally 15 (.getfield 120) 3 18 := ⟨by decide +kernel, rfl⟩
theorem d_X6_readTally_18 : DC mi_X6_readTally 18 (.iconst 1) 1 19 := ⟨by decide +kernel, rfl⟩
theorem d_X6_readTally_19 : DC mi_X6_readTally 19 (.isub) 1 20 := ⟨by decide +kernel, rfl⟩
theorem d_X6_readTally_20 : DC mi_X6_readTally 20 (.invokevirtual 112) 3 23 := ⟨by decide +kernel, rfl⟩
theorem d_X6_readTally_23 : DC mi_X6_readTally 23 (.istore_n 3) 1 24 := ⟨by decide +kernel, rfl⟩
theorem d_X6_readTally_24 : DC mi_X6_readTally 24 (.aload_n 0) 1 25 := ⟨by decide +kernel, rfl⟩
theorem d_X6_readTally_25 : DC mi_X6_readTally 25 (.getfield 40) 3 28 := ⟨by decide +kernel, rfl⟩
theorem d_X6_readTally_28 : DB mi_X6_readTally 28 (.ifCond .ne 27) 27 31 55 := ⟨by decide +kernel, rfl, by decide⟩
theorem d_X6_readTally_31 : DC mi_X6_readTally 31 (.aload_n 0) 1 32 := ⟨by decide +kernel, rfl⟩
theorem d_X6_readTally_32 : DC mi_X6_readTally 32 (.getfield 25) 3 35 := ⟨by decide +kernel, rfl⟩
theorem d_X6_readTally_35 : DC mi_X6_readTally 35 (.getfield 142) 3 38 := ⟨by decide +kernel, rfl⟩
theorem d_X6_readTally_38 : DC mi_X6_readTally 38 (.getfield 154) 3 41 := ⟨by decide +kernel, rfl⟩
theorem d_X6_readTally_41 : DC mi_X6_readTally 41 (.iload_n 2) 1 42 := ⟨by decide +kernel, rfl⟩
theorem d_X6_readTally_42 : DC mi_X6_readTally 42 (.iload_n 3) 1 43 := ⟨by decide +kernel, rfl⟩
theorem d_X6_readTally_43 : DC mi_X6_readTally 43 (.invokestatic 157) 3 46 := ⟨by decide +kernel, rfl⟩
theorem d_X6_readTally_46 : DC mi_X6_readTally 46 (.iaload) 1 47 := ⟨by decide +kernel, rfl⟩
theorem d_X6_readTally_47 : DB mi_X6_readTally 47 (.ifCond .eq 8) 8 50 55 := ⟨by decide +kernel, rfl, by decide⟩
theorem d_X6_readTally_50 : DC mi_X6_readTally 50 (.aload_n 0) 1 51 := ⟨by decide +kernel, rfl⟩
theorem d_X6_readTally_51 : DC mi_X6_readTally 51 (.iconst 3) 1 52 := ⟨by decide +kernel, rfl⟩
theorem d_X6_readTally_52 : DC mi_X6_readTally 52 (.invokevirtual 103) 3 55 := ⟨by decide +kernel, rfl⟩
theorem d_X6_readTally_55 : DC mi_X6_readTally 55 (.aload_n 0) 1 56 := ⟨by decide +kernel, rfl⟩
theorem d_X6_readTally_56 : DC mi_X6_readTally 56 (.invokevirtual 106) 3 59 := ⟨by decide +kernel, rfl⟩
theorem d_X6_readTally_59 : DC mi_X6_readTally 59 (.aload_n 0) 1 60 := ⟨by decide +kernel, rfl⟩
theorem d_X6_readTally_60 : DC mi_X6_readTally 60 (.iconst 1) 1 61 := ⟨by decide +kernel, rfl⟩
theorem d_X6_readTally_61 : DC mi_X6_readTally 61 (.bipush 9) 2 63 := ⟨by decide +kernel, rfl⟩
theorem d_X6_readTally_63 : DC mi_X6_readTally 63 (.invokevirtual 127) 3 66 := ⟨by decide +kernel, rfl⟩
theorem d_X6_readTally_66 : DC mi_X6_readTally 66 (.istore 4) 2 68 := ⟨by decide +kernel, rfl⟩
theorem d_X6_readTally_68 : DC mi_X6_readTally 68 (.aload_n 0) 1 69 := ⟨by decide +kernel, rfl⟩
theorem d_X6_readTally_69 : DC mi_X6_readTally 69 (.getfield 40) 3 72 := ⟨by decide +kernel, rfl⟩
theorem d_X6_readTally_72 : DB mi_X6_readTally 72 (.ifCond .ne 23) 23 75 95 := ⟨by decide +kernel, rfl, by decide⟩
theorem d_X6_readTally_75 : DC mi_X6_readTally 75 (.aload_n 0) 1 76 := ⟨by decide +kernel, rfl⟩
theorem d_X6_readTally_76 : DC mi_X6_readTally 76 (.getfield 25) 3 79 := ⟨by decide +kernel, rfl⟩
theorem d_X6_readTally_79 : DC mi_X6_readTally 79 (.getfield 142) 3 82 := ⟨by decide +kernel, rfl⟩
theorem d_X6_readTally_82 : DC mi_X6_readTally 82 (.getfield 154) 3 85 := ⟨by decide +kernel, rfl⟩
theorem d_X6_readTally_85 : DC mi_X6_readTally 85 (.iload_n 2) 1 86 := ⟨by decide +kernel, rfl⟩
theorem d_X6_readTally_86 : DC mi_X6_readTally 86 (.iload_n 3) 1 87 := ⟨by decide +kernel, rfl⟩
theorem d_X6_readTally_87 : DC mi_X6_readTally 87 (.invokestatic 157) 3 90 := ⟨by decide +kernel, rfl⟩
theorem d_X6_readTally_90 : DC mi_X6_readTally 90 (.iload_n 1) 1 91 := ⟨by decide +kernel, rfl⟩
theorem d_X6_readTally_91 : DC mi_X6_readTally 91 (.iload 4) 2 93 := ⟨by decide +kernel, rfl⟩
theorem d_X6_readTally_93 : DC mi_X6_readTally 93 (.imul) 1 94 := ⟨by decide +kernel, rfl⟩
theorem d_X6_readTally_94 : DC mi_X6_readTally 94 (.iastore) 1 95 := ⟨by decide +kernel, rfl⟩
theorem d_X6_readTally_95 : DC mi_X6_readTally 95 (.return_) 1 96 := ⟨by decide +kernel, rfl⟩
set_option maxHeartbeats 4000000 in
set_option maxRecDepth 100000 in
theorem sp_X6_readTally (d : Nat) (hd : 3 ≤ d) (a0 : Int32) (h : HH) : Sp mi_X6_readTally d iU [.ref 24, .int a0] h (g_X6_readTally a0 h) := by
  refine sp_of (lc := [(0, .ref 24), (1, .int a0)]) (by decide) (Nat.le_of_ble_eq_true rfl) rfl ?_
  unfold g_X6_readTally
  refine sx_aload_n d_X6_readTally_0 0 rfl ?_
  refine sx_callV [] mv_X6_advance lM_StairCount_Reader_106 sh_24 (by omega) rfl rfl (Nat.le_of_ble_eq_true rfl) d_X6_readTally_1 (sp_X6_advance (d - 1) (by omega) h) (fun _ h1 => ?_)
  refine sx_aload_n d_X6_readTally_4 0 rfl ?_
  refine sx_callV [] mv_X6_knownPerson lM_StairCount_Reader_151 sh_24 (by omega) rfl rfl (Nat.le_of_ble_eq_true rfl) d_X6_readTally_5 (sp_X6_knownPerson (d - 1) (by omega) h1) (fun r4 h3 => ?_)
  refine sx_istore_n (i := 2) (lc' := [(2, .int r4), (0, .ref 24), (1, .int a0)]) d_X6_readTally_8 rfl (by decide) rfl ?_
  refine sx_aload_n d_X6_readTally_9 1 rfl ?_
  refine sx_iconst d_X6_readTally_10 ic0 ?_
  refine sx_aload_n d_X6_readTally_11 1 rfl ?_
  refine sx_getR fl_StairCount_Reader_25 sh_24 rfl d_X6_readTally_12 (fun p5 => ?_)
  refine sx_ckH (fun ep5 => ?_)
  refine sx_getI fl_StairCount_Reader_120 ep5 rfl d_X6_readTally_15 (fun v6 => ?_)
  refine sx_iconst d_X6_readTally_18 ic1 ?_
  refine sx_isub d_X6_readTally_19 ?_
  refine sx_callV [.int (0 : Int32), .int (v6 - (1 : Int32))] mv_X6_look lM_StairCount_Reader_112 sh_24 (by omega) rfl rfl (Nat.le_of_ble_eq_true rfl) d_X6_readTally_20 (sp_X6_look (d - 1) (by omega) (0 : Int32) (v6 - (1 : Int32)) h3) (fun r8 h7 => ?_)
  refine sx_istore_n (i := 3) (lc' := [(3, .int r8), (2, .int r4), (0, .ref 24), (1, .int a0)]) d_X6_readTally_23 rfl (by decide) rfl ?_
  refine sx_aload_n d_X6_readTally_24 2 rfl ?_
  refine sx_getI fl_StairCount_Reader_40 sh_24 rfl d_X6_readTally_25 (fun v9 => ?_)
  refine sx_jn (fun j => ∀  (h : HH), Sx mi_X6_readTally d iU (j  h) 55 [(0, .ref 24), (1, .int a0), (2, .int r4), (3, .int r8)] [] h) ?_ ?_
  · intro  h12
    refine sx_aload_n d_X6_readTally_55 0 rfl ?_
    refine sx_callV [] mv_X6_advance lM_StairCount_Reader_106 sh_24 (by omega) rfl rfl (Nat.le_of_ble_eq_true rfl) d_X6_readTally_56 (sp_X6_advance (d - 1) (by omega) h12) (fun _ h13 => ?_)
    refine sx_aload_n d_X6_readTally_59 0 rfl ?_
    refine sx_iconst d_X6_readTally_60 ic1 ?_
    refine sx_bipush d_X6_readTally_61 bc9 ?_
    refine sx_callV [.int (1 : Int32), .int (9 : Int32)] mv_X6_number lM_StairCount_Reader_127 sh_24 (by omega) rfl rfl (Nat.le_of_ble_eq_true rfl) d_X6_readTally_63 (sp_X6_number (d - 1) (by omega) (1 : Int32) (9 : Int32) h13) (fun r16 h15 => ?_)
    refine sx_istore (i := 4) (lc' := [(4, .int r16), (0, .ref 24), (1, .int a0), (2, .int r4), (3, .int r8)]) d_X6_readTally_66 (by decide) rfl ?_
    refine sx_aload_n d_X6_readTally_68 1 rfl ?_
    refine sx_getI fl_StairCount_Reader_40 sh_24 rfl d_X6_readTally_69 (fun v17 => ?_)
    refine sx_if_ne d_X6_readTally_72 ?_ ?_
    · refine sx_aload_n d_X6_readTally_75 1 rfl ?_
      refine sx_getR fl_StairCount_Reader_25 sh_24 rfl d_X6_readTally_76 (fun p18 => ?_)
      refine sx_ckH (fun ep18 => ?_)
      refine sx_getF (a' := (p18 + 16)) fl_StairCount_Reader_142 ep18 rfl rfl d_X6_readTally_79 ?_
      refine sx_getF (a' := (p18 + 21)) fl_StairCount_Reader_154 (shf_5_16 ep18) rfl rfl d_X6_readTally_82 ?_
      refine sx_iload_n d_X6_readTally_85 3 rfl ?_
      refine sx_iload_n d_X6_readTally_86 4 rfl ?_
      refine sx_callSN [.int r4, .int r8] ms_X10_cell lM_StairCount_Reader_157 (by omega) rfl rfl (Nat.le_of_ble_eq_true rfl) d_X6_readTally_87 (sp_X10_cell (d - 1) (by omega) r4 r8 h15) (fun r20 h19 => ?_)
      refine sx_iload_n d_X6_readTally_90 2 rfl ?_
      refine sx_iload d_X6_readTally_91 0 rfl ?_
      refine sx_imul d_X6_readTally_93 ?_
      refine sx_iast (shf_7_4 (shf_5_16 ep18)) d_X6_readTally_94 (fun h21 => ?_)
      exact sx_vret rfl d_X6_readTally_95
    · exact sx_vret rfl d_X6_readTally_95
  · intro j10 k11
    refine sx_if_ne d_X6_readTally_28 ?_ ?_
    · refine sx_aload_n d_X6_readTally_31 2 rfl ?_
      refine sx_getR fl_StairCount_Reader_25 sh_24 rfl d_X6_readTally_32 (fun p22 => ?_)
      refine sx_ckH (fun ep22 => ?_)
      refine sx_getF (a' := (p22 + 16)) fl_StairCount_Reader_142 ep22 rfl rfl d_X6_readTally_35 ?_
      refine sx_getF (a' := (p22 + 21)) fl_StairCount_Reader_154 (shf_5_16 ep22) rfl rfl d_X6_readTally_38 ?_
      refine sx_iload_n d_X6_readTally_41 1 rfl ?_
      refine sx_iload_n d_X6_readTally_42 0 rfl ?_
      refine sx_callSN [.int r4, .int r8] ms_X10_cell lM_StairCount_Reader_157 (by omega) rfl rfl (Nat.le_of_ble_eq_true rfl) d_X6_readTally_43 (sp_X10_cell (d - 1) (by omega) r4 r8 h7) (fun r24 h23 => ?_)
      refine sx_iald (shf_7_4 (shf_5_16 ep22)) d_X6_readTally_46 (fun v25 => ?_)
      refine sx_if_eq d_X6_readTally_47 ?_ ?_
      · refine sx_lc (lc' := [(0, .ref 24), (1, .int a0), (2, .int r4), (3, .int r8)]) [2, 3, 1, 0] rfl ?_
        exact k11 h23
      · refine sx_aload_n d_X6_readTally_50 2 rfl ?_
        refine sx_iconst d_X6_readTally_51 ic3 ?_
        refine sx_callV [.int (3 : Int32)] mv_X6_fail lM_StairCount_Reader_103 sh_24 (by omega) rfl rfl (Nat.le_of_ble_eq_true rfl) d_X6_readTally_52 (sp_X6_fail (d - 1) (by omega) (3 : Int32) h23) (fun _ h26 => ?_)
        refine sx_lc (lc' := [(0, .ref 24), (1, .int a0), (2, .int r4), (3, .int r8)]) [2, 3, 1, 0] rfl ?_
        exact k11 h26
    · refine sx_lc (lc' := [(0, .ref 24), (1, .int a0), (2, .int r4), (3, .int r8)]) [2, 3, 1, 0] rfl ?_
      exact k11 h7
theorem d_X6_readLine_0 : DC mi_X6_readLine 0 (.aload_n 0) 1 1 := ⟨by decide +kernel, rfl⟩
theorem d_X6_readLine_1 : DC mi_X6_readLine 1 (.invokevirtual 62) 3 4 := ⟨by decide +kernel, rfl⟩
theorem d_X6_readLine_4 : DC mi_X6_readLine 4 (.istore_n 1) 1 5 := ⟨by decide +kernel, rfl⟩
theorem d_X6_readLine_5 : DC mi_X6_readLine 5 (.iload_n 1) 1 6 := ⟨by decide +kernel, rfl⟩
theorem d_X6_readLine_6 : DC mi_X6_readLine 6 (.bipush 18) 2 8 := ⟨by decide +kernel, rfl⟩
theorem d_X6_readLine_8 : DB mi_X6_readLine 8 (.if_icmp .lt 14) 14 11 22 := ⟨by decide +kernel, rfl, by decide⟩
theorem d_X6_readLine_11 : DC mi_X6_readLine 11 (.iload_n 1) 1 12 := ⟨by decide +kernel, rfl⟩
theorem d_X6_readLine_12 : DC mi_X6_readLine 12 (.bipush 24) 2 14 := ⟨by decide +kernel, rfl⟩
theorem d_X6_readLine_14 : DB mi_X6_readLine 14 (.if_icmp .gt 8) 8 17 22 := ⟨by decide +kernel, rfl, by decide⟩
theorem d_X6_readLine_17 : DC mi_X6_readLine 17 (.aload_n 0) 1 18 := ⟨by decide +kernel, rfl⟩
theorem d_X6_readLine_18 : DC mi_X6_readLine 18 (.iconst 1) 1 19 := ⟨by decide +kernel, rfl⟩
theorem d_X6_readLine_19 : DC mi_X6_readLine 19 (.putfield 46) 3 22 := ⟨by decide +kernel, rfl⟩
theorem d_X6_readLine_22 : DC mi_X6_readLine 22 (.iload_n 1) 1 23 := ⟨by decide +kernel, rfl⟩
theorem d_X6_readLine_23 : DW mi_X6_readLine 23 (.tableswitch 125 17 27 #[57, 64, 71, 71, 89, 96, 96, 96, 104, 111, 118]) := ⟨57, by decide +kernel⟩
theorem d_X6_readLine_80 : DC mi_X6_readLine 80 (.aload_n 0) 1 81 := ⟨by decide +kernel, rfl⟩
theorem d_X6_readLine_81 : DC mi_X6_readLine 81 (.invokevirtual 78) 3 84 := ⟨by decide +kernel, rfl⟩
theorem d_X6_readLine_84 : DB mi_X6_readLine 84 (.goto 69) 69 87 153 := ⟨by decide +kernel, rfl, by decide⟩
theorem d_X6_readLine_87 : DC mi_X6_readLine 87 (.aload_n 0) 1 88 := ⟨by decide +kernel, rfl⟩
theorem d_X6_readLine_88 : DC mi_X6_readLine 88 (.invokevirtual 81) 3 91 := ⟨by decide +kernel, rfl⟩
theorem d_X6_readLine_91 : DB mi_X6_readLine 91 (.goto 62) 62 94 153 := ⟨by decide +kernel, rfl, by decide⟩
theorem d_X6_readLine_94 : DC mi_X6_readLine 94 (.aload_n 0) 1 95 := ⟨by decide +kernel, rfl⟩
theorem d_X6_readLine_95 : DC mi_X6_readLine 95 (.iload_n 1) 1 96 := ⟨by decide +kernel, rfl⟩
theorem d_X6_readLine_96 : DC mi_X6_readLine 96 (.bipush 19) 2 98 := ⟨by decide +kernel, rfl⟩
theorem d_X6_readLine_98 : DB mi_X6_readLine 98 (.if_icmp .ne 7) 7 101 105 := ⟨by decide +kernel, rfl, by decide⟩
theorem d_X6_readLine_101 : DC mi_X6_readLine 101 (.iconst 1) 1 102 := ⟨by decide +kernel, rfl⟩
theorem d_X6_readLine_102 : DB mi_X6_readLine 102 (.goto 4) 4 105 106 := ⟨by decide +kernel, rfl, by decide⟩
theorem d_X6_readLine_105 : DC mi_X6_readLine 105 (.iconst (-1)) 1 106 := ⟨by decide +kernel, rfl⟩
theorem d_X6_readLine_106 : DC mi_X6_readLine 106 (.invokevirtual 84) 3 109 := ⟨by decide +kernel, rfl⟩
theorem d_X6_readLine_109 : DB mi_X6_readLine 109 (.goto 44) 44 112 153 := ⟨by decide +kernel, rfl, by decide⟩
theorem d_X6_readLine_112 : DC mi_X6_readLine 112 (.aload_n 0) 1 113 := ⟨by decide +kernel, rfl⟩
theorem d_X6_readLine_113 : DC mi_X6_readLine 113 (.invokevirtual 88) 3 116 := ⟨by decide +kernel, rfl⟩
theorem d_X6_readLine_116 : DB mi_X6_readLine 116 (.goto 37) 37 119 153 := ⟨by decide +kernel, rfl, by decide⟩
theorem d_X6_readLine_119 : DC mi_X6_readLine 119 (.aload_n 0) 1 120 := ⟨by decide +kernel, rfl⟩
theorem d_X6_readLine_120 : DC mi_X6_readLine 120 (.iload_n 1) 1 121 := ⟨by decide +kernel, rfl⟩
theorem d_X6_readLine_121 : DC mi_X6_readLine 121 (.invokevirtual 91) 3 124 := ⟨by decide +kernel, rfl⟩
theorem d_X6_readLine_124 : DB mi_X6_readLine 124 (.goto 29) 29 127 153 := ⟨by decide +kernel, rfl, by decide⟩
theorem d_X6_readLine_127 : DC mi_X6_readLine 127 (.aload_n 0) 1 128 := ⟨by decide +kernel, rfl⟩
theorem d_X6_readLine_128 : DC mi_X6_readLine 128 (.invokevirtual 94) 3 131 := ⟨by decide +kernel, rfl⟩
theorem d_X6_readLine_131 : DB mi_X6_readLine 131 (.goto 22) 22 134 153 := ⟨by decide +kernel, rfl, by decide⟩
theorem d_X6_readLine_134 : DC mi_X6_readLine 134 (.aload_n 0) 1 135 := ⟨by decide +kernel, rfl⟩
theorem d_X6_readLine_135 : DC mi_X6_readLine 135 (.invokevirtual 97) 3 138 := ⟨by decide +kernel, rfl⟩
theorem d_X6_readLine_138 : DB mi_X6_readLine 138 (.goto 15) 15 141 153 := ⟨by decide +kernel, rfl, by decide⟩
theorem d_X6_readLine_141 : DC mi_X6_readLine 141 (.aload_n 0) 1 142 := ⟨by decide +kernel, rfl⟩
theorem d_X6_readLine_142 : DC mi_X6_readLine 142 (.invokevirtual 100) 3 145 := ⟨by decide +kernel, rfl⟩
theorem d_X6_readLine_145 : DB mi_X6_readLine 145 (.goto 8) 8 148 153 := ⟨by decide +kernel, rfl, by decide⟩
theorem d_X6_readLine_148 : DC mi_X6_readLine 148 (.aload_n 0) 1 149 := ⟨by decide +kernel, rfl⟩
theorem d_X6_readLine_149 : DC mi_X6_readLine 149 (.iconst 1) 1 150 := ⟨by decide +kernel, rfl⟩
theorem d_X6_readLine_150 : DC mi_X6_readLine 150 (.invokevirtual 103) 3 153 := ⟨by decide +kernel, rfl⟩
theorem d_X6_readLine_153 : DC mi_X6_readLine 153 (.aload_n 0) 1 154 := ⟨by decide +kernel, rfl⟩
theorem d_X6_readLine_154 : DC mi_X6_readLine 154 (.getfield 40) 3 157 := ⟨by decide +kernel, rfl⟩
theorem d_X6_readLine_157 : DB mi_X6_readLine 157 (.ifCond .ne 16) 16 160 173 := ⟨by decide +kernel, rfl, by decide⟩
theorem d_X6_readLine_160 : DC mi_X6_readLine 160 (.aload_n 0) 1 161 := ⟨by decide +kernel, rfl⟩
theorem d_X6_readLine_161 : DC mi_X6_readLine 161 (.invokevirtual 62) 3 164 := ⟨by decide +kernel, rfl⟩
theorem d_X6_readLine_164 : DC mi_X6_readLine 164 (.iconst 4) 1 165 := ⟨by decide +kernel, rfl⟩
theorem d_X6_readLine_165 : DB mi_X6_readLine 165 (.if_icmp .eq 8) 8 168 173 := ⟨by decide +kernel, rfl, by decide⟩
theorem d_X6_readLine_168 : DC mi_X6_readLine 168 (.aload_n 0) 1 169 := ⟨by decide +kernel, rfl⟩
theorem d_X6_readLine_169 : DC mi_X6_readLine 169 (.iconst 1) 1 170 := ⟨by decide +kernel, rfl⟩
theorem d_X6_readLine_170 : DC mi_X6_readLine 170 (.invokevirtual 103) 3 173 := ⟨by decide +kernel, rfl⟩
theorem d_X6_readLine_173 : DC mi_X6_readLine 173 (.aload_n 0) 1 174 := ⟨by decide +kernel, rfl⟩
theorem d_X6_readLine_174 : DC mi_X6_readLine 174 (.invokevirtual 106) 3 177 := ⟨by decide +kernel, rfl⟩
theorem d_X6_readLine_177 : DC mi_X6_readLine 177 (.return_) 1 178 := ⟨by decide +kernel, rfl⟩
set_option maxHeartbeats 4000000 in
set_option maxRecDepth 100000 in
theorem sp_X6_readLine (d : Nat) (hd : 5 ≤ d) (h : HH) : Sp mi_X6_readLine d iU [.ref 24] h (g_X6_readLine h) := by
  refine sp_of (lc := [(0, .ref 24)]) (by decide) (Nat.le_of_ble_eq_true rfl) rfl ?_
  unfold g_X6_readLine
  refine sx_aload_n d_X6_readLine_0 0 rfl ?_
  refine sx_callV [] mv_X6_kind lM_StairCount_Reader_62 sh_24 (by omega) rfl rfl (Nat.le_of_ble_eq_true rfl) d_X6_readLine_1 (sp_X6_kind (d - 1) (by omega) h) (fun r2 h1 => ?_)
  refine sx_istore_n (i := 1) (lc' := [(1, .int r2), (0, .ref 24)]) d_X6_readLine_4 rfl (by decide) rfl ?_
  refine sx_iload_n d_X6_readLine_5 0 rfl ?_
  refine sx_bipush d_X6_readLine_6 bc18 ?_
  refine sx_jn (fun j => ∀  (h : HH), Sx mi_X6_readLine d iU (j  h) 22 [(0, .ref 24), (1, .int r2)] [] h) ?_ ?_
  · intro  h5
    refine sx_iload_n d_X6_readLine_22 1 rfl ?_
    refine sx_jn (fun j => ∀  (h : HH), Sx mi_X6_readLine d iU (j  h) 153 [(0, .ref 24)] [] h) ?_ ?_
    · intro  h8
      refine sx_aload_n d_X6_readLine_153 0 rfl ?_
      refine sx_getI fl_StairCount_Reader_40 sh_24 rfl d_X6_readLine_154 (fun v9 => ?_)
      refine sx_jn (fun j => ∀  (h : HH), Sx mi_X6_readLine d iU (j  h) 173 [(0, .ref 24)] [] h) ?_ ?_
      · intro  h12
        refine sx_aload_n d_X6_readLine_173 0 rfl ?_
        refine sx_callV [] mv_X6_advance lM_StairCount_Reader_106 sh_24 (by omega) rfl rfl (Nat.le_of_ble_eq_true rfl) d_X6_readLine_174 (sp_X6_advance (d - 1) (by omega) h12) (fun _ h13 => ?_)
        exact sx_vret rfl d_X6_readLine_177
      · intro j10 k11
        refine sx_if_ne d_X6_readLine_157 ?_ ?_
        · refine sx_aload_n d_X6_readLine_160 0 rfl ?_
          refine sx_callV [] mv_X6_kind lM_StairCount_Reader_62 sh_24 (by omega) rfl rfl (Nat.le_of_ble_eq_true rfl) d_X6_readLine_161 (sp_X6_kind (d - 1) (by omega) h8) (fun r16 h15 => ?_)
          refine sx_iconst d_X6_readLine_164 ic4 ?_
          refine sx_icmp_eq d_X6_readLine_165 ?_ ?_
          · exact k11 h15
          · refine sx_aload_n d_X6_readLine_168 0 rfl ?_
            refine sx_iconst d_X6_readLine_169 ic1 ?_
            refine sx_callV [.int (1 : Int32)] mv_X6_fail lM_StairCount_Reader_103 sh_24 (by omega) rfl rfl (Nat.le_of_ble_eq_true rfl) d_X6_readLine_170 (sp_X6_fail (d - 1) (by omega) (1 : Int32) h15) (fun _ h17 => ?_)
            exact k11 h17
        · exact k11 h8
    · intro j6 k7
      refine sx_if (fun e19 => ?_) (fun e19 => ?_)
      · refine sx_tsIn (off := 57) (t := 80) d_X6_readLine_23 (by rw [e19] <;> decide) (by rw [e19] <;> decide) (by rw [e19] <;> decide) (by decide) ?_
        refine sx_aload_n d_X6_readLine_80 0 rfl ?_
        refine sx_callV [] mv_X6_readFlight lM_StairCount_Reader_78 sh_24 (by omega) rfl rfl (Nat.le_of_ble_eq_true rfl) d_X6_readLine_81 (sp_X6_readFlight (d - 1) (by omega) h5) (fun _ h20 => ?_)
        refine sx_goto d_X6_readLine_84 ?_
        refine sx_lc (lc' := [(0, .ref 24)]) [0] rfl ?_
        exact k7 h20
      · refine sx_if (fun e22 => ?_) (fun e22 => ?_)
        · refine sx_tsIn (off := 64) (t := 87) d_X6_readLine_23 (by rw [e22] <;> decide) (by rw [e22] <;> decide) (by rw [e22] <;> decide) (by decide) ?_
          refine sx_aload_n d_X6_readLine_87 0 rfl ?_
          refine sx_callV [] mv_X6_readPerson lM_StairCount_Reader_81 sh_24 (by omega) rfl rfl (Nat.le_of_ble_eq_true rfl) d_X6_readLine_88 (sp_X6_readPerson (d - 1) (by omega) h5) (fun _ h23 => ?_)
          refine sx_goto d_X6_readLine_91 ?_
          refine sx_lc (lc' := [(0, .ref 24)]) [0] rfl ?_
          exact k7 h23
        · refine sx_if (fun e25 => ?_) (fun e25 => ?_)
          · refine sx_tsIn (off := 71) (t := 94) d_X6_readLine_23 (by rcases e25 with e25 | e25 <;> rw [e25] <;> decide) (by rcases e25 with e25 | e25 <;> rw [e25] <;> decide) (by rcases e25 with e25 | e25 <;> rw [e25] <;> decide) (by decide) ?_
            refine sx_aload_n d_X6_readLine_94 0 rfl ?_
            refine sx_iload_n d_X6_readLine_95 1 rfl ?_
            refine sx_bipush d_X6_readLine_96 bc19 ?_
            refine sx_jn (fun j => ∀ (y29 : Int32) (h : HH), Sx mi_X6_readLine d iU (j y29 h) 106 [(0, .ref 24)] [.int y29, .ref 24] h) ?_ ?_
            · intro y29 h28
              refine sx_callV [.int y29] mv_X6_readTally lM_StairCount_Reader_84 sh_24 (by omega) rfl rfl (Nat.le_of_ble_eq_true rfl) d_X6_readLine_106 (sp_X6_readTally (d - 1) (by omega) y29 h28) (fun _ h30 => ?_)
              refine sx_goto d_X6_readLine_109 ?_
              exact k7 h30
            · intro j26 k27
              refine sx_icmp_ne d_X6_readLine_98 ?_ ?_
              · refine sx_iconst d_X6_readLine_101 ic1 ?_
                refine sx_goto d_X6_readLine_102 ?_
                refine sx_lc (lc' := [(0, .ref 24)]) [0] rfl ?_
                exact k27 (1 : Int32) h5
              · refine sx_iconst d_X6_readLine_105 icm1 ?_
                refine sx_lc (lc' := [(0, .ref 24)]) [0] rfl ?_
                exact k27 (-1 : Int32) h5
          · refine sx_if (fun e32 => ?_) (fun e32 => ?_)
            · refine sx_tsIn (off := 89) (t := 112) d_X6_readLine_23 (by rw [e32] <;> decide) (by rw [e32] <;> decide) (by rw [e32] <;> decide) (by decide) ?_
              refine sx_aload_n d_X6_readLine_112 0 rfl ?_
              refine sx_callV [] mv_X6_readLadder lM_StairCount_Reader_88 sh_24 (by omega) rfl rfl (Nat.le_of_ble_eq_true rfl) d_X6_readLine_113 (sp_X6_readLadder (d - 1) (by omega) h5) (fun _ h33 => ?_)
              refine sx_goto d_X6_readLine_116 ?_
              refine sx_lc (lc' := [(0, .ref 24)]) [0] rfl ?_
              exact k7 h33
            · refine sx_if (fun e35 => ?_) (fun e35 => ?_)
              · refine sx_tsIn (off := 96) (t := 119) d_X6_readLine_23 (by rcases e35 with e35 | e35 | e35 <;> rw [e35] <;> decide) (by rcases e35 with e35 | e35 | e35 <;> rw [e35] <;> decide) (by rcases e35 with e35 | e35 | e35 <;> rw [e35] <;> decide) (by decide) ?_
                refine sx_aload_n d_X6_readLine_119 0 rfl ?_
                refine sx_iload_n d_X6_readLine_120 1 rfl ?_
                refine sx_callV [.int r2] mv_X6_readGoing lM_StairCount_Reader_91 sh_24 (by omega) rfl rfl (Nat.le_of_ble_eq_true rfl) d_X6_readLine_121 (sp_X6_readGoing (d - 1) (by omega) r2 h5) (fun _ h36 => ?_)
                refine sx_goto d_X6_readLine_124 ?_
                refine sx_lc (lc' := [(0, .ref 24)]) [0] rfl ?_
                exact k7 h36
              · refine sx_if (fun e38 => ?_) (fun e38 => ?_)
                · refine sx_tsIn (off := 104) (t := 127) d_X6_readLine_23 (by rw [e38] <;> decide) (by rw [e38] <;> decide) (by rw [e38] <;> decide) (by decide) ?_
                  refine sx_aload_n d_X6_readLine_127 0 rfl ?_
                  refine sx_callV [] mv_X6_readSlip lM_StairCount_Reader_94 sh_24 (by omega) rfl rfl (Nat.le_of_ble_eq_true rfl) d_X6_readLine_128 (sp_X6_readSlip (d - 1) (by omega) h5) (fun _ h39 => ?_)
                  refine sx_goto d_X6_readLine_131 ?_
                  refine sx_lc (lc' := [(0, .ref 24)]) [0] rfl ?_
                  exact k7 h39
                · refine sx_if (fun e41 => ?_) (fun e41 => ?_)
                  · refine sx_tsIn (off := 111) (t := 134) d_X6_readLine_23 (by rw [e41] <;> decide) (by rw [e41] <;> decide) (by rw [e41] <;> decide) (by decide) ?_
                    refine sx_aload_n d_X6_readLine_134 0 rfl ?_
                    refine sx_callV [] mv_X6_readSeed lM_StairCount_Reader_97 sh_24 (by omega) rfl rfl (Nat.le_of_ble_eq_true rfl) d_X6_readLine_135 (sp_X6_readSeed (d - 1) (by omega) h5) (fun _ h42 => ?_)
                    refine sx_goto d_X6_readLine_138 ?_
                    refine sx_lc (lc' := [(0, .ref 24)]) [0] rfl ?_
                    exact k7 h42
                  · refine sx_if (fun e44 => ?_) (fun e44 => ?_)
                    · refine sx_tsIn (off := 118) (t := 141) d_X6_readLine_23 (by rw [e44] <;> decide) (by rw [e44] <;> decide) (by rw [e44] <;> decide) (by decide) ?_
                      refine sx_aload_n d_X6_readLine_141 0 rfl ?_
                      refine sx_callV [] mv_X6_readLaw lM_StairCount_Reader_100 sh_24 (by omega) rfl rfl (Nat.le_of_ble_eq_true rfl) d_X6_readLine_142 (sp_X6_readLaw (d - 1) (by omega) h5) (fun _ h45 => ?_)
                      refine sx_goto d_X6_readLine_145 ?_
                      refine sx_lc (lc' := [(0, .ref 24)]) [0] rfl ?_
                      exact k7 h45
                    · have q17 := ne_toInt (x := r2) (c := (17 : Int32)) (k := 17) e19 ti17
                      have q18 := ne_toInt (x := r2) (c := (18 : Int32)) (k := 18) e22 ti18
                      have q19 := ne_toInt (x := r2) (c := (19 : Int32)) (k := 19) (fun e => e25 (by simp [e])) ti19
                      have q20 := ne_toInt (x := r2) (c := (20 : Int32)) (k := 20) (fun e => e25 (by simp [e])) ti20
                      have q21 := ne_toInt (x := r2) (c := (21 : Int32)) (k := 21) e32 ti21
                      have q22 := ne_toInt (x := r2) (c := (22 : Int32)) (k := 22) (fun e => e35 (by simp [e])) ti22
                      have q23 := ne_toInt (x := r2) (c := (23 : Int32)) (k := 23) (fun e => e35 (by simp [e])) ti23
                      have q24 := ne_toInt (x := r2) (c := (24 : Int32)) (k := 24) (fun e => e35 (by simp [e])) ti24
                      have q25 := ne_toInt (x := r2) (c := (25 : Int32)) (k := 25) e38 ti25
                      have q26 := ne_toInt (x := r2) (c := (26 : Int32)) (k := 26) e41 ti26
                      have q27 := ne_toInt (x := r2) (c := (27 : Int32)) (k := 27) e44 ti27
                      refine sx_tsOut (t := 148) d_X6_readLine_23 (by omega) (by decide) ?_
                      refine sx_aload_n d_X6_readLine_148 0 rfl ?_
                      refine sx_iconst d_X6_readLine_149 ic1 ?_
                      refine sx_callV [.int (1 : Int32)] mv_X6_fail lM_StairCount_Reader_103 sh_24 (by omega) rfl rfl (Nat.le_of_ble_eq_true rfl) d_X6_readLine_150 (sp_X6_fail (d - 1) (by omega) (1 : Int32) h5) (fun _ h47 => ?_)
                      refine sx_lc (lc' := [(0, .ref 24)]) [0] rfl ?_
                      exact k7 h47
  · intro j3 k4
    refine sx_icmp_lt d_X6_readLine_8 ?_ ?_
    · refine sx_lc (lc' := [(0, .ref 24), (1, .int r2)]) [1, 0] rfl ?_
      exact k4 h1
    · refine sx_iload_n d_X6_readLine_11 0 rfl ?_
      refine sx_bipush d_X6_readLine_12 bc24 ?_
      refine sx_icmp_gt d_X6_readLine_14 ?_ ?_
      · refine sx_lc (lc' := [(0, .ref 24), (1, .int r2)]) [1, 0] rfl ?_
        exact k4 h1
      · refine sx_aload_n d_X6_readLine_17 1 rfl ?_
        refine sx_iconst d_X6_readLine_18 ic1 ?_
        refine sx_putZ (by decide) fl_StairCount_Reader_46 sh_24 rfl hty_6_6 d_X6_readLine_19 (fun h49 => ?_)
        refine sx_lc (lc' := [(0, .ref 24), (1, .int r2)]) [1, 0] rfl ?_
        exact k4 h49
theorem d_X8_isDigit_0 : DC mi_X8_isDigit 0 (.iload_n 0) 1 1 := ⟨by decide +kernel, rfl⟩
theorem d_X8_isDigit_1 : DC mi_X8_isDigit 1 (.bipush 48) 2 3 := ⟨by decide +kernel, rfl⟩
theorem d_X8_isDigit_3 : DB mi_X8_isDigit 3 (.if_icmp .lt 13) 13 6 16 := ⟨by decide +kernel, rfl, by decide⟩
theorem d_X8_isDigit_6 : DC mi_X8_isDigit 6 (.iload_n 0) 1 7 := ⟨by decide +kernel, rfl⟩
theorem d_X8_isDigit_7 : DC mi_X8_isDigit 7 (.bipush 57) 2 9 := ⟨by decide +kernel, rfl⟩
theorem d_X8_isDigit_9 : DB mi_X8_isDigit 9 (.if_icmp .gt 7) 7 12 16 := ⟨by decide +kernel, rfl, by decide⟩
theorem d_X8_isDigit_12 : DC mi_X8_isDigit 12 (.iconst 1) 1 13 := ⟨by decide +kernel, rfl⟩
theorem d_X8_isDigit_13 : DB mi_X8_isDigit 13 (.goto 4) 4 16 17 := ⟨by decide +kernel, rfl, by decide⟩
theorem d_X8_isDigit_16 : DC mi_X8_isDigit 16 (.iconst 0) 1 17 := ⟨by decide +kernel, rfl⟩
theorem d_X8_isDigit_17 : DC mi_X8_isDigit 17 (.ireturn) 1 18 := ⟨by decide +kernel, rfl⟩
set_option maxHeartbeats 4000000 in
set_option maxRecDepth 100000 in
theorem sp_X8_isDigit (d : Nat) (hd : 0 ≤ d) (a0 : Int32) (h : HH) : Sp mi_X8_isDigit d iI [.int a0] h (g_X8_isDigit a0 h) := by
  refine sp_of (lc := [(0, .int a0)]) (by decide) (Nat.le_of_ble_eq_true rfl) rfl ?_
  unfold g_X8_isDigit
  refine sx_iload_n d_X8_isDigit_0 0 rfl ?_
  refine sx_bipush d_X8_isDigit_1 bc48 ?_
  refine sx_icmp_lt d_X8_isDigit_3 ?_ ?_
  · refine sx_iconst d_X8_isDigit_16 ic0 ?_
    exact sx_zret (by decide) rfl d_X8_isDigit_17
  · refine sx_iload_n d_X8_isDigit_6 0 rfl ?_
    refine sx_bipush d_X8_isDigit_7 bc57 ?_
    refine sx_icmp_gt d_X8_isDigit_9 ?_ ?_
    · refine sx_iconst d_X8_isDigit_16 ic0 ?_
      exact sx_zret (by decide) rfl d_X8_isDigit_17
    · refine sx_iconst d_X8_isDigit_12 ic1 ?_
      refine sx_goto d_X8_isDigit_13 ?_
      exact sx_zret (by decide) rfl d_X8_isDigit_17
theorem d_X8_put_0 : DC mi_X8_put 0 (.aload_n 0) 1 1 := ⟨by decide +kernel, rfl⟩
theorem d_X8_put_1 : DC mi_X8_put 1 (.getfield 21) 3 4 := ⟨by decide +kernel, rfl⟩
theorem d_X8_put_4 : DC mi_X8_put 4 (.aload_n 0) 1 5 := ⟨by decide +kernel, rfl⟩
theorem d_X8_put_5 : DC mi_X8_put 5 (.getfield 9) 3 8 := ⟨by decide +kernel, rfl⟩
theorem d_X8_put_8 : DC mi_X8_put 8 (.arraylength) 1 9 := ⟨by decide +kernel, rfl⟩
theorem d_X8_put_9 : DB mi_X8_put 9 (.if_icmp .ge 43) 43 12 52 := ⟨by decide +kernel, rfl, by decide⟩
theorem d_X8_put_12 : DC mi_X8_put 12 (.aload_n 0) 1 13 := ⟨by decide +kernel, rfl⟩
theorem d_X8_put_13 : DC mi_X8_put 13 (.getfield 9) 3 16 := ⟨by decide +kernel, rfl⟩
theorem d_X8_put_16 : DC mi_X8_put 16 (.aload_n 0) 1 17 := ⟨by decide +kernel, rfl⟩
theorem d_X8_put_17 : DC mi_X8_put 17 (.getfield 21) 3 20 := ⟨by decide +kernel, rfl⟩
theorem d_X8_put_20 : DC mi_X8_put 20 (.iload_n 1) 1 21 := ⟨by decide +kernel, rfl⟩
theorem d_X8_put_21 : DC mi_X8_put 21 (.iastore) 1 22 := ⟨by decide +kernel, rfl⟩
theorem d_X8_put_22 : DC mi_X8_put 22 (.aload_n 0) 1 23 := ⟨by decide +kernel, rfl⟩
theorem d_X8_put_23 : DC mi_X8_put 23 (.getfield 15) 3 26 := ⟨by decide +kernel, rfl⟩
theorem d_X8_put_26 : DC mi_X8_put 26 (.aload_n 0) 1 27 := ⟨by decide +kernel, rfl⟩
theorem d_X8_put_27 : DC mi_X8_put 27 (.getfield 21) 3 30 := ⟨by decide +kernel, rfl⟩
theorem d_X8_put_30 : DC mi_X8_put 30 (.iload_n 2) 1 31 := ⟨by decide +kernel, rfl⟩
theorem d_X8_put_31 : DC mi_X8_put 31 (.iastore) 1 32 := ⟨by decide +kernel, rfl⟩
theorem d_X8_put_32 : DC mi_X8_put 32 (.aload_n 0) 1 33 := ⟨by decide +kernel, rfl⟩
theorem d_X8_put_33 : DC mi_X8_put 33 (.getfield 18) 3 36 := ⟨by decide +kernel, rfl⟩
theorem d_X8_put_36 : DC mi_X8_put 36 (.aload_n 0) 1 37 := ⟨by decide +kernel, rfl⟩
theorem d_X8_put_37 : DC mi_X8_put 37 (.getfield 21) 3 40 := ⟨by decide +kernel, rfl⟩
theorem d_X8_put_40 : DC mi_X8_put 40 (.iload_n 3) 1 41 := ⟨by decide +kernel, rfl⟩
theorem d_X8_put_41 : DC mi_X8_put 41 (.iastore) 1 42 := ⟨by decide +kernel, rfl⟩
theorem d_X8_put_42 : DC mi_X8_put 42 (.aload_n 0) 1 43 := ⟨by decide +kernel, rfl⟩
theorem d_X8_put_43 : DC mi_X8_put 43 (.dup) 1 44 := ⟨by decide +kernel, rfl⟩
theorem d_X8_put_44 : DC mi_X8_put 44 (.getfield 21) 3 47 := ⟨by decide +kernel, rfl⟩
theorem d_X8_put_47 : DC mi_X8_put 47 (.iconst 1) 1 48 := ⟨by decide +kernel, rfl⟩
theorem d_X8_put_48 : DC mi_X8_put 48 (.iadd) 1 49 := ⟨by decide +kernel, rfl⟩
theorem d_X8_put_49 : DC mi_X8_put 49 (.putfield 21) 3 52 := ⟨by decide +kernel, rfl⟩
theorem d_X8_put_52 : DC mi_X8_put 52 (.return_) 1 53 := ⟨by decide +kernel, rfl⟩
set_option maxHeartbeats 4000000 in
set_option maxRecDepth 100000 in
theorem sp_X8_put (d : Nat) (hd : 0 ≤ d) (a0 : Int32) (a1 : Int32) (a2 : Int32) (h : HH) : Sp mi_X8_put d iU [.ref 25, .int a0, .int a1, .int a2] h (g_X8_put a0 a1 a2 h) := by
  refine sp_of (lc := [(0, .ref 25), (1, .int a0), (2, .int a1), (3, .int a2)]) (by decide) (Nat.le_of_ble_eq_true rfl) rfl ?_
  unfold g_X8_put
  refine sx_aload_n d_X8_put_0 0 rfl ?_
  refine sx_getI fl_StairCount_Tokens_21 sh_25 rfl d_X8_put_1 (fun v1 => ?_)
  refine sx_aload_n d_X8_put_4 0 rfl ?_
  refine sx_getF (a' := 26) fl_StairCount_Tokens_9 sh_25 rfl rfl d_X8_put_5 ?_
  refine sx_alen (v := (701 : Int32)) sh_26 nl701 d_X8_put_8 ?_
  refine sx_icmp_ge d_X8_put_9 ?_ ?_
  · refine sx_aload_n d_X8_put_12 0 rfl ?_
    refine sx_getF (a' := 26) fl_StairCount_Tokens_9 sh_25 rfl rfl d_X8_put_13 ?_
    refine sx_aload_n d_X8_put_16 0 rfl ?_
    refine sx_getI fl_StairCount_Tokens_21 sh_25 rfl d_X8_put_17 (fun v2 => ?_)
    refine sx_iload_n d_X8_put_20 1 rfl ?_
    refine sx_iast sh_26 d_X8_put_21 (fun h3 => ?_)
    refine sx_aload_n d_X8_put_22 0 rfl ?_
    refine sx_getF (a' := 27) fl_StairCount_Tokens_15 sh_25 rfl rfl d_X8_put_23 ?_
    refine sx_aload_n d_X8_put_26 0 rfl ?_
    refine sx_getI fl_StairCount_Tokens_21 sh_25 rfl d_X8_put_27 (fun v4 => ?_)
    refine sx_iload_n d_X8_put_30 2 rfl ?_
    refine sx_iast sh_27 d_X8_put_31 (fun h5 => ?_)
    refine sx_aload_n d_X8_put_32 0 rfl ?_
    refine sx_getF (a' := 28) fl_StairCount_Tokens_18 sh_25 rfl rfl d_X8_put_33 ?_
    refine sx_aload_n d_X8_put_36 0 rfl ?_
    refine sx_getI fl_StairCount_Tokens_21 sh_25 rfl d_X8_put_37 (fun v6 => ?_)
    refine sx_iload_n d_X8_put_40 3 rfl ?_
    refine sx_iast sh_28 d_X8_put_41 (fun h7 => ?_)
    refine sx_aload_n d_X8_put_42 0 rfl ?_
    refine sx_dup d_X8_put_43 rfl ?_
    refine sx_getI fl_StairCount_Tokens_21 sh_25 rfl d_X8_put_44 (fun v8 => ?_)
    refine sx_iconst d_X8_put_47 ic1 ?_
    refine sx_iadd d_X8_put_48 ?_
    refine sx_putI fl_StairCount_Tokens_21 sh_25 rfl hty_8_3 d_X8_put_49 (fun h9 => ?_)
    exact sx_vret rfl d_X8_put_52
  · exact sx_vret rfl d_X8_put_52
theorem d_X8_cutNumber_0 : DC mi_X8_cutNumber 0 (.iconst 0) 1 1 := ⟨by decide +kernel, rfl⟩
theorem d_X8_cutNumber_1 : DC mi_X8_cutNumber 1 (.istore 4) 2 3 := ⟨by decide +kernel, rfl⟩
theorem d_X8_cutNumber_3 : DC mi_X8_cutNumber 3 (.iload_n 2) 1 4 := ⟨by decide +kernel, rfl⟩
theorem d_X8_cutNumber_4 : DC mi_X8_cutNumber 4 (.istore 5) 2 6 := ⟨by decide +kernel, rfl⟩
theorem d_X8_cutNumber_6 : DC mi_X8_cutNumber 6 (.iload 5) 2 8 := ⟨by decide +kernel, rfl⟩
theorem d_X8_cutNumber_8 : DC mi_X8_cutNumber 8 (.iload_n 3) 1 9 := ⟨by decide +kernel, rfl⟩
theorem d_X8_cutNumber_9 : DB mi_X8_cutNumber 9 (.if_icmp .ge 39) 39 12 48 := ⟨by decide +kernel, rfl, by decide⟩
theorem d_X8_cutNumber_12 : DC mi_X8_cutNumber 12 (.aload_n 1) 1 13 := ⟨by decide +kernel, rfl⟩
theorem d_X8_cutNumber_13 : DC mi_X8_cutNumber 13 (.iload 5) 2 15 := ⟨by decide +kernel, rfl⟩
theorem d_X8_cutNumber_15 : DC mi_X8_cutNumber 15 (.baload) 1 16 := ⟨by decide +kernel, rfl⟩
theorem d_X8_cutNumber_16 : DC mi_X8_cutNumber 16 (.invokestatic 25) 3 19 := ⟨by decide +kernel, rfl⟩
theorem d_X8_cutNumber_19 : DB mi_X8_cutNumber 19 (.ifCond .eq 29) 29 22 48 := ⟨by decide +kernel, rfl, by decide⟩
theorem d_X8_cutNumber_22 : DC mi_X8_cutNumber 22 (.ldc 46) 2 24 := ⟨by decide +kernel, rfl⟩
theorem d_X8_cutNumber_24 : DC mi_X8_cutNumber 24 (.iload 4) 2 26 := ⟨by decide +kernel, rfl⟩
theorem d_X8_cutNumber_26 : DC mi_X8_cutNumber 26 (.bipush 10) 2 28 := ⟨by decide +kernel, rfl⟩
theorem d_X8_cutNumber_28 : DC mi_X8_cutNumber 28 (.imul) 1 29 := ⟨by decide +kernel, rfl⟩
theorem d_X8_cutNumber_29 : DC mi_X8_cutNumber 29 (.aload_n 1) 1 30 := ⟨by decide +kernel, rfl⟩
theorem d_X8_cutNumber_30 : DC mi_X8_cutNumber 30 (.iload 5) 2 32 := ⟨by decide +kernel, rfl⟩
theorem d_X8_cutNumber_32 : DC mi_X8_cutNumber 32 (.baload) 1 33 := ⟨by decide +kernel, rfl⟩
theorem d_X8_cutNumber_33 : DC mi_X8_cutNumber 33 (.iadd) 1 34 := ⟨by decide +kernel, rfl⟩
theorem d_X8_cutNumber_34 : DC mi_X8_cutNumber 34 (.bipush 48) 2 36 := ⟨by decide +kernel, rfl⟩
theorem d_X8_cutNumber_36 : DC mi_X8_cutNumber 36 (.isub) 1 37 := ⟨by decide +kernel, rfl⟩
theorem d_X8_cutNumber_37 : DC mi_X8_cutNumber 37 (.invokestatic 47) 3 40 := ⟨by decide +kernel, rfl⟩
theorem d_X8_cutNumber_40 : DC mi_X8_cutNumber 40 (.istore 4) 2 42 := ⟨by decide +kernel, rfl⟩
theorem d_X8_cutNumber_42 : DC mi_X8_cutNumber 42 (.iinc 5 1) 3 45 := ⟨by decide +kernel, rfl⟩
theorem d_X8_cutNumber_45 : DB mi_X8_cutNumber 45 (.goto (-39)) (-39) 48 6 := ⟨by decide +kernel, rfl, by decide⟩
theorem d_X8_cutNumber_48 : DC mi_X8_cutNumber 48 (.aload_n 0) 1 49 := ⟨by decide +kernel, rfl⟩
theorem d_X8_cutNumber_49 : DC mi_X8_cutNumber 49 (.iconst 2) 1 50 := ⟨by decide +kernel, rfl⟩
theorem d_X8_cutNumber_50 : DC mi_X8_cutNumber 50 (.iload_n 2) 1 51 := ⟨by decide +kernel, rfl⟩
theorem d_X8_cutNumber_51 : DC mi_X8_cutNumber 51 (.iload 4) 2 53 := ⟨by decide +kernel, rfl⟩
theorem d_X8_cutNumber_53 : DC mi_X8_cutNumber 53 (.invokevirtual 42) 3 56 := ⟨by decide +kernel, rfl⟩
theorem d_X8_cutNumber_56 : DC mi_X8_cutNumber 56 (.iload 5) 2 58 := ⟨by decide +kernel, rfl⟩
theorem d_X8_cutNumber_58 : DC mi_X8_cutNumber 58 (.ireturn) 1 59 := ⟨by decide +kernel, rfl⟩
set_option maxHeartbeats 4000000 in
set_option maxRecDepth 100000 in
theorem sL_X8_cutNumber_6 (d : Nat) (hd : 1 ≤ d) (K48 : Int32 → Int32 → HH → Option (Int32 × HH)) (c2 : Int32) (c3 : Int32) (hK48 : ∀ (z4 : Int32) (z5 : Int32) (h : HH), Sx mi_X8_cutNumber d iI (K48 z4 z5 h) 48 [(0, .ref 25), (2, .int c2), (4, .int z4), (5, .int z5)] [] h) : ∀ (n : Nat) (x4 : Int32) (x5 : Int32) (h : HH), Sx mi_X8_cutNumber d iI (g_X8_cutNumber_L6 K48 c2 c3 n x4 x5 h) 6 [(0, .ref 25), (1, .ref 1), (2, .int c2), (3, .int c3), (4, .int x4), (5, .int x5)] [] h := by
  intro n
  induction n with
  | zero => intro x4 x5 h; exact sx_none
  | succ n ih =>
    intro x4 x5 h
    rw [g_X8_cutNumber_L6]
    refine sx_iload d_X8_cutNumber_6 5 rfl ?_
    refine sx_iload_n d_X8_cutNumber_8 3 rfl ?_
    refine sx_icmp_ge d_X8_cutNumber_9 ?_ ?_
    · refine sx_aload_n d_X8_cutNumber_12 1 rfl ?_
      refine sx_iload d_X8_cutNumber_13 5 rfl ?_
      refine sx_bald sh_1 d_X8_cutNumber_15 (fun v1 => ?_)
      refine sx_callS [.int v1] ms_X8_isDigit lM_StairCount_Tokens_25 (by omega) rfl rfl (Nat.le_of_ble_eq_true rfl) d_X8_cutNumber_16 (sp_X8_isDigit (d - 1) (by omega) v1 h) (fun r3 h2 => ?_)
      refine sx_if_eq d_X8_cutNumber_19 ?_ ?_
      · refine sx_lc (lc' := [(0, .ref 25), (2, .int c2), (4, .int x4), (5, .int x5)]) [0, 2, 4, 5] rfl ?_
        exact hK48 x4 x5 h2
      · refine sx_ldc d_X8_cutNumber_22 lK_StairCount_Tokens_46 ?_
        refine sx_iload d_X8_cutNumber_24 4 rfl ?_
        refine sx_bipush d_X8_cutNumber_26 bc10 ?_
        refine sx_imul d_X8_cutNumber_28 ?_
        refine sx_aload_n d_X8_cutNumber_29 1 rfl ?_
        refine sx_iload d_X8_cutNumber_30 5 rfl ?_
        refine sx_bald sh_1 d_X8_cutNumber_32 (fun v4 => ?_)
        refine sx_iadd d_X8_cutNumber_33 ?_
        refine sx_bipush d_X8_cutNumber_34 bc48 ?_
        refine sx_isub d_X8_cutNumber_36 ?_
        refine sx_mmin lM_StairCount_Tokens_47 (by omega) (Nat.le_of_ble_eq_true rfl) d_X8_cutNumber_37 ?_
        refine sx_vlI (fun v5 => ?_)
        refine sx_istore (i := 4) (lc' := [(4, .int v5), (0, .ref 25), (1, .ref 1), (2, .int c2), (3, .int c3), (5, .int x5)]) d_X8_cutNumber_40 (by decide) rfl ?_
        refine sx_iincV (lc' := fun v6 => [(5, .int v6), (4, .int v5), (0, .ref 25), (1, .ref 1), (2, .int c2), (3, .int c3)]) (k0 := 5) d_X8_cutNumber_42 rfl ii1 (by decide) (fun _ => rfl) (fun v6 => ?_)
        refine sx_goto d_X8_cutNumber_45 ?_
        refine sx_lc (lc' := [(0, .ref 25), (1, .ref 1), (2, .int c2), (3, .int c3), (4, .int v5), (5, .int v6)]) [2, 3, 4, 5, 1, 0] rfl ?_
        exact ih v5 v6 h2
    · refine sx_lc (lc' := [(0, .ref 25), (2, .int c2), (4, .int x4), (5, .int x5)]) [0, 2, 4, 5] rfl ?_
      exact hK48 x4 x5 h
set_option maxHeartbeats 4000000 in
set_option maxRecDepth 100000 in
theorem sp_X8_cutNumber (d : Nat) (hd : 1 ≤ d) (a1 : Int32) (a2 : Int32) (h : HH) : Sp mi_X8_cutNumber d iI [.ref 25, .ref 1, .int a1, .int a2] h (g_X8_cutNumber a1 a2 h) := by
  refine sp_of (lc := [(0, .ref 25), (1, .ref 1), (2, .int a1), (3, .int a2)]) (by decide) (Nat.le_of_ble_eq_true rfl) rfl ?_
  unfold g_X8_cutNumber
  refine sx_iconst d_X8_cutNumber_0 ic0 ?_
  refine sx_istore (i := 4) (lc' := [(4, .int (0 : Int32)), (0, .ref 25), (1, .ref 1), (2, .int a1), (3, .int a2)]) d_X8_cutNumber_1 (by decide) rfl ?_
  refine sx_iload_n d_X8_cutNumber_3 3 rfl ?_
  refine sx_istore (i := 5) (lc' := [(5, .int a1), (4, .int (0 : Int32)), (0, .ref 25), (1, .ref 1), (2, .int a1), (3, .int a2)]) d_X8_cutNumber_4 (by decide) rfl ?_
  refine sx_lc (lc' := [(0, .ref 25), (1, .ref 1), (2, .int a1), (3, .int a2), (4, .int (0 : Int32)), (5, .int a1)]) [2, 3, 4, 5, 1, 0] rfl ?_
  refine sL_X8_cutNumber_6 d hd _ a1 a2 ?_ 1024 (0 : Int32) a1 h
  · intro z8 z9 h7
    refine sx_aload_n d_X8_cutNumber_48 0 rfl ?_
    refine sx_iconst d_X8_cutNumber_49 ic2 ?_
    refine sx_iload_n d_X8_cutNumber_50 1 rfl ?_
    refine sx_iload d_X8_cutNumber_51 2 rfl ?_
    refine sx_callV [.int (2 : Int32), .int a1, .int z8] mv_X8_put lM_StairCount_Tokens_42 sh_25 (by omega) rfl rfl (Nat.le_of_ble_eq_true rfl) d_X8_cutNumber_53 (sp_X8_put (d - 1) (by omega) (2 : Int32) a1 z8 h7) (fun _ h10 => ?_)
    refine sx_iload d_X8_cutNumber_56 3 rfl ?_
    exact sx_iret rfl d_X8_cutNumber_58
theorem d_X8_doubleKind_0 : DC mi_X8_doubleKind 0 (.iload_n 0) 1 1 := ⟨by decide +kernel, rfl⟩
theorem d_X8_doubleKind_1 : DC mi_X8_doubleKind 1 (.bipush 60) 2 3 := ⟨by decide +kernel, rfl⟩
theorem d_X8_doubleKind_3 : DB mi_X8_doubleKind 3 (.if_icmp .ne 12) 12 6 15 := ⟨by decide +kernel, rfl, by decide⟩
theorem d_X8_doubleKind_6 : DC mi_X8_doubleKind 6 (.iload_n 1) 1 7 := ⟨by decide +kernel, rfl⟩
theorem d_X8_doubleKind_7 : DC mi_X8_doubleKind 7 (.bipush 61) 2 9 := ⟨by decide +kernel, rfl⟩
theorem d_X8_doubleKind_9 : DB mi_X8_doubleKind 9 (.if_icmp .ne 6) 6 12 15 := ⟨by decide +kernel, rfl, by decide⟩
theorem d_X8_doubleKind_12 : DC mi_X8_doubleKind 12 (.bipush 8) 2 14 := ⟨by decide +kernel, rfl⟩
theorem d_X8_doubleKind_14 : DC mi_X8_doubleKind 14 (.ireturn) 1 15 := ⟨by decide +kernel, rfl⟩
theorem d_X8_doubleKind_15 : DC mi_X8_doubleKind 15 (.iload_n 0) 1 16 := ⟨by decide +kernel, rfl⟩
theorem d_X8_doubleKind_16 : DC mi_X8_doubleKind 16 (.bipush 60) 2 18 := ⟨by decide +kernel, rfl⟩
theorem d_X8_doubleKind_18 : DB mi_X8_doubleKind 18 (.if_icmp .ne 12) 12 21 30 := ⟨by decide +kernel, rfl, by decide⟩
theorem d_X8_doubleKind_21 : DC mi_X8_doubleKind 21 (.iload_n 1) 1 22 := ⟨by decide +kernel, rfl⟩
theorem d_X8_doubleKind_22 : DC mi_X8_doubleKind 22 (.bipush 62) 2 24 := ⟨by decide +kernel, rfl⟩
theorem d_X8_doubleKind_24 : DB mi_X8_doubleKind 24 (.if_icmp .ne 6) 6 27 30 := ⟨by decide +kernel, rfl, by decide⟩
theorem d_X8_doubleKind_27 : DC mi_X8_doubleKind 27 (.bipush 10) 2 29 := ⟨by decide +kernel, rfl⟩
theorem d_X8_doubleKind_29 : DC mi_X8_doubleKind 29 (.ireturn) 1 30 := ⟨by decide +kernel, rfl⟩
theorem d_X8_doubleKind_30 : DC mi_X8_doubleKind 30 (.iload_n 0) 1 31 := ⟨by decide +kernel, rfl⟩
theorem d_X8_doubleKind_31 : DC mi_X8_doubleKind 31 (.bipush 62) 2 33 := ⟨by decide +kernel, rfl⟩
theorem d_X8_doubleKind_33 : DB mi_X8_doubleKind 33 (.if_icmp .ne 14) 14 36 47 := ⟨by decide +kernel, rfl, by decide⟩
theorem d_X8_doubleKind_36 : DC mi_X8_doubleKind 36 (.iload_n 1) 1 37 := ⟨by decide +kernel, rfl⟩
theorem d_X8_doubleKind_37 : DC mi_X8_doubleKind 37 (.bipush 61) 2 39 := ⟨by decide +kernel, rfl⟩
theorem d_X8_doubleKind_39 : DB mi_X8_doubleKind 39 (.if_icmp .ne 8) 8 42 47 := ⟨by decide +kernel, rfl, by decide⟩
theorem d_X8_doubleKind_42 : DC mi_X8_doubleKind 42 (.bipush 11) 2 44 := ⟨by decide +kernel, rfl⟩
theorem d_X8_doubleKind_44 : DB mi_X8_doubleKind 44 (.goto 4) 4 47 48 := ⟨by decide +kernel, rfl, by decide⟩
theorem d_X8_doubleKind_47 : DC mi_X8_doubleKind 47 (.iconst 1) 1 48 := ⟨by decide +kernel, rfl⟩
theorem d_X8_doubleKind_48 : DC mi_X8_doubleKind 48 (.ireturn) 1 49 := ⟨by decide +kernel, rfl⟩
set_option maxHeartbeats 4000000 in
set_option maxRecDepth 100000 in
theorem sp_X8_doubleKind (d : Nat) (hd : 0 ≤ d) (a0 : Int32) (a1 : Int32) (h : HH) : Sp mi_X8_doubleKind d iI [.int a0, .int a1] h (g_X8_doubleKind a0 a1 h) := by
  refine sp_of (lc := [(0, .int a0), (1, .int a1)]) (by decide) (Nat.le_of_ble_eq_true rfl) rfl ?_
  unfold g_X8_doubleKind
  refine sx_iload_n d_X8_doubleKind_0 0 rfl ?_
  refine sx_bipush d_X8_doubleKind_1 bc60 ?_
  refine sx_jn (fun j => ∀  (h : HH), Sx mi_X8_doubleKind d iI (j  h) 15 [(0, .int a0), (1, .int a1)] [] h) ?_ ?_
  · intro  h3
    refine sx_iload_n d_X8_doubleKind_15 0 rfl ?_
    refine sx_bipush d_X8_doubleKind_16 bc60 ?_
    refine sx_jn (fun j => ∀  (h : HH), Sx mi_X8_doubleKind d iI (j  h) 30 [(0, .int a0), (1, .int a1)] [] h) ?_ ?_
    · intro  h6
      refine sx_iload_n d_X8_doubleKind_30 0 rfl ?_
      refine sx_bipush d_X8_doubleKind_31 bc62 ?_
      refine sx_icmp_ne d_X8_doubleKind_33 ?_ ?_
      · refine sx_iload_n d_X8_doubleKind_36 1 rfl ?_
        refine sx_bipush d_X8_doubleKind_37 bc61 ?_
        refine sx_icmp_ne d_X8_doubleKind_39 ?_ ?_
        · refine sx_bipush d_X8_doubleKind_42 bc11 ?_
          refine sx_goto d_X8_doubleKind_44 ?_
          exact sx_iret rfl d_X8_doubleKind_48
        · refine sx_iconst d_X8_doubleKind_47 ic1 ?_
          exact sx_iret rfl d_X8_doubleKind_48
      · refine sx_iconst d_X8_doubleKind_47 ic1 ?_
        exact sx_iret rfl d_X8_doubleKind_48
    · intro j4 k5
      refine sx_icmp_ne d_X8_doubleKind_18 ?_ ?_
      · refine sx_iload_n d_X8_doubleKind_21 1 rfl ?_
        refine sx_bipush d_X8_doubleKind_22 bc62 ?_
        refine sx_icmp_ne d_X8_doubleKind_24 ?_ ?_
        · refine sx_bipush d_X8_doubleKind_27 bc10 ?_
          exact sx_iret rfl d_X8_doubleKind_29
        · exact k5 h3
      · exact k5 h3
  · intro j1 k2
    refine sx_icmp_ne d_X8_doubleKind_3 ?_ ?_
    · refine sx_iload_n d_X8_doubleKind_6 1 rfl ?_
      refine sx_bipush d_X8_doubleKind_7 bc61 ?_
      refine sx_icmp_ne d_X8_doubleKind_9 ?_ ?_
      · refine sx_bipush d_X8_doubleKind_12 bc8 ?_
        exact sx_iret rfl d_X8_doubleKind_14
      · exact k2 h
    · exact k2 h
theorem d_X8_singleKind_0 : DC mi_X8_singleKind 0 (.iload_n 0) 1 1 := ⟨by decide +kernel, rfl⟩
theorem d_X8_singleKind_1 : DW mi_X8_singleKind 1 (.tableswitch 135 40 62 #[109, 111, 129, 123, 135, 126, 135, 132, 135, 135, 135, 135, 135, 135, 135, 135, 135, 135, 135, 107, 114, 117, 120]) := ⟨107, by decide +kernel⟩
theorem d_X8_singleKind_108 : DC mi_X8_singleKind 108 (.iconst 4) 1 109 := ⟨by decide +kernel, rfl⟩
theorem d_X8_singleKind_109 : DC mi_X8_singleKind 109 (.ireturn) 1 110 := ⟨by decide +kernel, rfl⟩
theorem d_X8_singleKind_110 : DC mi_X8_singleKind 110 (.iconst 5) 1 111 := ⟨by decide +kernel, rfl⟩
theorem d_X8_singleKind_111 : DC mi_X8_singleKind 111 (.ireturn) 1 112 := ⟨by decide +kernel, rfl⟩
theorem d_X8_singleKind_112 : DC mi_X8_singleKind 112 (.bipush 6) 2 114 := ⟨by decide +kernel, rfl⟩
theorem d_X8_singleKind_114 : DC mi_X8_singleKind 114 (.ireturn) 1 115 := ⟨by decide +kernel, rfl⟩
theorem d_X8_singleKind_115 : DC mi_X8_singleKind 115 (.bipush 7) 2 117 := ⟨by decide +kernel, rfl⟩
theorem d_X8_singleKind_117 : DC mi_X8_singleKind 117 (.ireturn) 1 118 := ⟨by decide +kernel, rfl⟩
theorem d_X8_singleKind_118 : DC mi_X8_singleKind 118 (.bipush 9) 2 120 := ⟨by decide +kernel, rfl⟩
theorem d_X8_singleKind_120 : DC mi_X8_singleKind 120 (.ireturn) 1 121 := ⟨by decide +kernel, rfl⟩
theorem d_X8_singleKind_121 : DC mi_X8_singleKind 121 (.bipush 12) 2 123 := ⟨by decide +kernel, rfl⟩
theorem d_X8_singleKind_123 : DC mi_X8_singleKind 123 (.ireturn) 1 124 := ⟨by decide +kernel, rfl⟩
theorem d_X8_singleKind_124 : DC mi_X8_singleKind 124 (.bipush 13) 2 126 := ⟨by decide +kernel, rfl⟩
theorem d_X8_singleKind_126 : DC mi_X8_singleKind 126 (.ireturn) 1 127 := ⟨by decide +kernel, rfl⟩
theorem d_X8_singleKind_127 : DC mi_X8_singleKind 127 (.bipush 14) 2 129 := ⟨by decide +kernel, rfl⟩
theorem d_X8_singleKind_129 : DC mi_X8_singleKind 129 (.ireturn) 1 130 := ⟨by decide +kernel, rfl⟩
theorem d_X8_singleKind_130 : DC mi_X8_singleKind 130 (.bipush 15) 2 132 := ⟨by decide +kernel, rfl⟩
theorem d_X8_singleKind_132 : DC mi_X8_singleKind 132 (.ireturn) 1 133 := ⟨by decide +kernel, rfl⟩
theorem d_X8_singleKind_133 : DC mi_X8_singleKind 133 (.bipush 16) 2 135 := ⟨by decide +kernel, rfl⟩
theorem d_X8_singleKind_135 : DC mi_X8_singleKind 135 (.ireturn) 1 136 := ⟨by decide +kernel, rfl⟩
theorem d_X8_singleKind_136 : DC mi_X8_singleKind 136 (.iconst 1) 1 137 := ⟨by decide +kernel, rfl⟩
theorem d_X8_singleKind_137 : DC mi_X8_singleKind 137 (.ireturn) 1 138 := ⟨by decide +kernel, rfl⟩
set_option maxHeartbeats 4000000 in
set_option maxRecDepth 100000 in
theorem sp_X8_singleKind (d : Nat) (hd : 0 ≤ d) (a0 : Int32) (h : HH) : Sp mi_X8_singleKind d iI [.int a0] h (g_X8_singleKind a0 h) := by
  refine sp_of (lc := [(0, .int a0)]) (by decide) (Nat.le_of_ble_eq_true rfl) rfl ?_
  unfold g_X8_singleKind
  refine sx_iload_n d_X8_singleKind_0 0 rfl ?_
  refine sx_if (fun e1 => ?_) (fun e1 => ?_)
  · refine sx_tsIn (off := 109) (t := 110) d_X8_singleKind_1 (by rw [e1] <;> decide) (by rw [e1] <;> decide) (by rw [e1] <;> decide) (by decide) ?_
    refine sx_iconst d_X8_singleKind_110 ic5 ?_
    exact sx_iret rfl d_X8_singleKind_111
  · refine sx_if (fun e2 => ?_) (fun e2 => ?_)
    · refine sx_tsIn (off := 111) (t := 112) d_X8_singleKind_1 (by rw [e2] <;> decide) (by rw [e2] <;> decide) (by rw [e2] <;> decide) (by decide) ?_
      refine sx_bipush d_X8_singleKind_112 bc6 ?_
      exact sx_iret rfl d_X8_singleKind_114
    · refine sx_if (fun e3 => ?_) (fun e3 => ?_)
      · refine sx_tsIn (off := 129) (t := 130) d_X8_singleKind_1 (by rw [e3] <;> decide) (by rw [e3] <;> decide) (by rw [e3] <;> decide) (by decide) ?_
        refine sx_bipush d_X8_singleKind_130 bc15 ?_
        exact sx_iret rfl d_X8_singleKind_132
      · refine sx_if (fun e4 => ?_) (fun e4 => ?_)
        · refine sx_tsIn (off := 123) (t := 124) d_X8_singleKind_1 (by rw [e4] <;> decide) (by rw [e4] <;> decide) (by rw [e4] <;> decide) (by decide) ?_
          refine sx_bipush d_X8_singleKind_124 bc13 ?_
          exact sx_iret rfl d_X8_singleKind_126
        · refine sx_if (fun e5 => ?_) (fun e5 => ?_)
          · refine sx_tsIn (off := 126) (t := 127) d_X8_singleKind_1 (by rw [e5] <;> decide) (by rw [e5] <;> decide) (by rw [e5] <;> decide) (by decide) ?_
            refine sx_bipush d_X8_singleKind_127 bc14 ?_
            exact sx_iret rfl d_X8_singleKind_129
          · refine sx_if (fun e6 => ?_) (fun e6 => ?_)
            · refine sx_tsIn (off := 132) (t := 133) d_X8_singleKind_1 (by rw [e6] <;> decide) (by rw [e6] <;> decide) (by rw [e6] <;> decide) (by decide) ?_
              refine sx_bipush d_X8_singleKind_133 bc16 ?_
              exact sx_iret rfl d_X8_singleKind_135
            · refine sx_if (fun e7 => ?_) (fun e7 => ?_)
              · refine sx_tsIn (off := 107) (t := 108) d_X8_singleKind_1 (by rw [e7] <;> decide) (by rw [e7] <;> decide) (by rw [e7] <;> decide) (by decide) ?_
                refine sx_iconst d_X8_singleKind_108 ic4 ?_
                exact sx_iret rfl d_X8_singleKind_109
              · refine sx_if (fun e8 => ?_) (fun e8 => ?_)
                · refine sx_tsIn (off := 114) (t := 115) d_X8_singleKind_1 (by rw [e8] <;> decide) (by rw [e8] <;> decide) (by rw [e8] <;> decide) (by decide) ?_
                  refine sx_bipush d_X8_singleKind_115 bc7 ?_
                  exact sx_iret rfl d_X8_singleKind_117
                · refine sx_if (fun e9 => ?_) (fun e9 => ?_)
                  · refine sx_tsIn (off := 117) (t := 118) d_X8_singleKind_1 (by rw [e9] <;> decide) (by rw [e9] <;> decide) (by rw [e9] <;> decide) (by decide) ?_
                    refine sx_bipush d_X8_singleKind_118 bc9 ?_
                    exact sx_iret rfl d_X8_singleKind_120
                  · refine sx_if (fun e10 => ?_) (fun e10 => ?_)
                    · refine sx_tsIn (off := 120) (t := 121) d_X8_singleKind_1 (by rw [e10] <;> decide) (by rw [e10] <;> decide) (by rw [e10] <;> decide) (by decide) ?_
                      refine sx_bipush d_X8_singleKind_121 bc12 ?_
                      exact sx_iret rfl d_X8_singleKind_123
                    · have q40 := ne_toInt (x := a0) (c := (40 : Int32)) (k := 40) e1 ti40
                      have q41 := ne_toInt (x := a0) (c := (41 : Int32)) (k := 41) e2 ti41
                      have q42 := ne_toInt (x := a0) (c := (42 : Int32)) (k := 42) e3 ti42
                      have q43 := ne_toInt (x := a0) (c := (43 : Int32)) (k := 43) e4 ti43
                      have q45 := ne_toInt (x := a0) (c := (45 : Int32)) (k := 45) e5 ti45
                      have q47 := ne_toInt (x := a0) (c := (47 : Int32)) (k := 47) e6 ti47
                      have q59 := ne_toInt (x := a0) (c := (59 : Int32)) (k := 59) e7 ti59
                      have q60 := ne_toInt (x := a0) (c := (60 : Int32)) (k := 60) e8 ti60
                      have q61 := ne_toInt (x := a0) (c := (61 : Int32)) (k := 61) e9 ti61
                      have q62 := ne_toInt (x := a0) (c := (62 : Int32)) (k := 62) e10 ti62
                      refine sx_tsD (t := 136) d_X8_singleKind_1 ?_ (by decide) ?_
                      · by_cases w44 : a0.toInt = 44
                        · exact Or.inr (by rw [w44]; decide)
                        by_cases w46 : a0.toInt = 46
                        · exact Or.inr (by rw [w46]; decide)
                        by_cases w48 : a0.toInt = 48
                        · exact Or.inr (by rw [w48]; decide)
                        by_cases w49 : a0.toInt = 49
                        · exact Or.inr (by rw [w49]; decide)
                        by_cases w50 : a0.toInt = 50
                        · exact Or.inr (by rw [w50]; decide)
                        by_cases w51 : a0.toInt = 51
                        · exact Or.inr (by rw [w51]; decide)
                        by_cases w52 : a0.toInt = 52
                        · exact Or.inr (by rw [w52]; decide)
                        by_cases w53 : a0.toInt = 53
                        · exact Or.inr (by rw [w53]; decide)
                        by_cases w54 : a0.toInt = 54
                        · exact Or.inr (by rw [w54]; decide)
                        by_cases w55 : a0.toInt = 55
                        · exact Or.inr (by rw [w55]; decide)
                        by_cases w56 : a0.toInt = 56
                        · exact Or.inr (by rw [w56]; decide)
                        by_cases w57 : a0.toInt = 57
                        · exact Or.inr (by rw [w57]; decide)
                        by_cases w58 : a0.toInt = 58
                        · exact Or.inr (by rw [w58]; decide)
                        exact Or.inl (by omega)
                      refine sx_iconst d_X8_singleKind_136 ic1 ?_
                      exact sx_iret rfl d_X8_singleKind_137
theorem d_X8_cutSign_0 : DC mi_X8_cutSign 0 (.iload_n 2) 1 1 := ⟨by decide +kernel, rfl⟩
theorem d_X8_cutSign_1 : DC mi_X8_cutSign 1 (.iconst 1) 1 2 := ⟨by decide +kernel, rfl⟩
theorem d_X8_cutSign_2 : DC mi_X8_cutSign 2 (.iadd) 1 3 := ⟨by decide +kernel, rfl⟩
theorem d_X8_cutSign_3 : DC mi_X8_cutSign 3 (.iload_n 3) 1 4 := ⟨by decide +kernel, rfl⟩
theorem d_X8_cutSign_4 : DB mi_X8_cutSign 4 (.if_icmp .ge 11) 11 7 15 := ⟨by decide +kernel, rfl, by decide⟩
theorem d_X8_cutSign_7 : DC mi_X8_cutSign 7 (.aload_n 1) 1 8 := ⟨by decide +kernel, rfl⟩
theorem d_X8_cutSign_8 : DC mi_X8_cutSign 8 (.iload_n 2) 1 9 := ⟨by decide +kernel, rfl⟩
theorem d_X8_cutSign_9 : DC mi_X8_cutSign 9 (.iconst 1) 1 10 := ⟨by decide +kernel, rfl⟩
theorem d_X8_cutSign_10 : DC mi_X8_cutSign 10 (.iadd) 1 11 := ⟨by decide +kernel, rfl⟩
theorem d_X8_cutSign_11 : DC mi_X8_cutSign 11 (.baload) 1 12 := ⟨by decide +kernel, rfl⟩
theorem d_X8_cutSign_12 : DB mi_X8_cutSign 12 (.goto 4) 4 15 16 := ⟨by decide +kernel, rfl, by decide⟩
theorem d_X8_cutSign_15 : DC mi_X8_cutSign 15 (.iconst 0) 1 16 := ⟨by decide +kernel, rfl⟩
theorem d_X8_cutSign_16 : DC mi_X8_cutSign 16 (.istore 4) 2 18 := ⟨by decide +kernel, rfl⟩
theorem d_X8_cutSign_18 : DC mi_X8_cutSign 18 (.aload_n 1) 1 19 := ⟨by decide +kernel, rfl⟩
theorem d_X8_cutSign_19 : DC mi_X8_cutSign 19 (.iload_n 2) 1 20 := ⟨by decide +kernel, rfl⟩
theorem d_X8_cutSign_20 : DC mi_X8_cutSign 20 (.baload) 1 21 := ⟨by decide +kernel, rfl⟩
theorem d_X8_cutSign_21 : DC mi_X8_cutSign 21 (.iload 4) 2 23 := ⟨by decide +kernel, rfl⟩
theorem d_X8_cutSign_23 : DC mi_X8_cutSign 23 (.invokestatic 68) 3 26 := ⟨by decide +kernel, rfl⟩
theorem d_X8_cutSign_26 : DC mi_X8_cutSign 26 (.istore 5) 2 28 := ⟨by decide +kernel, rfl⟩
theorem d_X8_cutSign_28 : DC mi_X8_cutSign 28 (.iload 5) 2 30 := ⟨by decide +kernel, rfl⟩
theorem d_X8_cutSign_30 : DC mi_X8_cutSign 30 (.iconst 1) 1 31 := ⟨by decide +kernel, rfl⟩
theorem d_X8_cutSign_31 : DB mi_X8_cutSign 31 (.if_icmp .eq 15) 15 34 46 := ⟨by decide +kernel, rfl, by decide⟩
theorem d_X8_cutSign_34 : DC mi_X8_cutSign 34 (.aload_n 0) 1 35 := ⟨by decide +kernel, rfl⟩
theorem d_X8_cutSign_35 : DC mi_X8_cutSign 35 (.iload 5) 2 37 := ⟨by decide +kernel, rfl⟩
theorem d_X8_cutSign_37 : DC mi_X8_cutSign 37 (.iload_n 2) 1 38 := ⟨by decide +kernel, rfl⟩
theorem d_X8_cutSign_38 : DC mi_X8_cutSign 38 (.iconst 0) 1 39 := ⟨by decide +kernel, rfl⟩
theorem d_X8_cutSign_39 : DC mi_X8_cutSign 39 (.invokevirtual 42) 3 42 := ⟨by decide +kernel, rfl⟩
theorem d_X8_cutSign_42 : DC mi_X8_cutSign 42 (.iload_n 2) 1 43 := ⟨by decide +kernel, rfl⟩
theorem d_X8_cutSign_43 : DC mi_X8_cutSign 43 (.iconst 2) 1 44 := ⟨by decide +kernel, rfl⟩
theorem d_X8_cutSign_44 : DC mi_X8_cutSign 44 (.iadd) 1 45 := ⟨by decide +kernel, rfl⟩
theorem d_X8_cutSign_45 : DC mi_X8_cutSign 45 (.ireturn) 1 46 := ⟨by decide +kernel, rfl⟩
theorem d_X8_cutSign_46 : DC mi_X8_cutSign 46 (.aload_n 0) 1 47 := ⟨by decide +kernel, rfl⟩
theorem d_X8_cutSign_47 : DC mi_X8_cutSign 47 (.aload_n 1) 1 48 := ⟨by decide +kernel, rfl⟩
theorem d_X8_cutSign_48 : DC mi_X8_cutSign 48 (.iload_n 2) 1 49 := ⟨by decide +kernel, rfl⟩
theorem d_X8_cutSign_49 : DC mi_X8_cutSign 49 (.baload) 1 50 := ⟨by decide +kernel, rfl⟩
theorem d_X8_cutSign_50 : DC mi_X8_cutSign 50 (.invokestatic 71) 3 53 := ⟨by decide +kernel, rfl⟩
theorem d_X8_cutSign_53 : DC mi_X8_cutSign 53 (.iload_n 2) 1 54 := ⟨by decide +kernel, rfl⟩
theorem d_X8_cutSign_54 : DC mi_X8_cutSign 54 (.iconst 0) 1 55 := ⟨by decide +kernel, rfl⟩
theorem d_X8_cutSign_55 : DC mi_X8_cutSign 55 (.invokevirtual 42) 3 58 := ⟨by decide +kernel, rfl⟩
theorem d_X8_cutSign_58 : DC mi_X8_cutSign 58 (.iload_n 2) 1 59 := ⟨by decide +kernel, rfl⟩
theorem d_X8_cutSign_59 : DC mi_X8_cutSign 59 (.iconst 1) 1 60 := ⟨by decide +kernel, rfl⟩
theorem d_X8_cutSign_60 : DC mi_X8_cutSign 60 (.iadd) 1 61 := ⟨by decide +kernel, rfl⟩
theorem d_X8_cutSign_61 : DC mi_X8_cutSign 61 (.ireturn) 1 62 := ⟨by decide +kernel, rfl⟩
set_option maxHeartbeats 4000000 in
set_option maxRecDepth 100000 in
theorem sp_X8_cutSign (d : Nat) (hd : 1 ≤ d) (a1 : Int32) (a2 : Int32) (h : HH) : Sp mi_X8_cutSign d iI [.ref 25, .ref 1, .int a1, .int a2] h (g_X8_cutSign a1 a2 h) := by
  refine sp_of (lc := [(0, .ref 25), (1, .ref 1), (2, .int a1), (3, .int a2)]) (by decide) (Nat.le_of_ble_eq_true rfl) rfl ?_
  unfold g_X8_cutSign
  refine sx_iload_n d_X8_cutSign_0 2 rfl ?_
  refine sx_iconst d_X8_cutSign_1 ic1 ?_
  refine sx_iadd d_X8_cutSign_2 ?_
  refine sx_iload_n d_X8_cutSign_3 3 rfl ?_
  refine sx_jn (fun j => ∀ (y4 : Int32) (h : HH), Sx mi_X8_cutSign d iI (j y4 h) 16 [(0, .ref 25), (1, .ref 1), (2, .int a1)] [.int y4] h) ?_ ?_
  · intro y4 h3
    refine sx_istore (i := 4) (lc' := [(4, .int y4), (0, .ref 25), (1, .ref 1), (2, .int a1)]) d_X8_cutSign_16 (by decide) rfl ?_
    refine sx_aload_n d_X8_cutSign_18 2 rfl ?_
    refine sx_iload_n d_X8_cutSign_19 3 rfl ?_
    refine sx_bald sh_1 d_X8_cutSign_20 (fun v5 => ?_)
    refine sx_iload d_X8_cutSign_21 0 rfl ?_
    refine sx_callS [.int v5, .int y4] ms_X8_doubleKind lM_StairCount_Tokens_68 (by omega) rfl rfl (Nat.le_of_ble_eq_true rfl) d_X8_cutSign_23 (sp_X8_doubleKind (d - 1) (by omega) v5 y4 h3) (fun r7 h6 => ?_)
    refine sx_istore (i := 5) (lc' := [(5, .int r7), (4, .int y4), (0, .ref 25), (1, .ref 1), (2, .int a1)]) d_X8_cutSign_26 (by decide) rfl ?_
    refine sx_iload d_X8_cutSign_28 0 rfl ?_
    refine sx_iconst d_X8_cutSign_30 ic1 ?_
    refine sx_icmp_eq d_X8_cutSign_31 ?_ ?_
    · refine sx_aload_n d_X8_cutSign_46 2 rfl ?_
      refine sx_aload_n d_X8_cutSign_47 3 rfl ?_
      refine sx_iload_n d_X8_cutSign_48 4 rfl ?_
      refine sx_bald sh_1 d_X8_cutSign_49 (fun v8 => ?_)
      refine sx_callS [.int v8] ms_X8_singleKind lM_StairCount_Tokens_71 (by omega) rfl rfl (Nat.le_of_ble_eq_true rfl) d_X8_cutSign_50 (sp_X8_singleKind (d - 1) (by omega) v8 h6) (fun r10 h9 => ?_)
      refine sx_iload_n d_X8_cutSign_53 4 rfl ?_
      refine sx_iconst d_X8_cutSign_54 ic0 ?_
      refine sx_callV [.int r10, .int a1, .int (0 : Int32)] mv_X8_put lM_StairCount_Tokens_42 sh_25 (by omega) rfl rfl (Nat.le_of_ble_eq_true rfl) d_X8_cutSign_55 (sp_X8_put (d - 1) (by omega) r10 a1 (0 : Int32) h9) (fun _ h11 => ?_)
      refine sx_iload_n d_X8_cutSign_58 4 rfl ?_
      refine sx_iconst d_X8_cutSign_59 ic1 ?_
      refine sx_iadd d_X8_cutSign_60 ?_
      exact sx_iret rfl d_X8_cutSign_61
    · refine sx_aload_n d_X8_cutSign_34 2 rfl ?_
      refine sx_iload d_X8_cutSign_35 0 rfl ?_
      refine sx_iload_n d_X8_cutSign_37 4 rfl ?_
      refine sx_iconst d_X8_cutSign_38 ic0 ?_
      refine sx_callV [.int r7, .int a1, .int (0 : Int32)] mv_X8_put lM_StairCount_Tokens_42 sh_25 (by omega) rfl rfl (Nat.le_of_ble_eq_true rfl) d_X8_cutSign_39 (sp_X8_put (d - 1) (by omega) r7 a1 (0 : Int32) h6) (fun _ h13 => ?_)
      refine sx_iload_n d_X8_cutSign_42 4 rfl ?_
      refine sx_iconst d_X8_cutSign_43 ic2 ?_
      refine sx_iadd d_X8_cutSign_44 ?_
      exact sx_iret rfl d_X8_cutSign_45
  · intro j1 k2
    refine sx_icmp_ge d_X8_cutSign_4 ?_ ?_
    · refine sx_aload_n d_X8_cutSign_7 1 rfl ?_
      refine sx_iload_n d_X8_cutSign_8 2 rfl ?_
      refine sx_iconst d_X8_cutSign_9 ic1 ?_
      refine sx_iadd d_X8_cutSign_10 ?_
      refine sx_bald sh_1 d_X8_cutSign_11 (fun v15 => ?_)
      refine sx_goto d_X8_cutSign_12 ?_
      refine sx_lc (lc' := [(0, .ref 25), (1, .ref 1), (2, .int a1)]) [0, 1, 2] rfl ?_
      exact k2 v15 h
    · refine sx_iconst d_X8_cutSign_15 ic0 ?_
      refine sx_lc (lc' := [(0, .ref 25), (1, .ref 1), (2, .int a1)]) [0, 1, 2] rfl ?_
      exact k2 (0 : Int32) h
theorem d_X8_isLetter_0 : DC mi_X8_isLetter 0 (.iload_n 0) 1 1 := ⟨by decide +kernel, rfl⟩
theorem d_X8_isLetter_1 : DC mi_X8_isLetter 1 (.bipush 97) 2 3 := ⟨by decide +kernel, rfl⟩
theorem d_X8_isLetter_3 : DB mi_X8_isLetter 3 (.if_icmp .lt 13) 13 6 16 := ⟨by decide +kernel, rfl, by decide⟩
theorem d_X8_isLetter_6 : DC mi_X8_isLetter 6 (.iload_n 0) 1 7 := ⟨by decide +kernel, rfl⟩
theorem d_X8_isLetter_7 : DC mi_X8_isLetter 7 (.bipush 122) 2 9 := ⟨by decide +kernel, rfl⟩
theorem d_X8_isLetter_9 : DB mi_X8_isLetter 9 (.if_icmp .gt 7) 7 12 16 := ⟨by decide +kernel, rfl, by decide⟩
theorem d_X8_isLetter_12 : DC mi_X8_isLetter 12 (.iconst 1) 1 13 := ⟨by decide +kernel, rfl⟩
theorem d_X8_isLetter_13 : DB mi_X8_isLetter 13 (.goto 4) 4 16 17 := ⟨by decide +kernel, rfl, by decide⟩
theorem d_X8_isLetter_16 : DC mi_X8_isLetter 16 (.iconst 0) 1 17 := ⟨by decide +kernel, rfl⟩
theorem d_X8_isLetter_17 : DC mi_X8_isLetter 17 (.ireturn) 1 18 := ⟨by decide +kernel, rfl⟩
set_option maxHeartbeats 4000000 in
set_option maxRecDepth 100000 in
theorem sp_X8_isLetter (d : Nat) (hd : 0 ≤ d) (a0 : Int32) (h : HH) : Sp mi_X8_isLetter d iI [.int a0] h (g_X8_isLetter a0 h) := by
  refine sp_of (lc := [(0, .int a0)]) (by decide) (Nat.le_of_ble_eq_true rfl) rfl ?_
  unfold g_X8_isLetter
  refine sx_iload_n d_X8_isLetter_0 0 rfl ?_
  refine sx_bipush d_X8_isLetter_1 bc97 ?_
  refine sx_icmp_lt d_X8_isLetter_3 ?_ ?_
  · refine sx_iconst d_X8_isLetter_16 ic0 ?_
    exact sx_zret (by decide) rfl d_X8_isLetter_17
  · refine sx_iload_n d_X8_isLetter_6 0 rfl ?_
    refine sx_bipush d_X8_isLetter_7 bc122 ?_
    refine sx_icmp_gt d_X8_isLetter_9 ?_ ?_
    · refine sx_iconst d_X8_isLetter_16 ic0 ?_
      exact sx_zret (by decide) rfl d_X8_isLetter_17
    · refine sx_iconst d_X8_isLetter_12 ic1 ?_
      refine sx_goto d_X8_isLetter_13 ?_
      exact sx_zret (by decide) rfl d_X8_isLetter_17
theorem d_X8_kindOf_0 : DC mi_X8_kindOf 0 (.iconst 0) 1 1 := ⟨by decide +kernel, rfl⟩
theorem d_X8_kindOf_1 : DC mi_X8_kindOf 1 (.istore_n 1) 1 2 := ⟨by decide +kernel, rfl⟩
theorem d_X8_kindOf_2 : DC mi_X8_kindOf 2 (.iload_n 1) 1 3 := ⟨by decide +kernel, rfl⟩
theorem d_X8_kindOf_3 : DC mi_X8_kindOf 3 (.bipush 6) 2 5 := ⟨by decide +kernel, rfl⟩
theorem d_X8_kindOf_5 : DC mi_X8_kindOf 5 (.imul) 1 6 := ⟨by decide +kernel, rfl⟩
theorem d_X8_kindOf_6 : DC mi_X8_kindOf 6 (.ldc 57) 2 8 := ⟨by decide +kernel, rfl⟩
theorem d_X8_kindOf_8 : DC mi_X8_kindOf 8 (.invokevirtual 59) 3 11 := ⟨by decide +kernel, rfl⟩
theorem d_X8_kindOf_11 : DB mi_X8_kindOf 11 (.if_icmp .ge 72) 72 14 83 := ⟨by decide +kernel, rfl, by decide⟩
theorem d_X8_kindOf_14 : DC mi_X8_kindOf 14 (.iconst 0) 1 15 := ⟨by decide +kernel, rfl⟩
theorem d_X8_kindOf_15 : DC mi_X8_kindOf 15 (.istore_n 2) 1 16 := ⟨by decide +kernel, rfl⟩
theorem d_X8_kindOf_16 : DC mi_X8_kindOf 16 (.iconst 0) 1 17 := ⟨by decide +kernel, rfl⟩
theorem d_X8_kindOf_17 : DC mi_X8_kindOf 17 (.istore_n 3) 1 18 := ⟨by decide +kernel, rfl⟩
theorem d_X8_kindOf_18 : DC mi_X8_kindOf 18 (.iload_n 3) 1 19 := ⟨by decide +kernel, rfl⟩
theorem d_X8_kindOf_19 : DC mi_X8_kindOf 19 (.bipush 6) 2 21 := ⟨by decide +kernel, rfl⟩
theorem d_X8_kindOf_21 : DB mi_X8_kindOf 21 (.if_icmp .ge 46) 46 24 67 := ⟨by decide +kernel, rfl, by decide⟩
theorem d_X8_kindOf_24 : DC mi_X8_kindOf 24 (.ldc 57) 2 26 := ⟨by decide +kernel, rfl⟩
theorem d_X8_kindOf_26 : DC mi_X8_kindOf 26 (.iload_n 1) 1 27 := ⟨by decide +kernel, rfl⟩
theorem d_X8_kindOf_27 : DC mi_X8_kindOf 27 (.bipush 6) 2 29 := ⟨by decide +kernel, rfl⟩
theorem d_X8_kindOf_29 : DC mi_X8_kindOf 29 (.imul) 1 30 := ⟨by decide +kernel, rfl⟩
theorem d_X8_kindOf_30 : DC mi_X8_kindOf 30 (.iload_n 3) 1 31 := ⟨by decide +kernel, rfl⟩
theorem d_X8_kindOf_31 : DC mi_X8_kindOf 31 (.iadd) 1 32 := ⟨by decide +kernel, rfl⟩
theorem d_X8_kindOf_32 : DC mi_X8_kindOf 32 (.invokevirtual 64) 3 35 := ⟨by decide +kernel, rfl⟩
theorem d_X8_kindOf_35 : DC mi_X8_kindOf 35 (.istore 4) 2 37 := ⟨by decide +kernel, rfl⟩
theorem d_X8_kindOf_37 : DC mi_X8_kindOf 37 (.iload_n 2) 1 38 := ⟨by decide +kernel, rfl⟩
theorem d_X8_kindOf_38 : DC mi_X8_kindOf 38 (.iconst 5) 1 39 := ⟨by decide +kernel, rfl⟩
theorem d_X8_kindOf_39 : DC mi_X8_kindOf 39 (.ishl) 1 40 := ⟨by decide +kernel, rfl⟩
theorem d_X8_kindOf_40 : DC mi_X8_kindOf 40 (.iload 4) 2 42 := ⟨by decide +kernel, rfl⟩
theorem d_X8_kindOf_42 : DC mi_X8_kindOf 42 (.invokestatic 33) 3 45 := ⟨by decide +kernel, rfl⟩
theorem d_X8_kindOf_45 : DB mi_X8_kindOf 45 (.ifCond .eq 13) 13 48 58 := ⟨by decide +kernel, rfl, by decide⟩
theorem d_X8_kindOf_48 : DC mi_X8_kindOf 48 (.iload 4) 2 50 := ⟨by decide +kernel, rfl⟩
theorem d_X8_kindOf_50 : DC mi_X8_kindOf 50 (.bipush 97) 2 52 := ⟨by decide +kernel, rfl⟩
theorem d_X8_kindOf_52 : DC mi_X8_kindOf 52 (.isub) 1 53 := ⟨by decide +kernel, rfl⟩
theorem d_X8_kindOf_53 : DC mi_X8_kindOf 53 (.iconst 1) 1 54 := ⟨by decide +kernel, rfl⟩
theorem d_X8_kindOf_54 : DC mi_X8_kindOf 54 (.iadd) 1 55 := ⟨by decide +kernel, rfl⟩
theorem d_X8_kindOf_55 : DB mi_X8_kindOf 55 (.goto 4) 4 58 59 := ⟨by decide +kernel, rfl, by decide⟩
theorem d_X8_kindOf_58 : DC mi_X8_kindOf 58 (.iconst 0) 1 59 := ⟨by decide +kernel, rfl⟩
theorem d_X8_kindOf_59 : DC mi_X8_kindOf 59 (.ior) 1 60 := ⟨by decide +kernel, rfl⟩
theorem d_X8_kindOf_60 : DC mi_X8_kindOf 60 (.istore_n 2) 1 61 := ⟨by decide +kernel, rfl⟩
theorem d_X8_kindOf_61 : DC mi_X8_kindOf 61 (.iinc 3 1) 3 64 := ⟨by decide +kernel, rfl⟩
theorem d_X8_kindOf_64 : DB mi_X8_kindOf 64 (.goto (-46)) (-46) 67 18 := ⟨by decide +kernel, rfl, by decide⟩
theorem d_X8_kindOf_67 : DC mi_X8_kindOf 67 (.iload_n 2) 1 68 := ⟨by decide +kernel, rfl⟩
theorem d_X8_kindOf_68 : DC mi_X8_kindOf 68 (.iload_n 0) 1 69 := ⟨by decide +kernel, rfl⟩
theorem d_X8_kindOf_69 : DB mi_X8_kindOf 69 (.if_icmp .ne 8) 8 72 77 := ⟨by decide +kernel, rfl, by decide⟩
theorem d_X8_kindOf_72 : DC mi_X8_kindOf 72 (.bipush 17) 2 74 := ⟨by decide +kernel, rfl⟩
theorem d_X8_kindOf_74 : DC mi_X8_kindOf 74 (.iload_n 1) 1 75 := ⟨by decide +kernel, rfl⟩
theorem d_X8_kindOf_75 : DC mi_X8_kindOf 75 (.iadd) 1 76 := ⟨by decide +kernel, rfl⟩
theorem d_X8_kindOf_76 : DC mi_X8_kindOf 76 (.ireturn) 1 77 := ⟨by decide +kernel, rfl⟩
theorem d_X8_kindOf_77 : DC mi_X8_kindOf 77 (.iinc 1 1) 3 80 := ⟨by decide +kernel, rfl⟩
theorem d_X8_kindOf_80 : DB mi_X8_kindOf 80 (.goto (-78)) (-78) 83 2 := ⟨by decide +kernel, rfl, by decide⟩
theorem d_X8_kindOf_83 : DC mi_X8_kindOf 83 (.iconst 3) 1 84 := ⟨by decide +kernel, rfl⟩
theorem d_X8_kindOf_84 : DC mi_X8_kindOf 84 (.ireturn) 1 85 := ⟨by decide +kernel, rfl⟩
set_option maxHeartbeats 4000000 in
set_option maxRecDepth 100000 in
theorem sL_X8_kindOf_18 (d : Nat) (hd : 6 ≤ d) (K67 : Int32 → HH → Option (Int32 × HH)) (c0 : Int32) (c1 : Int32) (hK67 : ∀ (z2 : Int32) (h : HH), Sx mi_X8_kindOf d iI (K67 z2 h) 67 [(0, .int c0), (1, .int c1), (2, .int z2)] [] h) : ∀ (n : Nat) (x2 : Int32) (x3 : Int32) (h : HH), Sx mi_X8_kindOf d iI (g_X8_kindOf_L18 K67 c0 c1 n x2 x3 h) 18 [(0, .int c0), (1, .int c1), (2, .int x2), (3, .int x3)] [] h := by
  intro n
  induction n with
  | zero => intro x2 x3 h; exact sx_none
  | succ n ih =>
    intro x2 x3 h
    rw [g_X8_kindOf_L18]
    refine sx_iload_n d_X8_kindOf_18 3 rfl ?_
    refine sx_bipush d_X8_kindOf_19 bc6 ?_
    refine sx_icmp_ge d_X8_kindOf_21 ?_ ?_
    · refine sx_ldcS (i := 0) rfl rfl d_X8_kindOf_24 ?_
      refine sx_iload_n d_X8_kindOf_26 1 rfl ?_
      refine sx_bipush d_X8_kindOf_27 bc6 ?_
      refine sx_imul d_X8_kindOf_29 ?_
      refine sx_iload_n d_X8_kindOf_30 3 rfl ?_
      refine sx_iadd d_X8_kindOf_31 ?_
      refine sx_char (i := 0) (by decide) lM_StairCount_Tokens_64 (by omega) (Nat.le_of_ble_eq_true rfl) d_X8_kindOf_32 (fun v1 => ?_)
      refine sx_istore (i := 4) (lc' := [(4, .int v1), (0, .int c0), (1, .int c1), (2, .int x2), (3, .int x3)]) d_X8_kindOf_35 (by decide) rfl ?_
      refine sx_iload_n d_X8_kindOf_37 3 rfl ?_
      refine sx_iconst d_X8_kindOf_38 ic5 ?_
      refine sx_ishl d_X8_kindOf_39 ?_
      refine sx_iload d_X8_kindOf_40 0 rfl ?_
      refine sx_callS [.int v1] ms_X8_isLetter lM_StairCount_Tokens_33 (by omega) rfl rfl (Nat.le_of_ble_eq_true rfl) d_X8_kindOf_42 (sp_X8_isLetter (d - 1) (by omega) v1 h) (fun r3 h2 => ?_)
      refine sx_jn (fun j => ∀ (y7 : Int32) (h : HH), Sx mi_X8_kindOf d iI (j y7 h) 59 [(0, .int c0), (1, .int c1), (3, .int x3)] [.int y7, .int (x2 <<< ((5 : Int32) &&& 31))] h) ?_ ?_
      · intro y7 h6
        refine sx_ior d_X8_kindOf_59 ?_
        refine sx_vlI (fun v8 => ?_)
        refine sx_istore_n (i := 2) (lc' := [(2, .int v8), (0, .int c0), (1, .int c1), (3, .int x3)]) d_X8_kindOf_60 rfl (by decide) rfl ?_
        refine sx_iincV (lc' := fun v9 => [(3, .int v9), (2, .int v8), (0, .int c0), (1, .int c1)]) (k0 := 3) d_X8_kindOf_61 rfl ii1 (by decide) (fun _ => rfl) (fun v9 => ?_)
        refine sx_goto d_X8_kindOf_64 ?_
        refine sx_lc (lc' := [(0, .int c0), (1, .int c1), (2, .int v8), (3, .int v9)]) [2, 3, 1, 0] rfl ?_
        exact ih v8 v9 h6
      · intro j4 k5
        refine sx_if_eq d_X8_kindOf_45 ?_ ?_
        · refine sx_iconst d_X8_kindOf_58 ic0 ?_
          refine sx_lc (lc' := [(0, .int c0), (1, .int c1), (3, .int x3)]) [1, 2, 4] rfl ?_
          exact k5 (0 : Int32) h2
        · refine sx_iload d_X8_kindOf_48 0 rfl ?_
          refine sx_bipush d_X8_kindOf_50 bc97 ?_
          refine sx_isub d_X8_kindOf_52 ?_
          refine sx_iconst d_X8_kindOf_53 ic1 ?_
          refine sx_iadd d_X8_kindOf_54 ?_
          refine sx_goto d_X8_kindOf_55 ?_
          refine sx_lc (lc' := [(0, .int c0), (1, .int c1), (3, .int x3)]) [1, 2, 4] rfl ?_
          exact k5 ((v1 - (97 : Int32)) + (1 : Int32)) h2
    · refine sx_lc (lc' := [(0, .int c0), (1, .int c1), (2, .int x2)]) [0, 1, 2] rfl ?_
      exact hK67 x2 h
set_option maxHeartbeats 4000000 in
set_option maxRecDepth 100000 in
theorem sL_X8_kindOf_2 (d : Nat) (hd : 6 ≤ d) (c0 : Int32) : ∀ (n : Nat) (x1 : Int32) (h : HH), Sx mi_X8_kindOf d iI (g_X8_kindOf_L2 c0 n x1 h) 2 [(0, .int c0), (1, .int x1)] [] h := by
  intro n
  induction n with
  | zero => intro x1 h; exact sx_none
  | succ n ih =>
    intro x1 h
    rw [g_X8_kindOf_L2]
    refine sx_iload_n d_X8_kindOf_2 1 rfl ?_
    refine sx_bipush d_X8_kindOf_3 bc6 ?_
    refine sx_imul d_X8_kindOf_5 ?_
    refine sx_ldcS (i := 0) rfl rfl d_X8_kindOf_6 ?_
    refine sx_slen (i := 0) (v := (144 : Int32)) rfl nl144 lM_StairCount_Tokens_59 (by omega) (Nat.le_of_ble_eq_true rfl) d_X8_kindOf_8 ?_
    refine sx_icmp_ge d_X8_kindOf_11 ?_ ?_
    · refine sx_iconst d_X8_kindOf_14 ic0 ?_
      refine sx_istore_n (i := 2) (lc' := [(2, .int (0 : Int32)), (0, .int c0), (1, .int x1)]) d_X8_kindOf_15 rfl (by decide) rfl ?_
      refine sx_iconst d_X8_kindOf_16 ic0 ?_
      refine sx_istore_n (i := 3) (lc' := [(3, .int (0 : Int32)), (2, .int (0 : Int32)), (0, .int c0), (1, .int x1)]) d_X8_kindOf_17 rfl (by decide) rfl ?_
      refine sx_lc (lc' := [(0, .int c0), (1, .int x1), (2, .int (0 : Int32)), (3, .int (0 : Int32))]) [2, 3, 1, 0] rfl ?_
      refine sL_X8_kindOf_18 d hd _ c0 x1 ?_ 1024 (0 : Int32) (0 : Int32) h
      · intro z11 h10
        refine sx_iload_n d_X8_kindOf_67 2 rfl ?_
        refine sx_iload_n d_X8_kindOf_68 0 rfl ?_
        refine sx_icmp_ne d_X8_kindOf_69 ?_ ?_
        · refine sx_bipush d_X8_kindOf_72 bc17 ?_
          refine sx_iload_n d_X8_kindOf_74 1 rfl ?_
          refine sx_iadd d_X8_kindOf_75 ?_
          exact sx_iret rfl d_X8_kindOf_76
        · refine sx_iincV (lc' := fun v12 => [(1, .int v12), (0, .int c0), (2, .int z11)]) (k0 := 1) d_X8_kindOf_77 rfl ii1 (by decide) (fun _ => rfl) (fun v12 => ?_)
          refine sx_goto d_X8_kindOf_80 ?_
          refine sx_lc (lc' := [(0, .int c0), (1, .int v12)]) [1, 0] rfl ?_
          exact ih v12 h10
    · refine sx_iconst d_X8_kindOf_83 ic3 ?_
      exact sx_iret rfl d_X8_kindOf_84
set_option maxHeartbeats 4000000 in
set_option maxRecDepth 100000 in
theorem sp_X8_kindOf (d : Nat) (hd : 6 ≤ d) (a0 : Int32) (h : HH) : Sp mi_X8_kindOf d iI [.int a0] h (g_X8_kindOf a0 h) := by
  refine sp_of (lc := [(0, .int a0)]) (by decide) (Nat.le_of_ble_eq_true rfl) rfl ?_
  unfold g_X8_kindOf
  refine sx_iconst d_X8_kindOf_0 ic0 ?_
  refine sx_istore_n (i := 1) (lc' := [(1, .int (0 : Int32)), (0, .int a0)]) d_X8_kindOf_1 rfl (by decide) rfl ?_
  refine sx_lc (lc' := [(0, .int a0), (1, .int (0 : Int32))]) [1, 0] rfl ?_
  refine sL_X8_kindOf_2 d hd a0 1024 (0 : Int32) h
theorem d_X8_cutWord_0 : DC mi_X8_cutWord 0 (.iconst 0) 1 1 := ⟨by decide +kernel, rfl⟩
theorem d_X8_cutWord_1 : DC mi_X8_cutWord 1 (.istore 4) 2 3 := ⟨by decide +kernel, rfl⟩
theorem d_X8_cutWord_3 : DC mi_X8_cutWord 3 (.iload_n 2) 1 4 := ⟨by decide +kernel, rfl⟩
theorem d_X8_cutWord_4 : DC mi_X8_cutWord 4 (.istore 5) 2 6 := ⟨by decide +kernel, rfl⟩
theorem d_X8_cutWord_6 : DC mi_X8_cutWord 6 (.iload 5) 2 8 := ⟨by decide +kernel, rfl⟩
theorem d_X8_cutWord_8 : DC mi_X8_cutWord 8 (.iload_n 3) 1 9 := ⟨by decide +kernel, rfl⟩
theorem d_X8_cutWord_9 : DB mi_X8_cutWord 9 (.if_icmp .ge 51) 51 12 60 := ⟨by decide +kernel, rfl, by decide⟩
theorem d_X8_cutWord_12 : DC mi_X8_cutWord 12 (.aload_n 1) 1 13 := ⟨by decide +kernel, rfl⟩
theorem d_X8_cutWord_13 : DC mi_X8_cutWord 13 (.iload 5) 2 15 := ⟨by decide +kernel, rfl⟩
theorem d_X8_cutWord_15 : DC mi_X8_cutWord 15 (.baload) 1 16 := ⟨by decide +kernel, rfl⟩
theorem d_X8_cutWord_16 : DC mi_X8_cutWord 16 (.invokestatic 33) 3 19 := ⟨by decide +kernel, rfl⟩
theorem d_X8_cutWord_19 : DB mi_X8_cutWord 19 (.ifCond .eq 41) 41 22 60 := ⟨by decide +kernel, rfl, by decide⟩
theorem d_X8_cutWord_22 : DC mi_X8_cutWord 22 (.iload 5) 2 24 := ⟨by decide +kernel, rfl⟩
theorem d_X8_cutWord_24 : DC mi_X8_cutWord 24 (.iload_n 2) 1 25 := ⟨by decide +kernel, rfl⟩
theorem d_X8_cutWord_25 : DC mi_X8_cutWord 25 (.isub) 1 26 := ⟨by decide +kernel, rfl⟩
theorem d_X8_cutWord_26 : DC mi_X8_cutWord 26 (.bipush 6) 2 28 := ⟨by decide +kernel, rfl⟩
theorem d_X8_cutWord_28 : DB mi_X8_cutWord 28 (.if_icmp .ge 26) 26 31 54 := ⟨by decide +kernel, rfl, by decide⟩
theorem d_X8_cutWord_31 : DC mi_X8_cutWord 31 (.iload 4) 2 33 := ⟨by decide +kernel, rfl⟩
theorem d_X8_cutWord_33 : DC mi_X8_cutWord 33 (.aload_n 1) 1 34 := ⟨by decide +kernel, rfl⟩
theorem d_X8_cutWord_34 : DC mi_X8_cutWord 34 (.iload 5) 2 36 := ⟨by decide +kernel, rfl⟩
theorem d_X8_cutWord_36 : DC mi_X8_cutWord 36 (.baload) 1 37 := ⟨by decide +kernel, rfl⟩
theorem d_X8_cutWord_37 : DC mi_X8_cutWord 37 (.bipush 97) 2 39 := ⟨by decide +kernel, rfl⟩
theorem d_X8_cutWord_39 : DC mi_X8_cutWord 39 (.isub) 1 40 := ⟨by decide +kernel, rfl⟩
theorem d_X8_cutWord_40 : DC mi_X8_cutWord 40 (.iconst 1) 1 41 := ⟨by decide +kernel, rfl⟩
theorem d_X8_cutWord_41 : DC mi_X8_cutWord 41 (.iadd) 1 42 := ⟨by decide +kernel, rfl⟩
theorem d_X8_cutWord_42 : DC mi_X8_cutWord 42 (.iconst 5) 1 43 := ⟨by decide +kernel, rfl⟩
theorem d_X8_cutWord_43 : DC mi_X8_cutWord 43 (.iconst 5) 1 44 := ⟨by decide +kernel, rfl⟩
theorem d_X8_cutWord_44 : DC mi_X8_cutWord 44 (.iload 5) 2 46 := ⟨by decide +kernel, rfl⟩
theorem d_X8_cutWord_46 : DC mi_X8_cutWord 46 (.iload_n 2) 1 47 := ⟨by decide +kernel, rfl⟩
theorem d_X8_cutWord_47 : DC mi_X8_cutWord 47 (.isub) 1 48 := ⟨by decide +kernel, rfl⟩
theorem d_X8_cutWord_48 : DC mi_X8_cutWord 48 (.isub) 1 49 := ⟨by decide +kernel, rfl⟩
theorem d_X8_cutWord_49 : DC mi_X8_cutWord 49 (.imul) 1 50 := ⟨by decide +kernel, rfl⟩
theorem d_X8_cutWord_50 : DC mi_X8_cutWord 50 (.ishl) 1 51 := ⟨by decide +kernel, rfl⟩
theorem d_X8_cutWord_51 : DC mi_X8_cutWord 51 (.ior) 1 52 := ⟨by decide +kernel, rfl⟩
theorem d_X8_cutWord_52 : DC mi_X8_cutWord 52 (.istore 4) 2 54 := ⟨by decide +kernel, rfl⟩
theorem d_X8_cutWord_54 : DC mi_X8_cutWord 54 (.iinc 5 1) 3 57 := ⟨by decide +kernel, rfl⟩
theorem d_X8_cutWord_57 : DB mi_X8_cutWord 57 (.goto (-51)) (-51) 60 6 := ⟨by decide +kernel, rfl, by decide⟩
theorem d_X8_cutWord_60 : DC mi_X8_cutWord 60 (.aload_n 0) 1 61 := ⟨by decide +kernel, rfl⟩
theorem d_X8_cutWord_61 : DC mi_X8_cutWord 61 (.iload 5) 2 63 := ⟨by decide +kernel, rfl⟩
theorem d_X8_cutWord_63 : DC mi_X8_cutWord 63 (.iload_n 2) 1 64 := ⟨by decide +kernel, rfl⟩
theorem d_X8_cutWord_64 : DC mi_X8_cutWord 64 (.isub) 1 65 := ⟨by decide +kernel, rfl⟩
theorem d_X8_cutWord_65 : DC mi_X8_cutWord 65 (.bipush 6) 2 67 := ⟨by decide +kernel, rfl⟩
theorem d_X8_cutWord_67 : DB mi_X8_cutWord 67 (.if_icmp .le 7) 7 70 74 := ⟨by decide +kernel, rfl, by decide⟩
theorem d_X8_cutWord_70 : DC mi_X8_cutWord 70 (.iconst 1) 1 71 := ⟨by decide +kernel, rfl⟩
theorem d_X8_cutWord_71 : DB mi_X8_cutWord 71 (.goto 8) 8 74 79 := ⟨by decide +kernel, rfl, by decide⟩
theorem d_X8_cutWord_74 : DC mi_X8_cutWord 74 (.iload 4) 2 76 := ⟨by decide +kernel, rfl⟩
theorem d_X8_cutWord_76 : DC mi_X8_cutWord 76 (.invokestatic 53) 3 79 := ⟨by decide +kernel, rfl⟩
theorem d_X8_cutWord_79 : DC mi_X8_cutWord 79 (.iload_n 2) 1 80 := ⟨by decide +kernel, rfl⟩
theorem d_X8_cutWord_80 : DC mi_X8_cutWord 80 (.iload 4) 2 82 := ⟨by decide +kernel, rfl⟩
theorem d_X8_cutWord_82 : DC mi_X8_cutWord 82 (.invokevirtual 42) 3 85 := ⟨by decide +kernel, rfl⟩
theorem d_X8_cutWord_85 : DC mi_X8_cutWord 85 (.iload 5) 2 87 := ⟨by decide +kernel, rfl⟩
theorem d_X8_cutWord_87 : DC mi_X8_cutWord 87 (.ireturn) 1 88 := ⟨by decide +kernel, rfl⟩
set_option maxHeartbeats 4000000 in
set_option maxRecDepth 100000 in
theorem sL_X8_cutWord_6 (d : Nat) (hd : 7 ≤ d) (K60 : Int32 → Int32 → HH → Option (Int32 × HH)) (c2 : Int32) (c3 : Int32) (hK60 : ∀ (z4 : Int32) (z5 : Int32) (h : HH), Sx mi_X8_cutWord d iI (K60 z4 z5 h) 60 [(0, .ref 25), (2, .int c2), (4, .int z4), (5, .int z5)] [] h) : ∀ (n : Nat) (x4 : Int32) (x5 : Int32) (h : HH), Sx mi_X8_cutWord d iI (g_X8_cutWord_L6 K60 c2 c3 n x4 x5 h) 6 [(0, .ref 25), (1, .ref 1), (2, .int c2), (3, .int c3), (4, .int x4), (5, .int x5)] [] h := by
  intro n
  induction n with
  | zero => intro x4 x5 h; exact sx_none
  | succ n ih =>
    intro x4 x5 h
    rw [g_X8_cutWord_L6]
    refine sx_iload d_X8_cutWord_6 5 rfl ?_
    refine sx_iload_n d_X8_cutWord_8 3 rfl ?_
    refine sx_icmp_ge d_X8_cutWord_9 ?_ ?_
    · refine sx_aload_n d_X8_cutWord_12 1 rfl ?_
      refine sx_iload d_X8_cutWord_13 5 rfl ?_
      refine sx_bald sh_1 d_X8_cutWord_15 (fun v1 => ?_)
      refine sx_callS [.int v1] ms_X8_isLetter lM_StairCount_Tokens_33 (by omega) rfl rfl (Nat.le_of_ble_eq_true rfl) d_X8_cutWord_16 (sp_X8_isLetter (d - 1) (by omega) v1 h) (fun r3 h2 => ?_)
      refine sx_if_eq d_X8_cutWord_19 ?_ ?_
      · refine sx_lc (lc' := [(0, .ref 25), (2, .int c2), (4, .int x4), (5, .int x5)]) [0, 2, 4, 5] rfl ?_
        exact hK60 x4 x5 h2
      · refine sx_iload d_X8_cutWord_22 5 rfl ?_
        refine sx_iload_n d_X8_cutWord_24 2 rfl ?_
        refine sx_isub d_X8_cutWord_25 ?_
        refine sx_bipush d_X8_cutWord_26 bc6 ?_
        refine sx_jn (fun j => ∀ (u7 : Int32) (h : HH), Sx mi_X8_cutWord d iI (j u7 h) 54 [(0, .ref 25), (1, .ref 1), (2, .int c2), (3, .int c3), (4, .int u7), (5, .int x5)] [] h) ?_ ?_
        · intro u7 h6
          refine sx_iincV (lc' := fun v8 => [(5, .int v8), (0, .ref 25), (1, .ref 1), (2, .int c2), (3, .int c3), (4, .int u7)]) (k0 := 5) d_X8_cutWord_54 rfl ii1 (by decide) (fun _ => rfl) (fun v8 => ?_)
          refine sx_goto d_X8_cutWord_57 ?_
          refine sx_lc (lc' := [(0, .ref 25), (1, .ref 1), (2, .int c2), (3, .int c3), (4, .int u7), (5, .int v8)]) [1, 2, 3, 4, 5, 0] rfl ?_
          exact ih u7 v8 h6
        · intro j4 k5
          refine sx_icmp_ge d_X8_cutWord_28 ?_ ?_
          · refine sx_iload d_X8_cutWord_31 4 rfl ?_
            refine sx_aload_n d_X8_cutWord_33 1 rfl ?_
            refine sx_iload d_X8_cutWord_34 5 rfl ?_
            refine sx_bald sh_1 d_X8_cutWord_36 (fun v9 => ?_)
            refine sx_bipush d_X8_cutWord_37 bc97 ?_
            refine sx_isub d_X8_cutWord_39 ?_
            refine sx_iconst d_X8_cutWord_40 ic1 ?_
            refine sx_iadd d_X8_cutWord_41 ?_
            refine sx_iconst d_X8_cutWord_42 ic5 ?_
            refine sx_iconst d_X8_cutWord_43 ic5 ?_
            refine sx_iload d_X8_cutWord_44 5 rfl ?_
            refine sx_iload_n d_X8_cutWord_46 2 rfl ?_
            refine sx_isub d_X8_cutWord_47 ?_
            refine sx_isub d_X8_cutWord_48 ?_
            refine sx_imul d_X8_cutWord_49 ?_
            refine sx_ishl d_X8_cutWord_50 ?_
            refine sx_ior d_X8_cutWord_51 ?_
            refine sx_vlI (fun v10 => ?_)
            refine sx_istore (i := 4) (lc' := [(4, .int v10), (0, .ref 25), (1, .ref 1), (2, .int c2), (3, .int c3), (5, .int x5)]) d_X8_cutWord_52 (by decide) rfl ?_
            refine sx_lc (lc' := [(0, .ref 25), (1, .ref 1), (2, .int c2), (3, .int c3), (4, .int v10), (5, .int x5)]) [1, 2, 3, 4, 0, 5] rfl ?_
            exact k5 v10 h2
          · exact k5 x4 h2
    · refine sx_lc (lc' := [(0, .ref 25), (2, .int c2), (4, .int x4), (5, .int x5)]) [0, 2, 4, 5] rfl ?_
      exact hK60 x4 x5 h
set_option maxHeartbeats 4000000 in
set_option maxRecDepth 100000 in
theorem sp_X8_cutWord (d : Nat) (hd : 7 ≤ d) (a1 : Int32) (a2 : Int32) (h : HH) : Sp mi_X8_cutWord d iI [.ref 25, .ref 1, .int a1, .int a2] h (g_X8_cutWord a1 a2 h) := by
  refine sp_of (lc := [(0, .ref 25), (1, .ref 1), (2, .int a1), (3, .int a2)]) (by decide) (Nat.le_of_ble_eq_true rfl) rfl ?_
  unfold g_X8_cutWord
  refine sx_iconst d_X8_cutWord_0 ic0 ?_
  refine sx_istore (i := 4) (lc' := [(4, .int (0 : Int32)), (0, .ref 25), (1, .ref 1), (2, .int a1), (3, .int a2)]) d_X8_cutWord_1 (by decide) rfl ?_
  refine sx_iload_n d_X8_cutWord_3 3 rfl ?_
  refine sx_istore (i := 5) (lc' := [(5, .int a1), (4, .int (0 : Int32)), (0, .ref 25), (1, .ref 1), (2, .int a1), (3, .int a2)]) d_X8_cutWord_4 (by decide) rfl ?_
  refine sx_lc (lc' := [(0, .ref 25), (1, .ref 1), (2, .int a1), (3, .int a2), (4, .int (0 : Int32)), (5, .int a1)]) [2, 3, 4, 5, 1, 0] rfl ?_
  refine sL_X8_cutWord_6 d hd _ a1 a2 ?_ 1024 (0 : Int32) a1 h
  · intro z12 z13 h11
    refine sx_aload_n d_X8_cutWord_60 0 rfl ?_
    refine sx_iload d_X8_cutWord_61 3 rfl ?_
    refine sx_iload_n d_X8_cutWord_63 1 rfl ?_
    refine sx_isub d_X8_cutWord_64 ?_
    refine sx_bipush d_X8_cutWord_65 bc6 ?_
    refine sx_jn (fun j => ∀ (y17 : Int32) (h : HH), Sx mi_X8_cutWord d iI (j y17 h) 79 [(2, .int a1), (4, .int z12), (5, .int z13)] [.int y17, .ref 25] h) ?_ ?_
    · intro y17 h16
      refine sx_iload_n d_X8_cutWord_79 0 rfl ?_
      refine sx_iload d_X8_cutWord_80 1 rfl ?_
      refine sx_callV [.int y17, .int a1, .int z12] mv_X8_put lM_StairCount_Tokens_42 sh_25 (by omega) rfl rfl (Nat.le_of_ble_eq_true rfl) d_X8_cutWord_82 (sp_X8_put (d - 1) (by omega) y17 a1 z12 h16) (fun _ h18 => ?_)
      refine sx_iload d_X8_cutWord_85 2 rfl ?_
      exact sx_iret rfl d_X8_cutWord_87
    · intro j14 k15
      refine sx_icmp_le d_X8_cutWord_67 ?_ ?_
      · refine sx_iconst d_X8_cutWord_70 ic1 ?_
        refine sx_goto d_X8_cutWord_71 ?_
        refine sx_lc (lc' := [(2, .int a1), (4, .int z12), (5, .int z13)]) [1, 2, 3] rfl ?_
        exact k15 (1 : Int32) h11
      · refine sx_iload d_X8_cutWord_74 2 rfl ?_
        refine sx_callS [.int z12] ms_X8_kindOf lM_StairCount_Tokens_53 (by omega) rfl rfl (Nat.le_of_ble_eq_true rfl) d_X8_cutWord_76 (sp_X8_kindOf (d - 1) (by omega) z12 h11) (fun r21 h20 => ?_)
        refine sx_lc (lc' := [(2, .int a1), (4, .int z12), (5, .int z13)]) [1, 2, 3] rfl ?_
        exact k15 r21 h20
theorem d_X8_cut_0 : DC mi_X8_cut 0 (.aload_n 0) 1 1 := ⟨by decide +kernel, rfl⟩
theorem d_X8_cut_1 : DC mi_X8_cut 1 (.iconst 0) 1 2 := ⟨by decide +kernel, rfl⟩
theorem d_X8_cut_2 : DC mi_X8_cut 2 (.putfield 21) 3 5 := ⟨by decide +kernel, rfl⟩
theorem d_X8_cut_5 : DC mi_X8_cut 5 (.iconst 0) 1 6 := ⟨by decide +kernel, rfl⟩
theorem d_X8_cut_6 : DC mi_X8_cut 6 (.istore_n 3) 1 7 := ⟨by decide +kernel, rfl⟩
theorem d_X8_cut_7 : DC mi_X8_cut 7 (.iload_n 2) 1 8 := ⟨by decide +kernel, rfl⟩
theorem d_X8_cut_8 : DC mi_X8_cut 8 (.istore 4) 2 10 := ⟨by decide +kernel, rfl⟩
theorem d_X8_cut_10 : DC mi_X8_cut 10 (.iload 4) 2 12 := ⟨by decide +kernel, rfl⟩
theorem d_X8_cut_12 : DB mi_X8_cut 12 (.ifCond .le 85) 85 15 97 := ⟨by decide +kernel, rfl, by decide⟩
theorem d_X8_cut_15 : DC mi_X8_cut 15 (.iload_n 3) 1 16 := ⟨by decide +kernel, rfl⟩
theorem d_X8_cut_16 : DC mi_X8_cut 16 (.iload_n 2) 1 17 := ⟨by decide +kernel, rfl⟩
theorem d_X8_cut_17 : DB mi_X8_cut 17 (.if_icmp .ge 80) 80 20 97 := ⟨by decide +kernel, rfl, by decide⟩
theorem d_X8_cut_20 : DC mi_X8_cut 20 (.aload_n 1) 1 21 := ⟨by decide +kernel, rfl⟩
theorem d_X8_cut_21 : DC mi_X8_cut 21 (.iload_n 3) 1 22 := ⟨by decide +kernel, rfl⟩
theorem d_X8_cut_22 : DC mi_X8_cut 22 (.baload) 1 23 := ⟨by decide +kernel, rfl⟩
theorem d_X8_cut_23 : DC mi_X8_cut 23 (.istore 5) 2 25 := ⟨by decide +kernel, rfl⟩
theorem d_X8_cut_25 : DC mi_X8_cut 25 (.iload 5) 2 27 := ⟨by decide +kernel, rfl⟩
theorem d_X8_cut_27 : DC mi_X8_cut 27 (.bipush 10) 2 29 := ⟨by decide +kernel, rfl⟩
theorem d_X8_cut_29 : DB mi_X8_cut 29 (.if_icmp .eq 10) 10 32 39 := ⟨by decide +kernel, rfl, by decide⟩
theorem d_X8_cut_32 : DC mi_X8_cut 32 (.iload 5) 2 34 := ⟨by decide +kernel, rfl⟩
theorem d_X8_cut_34 : DC mi_X8_cut 34 (.bipush 32) 2 36 := ⟨by decide +kernel, rfl⟩
theorem d_X8_cut_36 : DB mi_X8_cut 36 (.if_icmp .ne 9) 9 39 45 := ⟨by decide +kernel, rfl, by decide⟩
theorem d_X8_cut_39 : DC mi_X8_cut 39 (.iinc 3 1) 3 42 := ⟨by decide +kernel, rfl⟩
theorem d_X8_cut_42 : DB mi_X8_cut 42 (.goto 49) 49 45 91 := ⟨by decide +kernel, rfl, by decide⟩
theorem d_X8_cut_45 : DC mi_X8_cut 45 (.iload 5) 2 47 := ⟨by decide +kernel, rfl⟩
theorem d_X8_cut_47 : DC mi_X8_cut 47 (.invokestatic 25) 3 50 := ⟨by decide +kernel, rfl⟩
theorem d_X8_cut_50 : DB mi_X8_cut 50 (.ifCond .eq 14) 14 53 64 := ⟨by decide +kernel, rfl, by decide⟩
theorem d_X8_cut_53 : DC mi_X8_cut 53 (.aload_n 0) 1 54 := ⟨by decide +kernel, rfl⟩
theorem d_X8_cut_54 : DC mi_X8_cut 54 (.aload_n 1) 1 55 := ⟨by decide +kernel, rfl⟩
theorem d_X8_cut_55 : DC mi_X8_cut 55 (.iload_n 3) 1 56 := ⟨by decide +kernel, rfl⟩
theorem d_X8_cut_56 : DC mi_X8_cut 56 (.iload_n 2) 1 57 := ⟨by decide +kernel, rfl⟩
theorem d_X8_cut_57 : DC mi_X8_cut 57 (.invokevirtual 29) 3 60 := ⟨by decide +kernel, rfl⟩
theorem d_X8_cut_60 : DC mi_X8_cut 60 (.istore_n 3) 1 61 := ⟨by decide +kernel, rfl⟩
theorem d_X8_cut_61 : DB mi_X8_cut 61 (.goto 30) 30 64 91 := ⟨by decide +kernel, rfl, by decide⟩
theorem d_X8_cut_64 : DC mi_X8_cut 64 (.iload 5) 2 66 := ⟨by decide +kernel, rfl⟩
theorem d_X8_cut_66 : DC mi_X8_cut 66 (.invokestatic 33) 3 69 := ⟨by decide +kernel, rfl⟩
theorem d_X8_cut_69 : DB mi_X8_cut 69 (.ifCond .eq 14) 14 72 83 := ⟨by decide +kernel, rfl, by decide⟩
theorem d_X8_cut_72 : DC mi_X8_cut 72 (.aload_n 0) 1 73 := ⟨by decide +kernel, rfl⟩
theorem d_X8_cut_73 : DC mi_X8_cut 73 (.aload_n 1) 1 74 := ⟨by decide +kernel, rfl⟩
theorem d_X8_cut_74 : DC mi_X8_cut 74 (.iload_n 3) 1 75 := ⟨by decide +kernel, rfl⟩
theorem d_X8_cut_75 : DC mi_X8_cut 75 (.iload_n 2) 1 76 := ⟨by decide +kernel, rfl⟩
theorem d_X8_cut_76 : DC mi_X8_cut 76 (.invokevirtual 36) 3 79 := ⟨by decide +kernel, rfl⟩
theorem d_X8_cut_79 : DC mi_X8_cut 79 (.istore_n 3) 1 80 := ⟨by decide +kernel, rfl⟩
theorem d_X8_cut_80 : DB mi_X8_cut 80 (.goto 11) 11 83 91 := ⟨by decide +kernel, rfl, by decide⟩
theorem d_X8_cut_83 : DC mi_X8_cut 83 (.aload_n 0) 1 84 := ⟨by decide +kernel, rfl⟩
theorem d_X8_cut_84 : DC mi_X8_cut 84 (.aload_n 1) 1 85 := ⟨by decide +kernel, rfl⟩
theorem d_X8_cut_85 : DC mi_X8_cut 85 (.iload_n 3) 1 86 := ⟨by decide +kernel, rfl⟩
theorem d_X8_cut_86 : DC mi_X8_cut 86 (.iload_n 2) 1 87 := ⟨by decide +kernel, rfl⟩
theorem d_X8_cut_87 : DC mi_X8_cut 87 (.invokevirtual 39) 3 90 := ⟨by decide +kernel, rfl⟩
theorem d_X8_cut_90 : DC mi_X8_cut 90 (.istore_n 3) 1 91 := ⟨by decide +kernel, rfl⟩
theorem d_X8_cut_91 : DC mi_X8_cut 91 (.iinc 4 (-1)) 3 94 := ⟨by decide +kernel, rfl⟩
theorem d_X8_cut_94 : DB mi_X8_cut 94 (.goto (-84)) (-84) 97 10 := ⟨by decide +kernel, rfl, by decide⟩
theorem d_X8_cut_97 : DC mi_X8_cut 97 (.aload_n 0) 1 98 := ⟨by decide +kernel, rfl⟩
theorem d_X8_cut_98 : DC mi_X8_cut 98 (.iconst 0) 1 99 := ⟨by decide +kernel, rfl⟩
theorem d_X8_cut_99 : DC mi_X8_cut 99 (.iload_n 2) 1 100 := ⟨by decide +kernel, rfl⟩
theorem d_X8_cut_100 : DC mi_X8_cut 100 (.iconst 0) 1 101 := ⟨by decide +kernel, rfl⟩
theorem d_X8_cut_101 : DC mi_X8_cut 101 (.invokevirtual 42) 3 104 := ⟨by decide +kernel, rfl⟩
theorem d_X8_cut_104 : DC mi_X8_cut 104 (.return_) 1 105 := ⟨by decide +kernel, rfl⟩
set_option maxHeartbeats 4000000 in
set_option maxRecDepth 100000 in
theorem sL_X8_cut_10 (d : Nat) (hd : 8 ≤ d) (K97 : HH → Option (Unit × HH)) (c2 : Int32) (hK97 : ∀ (h : HH), Sx mi_X8_cut d iU (K97 h) 97 [(0, .ref 25), (2, .int c2)] [] h) : ∀ (n : Nat) (x3 : Int32) (x4 : Int32) (h : HH), Sx mi_X8_cut d iU (g_X8_cut_L10 K97 c2 n x3 x4 h) 10 [(0, .ref 25), (1, .ref 1), (2, .int c2), (3, .int x3), (4, .int x4)] [] h := by
  intro n
  induction n with
  | zero => intro x3 x4 h; exact sx_none
  | succ n ih =>
    intro x3 x4 h
    rw [g_X8_cut_L10]
    refine sx_iload d_X8_cut_10 4 rfl ?_
    refine sx_if_le d_X8_cut_12 ?_ ?_
    · refine sx_iload_n d_X8_cut_15 3 rfl ?_
      refine sx_iload_n d_X8_cut_16 2 rfl ?_
      refine sx_icmp_ge d_X8_cut_17 ?_ ?_
      · refine sx_aload_n d_X8_cut_20 1 rfl ?_
        refine sx_iload_n d_X8_cut_21 3 rfl ?_
        refine sx_bald sh_1 d_X8_cut_22 (fun v2 => ?_)
        refine sx_istore (i := 5) (lc' := [(5, .int v2), (0, .ref 25), (1, .ref 1), (2, .int c2), (3, .int x3), (4, .int x4)]) d_X8_cut_23 (by decide) rfl ?_
        refine sx_iload d_X8_cut_25 0 rfl ?_
        refine sx_bipush d_X8_cut_27 bc10 ?_
        refine sx_jn (fun j => ∀ (u6 : Int32) (h : HH), Sx mi_X8_cut d iU (j u6 h) 91 [(0, .ref 25), (1, .ref 1), (2, .int c2), (3, .int u6), (4, .int x4)] [] h) ?_ ?_
        · intro u6 h5
          refine sx_iincV (lc' := fun v7 => [(4, .int v7), (0, .ref 25), (1, .ref 1), (2, .int c2), (3, .int u6)]) (k0 := 4) d_X8_cut_91 rfl iim1 (by decide) (fun _ => rfl) (fun v7 => ?_)
          refine sx_goto d_X8_cut_94 ?_
          refine sx_lc (lc' := [(0, .ref 25), (1, .ref 1), (2, .int c2), (3, .int u6), (4, .int v7)]) [1, 2, 3, 4, 0] rfl ?_
          exact ih u6 v7 h5
        · intro j3 k4
          refine sx_jn (fun j => ∀  (h : HH), Sx mi_X8_cut d iU (j  h) 39 [(0, .ref 25), (1, .ref 1), (2, .int c2), (3, .int x3), (4, .int x4)] [] h) ?_ ?_
          · intro  h10
            refine sx_iincV (lc' := fun v11 => [(3, .int v11), (0, .ref 25), (1, .ref 1), (2, .int c2), (4, .int x4)]) (k0 := 3) d_X8_cut_39 rfl ii1 (by decide) (fun _ => rfl) (fun v11 => ?_)
            refine sx_goto d_X8_cut_42 ?_
            refine sx_lc (lc' := [(0, .ref 25), (1, .ref 1), (2, .int c2), (3, .int v11), (4, .int x4)]) [1, 2, 3, 0, 4] rfl ?_
            exact k4 v11 h10
          · intro j8 k9
            refine sx_icmp_eq d_X8_cut_29 ?_ ?_
            · refine sx_lc (lc' := [(0, .ref 25), (1, .ref 1), (2, .int c2), (3, .int x3), (4, .int x4)]) [1, 2, 3, 4, 5] rfl ?_
              exact k9 h
            · refine sx_iload d_X8_cut_32 0 rfl ?_
              refine sx_bipush d_X8_cut_34 bc32 ?_
              refine sx_icmp_ne d_X8_cut_36 ?_ ?_
              · refine sx_lc (lc' := [(0, .ref 25), (1, .ref 1), (2, .int c2), (3, .int x3), (4, .int x4)]) [1, 2, 3, 4, 5] rfl ?_
                exact k9 h
              · refine sx_iload d_X8_cut_45 0 rfl ?_
                refine sx_callS [.int v2] ms_X8_isDigit lM_StairCount_Tokens_25 (by omega) rfl rfl (Nat.le_of_ble_eq_true rfl) d_X8_cut_47 (sp_X8_isDigit (d - 1) (by omega) v2 h) (fun r13 h12 => ?_)
                refine sx_if_eq d_X8_cut_50 ?_ ?_
                · refine sx_iload d_X8_cut_64 0 rfl ?_
                  refine sx_callS [.int v2] ms_X8_isLetter lM_StairCount_Tokens_33 (by omega) rfl rfl (Nat.le_of_ble_eq_true rfl) d_X8_cut_66 (sp_X8_isLetter (d - 1) (by omega) v2 h12) (fun r15 h14 => ?_)
                  refine sx_if_eq d_X8_cut_69 ?_ ?_
                  · refine sx_aload_n d_X8_cut_83 1 rfl ?_
                    refine sx_aload_n d_X8_cut_84 2 rfl ?_
                    refine sx_iload_n d_X8_cut_85 4 rfl ?_
                    refine sx_iload_n d_X8_cut_86 3 rfl ?_
                    refine sx_callV [.ref 1, .int x3, .int c2] mv_X8_cutSign lM_StairCount_Tokens_39 sh_25 (by omega) rfl rfl (Nat.le_of_ble_eq_true rfl) d_X8_cut_87 (sp_X8_cutSign (d - 1) (by omega) x3 c2 h14) (fun r17 h16 => ?_)
                    refine sx_istore_n (i := 3) (lc' := [(3, .int r17), (5, .int v2), (0, .ref 25), (1, .ref 1), (2, .int c2), (4, .int x4)]) d_X8_cut_90 rfl (by decide) rfl ?_
                    refine sx_lc (lc' := [(0, .ref 25), (1, .ref 1), (2, .int c2), (3, .int r17), (4, .int x4)]) [2, 3, 4, 0, 5] rfl ?_
                    exact k4 r17 h16
                  · refine sx_aload_n d_X8_cut_72 1 rfl ?_
                    refine sx_aload_n d_X8_cut_73 2 rfl ?_
                    refine sx_iload_n d_X8_cut_74 4 rfl ?_
                    refine sx_iload_n d_X8_cut_75 3 rfl ?_
                    refine sx_callV [.ref 1, .int x3, .int c2] mv_X8_cutWord lM_StairCount_Tokens_36 sh_25 (by omega) rfl rfl (Nat.le_of_ble_eq_true rfl) d_X8_cut_76 (sp_X8_cutWord (d - 1) (by omega) x3 c2 h14) (fun r19 h18 => ?_)
                    refine sx_istore_n (i := 3) (lc' := [(3, .int r19), (5, .int v2), (0, .ref 25), (1, .ref 1), (2, .int c2), (4, .int x4)]) d_X8_cut_79 rfl (by decide) rfl ?_
                    refine sx_goto d_X8_cut_80 ?_
                    refine sx_lc (lc' := [(0, .ref 25), (1, .ref 1), (2, .int c2), (3, .int r19), (4, .int x4)]) [2, 3, 4, 0, 5] rfl ?_
                    exact k4 r19 h18
                · refine sx_aload_n d_X8_cut_53 1 rfl ?_
                  refine sx_aload_n d_X8_cut_54 2 rfl ?_
                  refine sx_iload_n d_X8_cut_55 4 rfl ?_
                  refine sx_iload_n d_X8_cut_56 3 rfl ?_
                  refine sx_callV [.ref 1, .int x3, .int c2] mv_X8_cutNumber lM_StairCount_Tokens_29 sh_25 (by omega) rfl rfl (Nat.le_of_ble_eq_true rfl) d_X8_cut_57 (sp_X8_cutNumber (d - 1) (by omega) x3 c2 h12) (fun r21 h20 => ?_)
                  refine sx_istore_n (i := 3) (lc' := [(3, .int r21), (5, .int v2), (0, .ref 25), (1, .ref 1), (2, .int c2), (4, .int x4)]) d_X8_cut_60 rfl (by decide) rfl ?_
                  refine sx_goto d_X8_cut_61 ?_
                  refine sx_lc (lc' := [(0, .ref 25), (1, .ref 1), (2, .int c2), (3, .int r21), (4, .int x4)]) [2, 3, 4, 0, 5] rfl ?_
                  exact k4 r21 h20
      · refine sx_lc (lc' := [(0, .ref 25), (2, .int c2)]) [0, 2] rfl ?_
        exact hK97 h
    · refine sx_lc (lc' := [(0, .ref 25), (2, .int c2)]) [0, 2] rfl ?_
      exact hK97 h
set_option maxHeartbeats 4000000 in
set_option maxRecDepth 100000 in
theorem sp_X8_cut (d : Nat) (hd : 8 ≤ d) (a1 : Int32) (h : HH) : Sp mi_X8_cut d iU [.ref 25, .ref 1, .int a1] h (g_X8_cut a1 h) := by
  refine sp_of (lc := [(0, .ref 25), (1, .ref 1), (2, .int a1)]) (by decide) (Nat.le_of_ble_eq_true rfl) rfl ?_
  unfold g_X8_cut
  refine sx_aload_n d_X8_cut_0 0 rfl ?_
  refine sx_iconst d_X8_cut_1 ic0 ?_
  refine sx_putI fl_StairCount_Tokens_21 sh_25 rfl hty_8_3 d_X8_cut_2 (fun h1 => ?_)
  refine sx_iconst d_X8_cut_5 ic0 ?_
  refine sx_istore_n (i := 3) (lc' := [(3, .int (0 : Int32)), (0, .ref 25), (1, .ref 1), (2, .int a1)]) d_X8_cut_6 rfl (by decide) rfl ?_
  refine sx_iload_n d_X8_cut_7 3 rfl ?_
  refine sx_istore (i := 4) (lc' := [(4, .int a1), (3, .int (0 : Int32)), (0, .ref 25), (1, .ref 1), (2, .int a1)]) d_X8_cut_8 (by decide) rfl ?_
  refine sx_lc (lc' := [(0, .ref 25), (1, .ref 1), (2, .int a1), (3, .int (0 : Int32)), (4, .int a1)]) [2, 3, 4, 1, 0] rfl ?_
  refine sL_X8_cut_10 d hd _ a1 ?_ 1024 (0 : Int32) a1 h1
  · intro h22
    refine sx_aload_n d_X8_cut_97 0 rfl ?_
    refine sx_iconst d_X8_cut_98 ic0 ?_
    refine sx_iload_n d_X8_cut_99 1 rfl ?_
    refine sx_iconst d_X8_cut_100 ic0 ?_
    refine sx_callV [.int (0 : Int32), .int a1, .int (0 : Int32)] mv_X8_put lM_StairCount_Tokens_42 sh_25 (by omega) rfl rfl (Nat.le_of_ble_eq_true rfl) d_X8_cut_101 (sp_X8_put (d - 1) (by omega) (0 : Int32) a1 (0 : Int32) h22) (fun _ h23 => ?_)
    exact sx_vret rfl d_X8_cut_104
theorem d_X6_read_0 : DC mi_X6_read 0 (.aload_n 0) 1 1 := ⟨by decide +kernel, rfl⟩
theorem d_X6_read_1 : DC mi_X6_read 1 (.getfield 12) 3 4 := ⟨by decide +kernel, rfl⟩
theorem d_X6_read_4 : DC mi_X6_read 4 (.aload_n 1) 1 5 := ⟨by decide +kernel, rfl⟩
theorem d_X6_read_5 : DC mi_X6_read 5 (.iload_n 2) 1 6 := ⟨by decide +kernel, rfl⟩
theorem d_X6_read_6 : DC mi_X6_read 6 (.invokevirtual 29) 3 9 := ⟨by decide +kernel, rfl⟩
theorem d_X6_read_9 : DC mi_X6_read 9 (.aload_n 0) 1 10 := ⟨by decide +kernel, rfl⟩
theorem d_X6_read_10 : DC mi_X6_read 10 (.getfield 25) 3 13 := ⟨by decide +kernel, rfl⟩
theorem d_X6_read_13 : DC mi_X6_read 13 (.invokevirtual 33) 3 16 := ⟨by decide +kernel, rfl⟩
theorem d_X6_read_16 : DC mi_X6_read 16 (.aload_n 0) 1 17 := ⟨by decide +kernel, rfl⟩
theorem d_X6_read_17 : DC mi_X6_read 17 (.iconst 0) 1 18 := ⟨by decide +kernel, rfl⟩
theorem d_X6_read_18 : DC mi_X6_read 18 (.putfield 36) 3 21 := ⟨by decide +kernel, rfl⟩
theorem d_X6_read_21 : DC mi_X6_read 21 (.aload_n 0) 1 22 := ⟨by decide +kernel, rfl⟩
theorem d_X6_read_22 : DC mi_X6_read 22 (.iconst 0) 1 23 := ⟨by decide +kernel, rfl⟩
theorem d_X6_read_23 : DC mi_X6_read 23 (.putfield 40) 3 26 := ⟨by decide +kernel, rfl⟩
theorem d_X6_read_26 : DC mi_X6_read 26 (.aload_n 0) 1 27 := ⟨by decide +kernel, rfl⟩
theorem d_X6_read_27 : DC mi_X6_read 27 (.iconst 0) 1 28 := ⟨by decide +kernel, rfl⟩
theorem d_X6_read_28 : DC mi_X6_read 28 (.putfield 43) 3 31 := ⟨by decide +kernel, rfl⟩
theorem d_X6_read_31 : DC mi_X6_read 31 (.aload_n 0) 1 32 := ⟨by decide +kernel, rfl⟩
theorem d_X6_read_32 : DC mi_X6_read 32 (.iconst 0) 1 33 := ⟨by decide +kernel, rfl⟩
theorem d_X6_read_33 : DC mi_X6_read 33 (.putfield 46) 3 36 := ⟨by decide +kernel, rfl⟩
theorem d_X6_read_36 : DC mi_X6_read 36 (.aload_n 0) 1 37 := ⟨by decide +kernel, rfl⟩
theorem d_X6_read_37 : DC mi_X6_read 37 (.iconst 0) 1 38 := ⟨by decide +kernel, rfl⟩
theorem d_X6_read_38 : DC mi_X6_read 38 (.putfield 50) 3 41 := ⟨by decide +kernel, rfl⟩
theorem d_X6_read_41 : DC mi_X6_read 41 (.aload_n 0) 1 42 := ⟨by decide +kernel, rfl⟩
theorem d_X6_read_42 : DC mi_X6_read 42 (.iconst 0) 1 43 := ⟨by decide +kernel, rfl⟩
theorem d_X6_read_43 : DC mi_X6_read 43 (.putfield 53) 3 46 := ⟨by decide +kernel, rfl⟩
theorem d_X6_read_46 : DC mi_X6_read 46 (.aload_n 0) 1 47 := ⟨by decide +kernel, rfl⟩
theorem d_X6_read_47 : DC mi_X6_read 47 (.iconst 0) 1 48 := ⟨by decide +kernel, rfl⟩
theorem d_X6_read_48 : DC mi_X6_read 48 (.putfield 56) 3 51 := ⟨by decide +kernel, rfl⟩
theorem d_X6_read_51 : DC mi_X6_read 51 (.iconst 0) 1 52 := ⟨by decide +kernel, rfl⟩
theorem d_X6_read_52 : DC mi_X6_read 52 (.istore_n 3) 1 53 := ⟨by decide +kernel, rfl⟩
theorem d_X6_read_53 : DC mi_X6_read 53 (.aload_n 0) 1 54 := ⟨by decide +kernel, rfl⟩
theorem d_X6_read_54 : DC mi_X6_read 54 (.getfield 12) 3 57 := ⟨by decide +kernel, rfl⟩
theorem d_X6_read_57 : DC mi_X6_read 57 (.getfield 59) 3 60 := ⟨by decide +kernel, rfl⟩
theorem d_X6_read_60 : DC mi_X6_read 60 (.istore 4) 2 62 := ⟨by decide +kernel, rfl⟩
theorem d_X6_read_62 : DC mi_X6_read 62 (.iload 4) 2 64 := ⟨by decide +kernel, rfl⟩
theorem d_X6_read_64 : DB mi_X6_read 64 (.ifCond .le 30) 30 67 94 := ⟨by decide +kernel, rfl, by decide⟩
theorem d_X6_read_67 : DC mi_X6_read 67 (.aload_n 0) 1 68 := ⟨by decide +kernel, rfl⟩
theorem d_X6_read_68 : DC mi_X6_read 68 (.invokevirtual 62) 3 71 := ⟨by decide +kernel, rfl⟩
theorem d_X6_read_71 : DB mi_X6_read 71 (.ifCond .eq 23) 23 74 94 := ⟨by decide +kernel, rfl, by decide⟩
theorem d_X6_read_74 : DC mi_X6_read 74 (.aload_n 0) 1 75 := ⟨by decide +kernel, rfl⟩
theorem d_X6_read_75 : DC mi_X6_read 75 (.getfield 40) 3 78 := ⟨by decide +kernel, rfl⟩
theorem d_X6_read_78 : DB mi_X6_read 78 (.ifCond .ne 16) 16 81 94 := ⟨by decide +kernel, rfl, by decide⟩
theorem d_X6_read_81 : DC mi_X6_read 81 (.aload_n 0) 1 82 := ⟨by decide +kernel, rfl⟩
theorem d_X6_read_82 : DC mi_X6_read 82 (.invokevirtual 66) 3 85 := ⟨by decide +kernel, rfl⟩
theorem d_X6_read_85 : DC mi_X6_read 85 (.iinc 3 1) 3 88 := ⟨by decide +kernel, rfl⟩
theorem d_X6_read_88 : DC mi_X6_read 88 (.iinc 4 (-1)) 3 91 := ⟨by decide +kernel, rfl⟩
theorem d_X6_read_91 : DB mi_X6_read 91 (.goto (-29)) (-29) 94 62 := ⟨by decide +kernel, rfl, by decide⟩
theorem d_X6_read_94 : DC mi_X6_read 94 (.iload_n 3) 1 95 := ⟨by decide +kernel, rfl⟩
theorem d_X6_read_95 : DC mi_X6_read 95 (.ireturn) 1 96 := ⟨by decide +kernel, rfl⟩
set_option maxHeartbeats 4000000 in
set_option maxRecDepth 100000 in
theorem sL_X6_read_62 (d : Nat) (hd : 9 ≤ d) : ∀ (n : Nat) (x3 : Int32) (x4 : Int32) (h : HH), Sx mi_X6_read d iI (g_X6_read_L62 n x3 x4 h) 62 [(0, .ref 24), (3, .int x3), (4, .int x4)] [] h := by
  intro n
  induction n with
  | zero => intro x3 x4 h; exact sx_none
  | succ n ih =>
    intro x3 x4 h
    rw [g_X6_read_L62]
    refine sx_iload d_X6_read_62 2 rfl ?_
    refine sx_if_le d_X6_read_64 ?_ ?_
    · refine sx_aload_n d_X6_read_67 0 rfl ?_
      refine sx_callV [] mv_X6_kind lM_StairCount_Reader_62 sh_24 (by omega) rfl rfl (Nat.le_of_ble_eq_true rfl) d_X6_read_68 (sp_X6_kind (d - 1) (by omega) h) (fun r15 h14 => ?_)
      refine sx_if_eq d_X6_read_71 ?_ ?_
      · refine sx_iload_n d_X6_read_94 1 rfl ?_
        exact sx_iret rfl d_X6_read_95
      · refine sx_aload_n d_X6_read_74 0 rfl ?_
        refine sx_getI fl_StairCount_Reader_40 sh_24 rfl d_X6_read_75 (fun v16 => ?_)
        refine sx_if_ne d_X6_read_78 ?_ ?_
        · refine sx_aload_n d_X6_read_81 0 rfl ?_
          refine sx_callV [] mv_X6_readLine lM_StairCount_Reader_66 sh_24 (by omega) rfl rfl (Nat.le_of_ble_eq_true rfl) d_X6_read_82 (sp_X6_readLine (d - 1) (by omega) h14) (fun _ h17 => ?_)
          refine sx_iincV (lc' := fun v19 => [(3, .int v19), (0, .ref 24), (4, .int x4)]) (k0 := 1) d_X6_read_85 rfl ii1 (by decide) (fun _ => rfl) (fun v19 => ?_)
          refine sx_iincV (lc' := fun v20 => [(4, .int v20), (3, .int v19), (0, .ref 24)]) (k0 := 2) d_X6_read_88 rfl iim1 (by decide) (fun _ => rfl) (fun v20 => ?_)
          refine sx_goto d_X6_read_91 ?_
          refine sx_lc (lc' := [(0, .ref 24), (3, .int v19), (4, .int v20)]) [2, 1, 0] rfl ?_
          exact ih v19 v20 h17
        · refine sx_iload_n d_X6_read_94 1 rfl ?_
          exact sx_iret rfl d_X6_read_95
    · refine sx_iload_n d_X6_read_94 1 rfl ?_
      exact sx_iret rfl d_X6_read_95
set_option maxHeartbeats 4000000 in
set_option maxRecDepth 100000 in
theorem sp_X6_read (d : Nat) (hd : 9 ≤ d) (a1 : Int32) (h : HH) : Sp mi_X6_read d iI [.ref 24, .ref 1, .int a1] h (g_X6_read a1 h) := by
  refine sp_of (lc := [(0, .ref 24), (1, .ref 1), (2, .int a1)]) (by decide) (Nat.le_of_ble_eq_true rfl) rfl ?_
  unfold g_X6_read
  refine sx_aload_n d_X6_read_0 0 rfl ?_
  refine sx_getF (a' := 25) fl_StairCount_Reader_12 sh_24 rfl rfl d_X6_read_1 ?_
  refine sx_aload_n d_X6_read_4 1 rfl ?_
  refine sx_iload_n d_X6_read_5 2 rfl ?_
  refine sx_callV [.ref 1, .int a1] mv_X8_cut lM_StairCount_Reader_29 sh_25 (by omega) rfl rfl (Nat.le_of_ble_eq_true rfl) d_X6_read_6 (sp_X8_cut (d - 1) (by omega) a1 h) (fun _ h1 => ?_)
  refine sx_aload_n d_X6_read_9 0 rfl ?_
  refine sx_getR fl_StairCount_Reader_25 sh_24 rfl d_X6_read_10 (fun p3 => ?_)
  refine sx_ckH (fun ep3 => ?_)
  refine sx_callV [] mv_X5_clear lM_StairCount_Reader_33 ep3 (by omega) rfl rfl (Nat.le_of_ble_eq_true rfl) d_X6_read_13 (sp_X5_clear (d - 1) (by omega) p3 h1) (fun _ h4 => ?_)
  refine sx_aload_n d_X6_read_16 0 rfl ?_
  refine sx_iconst d_X6_read_17 ic0 ?_
  refine sx_putI fl_StairCount_Reader_36 sh_24 rfl hty_6_3 d_X6_read_18 (fun h6 => ?_)
  refine sx_aload_n d_X6_read_21 0 rfl ?_
  refine sx_iconst d_X6_read_22 ic0 ?_
  refine sx_putI fl_StairCount_Reader_40 sh_24 rfl hty_6_4 d_X6_read_23 (fun h7 => ?_)
  refine sx_aload_n d_X6_read_26 0 rfl ?_
  refine sx_iconst d_X6_read_27 ic0 ?_
  refine sx_putI fl_StairCount_Reader_43 sh_24 rfl hty_6_5 d_X6_read_28 (fun h8 => ?_)
  refine sx_aload_n d_X6_read_31 0 rfl ?_
  refine sx_iconst d_X6_read_32 ic0 ?_
  refine sx_putZ (by decide) fl_StairCount_Reader_46 sh_24 rfl hty_6_6 d_X6_read_33 (fun h9 => ?_)
  refine sx_aload_n d_X6_read_36 0 rfl ?_
  refine sx_iconst d_X6_read_37 ic0 ?_
  refine sx_putZ (by decide) fl_StairCount_Reader_50 sh_24 rfl hty_6_7 d_X6_read_38 (fun h10 => ?_)
  refine sx_aload_n d_X6_read_41 0 rfl ?_
  refine sx_iconst d_X6_read_42 ic0 ?_
  refine sx_putZ (by decide) fl_StairCount_Reader_53 sh_24 rfl hty_6_8 d_X6_read_43 (fun h11 => ?_)
  refine sx_aload_n d_X6_read_46 0 rfl ?_
  refine sx_iconst d_X6_read_47 ic0 ?_
  refine sx_putI fl_StairCount_Reader_56 sh_24 rfl hty_6_11 d_X6_read_48 (fun h12 => ?_)
  refine sx_iconst d_X6_read_51 ic0 ?_
  refine sx_istore_n (i := 3) (lc' := [(3, .int (0 : Int32)), (0, .ref 24), (1, .ref 1), (2, .int a1)]) d_X6_read_52 rfl (by decide) rfl ?_
  refine sx_aload_n d_X6_read_53 1 rfl ?_
  refine sx_getF (a' := 25) fl_StairCount_Reader_12 sh_24 rfl rfl d_X6_read_54 ?_
  refine sx_getI fl_StairCount_Reader_59 sh_25 rfl d_X6_read_57 (fun v13 => ?_)
  refine sx_istore (i := 4) (lc' := [(4, .int v13), (3, .int (0 : Int32)), (0, .ref 24), (1, .ref 1), (2, .int a1)]) d_X6_read_60 (by decide) rfl ?_
  refine sx_lc (lc' := [(0, .ref 24), (3, .int (0 : Int32)), (4, .int v13)]) [2, 1, 0] rfl ?_
  refine sL_X6_read_62 d hd  1024 (0 : Int32) v13 h12
theorem d_X7_tallies_0 : DC mi_X7_tallies 0 (.iconst 0) 1 1 := ⟨by decide +kernel, rfl⟩
theorem d_X7_tallies_1 : DC mi_X7_tallies 1 (.istore_n 1) 1 2 := ⟨by decide +kernel, rfl⟩
theorem d_X7_tallies_2 : DC mi_X7_tallies 2 (.iconst 0) 1 3 := ⟨by decide +kernel, rfl⟩
theorem d_X7_tallies_3 : DC mi_X7_tallies 3 (.istore_n 2) 1 4 := ⟨by decide +kernel, rfl⟩
theorem d_X7_tallies_4 : DC mi_X7_tallies 4 (.iload_n 2) 1 5 := ⟨by decide +kernel, rfl⟩
theorem d_X7_tallies_5 : DC mi_X7_tallies 5 (.aload_n 0) 1 6 := ⟨by decide +kernel, rfl⟩
theorem d_X7_tallies_6 : DC mi_X7_tallies 6 (.getfield 24) 3 9 := ⟨by decide +kernel, rfl⟩
theorem d_X7_tallies_9 : DC mi_X7_tallies 9 (.arraylength) 1 10 := ⟨by decide +kernel, rfl⟩
theorem d_X7_tallies_10 : DB mi_X7_tallies 10 (.if_icmp .ge 21) 21 13 31 := ⟨by decide +kernel, rfl, by decide⟩
theorem d_X7_tallies_13 : DC mi_X7_tallies 13 (.aload_n 0) 1 14 := ⟨by decide +kernel, rfl⟩
theorem d_X7_tallies_14 : DC mi_X7_tallies 14 (.getfield 24) 3 17 := ⟨by decide +kernel, rfl⟩
theorem d_X7_tallies_17 : DC mi_X7_tallies 17 (.iload_n 2) 1 18 := ⟨by decide +kernel, rfl⟩
theorem d_X7_tallies_18 : DC mi_X7_tallies 18 (.iaload) 1 19 := ⟨by decide +kernel, rfl⟩
theorem d_X7_tallies_19 : DB mi_X7_tallies 19 (.ifCond .eq 6) 6 22 25 := ⟨by decide +kernel, rfl, by decide⟩
theorem d_X7_tallies_22 : DC mi_X7_tallies 22 (.iinc 1 1) 3 25 := ⟨by decide +kernel, rfl⟩
theorem d_X7_tallies_25 : DC mi_X7_tallies 25 (.iinc 2 1) 3 28 := ⟨by decide +kernel, rfl⟩
theorem d_X7_tallies_28 : DB mi_X7_tallies 28 (.goto (-24)) (-24) 31 4 := ⟨by decide +kernel, rfl, by decide⟩
theorem d_X7_tallies_31 : DC mi_X7_tallies 31 (.iload_n 1) 1 32 := ⟨by decide +kernel, rfl⟩
theorem d_X7_tallies_32 : DC mi_X7_tallies 32 (.ireturn) 1 33 := ⟨by decide +kernel, rfl⟩
set_option maxHeartbeats 4000000 in
set_option maxRecDepth 100000 in
theorem sL_X7_tallies_4 (d : Nat) (hd : 0 ≤ d) (b_this : Nat) (e0 : shL[b_this]? = some (.inl 7)) : ∀ (n : Nat) (x1 : Int32) (x2 : Int32) (h : HH), Sx mi_X7_tallies d iI (g_X7_tallies_L4 b_this n x1 x2 h) 4 [(0, .ref b_this), (1, .int x1), (2, .int x2)] [] h := by
  intro n
  induction n with
  | zero => intro x1 x2 h; exact sx_none
  | succ n ih =>
    intro x1 x2 h
    rw [g_X7_tallies_L4]
    refine sx_iload_n d_X7_tallies_4 2 rfl ?_
    refine sx_aload_n d_X7_tallies_5 0 rfl ?_
    refine sx_getF (a' := (b_this + 5)) fl_StairCount_State_24 e0 rfl rfl d_X7_tallies_6 ?_
    refine sx_alen (v := (36 : Int32)) (shf_7_4 e0) nl36 d_X7_tallies_9 ?_
    refine sx_icmp_ge d_X7_tallies_10 ?_ ?_
    · refine sx_aload_n d_X7_tallies_13 0 rfl ?_
      refine sx_getF (a' := (b_this + 5)) fl_StairCount_State_24 e0 rfl rfl d_X7_tallies_14 ?_
      refine sx_iload_n d_X7_tallies_17 2 rfl ?_
      refine sx_iald (shf_7_4 e0) d_X7_tallies_18 (fun v1 => ?_)
      refine sx_jn (fun j => ∀ (u5 : Int32) (h : HH), Sx mi_X7_tallies d iI (j u5 h) 25 [(0, .ref b_this), (1, .int u5), (2, .int x2)] [] h) ?_ ?_
      · intro u5 h4
        refine sx_iincV (lc' := fun v6 => [(2, .int v6), (0, .ref b_this), (1, .int u5)]) (k0 := 2) d_X7_tallies_25 rfl ii1 (by decide) (fun _ => rfl) (fun v6 => ?_)
        refine sx_goto d_X7_tallies_28 ?_
        refine sx_lc (lc' := [(0, .ref b_this), (1, .int u5), (2, .int v6)]) [1, 2, 0] rfl ?_
        exact ih u5 v6 h4
      · intro j2 k3
        refine sx_if_eq d_X7_tallies_19 ?_ ?_
        · exact k3 x1 h
        · refine sx_iincV (lc' := fun v7 => [(1, .int v7), (0, .ref b_this), (2, .int x2)]) (k0 := 1) d_X7_tallies_22 rfl ii1 (by decide) (fun _ => rfl) (fun v7 => ?_)
          refine sx_lc (lc' := [(0, .ref b_this), (1, .int v7), (2, .int x2)]) [1, 0, 2] rfl ?_
          exact k3 v7 h
    · refine sx_iload_n d_X7_tallies_31 1 rfl ?_
      exact sx_iret rfl d_X7_tallies_32
set_option maxHeartbeats 4000000 in
set_option maxRecDepth 100000 in
theorem sp_X7_tallies (d : Nat) (hd : 0 ≤ d) (this : Nat) (h : HH) : Sp mi_X7_tallies d iI [.ref this] h (g_X7_tallies this h) := by
  refine sp_of (lc := [(0, .ref this)]) (by decide) (Nat.le_of_ble_eq_true rfl) rfl ?_
  unfold g_X7_tallies
  refine sx_ckH (fun hthis => ?_)
  refine sx_iconst d_X7_tallies_0 ic0 ?_
  refine sx_istore_n (i := 1) (lc' := [(1, .int (0 : Int32)), (0, .ref this)]) d_X7_tallies_1 rfl (by decide) rfl ?_
  refine sx_iconst d_X7_tallies_2 ic0 ?_
  refine sx_istore_n (i := 2) (lc' := [(2, .int (0 : Int32)), (1, .int (0 : Int32)), (0, .ref this)]) d_X7_tallies_3 rfl (by decide) rfl ?_
  refine sx_lc (lc' := [(0, .ref this), (1, .int (0 : Int32)), (2, .int (0 : Int32))]) [2, 1, 0] rfl ?_
  refine sL_X7_tallies_4 d hd this (hthis) 1024 (0 : Int32) (0 : Int32) h
theorem d_X7_sumOf_0 : DC mi_X7_sumOf 0 (.iconst 0) 1 1 := ⟨by decide +kernel, rfl⟩
theorem d_X7_sumOf_1 : DC mi_X7_sumOf 1 (.istore_n 1) 1 2 := ⟨by decide +kernel, rfl⟩
theorem d_X7_sumOf_2 : DC mi_X7_sumOf 2 (.iconst 0) 1 3 := ⟨by decide +kernel, rfl⟩
theorem d_X7_sumOf_3 : DC mi_X7_sumOf 3 (.istore_n 2) 1 4 := ⟨by decide +kernel, rfl⟩
theorem d_X7_sumOf_4 : DC mi_X7_sumOf 4 (.iload_n 2) 1 5 := ⟨by decide +kernel, rfl⟩
theorem d_X7_sumOf_5 : DC mi_X7_sumOf 5 (.aload_n 0) 1 6 := ⟨by decide +kernel, rfl⟩
theorem d_X7_sumOf_6 : DC mi_X7_sumOf 6 (.arraylength) 1 7 := ⟨by decide +kernel, rfl⟩
theorem d_X7_sumOf_7 : DB mi_X7_sumOf 7 (.if_icmp .ge 15) 15 10 22 := ⟨by decide +kernel, rfl, by decide⟩
theorem d_X7_sumOf_10 : DC mi_X7_sumOf 10 (.iload_n 1) 1 11 := ⟨by decide +kernel, rfl⟩
theorem d_X7_sumOf_11 : DC mi_X7_sumOf 11 (.aload_n 0) 1 12 := ⟨by decide +kernel, rfl⟩
theorem d_X7_sumOf_12 : DC mi_X7_sumOf 12 (.iload_n 2) 1 13 := ⟨by decide +kernel, rfl⟩
theorem d_X7_sumOf_13 : DC mi_X7_sumOf 13 (.iaload) 1 14 := ⟨by decide +kernel, rfl⟩
theorem d_X7_sumOf_14 : DC mi_X7_sumOf 14 (.iadd) 1 15 := ⟨by decide +kernel, rfl⟩
theorem d_X7_sumOf_15 : DC mi_X7_sumOf 15 (.istore_n 1) 1 16 := ⟨by decide +kernel, rfl⟩
theorem d_X7_sumOf_16 : DC mi_X7_sumOf 16 (.iinc 2 1) 3 19 := ⟨by decide +kernel, rfl⟩
theorem d_X7_sumOf_19 : DB mi_X7_sumOf 19 (.goto (-15)) (-15) 22 4 := ⟨by decide +kernel, rfl, by decide⟩
theorem d_X7_sumOf_22 : DC mi_X7_sumOf 22 (.iload_n 1) 1 23 := ⟨by decide +kernel, rfl⟩
theorem d_X7_sumOf_23 : DC mi_X7_sumOf 23 (.ireturn) 1 24 := ⟨by decide +kernel, rfl⟩
set_option maxHeartbeats 4000000 in
set_option maxRecDepth 100000 in
theorem sL_X7_sumOf_4 (d : Nat) (hd : 0 ≤ d) (b_a0 : Nat) (e0 : shL[b_a0]? = some (.inr (0, 6, 0))) : ∀ (n : Nat) (x1 : Int32) (x2 : Int32) (h : HH), Sx mi_X7_sumOf d iI (g_X7_sumOf_L4 b_a0 n x1 x2 h) 4 [(0, .ref b_a0), (1, .int x1), (2, .int x2)] [] h := by
  intro n
  induction n with
  | zero => intro x1 x2 h; exact sx_none
  | succ n ih =>
    intro x1 x2 h
    rw [g_X7_sumOf_L4]
    refine sx_iload_n d_X7_sumOf_4 2 rfl ?_
    refine sx_aload_n d_X7_sumOf_5 0 rfl ?_
    refine sx_alen (v := (6 : Int32)) e0 nl6 d_X7_sumOf_6 ?_
    refine sx_icmp_ge d_X7_sumOf_7 ?_ ?_
    · refine sx_iload_n d_X7_sumOf_10 1 rfl ?_
      refine sx_aload_n d_X7_sumOf_11 0 rfl ?_
      refine sx_iload_n d_X7_sumOf_12 2 rfl ?_
      refine sx_iald e0 d_X7_sumOf_13 (fun v1 => ?_)
      refine sx_iadd d_X7_sumOf_14 ?_
      refine sx_vlI (fun v2 => ?_)
      refine sx_istore_n (i := 1) (lc' := [(1, .int v2), (0, .ref b_a0), (2, .int x2)]) d_X7_sumOf_15 rfl (by decide) rfl ?_
      refine sx_iincV (lc' := fun v3 => [(2, .int v3), (1, .int v2), (0, .ref b_a0)]) (k0 := 2) d_X7_sumOf_16 rfl ii1 (by decide) (fun _ => rfl) (fun v3 => ?_)
      refine sx_goto d_X7_sumOf_19 ?_
      refine sx_lc (lc' := [(0, .ref b_a0), (1, .int v2), (2, .int v3)]) [2, 1, 0] rfl ?_
      exact ih v2 v3 h
    · refine sx_iload_n d_X7_sumOf_22 1 rfl ?_
      exact sx_iret rfl d_X7_sumOf_23
set_option maxHeartbeats 4000000 in
set_option maxRecDepth 100000 in
theorem sp_X7_sumOf (d : Nat) (hd : 0 ≤ d) (a0 : Nat) (h : HH) : Sp mi_X7_sumOf d iI [.ref a0] h (g_X7_sumOf a0 h) := by
  refine sp_of (lc := [(0, .ref a0)]) (by decide) (Nat.le_of_ble_eq_true rfl) rfl ?_
  unfold g_X7_sumOf
  refine sx_ckH (fun ha0 => ?_)
  refine sx_iconst d_X7_sumOf_0 ic0 ?_
  refine sx_istore_n (i := 1) (lc' := [(1, .int (0 : Int32)), (0, .ref a0)]) d_X7_sumOf_1 rfl (by decide) rfl ?_
  refine sx_iconst d_X7_sumOf_2 ic0 ?_
  refine sx_istore_n (i := 2) (lc' := [(2, .int (0 : Int32)), (1, .int (0 : Int32)), (0, .ref a0)]) d_X7_sumOf_3 rfl (by decide) rfl ?_
  refine sx_lc (lc' := [(0, .ref a0), (1, .int (0 : Int32)), (2, .int (0 : Int32))]) [2, 1, 0] rfl ?_
  refine sL_X7_sumOf_4 d hd a0 (ha0) 1024 (0 : Int32) (0 : Int32) h
