/-! the class made: its first heap -/
/-- what stands when both are made -/
def hI : HH := (fun a => if a = 186 then (fun k => if k = 7 then -1 else 0) else if a = 224 then (fun i => if i < 6 then nI 99 else 0) else if a = 255 then (fun k => if k = 30 ∨ k = 45 ∨ k = 46 ∨ k = 49 ∨ k = 57 then -1 else 0) else fun _ => 0, fun _ _ => 0, fun j => match j with
  | 0 => 2
  | 1 => 30
  | 2 => 202
  | 3 => 196
  | _ => 224)
theorem hI_z (k : Nat) (h1 : k ≠ 186) (h2 : k ≠ 224) (h3 : k ≠ 255) : zr hI k := ⟨by show (if k = 186 then _ else _) = _; rw [if_neg h1, if_neg h2, if_neg h3], rfl⟩
theorem hI_zz {a n : Nat} (h1 : ∀ i, i < n → a + i ≠ 186 ∧ a + i ≠ 224 ∧ a + i ≠ 255) : ∀ i, 0 ≤ i → i < n → zr hI (a + i) := fun i _ hi => hI_z _ (h1 i hi).1 (h1 i hi).2.1 (h1 i hi).2.2
def mi_X10_init : MI := (⟨RX10, "<init>", "()V"⟩, prog_1_method_1_code, 1, none)
theorem mg_X10_init : mG mi_X10_init 0 := ⟨tb_in 1 (by decide +kernel) (by decide +kernel), ⟨by decide +kernel, by decide +kernel, by decide +kernel⟩, tb_in 30 (by decide +kernel) (by decide +kernel), by decide⟩
theorem mj_X10_init : mi_X10_init.1.cls = RX10 ∧ mi_X10_init.1.name = "<init>" ∧ mi_X10_init.2.2.2 = none ∧ Cond.instanceMethod mi_X10_init.1 ∈ tb := ⟨rfl, rfl, rfl, tb_in 29 (by decide +kernel) (by decide +kernel)⟩
theorem df_X10 : ∀ j, j < 13 → defaultValue (tyX10 j) = vp_V (nul 10) j := by
  intro j hj
  rcases (show j = 0 ∨ j = 1 ∨ j = 2 ∨ j = 3 ∨ j = 4 ∨ j = 5 ∨ j = 6 ∨ j = 7 ∨ j = 8 ∨ j = 9 ∨ j = 10 ∨ j = 11 ∨ j = 12 by omega) with rfl | rfl | rfl | rfl | rfl | rfl | rfl | rfl | rfl | rfl | rfl | rfl | rfl <;> rfl
theorem il_X10 : Cond.instantiable RX10 13 ∈ tb := tb_in 27 (by decide +kernel) (by decide +kernel)
theorem d_X10_init_0 : DC mi_X10_init 0 (.aload_n 0) 1 1 := ⟨by decide +kernel, rfl⟩
theorem d_X10_init_1 : DC mi_X10_init 1 (.invokespecial 1) 3 4 := ⟨by decide +kernel, rfl⟩
theorem d_X10_init_4 : DC mi_X10_init 4 (.aload_n 0) 1 5 := ⟨by decide +kernel, rfl⟩
theorem d_X10_init_5 : DC mi_X10_init 5 (.sipush 700) 3 8 := ⟨by decide +kernel, rfl⟩
theorem d_X10_init_8 : DC mi_X10_init 8 (.newarray .byte) 2 10 := ⟨by decide +kernel, rfl⟩
theorem d_X10_init_10 : DC mi_X10_init 10 (.putfield 9) 3 13 := ⟨by decide +kernel, rfl⟩
theorem d_X10_init_13 : DC mi_X10_init 13 (.aload_n 0) 1 14 := ⟨by decide +kernel, rfl⟩
theorem d_X10_init_14 : DC mi_X10_init 14 (.new 13) 3 17 := ⟨by decide +kernel, rfl⟩
theorem d_X10_init_17 : DC mi_X10_init 17 (.dup) 1 18 := ⟨by decide +kernel, rfl⟩
theorem d_X10_init_18 : DC mi_X10_init 18 (.invokespecial 15) 3 21 := ⟨by decide +kernel, rfl⟩
theorem d_X10_init_21 : DC mi_X10_init 21 (.putfield 16) 3 24 := ⟨by decide +kernel, rfl⟩
theorem d_X10_init_24 : DC mi_X10_init 24 (.aload_n 0) 1 25 := ⟨by decide +kernel, rfl⟩
theorem d_X10_init_25 : DC mi_X10_init 25 (.new 20) 3 28 := ⟨by decide +kernel, rfl⟩
theorem d_X10_init_28 : DC mi_X10_init 28 (.dup) 1 29 := ⟨by decide +kernel, rfl⟩
theorem d_X10_init_29 : DC mi_X10_init 29 (.invokespecial 22) 3 32 := ⟨by decide +kernel, rfl⟩
theorem d_X10_init_32 : DC mi_X10_init 32 (.putfield 23) 3 35 := ⟨by decide +kernel, rfl⟩
theorem d_X10_init_35 : DC mi_X10_init 35 (.aload_n 0) 1 36 := ⟨by decide +kernel, rfl⟩
theorem d_X10_init_36 : DC mi_X10_init 36 (.new 27) 3 39 := ⟨by decide +kernel, rfl⟩
theorem d_X10_init_39 : DC mi_X10_init 39 (.dup) 1 40 := ⟨by decide +kernel, rfl⟩
theorem d_X10_init_40 : DC mi_X10_init 40 (.invokespecial 29) 3 43 := ⟨by decide +kernel, rfl⟩
theorem d_X10_init_43 : DC mi_X10_init 43 (.putfield 30) 3 46 := ⟨by decide +kernel, rfl⟩
theorem d_X10_init_46 : DC mi_X10_init 46 (.aload_n 0) 1 47 := ⟨by decide +kernel, rfl⟩
theorem d_X10_init_47 : DC mi_X10_init 47 (.new 27) 3 50 := ⟨by decide +kernel, rfl⟩
theorem d_X10_init_50 : DC mi_X10_init 50 (.dup) 1 51 := ⟨by decide +kernel, rfl⟩
theorem d_X10_init_51 : DC mi_X10_init 51 (.invokespecial 29) 3 54 := ⟨by decide +kernel, rfl⟩
theorem d_X10_init_54 : DC mi_X10_init 54 (.putfield 34) 3 57 := ⟨by decide +kernel, rfl⟩
theorem d_X10_init_57 : DC mi_X10_init 57 (.aload_n 0) 1 58 := ⟨by decide +kernel, rfl⟩
theorem d_X10_init_58 : DC mi_X10_init 58 (.new 37) 3 61 := ⟨by decide +kernel, rfl⟩
theorem d_X10_init_61 : DC mi_X10_init 61 (.dup) 1 62 := ⟨by decide +kernel, rfl⟩
theorem d_X10_init_62 : DC mi_X10_init 62 (.invokespecial 39) 3 65 := ⟨by decide +kernel, rfl⟩
theorem d_X10_init_65 : DC mi_X10_init 65 (.putfield 40) 3 68 := ⟨by decide +kernel, rfl⟩
theorem d_X10_init_68 : DC mi_X10_init 68 (.aload_n 0) 1 69 := ⟨by decide +kernel, rfl⟩
theorem d_X10_init_69 : DC mi_X10_init 69 (.new 44) 3 72 := ⟨by decide +kernel, rfl⟩
theorem d_X10_init_72 : DC mi_X10_init 72 (.dup) 1 73 := ⟨by decide +kernel, rfl⟩
theorem d_X10_init_73 : DC mi_X10_init 73 (.invokespecial 46) 3 76 := ⟨by decide +kernel, rfl⟩
theorem d_X10_init_76 : DC mi_X10_init 76 (.putfield 47) 3 79 := ⟨by decide +kernel, rfl⟩
theorem d_X10_init_79 : DC mi_X10_init 79 (.aload_n 0) 1 80 := ⟨by decide +kernel, rfl⟩
theorem d_X10_init_80 : DC mi_X10_init 80 (.new 51) 3 83 := ⟨by decide +kernel, rfl⟩
theorem d_X10_init_83 : DC mi_X10_init 83 (.dup) 1 84 := ⟨by decide +kernel, rfl⟩
theorem d_X10_init_84 : DC mi_X10_init 84 (.invokespecial 53) 3 87 := ⟨by decide +kernel, rfl⟩
theorem d_X10_init_87 : DC mi_X10_init 87 (.putfield 54) 3 90 := ⟨by decide +kernel, rfl⟩
theorem d_X10_init_90 : DC mi_X10_init 90 (.aload_n 0) 1 91 := ⟨by decide +kernel, rfl⟩
theorem d_X10_init_91 : DC mi_X10_init 91 (.new 58) 3 94 := ⟨by decide +kernel, rfl⟩
theorem d_X10_init_94 : DC mi_X10_init 94 (.dup) 1 95 := ⟨by decide +kernel, rfl⟩
theorem d_X10_init_95 : DC mi_X10_init 95 (.invokespecial 60) 3 98 := ⟨by decide +kernel, rfl⟩
theorem d_X10_init_98 : DC mi_X10_init 98 (.putfield 61) 3 101 := ⟨by decide +kernel, rfl⟩
theorem d_X10_init_101 : DC mi_X10_init 101 (.aload_n 0) 1 102 := ⟨by decide +kernel, rfl⟩
theorem d_X10_init_102 : DC mi_X10_init 102 (.new 65) 3 105 := ⟨by decide +kernel, rfl⟩
theorem d_X10_init_105 : DC mi_X10_init 105 (.dup) 1 106 := ⟨by decide +kernel, rfl⟩
theorem d_X10_init_106 : DC mi_X10_init 106 (.invokespecial 67) 3 109 := ⟨by decide +kernel, rfl⟩
theorem d_X10_init_109 : DC mi_X10_init 109 (.putfield 68) 3 112 := ⟨by decide +kernel, rfl⟩
theorem d_X10_init_112 : DC mi_X10_init 112 (.aload_n 0) 1 113 := ⟨by decide +kernel, rfl⟩
theorem d_X10_init_113 : DC mi_X10_init 113 (.new 65) 3 116 := ⟨by decide +kernel, rfl⟩
theorem d_X10_init_116 : DC mi_X10_init 116 (.dup) 1 117 := ⟨by decide +kernel, rfl⟩
theorem d_X10_init_117 : DC mi_X10_init 117 (.invokespecial 67) 3 120 := ⟨by decide +kernel, rfl⟩
theorem d_X10_init_120 : DC mi_X10_init 120 (.putfield 72) 3 123 := ⟨by decide +kernel, rfl⟩
theorem d_X10_init_123 : DC mi_X10_init 123 (.return_) 1 124 := ⟨by decide +kernel, rfl⟩
theorem lo_X10 : Cond.methodLink mi_X10_init.1.cls 1 Lib.objectInit ∈ tb := tb_in 31 (by decide +kernel) (by decide +kernel)
theorem fq_StairCount_9 : FLk "StairCount" 9 10 0 true := ⟨_, _, _, rfl, by decide, tb_in 436 (by decide +kernel) (by decide +kernel), rfl, rfl⟩
theorem fq_StairCount_9_t : ∀ (C : String) (T : u_T) (N : Nat), cls[10]? = some (C, T, N) → parseFieldDescriptor (T 0).2.2.1 = some (.array .byte) ∧ C = mi_X10_init.1.cls := by
  intro C T N h
  have h1 : some (RX10, TX10, 13) = some (C, T, N) := h
  cases h1
  exact ⟨tyX10_ok 0 (by decide), rfl⟩
theorem ln_X10_15 : Cond.methodLinkNest mi_X10_init.1.cls 15 mi_X5_init.1 "StairCount" ∈ nestW := by decide +kernel
theorem fq_StairCount_16 : FLk "StairCount" 16 10 2 false := ⟨_, _, _, rfl, by decide, tb_in 438 (by decide +kernel) (by decide +kernel), rfl, rfl⟩
theorem fq_StairCount_16_t : ∀ (C : String) (T : u_T) (N : Nat), cls[10]? = some (C, T, N) → parseFieldDescriptor (T 2).2.2.1 = some (.object "StairCount$Plan") ∧ C = mi_X10_init.1.cls := by
  intro C T N h
  have h1 : some (RX10, TX10, 13) = some (C, T, N) := h
  cases h1
  exact ⟨tyX10_ok 2 (by decide), rfl⟩
theorem ln_X10_22 : Cond.methodLinkNest mi_X10_init.1.cls 22 mi_X6_init.1 "StairCount" ∈ nestW := by decide +kernel
theorem fq_StairCount_23 : FLk "StairCount" 23 10 3 true := ⟨_, _, _, rfl, by decide, tb_in 439 (by decide +kernel) (by decide +kernel), rfl, rfl⟩
theorem fq_StairCount_23_t : ∀ (C : String) (T : u_T) (N : Nat), cls[10]? = some (C, T, N) → parseFieldDescriptor (T 3).2.2.1 = some (.object "StairCount$Reade\x72") ∧ C = mi_X10_init.1.cls := by
  intro C T N h
  have h1 : some (RX10, TX10, 13) = some (C, T, N) := h
  cases h1
  exact ⟨tyX10_ok 3 (by decide), rfl⟩
theorem ln_X10_29 : Cond.methodLinkNest mi_X10_init.1.cls 29 mi_X7_init.1 "StairCount" ∈ nestW := by decide +kernel
theorem fq_StairCount_30 : FLk "StairCount" 30 10 4 true := ⟨_, _, _, rfl, by decide, tb_in 440 (by decide +kernel) (by decide +kernel), rfl, rfl⟩
theorem fq_StairCount_30_t : ∀ (C : String) (T : u_T) (N : Nat), cls[10]? = some (C, T, N) → parseFieldDescriptor (T 4).2.2.1 = some (.object "StairCount$State") ∧ C = mi_X10_init.1.cls := by
  intro C T N h
  have h1 : some (RX10, TX10, 13) = some (C, T, N) := h
  cases h1
  exact ⟨tyX10_ok 4 (by decide), rfl⟩
theorem fq_StairCount_34 : FLk "StairCount" 34 10 5 true := ⟨_, _, _, rfl, by decide, tb_in 441 (by decide +kernel) (by decide +kernel), rfl, rfl⟩
theorem fq_StairCount_34_t : ∀ (C : String) (T : u_T) (N : Nat), cls[10]? = some (C, T, N) → parseFieldDescriptor (T 5).2.2.1 = some (.object "StairCount$State") ∧ C = mi_X10_init.1.cls := by
  intro C T N h
  have h1 : some (RX10, TX10, 13) = some (C, T, N) := h
  cases h1
  exact ⟨tyX10_ok 5 (by decide), rfl⟩
theorem ln_X10_39 : Cond.methodLink mi_X10_init.1.cls 39 mi_X4_init.1 ∈ tb := tb_in 292 (by decide +kernel) (by decide +kernel)
theorem fq_StairCount_40 : FLk "StairCount" 40 10 7 true := ⟨_, _, _, rfl, by decide, tb_in 443 (by decide +kernel) (by decide +kernel), rfl, rfl⟩
theorem fq_StairCount_40_t : ∀ (C : String) (T : u_T) (N : Nat), cls[10]? = some (C, T, N) → parseFieldDescriptor (T 7).2.2.1 = some (.object "StairCount$Past") ∧ C = mi_X10_init.1.cls := by
  intro C T N h
  have h1 : some (RX10, TX10, 13) = some (C, T, N) := h
  cases h1
  exact ⟨tyX10_ok 7 (by decide), rfl⟩
theorem ln_X10_46 : Cond.methodLinkNest mi_X10_init.1.cls 46 mi_X3_init.1 "StairCount" ∈ nestW := by decide +kernel
theorem fq_StairCount_47 : FLk "StairCount" 47 10 8 true := ⟨_, _, _, rfl, by decide, tb_in 444 (by decide +kernel) (by decide +kernel), rfl, rfl⟩
theorem fq_StairCount_47_t : ∀ (C : String) (T : u_T) (N : Nat), cls[10]? = some (C, T, N) → parseFieldDescriptor (T 8).2.2.1 = some (.object "StairCount$Notes") ∧ C = mi_X10_init.1.cls := by
  intro C T N h
  have h1 : some (RX10, TX10, 13) = some (C, T, N) := h
  cases h1
  exact ⟨tyX10_ok 8 (by decide), rfl⟩
theorem ln_X10_53 : Cond.methodLink mi_X10_init.1.cls 53 mi_X0_init.1 ∈ tb := tb_in 346 (by decide +kernel) (by decide +kernel)
theorem fq_StairCount_54 : FLk "StairCount" 54 10 9 true := ⟨_, _, _, rfl, by decide, tb_in 445 (by decide +kernel) (by decide +kernel), rfl, rfl⟩
theorem fq_StairCount_54_t : ∀ (C : String) (T : u_T) (N : Nat), cls[10]? = some (C, T, N) → parseFieldDescriptor (T 9).2.2.1 = some (.object "StairCount$Course") ∧ C = mi_X10_init.1.cls := by
  intro C T N h
  have h1 : some (RX10, TX10, 13) = some (C, T, N) := h
  cases h1
  exact ⟨tyX10_ok 9 (by decide), rfl⟩
theorem ln_X10_60 : Cond.methodLinkNest mi_X10_init.1.cls 60 mi_X1_init.1 "StairCount" ∈ nestW := by decide +kernel
theorem fq_StairCount_61 : FLk "StairCount" 61 10 10 true := ⟨_, _, _, rfl, by decide, tb_in 446 (by decide +kernel) (by decide +kernel), rfl, rfl⟩
theorem fq_StairCount_61_t : ∀ (C : String) (T : u_T) (N : Nat), cls[10]? = some (C, T, N) → parseFieldDescriptor (T 10).2.2.1 = some (.object "StairCount$Guess") ∧ C = mi_X10_init.1.cls := by
  intro C T N h
  have h1 : some (RX10, TX10, 13) = some (C, T, N) := h
  cases h1
  exact ⟨tyX10_ok 10 (by decide), rfl⟩
theorem ln_X10_67 : Cond.methodLinkNest mi_X10_init.1.cls 67 mi_X9_init.1 "StairCount" ∈ nestW := by decide +kernel
theorem fq_StairCount_68 : FLk "StairCount" 68 10 11 true := ⟨_, _, _, rfl, by decide, tb_in 447 (by decide +kernel) (by decide +kernel), rfl, rfl⟩
theorem fq_StairCount_68_t : ∀ (C : String) (T : u_T) (N : Nat), cls[10]? = some (C, T, N) → parseFieldDescriptor (T 11).2.2.1 = some (.object "StairCount$Ways") ∧ C = mi_X10_init.1.cls := by
  intro C T N h
  have h1 : some (RX10, TX10, 13) = some (C, T, N) := h
  cases h1
  exact ⟨tyX10_ok 11 (by decide), rfl⟩
theorem fq_StairCount_72 : FLk "StairCount" 72 10 12 true := ⟨_, _, _, rfl, by decide, tb_in 448 (by decide +kernel) (by decide +kernel), rfl, rfl⟩
theorem fq_StairCount_72_t : ∀ (C : String) (T : u_T) (N : Nat), cls[10]? = some (C, T, N) → parseFieldDescriptor (T 12).2.2.1 = some (.object "StairCount$Ways") ∧ C = mi_X10_init.1.cls := by
  intro C T N h
  have h1 : some (RX10, TX10, 13) = some (C, T, N) := h
  cases h1
  exact ⟨tyX10_ok 12 (by decide), rfl⟩
set_option maxHeartbeats 4000000 in
set_option maxRecDepth 100000 in
theorem kb_X5_2 (d : Nat) (hd : 3 ≤ d) (z : Nat) : Kb z hI mi_X5_init 5 2 22 d 21 322 := kb_X5 d (by omega) z hI 2 (by unfold Seg; decide +kernel) (hI_zz (by omega)) (by decide)
set_option maxHeartbeats 4000000 in
set_option maxRecDepth 100000 in
theorem kb_X6_24 (d : Nat) (hd : 3 ≤ d) (z : Nat) : Kb z hI mi_X6_init 6 24 28 d 27 2518 := kb_X6 d (by omega) z hI 24 (by unfold Seg; decide +kernel) (hI_zz (by omega)) (by decide) rfl
set_option maxHeartbeats 4000000 in
set_option maxRecDepth 100000 in
theorem kb_X7_52 (d : Nat) (hd : 3 ≤ d) (z : Nat) : Kb z hI mi_X7_init 7 52 6 d 5 60 := kb_X7 d (by omega) z hI 52 (by unfold Seg; decide +kernel) (hI_zz (by omega)) (by decide)
set_option maxHeartbeats 4000000 in
set_option maxRecDepth 100000 in
theorem kb_X7_58 (d : Nat) (hd : 3 ≤ d) (z : Nat) : Kb z hI mi_X7_init 7 58 6 d 5 60 := kb_X7 d (by omega) z hI 58 (by unfold Seg; decide +kernel) (hI_zz (by omega)) (by decide)
set_option maxHeartbeats 4000000 in
set_option maxRecDepth 100000 in
theorem kb_X4_64 (d : Nat) (hd : 3 ≤ d) (z : Nat) : Kb z hI mi_X4_init 4 64 122 d 121 1360 := kb_X4 d (by omega) z hI 64 (by unfold Seg; decide +kernel) (hI_zz (by omega)) (by decide)
set_option maxHeartbeats 4000000 in
set_option maxRecDepth 100000 in
theorem kb_X3_186 (d : Nat) (hd : 3 ≤ d) (z : Nat) : Kb z hI mi_X3_init 3 186 7 d 6 144 := kb_X3 d (by omega) z hI 186 (by unfold Seg; decide +kernel) (fun i h1 h2 => hI_z _ (by omega) (by omega) (by omega)) (by decide) rfl rfl
set_option maxHeartbeats 4000000 in
set_option maxRecDepth 100000 in
theorem kb_X0_193 (d : Nat) (hd : 3 ≤ d) (z : Nat) : Kb z hI mi_X0_init 0 193 32 d 31 496 := kb_X0 d (by omega) z hI 193 (by unfold Seg; decide +kernel) (fun i _ hi => hI_z _ (by omega) (by omega) (by omega)) rfl rfl rfl rfl rfl (by decide)
set_option maxHeartbeats 4000000 in
set_option maxRecDepth 100000 in
theorem kb_X1_225 (d : Nat) (hd : 3 ≤ d) (z : Nat) : Kb z hI mi_X1_init 1 225 22 d 21 805 := kb_X1 d (by omega) z hI 225 (by unfold Seg; decide +kernel) (hI_zz (by omega)) (by decide)
set_option maxHeartbeats 4000000 in
set_option maxRecDepth 100000 in
theorem kb_X9_247 (d : Nat) (hd : 3 ≤ d) (z : Nat) : Kb z hI mi_X9_init 9 247 4 d 3 20 := kb_X9 d (by omega) z hI 247 (by unfold Seg; decide +kernel) (hI_zz (by omega)) (by decide)
set_option maxHeartbeats 4000000 in
set_option maxRecDepth 100000 in
theorem kb_X9_251 (d : Nat) (hd : 3 ≤ d) (z : Nat) : Kb z hI mi_X9_init 9 251 4 d 3 20 := kb_X9 d (by omega) z hI 251 (by unfold Seg; decide +kernel) (hI_zz (by omega)) (by decide)
set_option maxHeartbeats 4000000 in
set_option maxRecDepth 100000 in
theorem kb_X10 (d : Nat) (hd : 4 ≤ d) (z : Nat) : Kb z hI mi_X10_init 10 0 255 d 254 6578 := by
  have e0 : (fsC 10).map (fvA hI 0) = [.ref (0 + 1), .int (hI.1 0 1), .ref (hI.2.2 0), .ref (0 + 24), .ref (0 + 52), .ref (0 + 58), .int (hI.1 0 6), .ref (0 + 64), .ref (0 + 186), .ref (0 + 193), .ref (0 + 225), .ref (0 + 247), .ref (0 + 251)] := rfl
  obtain ⟨d, rfl⟩ : ∃ e, d = e + 1 := ⟨d - 1, by omega⟩
  refine cx_of (by decide) rfl (by decide) ?_ (h := hI)
  refine cx_aload0 d_X10_init_0 rfl ?_
  refine cx_obj lo_X10 (by omega) (by decide) d_X10_init_1 ?_
  refine cx_aload0 d_X10_init_4 rfl ?_
  refine cx_sipush (v := nI 700) d_X10_init_5 (by decide) ?_
  refine cx_newa (N := 700) (t := 1) (kd := 0) (by decide +kernel) (by decide) rfl (Or.inl ⟨rfl, by decide, (hI_z 1 (by decide) (by decide) (by decide)).1⟩) (tb_in 70 (by decide +kernel) (by decide +kernel)) (by decide) (by decide) (by decide) d_X10_init_8 ?_
  refine cx_put (fs' := [.ref (0 + 1 + 0), .int 0, .null, .null, .null, .null, .int 0, .null, .null, .null, .null, .null, .null]) fq_StairCount_9 fq_StairCount_9_t (fun _ => ⟨rfl, rfl⟩) (Nat.le_of_ble_eq_true rfl) rfl (by decide) d_X10_init_10 ?_
  refine cx_aload0 d_X10_init_13 rfl ?_
  refine cx_new (m := 1) (sl := 700) (n' := 22) (mc' := 21) (ms' := 322) (d' := d) (N' := 17) (ty0 := tyX5) (kb_X5_2 d (by omega) z) rfl (by decide) rfl tyX5_ok df_X5 (tb_in 34 (by decide +kernel) (by decide +kernel)) il_X5 mg_X5_init mj_X5_init (Or.inl ⟨_, ln_X10_15⟩) rfl (by decide) (by decide) (Nat.le_of_ble_eq_true rfl) d_X10_init_14 d_X10_init_17 d_X10_init_18 ?_
  refine cx_put (fs' := [.ref (0 + 1 + 0), .int 0, .ref (0 + 1 + 1), .null, .null, .null, .int 0, .null, .null, .null, .null, .null, .null]) fq_StairCount_16 fq_StairCount_16_t (fun _ => ⟨rfl, rfl⟩) (Nat.le_of_ble_eq_true rfl) rfl (by decide) d_X10_init_21 ?_
  refine cx_aload0 d_X10_init_24 rfl ?_
  refine cx_new (m := 23) (sl := 1039) (n' := 28) (mc' := 27) (ms' := 2518) (d' := d) (N' := 12) (ty0 := tyX6) (kb_X6_24 d (by omega) z) rfl (by decide) rfl tyX6_ok df_X6 (tb_in 217 (by decide +kernel) (by decide +kernel)) il_X6 mg_X6_init mj_X6_init (Or.inl ⟨_, ln_X10_22⟩) rfl (by decide) (by decide) (Nat.le_of_ble_eq_true rfl) d_X10_init_25 d_X10_init_28 d_X10_init_29 ?_
  refine cx_put (fs' := [.ref (0 + 1 + 0), .int 0, .ref (0 + 1 + 1), .ref (0 + 1 + 23), .null, .null, .int 0, .null, .null, .null, .null, .null, .null]) fq_StairCount_23 fq_StairCount_23_t (fun _ => ⟨rfl, rfl⟩) (Nat.le_of_ble_eq_true rfl) rfl (by decide) d_X10_init_32 ?_
  refine cx_aload0 d_X10_init_35 rfl ?_
  refine cx_new (m := 51) (sl := 3569) (n' := 6) (mc' := 5) (ms' := 60) (d' := d) (N' := 7) (ty0 := tyX7) (kb_X7_52 d (by omega) z) rfl (by decide) rfl tyX7_ok df_X7 (tb_in 288 (by decide +kernel) (by decide +kernel)) il_X7 mg_X7_init mj_X7_init (Or.inl ⟨_, ln_X10_29⟩) rfl (by decide) (by decide) (Nat.le_of_ble_eq_true rfl) d_X10_init_36 d_X10_init_39 d_X10_init_40 ?_
  refine cx_put (fs' := [.ref (0 + 1 + 0), .int 0, .ref (0 + 1 + 1), .ref (0 + 1 + 23), .ref (0 + 1 + 51), .null, .int 0, .null, .null, .null, .null, .null, .null]) fq_StairCount_30 fq_StairCount_30_t (fun _ => ⟨rfl, rfl⟩) (Nat.le_of_ble_eq_true rfl) rfl (by decide) d_X10_init_43 ?_
  refine cx_aload0 d_X10_init_46 rfl ?_
  refine cx_new (m := 57) (sl := 3636) (n' := 6) (mc' := 5) (ms' := 60) (d' := d) (N' := 7) (ty0 := tyX7) (kb_X7_58 d (by omega) z) rfl (by decide) rfl tyX7_ok df_X7 (tb_in 288 (by decide +kernel) (by decide +kernel)) il_X7 mg_X7_init mj_X7_init (Or.inl ⟨_, ln_X10_29⟩) rfl (by decide) (by decide) (Nat.le_of_ble_eq_true rfl) d_X10_init_47 d_X10_init_50 d_X10_init_51 ?_
  refine cx_put (fs' := [.ref (0 + 1 + 0), .int 0, .ref (0 + 1 + 1), .ref (0 + 1 + 23), .ref (0 + 1 + 51), .ref (0 + 1 + 57), .int 0, .null, .null, .null, .null, .null, .null]) fq_StairCount_34 fq_StairCount_34_t (fun _ => ⟨rfl, rfl⟩) (Nat.le_of_ble_eq_true rfl) rfl (by decide) d_X10_init_54 ?_
  refine cx_aload0 d_X10_init_57 rfl ?_
  refine cx_new (m := 63) (sl := 3703) (n' := 122) (mc' := 121) (ms' := 1360) (d' := d) (N' := 3) (ty0 := tyX4) (kb_X4_64 d (by omega) z) rfl (by decide) rfl tyX4_ok df_X4 (tb_in 290 (by decide +kernel) (by decide +kernel)) il_X4 mg_X4_init mj_X4_init (Or.inr ln_X10_39) rfl (by decide) (by decide) (Nat.le_of_ble_eq_true rfl) d_X10_init_58 d_X10_init_61 d_X10_init_62 ?_
  refine cx_put (fs' := [.ref (0 + 1 + 0), .int 0, .ref (0 + 1 + 1), .ref (0 + 1 + 23), .ref (0 + 1 + 51), .ref (0 + 1 + 57), .int 0, .ref (0 + 1 + 63), .null, .null, .null, .null, .null]) fq_StairCount_40 fq_StairCount_40_t (fun _ => ⟨rfl, rfl⟩) (Nat.le_of_ble_eq_true rfl) rfl (by decide) d_X10_init_65 ?_
  refine cx_aload0 d_X10_init_68 rfl ?_
  refine cx_new (m := 185) (sl := 5066) (n' := 7) (mc' := 6) (ms' := 144) (d' := d) (N' := 8) (ty0 := tyX3) (kb_X3_186 d (by omega) z) rfl (by decide) rfl tyX3_ok df_X3 (tb_in 310 (by decide +kernel) (by decide +kernel)) il_X3 mg_X3_init mj_X3_init (Or.inl ⟨_, ln_X10_46⟩) rfl (by decide) (by decide) (Nat.le_of_ble_eq_true rfl) d_X10_init_69 d_X10_init_72 d_X10_init_73 ?_
  refine cx_put (fs' := [.ref (0 + 1 + 0), .int 0, .ref (0 + 1 + 1), .ref (0 + 1 + 23), .ref (0 + 1 + 51), .ref (0 + 1 + 57), .int 0, .ref (0 + 1 + 63), .ref (0 + 1 + 185), .null, .null, .null, .null]) fq_StairCount_47 fq_StairCount_47_t (fun _ => ⟨rfl, rfl⟩) (Nat.le_of_ble_eq_true rfl) rfl (by decide) d_X10_init_76 ?_
  refine cx_aload0 d_X10_init_79 rfl ?_
  refine cx_new (m := 192) (sl := 5218) (n' := 32) (mc' := 31) (ms' := 496) (d' := d) (N' := 11) (ty0 := tyX0) (kb_X0_193 d (by omega) z) rfl (by decide) rfl tyX0_ok df_X0 (tb_in 344 (by decide +kernel) (by decide +kernel)) il_X0 mg_X0_init mj_X0_init (Or.inr ln_X10_53) rfl (by decide) (by decide) (Nat.le_of_ble_eq_true rfl) d_X10_init_80 d_X10_init_83 d_X10_init_84 ?_
  refine cx_put (fs' := [.ref (0 + 1 + 0), .int 0, .ref (0 + 1 + 1), .ref (0 + 1 + 23), .ref (0 + 1 + 51), .ref (0 + 1 + 57), .int 0, .ref (0 + 1 + 63), .ref (0 + 1 + 185), .ref (0 + 1 + 192), .null, .null, .null]) fq_StairCount_54 fq_StairCount_54_t (fun _ => ⟨rfl, rfl⟩) (Nat.le_of_ble_eq_true rfl) rfl (by decide) d_X10_init_87 ?_
  refine cx_aload0 d_X10_init_90 rfl ?_
  refine cx_new (m := 224) (sl := 5725) (n' := 22) (mc' := 21) (ms' := 805) (d' := d) (N' := 2) (ty0 := tyX1) (kb_X1_225 d (by omega) z) rfl (by decide) rfl tyX1_ok df_X1 (tb_in 403 (by decide +kernel) (by decide +kernel)) il_X1 mg_X1_init mj_X1_init (Or.inl ⟨_, ln_X10_60⟩) rfl (by decide) (by decide) (Nat.le_of_ble_eq_true rfl) d_X10_init_91 d_X10_init_94 d_X10_init_95 ?_
  refine cx_put (fs' := [.ref (0 + 1 + 0), .int 0, .ref (0 + 1 + 1), .ref (0 + 1 + 23), .ref (0 + 1 + 51), .ref (0 + 1 + 57), .int 0, .ref (0 + 1 + 63), .ref (0 + 1 + 185), .ref (0 + 1 + 192), .ref (0 + 1 + 224), .null, .null]) fq_StairCount_61 fq_StairCount_61_t (fun _ => ⟨rfl, rfl⟩) (Nat.le_of_ble_eq_true rfl) rfl (by decide) d_X10_init_98 ?_
  refine cx_aload0 d_X10_init_101 rfl ?_
  refine cx_new (m := 246) (sl := 6532) (n' := 4) (mc' := 3) (ms' := 20) (d' := d) (N' := 3) (ty0 := tyX9) (kb_X9_247 d (by omega) z) rfl (by decide) rfl tyX9_ok df_X9 (tb_in 418 (by decide +kernel) (by decide +kernel)) il_X9 mg_X9_init mj_X9_init (Or.inl ⟨_, ln_X10_67⟩) rfl (by decide) (by decide) (Nat.le_of_ble_eq_true rfl) d_X10_init_102 d_X10_init_105 d_X10_init_106 ?_
  refine cx_put (fs' := [.ref (0 + 1 + 0), .int 0, .ref (0 + 1 + 1), .ref (0 + 1 + 23), .ref (0 + 1 + 51), .ref (0 + 1 + 57), .int 0, .ref (0 + 1 + 63), .ref (0 + 1 + 185), .ref (0 + 1 + 192), .ref (0 + 1 + 224), .ref (0 + 1 + 246), .null]) fq_StairCount_68 fq_StairCount_68_t (fun _ => ⟨rfl, rfl⟩) (Nat.le_of_ble_eq_true rfl) rfl (by decide) d_X10_init_109 ?_
  refine cx_aload0 d_X10_init_112 rfl ?_
  refine cx_new (m := 250) (sl := 6555) (n' := 4) (mc' := 3) (ms' := 20) (d' := d) (N' := 3) (ty0 := tyX9) (kb_X9_251 d (by omega) z) rfl (by decide) rfl tyX9_ok df_X9 (tb_in 418 (by decide +kernel) (by decide +kernel)) il_X9 mg_X9_init mj_X9_init (Or.inl ⟨_, ln_X10_67⟩) rfl (by decide) (by decide) (Nat.le_of_ble_eq_true rfl) d_X10_init_113 d_X10_init_116 d_X10_init_117 ?_
  refine cx_put (fs' := [.ref (0 + 1 + 0), .int 0, .ref (0 + 1 + 1), .ref (0 + 1 + 23), .ref (0 + 1 + 51), .ref (0 + 1 + 57), .int 0, .ref (0 + 1 + 63), .ref (0 + 1 + 185), .ref (0 + 1 + 192), .ref (0 + 1 + 224), .ref (0 + 1 + 246), .ref (0 + 1 + 250)]) fq_StairCount_72 fq_StairCount_72_t (fun _ => ⟨rfl, rfl⟩) (Nat.le_of_ble_eq_true rfl) rfl (by decide) d_X10_init_120 ?_
  refine cx_ret (by decide +kernel) rfl rfl rfl rfl ?_ rfl d_X10_init_123
  exact e0.symm
