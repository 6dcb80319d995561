/-! the guess' rows and the course: constructors -/
def mi_X1_init : MI := (⟨RX1, "<init>", "()V"⟩, prog_3_method_1_code, 1, none)
theorem mg_X1_init : mG mi_X1_init 0 := ⟨tb_in 11 (by decide +kernel) (by decide +kernel), ⟨by decide +kernel, by decide +kernel, by decide +kernel⟩, tb_in 407 (by decide +kernel) (by decide +kernel), by decide⟩
theorem mj_X1_init : mi_X1_init.1.cls = RX1 ∧ mi_X1_init.1.name = "<init>" ∧ mi_X1_init.2.2.2 = none ∧ Cond.instanceMethod mi_X1_init.1 ∈ tb := ⟨rfl, rfl, rfl, tb_in 406 (by decide +kernel) (by decide +kernel)⟩
theorem df_X1 : ∀ j, j < 2 → defaultValue (tyX1 j) = vp_V (nul 1) j := by
  intro j hj
  rcases (show j = 0 ∨ j = 1 by omega) with rfl | rfl <;> rfl
theorem il_X1 : Cond.instantiable RX1 2 ∈ tb := tb_in 404 (by decide +kernel) (by decide +kernel)
theorem d_X1_init_0 : DC mi_X1_init 0 (.aload_n 0) 1 1 := ⟨by decide +kernel, rfl⟩
theorem d_X1_init_1 : DC mi_X1_init 1 (.invokespecial 3) 3 4 := ⟨by decide +kernel, rfl⟩
theorem d_X1_init_4 : DC mi_X1_init 4 (.aload_n 0) 1 5 := ⟨by decide +kernel, rfl⟩
theorem d_X1_init_5 : DC mi_X1_init 5 (.bipush 19) 2 7 := ⟨by decide +kernel, rfl⟩
theorem d_X1_init_7 : DC mi_X1_init 7 (.bipush 41) 2 9 := ⟨by decide +kernel, rfl⟩
theorem d_X1_init_9 : DC mi_X1_init 9 (.multianewarray 9 2) 4 13 := ⟨by decide +kernel, rfl⟩
theorem d_X1_init_13 : DC mi_X1_init 13 (.putfield 11) 3 16 := ⟨by decide +kernel, rfl⟩
theorem d_X1_init_16 : DC mi_X1_init 16 (.aload_n 0) 1 17 := ⟨by decide +kernel, rfl⟩
theorem d_X1_init_17 : DC mi_X1_init 17 (.bipush 7) 2 19 := ⟨by decide +kernel, rfl⟩
theorem d_X1_init_19 : DC mi_X1_init 19 (.newarray .int) 2 21 := ⟨by decide +kernel, rfl⟩
theorem d_X1_init_21 : DC mi_X1_init 21 (.putfield 16) 3 24 := ⟨by decide +kernel, rfl⟩
theorem d_X1_init_24 : DC mi_X1_init 24 (.return_) 1 25 := ⟨by decide +kernel, rfl⟩
theorem lo_X1 : Cond.methodLink mi_X1_init.1.cls 3 Lib.objectInit ∈ tb := tb_in 408 (by decide +kernel) (by decide +kernel)
theorem fq_StairCount_Guess_11 : FLk "StairCount$Guess" 11 1 0 true := ⟨_, _, _, rfl, by decide, tb_in 411 (by decide +kernel) (by decide +kernel), rfl, rfl⟩
theorem fq_StairCount_Guess_11_t : ∀ (C : String) (T : u_T) (N : Nat), cls[1]? = some (C, T, N) → parseFieldDescriptor (T 0).2.2.1 = some (.array (.array .int)) ∧ C = mi_X1_init.1.cls := by
  intro C T N h
  have h1 : some (RX1, TX1, 2) = some (C, T, N) := h
  cases h1
  exact ⟨tyX1_ok 0 (by decide), rfl⟩
theorem fq_StairCount_Guess_16 : FLk "StairCount$Guess" 16 1 1 true := ⟨_, _, _, rfl, by decide, tb_in 412 (by decide +kernel) (by decide +kernel), rfl, rfl⟩
theorem fq_StairCount_Guess_16_t : ∀ (C : String) (T : u_T) (N : Nat), cls[1]? = some (C, T, N) → parseFieldDescriptor (T 1).2.2.1 = some (.array .int) ∧ C = mi_X1_init.1.cls := by
  intro C T N h
  have h1 : some (RX1, TX1, 2) = some (C, T, N) := h
  cases h1
  exact ⟨tyX1_ok 1 (by decide), rfl⟩
def tp_X1 : List (Nat ⊕ (Nat × Nat × Nat)) := [.inl 1, .inr (5, 19, 3), .inr (0, 41, 0), .inr (0, 41, 0), .inr (0, 41, 0), .inr (0, 41, 0), .inr (0, 41, 0), .inr (0, 41, 0), .inr (0, 41, 0), .inr (0, 41, 0), .inr (0, 41, 0), .inr (0, 41, 0), .inr (0, 41, 0), .inr (0, 41, 0), .inr (0, 41, 0), .inr (0, 41, 0), .inr (0, 41, 0), .inr (0, 41, 0), .inr (0, 41, 0), .inr (0, 41, 0), .inr (0, 41, 0), .inr (0, 7, 0)]
set_option maxHeartbeats 4000000 in
set_option maxRecDepth 100000 in
theorem kb_X1 (d : Nat) (hd : 1 ≤ d) (z : Nat) (h : HH) (a : Nat) (hsh : Seg a tp_X1) (hz : ∀ i, 0 ≤ i → i < 22 → zr h (a + i)) (ha : a + 22 ≤ nN) : Kb z h mi_X1_init 1 a 22 d 21 805 := by
  have e0 : (fsC 1).map (fvA h a) = [.ref (a + 1), .ref (a + 21)] := rfl
  refine cx_of (by decide) rfl (by decide) ?_ (h := h)
  refine cx_aload0 d_X1_init_0 rfl ?_
  refine cx_obj lo_X1 (by omega) (by decide) d_X1_init_1 ?_
  refine cx_aload0 d_X1_init_4 rfl ?_
  refine cx_bipush (v := nI 19) d_X1_init_5 (by decide) ?_
  refine cx_bipush (v := nI 41) d_X1_init_7 (by decide) ?_
  have key : ∀ j, j < 19 → tp_X1[2 + j]? = some (.inr (0, 41, 0)) := by decide +kernel
  refine cx_multi (N := 19) (K := 41) ((hsh 1 (by decide)).trans rfl) (fun j hj => ⟨by rw [show a + 1 + 0 + 1 + j = a + (2 + j) by omega, hsh _ (by show 2 + j < 22; omega)]; exact key j hj, by rw [show a + 1 + 0 + 1 + j = a + (2 + j) by omega]; exact (hz _ (by omega) (by omega)).1⟩) (by decide) (tb_in 409 (by decide +kernel) (by decide +kernel)) (tb_in 71 (by decide +kernel) (by decide +kernel)) (by decide) (by decide) (by decide) (by decide) d_X1_init_9 ?_
  refine cx_put (fs' := [.ref (a + 1 + 0), .null]) fq_StairCount_Guess_11 fq_StairCount_Guess_11_t (fun _ => ⟨rfl, rfl⟩) (Nat.le_of_ble_eq_true rfl) rfl (by omega) d_X1_init_13 ?_
  refine cx_aload0 d_X1_init_16 rfl ?_
  refine cx_bipush (v := nI 7) d_X1_init_17 (by decide) ?_
  refine cx_newa (N := 7) (t := 0) (kd := 0) ((hsh 21 (by decide)).trans rfl) (by decide) rfl (Or.inl ⟨rfl, by decide, (hz 21 (by decide) (by decide)).1⟩) (tb_in 71 (by decide +kernel) (by decide +kernel)) (by decide) (by decide) (by decide) d_X1_init_19 ?_
  refine cx_put (fs' := [.ref (a + 1 + 0), .ref (a + 1 + 20)]) fq_StairCount_Guess_16 fq_StairCount_Guess_16_t (fun _ => ⟨rfl, rfl⟩) (Nat.le_of_ble_eq_true rfl) rfl (by omega) d_X1_init_21 ?_
  refine cx_ret ((hsh 0 (by decide)).trans rfl) rfl rfl rfl rfl ?_ rfl d_X1_init_24
  exact e0.symm
def mi_X0_init : MI := (⟨RX0, "<init>", "()V"⟩, prog_2_method_1_code, 1, none)
theorem mg_X0_init : mG mi_X0_init 0 := ⟨tb_in 9 (by decide +kernel) (by decide +kernel), ⟨by decide +kernel, by decide +kernel, by decide +kernel⟩, tb_in 348 (by decide +kernel) (by decide +kernel), by decide⟩
theorem mj_X0_init : mi_X0_init.1.cls = RX0 ∧ mi_X0_init.1.name = "<init>" ∧ mi_X0_init.2.2.2 = none ∧ Cond.instanceMethod mi_X0_init.1 ∈ tb := ⟨rfl, rfl, rfl, tb_in 347 (by decide +kernel) (by decide +kernel)⟩
theorem df_X0 : ∀ j, j < 11 → defaultValue (tyX0 j) = vp_V (nul 0) j := by
  intro j hj
  rcases (show j = 0 ∨ j = 1 ∨ j = 2 ∨ j = 3 ∨ j = 4 ∨ j = 5 ∨ j = 6 ∨ j = 7 ∨ j = 8 ∨ j = 9 ∨ j = 10 by omega) with rfl | rfl | rfl | rfl | rfl | rfl | rfl | rfl | rfl | rfl | rfl <;> rfl
theorem il_X0 : Cond.instantiable RX0 11 ∈ tb := tb_in 345 (by decide +kernel) (by decide +kernel)
theorem d_X0_init_0 : DC mi_X0_init 0 (.aload_n 0) 1 1 := ⟨by decide +kernel, rfl⟩
theorem d_X0_init_1 : DC mi_X0_init 1 (.invokespecial 5) 3 4 := ⟨by decide +kernel, rfl⟩
theorem d_X0_init_4 : DC mi_X0_init 4 (.aload_n 0) 1 5 := ⟨by decide +kernel, rfl⟩
theorem d_X0_init_5 : DC mi_X0_init 5 (.bipush 20) 2 7 := ⟨by decide +kernel, rfl⟩
theorem d_X0_init_7 : DC mi_X0_init 7 (.newarray .int) 2 9 := ⟨by decide +kernel, rfl⟩
theorem d_X0_init_9 : DC mi_X0_init 9 (.putfield 11) 3 12 := ⟨by decide +kernel, rfl⟩
theorem d_X0_init_12 : DC mi_X0_init 12 (.aload_n 0) 1 13 := ⟨by decide +kernel, rfl⟩
theorem d_X0_init_13 : DC mi_X0_init 13 (.bipush 64) 2 15 := ⟨by decide +kernel, rfl⟩
theorem d_X0_init_15 : DC mi_X0_init 15 (.newarray .long) 2 17 := ⟨by decide +kernel, rfl⟩
theorem d_X0_init_17 : DC mi_X0_init 17 (.putfield 17) 3 20 := ⟨by decide +kernel, rfl⟩
theorem d_X0_init_20 : DC mi_X0_init 20 (.aload_n 0) 1 21 := ⟨by decide +kernel, rfl⟩
theorem d_X0_init_21 : DC mi_X0_init 21 (.new 21) 3 24 := ⟨by decide +kernel, rfl⟩
theorem d_X0_init_24 : DC mi_X0_init 24 (.dup) 1 25 := ⟨by decide +kernel, rfl⟩
theorem d_X0_init_25 : DC mi_X0_init 25 (.invokespecial 23) 3 28 := ⟨by decide +kernel, rfl⟩
theorem d_X0_init_28 : DC mi_X0_init 28 (.putfield 24) 3 31 := ⟨by decide +kernel, rfl⟩
theorem d_X0_init_31 : DC mi_X0_init 31 (.aload_n 0) 1 32 := ⟨by decide +kernel, rfl⟩
theorem d_X0_init_32 : DC mi_X0_init 32 (.new 28) 3 35 := ⟨by decide +kernel, rfl⟩
theorem d_X0_init_35 : DC mi_X0_init 35 (.dup) 1 36 := ⟨by decide +kernel, rfl⟩
theorem d_X0_init_36 : DC mi_X0_init 36 (.invokespecial 30) 3 39 := ⟨by decide +kernel, rfl⟩
theorem d_X0_init_39 : DC mi_X0_init 39 (.putfield 31) 3 42 := ⟨by decide +kernel, rfl⟩
theorem d_X0_init_42 : DC mi_X0_init 42 (.aload_n 0) 1 43 := ⟨by decide +kernel, rfl⟩
theorem d_X0_init_43 : DC mi_X0_init 43 (.aload_n 0) 1 44 := ⟨by decide +kernel, rfl⟩
theorem d_X0_init_44 : DC mi_X0_init 44 (.getfield 24) 3 47 := ⟨by decide +kernel, rfl⟩
theorem d_X0_init_47 : DC mi_X0_init 47 (.putfield 35) 3 50 := ⟨by decide +kernel, rfl⟩
theorem d_X0_init_50 : DC mi_X0_init 50 (.aload_n 0) 1 51 := ⟨by decide +kernel, rfl⟩
theorem d_X0_init_51 : DC mi_X0_init 51 (.bipush 6) 2 53 := ⟨by decide +kernel, rfl⟩
theorem d_X0_init_53 : DC mi_X0_init 53 (.newarray .int) 2 55 := ⟨by decide +kernel, rfl⟩
theorem d_X0_init_55 : DC mi_X0_init 55 (.putfield 38) 3 58 := ⟨by decide +kernel, rfl⟩
theorem d_X0_init_58 : DC mi_X0_init 58 (.aload_n 0) 1 59 := ⟨by decide +kernel, rfl⟩
theorem d_X0_init_59 : DC mi_X0_init 59 (.aload_n 0) 1 60 := ⟨by decide +kernel, rfl⟩
theorem d_X0_init_60 : DC mi_X0_init 60 (.getfield 38) 3 63 := ⟨by decide +kernel, rfl⟩
theorem d_X0_init_63 : DC mi_X0_init 63 (.putfield 41) 3 66 := ⟨by decide +kernel, rfl⟩
theorem d_X0_init_66 : DC mi_X0_init 66 (.aload_n 0) 1 67 := ⟨by decide +kernel, rfl⟩
theorem d_X0_init_67 : DC mi_X0_init 67 (.getfield 38) 3 70 := ⟨by decide +kernel, rfl⟩
theorem d_X0_init_70 : DC mi_X0_init 70 (.bipush 99) 2 72 := ⟨by decide +kernel, rfl⟩
theorem d_X0_init_72 : DC mi_X0_init 72 (.invokestatic 44) 3 75 := ⟨by decide +kernel, rfl⟩
theorem d_X0_init_75 : DC mi_X0_init 75 (.return_) 1 76 := ⟨by decide +kernel, rfl⟩
theorem lo_X0 : Cond.methodLink mi_X0_init.1.cls 5 Lib.objectInit ∈ tb := tb_in 349 (by decide +kernel) (by decide +kernel)
theorem fq_StairCount_Course_11 : FLk "StairCount$Course" 11 0 0 true := ⟨_, _, _, rfl, by decide, tb_in 357 (by decide +kernel) (by decide +kernel), rfl, rfl⟩
theorem fq_StairCount_Course_11_t : ∀ (C : String) (T : u_T) (N : Nat), cls[0]? = some (C, T, N) → parseFieldDescriptor (T 0).2.2.1 = some (.array .int) ∧ C = mi_X0_init.1.cls := by
  intro C T N h
  have h1 : some (RX0, TX0, 11) = some (C, T, N) := h
  cases h1
  exact ⟨tyX0_ok 0 (by decide), rfl⟩
theorem fq_StairCount_Course_17 : FLk "StairCount$Course" 17 0 1 true := ⟨_, _, _, rfl, by decide, tb_in 359 (by decide +kernel) (by decide +kernel), rfl, rfl⟩
theorem fq_StairCount_Course_17_t : ∀ (C : String) (T : u_T) (N : Nat), cls[0]? = some (C, T, N) → parseFieldDescriptor (T 1).2.2.1 = some (.array .long) ∧ C = mi_X0_init.1.cls := by
  intro C T N h
  have h1 : some (RX0, TX0, 11) = some (C, T, N) := h
  cases h1
  exact ⟨tyX0_ok 1 (by decide), rfl⟩
theorem ln_X0_23 : Cond.methodLinkNest mi_X0_init.1.cls 23 mi_X7_init.1 "StairCount" ∈ nestW := by decide +kernel
theorem fq_StairCount_Course_24 : FLk "StairCount$Course" 24 0 2 true := ⟨_, _, _, rfl, by decide, tb_in 360 (by decide +kernel) (by decide +kernel), rfl, rfl⟩
theorem fq_StairCount_Course_24_t : ∀ (C : String) (T : u_T) (N : Nat), cls[0]? = some (C, T, N) → parseFieldDescriptor (T 2).2.2.1 = some (.object "StairCount$State") ∧ C = mi_X0_init.1.cls := by
  intro C T N h
  have h1 : some (RX0, TX0, 11) = some (C, T, N) := h
  cases h1
  exact ⟨tyX0_ok 2 (by decide), rfl⟩
theorem ln_X0_30 : Cond.methodLinkNest mi_X0_init.1.cls 30 mi_X5_init.1 "StairCount" ∈ nestW := by decide +kernel
theorem fq_StairCount_Course_31 : FLk "StairCount$Course" 31 0 4 false := ⟨_, _, _, rfl, by decide, tb_in 364 (by decide +kernel) (by decide +kernel), rfl, rfl⟩
theorem fq_StairCount_Course_31_t : ∀ (C : String) (T : u_T) (N : Nat), cls[0]? = some (C, T, N) → parseFieldDescriptor (T 4).2.2.1 = some (.object "StairCount$Plan") ∧ C = mi_X0_init.1.cls := by
  intro C T N h
  have h1 : some (RX0, TX0, 11) = some (C, T, N) := h
  cases h1
  exact ⟨tyX0_ok 4 (by decide), rfl⟩
theorem fq_StairCount_Course_35 : FLk "StairCount$Course" 35 0 5 false := ⟨_, _, _, rfl, by decide, tb_in 367 (by decide +kernel) (by decide +kernel), rfl, rfl⟩
theorem fq_StairCount_Course_35_t : ∀ (C : String) (T : u_T) (N : Nat), cls[0]? = some (C, T, N) → parseFieldDescriptor (T 5).2.2.1 = some (.object "StairCount$State") ∧ C = mi_X0_init.1.cls := by
  intro C T N h
  have h1 : some (RX0, TX0, 11) = some (C, T, N) := h
  cases h1
  exact ⟨tyX0_ok 5 (by decide), rfl⟩
theorem fq_StairCount_Course_38 : FLk "StairCount$Course" 38 0 9 true := ⟨_, _, _, rfl, by decide, tb_in 375 (by decide +kernel) (by decide +kernel), rfl, rfl⟩
theorem fq_StairCount_Course_38_t : ∀ (C : String) (T : u_T) (N : Nat), cls[0]? = some (C, T, N) → parseFieldDescriptor (T 9).2.2.1 = some (.array .int) ∧ C = mi_X0_init.1.cls := by
  intro C T N h
  have h1 : some (RX0, TX0, 11) = some (C, T, N) := h
  cases h1
  exact ⟨tyX0_ok 9 (by decide), rfl⟩
theorem fq_StairCount_Course_41 : FLk "StairCount$Course" 41 0 10 false := ⟨_, _, _, rfl, by decide, tb_in 377 (by decide +kernel) (by decide +kernel), rfl, rfl⟩
theorem fq_StairCount_Course_41_t : ∀ (C : String) (T : u_T) (N : Nat), cls[0]? = some (C, T, N) → parseFieldDescriptor (T 10).2.2.1 = some (.array .int) ∧ C = mi_X0_init.1.cls := by
  intro C T N h
  have h1 : some (RX0, TX0, 11) = some (C, T, N) := h
  cases h1
  exact ⟨tyX0_ok 10 (by decide), rfl⟩
theorem lf_X0 : Cond.methodLink mi_X0_init.1.cls 44 mi_J7_fill_53178.1 ∈ tb := tb_in 354 (by decide +kernel) (by decide +kernel)
def tp_X0 : List (Nat ⊕ (Nat × Nat × Nat)) := [.inl 0, .inr (0, 20, 0), .inr (3, 64, 1), .inl 7, .inr (0, 6, 0), .inr (0, 6, 0), .inr (0, 6, 0), .inr (0, 6, 0), .inr (0, 36, 0), .inl 5, .inr (0, 6, 0), .inr (0, 6, 0), .inr (0, 6, 0), .inr (0, 6, 0), .inr (0, 6, 0), .inr (0, 6, 0), .inr (0, 20, 0), .inr (0, 20, 0), .inr (0, 20, 0), .inr (0, 20, 0), .inl 2, .inr (0, 64, 0), .inr (0, 64, 0), .inr (0, 3, 0), .inr (0, 3, 0), .inl 7, .inr (0, 6, 0), .inr (0, 6, 0), .inr (0, 6, 0), .inr (0, 6, 0), .inr (0, 36, 0), .inr (0, 6, 0)]
set_option maxHeartbeats 4000000 in
set_option maxRecDepth 100000 in
theorem kb_X0 (d : Nat) (hd : 3 ≤ d) (z : Nat) (h : HH) (a : Nat) (hsh : Seg a tp_X0) (hz : ∀ i, 0 ≤ i → i < 31 → zr h (a + i)) (hr : h.1 (a + 31) = fun i => if i < 6 then nI 99 else 0) (hrl : h.2.1 (a + 31) = fun _ => 0) (h2 : h.2.2 2 = a + 9) (h3 : h.2.2 3 = a + 3) (h4 : h.2.2 4 = a + 31) (ha : a + 32 ≤ nN) : Kb z h mi_X0_init 0 a 32 d 31 496 := by
  have e0 : (fsC 0).map (fvA h a) = [.ref (a + 1), .ref (a + 2), .ref (a + 3), .int (h.1 a 3), .ref (h.2.2 2), .ref (h.2.2 3), .int (h.1 a 6), .int (h.1 a 7), .int (h.1 a 8), .ref (a + 31), .ref (h.2.2 4)] := rfl
  have z0 : h.1 a = fun _ => 0 := (hz 0 (by decide) (by decide)).1
  rw [z0, h2, h3, h4] at e0
  obtain ⟨g, eg⟩ : ∃ g : HH, g = (fun k => if k = a + 1 + 30 then (fun _ => 0) else h.1 k, h.2) := ⟨_, rfl⟩
  have hzg : ∀ i, 0 ≤ i → i < 32 → zr g (a + i) := by
    intro i _ hi
    rw [eg]
    by_cases y : i = 31
    · subst y
      exact ⟨if_pos (by omega), hrl⟩
    · exact ⟨(if_neg (by omega)).trans (hz i (by omega) (by omega)).1, (hz i (by omega) (by omega)).2⟩
  have h31 : h.1 (a + 1 + 30) = fun i => if i < 6 then nI 99 else g.1 (a + 1 + 30) i := by
    have g31 : g.1 (a + 1 + 30) = fun _ => 0 := by rw [eg]; exact if_pos rfl
    rw [g31, show a + 1 + 30 = a + 31 by omega, hr]
  obtain ⟨d, rfl⟩ : ∃ e, d = e + 1 := ⟨d - 1, by omega⟩
  refine cx_of (by decide) rfl (by decide) ?_ (h := g)
  refine cx_aload0 d_X0_init_0 rfl ?_
  refine cx_obj lo_X0 (by omega) (by decide) d_X0_init_1 ?_
  refine cx_aload0 d_X0_init_4 rfl ?_
  refine cx_bipush (v := nI 20) d_X0_init_5 (by decide) ?_
  refine cx_newa (N := 20) (t := 0) (kd := 0) ((hsh 1 (by decide)).trans rfl) (by decide) rfl (Or.inl ⟨rfl, by decide, (hzg 1 (by decide) (by decide)).1⟩) (tb_in 71 (by decide +kernel) (by decide +kernel)) (by decide) (by decide) (by decide) d_X0_init_7 ?_
  refine cx_put (fs' := [.ref (a + 1 + 0), .null, .null, .int 0, .null, .null, .int 0, .int 0, .int 0, .null, .null]) fq_StairCount_Course_11 fq_StairCount_Course_11_t (fun _ => ⟨rfl, rfl⟩) (Nat.le_of_ble_eq_true rfl) rfl (by omega) d_X0_init_9 ?_
  refine cx_aload0 d_X0_init_12 rfl ?_
  refine cx_bipush (v := nI 64) d_X0_init_13 (by decide) ?_
  refine cx_newa (N := 64) (t := 3) (kd := 1) ((hsh 2 (by decide)).trans rfl) (by decide) rfl (Or.inr ⟨rfl, rfl, (hzg 2 (by decide) (by decide)).2⟩) (tb_in 402 (by decide +kernel) (by decide +kernel)) (by decide) (by decide) (by decide) d_X0_init_15 ?_
  refine cx_put (fs' := [.ref (a + 1 + 0), .ref (a + 1 + 1), .null, .int 0, .null, .null, .int 0, .int 0, .int 0, .null, .null]) fq_StairCount_Course_17 fq_StairCount_Course_17_t (fun _ => ⟨rfl, rfl⟩) (Nat.le_of_ble_eq_true rfl) rfl (by omega) d_X0_init_17 ?_
  refine cx_aload0 d_X0_init_20 rfl ?_
  refine cx_new (m := 2) (sl := 84) (n' := 6) (mc' := 5) (ms' := 60) (d' := d) (N' := 7) (ty0 := tyX7) (kb_X7 d (by omega) z g (a + 3) (hsh.sub (b := 3) (by decide +kernel)) (fun i h1 h2 => by rw [Nat.add_assoc]; exact hzg (3 + i) (by omega) (by omega)) (by omega)) rfl (by omega) rfl tyX7_ok df_X7 (tb_in 350 (by decide +kernel) (by decide +kernel)) il_X7 mg_X7_init mj_X7_init (Or.inl ⟨_, ln_X0_23⟩) rfl (by decide) (by decide) (Nat.le_of_ble_eq_true rfl) d_X0_init_21 d_X0_init_24 d_X0_init_25 ?_
  refine cx_put (fs' := [.ref (a + 1 + 0), .ref (a + 1 + 1), .ref (a + 1 + 2), .int 0, .null, .null, .int 0, .int 0, .int 0, .null, .null]) fq_StairCount_Course_24 fq_StairCount_Course_24_t (fun _ => ⟨rfl, rfl⟩) (Nat.le_of_ble_eq_true rfl) rfl (by omega) d_X0_init_28 ?_
  refine cx_aload0 d_X0_init_31 rfl ?_
  refine cx_new (m := 8) (sl := 151) (n' := 22) (mc' := 21) (ms' := 322) (d' := d) (N' := 17) (ty0 := tyX5) (kb_X5 d (by omega) z g (a + 9) (hsh.sub (b := 9) (by decide +kernel)) (fun i h1 h2 => by rw [Nat.add_assoc]; exact hzg (9 + i) (by omega) (by omega)) (by omega)) rfl (by omega) rfl tyX5_ok df_X5 (tb_in 352 (by decide +kernel) (by decide +kernel)) il_X5 mg_X5_init mj_X5_init (Or.inl ⟨_, ln_X0_30⟩) rfl (by decide) (by decide) (Nat.le_of_ble_eq_true rfl) d_X0_init_32 d_X0_init_35 d_X0_init_36 ?_
  refine cx_put (fs' := [.ref (a + 1 + 0), .ref (a + 1 + 1), .ref (a + 1 + 2), .int 0, .ref (a + 1 + 8), .null, .int 0, .int 0, .int 0, .null, .null]) fq_StairCount_Course_31 fq_StairCount_Course_31_t (fun _ => ⟨rfl, rfl⟩) (Nat.le_of_ble_eq_true rfl) rfl (by omega) d_X0_init_39 ?_
  refine cx_aload0 d_X0_init_42 rfl ?_
  refine cx_aload0 d_X0_init_43 rfl ?_
  refine cx_get (v := .ref (a + 1 + 2)) fq_StairCount_Course_24 rfl d_X0_init_44 ?_
  refine cx_put (fs' := [.ref (a + 1 + 0), .ref (a + 1 + 1), .ref (a + 1 + 2), .int 0, .ref (a + 1 + 8), .ref (a + 1 + 2), .int 0, .int 0, .int 0, .null, .null]) fq_StairCount_Course_35 fq_StairCount_Course_35_t (fun _ => ⟨rfl, rfl⟩) (Nat.le_of_ble_eq_true rfl) rfl (by omega) d_X0_init_47 ?_
  refine cx_aload0 d_X0_init_50 rfl ?_
  refine cx_bipush (v := nI 6) d_X0_init_51 (by decide) ?_
  refine cx_newa (N := 6) (t := 0) (kd := 0) ((hsh 31 (by decide)).trans rfl) (by decide) rfl (Or.inl ⟨rfl, by decide, (hzg 31 (by decide) (by decide)).1⟩) (tb_in 71 (by decide +kernel) (by decide +kernel)) (by decide) (by decide) (by decide) d_X0_init_53 ?_
  refine cx_put (fs' := [.ref (a + 1 + 0), .ref (a + 1 + 1), .ref (a + 1 + 2), .int 0, .ref (a + 1 + 8), .ref (a + 1 + 2), .int 0, .int 0, .int 0, .ref (a + 1 + 30), .null]) fq_StairCount_Course_38 fq_StairCount_Course_38_t (fun _ => ⟨rfl, rfl⟩) (Nat.le_of_ble_eq_true rfl) rfl (by omega) d_X0_init_55 ?_
  refine cx_aload0 d_X0_init_58 rfl ?_
  refine cx_aload0 d_X0_init_59 rfl ?_
  refine cx_get (v := .ref (a + 1 + 30)) fq_StairCount_Course_38 rfl d_X0_init_60 ?_
  refine cx_put (fs' := [.ref (a + 1 + 0), .ref (a + 1 + 1), .ref (a + 1 + 2), .int 0, .ref (a + 1 + 8), .ref (a + 1 + 2), .int 0, .int 0, .int 0, .ref (a + 1 + 30), .ref (a + 1 + 30)]) fq_StairCount_Course_41 fq_StairCount_Course_41_t (fun _ => ⟨rfl, rfl⟩) (Nat.le_of_ble_eq_true rfl) rfl (by omega) d_X0_init_63 ?_
  refine cx_aload0 d_X0_init_66 rfl ?_
  refine cx_get (v := .ref (a + 1 + 30)) fq_StairCount_Course_38 rfl d_X0_init_67 ?_
  refine cx_bipush (v := nI 99) d_X0_init_70 (by decide) ?_
  refine cx_fill (j := 30) (N := 6) (v := nI 99) (h1 := h) (by decide) ((hsh 31 (by decide)).trans rfl) (by decide) (fun i hi => by rw [eg]; exact (if_neg hi).symm) h31 (by rw [eg]) (by omega) (by decide) (by decide) lf_X0 rfl (by decide) d_X0_init_72 ?_
  refine cx_ret ((hsh 0 (by decide)).trans rfl) rfl rfl rfl rfl ?_ rfl d_X0_init_75
  exact e0.symm
