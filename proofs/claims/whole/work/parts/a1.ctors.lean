/-! constructors of a straight course: by program -/
def Seg (a : Nat) (L : List (Nat ⊕ (Nat × Nat × Nat))) : Prop := ∀ i, i < L.length → shL[a + i]? = L[i]?
theorem Seg.sub {a b : Nat} {L K : List (Nat ⊕ (Nat × Nat × Nat))} (h : Seg a L) (hb : ∀ i, i < K.length → L[b + i]? = K[i]? ∧ b + i < L.length) : Seg (a + b) K := by
  intro i hi
  rw [Nat.add_assoc, h (b + i) (hb i hi).2]
  exact (hb i hi).1
/-- nothing in a cell yet -/
def zr (h : HH) (k : Nat) : Prop := h.1 k = (fun _ => 0) ∧ h.2.1 k = fun _ => 0
def mi_X2_init : MI := (⟨RX2, "<init>", "()V"⟩, prog_4_method_1_code, 1, none)
theorem mg_X2_init : mG mi_X2_init 0 := ⟨tb_in 3 (by decide +kernel) (by decide +kernel), ⟨by decide +kernel, by decide +kernel, by decide +kernel⟩, tb_in 44 (by decide +kernel) (by decide +kernel), by decide⟩
theorem mj_X2_init : mi_X2_init.1.cls = RX2 ∧ mi_X2_init.1.name = "<init>" ∧ mi_X2_init.2.2.2 = none ∧ Cond.instanceMethod mi_X2_init.1 ∈ tb := ⟨rfl, rfl, rfl, tb_in 43 (by decide +kernel) (by decide +kernel)⟩
theorem df_X2 : ∀ j, j < 5 → defaultValue (tyX2 j) = vp_V (nul 2) j := by
  intro j hj
  rcases (show j = 0 ∨ j = 1 ∨ j = 2 ∨ j = 3 ∨ j = 4 by omega) with rfl | rfl | rfl | rfl | rfl <;> rfl
theorem il_X2 : Cond.instantiable RX2 5 ∈ tb := tb_in 41 (by decide +kernel) (by decide +kernel)
theorem d_X2_init_0 : DC mi_X2_init 0 (.aload_n 0) 1 1 := ⟨by decide +kernel, rfl⟩
theorem d_X2_init_1 : DC mi_X2_init 1 (.invokespecial 3) 3 4 := ⟨by decide +kernel, rfl⟩
theorem d_X2_init_4 : DC mi_X2_init 4 (.aload_n 0) 1 5 := ⟨by decide +kernel, rfl⟩
theorem d_X2_init_5 : DC mi_X2_init 5 (.bipush 64) 2 7 := ⟨by decide +kernel, rfl⟩
theorem d_X2_init_7 : DC mi_X2_init 7 (.newarray .int) 2 9 := ⟨by decide +kernel, rfl⟩
theorem d_X2_init_9 : DC mi_X2_init 9 (.putfield 9) 3 12 := ⟨by decide +kernel, rfl⟩
theorem d_X2_init_12 : DC mi_X2_init 12 (.aload_n 0) 1 13 := ⟨by decide +kernel, rfl⟩
theorem d_X2_init_13 : DC mi_X2_init 13 (.bipush 64) 2 15 := ⟨by decide +kernel, rfl⟩
theorem d_X2_init_15 : DC mi_X2_init 15 (.newarray .int) 2 17 := ⟨by decide +kernel, rfl⟩
theorem d_X2_init_17 : DC mi_X2_init 17 (.putfield 15) 3 20 := ⟨by decide +kernel, rfl⟩
theorem d_X2_init_20 : DC mi_X2_init 20 (.aload_n 0) 1 21 := ⟨by decide +kernel, rfl⟩
theorem d_X2_init_21 : DC mi_X2_init 21 (.iconst 3) 1 22 := ⟨by decide +kernel, rfl⟩
theorem d_X2_init_22 : DC mi_X2_init 22 (.newarray .int) 2 24 := ⟨by decide +kernel, rfl⟩
theorem d_X2_init_24 : DC mi_X2_init 24 (.putfield 18) 3 27 := ⟨by decide +kernel, rfl⟩
theorem d_X2_init_27 : DC mi_X2_init 27 (.aload_n 0) 1 28 := ⟨by decide +kernel, rfl⟩
theorem d_X2_init_28 : DC mi_X2_init 28 (.iconst 3) 1 29 := ⟨by decide +kernel, rfl⟩
theorem d_X2_init_29 : DC mi_X2_init 29 (.newarray .int) 2 31 := ⟨by decide +kernel, rfl⟩
theorem d_X2_init_31 : DC mi_X2_init 31 (.putfield 21) 3 34 := ⟨by decide +kernel, rfl⟩
theorem d_X2_init_34 : DC mi_X2_init 34 (.return_) 1 35 := ⟨by decide +kernel, rfl⟩
theorem lo_X2 : Cond.methodLink mi_X2_init.1.cls 3 Lib.objectInit ∈ tb := tb_in 45 (by decide +kernel) (by decide +kernel)
theorem fq_StairCount_Laws_9 : FLk "StairCount$Laws" 9 2 0 true := ⟨_, _, _, rfl, by decide, tb_in 46 (by decide +kernel) (by decide +kernel), rfl, rfl⟩
theorem fq_StairCount_Laws_9_t : ∀ (C : String) (T : u_T) (N : Nat), cls[2]? = some (C, T, N) → parseFieldDescriptor (T 0).2.2.1 = some (.array .int) ∧ C = mi_X2_init.1.cls := by
  intro C T N h
  have h1 : some (RX2, TX2, 5) = some (C, T, N) := h
  cases h1
  exact ⟨tyX2_ok 0 (by decide), rfl⟩
theorem fq_StairCount_Laws_15 : FLk "StairCount$Laws" 15 2 1 true := ⟨_, _, _, rfl, by decide, tb_in 48 (by decide +kernel) (by decide +kernel), rfl, rfl⟩
theorem fq_StairCount_Laws_15_t : ∀ (C : String) (T : u_T) (N : Nat), cls[2]? = some (C, T, N) → parseFieldDescriptor (T 1).2.2.1 = some (.array .int) ∧ C = mi_X2_init.1.cls := by
  intro C T N h
  have h1 : some (RX2, TX2, 5) = some (C, T, N) := h
  cases h1
  exact ⟨tyX2_ok 1 (by decide), rfl⟩
theorem fq_StairCount_Laws_18 : FLk "StairCount$Laws" 18 2 3 true := ⟨_, _, _, rfl, by decide, tb_in 53 (by decide +kernel) (by decide +kernel), rfl, rfl⟩
theorem fq_StairCount_Laws_18_t : ∀ (C : String) (T : u_T) (N : Nat), cls[2]? = some (C, T, N) → parseFieldDescriptor (T 3).2.2.1 = some (.array .int) ∧ C = mi_X2_init.1.cls := by
  intro C T N h
  have h1 : some (RX2, TX2, 5) = some (C, T, N) := h
  cases h1
  exact ⟨tyX2_ok 3 (by decide), rfl⟩
theorem fq_StairCount_Laws_21 : FLk "StairCount$Laws" 21 2 4 true := ⟨_, _, _, rfl, by decide, tb_in 56 (by decide +kernel) (by decide +kernel), rfl, rfl⟩
theorem fq_StairCount_Laws_21_t : ∀ (C : String) (T : u_T) (N : Nat), cls[2]? = some (C, T, N) → parseFieldDescriptor (T 4).2.2.1 = some (.array .int) ∧ C = mi_X2_init.1.cls := by
  intro C T N h
  have h1 : some (RX2, TX2, 5) = some (C, T, N) := h
  cases h1
  exact ⟨tyX2_ok 4 (by decide), rfl⟩
def tp_X2 : List (Nat ⊕ (Nat × Nat × Nat)) := [.inl 2, .inr (0, 64, 0), .inr (0, 64, 0), .inr (0, 3, 0), .inr (0, 3, 0)]
set_option maxHeartbeats 4000000 in
set_option maxRecDepth 100000 in
theorem kb_X2 (d : Nat) (hd : 1 ≤ d) (z : Nat) (h : HH) (a : Nat) (hsh : Seg a tp_X2) (hz : ∀ i, 0 ≤ i → i < 5 → zr h (a + i)) (ha : a + 5 ≤ nN) : Kb z h mi_X2_init 2 a 5 d 4 134 := by
  have e0 : (fsC 2).map (fvA h a) = [.ref (a + 1), .ref (a + 2), .int (h.1 a 2), .ref (a + 3), .ref (a + 4)] := rfl
  have z0 : h.1 a = fun _ => 0 := (hz 0 (by decide) (by decide)).1
  rw [z0] at e0
  refine cx_of (by decide) rfl (by decide) ?_ (h := h)
  refine cx_aload0 d_X2_init_0 rfl ?_
  refine cx_obj lo_X2 (by omega) (by decide) d_X2_init_1 ?_
  refine cx_aload0 d_X2_init_4 rfl ?_
  refine cx_bipush (v := nI 64) d_X2_init_5 (by decide) ?_
  refine cx_newa (N := 64) (t := 0) (kd := 0) ((hsh 1 (by decide)).trans rfl) (by decide) rfl (Or.inl ⟨rfl, by decide, (hz 1 (by decide) (by decide)).1⟩) (tb_in 71 (by decide +kernel) (by decide +kernel)) (by decide) (by decide) (by decide) d_X2_init_7 ?_
  refine cx_put (fs' := [.ref (a + 1 + 0), .null, .int 0, .null, .null]) fq_StairCount_Laws_9 fq_StairCount_Laws_9_t (fun _ => ⟨rfl, rfl⟩) (Nat.le_of_ble_eq_true rfl) rfl (by omega) d_X2_init_9 ?_
  refine cx_aload0 d_X2_init_12 rfl ?_
  refine cx_bipush (v := nI 64) d_X2_init_13 (by decide) ?_
  refine cx_newa (N := 64) (t := 0) (kd := 0) ((hsh 2 (by decide)).trans rfl) (by decide) rfl (Or.inl ⟨rfl, by decide, (hz 2 (by decide) (by decide)).1⟩) (tb_in 71 (by decide +kernel) (by decide +kernel)) (by decide) (by decide) (by decide) d_X2_init_15 ?_
  refine cx_put (fs' := [.ref (a + 1 + 0), .ref (a + 1 + 1), .int 0, .null, .null]) fq_StairCount_Laws_15 fq_StairCount_Laws_15_t (fun _ => ⟨rfl, rfl⟩) (Nat.le_of_ble_eq_true rfl) rfl (by omega) d_X2_init_17 ?_
  refine cx_aload0 d_X2_init_20 rfl ?_
  refine cx_iconst (v := nI 3) d_X2_init_21 (by decide) ?_
  refine cx_newa (N := 3) (t := 0) (kd := 0) ((hsh 3 (by decide)).trans rfl) (by decide) rfl (Or.inl ⟨rfl, by decide, (hz 3 (by decide) (by decide)).1⟩) (tb_in 71 (by decide +kernel) (by decide +kernel)) (by decide) (by decide) (by decide) d_X2_init_22 ?_
  refine cx_put (fs' := [.ref (a + 1 + 0), .ref (a + 1 + 1), .int 0, .ref (a + 1 + 2), .null]) fq_StairCount_Laws_18 fq_StairCount_Laws_18_t (fun _ => ⟨rfl, rfl⟩) (Nat.le_of_ble_eq_true rfl) rfl (by omega) d_X2_init_24 ?_
  refine cx_aload0 d_X2_init_27 rfl ?_
  refine cx_iconst (v := nI 3) d_X2_init_28 (by decide) ?_
  refine cx_newa (N := 3) (t := 0) (kd := 0) ((hsh 4 (by decide)).trans rfl) (by decide) rfl (Or.inl ⟨rfl, by decide, (hz 4 (by decide) (by decide)).1⟩) (tb_in 71 (by decide +kernel) (by decide +kernel)) (by decide) (by decide) (by decide) d_X2_init_29 ?_
  refine cx_put (fs' := [.ref (a + 1 + 0), .ref (a + 1 + 1), .int 0, .ref (a + 1 + 2), .ref (a + 1 + 3)]) fq_StairCount_Laws_21 fq_StairCount_Laws_21_t (fun _ => ⟨rfl, rfl⟩) (Nat.le_of_ble_eq_true rfl) rfl (by omega) d_X2_init_31 ?_
  refine cx_ret ((hsh 0 (by decide)).trans rfl) rfl rfl rfl rfl ?_ rfl d_X2_init_34
  exact e0.symm
def mi_X7_init : MI := (⟨RX7, "<init>", "()V"⟩, prog_9_method_1_code, 1, none)
theorem mg_X7_init : mG mi_X7_init 0 := ⟨tb_in 4 (by decide +kernel) (by decide +kernel), ⟨by decide +kernel, by decide +kernel, by decide +kernel⟩, tb_in 76 (by decide +kernel) (by decide +kernel), by decide⟩
theorem mj_X7_init : mi_X7_init.1.cls = RX7 ∧ mi_X7_init.1.name = "<init>" ∧ mi_X7_init.2.2.2 = none ∧ Cond.instanceMethod mi_X7_init.1 ∈ tb := ⟨rfl, rfl, rfl, tb_in 75 (by decide +kernel) (by decide +kernel)⟩
theorem df_X7 : ∀ j, j < 7 → defaultValue (tyX7 j) = vp_V (nul 7) j := by
  intro j hj
  rcases (show j = 0 ∨ j = 1 ∨ j = 2 ∨ j = 3 ∨ j = 4 ∨ j = 5 ∨ j = 6 by omega) with rfl | rfl | rfl | rfl | rfl | rfl | rfl <;> rfl
theorem il_X7 : Cond.instantiable RX7 7 ∈ tb := tb_in 73 (by decide +kernel) (by decide +kernel)
theorem d_X7_init_0 : DC mi_X7_init 0 (.aload_n 0) 1 1 := ⟨by decide +kernel, rfl⟩
theorem d_X7_init_1 : DC mi_X7_init 1 (.invokespecial 3) 3 4 := ⟨by decide +kernel, rfl⟩
theorem d_X7_init_4 : DC mi_X7_init 4 (.aload_n 0) 1 5 := ⟨by decide +kernel, rfl⟩
theorem d_X7_init_5 : DC mi_X7_init 5 (.bipush 6) 2 7 := ⟨by decide +kernel, rfl⟩
theorem d_X7_init_7 : DC mi_X7_init 7 (.newarray .int) 2 9 := ⟨by decide +kernel, rfl⟩
theorem d_X7_init_9 : DC mi_X7_init 9 (.putfield 9) 3 12 := ⟨by decide +kernel, rfl⟩
theorem d_X7_init_12 : DC mi_X7_init 12 (.aload_n 0) 1 13 := ⟨by decide +kernel, rfl⟩
theorem d_X7_init_13 : DC mi_X7_init 13 (.bipush 6) 2 15 := ⟨by decide +kernel, rfl⟩
theorem d_X7_init_15 : DC mi_X7_init 15 (.newarray .int) 2 17 := ⟨by decide +kernel, rfl⟩
theorem d_X7_init_17 : DC mi_X7_init 17 (.putfield 15) 3 20 := ⟨by decide +kernel, rfl⟩
theorem d_X7_init_20 : DC mi_X7_init 20 (.aload_n 0) 1 21 := ⟨by decide +kernel, rfl⟩
theorem d_X7_init_21 : DC mi_X7_init 21 (.bipush 6) 2 23 := ⟨by decide +kernel, rfl⟩
theorem d_X7_init_23 : DC mi_X7_init 23 (.newarray .int) 2 25 := ⟨by decide +kernel, rfl⟩
theorem d_X7_init_25 : DC mi_X7_init 25 (.putfield 18) 3 28 := ⟨by decide +kernel, rfl⟩
theorem d_X7_init_28 : DC mi_X7_init 28 (.aload_n 0) 1 29 := ⟨by decide +kernel, rfl⟩
theorem d_X7_init_29 : DC mi_X7_init 29 (.bipush 6) 2 31 := ⟨by decide +kernel, rfl⟩
theorem d_X7_init_31 : DC mi_X7_init 31 (.newarray .int) 2 33 := ⟨by decide +kernel, rfl⟩
theorem d_X7_init_33 : DC mi_X7_init 33 (.putfield 21) 3 36 := ⟨by decide +kernel, rfl⟩
theorem d_X7_init_36 : DC mi_X7_init 36 (.aload_n 0) 1 37 := ⟨by decide +kernel, rfl⟩
theorem d_X7_init_37 : DC mi_X7_init 37 (.bipush 36) 2 39 := ⟨by decide +kernel, rfl⟩
theorem d_X7_init_39 : DC mi_X7_init 39 (.newarray .int) 2 41 := ⟨by decide +kernel, rfl⟩
theorem d_X7_init_41 : DC mi_X7_init 41 (.putfield 24) 3 44 := ⟨by decide +kernel, rfl⟩
theorem d_X7_init_44 : DC mi_X7_init 44 (.return_) 1 45 := ⟨by decide +kernel, rfl⟩
theorem lo_X7 : Cond.methodLink mi_X7_init.1.cls 3 Lib.objectInit ∈ tb := tb_in 77 (by decide +kernel) (by decide +kernel)
theorem fq_StairCount_State_9 : FLk "StairCount$State" 9 7 0 true := ⟨_, _, _, rfl, by decide, tb_in 78 (by decide +kernel) (by decide +kernel), rfl, rfl⟩
theorem fq_StairCount_State_9_t : ∀ (C : String) (T : u_T) (N : Nat), cls[7]? = some (C, T, N) → parseFieldDescriptor (T 0).2.2.1 = some (.array .int) ∧ C = mi_X7_init.1.cls := by
  intro C T N h
  have h1 : some (RX7, TX7, 7) = some (C, T, N) := h
  cases h1
  exact ⟨tyX7_ok 0 (by decide), rfl⟩
theorem fq_StairCount_State_15 : FLk "StairCount$State" 15 7 1 true := ⟨_, _, _, rfl, by decide, tb_in 85 (by decide +kernel) (by decide +kernel), rfl, rfl⟩
theorem fq_StairCount_State_15_t : ∀ (C : String) (T : u_T) (N : Nat), cls[7]? = some (C, T, N) → parseFieldDescriptor (T 1).2.2.1 = some (.array .int) ∧ C = mi_X7_init.1.cls := by
  intro C T N h
  have h1 : some (RX7, TX7, 7) = some (C, T, N) := h
  cases h1
  exact ⟨tyX7_ok 1 (by decide), rfl⟩
theorem fq_StairCount_State_18 : FLk "StairCount$State" 18 7 2 true := ⟨_, _, _, rfl, by decide, tb_in 88 (by decide +kernel) (by decide +kernel), rfl, rfl⟩
theorem fq_StairCount_State_18_t : ∀ (C : String) (T : u_T) (N : Nat), cls[7]? = some (C, T, N) → parseFieldDescriptor (T 2).2.2.1 = some (.array .int) ∧ C = mi_X7_init.1.cls := by
  intro C T N h
  have h1 : some (RX7, TX7, 7) = some (C, T, N) := h
  cases h1
  exact ⟨tyX7_ok 2 (by decide), rfl⟩
theorem fq_StairCount_State_21 : FLk "StairCount$State" 21 7 3 true := ⟨_, _, _, rfl, by decide, tb_in 91 (by decide +kernel) (by decide +kernel), rfl, rfl⟩
theorem fq_StairCount_State_21_t : ∀ (C : String) (T : u_T) (N : Nat), cls[7]? = some (C, T, N) → parseFieldDescriptor (T 3).2.2.1 = some (.array .int) ∧ C = mi_X7_init.1.cls := by
  intro C T N h
  have h1 : some (RX7, TX7, 7) = some (C, T, N) := h
  cases h1
  exact ⟨tyX7_ok 3 (by decide), rfl⟩
theorem fq_StairCount_State_24 : FLk "StairCount$State" 24 7 4 true := ⟨_, _, _, rfl, by decide, tb_in 94 (by decide +kernel) (by decide +kernel), rfl, rfl⟩
theorem fq_StairCount_State_24_t : ∀ (C : String) (T : u_T) (N : Nat), cls[7]? = some (C, T, N) → parseFieldDescriptor (T 4).2.2.1 = some (.array .int) ∧ C = mi_X7_init.1.cls := by
  intro C T N h
  have h1 : some (RX7, TX7, 7) = some (C, T, N) := h
  cases h1
  exact ⟨tyX7_ok 4 (by decide), rfl⟩
def tp_X7 : List (Nat ⊕ (Nat × Nat × Nat)) := [.inl 7, .inr (0, 6, 0), .inr (0, 6, 0), .inr (0, 6, 0), .inr (0, 6, 0), .inr (0, 36, 0)]
set_option maxHeartbeats 4000000 in
set_option maxRecDepth 100000 in
theorem kb_X7 (d : Nat) (hd : 1 ≤ d) (z : Nat) (h : HH) (a : Nat) (hsh : Seg a tp_X7) (hz : ∀ i, 0 ≤ i → i < 6 → zr h (a + i)) (ha : a + 6 ≤ nN) : Kb z h mi_X7_init 7 a 6 d 5 60 := by
  have e0 : (fsC 7).map (fvA h a) = [.ref (a + 1), .ref (a + 2), .ref (a + 3), .ref (a + 4), .ref (a + 5), .int (h.1 a 5), .int (h.1 a 6)] := rfl
  have z0 : h.1 a = fun _ => 0 := (hz 0 (by decide) (by decide)).1
  rw [z0] at e0
  refine cx_of (by decide) rfl (by decide) ?_ (h := h)
  refine cx_aload0 d_X7_init_0 rfl ?_
  refine cx_obj lo_X7 (by omega) (by decide) d_X7_init_1 ?_
  refine cx_aload0 d_X7_init_4 rfl ?_
  refine cx_bipush (v := nI 6) d_X7_init_5 (by decide) ?_
  refine cx_newa (N := 6) (t := 0) (kd := 0) ((hsh 1 (by decide)).trans rfl) (by decide) rfl (Or.inl ⟨rfl, by decide, (hz 1 (by decide) (by decide)).1⟩) (tb_in 71 (by decide +kernel) (by decide +kernel)) (by decide) (by decide) (by decide) d_X7_init_7 ?_
  refine cx_put (fs' := [.ref (a + 1 + 0), .null, .null, .null, .null, .int 0, .int 0]) fq_StairCount_State_9 fq_StairCount_State_9_t (fun _ => ⟨rfl, rfl⟩) (Nat.le_of_ble_eq_true rfl) rfl (by omega) d_X7_init_9 ?_
  refine cx_aload0 d_X7_init_12 rfl ?_
  refine cx_bipush (v := nI 6) d_X7_init_13 (by decide) ?_
  refine cx_newa (N := 6) (t := 0) (kd := 0) ((hsh 2 (by decide)).trans rfl) (by decide) rfl (Or.inl ⟨rfl, by decide, (hz 2 (by decide) (by decide)).1⟩) (tb_in 71 (by decide +kernel) (by decide +kernel)) (by decide) (by decide) (by decide) d_X7_init_15 ?_
  refine cx_put (fs' := [.ref (a + 1 + 0), .ref (a + 1 + 1), .null, .null, .null, .int 0, .int 0]) fq_StairCount_State_15 fq_StairCount_State_15_t (fun _ => ⟨rfl, rfl⟩) (Nat.le_of_ble_eq_true rfl) rfl (by omega) d_X7_init_17 ?_
  refine cx_aload0 d_X7_init_20 rfl ?_
  refine cx_bipush (v := nI 6) d_X7_init_21 (by decide) ?_
  refine cx_newa (N := 6) (t := 0) (kd := 0) ((hsh 3 (by decide)).trans rfl) (by decide) rfl (Or.inl ⟨rfl, by decide, (hz 3 (by decide) (by decide)).1⟩) (tb_in 71 (by decide +kernel) (by decide +kernel)) (by decide) (by decide) (by decide) d_X7_init_23 ?_
  refine cx_put (fs' := [.ref (a + 1 + 0), .ref (a + 1 + 1), .ref (a + 1 + 2), .null, .null, .int 0, .int 0]) fq_StairCount_State_18 fq_StairCount_State_18_t (fun _ => ⟨rfl, rfl⟩) (Nat.le_of_ble_eq_true rfl) rfl (by omega) d_X7_init_25 ?_
  refine cx_aload0 d_X7_init_28 rfl ?_
  refine cx_bipush (v := nI 6) d_X7_init_29 (by decide) ?_
  refine cx_newa (N := 6) (t := 0) (kd := 0) ((hsh 4 (by decide)).trans rfl) (by decide) rfl (Or.inl ⟨rfl, by decide, (hz 4 (by decide) (by decide)).1⟩) (tb_in 71 (by decide +kernel) (by decide +kernel)) (by decide) (by decide) (by decide) d_X7_init_31 ?_
  refine cx_put (fs' := [.ref (a + 1 + 0), .ref (a + 1 + 1), .ref (a + 1 + 2), .ref (a + 1 + 3), .null, .int 0, .int 0]) fq_StairCount_State_21 fq_StairCount_State_21_t (fun _ => ⟨rfl, rfl⟩) (Nat.le_of_ble_eq_true rfl) rfl (by omega) d_X7_init_33 ?_
  refine cx_aload0 d_X7_init_36 rfl ?_
  refine cx_bipush (v := nI 36) d_X7_init_37 (by decide) ?_
  refine cx_newa (N := 36) (t := 0) (kd := 0) ((hsh 5 (by decide)).trans rfl) (by decide) rfl (Or.inl ⟨rfl, by decide, (hz 5 (by decide) (by decide)).1⟩) (tb_in 71 (by decide +kernel) (by decide +kernel)) (by decide) (by decide) (by decide) d_X7_init_39 ?_
  refine cx_put (fs' := [.ref (a + 1 + 0), .ref (a + 1 + 1), .ref (a + 1 + 2), .ref (a + 1 + 3), .ref (a + 1 + 4), .int 0, .int 0]) fq_StairCount_State_24 fq_StairCount_State_24_t (fun _ => ⟨rfl, rfl⟩) (Nat.le_of_ble_eq_true rfl) rfl (by omega) d_X7_init_41 ?_
  refine cx_ret ((hsh 0 (by decide)).trans rfl) rfl rfl rfl rfl ?_ rfl d_X7_init_44
  exact e0.symm
def mi_X8_init : MI := (⟨RX8, "<init>", "()V"⟩, prog_10_method_1_code, 1, none)
theorem mg_X8_init : mG mi_X8_init 0 := ⟨tb_in 6 (by decide +kernel) (by decide +kernel), ⟨by decide +kernel, by decide +kernel, by decide +kernel⟩, tb_in 227 (by decide +kernel) (by decide +kernel), by decide⟩
theorem mj_X8_init : mi_X8_init.1.cls = RX8 ∧ mi_X8_init.1.name = "<init>" ∧ mi_X8_init.2.2.2 = none ∧ Cond.instanceMethod mi_X8_init.1 ∈ tb := ⟨rfl, rfl, rfl, tb_in 226 (by decide +kernel) (by decide +kernel)⟩
theorem df_X8 : ∀ j, j < 4 → defaultValue (tyX8 j) = vp_V (nul 8) j := by
  intro j hj
  rcases (show j = 0 ∨ j = 1 ∨ j = 2 ∨ j = 3 by omega) with rfl | rfl | rfl | rfl <;> rfl
theorem il_X8 : Cond.instantiable RX8 4 ∈ tb := tb_in 224 (by decide +kernel) (by decide +kernel)
theorem d_X8_init_0 : DC mi_X8_init 0 (.aload_n 0) 1 1 := ⟨by decide +kernel, rfl⟩
theorem d_X8_init_1 : DC mi_X8_init 1 (.invokespecial 3) 3 4 := ⟨by decide +kernel, rfl⟩
theorem d_X8_init_4 : DC mi_X8_init 4 (.aload_n 0) 1 5 := ⟨by decide +kernel, rfl⟩
theorem d_X8_init_5 : DC mi_X8_init 5 (.sipush 701) 3 8 := ⟨by decide +kernel, rfl⟩
theorem d_X8_init_8 : DC mi_X8_init 8 (.newarray .int) 2 10 := ⟨by decide +kernel, rfl⟩
theorem d_X8_init_10 : DC mi_X8_init 10 (.putfield 9) 3 13 := ⟨by decide +kernel, rfl⟩
theorem d_X8_init_13 : DC mi_X8_init 13 (.aload_n 0) 1 14 := ⟨by decide +kernel, rfl⟩
theorem d_X8_init_14 : DC mi_X8_init 14 (.sipush 701) 3 17 := ⟨by decide +kernel, rfl⟩
theorem d_X8_init_17 : DC mi_X8_init 17 (.newarray .int) 2 19 := ⟨by decide +kernel, rfl⟩
theorem d_X8_init_19 : DC mi_X8_init 19 (.putfield 15) 3 22 := ⟨by decide +kernel, rfl⟩
theorem d_X8_init_22 : DC mi_X8_init 22 (.aload_n 0) 1 23 := ⟨by decide +kernel, rfl⟩
theorem d_X8_init_23 : DC mi_X8_init 23 (.sipush 701) 3 26 := ⟨by decide +kernel, rfl⟩
theorem d_X8_init_26 : DC mi_X8_init 26 (.newarray .int) 2 28 := ⟨by decide +kernel, rfl⟩
theorem d_X8_init_28 : DC mi_X8_init 28 (.putfield 18) 3 31 := ⟨by decide +kernel, rfl⟩
theorem d_X8_init_31 : DC mi_X8_init 31 (.return_) 1 32 := ⟨by decide +kernel, rfl⟩
theorem lo_X8 : Cond.methodLink mi_X8_init.1.cls 3 Lib.objectInit ∈ tb := tb_in 228 (by decide +kernel) (by decide +kernel)
theorem fq_StairCount_Tokens_9 : FLk "StairCount$Tokens" 9 8 0 true := ⟨_, _, _, rfl, by decide, tb_in 229 (by decide +kernel) (by decide +kernel), rfl, rfl⟩
theorem fq_StairCount_Tokens_9_t : ∀ (C : String) (T : u_T) (N : Nat), cls[8]? = some (C, T, N) → parseFieldDescriptor (T 0).2.2.1 = some (.array .int) ∧ C = mi_X8_init.1.cls := by
  intro C T N h
  have h1 : some (RX8, TX8, 4) = some (C, T, N) := h
  cases h1
  exact ⟨tyX8_ok 0 (by decide), rfl⟩
theorem fq_StairCount_Tokens_15 : FLk "StairCount$Tokens" 15 8 1 true := ⟨_, _, _, rfl, by decide, tb_in 231 (by decide +kernel) (by decide +kernel), rfl, rfl⟩
theorem fq_StairCount_Tokens_15_t : ∀ (C : String) (T : u_T) (N : Nat), cls[8]? = some (C, T, N) → parseFieldDescriptor (T 1).2.2.1 = some (.array .int) ∧ C = mi_X8_init.1.cls := by
  intro C T N h
  have h1 : some (RX8, TX8, 4) = some (C, T, N) := h
  cases h1
  exact ⟨tyX8_ok 1 (by decide), rfl⟩
theorem fq_StairCount_Tokens_18 : FLk "StairCount$Tokens" 18 8 2 true := ⟨_, _, _, rfl, by decide, tb_in 233 (by decide +kernel) (by decide +kernel), rfl, rfl⟩
theorem fq_StairCount_Tokens_18_t : ∀ (C : String) (T : u_T) (N : Nat), cls[8]? = some (C, T, N) → parseFieldDescriptor (T 2).2.2.1 = some (.array .int) ∧ C = mi_X8_init.1.cls := by
  intro C T N h
  have h1 : some (RX8, TX8, 4) = some (C, T, N) := h
  cases h1
  exact ⟨tyX8_ok 2 (by decide), rfl⟩
def tp_X8 : List (Nat ⊕ (Nat × Nat × Nat)) := [.inl 8, .inr (0, 701, 0), .inr (0, 701, 0), .inr (0, 701, 0)]
set_option maxHeartbeats 4000000 in
set_option maxRecDepth 100000 in
theorem kb_X8 (d : Nat) (hd : 1 ≤ d) (z : Nat) (h : HH) (a : Nat) (hsh : Seg a tp_X8) (hz : ∀ i, 0 ≤ i → i < 4 → zr h (a + i)) (ha : a + 4 ≤ nN) : Kb z h mi_X8_init 8 a 4 d 3 2103 := by
  have e0 : (fsC 8).map (fvA h a) = [.ref (a + 1), .ref (a + 2), .ref (a + 3), .int (h.1 a 3)] := rfl
  have z0 : h.1 a = fun _ => 0 := (hz 0 (by decide) (by decide)).1
  rw [z0] at e0
  refine cx_of (by decide) rfl (by decide) ?_ (h := h)
  refine cx_aload0 d_X8_init_0 rfl ?_
  refine cx_obj lo_X8 (by omega) (by decide) d_X8_init_1 ?_
  refine cx_aload0 d_X8_init_4 rfl ?_
  refine cx_sipush (v := nI 701) d_X8_init_5 (by decide) ?_
  refine cx_newa (N := 701) (t := 0) (kd := 0) ((hsh 1 (by decide)).trans rfl) (by decide) rfl (Or.inl ⟨rfl, by decide, (hz 1 (by decide) (by decide)).1⟩) (tb_in 71 (by decide +kernel) (by decide +kernel)) (by decide) (by decide) (by decide) d_X8_init_8 ?_
  refine cx_put (fs' := [.ref (a + 1 + 0), .null, .null, .int 0]) fq_StairCount_Tokens_9 fq_StairCount_Tokens_9_t (fun _ => ⟨rfl, rfl⟩) (Nat.le_of_ble_eq_true rfl) rfl (by omega) d_X8_init_10 ?_
  refine cx_aload0 d_X8_init_13 rfl ?_
  refine cx_sipush (v := nI 701) d_X8_init_14 (by decide) ?_
  refine cx_newa (N := 701) (t := 0) (kd := 0) ((hsh 2 (by decide)).trans rfl) (by decide) rfl (Or.inl ⟨rfl, by decide, (hz 2 (by decide) (by decide)).1⟩) (tb_in 71 (by decide +kernel) (by decide +kernel)) (by decide) (by decide) (by decide) d_X8_init_17 ?_
  refine cx_put (fs' := [.ref (a + 1 + 0), .ref (a + 1 + 1), .null, .int 0]) fq_StairCount_Tokens_15 fq_StairCount_Tokens_15_t (fun _ => ⟨rfl, rfl⟩) (Nat.le_of_ble_eq_true rfl) rfl (by omega) d_X8_init_19 ?_
  refine cx_aload0 d_X8_init_22 rfl ?_
  refine cx_sipush (v := nI 701) d_X8_init_23 (by decide) ?_
  refine cx_newa (N := 701) (t := 0) (kd := 0) ((hsh 3 (by decide)).trans rfl) (by decide) rfl (Or.inl ⟨rfl, by decide, (hz 3 (by decide) (by decide)).1⟩) (tb_in 71 (by decide +kernel) (by decide +kernel)) (by decide) (by decide) (by decide) d_X8_init_26 ?_
  refine cx_put (fs' := [.ref (a + 1 + 0), .ref (a + 1 + 1), .ref (a + 1 + 2), .int 0]) fq_StairCount_Tokens_18 fq_StairCount_Tokens_18_t (fun _ => ⟨rfl, rfl⟩) (Nat.le_of_ble_eq_true rfl) rfl (by omega) d_X8_init_28 ?_
  refine cx_ret ((hsh 0 (by decide)).trans rfl) rfl rfl rfl rfl ?_ rfl d_X8_init_31
  exact e0.symm
def mi_X9_init : MI := (⟨RX9, "<init>", "()V"⟩, prog_11_method_1_code, 1, none)
theorem mg_X9_init : mG mi_X9_init 0 := ⟨tb_in 12 (by decide +kernel) (by decide +kernel), ⟨by decide +kernel, by decide +kernel, by decide +kernel⟩, tb_in 422 (by decide +kernel) (by decide +kernel), by decide⟩
theorem mj_X9_init : mi_X9_init.1.cls = RX9 ∧ mi_X9_init.1.name = "<init>" ∧ mi_X9_init.2.2.2 = none ∧ Cond.instanceMethod mi_X9_init.1 ∈ tb := ⟨rfl, rfl, rfl, tb_in 421 (by decide +kernel) (by decide +kernel)⟩
theorem df_X9 : ∀ j, j < 3 → defaultValue (tyX9 j) = vp_V (nul 9) j := by
  intro j hj
  rcases (show j = 0 ∨ j = 1 ∨ j = 2 by omega) with rfl | rfl | rfl <;> rfl
theorem il_X9 : Cond.instantiable RX9 3 ∈ tb := tb_in 419 (by decide +kernel) (by decide +kernel)
theorem d_X9_init_0 : DC mi_X9_init 0 (.aload_n 0) 1 1 := ⟨by decide +kernel, rfl⟩
theorem d_X9_init_1 : DC mi_X9_init 1 (.invokespecial 5) 3 4 := ⟨by decide +kernel, rfl⟩
theorem d_X9_init_4 : DC mi_X9_init 4 (.aload_n 0) 1 5 := ⟨by decide +kernel, rfl⟩
theorem d_X9_init_5 : DC mi_X9_init 5 (.bipush 7) 2 7 := ⟨by decide +kernel, rfl⟩
theorem d_X9_init_7 : DC mi_X9_init 7 (.newarray .int) 2 9 := ⟨by decide +kernel, rfl⟩
theorem d_X9_init_9 : DC mi_X9_init 9 (.putfield 11) 3 12 := ⟨by decide +kernel, rfl⟩
theorem d_X9_init_12 : DC mi_X9_init 12 (.aload_n 0) 1 13 := ⟨by decide +kernel, rfl⟩
theorem d_X9_init_13 : DC mi_X9_init 13 (.bipush 7) 2 15 := ⟨by decide +kernel, rfl⟩
theorem d_X9_init_15 : DC mi_X9_init 15 (.newarray .int) 2 17 := ⟨by decide +kernel, rfl⟩
theorem d_X9_init_17 : DC mi_X9_init 17 (.putfield 17) 3 20 := ⟨by decide +kernel, rfl⟩
theorem d_X9_init_20 : DC mi_X9_init 20 (.aload_n 0) 1 21 := ⟨by decide +kernel, rfl⟩
theorem d_X9_init_21 : DC mi_X9_init 21 (.bipush 6) 2 23 := ⟨by decide +kernel, rfl⟩
theorem d_X9_init_23 : DC mi_X9_init 23 (.newarray .int) 2 25 := ⟨by decide +kernel, rfl⟩
theorem d_X9_init_25 : DC mi_X9_init 25 (.putfield 20) 3 28 := ⟨by decide +kernel, rfl⟩
theorem d_X9_init_28 : DC mi_X9_init 28 (.return_) 1 29 := ⟨by decide +kernel, rfl⟩
theorem lo_X9 : Cond.methodLink mi_X9_init.1.cls 5 Lib.objectInit ∈ tb := tb_in 423 (by decide +kernel) (by decide +kernel)
theorem fq_StairCount_Ways_11 : FLk "StairCount$Ways" 11 9 0 true := ⟨_, _, _, rfl, by decide, tb_in 424 (by decide +kernel) (by decide +kernel), rfl, rfl⟩
theorem fq_StairCount_Ways_11_t : ∀ (C : String) (T : u_T) (N : Nat), cls[9]? = some (C, T, N) → parseFieldDescriptor (T 0).2.2.1 = some (.array .int) ∧ C = mi_X9_init.1.cls := by
  intro C T N h
  have h1 : some (RX9, TX9, 3) = some (C, T, N) := h
  cases h1
  exact ⟨tyX9_ok 0 (by decide), rfl⟩
theorem fq_StairCount_Ways_17 : FLk "StairCount$Ways" 17 9 1 true := ⟨_, _, _, rfl, by decide, tb_in 426 (by decide +kernel) (by decide +kernel), rfl, rfl⟩
theorem fq_StairCount_Ways_17_t : ∀ (C : String) (T : u_T) (N : Nat), cls[9]? = some (C, T, N) → parseFieldDescriptor (T 1).2.2.1 = some (.array .int) ∧ C = mi_X9_init.1.cls := by
  intro C T N h
  have h1 : some (RX9, TX9, 3) = some (C, T, N) := h
  cases h1
  exact ⟨tyX9_ok 1 (by decide), rfl⟩
theorem fq_StairCount_Ways_20 : FLk "StairCount$Ways" 20 9 2 true := ⟨_, _, _, rfl, by decide, tb_in 428 (by decide +kernel) (by decide +kernel), rfl, rfl⟩
theorem fq_StairCount_Ways_20_t : ∀ (C : String) (T : u_T) (N : Nat), cls[9]? = some (C, T, N) → parseFieldDescriptor (T 2).2.2.1 = some (.array .int) ∧ C = mi_X9_init.1.cls := by
  intro C T N h
  have h1 : some (RX9, TX9, 3) = some (C, T, N) := h
  cases h1
  exact ⟨tyX9_ok 2 (by decide), rfl⟩
def tp_X9 : List (Nat ⊕ (Nat × Nat × Nat)) := [.inl 9, .inr (0, 7, 0), .inr (0, 7, 0), .inr (0, 6, 0)]
set_option maxHeartbeats 4000000 in
set_option maxRecDepth 100000 in
theorem kb_X9 (d : Nat) (hd : 1 ≤ d) (z : Nat) (h : HH) (a : Nat) (hsh : Seg a tp_X9) (hz : ∀ i, 0 ≤ i → i < 4 → zr h (a + i)) (ha : a + 4 ≤ nN) : Kb z h mi_X9_init 9 a 4 d 3 20 := by
  have e0 : (fsC 9).map (fvA h a) = [.ref (a + 1), .ref (a + 2), .ref (a + 3)] := rfl
  refine cx_of (by decide) rfl (by decide) ?_ (h := h)
  refine cx_aload0 d_X9_init_0 rfl ?_
  refine cx_obj lo_X9 (by omega) (by decide) d_X9_init_1 ?_
  refine cx_aload0 d_X9_init_4 rfl ?_
  refine cx_bipush (v := nI 7) d_X9_init_5 (by decide) ?_
  refine cx_newa (N := 7) (t := 0) (kd := 0) ((hsh 1 (by decide)).trans rfl) (by decide) rfl (Or.inl ⟨rfl, by decide, (hz 1 (by decide) (by decide)).1⟩) (tb_in 71 (by decide +kernel) (by decide +kernel)) (by decide) (by decide) (by decide) d_X9_init_7 ?_
  refine cx_put (fs' := [.ref (a + 1 + 0), .null, .null]) fq_StairCount_Ways_11 fq_StairCount_Ways_11_t (fun _ => ⟨rfl, rfl⟩) (Nat.le_of_ble_eq_true rfl) rfl (by omega) d_X9_init_9 ?_
  refine cx_aload0 d_X9_init_12 rfl ?_
  refine cx_bipush (v := nI 7) d_X9_init_13 (by decide) ?_
  refine cx_newa (N := 7) (t := 0) (kd := 0) ((hsh 2 (by decide)).trans rfl) (by decide) rfl (Or.inl ⟨rfl, by decide, (hz 2 (by decide) (by decide)).1⟩) (tb_in 71 (by decide +kernel) (by decide +kernel)) (by decide) (by decide) (by decide) d_X9_init_15 ?_
  refine cx_put (fs' := [.ref (a + 1 + 0), .ref (a + 1 + 1), .null]) fq_StairCount_Ways_17 fq_StairCount_Ways_17_t (fun _ => ⟨rfl, rfl⟩) (Nat.le_of_ble_eq_true rfl) rfl (by omega) d_X9_init_17 ?_
  refine cx_aload0 d_X9_init_20 rfl ?_
  refine cx_bipush (v := nI 6) d_X9_init_21 (by decide) ?_
  refine cx_newa (N := 6) (t := 0) (kd := 0) ((hsh 3 (by decide)).trans rfl) (by decide) rfl (Or.inl ⟨rfl, by decide, (hz 3 (by decide) (by decide)).1⟩) (tb_in 71 (by decide +kernel) (by decide +kernel)) (by decide) (by decide) (by decide) d_X9_init_23 ?_
  refine cx_put (fs' := [.ref (a + 1 + 0), .ref (a + 1 + 1), .ref (a + 1 + 2)]) fq_StairCount_Ways_20 fq_StairCount_Ways_20_t (fun _ => ⟨rfl, rfl⟩) (Nat.le_of_ble_eq_true rfl) rfl (by omega) d_X9_init_25 ?_
  refine cx_ret ((hsh 0 (by decide)).trans rfl) rfl rfl rfl rfl ?_ rfl d_X9_init_28
  exact e0.symm
def mi_X3_init : MI := (⟨RX3, "<init>", "()V"⟩, prog_5_method_1_code, 1, none)
theorem mg_X3_init : mG mi_X3_init 0 := ⟨tb_in 8 (by decide +kernel) (by decide +kernel), ⟨by decide +kernel, by decide +kernel, by decide +kernel⟩, tb_in 314 (by decide +kernel) (by decide +kernel), by decide⟩
theorem mj_X3_init : mi_X3_init.1.cls = RX3 ∧ mi_X3_init.1.name = "<init>" ∧ mi_X3_init.2.2.2 = none ∧ Cond.instanceMethod mi_X3_init.1 ∈ tb := ⟨rfl, rfl, rfl, tb_in 313 (by decide +kernel) (by decide +kernel)⟩
theorem df_X3 : ∀ j, j < 8 → defaultValue (tyX3 j) = vp_V (nul 3) j := by
  intro j hj
  rcases (show j = 0 ∨ j = 1 ∨ j = 2 ∨ j = 3 ∨ j = 4 ∨ j = 5 ∨ j = 6 ∨ j = 7 by omega) with rfl | rfl | rfl | rfl | rfl | rfl | rfl | rfl <;> rfl
theorem il_X3 : Cond.instantiable RX3 8 ∈ tb := tb_in 311 (by decide +kernel) (by decide +kernel)
theorem d_X3_init_0 : DC mi_X3_init 0 (.aload_n 0) 1 1 := ⟨by decide +kernel, rfl⟩
theorem d_X3_init_1 : DC mi_X3_init 1 (.invokespecial 3) 3 4 := ⟨by decide +kernel, rfl⟩
theorem d_X3_init_4 : DC mi_X3_init 4 (.aload_n 0) 1 5 := ⟨by decide +kernel, rfl⟩
theorem d_X3_init_5 : DC mi_X3_init 5 (.bipush 24) 2 7 := ⟨by decide +kernel, rfl⟩
theorem d_X3_init_7 : DC mi_X3_init 7 (.newarray .int) 2 9 := ⟨by decide +kernel, rfl⟩
theorem d_X3_init_9 : DC mi_X3_init 9 (.putfield 9) 3 12 := ⟨by decide +kernel, rfl⟩
theorem d_X3_init_12 : DC mi_X3_init 12 (.aload_n 0) 1 13 := ⟨by decide +kernel, rfl⟩
theorem d_X3_init_13 : DC mi_X3_init 13 (.bipush 24) 2 15 := ⟨by decide +kernel, rfl⟩
theorem d_X3_init_15 : DC mi_X3_init 15 (.newarray .int) 2 17 := ⟨by decide +kernel, rfl⟩
theorem d_X3_init_17 : DC mi_X3_init 17 (.putfield 15) 3 20 := ⟨by decide +kernel, rfl⟩
theorem d_X3_init_20 : DC mi_X3_init 20 (.aload_n 0) 1 21 := ⟨by decide +kernel, rfl⟩
theorem d_X3_init_21 : DC mi_X3_init 21 (.bipush 24) 2 23 := ⟨by decide +kernel, rfl⟩
theorem d_X3_init_23 : DC mi_X3_init 23 (.newarray .int) 2 25 := ⟨by decide +kernel, rfl⟩
theorem d_X3_init_25 : DC mi_X3_init 25 (.putfield 18) 3 28 := ⟨by decide +kernel, rfl⟩
theorem d_X3_init_28 : DC mi_X3_init 28 (.aload_n 0) 1 29 := ⟨by decide +kernel, rfl⟩
theorem d_X3_init_29 : DC mi_X3_init 29 (.bipush 24) 2 31 := ⟨by decide +kernel, rfl⟩
theorem d_X3_init_31 : DC mi_X3_init 31 (.newarray .boolean) 2 33 := ⟨by decide +kernel, rfl⟩
theorem d_X3_init_33 : DC mi_X3_init 33 (.putfield 21) 3 36 := ⟨by decide +kernel, rfl⟩
theorem d_X3_init_36 : DC mi_X3_init 36 (.aload_n 0) 1 37 := ⟨by decide +kernel, rfl⟩
theorem d_X3_init_37 : DC mi_X3_init 37 (.bipush 24) 2 39 := ⟨by decide +kernel, rfl⟩
theorem d_X3_init_39 : DC mi_X3_init 39 (.newarray .int) 2 41 := ⟨by decide +kernel, rfl⟩
theorem d_X3_init_41 : DC mi_X3_init 41 (.putfield 25) 3 44 := ⟨by decide +kernel, rfl⟩
theorem d_X3_init_44 : DC mi_X3_init 44 (.aload_n 0) 1 45 := ⟨by decide +kernel, rfl⟩
theorem d_X3_init_45 : DC mi_X3_init 45 (.bipush 24) 2 47 := ⟨by decide +kernel, rfl⟩
theorem d_X3_init_47 : DC mi_X3_init 47 (.newarray .boolean) 2 49 := ⟨by decide +kernel, rfl⟩
theorem d_X3_init_49 : DC mi_X3_init 49 (.putfield 28) 3 52 := ⟨by decide +kernel, rfl⟩
theorem d_X3_init_52 : DC mi_X3_init 52 (.aload_n 0) 1 53 := ⟨by decide +kernel, rfl⟩
theorem d_X3_init_53 : DC mi_X3_init 53 (.iconst (-1)) 1 54 := ⟨by decide +kernel, rfl⟩
theorem d_X3_init_54 : DC mi_X3_init 54 (.putfield 31) 3 57 := ⟨by decide +kernel, rfl⟩
theorem d_X3_init_57 : DC mi_X3_init 57 (.return_) 1 58 := ⟨by decide +kernel, rfl⟩
theorem lo_X3 : Cond.methodLink mi_X3_init.1.cls 3 Lib.objectInit ∈ tb := tb_in 315 (by decide +kernel) (by decide +kernel)
theorem fq_StairCount_Notes_9 : FLk "StairCount$Notes" 9 3 0 true := ⟨_, _, _, rfl, by decide, tb_in 316 (by decide +kernel) (by decide +kernel), rfl, rfl⟩
theorem fq_StairCount_Notes_9_t : ∀ (C : String) (T : u_T) (N : Nat), cls[3]? = some (C, T, N) → parseFieldDescriptor (T 0).2.2.1 = some (.array .int) ∧ C = mi_X3_init.1.cls := by
  intro C T N h
  have h1 : some (RX3, TX3, 8) = some (C, T, N) := h
  cases h1
  exact ⟨tyX3_ok 0 (by decide), rfl⟩
theorem fq_StairCount_Notes_15 : FLk "StairCount$Notes" 15 3 1 true := ⟨_, _, _, rfl, by decide, tb_in 317 (by decide +kernel) (by decide +kernel), rfl, rfl⟩
theorem fq_StairCount_Notes_15_t : ∀ (C : String) (T : u_T) (N : Nat), cls[3]? = some (C, T, N) → parseFieldDescriptor (T 1).2.2.1 = some (.array .int) ∧ C = mi_X3_init.1.cls := by
  intro C T N h
  have h1 : some (RX3, TX3, 8) = some (C, T, N) := h
  cases h1
  exact ⟨tyX3_ok 1 (by decide), rfl⟩
theorem fq_StairCount_Notes_18 : FLk "StairCount$Notes" 18 3 2 true := ⟨_, _, _, rfl, by decide, tb_in 318 (by decide +kernel) (by decide +kernel), rfl, rfl⟩
theorem fq_StairCount_Notes_18_t : ∀ (C : String) (T : u_T) (N : Nat), cls[3]? = some (C, T, N) → parseFieldDescriptor (T 2).2.2.1 = some (.array .int) ∧ C = mi_X3_init.1.cls := by
  intro C T N h
  have h1 : some (RX3, TX3, 8) = some (C, T, N) := h
  cases h1
  exact ⟨tyX3_ok 2 (by decide), rfl⟩
theorem fq_StairCount_Notes_21 : FLk "StairCount$Notes" 21 3 3 true := ⟨_, _, _, rfl, by decide, tb_in 319 (by decide +kernel) (by decide +kernel), rfl, rfl⟩
theorem fq_StairCount_Notes_21_t : ∀ (C : String) (T : u_T) (N : Nat), cls[3]? = some (C, T, N) → parseFieldDescriptor (T 3).2.2.1 = some (.array .boolean) ∧ C = mi_X3_init.1.cls := by
  intro C T N h
  have h1 : some (RX3, TX3, 8) = some (C, T, N) := h
  cases h1
  exact ⟨tyX3_ok 3 (by decide), rfl⟩
theorem fq_StairCount_Notes_25 : FLk "StairCount$Notes" 25 3 4 true := ⟨_, _, _, rfl, by decide, tb_in 320 (by decide +kernel) (by decide +kernel), rfl, rfl⟩
theorem fq_StairCount_Notes_25_t : ∀ (C : String) (T : u_T) (N : Nat), cls[3]? = some (C, T, N) → parseFieldDescriptor (T 4).2.2.1 = some (.array .int) ∧ C = mi_X3_init.1.cls := by
  intro C T N h
  have h1 : some (RX3, TX3, 8) = some (C, T, N) := h
  cases h1
  exact ⟨tyX3_ok 4 (by decide), rfl⟩
theorem fq_StairCount_Notes_28 : FLk "StairCount$Notes" 28 3 5 true := ⟨_, _, _, rfl, by decide, tb_in 321 (by decide +kernel) (by decide +kernel), rfl, rfl⟩
theorem fq_StairCount_Notes_28_t : ∀ (C : String) (T : u_T) (N : Nat), cls[3]? = some (C, T, N) → parseFieldDescriptor (T 5).2.2.1 = some (.array .boolean) ∧ C = mi_X3_init.1.cls := by
  intro C T N h
  have h1 : some (RX3, TX3, 8) = some (C, T, N) := h
  cases h1
  exact ⟨tyX3_ok 5 (by decide), rfl⟩
theorem fq_StairCount_Notes_31 : FLk "StairCount$Notes" 31 3 7 false := ⟨_, _, _, rfl, by decide, tb_in 324 (by decide +kernel) (by decide +kernel), rfl, rfl⟩
theorem fq_StairCount_Notes_31_t : ∀ (C : String) (T : u_T) (N : Nat), cls[3]? = some (C, T, N) → parseFieldDescriptor (T 7).2.2.1 = some .int ∧ C = mi_X3_init.1.cls := by
  intro C T N h
  have h1 : some (RX3, TX3, 8) = some (C, T, N) := h
  cases h1
  exact ⟨tyX3_ok 7 (by decide), rfl⟩
def tp_X3 : List (Nat ⊕ (Nat × Nat × Nat)) := [.inl 3, .inr (0, 24, 0), .inr (0, 24, 0), .inr (0, 24, 0), .inr (2, 24, 0), .inr (0, 24, 0), .inr (2, 24, 0)]
set_option maxHeartbeats 4000000 in
set_option maxRecDepth 100000 in
theorem kb_X3 (d : Nat) (hd : 1 ≤ d) (z : Nat) (h : HH) (a : Nat) (hsh : Seg a tp_X3) (hz : ∀ i, 1 ≤ i → i < 7 → zr h (a + i)) (ha : a + 7 ≤ nN) (h7 : h.1 a 7 = -1) (h6 : h.1 a 6 = 0) : Kb z h mi_X3_init 3 a 7 d 6 144 := by
  have e0 : (fsC 3).map (fvA h a) = [.ref (a + 1), .ref (a + 2), .ref (a + 3), .ref (a + 4), .ref (a + 5), .ref (a + 6), .int (h.1 a 6), .int (h.1 a 7)] := rfl
  rw [h7, h6] at e0
  refine cx_of (by decide) rfl (by decide) ?_ (h := h)
  refine cx_aload0 d_X3_init_0 rfl ?_
  refine cx_obj lo_X3 (by omega) (by decide) d_X3_init_1 ?_
  refine cx_aload0 d_X3_init_4 rfl ?_
  refine cx_bipush (v := nI 24) d_X3_init_5 (by decide) ?_
  refine cx_newa (N := 24) (t := 0) (kd := 0) ((hsh 1 (by decide)).trans rfl) (by decide) rfl (Or.inl ⟨rfl, by decide, (hz 1 (by decide) (by decide)).1⟩) (tb_in 71 (by decide +kernel) (by decide +kernel)) (by decide) (by decide) (by decide) d_X3_init_7 ?_
  refine cx_put (fs' := [.ref (a + 1 + 0), .null, .null, .null, .null, .null, .int 0, .int 0]) fq_StairCount_Notes_9 fq_StairCount_Notes_9_t (fun _ => ⟨rfl, rfl⟩) (Nat.le_of_ble_eq_true rfl) rfl (by omega) d_X3_init_9 ?_
  refine cx_aload0 d_X3_init_12 rfl ?_
  refine cx_bipush (v := nI 24) d_X3_init_13 (by decide) ?_
  refine cx_newa (N := 24) (t := 0) (kd := 0) ((hsh 2 (by decide)).trans rfl) (by decide) rfl (Or.inl ⟨rfl, by decide, (hz 2 (by decide) (by decide)).1⟩) (tb_in 71 (by decide +kernel) (by decide +kernel)) (by decide) (by decide) (by decide) d_X3_init_15 ?_
  refine cx_put (fs' := [.ref (a + 1 + 0), .ref (a + 1 + 1), .null, .null, .null, .null, .int 0, .int 0]) fq_StairCount_Notes_15 fq_StairCount_Notes_15_t (fun _ => ⟨rfl, rfl⟩) (Nat.le_of_ble_eq_true rfl) rfl (by omega) d_X3_init_17 ?_
  refine cx_aload0 d_X3_init_20 rfl ?_
  refine cx_bipush (v := nI 24) d_X3_init_21 (by decide) ?_
  refine cx_newa (N := 24) (t := 0) (kd := 0) ((hsh 3 (by decide)).trans rfl) (by decide) rfl (Or.inl ⟨rfl, by decide, (hz 3 (by decide) (by decide)).1⟩) (tb_in 71 (by decide +kernel) (by decide +kernel)) (by decide) (by decide) (by decide) d_X3_init_23 ?_
  refine cx_put (fs' := [.ref (a + 1 + 0), .ref (a + 1 + 1), .ref (a + 1 + 2), .null, .null, .null, .int 0, .int 0]) fq_StairCount_Notes_18 fq_StairCount_Notes_18_t (fun _ => ⟨rfl, rfl⟩) (Nat.le_of_ble_eq_true rfl) rfl (by omega) d_X3_init_25 ?_
  refine cx_aload0 d_X3_init_28 rfl ?_
  refine cx_bipush (v := nI 24) d_X3_init_29 (by decide) ?_
  refine cx_newa (N := 24) (t := 2) (kd := 0) ((hsh 4 (by decide)).trans rfl) (by decide) rfl (Or.inl ⟨rfl, by decide, (hz 4 (by decide) (by decide)).1⟩) (tb_in 343 (by decide +kernel) (by decide +kernel)) (by decide) (by decide) (by decide) d_X3_init_31 ?_
  refine cx_put (fs' := [.ref (a + 1 + 0), .ref (a + 1 + 1), .ref (a + 1 + 2), .ref (a + 1 + 3), .null, .null, .int 0, .int 0]) fq_StairCount_Notes_21 fq_StairCount_Notes_21_t (fun _ => ⟨rfl, rfl⟩) (Nat.le_of_ble_eq_true rfl) rfl (by omega) d_X3_init_33 ?_
  refine cx_aload0 d_X3_init_36 rfl ?_
  refine cx_bipush (v := nI 24) d_X3_init_37 (by decide) ?_
  refine cx_newa (N := 24) (t := 0) (kd := 0) ((hsh 5 (by decide)).trans rfl) (by decide) rfl (Or.inl ⟨rfl, by decide, (hz 5 (by decide) (by decide)).1⟩) (tb_in 71 (by decide +kernel) (by decide +kernel)) (by decide) (by decide) (by decide) d_X3_init_39 ?_
  refine cx_put (fs' := [.ref (a + 1 + 0), .ref (a + 1 + 1), .ref (a + 1 + 2), .ref (a + 1 + 3), .ref (a + 1 + 4), .null, .int 0, .int 0]) fq_StairCount_Notes_25 fq_StairCount_Notes_25_t (fun _ => ⟨rfl, rfl⟩) (Nat.le_of_ble_eq_true rfl) rfl (by omega) d_X3_init_41 ?_
  refine cx_aload0 d_X3_init_44 rfl ?_
  refine cx_bipush (v := nI 24) d_X3_init_45 (by decide) ?_
  refine cx_newa (N := 24) (t := 2) (kd := 0) ((hsh 6 (by decide)).trans rfl) (by decide) rfl (Or.inl ⟨rfl, by decide, (hz 6 (by decide) (by decide)).1⟩) (tb_in 343 (by decide +kernel) (by decide +kernel)) (by decide) (by decide) (by decide) d_X3_init_47 ?_
  refine cx_put (fs' := [.ref (a + 1 + 0), .ref (a + 1 + 1), .ref (a + 1 + 2), .ref (a + 1 + 3), .ref (a + 1 + 4), .ref (a + 1 + 5), .int 0, .int 0]) fq_StairCount_Notes_28 fq_StairCount_Notes_28_t (fun _ => ⟨rfl, rfl⟩) (Nat.le_of_ble_eq_true rfl) rfl (by omega) d_X3_init_49 ?_
  refine cx_aload0 d_X3_init_52 rfl ?_
  refine cx_iconst (v := -1) d_X3_init_53 (by decide) ?_
  refine cx_put (fs' := [.ref (a + 1 + 0), .ref (a + 1 + 1), .ref (a + 1 + 2), .ref (a + 1 + 3), .ref (a + 1 + 4), .ref (a + 1 + 5), .int 0, .int (-1)]) fq_StairCount_Notes_31 fq_StairCount_Notes_31_t (fun _ => ⟨rfl, rfl⟩) (Nat.le_of_ble_eq_true rfl) rfl (by omega) d_X3_init_54 ?_
  refine cx_ret ((hsh 0 (by decide)).trans rfl) rfl rfl rfl rfl ?_ rfl d_X3_init_57
  exact e0.symm
def mi_X5_init : MI := (⟨RX5, "<init>", "()V"⟩, prog_7_method_1_code, 1, none)
theorem mg_X5_init : mG mi_X5_init 0 := ⟨tb_in 2 (by decide +kernel) (by decide +kernel), ⟨by decide +kernel, by decide +kernel, by decide +kernel⟩, tb_in 38 (by decide +kernel) (by decide +kernel), by decide⟩
theorem mj_X5_init : mi_X5_init.1.cls = RX5 ∧ mi_X5_init.1.name = "<init>" ∧ mi_X5_init.2.2.2 = none ∧ Cond.instanceMethod mi_X5_init.1 ∈ tb := ⟨rfl, rfl, rfl, tb_in 37 (by decide +kernel) (by decide +kernel)⟩
theorem df_X5 : ∀ j, j < 17 → defaultValue (tyX5 j) = vp_V (nul 5) j := by
  intro j hj
  rcases (show j = 0 ∨ j = 1 ∨ j = 2 ∨ j = 3 ∨ j = 4 ∨ j = 5 ∨ j = 6 ∨ j = 7 ∨ j = 8 ∨ j = 9 ∨ j = 10 ∨ j = 11 ∨ j = 12 ∨ j = 13 ∨ j = 14 ∨ j = 15 ∨ j = 16 by omega) with rfl | rfl | rfl | rfl | rfl | rfl | rfl | rfl | rfl | rfl | rfl | rfl | rfl | rfl | rfl | rfl | rfl <;> rfl
theorem il_X5 : Cond.instantiable RX5 17 ∈ tb := tb_in 35 (by decide +kernel) (by decide +kernel)
theorem d_X5_init_0 : DC mi_X5_init 0 (.aload_n 0) 1 1 := ⟨by decide +kernel, rfl⟩
theorem d_X5_init_1 : DC mi_X5_init 1 (.invokespecial 3) 3 4 := ⟨by decide +kernel, rfl⟩
theorem d_X5_init_4 : DC mi_X5_init 4 (.aload_n 0) 1 5 := ⟨by decide +kernel, rfl⟩
theorem d_X5_init_5 : DC mi_X5_init 5 (.bipush 6) 2 7 := ⟨by decide +kernel, rfl⟩
theorem d_X5_init_7 : DC mi_X5_init 7 (.newarray .int) 2 9 := ⟨by decide +kernel, rfl⟩
theorem d_X5_init_9 : DC mi_X5_init 9 (.putfield 9) 3 12 := ⟨by decide +kernel, rfl⟩
theorem d_X5_init_12 : DC mi_X5_init 12 (.aload_n 0) 1 13 := ⟨by decide +kernel, rfl⟩
theorem d_X5_init_13 : DC mi_X5_init 13 (.bipush 6) 2 15 := ⟨by decide +kernel, rfl⟩
theorem d_X5_init_15 : DC mi_X5_init 15 (.newarray .int) 2 17 := ⟨by decide +kernel, rfl⟩
theorem d_X5_init_17 : DC mi_X5_init 17 (.putfield 15) 3 20 := ⟨by decide +kernel, rfl⟩
theorem d_X5_init_20 : DC mi_X5_init 20 (.aload_n 0) 1 21 := ⟨by decide +kernel, rfl⟩
theorem d_X5_init_21 : DC mi_X5_init 21 (.bipush 6) 2 23 := ⟨by decide +kernel, rfl⟩
theorem d_X5_init_23 : DC mi_X5_init 23 (.newarray .int) 2 25 := ⟨by decide +kernel, rfl⟩
theorem d_X5_init_25 : DC mi_X5_init 25 (.putfield 18) 3 28 := ⟨by decide +kernel, rfl⟩
theorem d_X5_init_28 : DC mi_X5_init 28 (.aload_n 0) 1 29 := ⟨by decide +kernel, rfl⟩
theorem d_X5_init_29 : DC mi_X5_init 29 (.bipush 6) 2 31 := ⟨by decide +kernel, rfl⟩
theorem d_X5_init_31 : DC mi_X5_init 31 (.newarray .int) 2 33 := ⟨by decide +kernel, rfl⟩
theorem d_X5_init_33 : DC mi_X5_init 33 (.putfield 21) 3 36 := ⟨by decide +kernel, rfl⟩
theorem d_X5_init_36 : DC mi_X5_init 36 (.aload_n 0) 1 37 := ⟨by decide +kernel, rfl⟩
theorem d_X5_init_37 : DC mi_X5_init 37 (.bipush 6) 2 39 := ⟨by decide +kernel, rfl⟩
theorem d_X5_init_39 : DC mi_X5_init 39 (.newarray .int) 2 41 := ⟨by decide +kernel, rfl⟩
theorem d_X5_init_41 : DC mi_X5_init 41 (.putfield 24) 3 44 := ⟨by decide +kernel, rfl⟩
theorem d_X5_init_44 : DC mi_X5_init 44 (.aload_n 0) 1 45 := ⟨by decide +kernel, rfl⟩
theorem d_X5_init_45 : DC mi_X5_init 45 (.bipush 6) 2 47 := ⟨by decide +kernel, rfl⟩
theorem d_X5_init_47 : DC mi_X5_init 47 (.newarray .int) 2 49 := ⟨by decide +kernel, rfl⟩
theorem d_X5_init_49 : DC mi_X5_init 49 (.putfield 27) 3 52 := ⟨by decide +kernel, rfl⟩
theorem d_X5_init_52 : DC mi_X5_init 52 (.aload_n 0) 1 53 := ⟨by decide +kernel, rfl⟩
theorem d_X5_init_53 : DC mi_X5_init 53 (.bipush 20) 2 55 := ⟨by decide +kernel, rfl⟩
theorem d_X5_init_55 : DC mi_X5_init 55 (.newarray .int) 2 57 := ⟨by decide +kernel, rfl⟩
theorem d_X5_init_57 : DC mi_X5_init 57 (.putfield 30) 3 60 := ⟨by decide +kernel, rfl⟩
theorem d_X5_init_60 : DC mi_X5_init 60 (.aload_n 0) 1 61 := ⟨by decide +kernel, rfl⟩
theorem d_X5_init_61 : DC mi_X5_init 61 (.bipush 20) 2 63 := ⟨by decide +kernel, rfl⟩
theorem d_X5_init_63 : DC mi_X5_init 63 (.newarray .int) 2 65 := ⟨by decide +kernel, rfl⟩
theorem d_X5_init_65 : DC mi_X5_init 65 (.putfield 33) 3 68 := ⟨by decide +kernel, rfl⟩
theorem d_X5_init_68 : DC mi_X5_init 68 (.aload_n 0) 1 69 := ⟨by decide +kernel, rfl⟩
theorem d_X5_init_69 : DC mi_X5_init 69 (.bipush 20) 2 71 := ⟨by decide +kernel, rfl⟩
theorem d_X5_init_71 : DC mi_X5_init 71 (.newarray .int) 2 73 := ⟨by decide +kernel, rfl⟩
theorem d_X5_init_73 : DC mi_X5_init 73 (.putfield 36) 3 76 := ⟨by decide +kernel, rfl⟩
theorem d_X5_init_76 : DC mi_X5_init 76 (.aload_n 0) 1 77 := ⟨by decide +kernel, rfl⟩
theorem d_X5_init_77 : DC mi_X5_init 77 (.bipush 20) 2 79 := ⟨by decide +kernel, rfl⟩
theorem d_X5_init_79 : DC mi_X5_init 79 (.newarray .int) 2 81 := ⟨by decide +kernel, rfl⟩
theorem d_X5_init_81 : DC mi_X5_init 81 (.putfield 39) 3 84 := ⟨by decide +kernel, rfl⟩
theorem d_X5_init_84 : DC mi_X5_init 84 (.aload_n 0) 1 85 := ⟨by decide +kernel, rfl⟩
theorem d_X5_init_85 : DC mi_X5_init 85 (.new 42) 3 88 := ⟨by decide +kernel, rfl⟩
theorem d_X5_init_88 : DC mi_X5_init 88 (.dup) 1 89 := ⟨by decide +kernel, rfl⟩
theorem d_X5_init_89 : DC mi_X5_init 89 (.invokespecial 44) 3 92 := ⟨by decide +kernel, rfl⟩
theorem d_X5_init_92 : DC mi_X5_init 92 (.putfield 45) 3 95 := ⟨by decide +kernel, rfl⟩
theorem d_X5_init_95 : DC mi_X5_init 95 (.aload_n 0) 1 96 := ⟨by decide +kernel, rfl⟩
theorem d_X5_init_96 : DC mi_X5_init 96 (.new 49) 3 99 := ⟨by decide +kernel, rfl⟩
theorem d_X5_init_99 : DC mi_X5_init 99 (.dup) 1 100 := ⟨by decide +kernel, rfl⟩
theorem d_X5_init_100 : DC mi_X5_init 100 (.invokespecial 51) 3 103 := ⟨by decide +kernel, rfl⟩
theorem d_X5_init_103 : DC mi_X5_init 103 (.putfield 52) 3 106 := ⟨by decide +kernel, rfl⟩
theorem d_X5_init_106 : DC mi_X5_init 106 (.return_) 1 107 := ⟨by decide +kernel, rfl⟩
theorem lo_X5 : Cond.methodLink mi_X5_init.1.cls 3 Lib.objectInit ∈ tb := tb_in 39 (by decide +kernel) (by decide +kernel)
theorem fq_StairCount_Plan_9 : FLk "StairCount$Plan" 9 5 1 true := ⟨_, _, _, rfl, by decide, tb_in 125 (by decide +kernel) (by decide +kernel), rfl, rfl⟩
theorem fq_StairCount_Plan_9_t : ∀ (C : String) (T : u_T) (N : Nat), cls[5]? = some (C, T, N) → parseFieldDescriptor (T 1).2.2.1 = some (.array .int) ∧ C = mi_X5_init.1.cls := by
  intro C T N h
  have h1 : some (RX5, TX5, 17) = some (C, T, N) := h
  cases h1
  exact ⟨tyX5_ok 1 (by decide), rfl⟩
theorem fq_StairCount_Plan_15 : FLk "StairCount$Plan" 15 5 3 true := ⟨_, _, _, rfl, by decide, tb_in 132 (by decide +kernel) (by decide +kernel), rfl, rfl⟩
theorem fq_StairCount_Plan_15_t : ∀ (C : String) (T : u_T) (N : Nat), cls[5]? = some (C, T, N) → parseFieldDescriptor (T 3).2.2.1 = some (.array .int) ∧ C = mi_X5_init.1.cls := by
  intro C T N h
  have h1 : some (RX5, TX5, 17) = some (C, T, N) := h
  cases h1
  exact ⟨tyX5_ok 3 (by decide), rfl⟩
theorem fq_StairCount_Plan_18 : FLk "StairCount$Plan" 18 5 4 true := ⟨_, _, _, rfl, by decide, tb_in 134 (by decide +kernel) (by decide +kernel), rfl, rfl⟩
theorem fq_StairCount_Plan_18_t : ∀ (C : String) (T : u_T) (N : Nat), cls[5]? = some (C, T, N) → parseFieldDescriptor (T 4).2.2.1 = some (.array .int) ∧ C = mi_X5_init.1.cls := by
  intro C T N h
  have h1 : some (RX5, TX5, 17) = some (C, T, N) := h
  cases h1
  exact ⟨tyX5_ok 4 (by decide), rfl⟩
theorem fq_StairCount_Plan_21 : FLk "StairCount$Plan" 21 5 6 true := ⟨_, _, _, rfl, by decide, tb_in 142 (by decide +kernel) (by decide +kernel), rfl, rfl⟩
theorem fq_StairCount_Plan_21_t : ∀ (C : String) (T : u_T) (N : Nat), cls[5]? = some (C, T, N) → parseFieldDescriptor (T 6).2.2.1 = some (.array .int) ∧ C = mi_X5_init.1.cls := by
  intro C T N h
  have h1 : some (RX5, TX5, 17) = some (C, T, N) := h
  cases h1
  exact ⟨tyX5_ok 6 (by decide), rfl⟩
theorem fq_StairCount_Plan_24 : FLk "StairCount$Plan" 24 5 7 true := ⟨_, _, _, rfl, by decide, tb_in 146 (by decide +kernel) (by decide +kernel), rfl, rfl⟩
theorem fq_StairCount_Plan_24_t : ∀ (C : String) (T : u_T) (N : Nat), cls[5]? = some (C, T, N) → parseFieldDescriptor (T 7).2.2.1 = some (.array .int) ∧ C = mi_X5_init.1.cls := by
  intro C T N h
  have h1 : some (RX5, TX5, 17) = some (C, T, N) := h
  cases h1
  exact ⟨tyX5_ok 7 (by decide), rfl⟩
theorem fq_StairCount_Plan_27 : FLk "StairCount$Plan" 27 5 8 true := ⟨_, _, _, rfl, by decide, tb_in 150 (by decide +kernel) (by decide +kernel), rfl, rfl⟩
theorem fq_StairCount_Plan_27_t : ∀ (C : String) (T : u_T) (N : Nat), cls[5]? = some (C, T, N) → parseFieldDescriptor (T 8).2.2.1 = some (.array .int) ∧ C = mi_X5_init.1.cls := by
  intro C T N h
  have h1 : some (RX5, TX5, 17) = some (C, T, N) := h
  cases h1
  exact ⟨tyX5_ok 8 (by decide), rfl⟩
theorem fq_StairCount_Plan_30 : FLk "StairCount$Plan" 30 5 10 true := ⟨_, _, _, rfl, by decide, tb_in 158 (by decide +kernel) (by decide +kernel), rfl, rfl⟩
theorem fq_StairCount_Plan_30_t : ∀ (C : String) (T : u_T) (N : Nat), cls[5]? = some (C, T, N) → parseFieldDescriptor (T 10).2.2.1 = some (.array .int) ∧ C = mi_X5_init.1.cls := by
  intro C T N h
  have h1 : some (RX5, TX5, 17) = some (C, T, N) := h
  cases h1
  exact ⟨tyX5_ok 10 (by decide), rfl⟩
theorem fq_StairCount_Plan_33 : FLk "StairCount$Plan" 33 5 11 true := ⟨_, _, _, rfl, by decide, tb_in 161 (by decide +kernel) (by decide +kernel), rfl, rfl⟩
theorem fq_StairCount_Plan_33_t : ∀ (C : String) (T : u_T) (N : Nat), cls[5]? = some (C, T, N) → parseFieldDescriptor (T 11).2.2.1 = some (.array .int) ∧ C = mi_X5_init.1.cls := by
  intro C T N h
  have h1 : some (RX5, TX5, 17) = some (C, T, N) := h
  cases h1
  exact ⟨tyX5_ok 11 (by decide), rfl⟩
theorem fq_StairCount_Plan_36 : FLk "StairCount$Plan" 36 5 12 true := ⟨_, _, _, rfl, by decide, tb_in 164 (by decide +kernel) (by decide +kernel), rfl, rfl⟩
theorem fq_StairCount_Plan_36_t : ∀ (C : String) (T : u_T) (N : Nat), cls[5]? = some (C, T, N) → parseFieldDescriptor (T 12).2.2.1 = some (.array .int) ∧ C = mi_X5_init.1.cls := by
  intro C T N h
  have h1 : some (RX5, TX5, 17) = some (C, T, N) := h
  cases h1
  exact ⟨tyX5_ok 12 (by decide), rfl⟩
theorem fq_StairCount_Plan_39 : FLk "StairCount$Plan" 39 5 13 true := ⟨_, _, _, rfl, by decide, tb_in 167 (by decide +kernel) (by decide +kernel), rfl, rfl⟩
theorem fq_StairCount_Plan_39_t : ∀ (C : String) (T : u_T) (N : Nat), cls[5]? = some (C, T, N) → parseFieldDescriptor (T 13).2.2.1 = some (.array .int) ∧ C = mi_X5_init.1.cls := by
  intro C T N h
  have h1 : some (RX5, TX5, 17) = some (C, T, N) := h
  cases h1
  exact ⟨tyX5_ok 13 (by decide), rfl⟩
theorem ln_X5_44 : Cond.methodLinkNest mi_X5_init.1.cls 44 mi_X2_init.1 "StairCount" ∈ nestW := by decide +kernel
theorem fq_StairCount_Plan_45 : FLk "StairCount$Plan" 45 5 14 true := ⟨_, _, _, rfl, by decide, tb_in 170 (by decide +kernel) (by decide +kernel), rfl, rfl⟩
theorem fq_StairCount_Plan_45_t : ∀ (C : String) (T : u_T) (N : Nat), cls[5]? = some (C, T, N) → parseFieldDescriptor (T 14).2.2.1 = some (.object "StairCount$Laws") ∧ C = mi_X5_init.1.cls := by
  intro C T N h
  have h1 : some (RX5, TX5, 17) = some (C, T, N) := h
  cases h1
  exact ⟨tyX5_ok 14 (by decide), rfl⟩
theorem ln_X5_51 : Cond.methodLinkNest mi_X5_init.1.cls 51 mi_X7_init.1 "StairCount" ∈ nestW := by decide +kernel
theorem fq_StairCount_Plan_52 : FLk "StairCount$Plan" 52 5 16 true := ⟨_, _, _, rfl, by decide, tb_in 178 (by decide +kernel) (by decide +kernel), rfl, rfl⟩
theorem fq_StairCount_Plan_52_t : ∀ (C : String) (T : u_T) (N : Nat), cls[5]? = some (C, T, N) → parseFieldDescriptor (T 16).2.2.1 = some (.object "StairCount$State") ∧ C = mi_X5_init.1.cls := by
  intro C T N h
  have h1 : some (RX5, TX5, 17) = some (C, T, N) := h
  cases h1
  exact ⟨tyX5_ok 16 (by decide), rfl⟩
def tp_X5 : List (Nat ⊕ (Nat × Nat × Nat)) := [.inl 5, .inr (0, 6, 0), .inr (0, 6, 0), .inr (0, 6, 0), .inr (0, 6, 0), .inr (0, 6, 0), .inr (0, 6, 0), .inr (0, 20, 0), .inr (0, 20, 0), .inr (0, 20, 0), .inr (0, 20, 0), .inl 2, .inr (0, 64, 0), .inr (0, 64, 0), .inr (0, 3, 0), .inr (0, 3, 0), .inl 7, .inr (0, 6, 0), .inr (0, 6, 0), .inr (0, 6, 0), .inr (0, 6, 0), .inr (0, 36, 0)]
set_option maxHeartbeats 4000000 in
set_option maxRecDepth 100000 in
theorem kb_X5 (d : Nat) (hd : 2 ≤ d) (z : Nat) (h : HH) (a : Nat) (hsh : Seg a tp_X5) (hz : ∀ i, 0 ≤ i → i < 22 → zr h (a + i)) (ha : a + 22 ≤ nN) : Kb z h mi_X5_init 5 a 22 d 21 322 := by
  have e0 : (fsC 5).map (fvA h a) = [.int (h.1 a 0), .ref (a + 1), .int (h.1 a 2), .ref (a + 2), .ref (a + 3), .int (h.1 a 5), .ref (a + 4), .ref (a + 5), .ref (a + 6), .int (h.1 a 9), .ref (a + 7), .ref (a + 8), .ref (a + 9), .ref (a + 10), .ref (a + 11), .int (h.1 a 15), .ref (a + 16)] := rfl
  have z0 : h.1 a = fun _ => 0 := (hz 0 (by decide) (by decide)).1
  rw [z0] at e0
  obtain ⟨d, rfl⟩ : ∃ e, d = e + 1 := ⟨d - 1, by omega⟩
  refine cx_of (by decide) rfl (by decide) ?_ (h := h)
  refine cx_aload0 d_X5_init_0 rfl ?_
  refine cx_obj lo_X5 (by omega) (by decide) d_X5_init_1 ?_
  refine cx_aload0 d_X5_init_4 rfl ?_
  refine cx_bipush (v := nI 6) d_X5_init_5 (by decide) ?_
  refine cx_newa (N := 6) (t := 0) (kd := 0) ((hsh 1 (by decide)).trans rfl) (by decide) rfl (Or.inl ⟨rfl, by decide, (hz 1 (by decide) (by decide)).1⟩) (tb_in 71 (by decide +kernel) (by decide +kernel)) (by decide) (by decide) (by decide) d_X5_init_7 ?_
  refine cx_put (fs' := [.int 0, .ref (a + 1 + 0), .int 0, .null, .null, .int 0, .null, .null, .null, .int 0, .null, .null, .null, .null, .null, .int 0, .null]) fq_StairCount_Plan_9 fq_StairCount_Plan_9_t (fun _ => ⟨rfl, rfl⟩) (Nat.le_of_ble_eq_true rfl) rfl (by omega) d_X5_init_9 ?_
  refine cx_aload0 d_X5_init_12 rfl ?_
  refine cx_bipush (v := nI 6) d_X5_init_13 (by decide) ?_
  refine cx_newa (N := 6) (t := 0) (kd := 0) ((hsh 2 (by decide)).trans rfl) (by decide) rfl (Or.inl ⟨rfl, by decide, (hz 2 (by decide) (by decide)).1⟩) (tb_in 71 (by decide +kernel) (by decide +kernel)) (by decide) (by decide) (by decide) d_X5_init_15 ?_
  refine cx_put (fs' := [.int 0, .ref (a + 1 + 0), .int 0, .ref (a + 1 + 1), .null, .int 0, .null, .null, .null, .int 0, .null, .null, .null, .null, .null, .int 0, .null]) fq_StairCount_Plan_15 fq_StairCount_Plan_15_t (fun _ => ⟨rfl, rfl⟩) (Nat.le_of_ble_eq_true rfl) rfl (by omega) d_X5_init_17 ?_
  refine cx_aload0 d_X5_init_20 rfl ?_
  refine cx_bipush (v := nI 6) d_X5_init_21 (by decide) ?_
  refine cx_newa (N := 6) (t := 0) (kd := 0) ((hsh 3 (by decide)).trans rfl) (by decide) rfl (Or.inl ⟨rfl, by decide, (hz 3 (by decide) (by decide)).1⟩) (tb_in 71 (by decide +kernel) (by decide +kernel)) (by decide) (by decide) (by decide) d_X5_init_23 ?_
  refine cx_put (fs' := [.int 0, .ref (a + 1 + 0), .int 0, .ref (a + 1 + 1), .ref (a + 1 + 2), .int 0, .null, .null, .null, .int 0, .null, .null, .null, .null, .null, .int 0, .null]) fq_StairCount_Plan_18 fq_StairCount_Plan_18_t (fun _ => ⟨rfl, rfl⟩) (Nat.le_of_ble_eq_true rfl) rfl (by omega) d_X5_init_25 ?_
  refine cx_aload0 d_X5_init_28 rfl ?_
  refine cx_bipush (v := nI 6) d_X5_init_29 (by decide) ?_
  refine cx_newa (N := 6) (t := 0) (kd := 0) ((hsh 4 (by decide)).trans rfl) (by decide) rfl (Or.inl ⟨rfl, by decide, (hz 4 (by decide) (by decide)).1⟩) (tb_in 71 (by decide +kernel) (by decide +kernel)) (by decide) (by decide) (by decide) d_X5_init_31 ?_
  refine cx_put (fs' := [.int 0, .ref (a + 1 + 0), .int 0, .ref (a + 1 + 1), .ref (a + 1 + 2), .int 0, .ref (a + 1 + 3), .null, .null, .int 0, .null, .null, .null, .null, .null, .int 0, .null]) fq_StairCount_Plan_21 fq_StairCount_Plan_21_t (fun _ => ⟨rfl, rfl⟩) (Nat.le_of_ble_eq_true rfl) rfl (by omega) d_X5_init_33 ?_
  refine cx_aload0 d_X5_init_36 rfl ?_
  refine cx_bipush (v := nI 6) d_X5_init_37 (by decide) ?_
  refine cx_newa (N := 6) (t := 0) (kd := 0) ((hsh 5 (by decide)).trans rfl) (by decide) rfl (Or.inl ⟨rfl, by decide, (hz 5 (by decide) (by decide)).1⟩) (tb_in 71 (by decide +kernel) (by decide +kernel)) (by decide) (by decide) (by decide) d_X5_init_39 ?_
  refine cx_put (fs' := [.int 0, .ref (a + 1 + 0), .int 0, .ref (a + 1 + 1), .ref (a + 1 + 2), .int 0, .ref (a + 1 + 3), .ref (a + 1 + 4), .null, .int 0, .null, .null, .null, .null, .null, .int 0, .null]) fq_StairCount_Plan_24 fq_StairCount_Plan_24_t (fun _ => ⟨rfl, rfl⟩) (Nat.le_of_ble_eq_true rfl) rfl (by omega) d_X5_init_41 ?_
  refine cx_aload0 d_X5_init_44 rfl ?_
  refine cx_bipush (v := nI 6) d_X5_init_45 (by decide) ?_
  refine cx_newa (N := 6) (t := 0) (kd := 0) ((hsh 6 (by decide)).trans rfl) (by decide) rfl (Or.inl ⟨rfl, by decide, (hz 6 (by decide) (by decide)).1⟩) (tb_in 71 (by decide +kernel) (by decide +kernel)) (by decide) (by decide) (by decide) d_X5_init_47 ?_
  refine cx_put (fs' := [.int 0, .ref (a + 1 + 0), .int 0, .ref (a + 1 + 1), .ref (a + 1 + 2), .int 0, .ref (a + 1 + 3), .ref (a + 1 + 4), .ref (a + 1 + 5), .int 0, .null, .null, .null, .null, .null, .int 0, .null]) fq_StairCount_Plan_27 fq_StairCount_Plan_27_t (fun _ => ⟨rfl, rfl⟩) (Nat.le_of_ble_eq_true rfl) rfl (by omega) d_X5_init_49 ?_
  refine cx_aload0 d_X5_init_52 rfl ?_
  refine cx_bipush (v := nI 20) d_X5_init_53 (by decide) ?_
  refine cx_newa (N := 20) (t := 0) (kd := 0) ((hsh 7 (by decide)).trans rfl) (by decide) rfl (Or.inl ⟨rfl, by decide, (hz 7 (by decide) (by decide)).1⟩) (tb_in 71 (by decide +kernel) (by decide +kernel)) (by decide) (by decide) (by decide) d_X5_init_55 ?_
  refine cx_put (fs' := [.int 0, .ref (a + 1 + 0), .int 0, .ref (a + 1 + 1), .ref (a + 1 + 2), .int 0, .ref (a + 1 + 3), .ref (a + 1 + 4), .ref (a + 1 + 5), .int 0, .ref (a + 1 + 6), .null, .null, .null, .null, .int 0, .null]) fq_StairCount_Plan_30 fq_StairCount_Plan_30_t (fun _ => ⟨rfl, rfl⟩) (Nat.le_of_ble_eq_true rfl) rfl (by omega) d_X5_init_57 ?_
  refine cx_aload0 d_X5_init_60 rfl ?_
  refine cx_bipush (v := nI 20) d_X5_init_61 (by decide) ?_
  refine cx_newa (N := 20) (t := 0) (kd := 0) ((hsh 8 (by decide)).trans rfl) (by decide) rfl (Or.inl ⟨rfl, by decide, (hz 8 (by decide) (by decide)).1⟩) (tb_in 71 (by decide +kernel) (by decide +kernel)) (by decide) (by decide) (by decide) d_X5_init_63 ?_
  refine cx_put (fs' := [.int 0, .ref (a + 1 + 0), .int 0, .ref (a + 1 + 1), .ref (a + 1 + 2), .int 0, .ref (a + 1 + 3), .ref (a + 1 + 4), .ref (a + 1 + 5), .int 0, .ref (a + 1 + 6), .ref (a + 1 + 7), .null, .null, .null, .int 0, .null]) fq_StairCount_Plan_33 fq_StairCount_Plan_33_t (fun _ => ⟨rfl, rfl⟩) (Nat.le_of_ble_eq_true rfl) rfl (by omega) d_X5_init_65 ?_
  refine cx_aload0 d_X5_init_68 rfl ?_
  refine cx_bipush (v := nI 20) d_X5_init_69 (by decide) ?_
  refine cx_newa (N := 20) (t := 0) (kd := 0) ((hsh 9 (by decide)).trans rfl) (by decide) rfl (Or.inl ⟨rfl, by decide, (hz 9 (by decide) (by decide)).1⟩) (tb_in 71 (by decide +kernel) (by decide +kernel)) (by decide) (by decide) (by decide) d_X5_init_71 ?_
  refine cx_put (fs' := [.int 0, .ref (a + 1 + 0), .int 0, .ref (a + 1 + 1), .ref (a + 1 + 2), .int 0, .ref (a + 1 + 3), .ref (a + 1 + 4), .ref (a + 1 + 5), .int 0, .ref (a + 1 + 6), .ref (a + 1 + 7), .ref (a + 1 + 8), .null, .null, .int 0, .null]) fq_StairCount_Plan_36 fq_StairCount_Plan_36_t (fun _ => ⟨rfl, rfl⟩) (Nat.le_of_ble_eq_true rfl) rfl (by omega) d_X5_init_73 ?_
  refine cx_aload0 d_X5_init_76 rfl ?_
  refine cx_bipush (v := nI 20) d_X5_init_77 (by decide) ?_
  refine cx_newa (N := 20) (t := 0) (kd := 0) ((hsh 10 (by decide)).trans rfl) (by decide) rfl (Or.inl ⟨rfl, by decide, (hz 10 (by decide) (by decide)).1⟩) (tb_in 71 (by decide +kernel) (by decide +kernel)) (by decide) (by decide) (by decide) d_X5_init_79 ?_
  refine cx_put (fs' := [.int 0, .ref (a + 1 + 0), .int 0, .ref (a + 1 + 1), .ref (a + 1 + 2), .int 0, .ref (a + 1 + 3), .ref (a + 1 + 4), .ref (a + 1 + 5), .int 0, .ref (a + 1 + 6), .ref (a + 1 + 7), .ref (a + 1 + 8), .ref (a + 1 + 9), .null, .int 0, .null]) fq_StairCount_Plan_39 fq_StairCount_Plan_39_t (fun _ => ⟨rfl, rfl⟩) (Nat.le_of_ble_eq_true rfl) rfl (by omega) d_X5_init_81 ?_
  refine cx_aload0 d_X5_init_84 rfl ?_
  refine cx_new (m := 10) (sl := 116) (n' := 5) (mc' := 4) (ms' := 134) (d' := d) (N' := 5) (ty0 := tyX2) (kb_X2 d (by omega) z h (a + 11) (hsh.sub (b := 11) (by decide +kernel)) (fun i h1 h2 => by rw [Nat.add_assoc]; exact hz (11 + i) (by omega) (by omega)) (by omega)) rfl (by omega) rfl tyX2_ok df_X2 (tb_in 40 (by decide +kernel) (by decide +kernel)) il_X2 mg_X2_init mj_X2_init (Or.inl ⟨_, ln_X5_44⟩) rfl (by decide) (by decide) (Nat.le_of_ble_eq_true rfl) d_X5_init_85 d_X5_init_88 d_X5_init_89 ?_
  refine cx_put (fs' := [.int 0, .ref (a + 1 + 0), .int 0, .ref (a + 1 + 1), .ref (a + 1 + 2), .int 0, .ref (a + 1 + 3), .ref (a + 1 + 4), .ref (a + 1 + 5), .int 0, .ref (a + 1 + 6), .ref (a + 1 + 7), .ref (a + 1 + 8), .ref (a + 1 + 9), .ref (a + 1 + 10), .int 0, .null]) fq_StairCount_Plan_45 fq_StairCount_Plan_45_t (fun _ => ⟨rfl, rfl⟩) (Nat.le_of_ble_eq_true rfl) rfl (by omega) d_X5_init_92 ?_
  refine cx_aload0 d_X5_init_95 rfl ?_
  refine cx_new (m := 15) (sl := 255) (n' := 6) (mc' := 5) (ms' := 60) (d' := d) (N' := 7) (ty0 := tyX7) (kb_X7 d (by omega) z h (a + 16) (hsh.sub (b := 16) (by decide +kernel)) (fun i h1 h2 => by rw [Nat.add_assoc]; exact hz (16 + i) (by omega) (by omega)) (by omega)) rfl (by omega) rfl tyX7_ok df_X7 (tb_in 72 (by decide +kernel) (by decide +kernel)) il_X7 mg_X7_init mj_X7_init (Or.inl ⟨_, ln_X5_51⟩) rfl (by decide) (by decide) (Nat.le_of_ble_eq_true rfl) d_X5_init_96 d_X5_init_99 d_X5_init_100 ?_
  refine cx_put (fs' := [.int 0, .ref (a + 1 + 0), .int 0, .ref (a + 1 + 1), .ref (a + 1 + 2), .int 0, .ref (a + 1 + 3), .ref (a + 1 + 4), .ref (a + 1 + 5), .int 0, .ref (a + 1 + 6), .ref (a + 1 + 7), .ref (a + 1 + 8), .ref (a + 1 + 9), .ref (a + 1 + 10), .int 0, .ref (a + 1 + 15)]) fq_StairCount_Plan_52 fq_StairCount_Plan_52_t (fun _ => ⟨rfl, rfl⟩) (Nat.le_of_ble_eq_true rfl) rfl (by omega) d_X5_init_103 ?_
  refine cx_ret ((hsh 0 (by decide)).trans rfl) rfl rfl rfl rfl ?_ rfl d_X5_init_106
  exact e0.symm
def mi_X6_init : MI := (⟨RX6, "<init>", "()V"⟩, prog_8_method_1_code, 1, none)
theorem mg_X6_init : mG mi_X6_init 0 := ⟨tb_in 5 (by decide +kernel) (by decide +kernel), ⟨by decide +kernel, by decide +kernel, by decide +kernel⟩, tb_in 221 (by decide +kernel) (by decide +kernel), by decide⟩
theorem mj_X6_init : mi_X6_init.1.cls = RX6 ∧ mi_X6_init.1.name = "<init>" ∧ mi_X6_init.2.2.2 = none ∧ Cond.instanceMethod mi_X6_init.1 ∈ tb := ⟨rfl, rfl, rfl, tb_in 220 (by decide +kernel) (by decide +kernel)⟩
theorem df_X6 : ∀ j, j < 12 → defaultValue (tyX6 j) = vp_V (nul 6) j := by
  intro j hj
  rcases (show j = 0 ∨ j = 1 ∨ j = 2 ∨ j = 3 ∨ j = 4 ∨ j = 5 ∨ j = 6 ∨ j = 7 ∨ j = 8 ∨ j = 9 ∨ j = 10 ∨ j = 11 by omega) with rfl | rfl | rfl | rfl | rfl | rfl | rfl | rfl | rfl | rfl | rfl | rfl <;> rfl
theorem il_X6 : Cond.instantiable RX6 12 ∈ tb := tb_in 218 (by decide +kernel) (by decide +kernel)
theorem d_X6_init_0 : DC mi_X6_init 0 (.aload_n 0) 1 1 := ⟨by decide +kernel, rfl⟩
theorem d_X6_init_1 : DC mi_X6_init 1 (.invokespecial 3) 3 4 := ⟨by decide +kernel, rfl⟩
theorem d_X6_init_4 : DC mi_X6_init 4 (.aload_n 0) 1 5 := ⟨by decide +kernel, rfl⟩
theorem d_X6_init_5 : DC mi_X6_init 5 (.new 9) 3 8 := ⟨by decide +kernel, rfl⟩
theorem d_X6_init_8 : DC mi_X6_init 8 (.dup) 1 9 := ⟨by decide +kernel, rfl⟩
theorem d_X6_init_9 : DC mi_X6_init 9 (.invokespecial 11) 3 12 := ⟨by decide +kernel, rfl⟩
theorem d_X6_init_12 : DC mi_X6_init 12 (.putfield 12) 3 15 := ⟨by decide +kernel, rfl⟩
theorem d_X6_init_15 : DC mi_X6_init 15 (.aload_n 0) 1 16 := ⟨by decide +kernel, rfl⟩
theorem d_X6_init_16 : DC mi_X6_init 16 (.bipush 72) 2 18 := ⟨by decide +kernel, rfl⟩
theorem d_X6_init_18 : DC mi_X6_init 18 (.newarray .int) 2 20 := ⟨by decide +kernel, rfl⟩
theorem d_X6_init_20 : DC mi_X6_init 20 (.putfield 18) 3 23 := ⟨by decide +kernel, rfl⟩
theorem d_X6_init_23 : DC mi_X6_init 23 (.aload_n 0) 1 24 := ⟨by decide +kernel, rfl⟩
theorem d_X6_init_24 : DC mi_X6_init 24 (.new 22) 3 27 := ⟨by decide +kernel, rfl⟩
theorem d_X6_init_27 : DC mi_X6_init 27 (.dup) 1 28 := ⟨by decide +kernel, rfl⟩
theorem d_X6_init_28 : DC mi_X6_init 28 (.invokespecial 24) 3 31 := ⟨by decide +kernel, rfl⟩
theorem d_X6_init_31 : DC mi_X6_init 31 (.putfield 25) 3 34 := ⟨by decide +kernel, rfl⟩
theorem d_X6_init_34 : DC mi_X6_init 34 (.return_) 1 35 := ⟨by decide +kernel, rfl⟩
theorem lo_X6 : Cond.methodLink mi_X6_init.1.cls 3 Lib.objectInit ∈ tb := tb_in 222 (by decide +kernel) (by decide +kernel)
theorem ln_X6_11 : Cond.methodLinkNest mi_X6_init.1.cls 11 mi_X8_init.1 "StairCount" ∈ nestW := by decide +kernel
theorem fq_StairCount_Reader_12 : FLk "StairCount$Reade\x72" 12 6 0 true := ⟨_, _, _, rfl, by decide, tb_in 248 (by decide +kernel) (by decide +kernel), rfl, rfl⟩
theorem fq_StairCount_Reader_12_t : ∀ (C : String) (T : u_T) (N : Nat), cls[6]? = some (C, T, N) → parseFieldDescriptor (T 0).2.2.1 = some (.object "StairCount$Tokens") ∧ C = mi_X6_init.1.cls := by
  intro C T N h
  have h1 : some (RX6, TX6, 12) = some (C, T, N) := h
  cases h1
  exact ⟨tyX6_ok 0 (by decide), rfl⟩
theorem fq_StairCount_Reader_18 : FLk "StairCount$Reade\x72" 18 6 1 true := ⟨_, _, _, rfl, by decide, tb_in 249 (by decide +kernel) (by decide +kernel), rfl, rfl⟩
theorem fq_StairCount_Reader_18_t : ∀ (C : String) (T : u_T) (N : Nat), cls[6]? = some (C, T, N) → parseFieldDescriptor (T 1).2.2.1 = some (.array .int) ∧ C = mi_X6_init.1.cls := by
  intro C T N h
  have h1 : some (RX6, TX6, 12) = some (C, T, N) := h
  cases h1
  exact ⟨tyX6_ok 1 (by decide), rfl⟩
theorem ln_X6_24 : Cond.methodLinkNest mi_X6_init.1.cls 24 mi_X5_init.1 "StairCount" ∈ nestW := by decide +kernel
theorem fq_StairCount_Reader_25 : FLk "StairCount$Reade\x72" 25 6 2 false := ⟨_, _, _, rfl, by decide, tb_in 250 (by decide +kernel) (by decide +kernel), rfl, rfl⟩
theorem fq_StairCount_Reader_25_t : ∀ (C : String) (T : u_T) (N : Nat), cls[6]? = some (C, T, N) → parseFieldDescriptor (T 2).2.2.1 = some (.object "StairCount$Plan") ∧ C = mi_X6_init.1.cls := by
  intro C T N h
  have h1 : some (RX6, TX6, 12) = some (C, T, N) := h
  cases h1
  exact ⟨tyX6_ok 2 (by decide), rfl⟩
def tp_X6 : List (Nat ⊕ (Nat × Nat × Nat)) := [.inl 6, .inl 8, .inr (0, 701, 0), .inr (0, 701, 0), .inr (0, 701, 0), .inr (0, 72, 0), .inl 5, .inr (0, 6, 0), .inr (0, 6, 0), .inr (0, 6, 0), .inr (0, 6, 0), .inr (0, 6, 0), .inr (0, 6, 0), .inr (0, 20, 0), .inr (0, 20, 0), .inr (0, 20, 0), .inr (0, 20, 0), .inl 2, .inr (0, 64, 0), .inr (0, 64, 0), .inr (0, 3, 0), .inr (0, 3, 0), .inl 7, .inr (0, 6, 0), .inr (0, 6, 0), .inr (0, 6, 0), .inr (0, 6, 0), .inr (0, 36, 0)]
set_option maxHeartbeats 4000000 in
set_option maxRecDepth 100000 in
theorem kb_X6 (d : Nat) (hd : 3 ≤ d) (z : Nat) (h : HH) (a : Nat) (hsh : Seg a tp_X6) (hz : ∀ i, 0 ≤ i → i < 28 → zr h (a + i)) (ha : a + 28 ≤ nN) (h1 : h.2.2 1 = a + 6) : Kb z h mi_X6_init 6 a 28 d 27 2518 := by
  have e0 : (fsC 6).map (fvA h a) = [.ref (a + 1), .ref (a + 5), .ref (h.2.2 1), .int (h.1 a 3), .int (h.1 a 4), .int (h.1 a 5), .int (h.1 a 6), .int (h.1 a 7), .int (h.1 a 8), .int (h.1 a 9), .int (h.1 a 10), .int (h.1 a 11)] := rfl
  have z0 : h.1 a = fun _ => 0 := (hz 0 (by decide) (by decide)).1
  rw [z0, h1] at e0
  obtain ⟨d, rfl⟩ : ∃ e, d = e + 1 := ⟨d - 1, by omega⟩
  refine cx_of (by decide) rfl (by decide) ?_ (h := h)
  refine cx_aload0 d_X6_init_0 rfl ?_
  refine cx_obj lo_X6 (by omega) (by decide) d_X6_init_1 ?_
  refine cx_aload0 d_X6_init_4 rfl ?_
  refine cx_new (m := 0) (sl := 0) (n' := 4) (mc' := 3) (ms' := 2103) (d' := d) (N' := 4) (ty0 := tyX8) (kb_X8 d (by omega) z h (a + 1) (hsh.sub (b := 1) (by decide +kernel)) (fun i h1 h2 => by rw [Nat.add_assoc]; exact hz (1 + i) (by omega) (by omega)) (by omega)) rfl (by omega) rfl tyX8_ok df_X8 (tb_in 223 (by decide +kernel) (by decide +kernel)) il_X8 mg_X8_init mj_X8_init (Or.inl ⟨_, ln_X6_11⟩) rfl (by decide) (by decide) (Nat.le_of_ble_eq_true rfl) d_X6_init_5 d_X6_init_8 d_X6_init_9 ?_
  refine cx_put (fs' := [.ref (a + 1 + 0), .null, .null, .int 0, .int 0, .int 0, .int 0, .int 0, .int 0, .int 0, .int 0, .int 0]) fq_StairCount_Reader_12 fq_StairCount_Reader_12_t (fun _ => ⟨rfl, rfl⟩) (Nat.le_of_ble_eq_true rfl) rfl (by omega) d_X6_init_12 ?_
  refine cx_aload0 d_X6_init_15 rfl ?_
  refine cx_bipush (v := nI 72) d_X6_init_16 (by decide) ?_
  refine cx_newa (N := 72) (t := 0) (kd := 0) ((hsh 5 (by decide)).trans rfl) (by decide) rfl (Or.inl ⟨rfl, by decide, (hz 5 (by decide) (by decide)).1⟩) (tb_in 71 (by decide +kernel) (by decide +kernel)) (by decide) (by decide) (by decide) d_X6_init_18 ?_
  refine cx_put (fs' := [.ref (a + 1 + 0), .ref (a + 1 + 4), .null, .int 0, .int 0, .int 0, .int 0, .int 0, .int 0, .int 0, .int 0, .int 0]) fq_StairCount_Reader_18 fq_StairCount_Reader_18_t (fun _ => ⟨rfl, rfl⟩) (Nat.le_of_ble_eq_true rfl) rfl (by omega) d_X6_init_20 ?_
  refine cx_aload0 d_X6_init_23 rfl ?_
  refine cx_new (m := 5) (sl := 2179) (n' := 22) (mc' := 21) (ms' := 322) (d' := d) (N' := 17) (ty0 := tyX5) (kb_X5 d (by omega) z h (a + 6) (hsh.sub (b := 6) (by decide +kernel)) (fun i h1 h2 => by rw [Nat.add_assoc]; exact hz (6 + i) (by omega) (by omega)) (by omega)) rfl (by omega) rfl tyX5_ok df_X5 (tb_in 246 (by decide +kernel) (by decide +kernel)) il_X5 mg_X5_init mj_X5_init (Or.inl ⟨_, ln_X6_24⟩) rfl (by decide) (by decide) (Nat.le_of_ble_eq_true rfl) d_X6_init_24 d_X6_init_27 d_X6_init_28 ?_
  refine cx_put (fs' := [.ref (a + 1 + 0), .ref (a + 1 + 4), .ref (a + 1 + 5), .int 0, .int 0, .int 0, .int 0, .int 0, .int 0, .int 0, .int 0, .int 0]) fq_StairCount_Reader_25 fq_StairCount_Reader_25_t (fun _ => ⟨rfl, rfl⟩) (Nat.le_of_ble_eq_true rfl) rfl (by omega) d_X6_init_31 ?_
  refine cx_ret ((hsh 0 (by decide)).trans rfl) rfl rfl rfl rfl ?_ rfl d_X6_init_34
  exact e0.symm
