/-! the four texts: length and charAt, through the JDK's own methods -/
def mi_S_len : MI := (⟨RJ0, "length", "()I"⟩, prog_22_method_54_code, 1, (some .int))
theorem mt_S_len : mG mi_S_len 0 ∧ Cond.instanceMethod mi_S_len.1 ∈ tb ∧ Cond.selects mi_S_len.1.cls mi_S_len.1 mi_S_len.1 ∈ tb := ⟨⟨tb_in 15 (by decide +kernel) (by decide +kernel), ⟨by decide +kernel, by decide +kernel, by decide +kernel⟩, tb_in 525 (by decide +kernel) (by decide +kernel), by decide⟩, tb_in 523 (by decide +kernel) (by decide +kernel), tb_in 524 (by decide +kernel) (by decide +kernel)⟩
theorem d_S_len_0 : DC mi_S_len 0 (.aload_n 0) 1 1 := ⟨by decide +kernel, rfl⟩
theorem d_S_len_1 : DC mi_S_len 1 (.getfield 9) 3 4 := ⟨by decide +kernel, rfl⟩
theorem d_S_len_4 : DC mi_S_len 4 (.arraylength) 1 5 := ⟨by decide +kernel, rfl⟩
theorem d_S_len_5 : DC mi_S_len 5 (.aload_n 0) 1 6 := ⟨by decide +kernel, rfl⟩
theorem d_S_len_6 : DC mi_S_len 6 (.invokevirtual 335) 3 9 := ⟨by decide +kernel, rfl⟩
theorem d_S_len_9 : DC mi_S_len 9 (.ishr) 1 10 := ⟨by decide +kernel, rfl⟩
theorem d_S_len_10 : DC mi_S_len 10 (.ireturn) 1 11 := ⟨by decide +kernel, rfl⟩
def mi_S_coder : MI := (⟨RJ0, "code\x72", "()B"⟩, prog_22_method_152_code, 1, (some .byte))
theorem mt_S_coder : mG mi_S_coder 0 ∧ Cond.instanceMethod mi_S_coder.1 ∈ tb ∧ Cond.selects mi_S_coder.1.cls mi_S_coder.1 mi_S_coder.1 ∈ tb := ⟨⟨tb_in 15 (by decide +kernel) (by decide +kernel), ⟨by decide +kernel, by decide +kernel, by decide +kernel⟩, tb_in 529 (by decide +kernel) (by decide +kernel), by decide⟩, tb_in 527 (by decide +kernel) (by decide +kernel), tb_in 528 (by decide +kernel) (by decide +kernel)⟩
theorem d_S_coder_0 : DC mi_S_coder 0 (.getstatic 38) 3 3 := ⟨by decide +kernel, rfl⟩
theorem d_S_coder_3 : DB mi_S_coder 3 (.ifCond .eq 10) 10 6 13 := ⟨by decide +kernel, rfl, by decide⟩
theorem d_S_coder_6 : DC mi_S_coder 6 (.aload_n 0) 1 7 := ⟨by decide +kernel, rfl⟩
theorem d_S_coder_7 : DC mi_S_coder 7 (.getfield 15) 3 10 := ⟨by decide +kernel, rfl⟩
theorem d_S_coder_10 : DB mi_S_coder 10 (.goto 4) 4 13 14 := ⟨by decide +kernel, rfl, by decide⟩
theorem d_S_coder_13 : DC mi_S_coder 13 (.iconst 1) 1 14 := ⟨by decide +kernel, rfl⟩
theorem d_S_coder_14 : DC mi_S_coder 14 (.ireturn) 1 15 := ⟨by decide +kernel, rfl⟩
def mi_S_lat : MI := (⟨RJ0, "isLatin1", "()Z"⟩, prog_22_method_154_code, 1, (some .boolean))
theorem mt_S_lat : mG mi_S_lat 0 ∧ Cond.instanceMethod mi_S_lat.1 ∈ tb ∧ Cond.selects mi_S_lat.1.cls mi_S_lat.1 mi_S_lat.1 ∈ tb := ⟨⟨tb_in 15 (by decide +kernel) (by decide +kernel), ⟨by decide +kernel, by decide +kernel, by decide +kernel⟩, tb_in 539 (by decide +kernel) (by decide +kernel), by decide⟩, tb_in 537 (by decide +kernel) (by decide +kernel), tb_in 538 (by decide +kernel) (by decide +kernel)⟩
theorem d_S_lat_0 : DC mi_S_lat 0 (.getstatic 38) 3 3 := ⟨by decide +kernel, rfl⟩
theorem d_S_lat_3 : DB mi_S_lat 3 (.ifCond .eq 14) 14 6 17 := ⟨by decide +kernel, rfl, by decide⟩
theorem d_S_lat_6 : DC mi_S_lat 6 (.aload_n 0) 1 7 := ⟨by decide +kernel, rfl⟩
theorem d_S_lat_7 : DC mi_S_lat 7 (.getfield 15) 3 10 := ⟨by decide +kernel, rfl⟩
theorem d_S_lat_10 : DB mi_S_lat 10 (.ifCond .ne 7) 7 13 17 := ⟨by decide +kernel, rfl, by decide⟩
theorem d_S_lat_13 : DC mi_S_lat 13 (.iconst 1) 1 14 := ⟨by decide +kernel, rfl⟩
theorem d_S_lat_14 : DB mi_S_lat 14 (.goto 4) 4 17 18 := ⟨by decide +kernel, rfl, by decide⟩
theorem d_S_lat_17 : DC mi_S_lat 17 (.iconst 0) 1 18 := ⟨by decide +kernel, rfl⟩
theorem d_S_lat_18 : DC mi_S_lat 18 (.ireturn) 1 19 := ⟨by decide +kernel, rfl⟩
def mi_S_chk : MI := (⟨RJ0, "checkIndex", "(II)V"⟩, prog_22_method_155_code, 2, none)
theorem ms_S_chk : mS mi_S_chk 2 := ⟨⟨tb_in 15 (by decide +kernel) (by decide +kernel), ⟨by decide +kernel, by decide +kernel, by decide +kernel⟩, tb_in 545 (by decide +kernel) (by decide +kernel), by decide⟩, tb_in 544 (by decide +kernel) (by decide +kernel)⟩
theorem d_S_chk_0 : DC mi_S_chk 0 (.iload_n 0) 1 1 := ⟨by decide +kernel, rfl⟩
theorem d_S_chk_1 : DC mi_S_chk 1 (.iload_n 1) 1 2 := ⟨by decide +kernel, rfl⟩
theorem d_S_chk_2 : DC mi_S_chk 2 (.getstatic 1053) 3 5 := ⟨by decide +kernel, rfl⟩
theorem d_S_chk_5 : DC mi_S_chk 5 (.invokestatic 1059) 3 8 := ⟨by decide +kernel, rfl⟩
theorem d_S_chk_8 : DC mi_S_chk 8 (.pop) 1 9 := ⟨by decide +kernel, rfl⟩
theorem d_S_chk_9 : DC mi_S_chk 9 (.return_) 1 10 := ⟨by decide +kernel, rfl⟩
def mi_S_char : MI := (⟨RJ0, "charAt", "(I)C"⟩, prog_22_method_56_code, 2, (some .char))
theorem mt_S_char : mG mi_S_char 1 ∧ Cond.instanceMethod mi_S_char.1 ∈ tb ∧ Cond.selects mi_S_char.1.cls mi_S_char.1 mi_S_char.1 ∈ tb := ⟨⟨tb_in 15 (by decide +kernel) (by decide +kernel), ⟨by decide +kernel, by decide +kernel, by decide +kernel⟩, tb_in 535 (by decide +kernel) (by decide +kernel), by decide⟩, tb_in 533 (by decide +kernel) (by decide +kernel), tb_in 534 (by decide +kernel) (by decide +kernel)⟩
theorem d_S_char_0 : DC mi_S_char 0 (.aload_n 0) 1 1 := ⟨by decide +kernel, rfl⟩
theorem d_S_char_1 : DC mi_S_char 1 (.invokevirtual 492) 3 4 := ⟨by decide +kernel, rfl⟩
theorem d_S_char_4 : DB mi_S_char 4 (.ifCond .eq 12) 12 7 16 := ⟨by decide +kernel, rfl, by decide⟩
theorem d_S_char_7 : DC mi_S_char 7 (.aload_n 0) 1 8 := ⟨by decide +kernel, rfl⟩
theorem d_S_char_8 : DC mi_S_char 8 (.getfield 9) 3 11 := ⟨by decide +kernel, rfl⟩
theorem d_S_char_11 : DC mi_S_char 11 (.iload_n 1) 1 12 := ⟨by decide +kernel, rfl⟩
theorem d_S_char_12 : DC mi_S_char 12 (.invokestatic 495) 3 15 := ⟨by decide +kernel, rfl⟩
theorem d_S_char_15 : DC mi_S_char 15 (.ireturn) 1 16 := ⟨by decide +kernel, rfl⟩
theorem d_S_char_16 : DC mi_S_char 16 (.aload_n 0) 1 17 := ⟨by decide +kernel, rfl⟩
theorem d_S_char_17 : DC mi_S_char 17 (.getfield 9) 3 20 := ⟨by decide +kernel, rfl⟩
theorem d_S_char_20 : DC mi_S_char 20 (.iload_n 1) 1 21 := ⟨by decide +kernel, rfl⟩
theorem d_S_char_21 : DC mi_S_char 21 (.invokestatic 498) 3 24 := ⟨by decide +kernel, rfl⟩
theorem d_S_char_24 : DC mi_S_char 24 (.ireturn) 1 25 := ⟨by decide +kernel, rfl⟩
def mi_S_l1 : MI := (⟨RJ1, "charAt", "([BI)C"⟩, prog_23_method_2_code, 2, (some .char))
theorem ms_S_l1 : mS mi_S_l1 2 := ⟨⟨tb_in 16 (by decide +kernel) (by decide +kernel), ⟨by decide +kernel, by decide +kernel, by decide +kernel⟩, tb_in 542 (by decide +kernel) (by decide +kernel), by decide⟩, tb_in 541 (by decide +kernel) (by decide +kernel)⟩
theorem d_S_l1_0 : DC mi_S_l1 0 (.iload_n 1) 1 1 := ⟨by decide +kernel, rfl⟩
theorem d_S_l1_1 : DC mi_S_l1 1 (.aload_n 0) 1 2 := ⟨by decide +kernel, rfl⟩
theorem d_S_l1_2 : DC mi_S_l1 2 (.arraylength) 1 3 := ⟨by decide +kernel, rfl⟩
theorem d_S_l1_3 : DC mi_S_l1 3 (.invokestatic 9) 3 6 := ⟨by decide +kernel, rfl⟩
theorem d_S_l1_6 : DC mi_S_l1 6 (.aload_n 0) 1 7 := ⟨by decide +kernel, rfl⟩
theorem d_S_l1_7 : DC mi_S_l1 7 (.iload_n 1) 1 8 := ⟨by decide +kernel, rfl⟩
theorem d_S_l1_8 : DC mi_S_l1 8 (.baload) 1 9 := ⟨by decide +kernel, rfl⟩
theorem d_S_l1_9 : DC mi_S_l1 9 (.sipush 255) 3 12 := ⟨by decide +kernel, rfl⟩
theorem d_S_l1_12 : DC mi_S_l1 12 (.iand) 1 13 := ⟨by decide +kernel, rfl⟩
theorem d_S_l1_13 : DC mi_S_l1 13 (.i2c) 1 14 := ⟨by decide +kernel, rfl⟩
theorem d_S_l1_14 : DC mi_S_l1 14 (.ireturn) 1 15 := ⟨by decide +kernel, rfl⟩
def mi_S_pre : MI := (⟨RJ3, "checkIndex", "(IILjava/util/function/BiFunction;)I"⟩, prog_31_method_11_code, 3, (some .int))
theorem ms_S_pre : mS mi_S_pre 3 := ⟨⟨tb_in 17 (by decide +kernel) (by decide +kernel), ⟨by decide +kernel, by decide +kernel, by decide +kernel⟩, tb_in 550 (by decide +kernel) (by decide +kernel), by decide⟩, tb_in 549 (by decide +kernel) (by decide +kernel)⟩
theorem d_S_pre_0 : DC mi_S_pre 0 (.iload_n 0) 1 1 := ⟨by decide +kernel, rfl⟩
theorem d_S_pre_1 : DB mi_S_pre 1 (.ifCond .lt 8) 8 4 9 := ⟨by decide +kernel, rfl, by decide⟩
theorem d_S_pre_4 : DC mi_S_pre 4 (.iload_n 0) 1 5 := ⟨by decide +kernel, rfl⟩
theorem d_S_pre_5 : DC mi_S_pre 5 (.iload_n 1) 1 6 := ⟨by decide +kernel, rfl⟩
theorem d_S_pre_6 : DB mi_S_pre 6 (.if_icmp .lt 10) 10 9 16 := ⟨by decide +kernel, rfl, by decide⟩
theorem d_S_pre_9 : DC mi_S_pre 9 (.aload_n 2) 1 10 := ⟨by decide +kernel, rfl⟩
theorem d_S_pre_10 : DC mi_S_pre 10 (.iload_n 0) 1 11 := ⟨by decide +kernel, rfl⟩
theorem d_S_pre_11 : DC mi_S_pre 11 (.iload_n 1) 1 12 := ⟨by decide +kernel, rfl⟩
theorem d_S_pre_12 : DC mi_S_pre 12 (.invokestatic 95) 3 15 := ⟨by decide +kernel, rfl⟩
theorem d_S_pre_15 : DC mi_S_pre 15 (.athrow) 1 16 := ⟨by decide +kernel, rfl⟩
theorem d_S_pre_16 : DC mi_S_pre 16 (.iload_n 0) 1 17 := ⟨by decide +kernel, rfl⟩
theorem d_S_pre_17 : DC mi_S_pre 17 (.ireturn) 1 18 := ⟨by decide +kernel, rfl⟩
theorem lS_String_335 : Cond.methodLink "java/lang/String" 335 ⟨"java/lang/String", "code\x72", "()B"⟩ ∈ tb := tb_in 526 (by decide +kernel) (by decide +kernel)
theorem lS_String_492 : Cond.methodLink "java/lang/String" 492 ⟨"java/lang/String", "isLatin1", "()Z"⟩ ∈ tb := tb_in 536 (by decide +kernel) (by decide +kernel)
theorem lS_String_495 : Cond.methodLink "java/lang/String" 495 ⟨"java/lang/StringLatin1", "charAt", "([BI)C"⟩ ∈ tb := tb_in 540 (by decide +kernel) (by decide +kernel)
theorem lS_String_1059 : Cond.methodLink "java/lang/String" 1059 ⟨"jdk/internal/util/Preconditions", "checkIndex", "(IILjava/util/function/BiFunction;)I"⟩ ∈ tb := tb_in 548 (by decide +kernel) (by decide +kernel)
theorem lS_StringLatin1_9 : Cond.methodLink "java/lang/StringLatin1" 9 ⟨"java/lang/String", "checkIndex", "(II)V"⟩ ∈ tb := tb_in 543 (by decide +kernel) (by decide +kernel)
theorem fS_String_9 : Cond.fieldLink "java/lang/String" 9 "java/lang/String" "value" "[B" ∈ tb := tb_in 1906 (by decide +kernel) (by decide +kernel)
theorem fS_String_15 : Cond.fieldLink "java/lang/String" 15 "java/lang/String" "code\x72" "B" ∈ tb := tb_in 1907 (by decide +kernel) (by decide +kernel)
theorem fS_String_38 : Cond.fieldLink "java/lang/String" 38 "java/lang/String" "COMPACT_STRINGS" "Z" ∈ tb := tb_in 530 (by decide +kernel) (by decide +kernel)
theorem fS_String_1053 : Cond.fieldLink "java/lang/String" 1053 "jdk/internal/util/Preconditions" "SIOOBE_FORMATTER" "Ljava/util/function/BiFunction;" ∈ tb := tb_in 546 (by decide +kernel) (by decide +kernel)
section S8
variable {α : Type} {M : MI} {d : Nat} {inj : α → Option Value} {E E1 E2 : Option (α × HH)} {pc q : Nat} {lc lc' : List (Nat × Value)} {st : List Value} {h : HH}
theorem sx_sgetV {i index : Nat} (hi : i < 4) (hlk : Cond.fieldLink M.1.cls index "java/lang/String" "value" "[B" ∈ tb) (hdg : DC M pc (.getfield index) 3 q) (k : Sx M d inj E q lc (.ref (nN + 4 + i) :: st) h) : Sx M d inj E pc lc (.ref (nN + i) :: st) h := by
  obtain ⟨hd, rfl⟩ := hdg
  intro p l e s m args below meth c X H locs ls r h' C hP hS hl hE
  exact vk_getf C.1 C.2.1 (C.2.2.2.2.2.2.2.2.2.1.1 i hi).2.2.1 hS C.2.2.2.2.1 (C.2.2.2.2.2.1 _ (List.mem_cons_of_mem _ hlk)) (fun _ h => h) hd (k p l e s m args below meth c X H locs ls r h' C hP hS hl hE)
theorem sx_sgetC {i index : Nat} (hi : i < 4) (hlk : Cond.fieldLink M.1.cls index "java/lang/String" "code\x72" "B" ∈ tb) (hdg : DC M pc (.getfield index) 3 q) (k : Sx M d inj E q lc (.int 0 :: st) h) : Sx M d inj E pc lc (.ref (nN + i) :: st) h := by
  obtain ⟨hd, rfl⟩ := hdg
  intro p l e s m args below meth c X H locs ls r h' C hP hS hl hE
  exact vk_getf C.1 C.2.1 (C.2.2.2.2.2.2.2.2.2.1.1 i hi).2.1 hS C.2.2.2.2.1 (C.2.2.2.2.2.1 _ (List.mem_cons_of_mem _ hlk)) (fun _ h => h) hd (k p l e s m args below meth c X H locs ls r h' C hP hS hl hE)
theorem sx_gsC {index : Nat} (hlk : Cond.fieldLink M.1.cls index "java/lang/String" "COMPACT_STRINGS" "Z" ∈ tb) (hdg : DC M pc (.getstatic index) 3 q) (k : Sx M d inj E q lc (.int 1 :: st) h) : Sx M d inj E pc lc st h := by
  obtain ⟨hd, rfl⟩ := hdg
  intro p l e s m args below meth c X H locs ls r h' C hP hS hl hE
  exact va_gets C.1 C.2.1 C.2.2.2.2.2.2.2.2.2.2.2.1 hS C.2.2.2.2.1 (C.2.2.2.2.2.1 _ (List.mem_cons_of_mem _ hlk)) (fun _ h => h) hd (k p l e s m args below meth c X H locs ls r h' C hP hS hl hE)
theorem sx_gsF {index : Nat} (hlk : Cond.fieldLink M.1.cls index "jdk/internal/util/Preconditions" "SIOOBE_FORMATTER" "Ljava/util/function/BiFunction;" ∈ tb) (hdg : DC M pc (.getstatic index) 3 q) (k1 : Sx M d inj E q lc (.null :: st) h) (k2 : Sx M d inj E q lc (.ref (nN + 8) :: st) h) : Sx M d inj E pc lc st h := by
  obtain ⟨hd, rfl⟩ := hdg
  intro p l e s m args below meth c X H locs ls r h' C hP hS hl hE
  rcases C.2.2.2.2.2.2.2.2.2.2.2.2 with hz | hz
  · exact va_gets C.1 C.2.1 hz hS C.2.2.2.2.1 (C.2.2.2.2.2.1 _ (List.mem_cons_of_mem _ hlk)) (fun _ h => h) hd (k1 p l e s m args below meth c X H locs ls r h' C hP hS hl hE)
  · exact va_gets C.1 C.2.1 hz hS C.2.2.2.2.1 (C.2.2.2.2.2.1 _ (List.mem_cons_of_mem _ hlk)) (fun _ h => h) hd (k2 p l e s m args below meth c X H locs ls r h' C hP hS hl hE)
theorem sx_slenA {i n : Nat} {v : Int32} (hi : i < 4) (hn : lenS.getD i 0 = n) (hv : Int32.ofNat n = v) (hdg : DC M pc .arraylength 1 q) (k : Sx M d inj E q lc (.int v :: st) h) : Sx M d inj E pc lc (.ref (nN + 4 + i) :: st) h := by
  subst hn
  obtain ⟨hd, rfl⟩ := hdg
  intro p l e s m args below meth c X H locs ls r h' C hP hS hl hE
  exact va_tlen C.1 C.2.1 (C.2.2.2.2.2.2.2.2.2.1.1 i hi).2.2.2 hS hv hd (k p l e s m args below meth c X H locs ls r h' C hP hS hl hE)
theorem sx_sbald {i : Nat} {j : Int32} (hi : i < 4) (hin : vp_in j (lenS.getD i 0)) (hdg : DC M pc .baload 1 q) (k : Sx M d inj E q lc (.int ((bytS.getD i []).getD j.toNatClampNeg 0) :: st) h) : Sx M d inj E pc lc (.int j :: .ref (nN + 4 + i) :: st) h := by
  obtain ⟨hd, rfl⟩ := hdg
  intro p l e s m args below meth c X H locs ls r h' C hP hS hl hE
  exact va_tb C.1 C.2.1 (C.2.2.2.2.2.2.2.2.2.1.1 i hi).2.2.2 hS hin rfl hd (k p l e s m args below meth c X H locs ls r h' C hP hS hl hE)
theorem sx_i2c {x : Int32} (hdg : DC M pc .i2c 1 q) (k : Sx M d inj E q lc (.int ((x.toUInt32 % 65536).toInt32) :: st) h) : Sx M d inj E pc lc (.int x :: st) h := by
  obtain ⟨hd, rfl⟩ := hdg
  intro p l e s m args below meth c X H locs ls r h' C hP hS hl hE
  exact lv_i2c C.1 C.2.1 hd rfl (k p l e s m args below meth c X H locs ls r h' C hP hS hl hE)
theorem sx_nret {v : Int32} {ty : FieldType} (hn : narrow ty (.int v) = .int v) (hr : M.2.2.2 = some ty) (hdg : DC M pc .ireturn 1 q) : Sx M d iI (some (v, h)) pc lc [.int v] h := by
  obtain ⟨hd, rfl⟩ := hdg
  intro p l e s m args below meth c X H locs ls r h' C hP hS hl hE
  cases hE
  exact W.zret (v := v) (ty := ty) C.1 C.2.1 (C.2.2.1.trans hr) hn (fun t ht hW => ⟨rfl, by rw [ht]; exact hP, hS.F ht⟩) hS.2.2 hd C.2.2.2.2.2.2.1
theorem sx_callT {β : Type} {inj' : β → Option Value} {M' : MI} {d' n i index : Nat} {E' : Option (β × HH)} {k : β → HH → Option (α × HH)} (As : List Value) {rest : List Value} (hcs : M'.1.cls = "java/lang/String") (hi : i < 4) (hm : mG M' n ∧ Cond.instanceMethod M'.1 ∈ tb ∧ Cond.selects M'.1.cls M'.1 M'.1 ∈ tb) (hlk : Cond.methodLink M.1.cls index M'.1 ∈ tb) (hd' : d = d' + 1) (hst : st = As.reverse ++ .ref (nN + i) :: rest) (hnn : As.length = n) (hW : (rest.map fun v => v.category).sum ≤ 8) (hdg : DC M pc (.invokevirtual index) 3 q) (sp : Sp M' d' inj' (.ref (nN + i) :: As) h E') (kk : ∀ r h1, E' = some (r, h1) → Sx M d inj (k r h1) q lc ((inj' r).toList ++ rest) h1) : Sx M d inj (bnd E' k) pc lc st h := by
  subst hd' hst
  obtain ⟨hd, rfl⟩ := hdg
  intro p l e s m args below meth c X H locs ls r h' C hP hS hl hE
  cases hE' : E' with
  | none => rw [hE'] at hE; cases hE
  | some x =>
    obtain ⟨v, h1⟩ := x
    rw [hE'] at hE
    have hM := sp l X v h1 hE' C.2.2.2.2.2.2.2.2.1
    have hts : ∀ w ∈ wsM M, w.before args s = true := C.2.2.2.2.2.1
    have tw : ∀ w ∈ tb, w.before args s = true := fun w hw => hts w (List.mem_cons_of_mem _ hw)
    have pre := sx_pre C.2.2.2.2.2.2.2.1 C.2.2.2.2.2.2.2.2.2 hP hS
    have hrc := vk_recv (C.2.2.2.2.2.2.2.2.2).1 hi hS
    rw [← hcs] at hrc
    have hstk : (As.reverse ++ .ref (nN + i) :: rest).map (rl X.1) = (As.map (rl X.1)).reverse ++ .ref (X.1 (nN + i)) :: rest.map (rl X.1) := by simp [rl]
    have run := va_runV (As := As.map (rl X.1)) (rest := rest.map (rl X.1)) (b := X.1 (nN + i)) (H := H) (locs := locs) (cells := 0) (slots := 0) (below := below) (meth := meth) (e := e) (R := rmD (d' + 1)) (g := F0 m pc ls ((As.reverse ++ .ref (nN + i) :: rest).map (rl X.1))) ⟨C.1, C.2.1, C.2.2.2.1, C.2.2.2.2.1, hts⟩ hM ⟨(callB_of n hts (wsM_good M' hm.1.2.2.1 M) rfl rfl rfl (tw _ hm.1.1) (tw _ hlk) hm.1.2.1 ⟨Nat.le_refl _, by show 8 + (M'.2.2.1 + 11) + 64 * d' ≤ 64 * (d' + 1); have := hm.1.2.2.2; omega⟩), tw _ hm.2.1, tw _ hm.2.2⟩ ⟨sx_blind, hrc, fun U hU hW => ⟨by simp [rl], pre U hU hW⟩⟩ rfl (by rw [List.length_map]; exact hnn) hl.1 hstk (lv_room (by rw [sum_rl]; exact hW)) hd ⟨Nat.le_refl _, Nat.le_refl _⟩
    intro T hT Xs
    obtain ⟨v', st0, t, T', L, h0, X', hL, e1, e2, ⟨hv, hP1, hF1⟩, hgo⟩ := run T hT Xs
    have hv : v' = (inj' v).map (rl X.1) := by cases hv; rfl
    subst hv
    rw [sx_tl] at hgo
    obtain ⟨t2, a2, b2⟩ := kk v h1 hE' p l e s m args below meth c X T'.heap (locs ++ L) ls r h' C (by rw [e1]; exact hP1) (by rw [e1]; exact sx_after hS h0 hF1 hL) hl hE T' rfl X'
    exact ⟨t2, hgo _ a2, b2⟩
end S8
def eP (i n : Int32) (h : HH) : Option (Int32 × HH) := if i < 0 then none else if i < n then some (i, h) else none
def eK (i n : Int32) (h : HH) : Option (Unit × HH) := bnd (eP i n h) fun _ h1 => some ((), h1)
theorem sp_S_pre (d : Nat) (i n : Int32) (v : Value) (hv : v.category = 1) (h : HH) : Sp mi_S_pre d iI [.int i, .int n, v] h (eP i n h) := by
  refine sp_of (lc := [(0, .int i), (1, .int n), (2, v)]) (by decide) (by show 1 + (1 + (v.category + 0)) ≤ 3; omega) rfl ?_
  unfold eP
  refine sx_iload_n d_S_pre_0 0 rfl ?_
  refine sx_if_lt d_S_pre_1 sx_none ?_
  refine sx_iload_n d_S_pre_4 0 rfl ?_
  refine sx_iload_n d_S_pre_5 1 rfl ?_
  refine sx_icmp_lt d_S_pre_6 ?_ sx_none
  refine sx_iload_n d_S_pre_16 0 rfl ?_
  exact sx_iret rfl d_S_pre_17
theorem sp_S_chk (d : Nat) (hd : 1 ≤ d) (i n : Int32) (h : HH) : Sp mi_S_chk d iU [.int i, .int n] h (eK i n h) := by
  refine sp_of (lc := [(0, .int i), (1, .int n)]) (by decide) (Nat.le_of_ble_eq_true rfl) rfl ?_
  unfold eK
  refine sx_iload_n d_S_chk_0 0 rfl ?_
  refine sx_iload_n d_S_chk_1 1 rfl ?_
  refine sx_gsF fS_String_1053 d_S_chk_2 ?_ ?_
  · refine sx_callS [.int i, .int n, .null] ms_S_pre lS_String_1059 (by omega) rfl rfl (Nat.le_of_ble_eq_true rfl) d_S_chk_5 (sp_S_pre (d - 1) i n .null rfl h) (fun r h1 => ?_)
    refine sx_pop d_S_chk_8 rfl ?_
    exact sx_vret rfl d_S_chk_9
  · refine sx_callS [.int i, .int n, .ref (nN + 8)] ms_S_pre lS_String_1059 (by omega) rfl rfl (Nat.le_of_ble_eq_true rfl) d_S_chk_5 (sp_S_pre (d - 1) i n (.ref (nN + 8)) rfl h) (fun r h1 => ?_)
    refine sx_pop d_S_chk_8 rfl ?_
    exact sx_vret rfl d_S_chk_9
def lS (i : Nat) : Int32 := Int32.ofNat (lenS.getD i 0)
def bS (i : Nat) (j : Int32) : Int32 := (bytS.getD i []).getD j.toNatClampNeg 0
theorem bS_ok (i : Nat) (j : Int32) : (((bS i j) &&& 255).toUInt32 % 65536).toInt32 = bS i j ∧ narrow .char (.int (bS i j)) = .int (bS i j) := by
  have hc : bytS.all (fun l => l.all (fun b => decide (((b &&& 255).toUInt32 % 65536).toInt32 = b) && decide (narrow .char (.int b) = .int b))) = true := by decide +kernel
  unfold bS
  generalize j.toNatClampNeg = k
  cases hl : bytS[i]? with
  | none => rw [List.getD_eq_getElem?_getD, List.getD_eq_getElem?_getD, hl]; simp only [Option.getD_none, List.getElem?_nil]; decide
  | some l =>
    rw [List.getD_eq_getElem?_getD, List.getD_eq_getElem?_getD, hl]
    cases hb : l[k]? with
    | none => simp only [Option.getD_some, hb, Option.getD_none]; exact ⟨rfl, rfl⟩
    | some b =>
      simp only [Option.getD_some, hb]
      have h1 := List.all_eq_true.mp (List.all_eq_true.mp hc l (List.mem_of_getElem? hl)) b (List.mem_of_getElem? hb)
      simpa using h1
def ckZc {β : Type} (v : Int32) (K : Option β) : Option β := if narrow .char (.int v) = .int v then K else none
def e1 (i : Nat) (j : Int32) (h : HH) : Option (Int32 × HH) := bnd (eK j (lS i) h) fun _ h1 => ckI j (lenS.getD i 0) (some (bS i j, h1))
theorem sp_S_l1 (d : Nat) (hd : 2 ≤ d) (i : Nat) (hi : i < 4) (j : Int32) (h : HH) : Sp mi_S_l1 d iI [.ref (nN + 4 + i), .int j] h (e1 i j h) := by
  refine sp_of (lc := [(0, .ref (nN + 4 + i)), (1, .int j)]) (by decide) (Nat.le_of_ble_eq_true rfl) rfl ?_
  unfold e1
  refine sx_iload_n d_S_l1_0 1 rfl ?_
  refine sx_aload_n d_S_l1_1 0 rfl ?_
  refine sx_slenA (v := lS i) hi rfl rfl d_S_l1_2 ?_
  refine sx_callS [.int j, .int (lS i)] ms_S_chk lS_StringLatin1_9 (by omega) rfl rfl (Nat.le_of_ble_eq_true rfl) d_S_l1_3 (sp_S_chk (d - 1) (by omega) j (lS i) h) (fun _ h1 => ?_)
  refine sx_aload_n d_S_l1_6 0 rfl ?_
  refine sx_iload_n d_S_l1_7 1 rfl ?_
  refine sx_ckn (fun hn => ?_)
  refine sx_sbald hi hn d_S_l1_8 ?_
  refine sx_sipush d_S_l1_9 (v := 255) (by decide) ?_
  refine sx_iand d_S_l1_12 ?_
  refine sx_i2c d_S_l1_13 ?_
  have hb := bS_ok i j
  rw [show ((((bytS.getD i []).getD j.toNatClampNeg 0) &&& 255).toUInt32 % 65536).toInt32 = bS i j from hb.1]
  exact sx_nret hb.2 rfl d_S_l1_14
theorem sp_S_lat (d : Nat) (i : Nat) (hi : i < 4) (h : HH) : Sp mi_S_lat d iI [.ref (nN + i)] h (if (1 : Int32) = 0 then none else if (0 : Int32) = 0 then some (1, h) else none) := by
  refine sp_of (lc := [(0, .ref (nN + i))]) (by decide) (Nat.le_of_ble_eq_true rfl) rfl ?_
  refine sx_gsC fS_String_38 d_S_lat_0 ?_
  refine sx_if_eq d_S_lat_3 sx_none ?_
  refine sx_aload_n d_S_lat_6 0 rfl ?_
  refine sx_sgetC hi fS_String_15 d_S_lat_7 ?_
  refine sx_if_ne d_S_lat_10 ?_ sx_none
  refine sx_iconst d_S_lat_13 (v := 1) (by decide) ?_
  refine sx_goto d_S_lat_14 ?_
  exact sx_zret (by decide) rfl d_S_lat_18
theorem sp_S_coder (d : Nat) (i : Nat) (hi : i < 4) (h : HH) : Sp mi_S_coder d iI [.ref (nN + i)] h (if (1 : Int32) = 0 then none else some (0, h)) := by
  refine sp_of (lc := [(0, .ref (nN + i))]) (by decide) (Nat.le_of_ble_eq_true rfl) rfl ?_
  refine sx_gsC fS_String_38 d_S_coder_0 ?_
  refine sx_if_eq d_S_coder_3 sx_none ?_
  refine sx_aload_n d_S_coder_6 0 rfl ?_
  refine sx_sgetC hi fS_String_15 d_S_coder_7 ?_
  refine sx_goto d_S_coder_10 ?_
  exact sx_nret rfl rfl d_S_coder_14
theorem sp_S_len (d : Nat) (hd : 1 ≤ d) (i : Nat) (hi : i < 4) (h : HH) : Sp mi_S_len d iI [.ref (nN + i)] h (some (lS i >>> (0 &&& 31), h)) := by
  refine sp_of (lc := [(0, .ref (nN + i))]) (by decide) (Nat.le_of_ble_eq_true rfl) rfl ?_
  refine sx_aload_n d_S_len_0 0 rfl ?_
  refine sx_sgetV hi fS_String_9 d_S_len_1 ?_
  refine sx_slenA (v := lS i) hi rfl rfl d_S_len_4 ?_
  refine sx_aload_n d_S_len_5 0 rfl ?_
  show Sx mi_S_len d iI (bnd (if (1 : Int32) = 0 then none else some ((0 : Int32), h)) fun _ h1 => some (lS i >>> (0 &&& 31), h1)) _ _ _ h
  refine sx_callT [] rfl hi mt_S_coder lS_String_335 (by omega) rfl rfl (Nat.le_of_ble_eq_true rfl) d_S_len_6 (sp_S_coder (d - 1) i hi h) (fun r h1 hr => ?_)
  rw [if_neg (by decide)] at hr
  cases hr
  refine sx_ishr d_S_len_9 ?_
  exact sx_iret rfl d_S_len_10
theorem sp_S_char (d : Nat) (hd : 3 ≤ d) (i : Nat) (hi : i < 4) (j : Int32) (h : HH) : Sp mi_S_char d iI [.ref (nN + i), .int j] h (e1 i j h) := by
  refine sp_of (lc := [(0, .ref (nN + i)), (1, .int j)]) (by decide) (Nat.le_of_ble_eq_true rfl) rfl ?_
  refine sx_aload_n d_S_char_0 0 rfl ?_
  show Sx mi_S_char d iI (bnd (if (1 : Int32) = 0 then none else if (0 : Int32) = 0 then some ((1 : Int32), h) else none) fun _ h1 => e1 i j h1) _ _ _ h
  refine sx_callT [] rfl hi mt_S_lat lS_String_492 (by omega) rfl rfl (Nat.le_of_ble_eq_true rfl) d_S_char_1 (sp_S_lat (d - 1) i hi h) (fun r h1 hr => ?_)
  rw [if_neg (by decide), if_pos rfl] at hr
  cases hr
  show Sx mi_S_char d iI (if (1 : Int32) = 0 then none else e1 i j h) _ _ _ h
  refine sx_if_eq d_S_char_4 sx_none ?_
  refine sx_aload_n d_S_char_7 0 rfl ?_
  refine sx_sgetV hi fS_String_9 d_S_char_8 ?_
  refine sx_iload_n d_S_char_11 1 rfl ?_
  have hk : ∀ r h1, e1 i j h = some (r, h1) → r = bS i j ∧ h1 = h := by
    intro r h1 hr
    unfold e1 eK eP bnd ckI at hr
    split at hr
    · cases hr
    · rename_i a h2 h3
      split at h3
      · cases h3
      · rename_i b h4 h5
        cases h3
        split at hr
        · cases hr
        · cases hr
          split at h5
          · cases h5
          · split at h5
            · cases h5; exact ⟨rfl, rfl⟩
            · cases h5
  show Sx mi_S_char d iI (e1 i j h) _ _ _ h
  have e9 : e1 i j h = bnd (e1 i j h) fun r h1 => ckZc r (some (r, h1)) := by
    cases hx : e1 i j h with
    | none => rfl
    | some q => obtain ⟨r, h1⟩ := q; obtain ⟨rfl, rfl⟩ := hk r h1 hx; simp [bnd, ckZc, (bS_ok i j).2]
  rw [e9]
  refine sx_callS [.ref (nN + 4 + i), .int j] ms_S_l1 lS_String_495 (by omega) rfl rfl (Nat.le_of_ble_eq_true rfl) d_S_char_12 (sp_S_l1 (d - 1) (by omega) i hi j h) (fun r h1 => ?_)
  exact sx_ck (fun hc => sx_nret hc rfl d_S_char_15)
section S9
variable {α : Type} {M : MI} {d : Nat} {inj : α → Option Value} {E : Option (α × HH)} {pc q : Nat} {lc : List (Nat × Value)} {st : List Value} {h : HH}
theorem sx_slen {i index n : Nat} {v : Int32} (hi : lenS[i]? = some n) (hv : Int32.ofNat n = v) (hlk : Cond.methodLink M.1.cls index ⟨"java/lang/String", "length", "()I"⟩ ∈ tb) (hd1 : 6 ≤ d) (hW : (st.map fun v => v.category).sum ≤ 8) (hdg : DC M pc (.invokevirtual index) 3 q) (k : Sx M d inj E q lc (.int v :: st) h) : Sx M d inj E pc lc (.ref (nN + i) :: st) h := by
  have hi4 : i < 4 := (List.getElem?_eq_some_iff.mp hi).1
  have e0 : lS i = v := by rw [lS, List.getD_eq_getElem?_getD, hi]; exact hv
  have e9 : lS i >>> (0 &&& 31) = v := by
    rw [e0]
    have : v >>> (0 &&& 31) = v := by simp
    exact this
  show Sx M d inj (bnd (some (lS i >>> (0 &&& 31), h)) fun _ _ => E) pc lc (.ref (nN + i) :: st) h
  refine sx_callT [] rfl hi4 mt_S_len hlk (d' := d - 1) (by omega) rfl rfl hW hdg (sp_S_len (d - 1) (by omega) i hi4 h) (fun r h1 hr => ?_)
  cases hr
  rw [e9]
  exact k
theorem sx_char {i index : Nat} {j : Int32} {k : Int32 → Option (α × HH)} (hi : i < 4) (hlk : Cond.methodLink M.1.cls index ⟨"java/lang/String", "charAt", "(I)C"⟩ ∈ tb) (hd1 : 6 ≤ d) (hW : (st.map fun v => v.category).sum ≤ 8) (hdg : DC M pc (.invokevirtual index) 3 q) (kk : ∀ v, Sx M d inj (k v) q lc (.int v :: st) h) : Sx M d inj (chS i j k) pc lc (.int j :: .ref (nN + i) :: st) h := by
  refine sx_ckn (fun hn => ?_)
  have hj : j < lS i ∧ ¬ j < 0 := by
    refine ⟨?_, fun h => hn (Or.inl h)⟩
    have h2 : j.toNatClampNeg < lenS.getD i 0 := Nat.not_le.mp fun q => hn (Or.inr q)
    have h3 : lenS.getD i 0 < 1000 := by
      have : ∀ i, i < 4 → lenS.getD i 0 < 1000 := by decide
      exact this i hi
    obtain ⟨n, hn1, rfl⟩ := nI_of (x := j) (fun h => hn (Or.inl h))
    rw [nI_clamp hn1] at h2
    exact nI_lt h2 (by omega)
  have he : e1 i j h = some (bS i j, h) := by
    have hn' : ¬ (j < 0 ∨ lenS.getD i 0 ≤ j.toNatClampNeg) := hn
    simp only [e1, eK, eP, bnd, ckI]
    rw [if_neg hj.2, if_pos hj.1]
    simp only
    rw [if_neg hn']
  show Sx M d inj (k (bS i j)) pc lc (.int j :: .ref (nN + i) :: st) h
  have e9 : k (bS i j) = bnd (e1 i j h) fun r _ => k r := by rw [he]; rfl
  rw [e9]
  refine sx_callT [.int j] rfl hi mt_S_char hlk (d' := d - 1) (by omega) rfl rfl hW hdg (sp_S_char (d - 1) (by omega) i hi j h) (fun r h1 hr => ?_)
  rw [he] at hr
  cases hr
  exact kk _
end S9
