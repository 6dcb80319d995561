/-! StairCount.person: it returns, or throws -/
section RM
variable {p : Program} {l : Launch} {e : Env} {R R' : Room} {s : State} {m : MethodId} {args : Array Value} {below : List Frame} {meth : Method} {c : Code} {H : Heap} {locs : List Loc} {cells slots : Nat} {Q Q' : State → Prop}
theorem w_room {g : JFrame} (hf : R'.frames ≤ R.frames) (hc : R'.cells ≤ R.cells) (hs : R'.slots ≤ R.slots) (hl : R'.locals ≤ R.locals) (k : W p l e R' s m args below meth c H locs cells slots Q g) : W p l e R s m args below meth c H locs cells slots Q g := by
  intro T hT X
  refine k T hT { X with room := ?_ }
  have h := X.room
  simp only [State.hasRoom, Bool.and_eq_true, decide_eq_true_eq] at h ⊢
  obtain ⟨⟨⟨⟨h1, h2, h3, h4, h5, h6⟩, h7⟩, h8⟩, h9⟩ := h
  exact ⟨⟨⟨⟨by omega, by omega, by omega, by omega, by omega, h6⟩, by omega⟩, by omega⟩, h9⟩
theorem w_imp {g : JFrame} (h : ∀ t, Q t → Q' t) (k : W p l e R s m args below meth c H locs cells slots Q g) : W p l e R s m args below meth c H locs cells slots Q' g := by
  intro T hT X
  obtain ⟨t, a, b⟩ := k T hT X
  exact ⟨t, a, h t b⟩
theorem mq_up {Qa Qb : Array Value → State → Outcome → State → Prop} {a : Array Value} {mc ms mc' ms' : Nat} {free : Addr → Prop} (hm : mc ≤ mc') (hs : ms ≤ ms') (hQ : ∀ o t, Qa a s o t → Qb a s o t) : ∀ t, MQ below Qa a s mc ms free t → MQ below Qb a s mc' ms' free t := by
  rintro t ⟨o, h1, h2, h3, L, ⟨f1, f2, f3⟩, h4⟩
  exact ⟨o, h1, h2, hQ o t h3, L, ⟨f1, f2, f3.mono hm hs⟩, h4⟩
end RM
/-- what a throw stands on besides -/
def wT (X : CX) (U : State) (H : Heap) : Prop := vx_Zq Bundle.tN "UNASSIGNED_STACK" Bundle.steD (inR X) U H ∧ vx_Zq Bundle.tN "SUPPRESSED_SENTINEL" Bundle.listD (inR X) U H ∧ va_Nw (.castable iobX iobX) U ∧ va_Nw (.castable nseX nseX) U ∧ va_Nc nseX iobX U ∧ va_Nw (.declares (Bundle.initS rteX)) U ∧ va_Nw (.declares (Bundle.initS excX)) U ∧ va_Nw (.declares (Bundle.initS Bundle.tN)) U
theorem wT_kept {X : CX} {U : State} {H H1 : Heap} (h : wT X U H) (hq : ∀ a : Nat, a < H.size → ¬ inR X a → H1[a]? = H[a]?) : wT X U H1 := ⟨h.1.kept hq, h.2.1.kept hq, h.2.2⟩
theorem wT_warm {X : CX} {s U : State} {H : Heap} (hW : s.WarmedH U.vm) (h : wT X s H) : wT X U H := ⟨vx_Zq.moved hW.alike h.1, vx_Zq.moved hW.alike h.2.1, va_Nw.warmC hW h.2.2.1, va_Nw.warmC hW h.2.2.2.1, va_Nc.moved hW.alike h.2.2.2.2.1, va_Nw.warmD hW h.2.2.2.2.2.1, va_Nw.warmD hW h.2.2.2.2.2.2.1, va_Nw.warmD hW h.2.2.2.2.2.2.2⟩
theorem wT_blind {X : CX} {U : State} {H : Heap} {g : JFrame} {mk : MethodId} {a : Array Value} (h : wT X U H) : wT X (U.calling g mk a) H := ⟨vx_Zq.moved (u := U) (U := U.calling g mk a) (Vm.Alike.refl U.vm) h.1, vx_Zq.moved (u := U) (U := U.calling g mk a) (Vm.Alike.refl U.vm) h.2.1, va_Nw.same (u := U) (U := U.calling g mk a) rfl rfl h.2.2.1, va_Nw.same (u := U) (U := U.calling g mk a) rfl rfl h.2.2.2.1, va_Nc.moved (u := U) (U := U.calling g mk a) (Vm.Alike.refl U.vm) h.2.2.2.2.1, va_Nw.same (u := U) (U := U.calling g mk a) rfl rfl h.2.2.2.2.2.1, va_Nw.same (u := U) (U := U.calling g mk a) rfl rfl h.2.2.2.2.2.2.1, va_Nw.same (u := U) (U := U.calling g mk a) rfl rfl h.2.2.2.2.2.2.2⟩
theorem tb_fm {ps : List Nat} {w : Cond} (hw : w ∈ ps.filterMap (fun i => tables_1[i]?)) (hg : goodWord w = true) : w ∈ tb := by
  obtain ⟨i, -, hi⟩ := List.mem_filterMap.mp hw
  exact tb_in i hi hg
theorem iob_w : (vx_atS "StairCount" 131 iobX [rteX, excX]).filter goodWord = [20, 1130, 1139, 1142, 1145, 1147, 1131, 1132, 32, 33, 1133, 1138, 1143, 1163, 1120, 1164, 1122, 1165, 1124, 1134, 1136, 1126, 1159, 1160, 1162, 1126, 1150, 1151, 1152, 1153, 1153, 1154, 1155, 1156, 1156, 1157, 1158, 1159, 1149, 1109, 1117, 1118, 1119, 1121, 1123, 1125, 1129, 1128, 1127].filterMap (fun i => tables_1[i]?) := by decide +kernel
theorem iob_b : (vx_atS "StairCount" 131 iobX [rteX, excX]).filter (fun w => !goodWord w) = [Cond.declares (Bundle.initS rteX), Cond.declares (Bundle.initS excX), Cond.declares (Bundle.initS Bundle.tN), Cond.castable iobX iobX] := by decide +kernel
theorem iob_g : ∀ w ∈ Cond.classLink "StairCount" 127 iobX :: Cond.initialized iobX :: vx_atS "StairCount" 131 iobX [rteX, excX], vx_ot w = true := by decide +kernel
def nsW : List Cond := (nsAtoms "StairCount" 154 nseX rteX 13 prog_30_method_4_code [excX]).filter vx_no
theorem nse_w : nsW.filter goodWord = [20, 1130, 1139, 1142, 1145, 1147, 1131, 1132, 32, 33, 1133, 1138, 1143, 1163, 1120, 1164, 1122, 1165, 1124, 1134, 1136, 1126, 1159, 1160, 1162, 1126, 1185, 1186, 1187, 1153, 1153, 1154, 1155, 1156, 1156, 1157, 1158, 1159, 1184, 1175, 1177, 1141, 1178, 1179, 1180, 1181, 1129, 1128, 1182].filterMap (fun i => tables_1[i]?) := by decide +kernel
theorem nse_b : nsW.filter (fun w => !goodWord w) = [Cond.declares (Bundle.initS rteX), Cond.declares (Bundle.initS excX), Cond.declares (Bundle.initS Bundle.tN), Cond.castable nseX nseX] := by decide +kernel
theorem nse_g : ∀ w ∈ Cond.classLink "StairCount" 150 nseX :: Cond.initialized nseX :: nsW, vx_ot w = true := by decide +kernel
theorem iob_t : Cond.classLink "StairCount" 127 iobX ∈ tb ∧ Cond.initialized iobX ∈ tb := ⟨tb_in 1108 (by decide +kernel) (by decide +kernel), tb_in 23 (by decide +kernel) (by decide +kernel)⟩
theorem nse_t : Cond.classLink "StairCount" 150 nseX ∈ tb ∧ Cond.initialized nseX ∈ tb := ⟨tb_in 1174 (by decide +kernel) (by decide +kernel), tb_in 24 (by decide +kernel) (by decide +kernel)⟩
theorem iob_hat {args : Array Value} {s : State} (ht : ∀ w ∈ tb, w.before args s = true) {X : CX} {H : Heap} (hc : wT X s H) : ∀ w ∈ vx_atS "StairCount" 131 iobX [rteX, excX], w.before args s = true :=
  vx_hat (B := [Cond.declares (Bundle.initS rteX), Cond.declares (Bundle.initS excX), Cond.declares (Bundle.initS Bundle.tN), Cond.castable iobX iobX]) (fun w hw => ht w (tb_fm (by rw [← iob_w]; exact hw) (List.mem_filter.mp hw).2)) (fun w hw => by rw [iob_b] at hw; exact hw) (vx_c (va_Nw.use rfl hc.2.2.2.2.2.1) (vx_c (va_Nw.use rfl hc.2.2.2.2.2.2.1) (vx_c (va_Nw.use rfl hc.2.2.2.2.2.2.2) (vx_c (va_Nw.use rfl hc.2.2.1) vx_n))))
theorem nse_hat {args : Array Value} {s : State} (ht : ∀ w ∈ tb, w.before args s = true) {X : CX} {H : Heap} (hc : wT X s H) : ∀ w ∈ nsW, w.before args s = true :=
  vx_hat (B := [Cond.declares (Bundle.initS rteX), Cond.declares (Bundle.initS excX), Cond.declares (Bundle.initS Bundle.tN), Cond.castable nseX nseX]) (fun w hw => ht w (tb_fm (by rw [← nse_w]; exact hw) (List.mem_filter.mp hw).2)) (fun w hw => by rw [nse_b] at hw; exact hw) (vx_c (va_Nw.use rfl hc.2.2.2.2.2.1) (vx_c (va_Nw.use rfl hc.2.2.2.2.2.2.1) (vx_c (va_Nw.use rfl hc.2.2.2.2.2.2.2) (vx_c (va_Nw.use rfl hc.2.2.2.1) vx_n))))
theorem wP_kept {X : CX} {h : HH} {H H1 : Heap} (hP : wP X h H) (hq : ∀ q : Nat, q < H.size → H1[q]? = H[q]?) : wP X h H1 := va_P.kept hP (fun k x hx => hq x.1 ((hP k x hx).lt))
theorem good_M {Ts : List Cond} (hT : ∀ w ∈ tb, w ∈ Ts) (M' : MI) (hM : Cond.code M'.1 M'.2.1 M'.2.2.1 M'.2.2.2 ∈ tb) : GoodIn Ts (wsM M') := by
  intro w hw
  rcases List.mem_cons.mp hw with rfl | hw
  · exact ⟨hT _ hM, tb_good hM⟩
  · exact ⟨hT _ hw, tb_good hw⟩
section WZ
variable {p : Program} {l : Launch} {e : Env} {R : Room} {s : State} {m : MethodId} {args : Array Value} {below : List Frame} {meth : Method} {c : Code} {H : Heap} {locs : List Loc} {cells slots : Nat} {Q : State → Prop}
variable {cc : ByteArray} {nL : Nat} {Ts : List Cond} {own : String} {X : CX} {h h1 : HH} {A0 : Nat → Prop} {pc : Nat} {ls : Array Slot}
/-- what a call needs, and leaves -/
theorem wz_pre (hK : wK X s) (hZ : wS X s s.heap) (hP : wP X h H) (hS : va_S A0 s.heap H locs) (hq : ∀ q, q < s.heap.size → ¬ inR X q → ¬ A0 q) : ∀ U : State, U.heap = H → s.WarmedH U.vm → wP X h U.heap ∧ wK X U ∧ wS X U U.heap := fun U hU hW =>
  ⟨by rw [hU]; exact hP, wK_warm hW hK, by rw [hU]; exact wS_warm hW (wS_kept hZ (fun a h1 h2 => hS.2.1 a h1 (hq a h1 h2)))⟩
theorem wz_after {A1 : Nat → Prop} {st0 t : State} {L : List Loc} (hS : va_S A0 s.heap H locs) (hA : ∀ q, A1 q → A0 q) (h0 : st0.heap = H) (hF : va_F A1 st0 t) (hL : ∀ q ∈ L, A1 q.base) : va_S A0 s.heap t.heap (locs ++ L) := by
  subst h0
  refine ⟨Nat.le_trans hS.1 hF.1, fun q h1 h2 => ?_, fun l hl => ?_⟩
  · rw [hF.2 q (Nat.lt_of_lt_of_le h1 hS.1) (fun z => h2 (hA q z)), hS.2.1 q h1 h2]
  · rcases List.mem_append.mp hl with hl | hl
    · exact hS.2.2 l hl
    · exact hA _ (hL l hl)
/-- a method of one of the objects, called from anywhere -/
theorem wz_callV {β : Type} {inj' : β → Option Value} {M' : MI} {d' ci n b index : Nat} {E' : Option (β × HH)} {v : β} (As : List Value) {rest : List Value}
    (F : CallFix p m c cc nL s args Ts own) (hTs : ∀ w ∈ tb, w ∈ Ts) (hK : wK X s) (hI : wI X) (hZ : wS X s s.heap) (hP : wP X h H) (hS : va_S A0 s.heap H locs) (hA : ∀ q, inR X q → A0 q) (hq : ∀ q, q < s.heap.size → ¬ inR X q → ¬ A0 q)
    (hm : mV M' ci n) (hlk : Cond.methodLink own index M'.1 ∈ tb) (hb : shL[b]? = some (.inl ci)) (hR : d' + 1 ≤ R.frames ∧ 64 * (d' + 1) ≤ R.locals ∧ cells ≤ R.cells ∧ slots ≤ R.slots) (hnn : As.length = n) (hW : (rest.map fun v => v.category).sum ≤ 8) (hsz : ls.size = nL) (hd : decode cc pc = .ok (.invokevirtual index, 3))
    (sp : Sp M' d' inj' (.ref b :: As) h E') (hE : E' = some (v, h1))
    (kk : ∀ (H1 : Heap) (locs1 : List Loc), wP X h1 H1 → va_S A0 s.heap H1 locs1 → (∀ q : Nat, q < H.size → ¬ inR X q → H1[q]? = H[q]?) → W p l e R s m args below meth c H1 locs1 cells slots Q (F0 m (pc + 3) ls (((inj' v).map (rl X.1)).toList ++ rest))) :
    W p l e R s m args below meth c H locs cells slots Q (F0 m pc ls ((As.map (rl X.1)).reverse ++ .ref (X.1 b) :: rest)) := by
  have hM := sp l X v h1 hE hI
  have hts : ∀ w ∈ Ts, w.before args s = true := F.2.2.2.2
  have tw : ∀ w ∈ tb, w.before args s = true := fun w hw => hts w (hTs w hw)
  have pre := wz_pre hK hZ hP hS hq
  obtain ⟨T0, N0, hc⟩ := hm.2.1
  have hrc := va_recv hK.1 hP hc (ws_o X h hb)
  have run := va_runV (As := As.map (rl X.1)) (rest := rest) (b := X.1 b) (H := H) (locs := locs) (cells := cells) (slots := slots) (below := below) (meth := meth) (e := e) (R := R) (g := F0 m pc ls ((As.map (rl X.1)).reverse ++ .ref (X.1 b) :: rest)) F hM ⟨(callB_of n hts (good_M hTs M' hm.1.2.2.1) rfl rfl rfl (tw _ hm.1.1) (tw _ hlk) hm.1.2.1 ⟨hR.1, by show 8 + (M'.2.2.1 + 11) + 64 * d' ≤ R.locals; have := hm.1.2.2.2; have := hR.2.1; omega⟩), tw _ hm.2.2.1, tw _ hm.2.2.2⟩ ⟨sx_blind, hrc, fun U hU hW => ⟨by simp [rl], pre U hU hW⟩⟩ rfl (by rw [List.length_map]; exact hnn) hsz rfl (lv_room hW) hd ⟨hR.2.2.1, hR.2.2.2⟩
  intro T hT Xs
  obtain ⟨v', st0, t, T', L, h0, X', hL, e1, e2, ⟨hv, hP1, hF1⟩, hgo⟩ := run T hT Xs
  have hv : v' = (inj' v).map (rl X.1) := by cases hv; rfl
  subst hv
  obtain ⟨t2, a2, b2⟩ := kk T'.heap (locs ++ L) (by rw [e1]; exact hP1) (by rw [e1]; exact wz_after hS hA h0 hF1 hL) (fun q q1 q2 => by
    rw [e1]
    have := hF1.2 q (by rw [h0]; exact q1) q2
    rw [h0] at this
    exact this) T' rfl X'
  exact ⟨t2, hgo _ a2, b2⟩
end WZ
/-! StairCount.person where it returns -/
def mi_X10_person : MI := (⟨RX10, "person", "(II)I"⟩, prog_1_method_12_code, 3, (some .int))
theorem mv_X10_person : mV mi_X10_person 10 2 := ⟨⟨tb_in 1 (by decide +kernel) (by decide +kernel), ⟨by decide +kernel, by decide +kernel, by decide +kernel⟩, tb_in 1107 (by decide +kernel) (by decide +kernel), by decide⟩, ⟨_, _, rfl⟩, tb_in 1105 (by decide +kernel) (by decide +kernel), tb_in 1106 (by decide +kernel) (by decide +kernel)⟩
def g_X10_person (a0 : Int32) (a1 : Int32) (h : HH) : Option (Int32 × HH) :=
  bnd (g_X10_isPerson a0 h) fun r2 h1 => 
  if r2 = 0 then
    (none)
  else
    (if a1 = (0 : Int32) then
      (ldI h1 53 6 a0 fun v4 =>
      some (v4, h1))
    else
      (if a1 = (1 : Int32) then
        (gfR h1 0 fun p6 => ckH p6 (.inl 5) (
        ldI h1 (p6 + 3) 6 a0 fun v7 =>
        some (v7, h1)))
      else
        (if a1 = (2 : Int32) then
          (ldI h1 54 6 a0 fun v9 =>
          some (v9, h1))
        else
          (if a1 = (3 : Int32) then
            (ldI h1 55 6 a0 fun v11 =>
            some (v11, h1))
          else
            (if a1 = (4 : Int32) then
              (ldI h1 56 6 a0 fun v13 =>
              some (v13, h1))
            else
              (none))))))
theorem d_X10_person_0 : DC mi_X10_person 0 (.aload_n 0) 1 1 := ⟨by decide +kernel, rfl⟩
theorem d_X10_person_1 : DC mi_X10_person 1 (.iload_n 1) 1 2 := ⟨by decide +kernel, rfl⟩
theorem d_X10_person_2 : DC mi_X10_person 2 (.invokevirtual 115) 3 5 := ⟨by decide +kernel, rfl⟩
theorem d_X10_person_5 : DB mi_X10_person 5 (.ifCond .ne 13) 13 8 18 := ⟨by decide +kernel, rfl, by decide⟩
theorem d_X10_person_18 : DC mi_X10_person 18 (.iload_n 2) 1 19 := ⟨by decide +kernel, rfl⟩
theorem d_X10_person_19 : DW mi_X10_person 19 (.tableswitch 83 0 4 #[33, 43, 53, 63, 73]) := ⟨33, by decide +kernel⟩
theorem d_X10_person_52 : DC mi_X10_person 52 (.aload_n 0) 1 53 := ⟨by decide +kernel, rfl⟩
theorem d_X10_person_53 : DC mi_X10_person 53 (.getfield 30) 3 56 := ⟨by decide +kernel, rfl⟩
theorem d_X10_person_56 : DC mi_X10_person 56 (.getfield 134) 3 59 := ⟨by decide +kernel, rfl⟩
theorem d_X10_person_59 : DC mi_X10_person 59 (.iload_n 1) 1 60 := ⟨by decide +kernel, rfl⟩
theorem d_X10_person_60 : DC mi_X10_person 60 (.iaload) 1 61 := ⟨by decide +kernel, rfl⟩
theorem d_X10_person_61 : DC mi_X10_person 61 (.ireturn) 1 62 := ⟨by decide +kernel, rfl⟩
theorem d_X10_person_62 : DC mi_X10_person 62 (.aload_n 0) 1 63 := ⟨by decide +kernel, rfl⟩
theorem d_X10_person_63 : DC mi_X10_person 63 (.getfield 16) 3 66 := ⟨by decide +kernel, rfl⟩
theorem d_X10_person_66 : DC mi_X10_person 66 (.getfield 138) 3 69 := ⟨by decide +kernel, rfl⟩
theorem d_X10_person_69 : DC mi_X10_person 69 (.iload_n 1) 1 70 := ⟨by decide +kernel, rfl⟩
theorem d_X10_person_70 : DC mi_X10_person 70 (.iaload) 1 71 := ⟨by decide +kernel, rfl⟩
theorem d_X10_person_71 : DC mi_X10_person 71 (.ireturn) 1 72 := ⟨by decide +kernel, rfl⟩
theorem d_X10_person_72 : DC mi_X10_person 72 (.aload_n 0) 1 73 := ⟨by decide +kernel, rfl⟩
theorem d_X10_person_73 : DC mi_X10_person 73 (.getfield 30) 3 76 := ⟨by decide +kernel, rfl⟩
theorem d_X10_person_76 : DC mi_X10_person 76 (.getfield 141) 3 79 := ⟨by decide +kernel, rfl⟩
theorem d_X10_person_79 : DC mi_X10_person 79 (.iload_n 1) 1 80 := ⟨by decide +kernel, rfl⟩
theorem d_X10_person_80 : DC mi_X10_person 80 (.iaload) 1 81 := ⟨by decide +kernel, rfl⟩
theorem d_X10_person_81 : DC mi_X10_person 81 (.ireturn) 1 82 := ⟨by decide +kernel, rfl⟩
theorem d_X10_person_82 : DC mi_X10_person 82 (.aload_n 0) 1 83 := ⟨by decide +kernel, rfl⟩
theorem d_X10_person_83 : DC mi_X10_person 83 (.getfield 30) 3 86 := ⟨by decide +kernel, rfl⟩
theorem d_X10_person_86 : DC mi_X10_person 86 (.getfield 144) 3 89 := ⟨by decide +kernel, rfl⟩
theorem d_X10_person_89 : DC mi_X10_person 89 (.iload_n 1) 1 90 := ⟨by decide +kernel, rfl⟩
theorem d_X10_person_90 : DC mi_X10_person 90 (.iaload) 1 91 := ⟨by decide +kernel, rfl⟩
theorem d_X10_person_91 : DC mi_X10_person 91 (.ireturn) 1 92 := ⟨by decide +kernel, rfl⟩
theorem d_X10_person_92 : DC mi_X10_person 92 (.aload_n 0) 1 93 := ⟨by decide +kernel, rfl⟩
theorem d_X10_person_93 : DC mi_X10_person 93 (.getfield 30) 3 96 := ⟨by decide +kernel, rfl⟩
theorem d_X10_person_96 : DC mi_X10_person 96 (.getfield 147) 3 99 := ⟨by decide +kernel, rfl⟩
theorem d_X10_person_99 : DC mi_X10_person 99 (.iload_n 1) 1 100 := ⟨by decide +kernel, rfl⟩
theorem d_X10_person_100 : DC mi_X10_person 100 (.iaload) 1 101 := ⟨by decide +kernel, rfl⟩
theorem d_X10_person_101 : DC mi_X10_person 101 (.ireturn) 1 102 := ⟨by decide +kernel, rfl⟩
set_option maxHeartbeats 4000000 in
set_option maxRecDepth 100000 in
theorem sxp_X10_person (d : Nat) (hd : 1 ≤ d) (a0 : Int32) (a1 : Int32) (h : HH) : Sx mi_X10_person d iI (g_X10_person a0 a1 h) 0 [(0, .ref 0), (1, .int a0), (2, .int a1)] [] h := by
  unfold g_X10_person
  refine sx_aload_n d_X10_person_0 0 rfl ?_
  refine sx_iload_n d_X10_person_1 1 rfl ?_
  refine sx_callV [.int a0] mv_X10_isPerson lM_StairCount_115 sh_0 (by omega) rfl rfl (Nat.le_of_ble_eq_true rfl) d_X10_person_2 (sp_X10_isPerson (d - 1) (by omega) a0 h) (fun r2 h1 => ?_)
  refine sx_if_ne d_X10_person_5 ?_ ?_
  · exact sx_none
  · refine sx_iload_n d_X10_person_18 2 rfl ?_
    refine sx_if (fun e3 => ?_) (fun e3 => ?_)
    · refine sx_tsIn (off := 33) (t := 52) d_X10_person_19 (by rw [e3] <;> decide) (by rw [e3] <;> decide) (by rw [e3] <;> decide) (by decide) ?_
      refine sx_aload_n d_X10_person_52 0 rfl ?_
      refine sx_getF (a' := 52) fl_StairCount_30 sh_0 rfl rfl d_X10_person_53 ?_
      refine sx_getF (a' := 53) fl_StairCount_134 sh_52 rfl rfl d_X10_person_56 ?_
      refine sx_iload_n d_X10_person_59 1 rfl ?_
      refine sx_iald sh_53 d_X10_person_60 (fun v4 => ?_)
      exact sx_iret rfl d_X10_person_61
    · refine sx_if (fun e5 => ?_) (fun e5 => ?_)
      · refine sx_tsIn (off := 43) (t := 62) d_X10_person_19 (by rw [e5] <;> decide) (by rw [e5] <;> decide) (by rw [e5] <;> decide) (by decide) ?_
        refine sx_aload_n d_X10_person_62 0 rfl ?_
        refine sx_getR fl_StairCount_16 sh_0 rfl d_X10_person_63 (fun p6 => ?_)
        refine sx_ckH (fun ep6 => ?_)
        refine sx_getF (a' := (p6 + 3)) fl_StairCount_138 ep6 rfl rfl d_X10_person_66 ?_
        refine sx_iload_n d_X10_person_69 1 rfl ?_
        refine sx_iald (shf_5_4 ep6) d_X10_person_70 (fun v7 => ?_)
        exact sx_iret rfl d_X10_person_71
      · refine sx_if (fun e8 => ?_) (fun e8 => ?_)
        · refine sx_tsIn (off := 53) (t := 72) d_X10_person_19 (by rw [e8] <;> decide) (by rw [e8] <;> decide) (by rw [e8] <;> decide) (by decide) ?_
          refine sx_aload_n d_X10_person_72 0 rfl ?_
          refine sx_getF (a' := 52) fl_StairCount_30 sh_0 rfl rfl d_X10_person_73 ?_
          refine sx_getF (a' := 54) fl_StairCount_141 sh_52 rfl rfl d_X10_person_76 ?_
          refine sx_iload_n d_X10_person_79 1 rfl ?_
          refine sx_iald sh_54 d_X10_person_80 (fun v9 => ?_)
          exact sx_iret rfl d_X10_person_81
        · refine sx_if (fun e10 => ?_) (fun e10 => ?_)
          · refine sx_tsIn (off := 63) (t := 82) d_X10_person_19 (by rw [e10] <;> decide) (by rw [e10] <;> decide) (by rw [e10] <;> decide) (by decide) ?_
            refine sx_aload_n d_X10_person_82 0 rfl ?_
            refine sx_getF (a' := 52) fl_StairCount_30 sh_0 rfl rfl d_X10_person_83 ?_
            refine sx_getF (a' := 55) fl_StairCount_144 sh_52 rfl rfl d_X10_person_86 ?_
            refine sx_iload_n d_X10_person_89 1 rfl ?_
            refine sx_iald sh_55 d_X10_person_90 (fun v11 => ?_)
            exact sx_iret rfl d_X10_person_91
          · refine sx_if (fun e12 => ?_) (fun e12 => ?_)
            · refine sx_tsIn (off := 73) (t := 92) d_X10_person_19 (by rw [e12] <;> decide) (by rw [e12] <;> decide) (by rw [e12] <;> decide) (by decide) ?_
              refine sx_aload_n d_X10_person_92 0 rfl ?_
              refine sx_getF (a' := 52) fl_StairCount_30 sh_0 rfl rfl d_X10_person_93 ?_
              refine sx_getF (a' := 56) fl_StairCount_147 sh_52 rfl rfl d_X10_person_96 ?_
              refine sx_iload_n d_X10_person_99 1 rfl ?_
              refine sx_iald sh_56 d_X10_person_100 (fun v13 => ?_)
              exact sx_iret rfl d_X10_person_101
            · have q0 := ne_toInt (x := a1) (c := (0 : Int32)) (k := 0) e3 ti0
              have q1 := ne_toInt (x := a1) (c := (1 : Int32)) (k := 1) e5 ti1
              have q2 := ne_toInt (x := a1) (c := (2 : Int32)) (k := 2) e8 ti2
              have q3 := ne_toInt (x := a1) (c := (3 : Int32)) (k := 3) e10 ti3
              have q4 := ne_toInt (x := a1) (c := (4 : Int32)) (k := 4) e12 ti4
              refine sx_tsOut (t := 102) d_X10_person_19 (by omega) (by decide) ?_
              exact sx_none
def rmP : Room := { frames := 12, cells := 1, slots := 6, locals := 768 }
/-- how it ends: 0 returned, 1 and 2 thrown -/
def PP (a0 a1 : Int32) (h : HH) (k : Nat) (v : Int32) : Prop := (k = 0 ∧ g_X10_person a0 a1 h = some (v, h)) ∨ (k = 1 ∧ g_X10_isPerson a0 h = some (0, h)) ∨ (k = 2 ∧ g_X10_isPerson a0 h = some (1, h) ∧ (a1.toInt < 0 ∨ 4 < a1.toInt))
def Qp (X : CX) (h : HH) (k : Nat) (v : Int32) : Array Value → State → Outcome → State → Prop := fun a st oc t => k = 0 ∧ Qr X (some (.int v)) h a st oc t
def XCp (X : CX) (h : HH) (k : Nat) : String → State → State → Prop := fun E st t => ((k = 1 ∧ E = iobX) ∨ (k = 2 ∧ E = nseX)) ∧ wP X h t.heap ∧ va_F (inR X) st t
set_option maxHeartbeats 4000000 in
set_option maxRecDepth 100000 in
theorem vp_X10_person (l : Launch) (hl9 : l.stackTraces = false) (X : CX) (hI : wI X) (a0 a1 : Int32) (h : HH) (k : Nat) (v : Int32) (hk : PP a0 a1 h k v) : vx_Met l mi_X10_person.1 (wsM mi_X10_person) rmP (va_Pc [.ref (X.1 0), .int a0, .int a1] (fun U => wP X h U.heap ∧ wK X U ∧ wS X U U.heap ∧ wT X U U.heap)) (Qp X h k v) (XCp X h k) 1 6 (inR X) := by
  refine vx_ofW (cc := mi_X10_person.2.1) (maxL := 3) (ret := some .int) (by decide) rfl ?_
  intro p e s m args below meth c s₁ B hml htab hv
  obtain ⟨rfl, hP, hK, hSt, hTt⟩ := hv
  have C : SC p l e s m [.ref (X.1 0), .int a0, .int a1].toArray meth c X mi_X10_person := ⟨B.exec, B.bytes, B.returns, hml, findClass_of_methodNamed B.named, atoms_spec (ws := wsM mi_X10_person) B.pre, B.notSynchronized, hK, hI, hSt⟩
  have hl0 := lv_entry ([.ref (X.1 0), .int a0, .int a1] : List Value) (n := 3) (Nat.le_of_ble_eq_true rfl)
  rw [lg_entry_eq]
  generalize (lg_sl ([.ref (X.1 0), .int a0, .int a1] : List Value) ++ List.replicate (3 - (lg_sl ([.ref (X.1 0), .int a0, .int a1] : List Value)).length) Slot.unset).toArray = ls at hl0 ⊢
  have hl : lv_has ls 3 [(0, .ref (X.1 0)), (1, .int a0), (2, .int a1)] := hl0
  have tw : ∀ w ∈ tb, w.before [.ref (X.1 0), .int a0, .int a1].toArray s = true := fun w hw => C.2.2.2.2.2.1 w (List.mem_cons_of_mem _ hw)
  have hsz : ls.size = c.maxLocals := hl.1.trans hml.symm
  have F : CallFix p m c mi_X10_person.2.1 3 s [.ref (X.1 0), .int a0, .int a1].toArray (wsM mi_X10_person) "StairCount" := ⟨B.exec, B.bytes, hml, findClass_of_methodNamed B.named, C.2.2.2.2.2.1⟩
  have out : ∀ (k0 : Nat) (E : String) (H1 : Heap) (locs1 : List Loc), ((k0 = 1 ∧ E = iobX) ∨ (k0 = 2 ∧ E = nseX)) → wP X h H1 → va_S (inR X) s.heap H1 locs1 → ∀ t : State, s.vm.Alike t.vm → H1.size ≤ t.heap.size → (∀ q : Nat, q < H1.size → t.heap[q]? = H1[q]?) → XCp X h k0 E s t := fun k0 E H1 locs1 hE hP1 hS1 t _ h2 h3 =>
    ⟨hE, wP_kept hP1 h3, Nat.le_trans hS1.1 h2, fun q q1 q2 => by rw [h3 q (Nat.lt_of_lt_of_le q1 hS1.1), hS1.2.1 q q1 q2]⟩
  rcases hk with ⟨rfl, hE⟩ | ⟨rfl, hE⟩ | ⟨rfl, hE, hw⟩
  · refine vx_ret (w_room (R' := rmD 10) (by decide) (by decide) (by decide) (by decide) (w_imp (mq_up (Nat.zero_le _) (Nat.zero_le _) (fun o t q => ⟨rfl, q⟩)) ?_))
    exact sxp_X10_person 10 (by decide) a0 a1 h p l e s m _ below meth c X s.heap [] ls v h C hP va_S.rf hl hE
  · refine lv_aload_n C.1 C.2.1 d_X10_person_0.1 rfl (lv_at hl 0 rfl) ?_
    refine lv_iload_n C.1 C.2.1 d_X10_person_1.1 rfl (lv_at hl 1 rfl) ?_
    refine wz_callV (A0 := inR X) (d' := 9) (rest := []) (b := 0) [.int a0] F (fun w hw => List.mem_cons_of_mem _ hw) hK hI hSt hP va_S.rf (fun _ q => q) (fun _ _ q => q) mv_X10_isPerson lM_StairCount_115 sh_0 ⟨by decide, by decide, by decide, by decide⟩ rfl (by decide) hl.1 d_X10_person_2.1 (sp_X10_isPerson 9 (by decide) a0 h) hE (fun H1 locs1 hP1 hS1 _ => ?_)
    refine W.eq (g2 := F0 m 5 ls [.int 0]) rfl ?_
    refine lv_if_ne C.1 C.2.1 d_X10_person_5.1 d_X10_person_5.2.2 (fun hc => absurd rfl hc) (fun _ => ?_)
    exact vx_throwS (own := "StairCount") (cls := iobX) (text := "no such PERSON") (names := [rteX, excX]) (ik := 127) (is := 129) (ic := 131) (sa := X.1 (nN + 1)) (A := inR X) C.1 C.2.1 hl9 C.2.2.2.2.1 (by decide +kernel) (by decide +kernel) (tw _ iob_t.1) (tw _ iob_t.2) (hSt.2.1 1 _ rfl) (iob_hat tw hTt) iob_g hTt.1 hTt.2.1 hS1 hsz (by decide +kernel) (by decide +kernel) (by decide +kernel) (by decide +kernel) (by decide +kernel) (fun x hx => (htab x hx).elim) (by decide) (by decide) (by decide) (by decide) B.notSynchronized (out 1 iobX H1 locs1 (Or.inl ⟨rfl, rfl⟩) hP1 hS1) hS1.2.2 (by decide) (by decide)
  · refine lv_aload_n C.1 C.2.1 d_X10_person_0.1 rfl (lv_at hl 0 rfl) ?_
    refine lv_iload_n C.1 C.2.1 d_X10_person_1.1 rfl (lv_at hl 1 rfl) ?_
    refine wz_callV (A0 := inR X) (d' := 9) (rest := []) (b := 0) [.int a0] F (fun w hw => List.mem_cons_of_mem _ hw) hK hI hSt hP va_S.rf (fun _ q => q) (fun _ _ q => q) mv_X10_isPerson lM_StairCount_115 sh_0 ⟨by decide, by decide, by decide, by decide⟩ rfl (by decide) hl.1 d_X10_person_2.1 (sp_X10_isPerson 9 (by decide) a0 h) hE (fun H1 locs1 hP1 hS1 _ => ?_)
    refine W.eq (g2 := F0 m 5 ls [.int 1]) rfl ?_
    refine lv_if_ne C.1 C.2.1 d_X10_person_5.1 d_X10_person_5.2.2 (fun _ => ?_) (fun hc => absurd hc (by decide))
    refine lv_iload_n C.1 C.2.1 d_X10_person_18.1 rfl (lv_at hl 2 rfl) ?_
    obtain ⟨L9, h19⟩ := d_X10_person_19
    refine lv_tableOut (tgt := 102) C.1 C.2.1 h19 hw (by decide) ?_
    exact n_throwS (own := "StairCount") (cls := nseX) (Y := rteX) (text := "no such what") (names := [excX]) (ik := 150) (is := 152) (ic := 154) (index := 13) (bytes := prog_30_method_4_code) (sa := X.1 (nN + 2)) (A := inR X) C.1 C.2.1 hl9 C.2.2.2.2.1 (by decide +kernel) (by decide +kernel) (by decide +kernel) (by decide +kernel) (by decide +kernel) (by decide +kernel) (by decide +kernel) (tw _ nse_t.1) (tw _ nse_t.2) (hSt.2.1 2 _ rfl) (nse_hat tw hTt) nse_g hTt.1 hTt.2.1 hS1 hsz (by decide +kernel) (by decide +kernel) (by decide +kernel) (by decide +kernel) (by decide +kernel) (fun x hx => (htab x hx).elim) (by decide) (by decide) (by decide) (by decide) B.notSynchronized (out 2 nseX H1 locs1 (Or.inr ⟨rfl, rfl⟩) hP1 hS1) hS1.2.2 (by decide) (by decide)
