/-! a new object in any world; the past's constructor -/
section NW1
variable {p : Program} {l : Launch} {e : Env} {R : Room} {s : State} {mth : MethodId} {args : Array Value} {below : List Frame} {meth : Method} {c : Code} {X : CX} {H : Heap} {locs : List Loc} {cells slots : Nat} {Q : State → Prop} {cc : ByteArray} {pc : Nat} {ls : Array Slot} {rest : List Value} {own : String}
theorem w_new {z a0 b nL ci' n' mc' ms' d' i1 i2 N' : Nat} {h : HH} {C' : String} {T' : u_T} {M' : MI} {ty0 : Nat → FieldType}
    (hx : p.tables.exec = Jvm.exec) (hb : c.code = cc) (hml : c.maxLocals = nL) (hsz : ls.size = nL) (hown : s.vm.findClass own = some mth.cls) (hts : ∀ w ∈ tb, w.before args s = true) (hK : wK X s) (hI : wI X) (hSt : wS X s s.heap) (hO : wO s) (hZ : XZ X z)
    (hs : H.size = z + b) (hS : va_S (fun q => z + a0 ≤ q) s.heap H locs) (hab : a0 ≤ b)
    (hk' : Kb z h M' ci' b n' d' mc' ms') (hn' : n' = mc' + 1) (han : b + n' ≤ nN) (hc' : cls[ci']? = some (C', T', N')) (hty0 : ∀ k, k < N' → parseFieldDescriptor (T' k).2.2.1 = some (ty0 k)) (hdf : ∀ j, j < N' → defaultValue (ty0 j) = vp_V (nul ci') j)
    (hl1 : Cond.classLink own i1 C' ∈ tb) (hl2 : Cond.instantiable C' N' ∈ tb) (hm : mG M' 0) (hMi : M'.1.cls = C' ∧ M'.1.name = "<init>" ∧ M'.2.2.2 = none ∧ Cond.instanceMethod M'.1 ∈ tb) (hlk : (∃ host, Cond.methodLinkNest own i2 M'.1 host ∈ nestW) ∨ Cond.methodLink own i2 M'.1 ∈ tb)
    (hfr : d' + 1 ≤ R.frames) (hlo : 64 * (d' + 1) ≤ R.locals) (hcells : cells + n' ≤ R.cells) (hslots : slots + N' + ms' ≤ R.slots) (hst : (rest.map fun v => v.category).sum ≤ 6)
    (hd1 : decode cc pc = .ok (.new i1, 3)) (hd2 : decode cc (pc + 3) = .ok (.dup, 1)) (hd3 : decode cc (pc + 3 + 1) = .ok (.invokespecial i2, 3))
    (kk : ∀ (H2 : Heap) (locs2 : List Loc), H2.size = z + b + n' → (∀ q : Nat, q < H.size → H2[q]? = H[q]?) → (∀ i, i < n' → va_at X.2.1 cls (X.1 (b + i), cE X h (b + i)) H2) → va_S (fun q => z + a0 ≤ q) s.heap H2 locs2 → W p l e R s mth args below meth c H2 locs2 (cells + n') (slots + N' + ms') Q (F0 mth (pc + 7) ls (.ref (X.1 b) :: rest))) : W p l e R s mth args below meth c H locs cells slots Q (F0 mth pc ls rest) := by
  subst hn'
  have ok := cls_ok _ (List.mem_of_getElem? hc')
  have hKn := hK.1.1 ci' _ hc'
  have hxb : X.1 b = z + b := hZ _ (by omega)
  refine W.newcK hx hb hown (hts _ hl1) (hts _ hl2) (by have := hts _ hm.1; rw [hMi.1] at this; exact this) rfl hd1 (by omega) (by omega) hKn.2.1 (h := X.1 b) (by rw [hs, hxb]) (fun H1 kC hkC e1 z1 o1 => ?_)
  refine lv_dup (va := .ref (X.1 b)) (pc := pc + 3) (ls := ls) (rest := rest) hx hb hd2 rfl ?_
  have one : va_P X.2.1 cls [(X.1 b, .inr (ci', nul ci'))] H1 := fun k x hx => by
    cases k with
    | zero => cases hx; exact ⟨_, hc', (u_born ty0 hts ok.1 hKn hkC e1 hty0).to hdf⟩
    | succ k => cases hx
  have hs1 : H1.size = z + b + 1 := by rw [z1, hxb]
  have hS1 : va_S (fun q => z + a0 ≤ q) s.heap H1 locs := ⟨Nat.le_trans hS.1 (by omega), fun x x1 x2 => by rw [o1 x (by have := hS.1; omega), hS.2.1 x x1 x2], hS.2.2⟩
  have hM := hk' l X hI hZ
  have hpre : PreS s H1 (va_Pc [.ref (X.1 b)] (fun U => U.heap.size = z + b + 1 ∧ va_P X.2.1 cls [(X.1 b, .inr (ci', nul ci'))] U.heap ∧ wK X U ∧ wS X U U.heap ∧ wO U)) (.ref (X.1 b) :: []) := ⟨fun a U g mk q => ⟨q.1, q.2.1, q.2.2.1, wK_blind q.2.2.2.1, wS_blind q.2.2.2.2.1, wO_moved (u := U) (U := U.calling g mk a) (Vm.Alike.refl U.vm) q.2.2.2.2.2⟩, fun U hU hW => ⟨rfl, by rw [hU]; exact hs1, by rw [hU]; exact one, wK_warm hW hK, by rw [hU]; exact wS_warm hW (wS_kept hSt (kept_S hZ (by omega) hS1)), wO_moved hW.alike hO⟩⟩
  have hroom : (rmC d' mc' ms').frames + 1 ≤ R.frames ∧ 8 + (M'.2.2.1 + 11) + (rmC d' mc' ms').locals ≤ R.locals := ⟨hfr, by show 8 + (M'.2.2.1 + 11) + 64 * d' ≤ R.locals; have := hm.2.2.2; omega⟩
  have hlvr : 2 * (F0 mth (pc + 3 + 1) ls (.ref (X.1 b) :: .ref (X.1 b) :: rest)).monitorRoom + ((.ref (X.1 b) :: rest).map fun v => v.category).sum ≤ 8 := by
    refine lv_room ?_
    rw [List.map_cons, List.sum_cons]
    show 1 + _ ≤ 8
    omega
  have hG : GoodIn tb (wsM M') := by
    intro w hw
    rcases List.mem_cons.mp hw with rfl | hw
    · exact ⟨hm.2.2.1, tb_good hm.2.2.1⟩
    · exact ⟨hw, tb_good hw⟩
  have run : va_Run p l e R s mth args below meth c H1 locs (cells + 1) (slots + N') mc' ms' (F0 mth (pc + 3 + 1) ls (.ref (X.1 b) :: .ref (X.1 b) :: rest)) (.ref (X.1 b) :: rest) (Qb X z h b (mc' + 1) (Value.ref (X.1 b) :: []).toArray) (fun q => z + b ≤ q) := by
    rcases hlk with ⟨host, hlk⟩ | hlk
    · exact va_runIN (As := []) (bytes := M'.2.1) (maxL := M'.2.2.1) ⟨hx, hb, hml, hown, hts⟩ hM ⟨va_cnB 0 hts hG (by rw [← hMi.2.2.1]; rfl) rfl rfl (hK.2.2 _ hlk) (hts _ hm.1) hm.2.1 hroom, hMi.2.1, hts _ hMi.2.2.2⟩ hpre rfl rfl hsz rfl hlvr hd3 ⟨by omega, by omega⟩
    · exact va_runI (As := []) (bytes := M'.2.1) (maxL := M'.2.2.1) ⟨hx, hb, hml, hown, hts⟩ hM ⟨callB_of 0 hts hG (by rw [← hMi.2.2.1]; rfl) rfl rfl (hts _ hm.1) (hts _ hlk) hm.2.1 hroom, hMi.2.1, hts _ hMi.2.2.2⟩ hpre rfl rfl hsz rfl hlvr hd3 ⟨by omega, by omega⟩
  intro T0 hT0 Xs
  obtain ⟨v', st0, t, T', L, h0, X', hL, e1', e2', ⟨hv, hsz', hPw, hF1⟩, hgo⟩ := run T0 hT0 Xs
  have hv : v' = none := by cases hv; rfl
  subst hv
  have lo : ∀ q : Nat, q < H.size → T'.heap[q]? = H[q]? := fun q q1 => by rw [e1', hF1.2 q (by rw [h0]; omega) (by show ¬ z + b ≤ q; omega), h0, o1 _ (by rw [hxb]; omega)]
  rw [show cells + 1 + mc' = cells + (mc' + 1) by omega] at X'
  have k2 := kk T'.heap (locs ++ L) (by rw [e1', hsz']) lo (fun i hi => by rw [e1']; exact wsR_P.mp hPw i hi) ⟨?_, fun x x1 x2 => ?_, fun q hq => ?_⟩
  · obtain ⟨t2, a2, b2⟩ := k2 T' rfl X'
    exact ⟨t2, hgo _ a2, b2⟩
  · rw [e1', hsz']; have := hS.1; omega
  · rw [lo x (Nat.lt_of_lt_of_le x1 hS.1), hS.2.1 x x1 x2]
  · rcases List.mem_append.mp hq with hq | hq
    · exact hS.2.2 q hq
    · have h7 : z + b ≤ q.base := hL q hq
      show z + a0 ≤ q.base
      omega
end NW1
theorem arrV_eq {cA : ClassId} {N : Nat} {f g : Nat → Value} (h : ∀ j, j < N → f j = g j) : arrV cA N f = arrV cA N g := by
  unfold arrV
  congr 1
  apply Array.ext
  · simp
  · intro i h1 h2
    simp at h1
    simp [h i h1]
def mi_X4_init : MI := (⟨RX4, "<init>", "()V"⟩, prog_6_method_1_code, 2, none)
theorem mg_X4_init : mG mi_X4_init 0 := ⟨tb_in 7 (by decide +kernel) (by decide +kernel), ⟨by decide +kernel, by decide +kernel, by decide +kernel⟩, tb_in 294 (by decide +kernel) (by decide +kernel), by decide⟩
theorem mj_X4_init : mi_X4_init.1.cls = RX4 ∧ mi_X4_init.1.name = "<init>" ∧ mi_X4_init.2.2.2 = none ∧ Cond.instanceMethod mi_X4_init.1 ∈ tb := ⟨rfl, rfl, rfl, tb_in 293 (by decide +kernel) (by decide +kernel)⟩
theorem df_X4 : ∀ j, j < 3 → defaultValue (tyX4 j) = vp_V (nul 4) j := by
  intro j hj
  rcases (show j = 0 ∨ j = 1 ∨ j = 2 by omega) with rfl | rfl | rfl <;> rfl
theorem il_X4 : Cond.instantiable RX4 3 ∈ tb := tb_in 291 (by decide +kernel) (by decide +kernel)
theorem lo_X4 : Cond.methodLink mi_X4_init.1.cls 3 Lib.objectInit ∈ tb := tb_in 295 (by decide +kernel) (by decide +kernel)
theorem lc_X4_9 : Cond.classLink mi_X4_init.1.cls 9 RX7 ∈ tb := tb_in 296 (by decide +kernel) (by decide +kernel)
theorem ln_X4_17 : Cond.methodLinkNest mi_X4_init.1.cls 17 mi_X7_init.1 "StairCount" ∈ nestW := by decide +kernel
theorem fq_X4_11 : FLk mi_X4_init.1.cls 11 4 0 true := ⟨_, _, _, rfl, by decide, tb_in 299 (by decide +kernel) (by decide +kernel), rfl, rfl⟩
theorem d_X4_init_0 : DC mi_X4_init 0 (.aload_n 0) 1 1 := ⟨by decide +kernel, rfl⟩
theorem d_X4_init_1 : DC mi_X4_init 1 (.invokespecial 3) 3 4 := ⟨by decide +kernel, rfl⟩
theorem d_X4_init_4 : DC mi_X4_init 4 (.aload_n 0) 1 5 := ⟨by decide +kernel, rfl⟩
theorem d_X4_init_5 : DC mi_X4_init 5 (.bipush 20) 2 7 := ⟨by decide +kernel, rfl⟩
theorem d_X4_init_7 : DC mi_X4_init 7 (.anewarray 9) 3 10 := ⟨by decide +kernel, rfl⟩
theorem d_X4_init_10 : DC mi_X4_init 10 (.putfield 11) 3 13 := ⟨by decide +kernel, rfl⟩
theorem d_X4_init_13 : DC mi_X4_init 13 (.iconst 0) 1 14 := ⟨by decide +kernel, rfl⟩
theorem d_X4_init_14 : DC mi_X4_init 14 (.istore_n 1) 1 15 := ⟨by decide +kernel, rfl⟩
theorem d_X4_init_15 : DC mi_X4_init 15 (.iload_n 1) 1 16 := ⟨by decide +kernel, rfl⟩
theorem d_X4_init_16 : DC mi_X4_init 16 (.bipush 20) 2 18 := ⟨by decide +kernel, rfl⟩
theorem d_X4_init_18 : DC mi_X4_init 18 (.if_icmp .ge 22) 3 21 := ⟨by decide +kernel, rfl⟩
theorem d_X4_init_21 : DC mi_X4_init 21 (.aload_n 0) 1 22 := ⟨by decide +kernel, rfl⟩
theorem d_X4_init_22 : DC mi_X4_init 22 (.getfield 11) 3 25 := ⟨by decide +kernel, rfl⟩
theorem d_X4_init_25 : DC mi_X4_init 25 (.iload_n 1) 1 26 := ⟨by decide +kernel, rfl⟩
theorem d_X4_init_26 : DC mi_X4_init 26 (.new 9) 3 29 := ⟨by decide +kernel, rfl⟩
theorem d_X4_init_29 : DC mi_X4_init 29 (.dup) 1 30 := ⟨by decide +kernel, rfl⟩
theorem d_X4_init_30 : DC mi_X4_init 30 (.invokespecial 17) 3 33 := ⟨by decide +kernel, rfl⟩
theorem d_X4_init_33 : DC mi_X4_init 33 (.aastore) 1 34 := ⟨by decide +kernel, rfl⟩
theorem d_X4_init_34 : DC mi_X4_init 34 (.iinc 1 1) 3 37 := ⟨by decide +kernel, rfl⟩
theorem d_X4_init_37 : DC mi_X4_init 37 (.goto (-22)) 3 40 := ⟨by decide +kernel, rfl⟩
theorem d_X4_init_40 : DC mi_X4_init 40 (.return_) 1 41 := ⟨by decide +kernel, rfl⟩
def tp_X4 : List (Nat ⊕ (Nat × Nat × Nat)) := [.inl 4, .inr (4, 20, 8), .inl 7, .inr (0, 6, 0), .inr (0, 6, 0), .inr (0, 6, 0), .inr (0, 6, 0), .inr (0, 36, 0), .inl 7, .inr (0, 6, 0), .inr (0, 6, 0), .inr (0, 6, 0), .inr (0, 6, 0), .inr (0, 36, 0), .inl 7, .inr (0, 6, 0), .inr (0, 6, 0), .inr (0, 6, 0), .inr (0, 6, 0), .inr (0, 36, 0), .inl 7, .inr (0, 6, 0), .inr (0, 6, 0), .inr (0, 6, 0), .inr (0, 6, 0), .inr (0, 36, 0), .inl 7, .inr (0, 6, 0), .inr (0, 6, 0), .inr (0, 6, 0), .inr (0, 6, 0), .inr (0, 36, 0), .inl 7, .inr (0, 6, 0), .inr (0, 6, 0), .inr (0, 6, 0), .inr (0, 6, 0), .inr (0, 36, 0), .inl 7, .inr (0, 6, 0), .inr (0, 6, 0), .inr (0, 6, 0), .inr (0, 6, 0), .inr (0, 36, 0), .inl 7, .inr (0, 6, 0), .inr (0, 6, 0), .inr (0, 6, 0), .inr (0, 6, 0), .inr (0, 36, 0), .inl 7, .inr (0, 6, 0), .inr (0, 6, 0), .inr (0, 6, 0), .inr (0, 6, 0), .inr (0, 36, 0), .inl 7, .inr (0, 6, 0), .inr (0, 6, 0), .inr (0, 6, 0), .inr (0, 6, 0), .inr (0, 36, 0), .inl 7, .inr (0, 6, 0), .inr (0, 6, 0), .inr (0, 6, 0), .inr (0, 6, 0), .inr (0, 36, 0), .inl 7, .inr (0, 6, 0), .inr (0, 6, 0), .inr (0, 6, 0), .inr (0, 6, 0), .inr (0, 36, 0), .inl 7, .inr (0, 6, 0), .inr (0, 6, 0), .inr (0, 6, 0), .inr (0, 6, 0), .inr (0, 36, 0), .inl 7, .inr (0, 6, 0), .inr (0, 6, 0), .inr (0, 6, 0), .inr (0, 6, 0), .inr (0, 36, 0), .inl 7, .inr (0, 6, 0), .inr (0, 6, 0), .inr (0, 6, 0), .inr (0, 6, 0), .inr (0, 36, 0), .inl 7, .inr (0, 6, 0), .inr (0, 6, 0), .inr (0, 6, 0), .inr (0, 6, 0), .inr (0, 36, 0), .inl 7, .inr (0, 6, 0), .inr (0, 6, 0), .inr (0, 6, 0), .inr (0, 6, 0), .inr (0, 36, 0), .inl 7, .inr (0, 6, 0), .inr (0, 6, 0), .inr (0, 6, 0), .inr (0, 6, 0), .inr (0, 36, 0), .inl 7, .inr (0, 6, 0), .inr (0, 6, 0), .inr (0, 6, 0), .inr (0, 6, 0), .inr (0, 36, 0), .inl 7, .inr (0, 6, 0), .inr (0, 6, 0), .inr (0, 6, 0), .inr (0, 6, 0), .inr (0, 36, 0)]
/-- the past while its states are made: i of them -/
def P4 (X : CX) (h : HH) (z a i : Nat) (H : Heap) : Prop := H.size = z + a + 2 + 6 * i ∧ va_at X.2.1 cls (X.1 a, .inr (4, [.ref (X.1 (a + 1)), .int 0, .int 0])) H ∧ H[X.1 (a + 1)]? = some (arrV (X.2.2 (a + 1)) 20 (fun j => if j < i then .ref (X.1 (a + 2 + 6 * j)) else .null)) ∧ ∀ k, k < 6 * i → va_at X.2.1 cls (X.1 (a + 2 + k), cE X h (a + 2 + k)) H
set_option maxHeartbeats 4000000 in
set_option maxRecDepth 100000 in
theorem past_L {d z a : Nat} {h : HH} (hd : 1 ≤ d) (hsh : Seg a tp_X4) (hz : ∀ i, 0 ≤ i → i < 122 → zr h (a + i)) (ha : a + 122 ≤ nN) {p : Program} {l : Launch} {e : Env} {s : State} {mth : MethodId} {args : Array Value} {below : List Frame} {meth : Method} {c : Code} {X : CX} (C : SC p l e s mth args meth c X mi_X4_init) (hO : wO s) (hZ : XZ X z) :
    ∀ (m i : Nat) (H : Heap) (locs : List Loc) (ls : Array Slot), i + m = 20 → P4 X h z a i H → va_S (fun q => z + a ≤ q) s.heap H locs → lv_has ls 2 [(1, .int (nI i)), (0, .ref (X.1 a))] →
      W p l e (rmC (d + 1) 121 1360) s mth args below meth c H locs (1 + 6 * i) (20 + 67 * i) (MQ below (Qb X z h a 122) args s 121 1360 (fun q => z + a ≤ q)) (F0 mth 15 ls []) := by
  have hs1 : shL[a + 1]? = some (.inr (4, 20, 8)) := (hsh 1 (by decide)).trans rfl
  have hxa : X.1 a = z + a := hZ _ (by omega)
  have hx1 : X.1 (a + 1) = z + (a + 1) := hZ _ (by omega)
  have hK := C.2.2.2.2.2.2.2.1
  have hts : ∀ w ∈ tb, w.before args s = true := fun w hw => C.2.2.2.2.2.1 w (List.mem_cons_of_mem _ hw)
  obtain ⟨kA, comp, k1, k2, k3, k4⟩ := (hK.2.1 _ _ _ _ hs1).2
  have hcls := (hK.1.1 7 (RX7, TX7, 7) rfl).2
  have hcomp : comp = X.2.1.1 7 := Option.some.inj (k3.symm.trans hcls.1)
  subst hcomp
  obtain ⟨kC, hkC, -⟩ := hcls.2
  intro m
  induction m with
  | zero =>
    intro i H locs ls hi hP hS hl
    obtain rfl : i = 20 := by omega
    obtain ⟨p1, p2, p3, p4⟩ := hP
    refine lv_iload_n C.1 C.2.1 d_X4_init_15.1 rfl (lv_at hl 0 rfl) ?_
    refine lv_bipush (v := nI 20) C.1 C.2.1 d_X4_init_16.1 (by decide) ?_
    refine lv_icmp_ge (tgt := 40) C.1 C.2.1 d_X4_init_18.1 (by decide) (fun _ => ?_) (fun q => absurd (nI_le (Nat.le_refl 20) (by decide)) q)
    refine W.vret C.1 C.2.1 C.2.2.1 (fun t ht hW => ⟨rfl, by rw [ht, p1], wsR_P.mpr fun i hi => ?_, hS.F ht⟩) hS.2.2 d_X4_init_40.1 C.2.2.2.2.2.2.1
    rw [ht]
    rcases i with _ | _ | i
    · have hs0 : shL[a + 0]? = some (.inl 4) := (hsh 0 (by decide)).trans rfl
      rw [cE_o hs0]
      have e0 : (fsC 4).map (fV X.1 h (a + 0)) = [.ref (X.1 (a + 1)), .int (h.1 a 1), .int (h.1 a 2)] := rfl
      have z0 : h.1 a = fun _ => 0 := (hz 0 (by decide) (by decide)).1
      rw [e0, z0]
      exact p2
    · rw [cE_a hs1]
      show H[X.1 (a + (0 + 1))]? = _
      have e1 : arrV (X.2.2 (a + 1)) 20 (fun j => if j < 20 then .ref (X.1 (a + 2 + 6 * j)) else .null) = vp_cell (X.2.2 (a + 1)) (20, .inr (.inr (.inr (.inr (fun j => some (X.1 (a + 1 + 1 + 6 * j))))))) := by
        rw [vp_cell_q]
        refine arrV_eq fun j hj => ?_
        rw [if_pos hj]
        rfl
      rw [e1] at p3
      exact p3
    · have := p4 i (by omega)
      rw [show a + 2 + i = a + (i + 1 + 1) by omega] at this
      exact this
  | succ m ih =>
    intro i H locs ls hi hP hS hl
    obtain ⟨p1, p2, p3, p4⟩ := hP
    refine lv_iload_n C.1 C.2.1 d_X4_init_15.1 rfl (lv_at hl 0 rfl) ?_
    refine lv_bipush (v := nI 20) C.1 C.2.1 d_X4_init_16.1 (by decide) ?_
    refine lv_icmp_ge (tgt := 40) C.1 C.2.1 d_X4_init_18.1 (by decide) (fun q => absurd q (nI_ge (by omega) (by decide))) (fun _ => ?_)
    refine lv_aload_n C.1 C.2.1 d_X4_init_21.1 rfl (lv_at hl 1 rfl) ?_
    obtain ⟨C', T, N, hc, hk, hw, hdc, hfin⟩ := fq_X4_11
    have ok := cls_ok _ (List.mem_of_getElem? hc)
    have one : va_P X.2.1 cls [(X.1 a, .inr (4, [.ref (X.1 (a + 1)), .int 0, .int 0]))] H := fun k x hx => by
      cases k with
      | zero => cases hx; exact p2
      | succ k => cases hx
    refine va_get (D := X.2.1) (v := .ref (X.1 (a + 1))) C.1 C.2.1 hts ok.1 C.2.2.2.2.1 hK.1 one 0 (fs := [.ref (X.1 (a + 1)), .int 0, .int 0]) rfl hc 0 hk (hts _ hw) (fun _ h => by have h9 := h; rw [show ((C', T, N) : vw_C).2.1 = T from rfl, hdc] at h9; exact h9) rfl d_X4_init_22.1 ?_
    refine lv_iload_n C.1 C.2.1 d_X4_init_25.1 rfl (lv_at hl 0 rfl) ?_
    have hb6 : a + 2 + 6 * i + 6 ≤ nN := by omega
    refine w_new (a0 := a) (b := a + 2 + 6 * i) (nL := 2) (d' := d) (N' := 7) (ty0 := tyX7) C.1 C.2.1 C.2.2.2.1 hl.1 C.2.2.2.2.1 hts hK C.2.2.2.2.2.2.2.2.1 C.2.2.2.2.2.2.2.2.2 hO hZ (by rw [p1]; omega) hS (by omega) (kb_X7 d hd z h (a + 2 + 6 * i) (fun k hk => ?_) (fun k h1 h2 => by rw [show a + 2 + 6 * i + k = a + (2 + 6 * i + k) by omega]; exact hz _ (by omega) (by omega)) hb6) rfl hb6 rfl tyX7_ok df_X7 lc_X4_9 il_X7 mg_X7_init mj_X7_init (Or.inl ⟨_, ln_X4_17⟩) (Nat.le_refl _) (by show 64 * (d + 1) ≤ 64 * (d + 1); exact Nat.le_refl _) (by show 1 + 6 * i + 6 ≤ 121; omega) (by show 20 + 67 * i + 7 + 60 ≤ 1360; omega) (Nat.le_of_ble_eq_true rfl) d_X4_init_26.1 d_X4_init_29.1 d_X4_init_30.1 (fun H2 locs2 s1 s2 s3 s4 => ?_)
    · have hk6 : k < 6 := hk
      have : tp_X7[k]? = tp_X4[2 + 6 * i + k]? := by
        have key : ∀ i : Fin 20, ∀ k : Fin 6, tp_X7[k.1]? = tp_X4[2 + 6 * i.1 + k.1]? := by decide +kernel
        exact key ⟨i, by omega⟩ ⟨k, hk6⟩
      rw [this, show a + 2 + 6 * i + k = a + (2 + 6 * i + k) by omega]
      exact hsh _ (by show 2 + 6 * i + k < 122; omega)
    · have hxb : X.1 (a + 2 + 6 * i) = z + (a + 2 + 6 * i) := hZ _ (by omega)
      have arr2 : H2[X.1 (a + 1)]? = some (arrV (X.2.2 (a + 1)) 20 (fun j => if j < i then .ref (X.1 (a + 2 + 6 * j)) else .null)) := by rw [s2 _ (by omega)]; exact p3
      have hs7 : shL[a + 2 + 6 * i]? = some (.inl 7) := by
        have key : ∀ i, i < 20 → tp_X4[2 + 6 * i]? = some (.inl 7) := by decide +kernel
        rw [show a + 2 + 6 * i = a + (2 + 6 * i) by omega, hsh _ (by show 2 + 6 * i < 122; omega)]
        exact key i (by omega)
      have st0 := s3 0 (by omega)
      rw [Nat.add_zero, cE_o hs7] at st0
      obtain ⟨r', hr', cellV, g1, g2, g3, -⟩ := st0
      have hlt : i < 20 := by omega
      have hni : (nI i).toNatClampNeg = i := nI_clamp (by omega)
      refine W.aast (k := kA) (kv := kC) (kcomp := kC) (comp := X.2.1.1 7) (t := .object RX7) C.1 C.2.1 arr2 (fun q h => by cases h) (fun h => by cases h) k1 k2 rfl hkC ⟨nI_pos (by omega), by rw [hni, arrV_size]; exact hlt⟩ g1 (fun q h => by rw [g3] at h; cases h) (by rw [g2]; exact hkC) (by rw [g2]; exact va_assign hcls) rfl rfl d_X4_init_33.1 fun H3 e1 e2 e3 => ?_
      rw [hni, arrV_store] at e1
      refine lv_iinc (v := nI (i + 1)) (lv' := [(1, .int (nI (i + 1))), (0, .ref (X.1 a))]) C.1 C.2.1 d_X4_init_34.1 hl (k := 0) rfl (nI_1 i) (by decide) rfl (fun ls hl => ?_)
      refine lv_goto (tgt := 15) C.1 C.2.1 d_X4_init_37.1 (by show ((37 : Nat) : Int) + -22 = ((15 : Nat) : Int); decide) ?_
      have k5 := ih (i + 1) H3 (locs2 ++ [⟨X.1 (a + 1), (nI i).toNatClampNeg⟩]) ls (by omega) ⟨by rw [e2, s1]; omega, at_kept (at_kept p2 (s2 _ (by show X.1 a < _; omega))) (e3 _ (by show X.1 a ≠ _; omega)), ?_, fun k hk => ?_⟩ (s4.put e2 e3 (by show z + a ≤ _; omega)) hl
      · rw [show 1 + 6 * (i + 1) = 1 + 6 * i + 6 by omega, show 20 + 67 * (i + 1) = 20 + 67 * i + 7 + 60 by omega] at k5
        exact k5
      · rw [e1]
        congr 1
        refine arrV_eq fun j hj => ?_
        show (if j = i then Value.ref (X.1 (a + 2 + 6 * i)) else if j < i then Value.ref (X.1 (a + 2 + 6 * j)) else Value.null) = if j < i + 1 then Value.ref (X.1 (a + 2 + 6 * j)) else Value.null
        by_cases y : j = i
        · subst y; rw [if_pos rfl, if_pos (by omega)]
        · rw [if_neg y]
          by_cases y2 : j < i
          · rw [if_pos y2, if_pos (by omega)]
          · rw [if_neg y2, if_neg (by omega)]
      · have hxk : X.1 (a + 2 + k) = z + (a + 2 + k) := hZ _ (by omega)
        by_cases y : k < 6 * i
        · exact at_kept (at_kept (p4 k y) (s2 _ (by show X.1 (a + 2 + k) < _; omega))) (e3 _ (by show X.1 (a + 2 + k) ≠ _; omega))
        · have := s3 (k - 6 * i) (by omega)
          rw [show a + 2 + 6 * i + (k - 6 * i) = a + 2 + k by omega] at this
          exact at_kept this (e3 _ (by show X.1 (a + 2 + k) ≠ _; omega))
set_option maxHeartbeats 4000000 in
set_option maxRecDepth 100000 in
theorem kb_X4 (d : Nat) (hd : 2 ≤ d) (z : Nat) (h : HH) (a : Nat) (hsh : Seg a tp_X4) (hz : ∀ i, 0 ≤ i → i < 122 → zr h (a + i)) (ha : a + 122 ≤ nN) : Kb z h mi_X4_init 4 a 122 d 121 1360 := by
  obtain ⟨d, rfl⟩ : ∃ e, d = e + 1 := ⟨d - 1, by omega⟩
  have hs1 : shL[a + 1]? = some (.inr (4, 20, 8)) := (hsh 1 (by decide)).trans rfl
  refine cx_of (by decide) rfl (by decide) ?_ (h := h)
  refine cx_aload0 d_X4_init_0 rfl ?_
  refine cx_obj lo_X4 (by omega) (by decide) d_X4_init_1 ?_
  intro p l e s mth args below meth c X H locs ls C hO hZ hi hs hP hS hl
  have hl : lv_has ls 2 [(0, .ref (X.1 a))] := hl
  have hxa : X.1 a = z + a := hZ _ (by omega)
  have hx1 : X.1 (a + 1) = z + (a + 1) := hZ _ (by omega)
  have hK := C.2.2.2.2.2.2.2.1
  have hts : ∀ w ∈ tb, w.before args s = true := fun w hw => C.2.2.2.2.2.1 w (List.mem_cons_of_mem _ hw)
  obtain ⟨kA0, comp0, k1, k2, k3, k4⟩ := (hK.2.1 _ _ _ _ hs1).2
  refine lv_aload_n C.1 C.2.1 d_X4_init_4.1 rfl (lv_at hl 0 rfl) ?_
  refine lv_bipush (v := nI 20) C.1 C.2.1 d_X4_init_5.1 (by decide) ?_
  refine W.anew C.1 C.2.1 C.2.2.2.2.1 (hts _ lc_X4_9) hO.1.use rfl d_X4_init_7.1 rfl (by decide) (by decide) (by show 0 + 1 ≤ 121; omega) (by show 0 + (nI 20).toNatClampNeg ≤ 1360; decide) (fun cA kA comp e1 e2 e3 e4 => ?_)
  have ecA : cA = X.2.2 (a + 1) := Option.some.inj (e1.symm.trans k4)
  have hn20 : (nI 20).toNatClampNeg = 20 := by decide
  rw [hn20, arrV_new, ecA]
  obtain ⟨H1, eH1⟩ : ∃ H1 : Heap, H1 = H.push (arrV (X.2.2 (a + 1)) 20 (fun _ => .null)) := ⟨_, rfl⟩
  have hsz : H.size = z + a + 1 := hs
  have f1 : H1.size = z + a + 2 := by rw [eH1, Array.size_push, hsz]
  have f2 : H1[X.1 (a + 1)]? = some (arrV (X.2.2 (a + 1)) 20 (fun _ => .null)) := by rw [eH1, show X.1 (a + 1) = H.size by omega]; simp
  have f3 : ∀ q : Nat, q < H.size → H1[q]? = H[q]? := fun q hq => by rw [eH1, Array.getElem?_push, if_neg (Nat.ne_of_lt hq)]
  rw [← eH1, show (Value.ref H.size : Value) = .ref (X.1 (a + 1)) by rw [show H.size = X.1 (a + 1) by omega]]
  have hS1 : va_S (fun q => z + a ≤ q) s.heap H1 locs := ⟨Nat.le_trans hS.1 (by omega), fun x x1 x2 => by rw [f3 x (by have := hS.1; omega), hS.2.1 x x1 x2], hS.2.2⟩
  -- the field told, then the loop
  have rec1 := at_kept ((wB_P.mp hP).1) (f3 _ (by show X.1 a < _; omega))
  obtain ⟨C', T, N, hc, hk, hw, hdc, hfin⟩ := fq_X4_11
  have ok := cls_ok _ (List.mem_of_getElem? hc)
  obtain ⟨ty0, hty0⟩ := ok.2.1
  obtain ⟨r, h1, cell, q1, q2, q3, q4⟩ := rec1
  obtain rfl : r = (C', T, N) := Option.some.inj (h1.symm.trans hc)
  have hap := va_apart (own := RX4) hts ok.1 ty0 hty0 ok.2.2 hK.1 hc
  obtain ⟨hS9, hfc, kC, hkC, hkind⟩ := hK.1.1 4 _ hc
  obtain ⟨cf, kf9, fi, f, hi9, hsl⟩ := hS9 0 hk
  have hlay := hts _ (ok.1 _ (u_in_lay hk))
  have hst := (u_facts hfc hkC (u_lays hts ok.1 hk) hi9).1
  have hi8 : s.fieldFound? C' (T 0).2.1 (T 0).2.2.1 = some (cf, kf9, fi, f) := by
    have h9 := hi9
    rw [show ((C', T, N) : vw_C).2.1 = T from rfl, hdc] at h9
    exact h9
  have hcT : some (RX4, TX4, 3) = some (C', T, N) := hc
  have eT : T = TX4 ∧ C' = RX4 := by cases hcT; exact ⟨rfl, rfl⟩
  have hlt : f.slot < cell.slots.size := by rw [hsl]; exact k2_hasslot (q4 0 hk)
  unfold u_lay at hlay
  rw [if_pos (by rw [show ((C', T, N) : vw_C).2.1 = T from rfl]; exact hfin)] at hlay
  have hcf : mth.cls = cf := by
    obtain ⟨_, _, c', _, _, _, -, -, hf', -, -, -, hown2, -⟩ := Cond.laysFinal_spec hlay
    have e1 : c' = cf := by have := hi9.symm.trans hf'; simp at this; exact this.1.symm
    rw [show ((C', T, N) : vw_C).2.1 = T from rfl, hdc, eT.2] at hown2
    rw [← e1]; exact Option.some.inj (C.2.2.2.2.1.symm.trans hown2)
  have h6 := u_fits (v := .ref (X.1 (a + 1))) hfc hkC hkind (Or.inr hlay) hi9 (by rw [show ((C', T, N) : vw_C).2.1 = T from rfl, eT.1]; exact tyX4_ok 0 (by decide)) rfl rfl
  refine W.putFinK (v := .ref (X.1 (a + 1))) C.1 C.2.1 C.2.2.2.2.1 (hts _ hw) hi8 hst hcf hi (by rw [q2]; exact h6) q1 q3 hlt rfl rfl d_X4_init_10.1 fun H2 e5 e6 e7 => ?_
  rw [hsl] at e5
  have rec2 : va_at X.2.1 cls (X.1 a, .inr (4, [.ref (X.1 (a + 1)), .int 0, .int 0])) H2 := ⟨_, hc, t_OB.to (V := updV (vp_V ((nul 4).map (rl X.1))) 0 (.ref (X.1 (a + 1)))) ⟨_, e5, q2, q3, t_set q4 hap hk _⟩ (fun j _ => by rw [vp_updV_set (Nat.le_of_ble_eq_true rfl)]; rfl)⟩
  refine lv_iconst (v := nI 0) C.1 C.2.1 d_X4_init_13.1 (by decide) ?_
  refine lv_istore_n (lv' := [(1, .int (nI 0)), (0, .ref (X.1 a))]) C.1 C.2.1 d_X4_init_14.1 rfl hl (by decide) rfl (fun ls hl => ?_)
  refine past_L (by omega) hsh hz ha C hO hZ 20 0 H2 _ ls rfl ⟨by rw [e6, f1], rec2, ?_, fun k hk => absurd hk (Nat.not_lt_zero _)⟩ (hS1.put e6 e7 (by show z + a ≤ X.1 a; omega)) hl
  rw [e7 _ (by show X.1 (a + 1) ≠ X.1 a; omega), f2]
  congr 1
