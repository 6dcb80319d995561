/-! the law's own person: it catches -/
def hhL : List (Nat × Nat × Nat × Nat) := [(0, 10, 13, 13), (0, 10, 17, 15)]
def yLp : MethodName := ⟨"StairCountLaw", "person", "(LStairCount;II[J)I"⟩
def wsL : List Cond := Cond.codeWith yLp method_3_code 5 (some .int) hhL :: tb
theorem lp_w : Cond.codeWith yLp method_3_code 5 (some .int) hhL ∈ tb := tb_in 1101 (by decide +kernel) (by decide +kernel)
theorem lp_1 : Cond.classLink "StairCountLaw" 13 iobX ∈ tb := tb_in 1102 (by decide +kernel) (by decide +kernel)
theorem lp_2 : Cond.classLink "StairCountLaw" 15 nseX ∈ tb := tb_in 1103 (by decide +kernel) (by decide +kernel)
theorem lp_3 : Cond.methodLink "StairCountLaw" 7 mi_X10_person.1 ∈ tb := tb_in 1104 (by decide +kernel) (by decide +kernel)
theorem e_L_0 : decode method_3_code 0 = .ok (.aload_n 3, 1) := by decide +kernel
theorem e_L_1 : decode method_3_code 1 = .ok (.iconst 0, 1) := by decide +kernel
theorem e_L_2 : decode method_3_code 2 = .ok (.aload_n 0, 1) := by decide +kernel
theorem e_L_3 : decode method_3_code 3 = .ok (.iload_n 1, 1) := by decide +kernel
theorem e_L_4 : decode method_3_code 4 = .ok (.iload_n 2, 1) := by decide +kernel
theorem e_L_5 : decode method_3_code 5 = .ok (.invokevirtual 7, 3) := by decide +kernel
theorem e_L_8 : decode method_3_code 8 = .ok (.i2l, 1) := by decide +kernel
theorem e_L_9 : decode method_3_code 9 = .ok (.lastore, 1) := by decide +kernel
theorem e_L_10 : decode method_3_code 10 = .ok (.goto 11, 3) := by decide +kernel
theorem e_L_13 : decode method_3_code 13 = .ok (.astore 4, 2) := by decide +kernel
theorem e_L_15 : decode method_3_code 15 = .ok (.iconst 1, 1) := by decide +kernel
theorem e_L_16 : decode method_3_code 16 = .ok (.ireturn, 1) := by decide +kernel
theorem e_L_17 : decode method_3_code 17 = .ok (.astore 4, 2) := by decide +kernel
theorem e_L_19 : decode method_3_code 19 = .ok (.iconst 2, 1) := by decide +kernel
theorem e_L_20 : decode method_3_code 20 = .ok (.ireturn, 1) := by decide +kernel
theorem e_L_21 : decode method_3_code 21 = .ok (.iconst 0, 1) := by decide +kernel
theorem e_L_22 : decode method_3_code 22 = .ok (.ireturn, 1) := by decide +kernel
/-- the row that takes the answer -/
def oC (cA : ClassId) (f : Nat → Int64) : Cell := vp_cell cA (1, .inr (.inl f))
theorem wD_cons {X : CX} (hI : wI X) {h : HH} {o : Nat} {x : va_E} (ho : ¬ inR X o) : va_D (fun q => inR X q ∨ q = o) ((o, x) :: wsW X h) := by
  have key := wD X hI h
  refine ⟨fun i j p q hp hq e => ?_, fun k q hk => ?_⟩
  · cases i with
    | zero =>
      cases j with
      | zero => rfl
      | succ j =>
        exfalso
        cases hp
        have hq' : (wsW X h)[j]? = some q := hq
        have := key.2 j q hq'
        rw [← e] at this
        exact ho this
    | succ i =>
      have hp' : (wsW X h)[i]? = some p := hp
      cases j with
      | zero =>
        exfalso
        cases hq
        have := key.2 i p hp'
        rw [e] at this
        exact ho this
      | succ j =>
        have hq' : (wsW X h)[j]? = some q := hq
        exact congrArg (· + 1) (key.1 i j p q hp' hq' e)
  · cases k with
    | zero => cases hk; exact Or.inr rfl
    | succ k =>
      have hk' : (wsW X h)[k]? = some q := hk
      exact Or.inl (key.2 k q hk')
theorem wP_cons {X : CX} {h : HH} {H : Heap} {o : Nat} {cA : ClassId} {f : Nat → Int64} (hP : wP X h H) (ho : H[o]? = some (oC cA f)) : va_P X.2.1 cls ((o, .inl (cA, 1, .inr (.inl f))) :: wsW X h) H := by
  intro k q hk
  cases k with
  | zero => cases hk; exact ho
  | succ k =>
    have hk' : (wsW X h)[k]? = some q := hk
    exact hP k q hk'
def rmLp : Room := { frames := 13, cells := 1, slots := 6, locals := 832 }
def QL (X : CX) (h : HH) (o : Nat) (cA : ClassId) (f : Nat → Int64) (k : Nat) (v : Int32) : Array Value → State → Outcome → State → Prop := fun _ st oc t => oc = .returned (some (.int (nI k))) ∧ wP X h t.heap ∧ t.heap[o]? = some (oC cA (if k = 0 then vp_updL f (0 : Int32).toNatClampNeg v.toInt64 else f)) ∧ va_F (fun q => inR X q ∨ q = o) st t
theorem PL_blind {X : CX} {h : HH} {as : List Value} : FrameBlind (va_Pc as (fun U => wP X h U.heap ∧ wK X U ∧ wS X U U.heap ∧ wT X U U.heap)) := by
  intro a U g mk q
  obtain ⟨q0, q1, q2, q3, q4⟩ := q
  exact ⟨q0, q1, wK_blind q2, wS_blind q3, wT_blind q4⟩
set_option maxHeartbeats 4000000 in
set_option maxRecDepth 100000 in
theorem lp_person (l : Launch) (hl9 : l.stackTraces = false) (X : CX) (hI : wI X) (o : Nat) (cA : ClassId) (f : Nat → Int64) (ho : ¬ inR X o) (a0 a1 : Int32) (h : HH) (k : Nat) (v : Int32) (hk : PP a0 a1 h k v) : Met l yLp wsL rmLp (va_Pc [.ref (X.1 0), .int a0, .int a1, .ref o] (fun U => wP X h U.heap ∧ wK X U ∧ wS X U U.heap ∧ wT X U U.heap ∧ U.heap[o]? = some (oC cA f) ∧ va_K X.2.1 cls [(cA, .long)] U)) (QL X h o cA f k v) 1 6 (fun q => inR X q ∨ q = o) := by
  refine va_MetW (cc := method_3_code) (maxL := 5) (ret := some .int) (hh := hhL) (by decide) rfl ?_
  intro p e s m args below meth c s₁ B hml hv
  obtain ⟨rfl, hP, hK, hSt, hTt, ho1, hKo⟩ := hv
  have hx := B.exec
  have hb := B.bytes
  have hr := B.returns
  have hlocks := B.notSynchronized
  have hown : s.vm.findClass "StairCountLaw" = some m.cls := findClass_of_methodNamed B.named
  have hts : ∀ w ∈ wsL, w.before [.ref (X.1 0), .int a0, .int a1, .ref o].toArray s = true := atoms_spec (ws := wsL) B.pre
  have tw : ∀ w ∈ tb, w.before [.ref (X.1 0), .int a0, .int a1, .ref o].toArray s = true := fun w hw => hts w (List.mem_cons_of_mem _ hw)
  have hTab : c.exceptionTable.toList = tableOf hhL := vx_table (x := yLp) B (hts _ List.mem_cons_self)
  have hl0 := lv_entry ([.ref (X.1 0), .int a0, .int a1, .ref o] : List Value) (n := 5) (Nat.le_of_ble_eq_true rfl)
  rw [lg_entry_eq]
  generalize (lg_sl ([.ref (X.1 0), .int a0, .int a1, .ref o] : List Value) ++ List.replicate (5 - (lg_sl ([.ref (X.1 0), .int a0, .int a1, .ref o] : List Value)).length) Slot.unset).toArray = ls at hl0 ⊢
  have hl : lv_has ls 5 [(0, .ref (X.1 0)), (1, .int a0), (2, .int a1), (3, .ref o)] := hl0
  have hm := mv_X10_person
  have hlt : o < s.heap.size := (Array.getElem?_eq_some_iff.mp ho1).1
  refine lv_aload_n hx hb e_L_0 rfl (lv_at hl 3 rfl) ?_
  refine lv_iconst (v := 0) hx hb e_L_1 (by decide) ?_
  refine lv_aload_n hx hb e_L_2 rfl (lv_at hl 0 rfl) ?_
  refine lv_iload_n hx hb e_L_3 rfl (lv_at hl 1 rfl) ?_
  refine lv_iload_n hx hb e_L_4 rfl (lv_at hl 2 rfl) ?_
  obtain ⟨T0, N0, hc⟩ := hm.2.1
  have hrc := va_recv hK.1 hP hc (ws_o X h sh_0)
  have run := vx_runV (As := [.int a0, .int a1]) (rest := [.int 0, .ref o]) (b := X.1 0) (H := s.heap) (locs := []) (cells := 0) (slots := 0) (below := below) (meth := meth) (e := e) (R := (headSpec wsL rmLp).room) (g := F0 m 5 ls [.int a1, .int a0, .ref (X.1 0), .int 0, .ref o]) (nL := 5) (Ts := wsL) (own := "StairCountLaw") ⟨hx, hb, hml, hown, hts⟩ (vp_X10_person l hl9 X hI a0 a1 h k v hk) ⟨(callB_of 2 hts (good_M (fun w hw => List.mem_cons_of_mem _ hw) mi_X10_person hm.1.2.2.1) rfl rfl rfl (tw _ hm.1.1) (tw _ lp_3) hm.1.2.1 ⟨by decide, by decide⟩), tw _ hm.2.2.1, tw _ hm.2.2.2⟩ ⟨PL_blind, hrc, fun U hU hW => ⟨rfl, by rw [hU]; exact hP, wK_warm hW hK, by rw [hU]; exact wS_warm hW hSt, by rw [hU]; exact wT_warm hW hTt⟩⟩ rfl rfl hl.1 rfl (lv_room (Nat.le_of_ble_eq_true rfl)) e_L_5 ⟨by decide, by decide⟩
  intro T hT Xs
  rcases run T hT Xs with ⟨v', st0, t, T', L, h0, X', hL, e1, e2, hq, hgo⟩ | ⟨q, st0, t, T', L, E, ce, h0, X', hL, e1, e2, hxc, hce, hcv, hcl, hst⟩
  · obtain ⟨rfl, hv, hP1, hF1⟩ := hq
    cases hv
    have hS1 : va_S (fun q => inR X q ∨ q = o) s.heap T'.heap ([] ++ L) := by rw [e1]; exact wz_after (A1 := inR X) va_S.rf (fun q hq => Or.inl hq) h0 hF1 hL
    have ho2 : T'.heap[o]? = some (oC cA f) := by rw [e1, hF1.2 o (by rw [h0]; exact hlt) ho, h0]; exact ho1
    have hP2 : wP X h T'.heap := by rw [e1]; exact hP1
    have fin : W p l e (headSpec wsL rmLp).room s m [.ref (X.1 0), .int a0, .int a1, .ref o].toArray below meth c T'.heap ([] ++ L) (0 + 1) (0 + 6) (MQ below (QL X h o cA f 0 v) [.ref (X.1 0), .int a0, .int a1, .ref o].toArray s (0 + 1) (0 + 6) (fun q => inR X q ∨ q = o)) (F0 m 8 ls [.int v, .int 0, .ref o]) := by
      refine lv_i2l hx hb e_L_8 rfl ?_
      refine va_last hx hb hKo (wP_cons hP2 ho2) (wD_cons hI ho) hS1 0 0 rfl rfl (by unfold vp_in; decide) e_L_9 (fun H2 locs2 hP3 _ hS2 => ?_)
      refine lv_goto (tgt := 21) hx hb e_L_10 (by decide) ?_
      refine lv_iconst (v := 0) hx hb e_L_21 (by decide) ?_
      exact W.iret hx hb hr (fun t ht hW => ⟨rfl, by rw [ht]; exact fun k q hk => hP3 (k + 1) q hk, by rw [ht, if_pos rfl]; exact hP3 0 _ rfl, hS2.F ht⟩) hS2.2.2 e_L_22 hlocks
    obtain ⟨t2, a2, b2⟩ := fin T' rfl X'
    exact ⟨t2, hgo _ a2, b2⟩
  · obtain ⟨hcase, hP1, hF1⟩ := hxc
    have hS1 : va_S (fun q => inR X q ∨ q = o) s.heap T'.heap ([] ++ L) := by rw [e1]; exact wz_after (A1 := inR X) va_S.rf (fun q hq => Or.inl hq) h0 hF1 hL
    have ho2 : T'.heap[o]? = some (oC cA f) := by rw [e1, hF1.2 o (by rw [h0]; exact hlt) ho, h0]; exact ho1
    have hP2 : wP X h T'.heap := by rw [e1]; exact hP1
    have hce2 : T'.heap[q]? = some ce := by rw [e1]; exact hce
    have fin : vx_W p l e (headSpec wsL rmLp).room s m [.ref (X.1 0), .int a0, .int a1, .ref o].toArray below meth c T'.heap ([] ++ L) (0 + 1) (0 + 6) (MQ below (QL X h o cA f k v) [.ref (X.1 0), .int a0, .int a1, .ref o].toArray s (0 + 1) (0 + 6) (fun q => inR X q ∨ q = o)) (F0 m 5 ls [.int 0, .ref o]) q := by
      rcases hcase with ⟨rfl, rfl⟩ | ⟨rfl, rfl⟩
      · refine vx_catch (own := "StairCountLaw") (name := iobX) (E := iobX) hown [] ⟨0, 10, 13, 13⟩ [⟨0, 10, 17, 15⟩] (by rw [hTab]; rfl) (fun z hz => nomatch hz) (by decide) (by decide) (tw _ lp_1) (va_Nw.use rfl hTt.2.2.1) hce2 hcv hcl ?_
        refine lv_astore (lv' := [(4, .ref q), (0, .ref (X.1 0)), (1, .int a0), (2, .int a1), (3, .ref o)]) hx hb e_L_13 hl (by decide) rfl (fun ls hl => ?_)
        refine lv_iconst (v := 1) hx hb e_L_15 (by decide) ?_
        exact W.iret hx hb hr (fun t ht hW => ⟨rfl, by rw [ht]; exact hP2, by rw [ht, if_neg (by decide)]; exact ho2, hS1.F ht⟩) hS1.2.2 e_L_16 hlocks
      · refine vx_catch (own := "StairCountLaw") (name := nseX) (E := nseX) hown [⟨0, 10, 13, 13⟩] ⟨0, 10, 17, 15⟩ [] (by rw [hTab]; rfl) (fun z hz => by
          rcases List.mem_cons.mp hz with rfl | hz
          · exact Or.inr ⟨by decide, iobX, tw _ lp_1, hTt.2.2.2.2.1⟩
          · cases hz) (by decide) (by decide) (tw _ lp_2) (va_Nw.use rfl hTt.2.2.2.1) hce2 hcv hcl ?_
        refine lv_astore (lv' := [(4, .ref q), (0, .ref (X.1 0)), (1, .int a0), (2, .int a1), (3, .ref o)]) hx hb e_L_17 hl (by decide) rfl (fun ls hl => ?_)
        refine lv_iconst (v := 2) hx hb e_L_19 (by decide) ?_
        exact W.iret hx hb hr (fun t ht hW => ⟨rfl, by rw [ht]; exact hP2, by rw [ht, if_neg (by decide)]; exact ho2, hS1.F ht⟩) hS1.2.2 e_L_20 hlocks
    obtain ⟨t2, a2, b2⟩ := fin T' rfl X'
    exact ⟨t2, hst.trans a2, b2⟩
