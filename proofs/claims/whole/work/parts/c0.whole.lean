/-! the law from its entry -/
theorem dl_0 : decode code 0 = .ok (.new 8, 3) := by decide +kernel
theorem dl_3 : decode code 3 = .ok (.dup, 1) := by decide +kernel
theorem dl_4 : decode code 4 = .ok (.invokespecial 17, 3) := by decide +kernel
theorem dl_7 : decode code 7 = .ok (.astore_n 1, 1) := by decide +kernel
theorem dl_8 : decode code 8 = .ok (.new 18, 3) := by decide +kernel
theorem dl_11 : decode code 11 = .ok (.dup, 1) := by decide +kernel
theorem dl_12 : decode code 12 = .ok (.invokespecial 20, 3) := by decide +kernel
theorem dl_15 : decode code 15 = .ok (.astore_n 2, 1) := by decide +kernel
theorem dl_16 : decode code 16 = .ok (.iconst 1, 1) := by decide +kernel
theorem dl_17 : decode code 17 = .ok (.newarray .long, 2) := by decide +kernel
theorem dl_19 : decode code 19 = .ok (.astore_n 3, 1) := by decide +kernel
theorem dl_20 : decode code 20 = .ok (.iconst 0, 1) := by decide +kernel
theorem dl_21 : decode code 21 = .ok (.istore 4, 2) := by decide +kernel
set_option maxHeartbeats 4000000 in
set_option maxRecDepth 100000 in
theorem law_rest {p : Program} {l : Launch} {e : Env} {s : State} {m : MethodId} {below : List Frame} {meth : Method} {c : Code} {b L : Nat} {xs : Nat → Int32} {X : CX} (C0 : lw_At p s m meth c b L xs) (hl9 : l.stackTraces = false) (hL : L ≤ 3072) (hXZ : ∀ i, i < nN → X.1 i = s.heap.size + i) (hi1 : wI X) (hA : ∀ q, inR X q → s.heap.size ≤ q) (hK : wK X s) (hZ : wS X s s.heap) (hT : wT X s s.heap) {h1 : HH} (hR : Rel h1) {H : Heap} {locs : List Loc} {ls : Array Slot} (hP : wP X h1 H) (hS : va_S (lA s) s.heap H locs) (hl : lv_has ls 7 [(0, .ref b), (1, .ref (X.1 0)), (2, .ref (X.1 255))]) : W p l e room_1 s m #[Value.ref b] below meth c H locs 295 10448 (lw_Z below #[Value.ref b] s) (F0 m 16 ls []) := by
  obtain ⟨hx, hb, hr, hml, hown, hts, hX, hbl, hlocks, hgv⟩ := id C0
  refine lv_iconst (n := 1) (v := 1) hx hb dl_16 (by decide) ?_
  refine va_newaK (atype := .long) (N := 1) hx hb (hts _ w_arrs.2.2.2.1) rfl dl_17 (n := 1) (rest := []) rfl (by decide) (by decide) (by decide) (by decide) (by decide) (h := H.size) rfl (fun H1 cA e1 e2 e3 e4 e5 => ?_)
  have hnin : ¬ inR X H.size := by
    rintro ⟨k, hk, hq⟩
    have := wP_lt hP hk
    omega
  have hC : LC p l s m meth c b L xs X H.size cA := ⟨C0, hl9, hL, hi1, hA, ⟨hnin, hS.1⟩, hK, hZ, hT, ⟨hK.1.1, fun k q hk => by
    cases k with
    | zero => cases hk; exact ⟨e4, e5⟩
    | succ k => cases hk⟩⟩
  have hP1 : wP X h1 H1 := wP_kept hP e3
  have hS1 : va_S (lA s) s.heap H1 locs := ⟨Nat.le_trans hS.1 (by rw [e2]; omega), fun q q1 q2 => by rw [e3 q (Nat.lt_of_lt_of_le q1 hS.1)]; exact hS.2.1 q q1 q2, hS.2.2⟩
  have ho : H1[H.size]? = some (oC cA (fun _ => 0)) := e1
  refine lv_astore_n (k := 3) (lv' := [(3, .ref H.size), (0, .ref b), (1, .ref (X.1 0)), (2, .ref (X.1 255))]) hx hb dl_19 rfl hl (by decide) rfl (fun ls hl => ?_)
  refine lv_iconst (n := 0) (v := 0) hx hb dl_20 (by decide) ?_
  refine lv_istore (i := 4) (lv' := [(4, .int 0), (3, .ref H.size), (0, .ref b), (1, .ref (X.1 0)), (2, .ref (X.1 255))]) hx hb dl_21 hl (by decide) rfl (fun ls hl => ?_)
  exact lx_loop hC 296 10449 (by decide) (by decide) (L + 1) 0 h1 _ (by omega) (Nat.zero_le _) hR H1 locs ls hP1 ho hS1 (lv_sub hl [2, 3, 4, 1, 0] rfl)
theorem law_w : Cond.classLink "StairCountLaw" 8 RX10 ∈ tb ∧ Cond.methodLink "StairCountLaw" 17 mi_X10_init.1 ∈ tb ∧ Cond.classLink "StairCountLaw" 18 RX11 ∈ tb ∧ Cond.methodLink "StairCountLaw" 20 mi_X11_init.1 ∈ tb := ⟨tb_in 26 (by decide +kernel) (by decide +kernel), tb_in 28 (by decide +kernel) (by decide +kernel), tb_in 1190 (by decide +kernel) (by decide +kernel), tb_in 1192 (by decide +kernel) (by decide +kernel)⟩
set_option maxHeartbeats 4000000 in
set_option maxRecDepth 100000 in
/-- the reference, made behind the class -/
theorem law_model {p : Program} {l : Launch} {e : Env} {s : State} {m : MethodId} {below : List Frame} {meth : Method} {c : Code} {b L : Nat} {xs : Nat → Int32} {X : CX} (C0 : lw_At p s m meth c b L xs) (hl9 : l.stackTraces = false) (hL : L ≤ 3072) (hXZ : ∀ i, i < nN → X.1 i = s.heap.size + i) (hi1 : wI X) (hA : ∀ q, inR X q → s.heap.size ≤ q) (hK : wK X s) (hZ : wS X s s.heap) (hT : wT X s s.heap) {H : Heap} {locs : List Loc} {ls : Array Slot} (hsz : H.size = s.heap.size + 255) (hP : va_P X.2.1 cls (wsR X hI 0 255) H) (hS : va_S (lA s) s.heap H locs) (hl : lv_has ls 7 [(0, .ref b), (1, .ref (X.1 0))]) : W p l e room_1 s m #[Value.ref b] below meth c H locs 255 6591 (lw_Z below #[Value.ref b] s) (F0 m 8 ls []) := by
  obtain ⟨hx, hb, hr, hml, hown, hts, hX, hbl, hlocks, hgv⟩ := id C0
  have tw : ∀ w ∈ tb, w.before #[Value.ref b] s = true := fun w hw => hts w (tb_lw w hw)
  obtain ⟨h1, hE, hR⟩ := rel_first
  have hq : ∀ q, q < s.heap.size → ¬ inR X q → ¬ lA s q := fun q q1 _ => Nat.not_le.mpr q1
  have hc' : cls[11]? = some (RX11, TX11, 65) := rfl
  have hKn := hK.1.1 11 _ hc'
  have x255 : X.1 255 = s.heap.size + 255 := hXZ 255 (by decide)
  refine W.newcK hx hb hown (tw _ law_w.2.2.1) (tw _ il_X11) (tw _ mg_X11_init.1) rfl dl_8 (by decide) (by decide) hKn.2.1 (h := X.1 255) (by rw [hsz, x255]) (fun H1 kC hkC e1 z1 o1 => ?_)
  refine lv_dup (va := .ref (X.1 255)) (pc := 8 + 3) (ls := ls) (rest := []) hx hb dl_11 rfl ?_
  have new : va_at X.2.1 cls (X.1 255, .inr (11, nul 11)) H1 := ⟨_, hc', (u_born tyX11 tw inX11 hKn hkC e1 tyX11_ok).to df_X11⟩
  have one : va_P X.2.1 cls [(X.1 255, .inr (11, nul 11))] H1 := fun k x hx => by
    cases k with
    | zero => cases hx; exact new
    | succ k => cases hx
  have hP1 : va_P X.2.1 cls (wsR X hI 0 255) H1 := va_P.kept hP (fun k x hx => o1 x.1 (by
    obtain ⟨hk, rfl⟩ := wsR_of hx
    show X.1 (0 + k) < X.1 255
    rw [hXZ _ (by show 0 + k < 295; omega), x255]
    omega))
  have hS1 : va_S (lA s) s.heap H1 locs := ⟨Nat.le_trans hS.1 (by rw [z1, x255, hsz]; omega), fun q q1 q2 => by rw [o1 q (by rw [x255]; omega)]; exact hS.2.1 q q1 q2, hS.2.2⟩
  have hpre : PreS s H1 (va_Pc [.ref (X.1 255)] (fun U => U.heap.size = s.heap.size + 256 ∧ va_P X.2.1 cls [(X.1 255, .inr (11, nul 11))] U.heap ∧ va_P X.2.1 cls (wsR X hI 0 255) U.heap ∧ wK X U ∧ wS X U U.heap)) (.ref (X.1 255) :: []) := ⟨fun a U g mk q => ⟨q.1, q.2.1, q.2.2.1, q.2.2.2.1, wK_blind q.2.2.2.2.1, wS_blind q.2.2.2.2.2⟩, fun U hU hW => ⟨rfl, by rw [hU, z1, x255], by rw [hU]; exact one, by rw [hU]; exact hP1, wK_warm hW hK, by rw [hU]; exact wS_warm hW (wS_kept hZ (fun a h1 h2 => hS1.2.1 a h1 (hq a h1 h2)))⟩⟩
  have run := va_runI (e := e) (below := below) (meth := meth) (R := room_1) (H := H1) (locs := locs) (cells := 255 + 1) (slots := 6591 + 65) (As := []) (rest := [.ref (X.1 255)]) (b := X.1 255) (bytes := mi_X11_init.2.1) (maxL := mi_X11_init.2.2.1) (g := F0 m 12 ls [.ref (X.1 255), .ref (X.1 255)]) (nL := 7) (Ts := lw_tbl) (own := "StairCountLaw") ⟨hx, hb, hml, hown, hts⟩ (kb_X11 hE 100 (by decide) s.heap.size l X hi1 hXZ) ⟨callB_of 0 hts (good_M tb_lw mi_X11_init mg_X11_init.2.2.1) rfl rfl rfl (tw _ mg_X11_init.1) (tw _ law_w.2.2.2) mg_X11_init.2.1 ⟨by decide, by decide⟩, rfl, tw _ mj_X11_init.2.2.2⟩ hpre rfl rfl hl.1 rfl (lv_room (Nat.le_of_ble_eq_true rfl)) dl_12 ⟨by decide, by decide⟩
  intro T hT0 Xs
  obtain ⟨v', st0, t, T', L', h0, X', hL', e1', e2', ⟨hv, hP9, hF1⟩, hgo⟩ := run T hT0 Xs
  cases hv
  have hS2 : va_S (lA s) s.heap T'.heap (locs ++ L') := by rw [e1']; exact wz_after (A1 := inR X) hS1 hA h0 hF1 hL'
  have hP2 : wP X h1 T'.heap := by rw [e1']; exact hP9
  have fin : W p l e room_1 s m #[Value.ref b] below meth c T'.heap (locs ++ L') (255 + 1 + 39) (6591 + 65 + 3792) (lw_Z below #[Value.ref b] s) (F0 m 15 ls [.ref (X.1 255)]) := by
    refine lv_astore_n (k := 2) (lv' := [(2, .ref (X.1 255)), (0, .ref b), (1, .ref (X.1 0))]) hx hb dl_15 rfl hl (by decide) rfl (fun ls hl => ?_)
    exact law_rest C0 hl9 hL hXZ hi1 hA hK hZ hT hR hP2 hS2 (lv_sub hl [1, 2, 0] rfl)
  obtain ⟨t2, a2, b2⟩ := fin T' rfl X'
  exact ⟨t2, hgo _ a2, b2⟩
set_option maxHeartbeats 4000000 in
set_option maxRecDepth 100000 in
/-- from the entry, for every script of at most 3072 ints, the law comes to its end with true -/
theorem whole_start {p : Program} {e : Env} {s : State} {m : MethodId} {below : List Frame} {meth : Method} {c : Code} (l : Launch) (hflags : l.flags = flags0) {b L : Nat} {xs : Nat → Int32} (hL : L ≤ 3072) (C0 : lw_At p s m meth c b L xs) : W p l e room_1 s m #[Value.ref b] below meth c s.heap [] 0 0 (lw_Z below #[Value.ref b] s) (entryFrame m ([Value.ref b] : List Value).toArray 7) := by
  obtain ⟨hx, hb, hr, hml, hown, hts, hX, hbl, hlocks, hgv⟩ := id C0
  have tw : ∀ w ∈ tb, w.before #[Value.ref b] s = true := fun w hw => hts w (tb_lw w hw)
  obtain ⟨X, hXZ, hi1, hA, hK, hZ, hT, hO⟩ := given_X hts hgv
  have hl9 : l.stackTraces = false := by unfold Launch.stackTraces; rw [hflags]; decide +kernel
  have hl0 := lv_entry ([.ref b] : List Value) (n := 7) (Nat.le_of_ble_eq_true rfl)
  rw [lg_entry_eq]
  generalize (lg_sl ([.ref b] : List Value) ++ List.replicate (7 - (lg_sl ([.ref b] : List Value)).length) Slot.unset).toArray = ls at hl0 ⊢
  have hl : lv_has ls 7 [(0, .ref b)] := hl0
  have hc' : cls[10]? = some (RX10, TX10, 13) := rfl
  have hKn := hK.1.1 10 _ hc'
  have x0 : X.1 0 = s.heap.size := hXZ 0 (by decide)
  refine W.newcK hx hb hown (tw _ law_w.1) (tw _ il_X10) (tw _ mg_X10_init.1) rfl dl_0 (by decide) (by decide) hKn.2.1 (h := X.1 0) x0.symm (fun H1 kC hkC e1 z1 o1 => ?_)
  refine lv_dup (va := .ref (X.1 0)) (pc := 0 + 3) (ls := ls) (rest := []) hx hb dl_3 rfl ?_
  have new : va_at X.2.1 cls (X.1 0, .inr (10, nul 10)) H1 := ⟨_, hc', (u_born tyX10 tw inX10 hKn hkC e1 tyX10_ok).to df_X10⟩
  have one : va_P X.2.1 cls [(X.1 0, .inr (10, nul 10))] H1 := fun k x hx => by
    cases k with
    | zero => cases hx; exact new
    | succ k => cases hx
  have hS1 : va_S (lA s) s.heap H1 [] := ⟨by rw [z1, x0]; omega, fun q q1 q2 => o1 q (by rw [x0]; exact q1), fun q hq => nomatch hq⟩
  have hpre : PreS s H1 (va_Pc [.ref (X.1 0)] (fun U => U.heap.size = s.heap.size + 0 + 1 ∧ va_P X.2.1 cls [(X.1 0, .inr (10, nul 10))] U.heap ∧ wK X U ∧ wS X U U.heap ∧ wO U)) (.ref (X.1 0) :: []) := ⟨fun a U g mk q => ⟨q.1, q.2.1, q.2.2.1, wK_blind q.2.2.2.1, wS_blind q.2.2.2.2.1, wO_moved (u := U) (U := U.calling g mk a) (Vm.Alike.refl U.vm) q.2.2.2.2.2⟩, fun U hU hW => ⟨rfl, by rw [hU, z1, x0], by rw [hU]; exact one, wK_warm hW hK, by rw [hU]; exact wS_warm hW (wS_kept hZ (fun a h1 h2 => hS1.2.1 a h1 (Nat.not_le.mpr h1))), wO_moved hW.alike hO⟩⟩
  have run := va_runI (e := e) (below := below) (meth := meth) (R := room_1) (H := H1) (locs := []) (cells := 0 + 1) (slots := 0 + 13) (As := []) (rest := [.ref (X.1 0)]) (b := X.1 0) (bytes := mi_X10_init.2.1) (maxL := mi_X10_init.2.2.1) (g := F0 m 4 ls [.ref (X.1 0), .ref (X.1 0)]) (nL := 7) (Ts := lw_tbl) (own := "StairCountLaw") ⟨hx, hb, hml, hown, hts⟩ (kb_X10 100 (by decide) s.heap.size l X hi1 hXZ) ⟨callB_of 0 hts (good_M tb_lw mi_X10_init mg_X10_init.2.2.1) rfl rfl rfl (tw _ mg_X10_init.1) (tw _ law_w.2.1) mg_X10_init.2.1 ⟨by decide, by decide⟩, rfl, tw _ mj_X10_init.2.2.2⟩ hpre rfl rfl hl.1 rfl (lv_room (Nat.le_of_ble_eq_true rfl)) dl_4 ⟨by decide, by decide⟩
  intro T hT0 Xs
  obtain ⟨v', st0, t, T', L', h0, X', hL', e1', e2', ⟨hv, hsz, hPw, hF1⟩, hgo⟩ := run T hT0 Xs
  cases hv
  have hS2 : va_S (lA s) s.heap T'.heap ([] ++ L') := by rw [e1']; exact wz_after (A1 := fun q => s.heap.size + 0 ≤ q) hS1 (fun q hq => hq) h0 hF1 hL'
  have fin : W p l e room_1 s m #[Value.ref b] below meth c T'.heap ([] ++ L') (0 + 1 + 254) (0 + 13 + 6578) (lw_Z below #[Value.ref b] s) (F0 m 7 ls [.ref (X.1 0)]) := by
    refine lv_astore_n (k := 1) (lv' := [(1, .ref (X.1 0)), (0, .ref b)]) hx hb dl_7 rfl hl (by decide) rfl (fun ls hl => ?_)
    exact law_model C0 hl9 hL hXZ hi1 hA hK hZ hT (by rw [e1', hsz]) (by rw [e1']; exact hPw) hS2 (lv_sub hl [1, 0] rfl)
  obtain ⟨t2, a2, b2⟩ := fin T' rfl X'
  exact ⟨t2, hgo _ a2, b2⟩
