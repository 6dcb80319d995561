/-! the law's body: the cases of person and note -/
def cA (pc w : Nat) : Bool := decide (decode code pc = .ok (.aload_n 0, 1)) && (decide (decode code (pc + 1) = .ok (.iload 4, 2)) && (decide (decode code (pc + 3) = .ok (.iconst (w : Int), 1)) && (decide (decode code (pc + 4) = .ok (.iadd, 1)) && decide (decode code (pc + 5) = .ok (.iaload, 1)))))
theorem dA_of {pc w : Nat} (h : cA pc w = true) : dA pc w := by
  simp only [cA, Bool.and_eq_true, decide_eq_true_eq] at h
  exact h
theorem dAs_of {pc i n : Nat} (h : (List.range n).all (fun t => cA (pc + 6 * t) (i + t)) = true) : ∀ t, t < n → dA (pc + 6 * t) (i + t) := fun t ht => dA_of (List.all_eq_true.mp h t (List.mem_range.mpr ht))
section LXP
variable {p : Program} {l : Launch} {e : Env} {s : State} {m : MethodId} {below : List Frame} {meth : Method} {c : Code} {b L o : Nat} {xs : Nat → Int32} {X : CX} {cA : ClassId} {Q : State → Prop} {cells slots pc j : Nat} {lc : List (Nat × Value)} {st : List Value} {h : HH} {f : Nat → Int64}
theorem lx_wide {c2 s2 : Nat} (h1 : cells ≤ c2) (h2 : slots ≤ s2) (kk : Lx p l e s m below meth c b X o cA Q c2 s2 pc lc st h f) : Lx p l e s m below meth c b X o cA Q cells slots pc lc st h f := by
  intro H locs ls hP ho hS hl
  exact W.widen h1 h2 (kk H locs ls hP ho hS hl)
theorem lx_st {st' : List Value} (hst : st = st') (kk : Lx p l e s m below meth c b X o cA Q cells slots pc lc st' h f) : Lx p l e s m below meth c b X o cA Q cells slots pc lc st h f := by
  subst hst
  exact kk
theorem lx_sub {lc' : List (Nat × Value)} (ks : List Nat) (hk : lv_pick lc ks = lc') (kk : Lx p l e s m below meth c b X o cA Q cells slots pc lc' st h f) : Lx p l e s m below meth c b X o cA Q cells slots pc lc st h f := by
  intro H locs ls hP ho hS hl
  exact kk H locs ls hP ho hS (lv_sub hl ks hk)
theorem lx_istore (C : LC p l s m meth c b L xs X o cA) {i : Nat} {x : Int32} {lc' : List (Nat × Value)} (hd : decode code pc = .ok (.istore i, 2)) (hi : i < 7) (hk : (i, Value.int x) :: lc.filter (fun q => !(q.1 == i) && !(q.1 + 1 == i && q.2.category == 2)) = lc') (kk : Lx p l e s m below meth c b X o cA Q cells slots (pc + 2) lc' st h f) : Lx p l e s m below meth c b X o cA Q cells slots pc lc (.int x :: st) h f := by
  intro H locs ls hP ho hS hl
  exact lv_istore C.1.1 C.1.2.1 hd hl hi hk (fun ls' hl' => kk H locs ls' hP ho hS hl')
theorem lx_iload (C : LC p l s m meth c b L xs X o cA) {i q0 : Nat} {x : Int32} (hk : lc[q0]? = some (i, .int x)) (hd : decode code pc = .ok (.iload i, 2)) (kk : Lx p l e s m below meth c b X o cA Q cells slots (pc + 2) lc (.int x :: st) h f) : Lx p l e s m below meth c b X o cA Q cells slots pc lc st h f := by
  intro H locs ls hP ho hS hl
  exact lv_iload C.1.1 C.1.2.1 hd (lv_at hl q0 hk) (kk H locs ls hP ho hS hl)
theorem lx_goto (C : LC p l s m meth c b L xs X o cA) {off : Int} {t : Nat} (hd : decode code pc = .ok (.goto off, 3)) (ht : (pc : Int) + off = (t : Int)) (kk : Lx p l e s m below meth c b X o cA Q cells slots t lc st h f) : Lx p l e s m below meth c b X o cA Q cells slots pc lc st h f := by
  intro H locs ls hP ho hS hl
  exact lv_goto C.1.1 C.1.2.1 hd ht (kk H locs ls hP ho hS hl)
theorem lx_ifne (C : LC p l s m meth c b L xs X o cA) {x : Int32} {off : Int} {t : Nat} (hd : decode code pc = .ok (.ifCond .ne off, 3)) (ht : (pc : Int) + off = (t : Int)) (kt : ¬ x = 0 → Lx p l e s m below meth c b X o cA Q cells slots t lc st h f) (kf : x = 0 → Lx p l e s m below meth c b X o cA Q cells slots (pc + 3) lc st h f) : Lx p l e s m below meth c b X o cA Q cells slots pc lc (.int x :: st) h f := by
  intro H locs ls hP ho hS hl
  exact lv_if_ne C.1.1 C.1.2.1 hd ht (fun hc => kt hc H locs ls hP ho hS hl) (fun hc => kf hc H locs ls hP ho hS hl)
theorem lx_iconst (C : LC p l s m meth c b L xs X o cA) {n : Int} {v : Int32} (hd : decode code pc = .ok (.iconst n, 1)) (hv : Int32.ofInt n = v) (kk : Lx p l e s m below meth c b X o cA Q cells slots (pc + 1) lc (.int v :: st) h f) : Lx p l e s m below meth c b X o cA Q cells slots pc lc st h f := by
  intro H locs ls hP ho hS hl
  exact lv_iconst C.1.1 C.1.2.1 hd hv (kk H locs ls hP ho hS hl)
theorem lx_i2l (C : LC p l s m meth c b L xs X o cA) {x : Int32} (hd : decode code pc = .ok (.i2l, 1)) (kk : Lx p l e s m below meth c b X o cA Q cells slots (pc + 1) lc (.long x.toInt64 :: st) h f) : Lx p l e s m below meth c b X o cA Q cells slots pc lc (.int x :: st) h f := by
  intro H locs ls hP ho hS hl
  exact lv_i2l C.1.1 C.1.2.1 hd rfl (kk H locs ls hP ho hS hl)
theorem lx_laload (C : LC p l s m meth c b L xs X o cA) (hd : decode code pc = .ok (.laload, 1)) (kk : Lx p l e s m below meth c b X o cA Q cells slots (pc + 1) lc (.long (f (0 : Int32).toNatClampNeg) :: st) h f) : Lx p l e s m below meth c b X o cA Q cells slots pc lc (.int 0 :: .ref o :: st) h f := by
  intro H locs ls hP ho hS hl
  exact va_lald C.1.1 C.1.2.1 C.2.2.2.2.2.2.2.2.2 (wP_cons hP ho) 0 0 rfl rfl (by unfold vp_in; decide) hd (kk H locs ls hP ho hS hl)
/-- 'x != 0' as a boolean -/
theorem lx_bool (C : LC p l s m meth c b L xs X o cA) {x : Int32} (hd0 : decode code pc = .ok (.ifCond .eq 7, 3)) (hd3 : decode code (pc + 3) = .ok (.iconst 1, 1)) (hd4 : decode code (pc + 4) = .ok (.goto 4, 3)) (hd7 : decode code (pc + 7) = .ok (.iconst 0, 1)) (kk : Lx p l e s m below meth c b X o cA Q cells slots (pc + 8) lc (.int (if x = 0 then 0 else 1) :: st) h f) : Lx p l e s m below meth c b X o cA Q cells slots pc lc (.int x :: st) h f := by
  intro H locs ls hP ho hS hl
  have g := kk H locs ls hP ho hS hl
  refine lv_if_eq (tgt := pc + 7) C.1.1 C.1.2.1 hd0 (by omega) (fun hc => ?_) (fun hc => ?_)
  · rw [if_pos hc] at g
    exact lv_iconst (v := 0) C.1.1 C.1.2.1 hd7 (by decide) g
  · rw [if_neg hc] at g
    exact lv_iconst (v := 1) C.1.1 C.1.2.1 hd3 (by decide) (lv_goto (tgt := pc + 8) C.1.1 C.1.2.1 hd4 (by omega) g)
theorem lp_4 : Cond.methodLink "StairCountLaw" 39 yLp ∈ tb ∧ Cond.static yLp ∈ tb ∧ Cond.initialized yLp.cls ∈ tb := ⟨tb_in 1099 (by decide +kernel) (by decide +kernel), tb_in 1100 (by decide +kernel) (by decide +kernel), tb_in 0 (by decide +kernel) (by decide +kernel)⟩
theorem lp_5 : (parseMethodDescriptor yLp.desc).map (fun d => d.parameters.length) = some 4 := by decide +kernel
theorem lx_callP (C : LC p l s m meth c b L xs X o cA) {a0 a1 : Int32} {k : Nat} {v : Int32} (hk : PP a0 a1 h k v) (hd : decode code pc = .ok (.invokestatic 39, 3)) (hcs : cells + 1 ≤ 601024 ∧ slots + 6 ≤ 7293034) (hW : (st.map fun v => v.category).sum ≤ 8)
    (kk : Lx p l e s m below meth c b X o cA Q (cells + 1) (slots + 6) (pc + 3) lc (.int (nI k) :: st) h (if k = 0 then vp_updL f (0 : Int32).toNatClampNeg v.toInt64 else f)) : Lx p l e s m below meth c b X o cA Q cells slots pc lc (.ref o :: .int a1 :: .int a0 :: .ref (X.1 0) :: st) h f := by
  intro H locs ls hP ho hS hl
  obtain ⟨⟨hx0, hb, hr, hml, hown, hts, hX, hbl, hlocks, hgv⟩, hl9, hL, hI, hA, ho9, hK, hZ, hT, hKo⟩ := C
  have tw : ∀ w ∈ tb, w.before #[Value.ref b] s = true := fun w hw => hts w (tb_lw w hw)
  have hG : GoodIn lw_tbl wsL := fun w hw => by
    rcases List.mem_cons.mp hw with rfl | hw
    · exact ⟨tb_lw _ lp_w, tb_good lp_w⟩
    · exact ⟨tb_lw _ hw, tb_good hw⟩
  have pre := wz_pre hK hZ hP hS (fun q q1 _ => Nat.not_le.mpr q1)
  have run := vx_runSW (e := e) (below := below) (meth := meth) (R := room_1) (As := [.ref (X.1 0), .int a0, .int a1, .ref o]) (rest := st) (H := H) (locs := locs) (cells := cells) (slots := slots) (g := F0 m pc ls (.ref o :: .int a1 :: .int a0 :: .ref (X.1 0) :: st)) (nL := 7) (Ts := lw_tbl) (own := "StairCountLaw") (index := 39) (n := 4) (bytes := method_3_code) (maxL := 5) (ret := some .int) (hh := hhL) ⟨hx0, hb, hml, hown, hts⟩ (lp_person l hl9 X hI o cA f ho9.1 a0 a1 h k v hk) ⟨⟨rfl, rfl, by decide, by decide, pay_in hts hG, List.mem_cons_self⟩, tw _ lp_w, tw _ lp_4.2.2, ⟨by decide, by decide⟩, fun sig h9 => by
      have h2 := lp_5
      rw [h9] at h2
      exact (Option.some.inj h2).symm, tw _ lp_4.1, tw _ lp_4.2.1⟩ ⟨fun a U g mk q => by
      obtain ⟨q0, q1, q2, q3, q4, q5, q6⟩ := q
      exact ⟨q0, q1, wK_blind q2, wS_blind q3, wT_blind q4, q5, va_K.moved (u := U) (U := U.calling g mk a) (Vm.Alike.refl U.vm) q6⟩, fun U hU hW9 => ⟨rfl, (pre U hU hW9).1, (pre U hU hW9).2.1, (pre U hU hW9).2.2, by rw [hU]; exact wT_warm hW9 (wT_kept hT (fun a h1 h2 => hS.2.1 a h1 (Nat.not_le.mpr h1))), by rw [hU]; exact ho, va_K.moved hW9.alike hKo⟩⟩ rfl rfl hl.1 rfl (lv_room hW) hd hcs
  intro T hT0 Xs
  obtain ⟨v', st0, t, T', L', h0, X', hL', e1, e2, ⟨hv, hP1, ho1, hF1⟩, hgo⟩ := run T hT0 Xs
  cases hv
  obtain ⟨t2, a2, b2⟩ := kk T'.heap (locs ++ L') ls (by rw [e1]; exact hP1) (by rw [e1]; exact ho1) (by rw [e1]; exact wz_after (A1 := fun q => inR X q ∨ q = o) hS (fun q hq => hq.elim (hA q) (fun e9 => by rw [e9]; exact ho9.2)) h0 hF1 hL') hl T' rfl X'
  exact ⟨t2, hgo _ a2, b2⟩
/-- what every case is asked -/
def LK (p : Program) (l : Launch) (e : Env) (s : State) (m : MethodId) (below : List Frame) (meth : Method) (c : Code) (b : Nat) (X : CX) (o : Nat) (cA : ClassId) (Q : State → Prop) (cells slots j : Nat) : Prop := ∀ (h2 : HH) (f2 : Nat → Int64), Rel h2 → Lx p l e s m below meth c b X o cA Q (cells + 1) (slots + 6) 1750 (LCl b o X j) [] h2 f2
theorem lk_4 : Cond.methodLink "StairCountLaw" 44 mi_X11_person.1 ∈ tb ∧ Cond.methodLink "StairCountLaw" 45 mi_X11_thrown.1 ∈ tb := ⟨tb_in 1552 (by decide +kernel) (by decide +kernel), tb_in 1400 (by decide +kernel) (by decide +kernel)⟩
theorem d_4 : (∀ i, i < 2 → dA (369 + 6 * i) (1 + i)) ∧ ∀ i, i < 2 → dA (388 + 6 * i) (1 + i) := ⟨dAs_of (by decide +kernel), dAs_of (by decide +kernel)⟩
set_option maxHeartbeats 4000000 in
set_option maxRecDepth 100000 in
theorem lc_4 (C : LC p l s m meth c b L xs X o cA) (hj : 6 * j + 6 ≤ L) (hcs : cells + 1 ≤ 601024 ∧ slots + 6 ≤ 7293034) (hR : Rel h) (kk : LK p l e s m below meth c b X o cA Q cells slots j) : Lx p l e s m below meth c b X o cA Q cells slots 368 (LCl b o X j) [] h f := by
  obtain ⟨k, v, r, h2, hPP, hk2, e1, e2, e3, hR2⟩ := c_person (xs (6 * j + 1)) (xs (6 * j + 2)) h hR
  refine lx_aload C (k := 1) (q0 := 1) rfl rfl (by decide +kernel) ?_
  refine lx_args C rfl rfl hj 2 1 369 _ (by decide) d_4.1 ?_
  refine lx_aload C (k := 3) (q0 := 3) rfl rfl (by decide +kernel) ?_
  refine lx_st (st' := [.ref o, .int (xs (6 * j + 2)), .int (xs (6 * j + 1)), .ref (X.1 0)]) rfl ?_
  refine lx_callP C hPP (by decide +kernel) hcs (by decide) ?_
  refine lx_istore C (i := 5) (by decide +kernel) (by decide) rfl ?_
  refine lx_sub (lc' := LCl b o X j ++ [(5, .int (nI k))]) [1, 2, 3, 4, 5, 0] rfl ?_
  refine lx_aload C (k := 2) (q0 := 2) rfl rfl (by decide +kernel) ?_
  refine lx_args C rfl rfl hj 2 1 388 _ (by decide) d_4.2 ?_
  refine lx_callV (rest := []) [.int (xs (6 * j + 1)), .int (xs (6 * j + 2))] C mv_X11_person lk_4.1 sh_255 (Nat.le_of_ble_eq_true rfl : 300 ≤ 1000) rfl (by decide) rfl (by decide +kernel) hcs (sp_X11_person 300 (by decide) _ _ h) e1 ?_
  refine lx_st (st' := [.int r]) rfl ?_
  refine lx_istore C (i := 6) (by decide +kernel) (by decide) rfl ?_
  refine lx_sub (lc' := LCl b o X j ++ [(5, .int (nI k)), (6, .int r)]) [1, 2, 3, 4, 5, 6, 0] rfl ?_
  refine lx_aload C (k := 2) (q0 := 2) rfl rfl (by decide +kernel) ?_
  refine lx_callV (rest := []) [] C mv_X11_thrown lk_4.2 sh_255 (Nat.le_of_ble_eq_true rfl : 300 ≤ 1000) rfl (by decide) rfl (by decide +kernel) hcs (sp_X11_thrown 300 (by decide) h2) e2 ?_
  refine lx_st (st' := [.int (nI k)]) rfl ?_
  refine lx_iload C (q0 := 5) rfl (by decide +kernel) ?_
  refine lx_eq C (off := 5) (t := 416) (by decide +kernel) (by decide) ?_
  refine lx_iload C (q0 := 5) rfl (by decide +kernel) ?_
  have fin : ∀ f2, Lx p l e s m below meth c b X o cA Q (cells + 1) (slots + 6) 433 (LCl b o X j ++ [(5, .int (nI k)), (6, .int r)]) [] h2 f2 := fun f2 => lx_goto C (off := 1317) (t := 1750) (by decide +kernel) (by decide) (lx_sub (lc' := LCl b o X j) [0, 1, 2, 3, 4] rfl (kk h2 f2 hR2))
  refine lx_ifne C (off := 15) (t := 433) (by decide +kernel) (by decide) (fun _ => fin _) (fun hk0 => ?_)
  have hk : k = 0 := by
    rcases (show k = 0 ∨ k = 1 ∨ k = 2 by omega) with q | q | q
    · exact q
    · rw [q] at hk0; exact absurd hk0 (by decide)
    · rw [q] at hk0; exact absurd hk0 (by decide)
  subst hk
  obtain rfl := e3 rfl
  refine lx_aload C (k := 3) (q0 := 3) rfl rfl (by decide +kernel) ?_
  refine lx_iconst C (n := 0) (v := 0) (by decide +kernel) (by decide) ?_
  refine lx_laload C (by decide +kernel) ?_
  refine lx_iload C (q0 := 6) rfl (by decide +kernel) ?_
  refine lx_i2l C (by decide +kernel) ?_
  refine lx_st (st' := [.long r.toInt64, .long r.toInt64]) (by rw [if_pos rfl]; simp [vp_updL]) ?_
  exact lx_leq C (off := 5) (t := 433) (by decide +kernel) (by decide +kernel) (by decide) (fin _)
theorem d_30 : (∀ i, i < 4 → dA (1364 + 6 * i) (1 + i)) ∧ ∀ i, i < 4 → dA (1400 + 6 * i) (1 + i) := ⟨dAs_of (by decide +kernel), dAs_of (by decide +kernel)⟩
set_option maxHeartbeats 4000000 in
set_option maxRecDepth 100000 in
theorem lc_30 (C : LC p l s m meth c b L xs X o cA) (hj : 6 * j + 6 ≤ L) (hcs : cells + 1 ≤ 601024 ∧ slots + 6 ≤ 7293034) (hR : Rel h) (kk : LK p l e s m below meth c b X o cA Q cells slots j) : Lx p l e s m below meth c b X o cA Q cells slots 1363 (LCl b o X j) [] h f := by
  obtain ⟨r, h1, h2, e1, e2, hR2⟩ := c_note (xs (6 * j + 1)) (xs (6 * j + 2)) (xs (6 * j + 3)) (if xs (6 * j + 4) = 0 then 0 else 1) (by
    by_cases q : xs (6 * j + 4) = 0
    · exact Or.inl (if_pos q)
    · exact Or.inr (if_neg q)) h hR
  refine lx_wide (Nat.le_succ cells) (Nat.le_add_right slots 6) ?_
  refine lx_aload C (k := 1) (q0 := 1) rfl rfl (by decide +kernel) ?_
  refine lx_args C rfl rfl hj 4 1 1364 _ (by decide) d_30.1 ?_
  refine lx_st (st' := [.int (xs (6 * j + 4)), .int (xs (6 * j + 3)), .int (xs (6 * j + 2)), .int (xs (6 * j + 1)), .ref (X.1 0)]) rfl ?_
  refine lx_bool C (by decide +kernel) (by decide +kernel) (by decide +kernel) (by decide +kernel) ?_
  refine lx_callV (index := 154) (rest := []) [.int (xs (6 * j + 1)), .int (xs (6 * j + 2)), .int (xs (6 * j + 3)), .int (if xs (6 * j + 4) = 0 then 0 else 1)] C mv_X10_note (tb_in 1036 (by decide +kernel) (by decide +kernel)) sh_0 (Nat.le_of_ble_eq_true rfl : 300 ≤ 1000) rfl (by decide) rfl (by decide +kernel) hcs (sp_X10_note 300 (by decide) _ _ _ _ h) e1 ?_
  refine lx_st (st' := [.int r]) rfl ?_
  refine lx_aload C (k := 2) (q0 := 2) rfl rfl (by decide +kernel) ?_
  refine lx_args C rfl rfl hj 4 1 1400 _ (by decide) d_30.2 ?_
  refine lx_st (st' := [.int (xs (6 * j + 4)), .int (xs (6 * j + 3)), .int (xs (6 * j + 2)), .int (xs (6 * j + 1)), .ref (X.1 255), .int r]) rfl ?_
  refine lx_bool C (by decide +kernel) (by decide +kernel) (by decide +kernel) (by decide +kernel) ?_
  refine lx_callV (index := 158) (rest := [.int r]) [.int (xs (6 * j + 1)), .int (xs (6 * j + 2)), .int (xs (6 * j + 3)), .int (if xs (6 * j + 4) = 0 then 0 else 1)] C mv_X11_note (tb_in 1825 (by decide +kernel) (by decide +kernel)) sh_255 (Nat.le_of_ble_eq_true rfl : 300 ≤ 1000) rfl (show 1 + 0 ≤ 8 by decide) rfl (by decide +kernel) hcs (sp_X11_note 300 (by decide) _ _ _ _ h1) e2 ?_
  refine lx_st (st' := [.int r, .int r]) rfl ?_
  exact lx_eq C (off := 315) (t := 1750) (by decide +kernel) (by decide) (kk h2 f hR2)
end LXP
