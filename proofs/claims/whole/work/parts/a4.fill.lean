/-! a row filled with one number, in any world -/
def fE (v : Int32) (i : Nat) (f : Nat → Int32) : Nat → Value := fun j => .int (if j < i then v else f j)
section FIL
variable {p : Program} {l : Launch} {e : Env} {R : Room} {s : State} {mth : MethodId} {args : Array Value} {below : List Frame} {meth : Method} {c : Code}
set_option maxRecDepth 100000 in
theorem fill_L {b N : Nat} {cA : ClassId} {v : Int32} {f : Nat → Int32} (hx : p.tables.exec = Jvm.exec) (hb : c.code = prog_29_method_103_code) (hr : meth.sig.returnType = none) (hlk : meth.locks = false) (hN : N ≤ 1000) (hA : ArrOfT s cA .int) :
    ∀ (k i : Nat) (H : Heap) (locs : List Loc) (ls : Array Slot), i + k = N → H[b]? = some (arrV cA N (fE v i f)) → va_S (fun q => q = b) s.heap H locs → H.size = s.heap.size → lv_has ls 4 [(2, .int (nI i)), (3, .int (nI N)), (0, .ref b), (1, .int v)] →
      W p l e R s mth args below meth c H locs 0 0 (MQ below (fun _ st oc t => oc = .returned none ∧ t.heap[b]? = some (arrV cA N (fE v N f)) ∧ t.heap.size = st.heap.size ∧ va_F (fun q => q = b) st t) args s 0 0 (fun q => q = b)) (F0 mth 5 ls []) := by
  intro k
  induction k with
  | zero =>
    intro i H locs ls hi hc hS hz hl
    obtain rfl : i = N := by omega
    refine lv_iload_n hx hb d_J7_fill_53178_5.1 rfl (lv_at hl 0 rfl) ?_
    refine lv_iload_n hx hb d_J7_fill_53178_6.1 rfl (lv_at hl 1 rfl) ?_
    refine lv_icmp_ge (tgt := 20) hx hb d_J7_fill_53178_7.1 (by decide) (fun _ => ?_) (fun q => absurd (nI_le (Nat.le_refl i) (by omega)) q)
    exact W.vret hx hb hr (fun t ht hW => ⟨rfl, by rw [ht]; exact hc, by rw [ht, hz], hS.F ht⟩) hS.2.2 d_J7_fill_53178_20.1 hlk
  | succ k ih =>
    intro i H locs ls hi hc hS hz hl
    refine lv_iload_n hx hb d_J7_fill_53178_5.1 rfl (lv_at hl 0 rfl) ?_
    refine lv_iload_n hx hb d_J7_fill_53178_6.1 rfl (lv_at hl 1 rfl) ?_
    refine lv_icmp_ge (tgt := 20) hx hb d_J7_fill_53178_7.1 (by decide) (fun q => absurd q (nI_ge (by omega) (by omega))) (fun _ => ?_)
    refine lv_aload_n hx hb d_J7_fill_53178_10.1 rfl (lv_at hl 2 rfl) ?_
    refine lv_iload_n hx hb d_J7_fill_53178_11.1 rfl (lv_at hl 0 rfl) ?_
    refine lv_iload_n hx hb d_J7_fill_53178_12.1 rfl (lv_at hl 3 rfl) ?_
    have hni : (nI i).toNatClampNeg = i := nI_clamp (by omega)
    refine W.iast hx hb hc (hA _ _) (fun h => by cases h) (by rw [hni, arrV_size]; intro h; rcases h with h | h; exact absurd h (nI_pos (by omega)); omega) rfl rfl d_J7_fill_53178_13.1 fun H' e1 e2 e3 => ?_
    rw [hni, arrV_store] at e1
    refine lv_iinc (v := nI (i + 1)) (lv' := [(2, .int (nI (i + 1))), (3, .int (nI N)), (0, .ref b), (1, .int v)]) hx hb d_J7_fill_53178_14.1 hl (k := 0) rfl (nI_1 i) (by decide) rfl (fun ls hl => ?_)
    refine lv_goto (tgt := 5) hx hb d_J7_fill_53178_17.1 (by show ((17 : Nat) : Int) + -12 = ((5 : Nat) : Int); decide) ?_
    refine ih (i + 1) H' _ ls (by omega) ?_ (hS.put e2 e3 rfl) (e2.trans hz) hl
    rw [e1]
    congr 1
    refine arrV_eq fun j hj => ?_
    show (if j = i then Value.int v else fE v i f j) = fE v (i + 1) f j
    unfold fE
    by_cases y : j = i
    · subst y; rw [if_pos rfl, if_pos (by omega)]
    · rw [if_neg y]
      by_cases y2 : j < i
      · rw [if_pos y2, if_pos (by omega)]
      · rw [if_neg y2, if_neg (by omega)]
end FIL
theorem fill_met (d : Nat) (l : Launch) (b N : Nat) (cA : ClassId) (v : Int32) (f : Nat → Int32) (hN : N ≤ 1000) : Met l mi_J7_fill_53178.1 (wsM mi_J7_fill_53178) (rmC d 0 0) (va_Pc [.ref b, .int v] (fun U => U.heap[b]? = some (arrV cA N (fE v 0 f)) ∧ ArrOfT U cA .int)) (fun _ st oc t => oc = .returned none ∧ t.heap[b]? = some (arrV cA N (fE v N f)) ∧ t.heap.size = st.heap.size ∧ va_F (fun q => q = b) st t) 0 0 (fun q => q = b) := by
  refine Met.ofW (cc := prog_29_method_103_code) (maxL := 4) (ret := none) (by decide) rfl ?_
  intro p e s mth args below meth c s₁ B hml hv
  obtain ⟨rfl, hb, hA⟩ := hv
  have hl0 := lv_entry ([.ref b, .int v] : List Value) (n := 4) (Nat.le_of_ble_eq_true rfl)
  rw [lg_entry_eq]
  refine lv_iconst (v := nI 0) B.exec B.bytes d_J7_fill_53178_0.1 (by decide) ?_
  refine lv_istore_n (lv' := [(2, .int (nI 0)), (0, .ref b), (1, .int v)]) B.exec B.bytes d_J7_fill_53178_1.1 rfl hl0 (by decide) rfl (fun ls hl => ?_)
  refine lv_aload_n B.exec B.bytes d_J7_fill_53178_2.1 rfl (lv_at hl 1 rfl) ?_
  refine W.alen (n := nI N) B.exec B.bytes hb (hA _ _) (by rw [arrV_size]; rfl) rfl rfl d_J7_fill_53178_3.1 ?_
  refine lv_istore_n (lv' := [(3, .int (nI N)), (2, .int (nI 0)), (0, .ref b), (1, .int v)]) B.exec B.bytes d_J7_fill_53178_4.1 rfl hl (by decide) rfl (fun ls hl => ?_)
  exact fill_L B.exec B.bytes B.returns B.notSynchronized hN hA N 0 s.heap [] ls (by omega) hb va_S.rf rfl (lv_sub hl [1, 0, 2, 3] rfl)
/-- a row of the object being built, filled -/
theorem cx_fill {M : MI} {d mc ms z ci a n : Nat} {h' : HH} {pc q : Nat} {fs : List Value} {m sl : Nat} {lc : List (Nat × Value)} {st : List Value} {h h1 : HH} {d' j N index : Nat} {v : Int32} (hj : j < m) (hs0 : shL[a + 1 + j]? = some (.inr (0, N, 0))) (hN : N ≤ 1000) (h1a : ∀ i, i ≠ a + 1 + j → h1.1 i = h.1 i) (h1b : h1.1 (a + 1 + j) = fun i => if i < N then v else h.1 (a + 1 + j) i) (h1c : h1.2 = h.2)
    (han : a + 1 + m ≤ nN) (hmc : m ≤ mc) (hms : sl ≤ ms) (hlk : Cond.methodLink M.1.cls index mi_J7_fill_53178.1 ∈ tb) (hdd : d = d' + 1) (hst : (st.map fun v => v.category).sum ≤ 8) (hdg : DC M pc (.invokestatic index) 3 q) (k : Cx M d mc ms z ci a n h' q fs m sl lc st h1) : Cx M d mc ms z ci a n h' pc fs m sl lc (.int v :: .ref (a + 1 + j) :: st) h := by
  subst hdd
  obtain ⟨hd, rfl⟩ := hdg
  intro p l e s mth args below meth c X H locs ls C hO hZ hi hs hP hS hl
  have htsM := C.2.2.2.2.2.1
  have tw : ∀ w ∈ tb, w.before args s = true := fun w hw => htsM w (List.mem_cons_of_mem _ hw)
  have hm := ms_J7_fill_53178
  obtain ⟨hP1, hP2⟩ := wB_P.mp hP
  have hrow := hP2 j hj
  rw [cE_a hs0] at hrow
  have hrow : H[X.1 (a + 1 + j)]? = some (arrV (X.2.2 (a + 1 + j)) N (fE v 0 (h.1 (a + 1 + j)))) := hrow.trans (by
    congr 1)
  have hAr : ArrOfT s (X.2.2 (a + 1 + j)) .int := (C.2.2.2.2.2.2.2.1.2.1 _ _ _ _ hs0).1
  have hM := fill_met d' l (X.1 (a + 1 + j)) N (X.2.2 (a + 1 + j)) v (h.1 (a + 1 + j)) hN
  have run := va_runS (As := [.ref (X.1 (a + 1 + j)), .int v]) (rest := st.map (rl X.1)) (H := H) (locs := locs) (cells := m) (slots := sl) (below := below) (meth := meth) (e := e) (R := rmC (d' + 1) mc ms) (g := F0 mth pc ls (.int v :: .ref (X.1 (a + 1 + j)) :: st.map (rl X.1))) ⟨C.1, C.2.1, C.2.2.2.1, C.2.2.2.2.1, htsM⟩ hM ⟨(callB_of 2 htsM (wsM_good mi_J7_fill_53178 hm.1.2.2.1 M) rfl rfl rfl (tw _ hm.1.1) (tw _ hlk) hm.1.2.1 ⟨Nat.le_refl _, by show 8 + (mi_J7_fill_53178.2.2.1 + 11) + 64 * d' ≤ 64 * (d' + 1); have := hm.1.2.2.2; omega⟩), tw _ hm.2⟩ ⟨fun a U g mk q => ⟨q.1, q.2.1, q.2.2⟩, fun U hU hW => ⟨rfl, by rw [hU]; exact hrow, arrOfT_moved hW.alike hAr⟩⟩ rfl rfl hl.1 rfl (lv_room (by rw [sum_rl]; exact hst)) hd ⟨hmc, hms⟩
  intro T hT Xs
  obtain ⟨v', st0, t, T', L, h0, X', hL, e1, e2, ⟨hv, hc, hz, hF1⟩, hgo⟩ := run T hT Xs
  have hv : v' = none := by cases hv; rfl
  subst hv
  have hxj : X.1 (a + 1 + j) = z + (a + 1 + j) := hZ _ (by omega)
  have lo : ∀ q : Nat, q < H.size → q ≠ X.1 (a + 1 + j) → T'.heap[q]? = H[q]? := fun q q1 q2 => by rw [e1, hF1.2 q (by rw [h0]; exact q1) q2, h0]
  have kk := k p l e s mth args below meth c X T'.heap (locs ++ L) ls C hO hZ hi (by rw [e1, hz, h0, hs]) (wB_P.mpr ⟨at_kept hP1 (lo _ (by show X.1 a < _; rw [hs, hZ a (by omega)]; omega) (by show X.1 a ≠ _; rw [hxj, hZ a (by omega)]; omega)), fun i hi => ?_⟩) ⟨?_, fun x x1 x2 => ?_, fun q hq => ?_⟩ hl
  · obtain ⟨t2, a2, b2⟩ := kk T' rfl X'
    exact ⟨t2, hgo _ a2, b2⟩
  · have hxi : X.1 (a + 1 + i) = z + (a + 1 + i) := hZ _ (by omega)
    by_cases y : i = j
    · subst y
      rw [cE_a hs0]
      show T'.heap[X.1 (a + 1 + i)]? = _
      rw [e1, hc]
      simp only [aE, h1b]
      rfl
    · have e9 : cE X h1 (a + 1 + i) = cE X h (a + 1 + i) := by
        unfold cE
        have e8 : h1.1 (a + 1 + i) = h.1 (a + 1 + i) := h1a _ (by omega)
        have e7 : ∀ f : fS, fV X.1 h1 (a + 1 + i) f = fV X.1 h (a + 1 + i) f := by
          intro f
          rcases f with f | f | f <;> simp [fV, e8, h1c]
        have e6 : ∀ n m, aE X h1 (a + 1 + i) n m = aE X h (a + 1 + i) n m := by
          intro n m
          unfold aE
          rw [e8, h1c]
        split
        · simp [e7]
        · rw [e6]
        · rfl
      rw [e9]
      exact at_kept (hP2 i hi) (lo _ (by show X.1 (a + 1 + i) < _; rw [hs, hxi]; omega) (by show X.1 (a + 1 + i) ≠ _; rw [hxj, hxi]; omega))
  · rw [e1, hz, h0]; exact hS.1
  · have h8 : ¬ z + a ≤ x := x2
    rw [lo x (Nat.lt_of_lt_of_le x1 hS.1) (by rw [hxj]; omega), hS.2.1 x x1 x2]
  · rcases List.mem_append.mp hq with hq | hq
    · exact hS.2.2 q hq
    · have h7 : q.base = X.1 (a + 1 + j) := hL q hq
      show z + a ≤ q.base
      rw [h7, hxj]; omega
