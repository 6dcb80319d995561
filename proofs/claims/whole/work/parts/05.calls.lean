/-! rows: arrays, ends, calls -/
section SY
variable {α : Type} {M : MI} {d : Nat} {inj : α → Option Value} {E E1 E2 : Option (α × HH)} {pc q : Nat} {lc lc' : List (Nat × Value)} {st : List Value} {h : HH}
theorem sx_iald {a n : Nat} {i : Int32} {k : Int32 → Option (α × HH)} (hs : shL[a]? = some (.inr (0, n, 0))) (hdg : DC M pc .iaload 1 q) (kk : ∀ v, Sx M d inj (k v) q lc (.int v :: st) h) : Sx M d inj (ldI h a n i k) pc lc (.int i :: .ref a :: st) h := by
  refine sx_ckn (fun hn => ?_)
  obtain ⟨hd, rfl⟩ := hdg
  intro p l e s m args below meth c X H locs ls r h' C hP hS hl hE
  exact va_iald C.1 C.2.1 (wK_a C.2.2.2.2.2.2.2.1 hs) hP a 0 (ws_a X h hs) rfl hn hd (kk _ p l e s m args below meth c X H locs ls r h' C hP hS hl hE)
theorem sx_bald {a n : Nat} {i : Int32} {k : Int32 → Option (α × HH)} (hs : shL[a]? = some (.inr (1, n, 0))) (hdg : DC M pc .baload 1 q) (kk : ∀ v, Sx M d inj (k v) q lc (.int v :: st) h) : Sx M d inj (ldI h a n i k) pc lc (.int i :: .ref a :: st) h := by
  refine sx_ckn (fun hn => ?_)
  obtain ⟨hd, rfl⟩ := hdg
  intro p l e s m args below meth c X H locs ls r h' C hP hS hl hE
  exact va_bald C.1 C.2.1 (wK_a C.2.2.2.2.2.2.2.1 hs) hP a 0 (ws_a X h hs) rfl hn hd (kk _ p l e s m args below meth c X H locs ls r h' C hP hS hl hE)
theorem sx_zald {a n : Nat} {i : Int32} {k : Int32 → Option (α × HH)} (hs : shL[a]? = some (.inr (2, n, 0))) (hdg : DC M pc .baload 1 q) (kk : ∀ v, Sx M d inj (k v) q lc (.int v :: st) h) : Sx M d inj (ldI h a n i k) pc lc (.int i :: .ref a :: st) h := by
  refine sx_ckn (fun hn => ?_)
  obtain ⟨hd, rfl⟩ := hdg
  intro p l e s m args below meth c X H locs ls r h' C hP hS hl hE
  exact va_zald C.1 C.2.1 (wK_a C.2.2.2.2.2.2.2.1 hs) hP a 0 (ws_a X h hs) rfl hn hd (kk _ p l e s m args below meth c X H locs ls r h' C hP hS hl hE)
theorem sx_lald {a n : Nat} {i : Int32} {k : Int64 → Option (α × HH)} (hs : shL[a]? = some (.inr (3, n, 1))) (hdg : DC M pc .laload 1 q) (kk : ∀ v, Sx M d inj (k v) q lc (.long v :: st) h) : Sx M d inj (ldL h a n i k) pc lc (.int i :: .ref a :: st) h := by
  refine sx_ckn (fun hn => ?_)
  obtain ⟨hd, rfl⟩ := hdg
  intro p l e s m args below meth c X H locs ls r h' C hP hS hl hE
  exact va_lald C.1 C.2.1 (wK_a C.2.2.2.2.2.2.2.1 hs) hP a 0 (ws_a X h hs) rfl hn hd (kk _ p l e s m args below meth c X H locs ls r h' C hP hS hl hE)
theorem sx_aald {a n t k0 : Nat} {i : Int32} {k : Nat → Option (α × HH)} (hs : shL[a]? = some (.inr (t, n, k0 + 2))) (ht : (tyA t).isReference = true) (hdg : DC M pc .aaload 1 q) (kk : ∀ v, Sx M d inj (k v) q lc (.ref v :: st) h) : Sx M d inj (ldR a n k0 i k) pc lc (.int i :: .ref a :: st) h := by
  refine sx_ckn (fun hn => ?_)
  obtain ⟨hd, rfl⟩ := hdg
  intro p l e s m args below meth c X H locs ls r h' C hP hS hl hE
  have hlt : i.toNatClampNeg < n := Nat.not_le.mp fun q => hn (Or.inr q)
  exact W.aald (v := .ref (X.1 (a + 1 + k0 * i.toNatClampNeg))) (ty := tyA t) C.1 C.2.1 (hP a _ (ws_a X h hs)) ((C.2.2.2.2.2.2.2.1.2.1 a t n _ hs).1 n (fun j => va_rf (some (X.1 (a + 1 + k0 * j))))) ht (fun q => by cases q) (by show ¬ (i < 0 ∨ (arrV _ _ _).slots.size ≤ _); rw [arrV_size]; exact hn) (by show (arrV _ _ _).slots[_]? = _; rw [arrV_read _ _ hlt]; rfl) rfl rfl hd (kk _ p l e s m args below meth c X H locs ls r h' C hP hS hl hE)
theorem aE_wrI {X : CX} {h : HH} {a n k : Nat} {v : Int32} : aE X (wrI h a k v) a n 0 = .inl (X.2.2 a, n, .inl (upd (h.1 a) k v)) := by
  have e : (wrI h a k v).1 a = upd (h.1 a) k v := by funext i; simp [wrI, upd]
  simp [aE, e]
theorem aE_wrL {X : CX} {h : HH} {a n k : Nat} {v : Int64} : aE X (wrL h a k v) a n 1 = .inl (X.2.2 a, n, .inr (.inl (vp_updL (h.2.1 a) k v))) := by
  have e : (wrL h a k v).2.1 a = vp_updL (h.2.1 a) k v := by funext i; simp [wrL, vp_updL]
  simp [aE, e]
theorem ws_wrI {X : CX} {h : HH} {a t n k : Nat} {v : Int32} (hs : shL[a]? = some (.inr (t, n, 0))) : (wsW X h).set a (X.1 a, .inl (X.2.2 a, n, .inl (upd (h.1 a) k v))) = wsW X (wrI h a k v) :=
  ws_set (sh_lt hs) (by rw [cE_a hs, aE_wrI]) (fun b hb _ => cE_wrI hb)
theorem ws_wrL {X : CX} {h : HH} {a t n k : Nat} {v : Int64} (hs : shL[a]? = some (.inr (t, n, 1))) : (wsW X h).set a (X.1 a, .inl (X.2.2 a, n, .inr (.inl (vp_updL (h.2.1 a) k v)))) = wsW X (wrL h a k v) :=
  ws_set (sh_lt hs) (by rw [cE_a hs, aE_wrL]) (fun b hb _ => cE_wrL hb)
theorem sx_iast {a n : Nat} {i x : Int32} {k : HH → Option (α × HH)} (hs : shL[a]? = some (.inr (0, n, 0))) (hdg : DC M pc .iastore 1 q) (kk : ∀ h, Sx M d inj (k h) q lc st h) : Sx M d inj (stI h a n i x k) pc lc (.int x :: .int i :: .ref a :: st) h := by
  refine sx_ckn (fun hn => ?_)
  obtain ⟨hd, rfl⟩ := hdg
  intro p l e s m args below meth c X H locs ls r h' C hP hS hl hE
  refine va_iast C.1 C.2.1 (wK_a C.2.2.2.2.2.2.2.1 hs) hP (wD X C.2.2.2.2.2.2.2.2.1 h) hS a 0 (ws_a X h hs) rfl hn hd ?_
  intro H1 locs1 hP1 hD1 hS1
  rw [ws_wrI hs] at hP1
  exact kk _ p l e s m args below meth c X H1 locs1 ls r h' C hP1 hS1 hl hE
theorem sx_bast {a n : Nat} {i x : Int32} {k : HH → Option (α × HH)} (hs : shL[a]? = some (.inr (1, n, 0))) (hdg : DC M pc .bastore 1 q) (kk : ∀ h, Sx M d inj (k h) q lc st h) : Sx M d inj (stI h a n i (vp_nar .byte x) k) pc lc (.int x :: .int i :: .ref a :: st) h := by
  refine sx_ckn (fun hn => ?_)
  obtain ⟨hd, rfl⟩ := hdg
  intro p l e s m args below meth c X H locs ls r h' C hP hS hl hE
  refine va_bast C.1 C.2.1 (wK_a C.2.2.2.2.2.2.2.1 hs) hP (wD X C.2.2.2.2.2.2.2.2.1 h) hS a 0 (ws_a X h hs) rfl hn hd ?_
  intro H1 locs1 hP1 hD1 hS1
  rw [ws_wrI hs] at hP1
  exact kk _ p l e s m args below meth c X H1 locs1 ls r h' C hP1 hS1 hl hE
theorem sx_zast {a n : Nat} {i x : Int32} {k : HH → Option (α × HH)} (hs : shL[a]? = some (.inr (2, n, 0))) (hdg : DC M pc .bastore 1 q) (kk : ∀ h, Sx M d inj (k h) q lc st h) : Sx M d inj (stI h a n i (vp_nar .boolean x) k) pc lc (.int x :: .int i :: .ref a :: st) h := by
  refine sx_ckn (fun hn => ?_)
  obtain ⟨hd, rfl⟩ := hdg
  intro p l e s m args below meth c X H locs ls r h' C hP hS hl hE
  refine va_zast C.1 C.2.1 (wK_a C.2.2.2.2.2.2.2.1 hs) hP (wD X C.2.2.2.2.2.2.2.2.1 h) hS a 0 (ws_a X h hs) rfl hn hd ?_
  intro H1 locs1 hP1 hD1 hS1
  rw [ws_wrI hs] at hP1
  exact kk _ p l e s m args below meth c X H1 locs1 ls r h' C hP1 hS1 hl hE
theorem sx_last {a n : Nat} {i : Int32} {x : Int64} {k : HH → Option (α × HH)} (hs : shL[a]? = some (.inr (3, n, 1))) (hdg : DC M pc .lastore 1 q) (kk : ∀ h, Sx M d inj (k h) q lc st h) : Sx M d inj (stL h a n i x k) pc lc (.long x :: .int i :: .ref a :: st) h := by
  refine sx_ckn (fun hn => ?_)
  obtain ⟨hd, rfl⟩ := hdg
  intro p l e s m args below meth c X H locs ls r h' C hP hS hl hE
  refine va_last C.1 C.2.1 (wK_a C.2.2.2.2.2.2.2.1 hs) hP (wD X C.2.2.2.2.2.2.2.2.1 h) hS a 0 (ws_a X h hs) rfl hn hd ?_
  intro H1 locs1 hP1 hD1 hS1
  rw [ws_wrL hs] at hP1
  exact kk _ p l e s m args below meth c X H1 locs1 ls r h' C hP1 hS1 hl hE
theorem sx_alen {a t n m0 : Nat} {v : Int32} (hs : shL[a]? = some (.inr (t, n, m0))) (hv : Int32.ofNat n = v) (hdg : DC M pc .arraylength 1 q) (k : Sx M d inj E q lc (.int v :: st) h) : Sx M d inj E pc lc (.ref a :: st) h := by
  obtain ⟨hd, rfl⟩ := hdg
  intro p l e s m args below meth c X H locs ls r h' C hP hS hl hE
  refine va_alen C.1 C.2.1 (wK_a C.2.2.2.2.2.2.2.1 hs) hP a 0 (x := (n, _)) (ws_a X h hs) rfl hv hd (k p l e s m args below meth c X H locs ls r h' C hP hS hl hE)
theorem sx_locs {X : CX} {H0 H : Heap} {locs : List Loc} (hS : va_S (inR X) H0 H locs) : ∀ q ∈ locs, inR X q.base := hS.2.2
theorem sx_iret {v : Int32} (hr : M.2.2.2 = some .int) (hdg : DC M pc .ireturn 1 q) : Sx M d iI (some (v, h)) pc lc [.int v] h := by
  obtain ⟨hd, rfl⟩ := hdg
  intro p l e s m args below meth c X H locs ls r h' C hP hS hl hE
  cases hE
  exact W.iret (v := v) C.1 C.2.1 (C.2.2.1.trans hr) (fun t ht hW => ⟨rfl, by rw [ht]; exact hP, hS.F ht⟩) hS.2.2 hd C.2.2.2.2.2.2.1
theorem sx_zret {v : Int32} (hv : v = 0 ∨ v = 1) (hr : M.2.2.2 = some .boolean) (hdg : DC M pc .ireturn 1 q) : Sx M d iI (some (v, h)) pc lc [.int v] h := by
  obtain ⟨hd, rfl⟩ := hdg
  intro p l e s m args below meth c X H locs ls r h' C hP hS hl hE
  cases hE
  exact W.zret (v := v) (ty := .boolean) C.1 C.2.1 (C.2.2.1.trans hr) (by rcases hv with rfl | rfl <;> rfl) (fun t ht hW => ⟨rfl, by rw [ht]; exact hP, hS.F ht⟩) hS.2.2 hd C.2.2.2.2.2.2.1
theorem sx_lret {v : Int64} (hr : M.2.2.2 = some .long) (hdg : DC M pc .lreturn 1 q) : Sx M d iL (some (v, h)) pc lc [.long v] h := by
  obtain ⟨hd, rfl⟩ := hdg
  intro p l e s m args below meth c X H locs ls r h' C hP hS hl hE
  cases hE
  exact W.lret (v := v) C.1 C.2.1 (C.2.2.1.trans hr) (fun t ht hW => ⟨rfl, by rw [ht]; exact hP, hS.F ht⟩) hS.2.2 hd C.2.2.2.2.2.2.1
theorem sx_vret (hr : M.2.2.2 = none) (hdg : DC M pc .return_ 1 q) : Sx M d iU (some ((), h)) pc lc [] h := by
  obtain ⟨hd, rfl⟩ := hdg
  intro p l e s m args below meth c X H locs ls r h' C hP hS hl hE
  cases hE
  exact W.vret C.1 C.2.1 (C.2.2.1.trans hr) (fun t ht hW => ⟨rfl, by rw [ht]; exact hP, hS.F ht⟩) hS.2.2 hd C.2.2.2.2.2.2.1
theorem sx_aret {v : Nat} {ty : FieldType} (hr : M.2.2.2 = some ty) (ht : (∃ n, ty = .object n) ∨ ∃ t, ty = .array t) (hdg : DC M pc .areturn 1 q) : Sx M d iR (some (v, h)) pc lc [.ref v] h := by
  obtain ⟨hd, rfl⟩ := hdg
  intro p l e s m args below meth c X H locs ls r h' C hP hS hl hE
  cases hE
  exact W.aret (v := .ref (X.1 v)) C.1 C.2.1 (C.2.2.1.trans hr) ht (Or.inr ⟨_, rfl⟩) (fun t ht hW => ⟨rfl, by rw [ht]; exact hP, hS.F ht⟩) hS.2.2 hd C.2.2.2.2.2.2.1
def mG (M' : MI) (n : Nat) : Prop := Cond.initialized M'.1.cls ∈ tb ∧ (M'.1.cls ≠ "java/lang/invoke/MethodHandle" ∧ M'.1.cls ≠ "java/lang/invoke/VarHandle" ∧ (parseMethodDescriptor M'.1.desc).map (fun d => d.parameters.length) = some n) ∧ Cond.code M'.1 M'.2.1 M'.2.2.1 M'.2.2.2 ∈ tb ∧ M'.2.2.1 ≤ 45
def mV (M' : MI) (ci n : Nat) : Prop := mG M' n ∧ (∃ (T : u_T) (N : Nat), cls[ci]? = some (M'.1.cls, T, N)) ∧ Cond.instanceMethod M'.1 ∈ tb ∧ Cond.selects M'.1.cls M'.1 M'.1 ∈ tb
def mS (M' : MI) (n : Nat) : Prop := mG M' n ∧ Cond.static M'.1 ∈ tb
theorem sum_rl (ρ : Nat → Nat) (st : List Value) : ((st.map (rl ρ)).map fun v => v.category).sum = (st.map fun v => v.category).sum := by
  rw [List.map_map]
  congr 1
  apply List.map_congr_left
  intro v _
  exact rl_cat ρ v
theorem sx_pre {X : CX} {s : State} {H : Heap} {locs : List Loc} {h : HH} (hK : wK X s) (hZ : wS X s s.heap) (hP : wP X h H) (hS : va_S (inR X) s.heap H locs) : ∀ U : State, U.heap = H → s.WarmedH U.vm → wP X h U.heap ∧ wK X U ∧ wS X U U.heap := fun U hU hW =>
  ⟨by rw [hU]; exact hP, wK_warm hW hK, by rw [hU]; exact wS_warm hW (wS_kept hZ hS.2.1)⟩
theorem sx_blind {X : CX} {h : HH} {as : List Value} : FrameBlind (va_Pc as (fun U => wP X h U.heap ∧ wK X U ∧ wS X U U.heap)) := by
  intro a U g mk q
  obtain ⟨q0, q1, q2, q3⟩ := q
  exact ⟨q0, q1, wK_blind q2, wS_blind q3⟩
theorem sx_after {X : CX} {s st0 t : State} {H : Heap} {locs L : List Loc} (hS : va_S (inR X) s.heap H locs) (h0 : st0.heap = H) (hF : va_F (inR X) st0 t) (hL : ∀ q ∈ L, inR X q.base) : va_S (inR X) s.heap t.heap (locs ++ L) := by
  subst h0
  refine ⟨Nat.le_trans hS.1 hF.1, fun q h1 h2 => ?_, fun l hl => ?_⟩
  · rw [hF.2 q (Nat.lt_of_lt_of_le h1 hS.1) h2, hS.2.1 q h1 h2]
  · rcases List.mem_append.mp hl with hl | hl
    · exact hS.2.2 l hl
    · exact hL l hl
theorem sx_tl (ρ : Nat → Nat) (o : Option Value) (st : List Value) : (o.map (rl ρ)).toList ++ st.map (rl ρ) = (o.toList ++ st).map (rl ρ) := by cases o <;> rfl
theorem sx_callV {β : Type} {inj' : β → Option Value} {M' : MI} {d' ci n b index : Nat} {E' : Option (β × HH)} {k : β → HH → Option (α × HH)} (As : List Value) {rest : List Value} (hm : mV M' ci n) (hlk : Cond.methodLink M.1.cls index M'.1 ∈ tb) (hb : shL[b]? = some (.inl ci)) (hd' : d = d' + 1) (hst : st = As.reverse ++ .ref b :: rest) (hnn : As.length = n) (hW : (rest.map fun v => v.category).sum ≤ 8) (hdg : DC M pc (.invokevirtual index) 3 q) (sp : Sp M' d' inj' (.ref b :: As) h E') (kk : ∀ r h1, Sx M d inj (k r h1) q lc ((inj' r).toList ++ rest) h1) : Sx M d inj (bnd E' k) pc lc st h := by
  subst hd' hst
  obtain ⟨hd, rfl⟩ := hdg
  intro p l e s m args below meth c X H locs ls r h' C hP hS hl hE
  cases hE' : E' with
  | none => rw [hE'] at hE; cases hE
  | some x =>
    obtain ⟨v, h1⟩ := x
    rw [hE'] at hE
    have hM := sp l X v h1 hE' C.2.2.2.2.2.2.2.2.1
    have hts : ∀ w ∈ wsM M, w.before args s = true := C.2.2.2.2.2.1
    have tw : ∀ w ∈ tb, w.before args s = true := fun w hw => hts w (List.mem_cons_of_mem _ hw)
    have pre := sx_pre C.2.2.2.2.2.2.2.1 C.2.2.2.2.2.2.2.2.2 hP hS
    obtain ⟨T0, N0, hc⟩ := hm.2.1
    have hrc := va_recv C.2.2.2.2.2.2.2.1.1 hP hc (ws_o X h hb)
    have hstk : (As.reverse ++ .ref b :: rest).map (rl X.1) = (As.map (rl X.1)).reverse ++ .ref (X.1 b) :: rest.map (rl X.1) := by simp [rl]
    have run := va_runV (As := As.map (rl X.1)) (rest := rest.map (rl X.1)) (b := X.1 b) (H := H) (locs := locs) (cells := 0) (slots := 0) (below := below) (meth := meth) (e := e) (R := rmD (d' + 1)) (g := F0 m pc ls ((As.reverse ++ .ref b :: rest).map (rl X.1))) ⟨C.1, C.2.1, C.2.2.2.1, C.2.2.2.2.1, hts⟩ hM ⟨(callB_of n hts (wsM_good M' hm.1.2.2.1 M) rfl rfl rfl (tw _ hm.1.1) (tw _ hlk) hm.1.2.1 ⟨Nat.le_refl _, by show 8 + (M'.2.2.1 + 11) + 64 * d' ≤ 64 * (d' + 1); have := hm.1.2.2.2; omega⟩), tw _ hm.2.2.1, tw _ hm.2.2.2⟩ ⟨sx_blind, hrc, fun U hU hW => ⟨by simp [rl], pre U hU hW⟩⟩ rfl (by rw [List.length_map]; exact hnn) hl.1 hstk (lv_room (by rw [sum_rl]; exact hW)) hd ⟨Nat.le_refl _, Nat.le_refl _⟩
    intro T hT Xs
    obtain ⟨v', st0, t, T', L, h0, X', hL, e1, e2, ⟨hv, hP1, hF1⟩, hgo⟩ := run T hT Xs
    have hv : v' = (inj' v).map (rl X.1) := by cases hv; rfl
    subst hv
    rw [sx_tl] at hgo
    obtain ⟨t2, a2, b2⟩ := kk v h1 p l e s m args below meth c X T'.heap (locs ++ L) ls r h' C (by rw [e1]; exact hP1) (by rw [e1]; exact sx_after hS h0 hF1 hL) hl hE T' rfl X'
    exact ⟨t2, hgo _ a2, b2⟩
theorem sx_callS {β : Type} {inj' : β → Option Value} {M' : MI} {d' n index : Nat} {E' : Option (β × HH)} {k : β → HH → Option (α × HH)} (As : List Value) {rest : List Value} (hm : mS M' n) (hlk : Cond.methodLink M.1.cls index M'.1 ∈ tb) (hd' : d = d' + 1) (hst : st = As.reverse ++ rest) (hnn : As.length = n) (hW : (rest.map fun v => v.category).sum ≤ 8) (hdg : DC M pc (.invokestatic index) 3 q) (sp : Sp M' d' inj' (As) h E') (kk : ∀ r h1, Sx M d inj (k r h1) q lc ((inj' r).toList ++ rest) h1) : Sx M d inj (bnd E' k) pc lc st h := by
  subst hd' hst
  obtain ⟨hd, rfl⟩ := hdg
  intro p l e s m args below meth c X H locs ls r h' C hP hS hl hE
  cases hE' : E' with
  | none => rw [hE'] at hE; cases hE
  | some x =>
    obtain ⟨v, h1⟩ := x
    rw [hE'] at hE
    have hM := sp l X v h1 hE' C.2.2.2.2.2.2.2.2.1
    have hts : ∀ w ∈ wsM M, w.before args s = true := C.2.2.2.2.2.1
    have tw : ∀ w ∈ tb, w.before args s = true := fun w hw => hts w (List.mem_cons_of_mem _ hw)
    have pre := sx_pre C.2.2.2.2.2.2.2.1 C.2.2.2.2.2.2.2.2.2 hP hS
    have hstk : (As.reverse ++ rest).map (rl X.1) = (As.map (rl X.1)).reverse ++ rest.map (rl X.1) := by simp
    have run := va_runS (As := As.map (rl X.1)) (rest := rest.map (rl X.1)) (H := H) (locs := locs) (cells := 0) (slots := 0) (below := below) (meth := meth) (e := e) (R := rmD (d' + 1)) (g := F0 m pc ls ((As.reverse ++ rest).map (rl X.1))) ⟨C.1, C.2.1, C.2.2.2.1, C.2.2.2.2.1, hts⟩ hM ⟨(callB_of n hts (wsM_good M' hm.1.2.2.1 M) rfl rfl rfl (tw _ hm.1.1) (tw _ hlk) hm.1.2.1 ⟨Nat.le_refl _, by show 8 + (M'.2.2.1 + 11) + 64 * d' ≤ 64 * (d' + 1); have := hm.1.2.2.2; omega⟩), tw _ hm.2⟩ ⟨sx_blind, fun U hU hW => ⟨rfl, pre U hU hW⟩⟩ rfl (by rw [List.length_map]; exact hnn) hl.1 hstk (lv_room (by rw [sum_rl]; exact hW)) hd ⟨Nat.le_refl _, Nat.le_refl _⟩
    intro T hT Xs
    obtain ⟨v', st0, t, T', L, h0, X', hL, e1, e2, ⟨hv, hP1, hF1⟩, hgo⟩ := run T hT Xs
    have hv : v' = (inj' v).map (rl X.1) := by cases hv; rfl
    subst hv
    rw [sx_tl] at hgo
    obtain ⟨t2, a2, b2⟩ := kk v h1 p l e s m args below meth c X T'.heap (locs ++ L) ls r h' C (by rw [e1]; exact hP1) (by rw [e1]; exact sx_after hS h0 hF1 hL) hl hE T' rfl X'
    exact ⟨t2, hgo _ a2, b2⟩
theorem sx_callSN {β : Type} {inj' : β → Option Value} {M' : MI} {d' n index : Nat} {E' : Option (β × HH)} {k : β → HH → Option (α × HH)} (As : List Value) {rest : List Value} {host : String} (hm : mS M' n) (hlk : Cond.methodLinkNest M.1.cls index M'.1 host ∈ nestW) (hd' : d = d' + 1) (hst : st = As.reverse ++ rest) (hnn : As.length = n) (hW : (rest.map fun v => v.category).sum ≤ 8) (hdg : DC M pc (.invokestatic index) 3 q) (sp : Sp M' d' inj' (As) h E') (kk : ∀ r h1, Sx M d inj (k r h1) q lc ((inj' r).toList ++ rest) h1) : Sx M d inj (bnd E' k) pc lc st h := by
  subst hd' hst
  obtain ⟨hd, rfl⟩ := hdg
  intro p l e s m args below meth c X H locs ls r h' C hP hS hl hE
  cases hE' : E' with
  | none => rw [hE'] at hE; cases hE
  | some x =>
    obtain ⟨v, h1⟩ := x
    rw [hE'] at hE
    have hM := sp l X v h1 hE' C.2.2.2.2.2.2.2.2.1
    have hts : ∀ w ∈ wsM M, w.before args s = true := C.2.2.2.2.2.1
    have tw : ∀ w ∈ tb, w.before args s = true := fun w hw => hts w (List.mem_cons_of_mem _ hw)
    have pre := sx_pre C.2.2.2.2.2.2.2.1 C.2.2.2.2.2.2.2.2.2 hP hS
    have hstk : (As.reverse ++ rest).map (rl X.1) = (As.map (rl X.1)).reverse ++ rest.map (rl X.1) := by simp
    have run := va_runSN (As := As.map (rl X.1)) (rest := rest.map (rl X.1)) (H := H) (locs := locs) (cells := 0) (slots := 0) (below := below) (meth := meth) (e := e) (R := rmD (d' + 1)) (g := F0 m pc ls ((As.reverse ++ rest).map (rl X.1))) ⟨C.1, C.2.1, C.2.2.2.1, C.2.2.2.2.1, hts⟩ hM ⟨va_cnB n hts (wsM_good M' hm.1.2.2.1 M) rfl rfl rfl (C.2.2.2.2.2.2.2.1.2.2 _ hlk) (tw _ hm.1.1) hm.1.2.1 ⟨Nat.le_refl _, by show 8 + (M'.2.2.1 + 11) + 64 * d' ≤ 64 * (d' + 1); have := hm.1.2.2.2; omega⟩, tw _ hm.2, trivial⟩ ⟨sx_blind, fun U hU hW => ⟨rfl, pre U hU hW⟩⟩ rfl (by rw [List.length_map]; exact hnn) hl.1 hstk (lv_room (by rw [sum_rl]; exact hW)) hd ⟨Nat.le_refl _, Nat.le_refl _⟩
    intro T hT Xs
    obtain ⟨v', st0, t, T', L, h0, X', hL, e1, e2, ⟨hv, hP1, hF1⟩, hgo⟩ := run T hT Xs
    have hv : v' = (inj' v).map (rl X.1) := by cases hv; rfl
    subst hv
    rw [sx_tl] at hgo
    obtain ⟨t2, a2, b2⟩ := kk v h1 p l e s m args below meth c X T'.heap (locs ++ L) ls r h' C (by rw [e1]; exact hP1) (by rw [e1]; exact sx_after hS h0 hF1 hL) hl hE T' rfl X'
    exact ⟨t2, hgo _ a2, b2⟩
def mxI (x y : Int32) : Int32 := if x < y then y else x
def mnI (x y : Int32) : Int32 := if y < x then y else x
def mxL (x y : Int64) : Int64 := if y < x then x else y
def mnL (x y : Int64) : Int64 := if y < x then y else x
def abL (x : Int64) : Int64 := if 0 < x then x else -x
theorem math_ini : Cond.initialized "java/lang/Math" ∈ tb := tb_in 14 (by decide +kernel) (by decide +kernel)
theorem mmax_st : Cond.static Lib.Math.max.name ∈ tb := tb_in 874 (by decide +kernel) (by decide +kernel)
theorem mmax_cd : Cond.code Lib.Math.max.name Lib.Math.max.code 2 (some .int) ∈ tb := tb_in 875 (by decide +kernel) (by decide +kernel)
theorem sx_mmax {x y : Int32} {index : Nat} (hlk : Cond.methodLink M.1.cls index Lib.Math.max.name ∈ tb) (hd1 : 1 ≤ d) (hW : (st.map fun v => v.category).sum ≤ 8) (hdg : DC M pc (.invokestatic index) 3 q) (k : Sx M d inj E q lc (.int (mxI x y) :: st) h) : Sx M d inj E pc lc (.int y :: .int x :: st) h := by
  obtain ⟨hd, rfl⟩ := hdg
  intro p l e s m args below meth c X H locs ls r h' C hP hS hl hE
  have tw : ∀ w ∈ tb, w.before args s = true := fun w hw => C.2.2.2.2.2.1 w (List.mem_cons_of_mem _ hw)
  have hW2 : ((st.map (rl X.1)).map fun v => v.category).sum ≤ 8 := by rw [sum_rl]; exact hW
  exact va_mmax C.1 C.2.1 (C.2.2.2.1.trans hl.1.symm) C.2.2.2.2.1 (tw _ hlk) (tw _ mmax_st) (tw _ math_ini) (tw _ mmax_cd) hd1 (by show _ ≤ 64 * d; omega) (Nat.le_refl _) (Nat.le_refl _) hd (k p l e s m args below meth c X H locs ls r h' C hP hS hl hE)
theorem mmin_st : Cond.static Lib.Math.min.name ∈ tb := tb_in 505 (by decide +kernel) (by decide +kernel)
theorem mmin_cd : Cond.code Lib.Math.min.name Lib.Math.min.code 2 (some .int) ∈ tb := tb_in 506 (by decide +kernel) (by decide +kernel)
theorem sx_mmin {x y : Int32} {index : Nat} (hlk : Cond.methodLink M.1.cls index Lib.Math.min.name ∈ tb) (hd1 : 1 ≤ d) (hW : (st.map fun v => v.category).sum ≤ 8) (hdg : DC M pc (.invokestatic index) 3 q) (k : Sx M d inj E q lc (.int (mnI x y) :: st) h) : Sx M d inj E pc lc (.int y :: .int x :: st) h := by
  obtain ⟨hd, rfl⟩ := hdg
  intro p l e s m args below meth c X H locs ls r h' C hP hS hl hE
  have tw : ∀ w ∈ tb, w.before args s = true := fun w hw => C.2.2.2.2.2.1 w (List.mem_cons_of_mem _ hw)
  have hW2 : ((st.map (rl X.1)).map fun v => v.category).sum ≤ 8 := by rw [sum_rl]; exact hW
  exact va_mmin C.1 C.2.1 (C.2.2.2.1.trans hl.1.symm) C.2.2.2.2.1 (tw _ hlk) (tw _ mmin_st) (tw _ math_ini) (tw _ mmin_cd) hd1 (by show _ ≤ 64 * d; omega) (Nat.le_refl _) (Nat.le_refl _) hd (k p l e s m args below meth c X H locs ls r h' C hP hS hl hE)
theorem mabsL_st : Cond.static Lib.MathLoose.abs_long.x ∈ tb := tb_in 1621 (by decide +kernel) (by decide +kernel)
theorem mabsL_cd : Cond.code Lib.MathLoose.abs_long.x Lib.MathLoose.abs_long.code 2 (some .long) ∈ tb := tb_in 1622 (by decide +kernel) (by decide +kernel)
theorem sx_mabsL {x : Int64} {index : Nat} (hlk : Cond.methodLink M.1.cls index Lib.MathLoose.abs_long.x ∈ tb) (hd1 : 1 ≤ d) (hW : (st.map fun v => v.category).sum ≤ 8) (hdg : DC M pc (.invokestatic index) 3 q) (k : Sx M d inj E q lc (.long (abL x) :: st) h) : Sx M d inj E pc lc (.long x :: st) h := by
  obtain ⟨hd, rfl⟩ := hdg
  intro p l e s m args below meth c X H locs ls r h' C hP hS hl hE
  have tw : ∀ w ∈ tb, w.before args s = true := fun w hw => C.2.2.2.2.2.1 w (List.mem_cons_of_mem _ hw)
  have hW2 : ((st.map (rl X.1)).map fun v => v.category).sum ≤ 8 := by rw [sum_rl]; exact hW
  exact va_mabs_long C.1 C.2.1 (C.2.2.2.1.trans hl.1.symm) C.2.2.2.2.1 (tw _ hlk) (tw _ mabsL_st) (tw _ math_ini) (tw _ mabsL_cd) hd1 (by show _ ≤ 64 * d; omega) (Nat.le_refl _) (Nat.le_refl _) hd (k p l e s m args below meth c X H locs ls r h' C hP hS hl hE)
theorem mmaxL_st : Cond.static Lib.MathLoose.max_long.x ∈ tb := tb_in 784 (by decide +kernel) (by decide +kernel)
theorem mmaxL_cd : Cond.code Lib.MathLoose.max_long.x Lib.MathLoose.max_long.code 4 (some .long) ∈ tb := tb_in 785 (by decide +kernel) (by decide +kernel)
theorem sx_mmaxL {x y : Int64} {index : Nat} (hlk : Cond.methodLink M.1.cls index Lib.MathLoose.max_long.x ∈ tb) (hd1 : 1 ≤ d) (hW : (st.map fun v => v.category).sum ≤ 8) (hdg : DC M pc (.invokestatic index) 3 q) (k : Sx M d inj E q lc (.long (mxL x y) :: st) h) : Sx M d inj E pc lc (.long y :: .long x :: st) h := by
  obtain ⟨hd, rfl⟩ := hdg
  intro p l e s m args below meth c X H locs ls r h' C hP hS hl hE
  have tw : ∀ w ∈ tb, w.before args s = true := fun w hw => C.2.2.2.2.2.1 w (List.mem_cons_of_mem _ hw)
  have hW2 : ((st.map (rl X.1)).map fun v => v.category).sum ≤ 8 := by rw [sum_rl]; exact hW
  exact va_mmax_long C.1 C.2.1 (C.2.2.2.1.trans hl.1.symm) C.2.2.2.2.1 (tw _ hlk) (tw _ mmaxL_st) (tw _ math_ini) (tw _ mmaxL_cd) hd1 (by show _ ≤ 64 * d; omega) (Nat.le_refl _) (Nat.le_refl _) hd (k p l e s m args below meth c X H locs ls r h' C hP hS hl hE)
theorem mminL_st : Cond.static Lib.MathLoose.min_long.x ∈ tb := tb_in 781 (by decide +kernel) (by decide +kernel)
theorem mminL_cd : Cond.code Lib.MathLoose.min_long.x Lib.MathLoose.min_long.code 4 (some .long) ∈ tb := tb_in 782 (by decide +kernel) (by decide +kernel)
theorem sx_mminL {x y : Int64} {index : Nat} (hlk : Cond.methodLink M.1.cls index Lib.MathLoose.min_long.x ∈ tb) (hd1 : 1 ≤ d) (hW : (st.map fun v => v.category).sum ≤ 8) (hdg : DC M pc (.invokestatic index) 3 q) (k : Sx M d inj E q lc (.long (mnL x y) :: st) h) : Sx M d inj E pc lc (.long y :: .long x :: st) h := by
  obtain ⟨hd, rfl⟩ := hdg
  intro p l e s m args below meth c X H locs ls r h' C hP hS hl hE
  have tw : ∀ w ∈ tb, w.before args s = true := fun w hw => C.2.2.2.2.2.1 w (List.mem_cons_of_mem _ hw)
  have hW2 : ((st.map (rl X.1)).map fun v => v.category).sum ≤ 8 := by rw [sum_rl]; exact hW
  exact va_mmin_long C.1 C.2.1 (C.2.2.2.1.trans hl.1.symm) C.2.2.2.2.1 (tw _ hlk) (tw _ mminL_st) (tw _ math_ini) (tw _ mminL_cd) hd1 (by show _ ≤ 64 * d; omega) (Nat.le_refl _) (Nat.le_refl _) hd (k p l e s m args below meth c X H locs ls r h' C hP hS hl hE)
def cpI {β : Type} (h : HH) (a b n : Nat) (K : HH → Option β) : Option β := K (fun x i => if x = b ∧ i < n then h.1 a i else h.1 x i, h.2)
theorem wK_a2 {X : CX} {U : State} (h : wK X U) {a t n m a' t' n' m' : Nat} (hs : shL[a]? = some (.inr (t, n, m))) (hs' : shL[a']? = some (.inr (t', n', m'))) : va_K X.2.1 cls [(X.2.2 a, tyA t), (X.2.2 a', tyA t')] U :=
  ⟨h.1.1, fun k q hk => by
    rcases k with _ | _ | k
    · cases hk; exact h.2.1 a t n m hs
    · cases hk; exact h.2.1 a' t' n' m' hs'
    · simp at hk⟩
theorem cp_lk : Cond.native arraycopyName ∈ tb ∧ Cond.static arraycopyName ∈ tb ∧ Cond.initialized "java/lang/System" ∈ tb := ⟨tb_in 715 (by decide +kernel) (by decide +kernel), tb_in 714 (by decide +kernel) (by decide +kernel), tb_in 19 (by decide +kernel) (by decide +kernel)⟩
theorem sx_copy {a b n index : Nat} {v : Int32} {k : HH → Option (α × HH)} (hsa : shL[a]? = some (.inr (0, n, 0))) (hsb : shL[b]? = some (.inr (0, n, 0))) (hv : nI n = v) (hn : n < 2 ^ 31) (hlk : Cond.methodLink M.1.cls index arraycopyName ∈ tb) (hd1 : 1 ≤ d) (hW : (st.map fun v => v.category).sum ≤ 8) (hdg : DC M pc (.invokestatic index) 3 q) (kk : ∀ h, Sx M d inj (k h) q lc st h) : Sx M d inj (cpI h a b n k) pc lc (.int v :: .int 0 :: .ref b :: .int 0 :: .ref a :: st) h := by
  subst hv
  obtain ⟨hd, rfl⟩ := hdg
  intro p l e s m args below meth c X H locs ls r h' C hP hS hl hE
  have tw : ∀ w ∈ tb, w.before args s = true := fun w hw => C.2.2.2.2.2.1 w (List.mem_cons_of_mem _ hw)
  have hW2 : ((st.map (rl X.1)).map fun v => v.category).sum ≤ 8 := by rw [sum_rl]; exact hW
  have e0 : (0 : Int32).toNatClampNeg = 0 := rfl
  have e1 : (nI n).toNatClampNeg = n := nI_clamp hn
  have hnw : nativeFrameWords "java/lang/System" "arraycopy" 5 = 7 := by decide
  refine va_copyi C.1 C.2.1 (C.2.2.2.1.trans hl.1.symm) C.2.2.2.2.1 (tw _ hlk) (tw _ cp_lk.1) (tw _ cp_lk.2.1) (tw _ cp_lk.2.2) (wK_a2 C.2.2.2.2.2.2.2.1 hsa hsb) hP (wD X C.2.2.2.2.2.2.2.2.1 h) hS a b 0 1 (ws_a X h hsa) (ws_a X h hsb) rfl rfl rfl (by decide) (by decide) (nI_pos hn) (by rw [e0, e1]; omega) (by rw [e0, e1]; omega) (fun i hi => rfl) hd1 (by rw [hnw]; show _ ≤ 64 * d; omega) hd ?_
  intro H1 locs1 hP1 hD1 hS1
  rw [e0, e1] at hP1
  have eW : (wsW X h).set b (X.1 b, .inl (X.2.2 b, n, .inl (va_cpy (h.1 a) (h.1 b) 0 0 n))) = wsW X (fun x i => if x = b ∧ i < n then h.1 a i else h.1 x i, h.2) := by
    refine ws_set (sh_lt hsb) ?_ (fun c hc _ => cE_same (fun i => by simp [hc]) (fun i => rfl) (fun _ _ _ _ => rfl))
    rw [cE_a hsb]
    have e : (fun i => if i < n then h.1 a i else h.1 b i) = va_cpy (h.1 a) (h.1 b) 0 0 n := by funext i; simp [va_cpy]
    simp [aE, e]
  rw [eW] at hP1
  exact kk _ p l e s m args below meth c X H1 locs1 ls r h' C hP1 hS1 hl hE
theorem ne_toInt {x c : Int32} {k : Int} (h : ¬ x = c) (hc : c.toInt = k) : x.toInt ≠ k := fun e => h (Int32.toInt_inj.mp (e.trans hc.symm))
def DW (M : MI) (pc : Nat) (i : Instr) : Prop := ∃ len, decode M.2.1 pc = .ok (i, len)
theorem sx_tsIn {dflt lo hi : Int} {offs : Array Int} {x : Int32} {off : Int} {t : Nat} (hdg : DW M pc (.tableswitch dflt lo hi offs)) (h1 : ¬ x.toInt < lo) (h2 : ¬ hi < x.toInt) (ho : offs[(x.toInt - lo).toNat]? = some off) (ht : (pc : Int) + off = (t : Int)) (k : Sx M d inj E t lc st h) : Sx M d inj E pc lc (.int x :: st) h := by
  obtain ⟨len, hd⟩ := hdg
  intro p l e s m args below meth c X H locs ls r h' C hP hS hl hE
  exact lv_tableIn C.1 C.2.1 hd h1 h2 ho ht (k p l e s m args below meth c X H locs ls r h' C hP hS hl hE)
theorem sx_tsOut {dflt lo hi : Int} {offs : Array Int} {x : Int32} {t : Nat} (hdg : DW M pc (.tableswitch dflt lo hi offs)) (h1 : x.toInt < lo ∨ hi < x.toInt) (ht : (pc : Int) + dflt = (t : Int)) (k : Sx M d inj E t lc st h) : Sx M d inj E pc lc (.int x :: st) h := by
  obtain ⟨len, hd⟩ := hdg
  intro p l e s m args below meth c X H locs ls r h' C hP hS hl hE
  exact lv_tableOut C.1 C.2.1 hd h1 ht (k p l e s m args below meth c X H locs ls r h' C hP hS hl hE)
theorem sx_lsw {dflt : Int} {ps : Array (Int × Int)} {x : Int32} {off : Int} {t : Nat} (hdg : DW M pc (.lookupswitch dflt ps)) (hp : (ps.toList.zip (ps.toList.drop 1)).all (fun (a, next) => a.1 < next.1) = true) (ho : Op.lookupswitch.offset ps.toList dflt x.toInt = off) (ht : (pc : Int) + off = (t : Int)) (k : Sx M d inj E t lc st h) : Sx M d inj E pc lc (.int x :: st) h := by
  obtain ⟨len, hd⟩ := hdg
  intro p l e s m args below meth c X H locs ls r h' C hP hS hl hE
  exact lv_lookup C.1 C.2.1 hd hp ho ht (k p l e s m args below meth c X H locs ls r h' C hP hS hl hE)
end SY
