/-! a row of rows of ints, made at once -/
/-- what stands when i of the inner rows are made -/
def mwS (s : State) (cA cI : ClassId) (n k : Nat) : Nat → State
  | 0 => s.pushCell (arrV cA n (fun _ => .null))
  | i + 1 => ((mwS s cA cI n k i).pushCell (arrV cI k (fun _ => .int 0))).setCell s.heap.size (arrV cA n (fun j => if j < i + 1 then .ref (s.heap.size + 1 + j) else .null))
theorem mw_upd (cA : ClassId) (n b i : Nat) : (arrV cA n (fun j => if j < i then .ref (b + 1 + j) else .null)).setSlot i (.ref (b + 1 + i)) = arrV cA n (fun j => if j < i + 1 then .ref (b + 1 + j) else .null) := by
  rw [arrV_store]
  refine arrV_eq fun j _ => ?_
  show (if j = i then Value.ref (b + 1 + i) else if j < i then Value.ref (b + 1 + j) else Value.null) = if j < i + 1 then Value.ref (b + 1 + j) else Value.null
  by_cases y : j = i
  · subst y; rw [if_pos rfl, if_pos (by omega)]
  · rw [if_neg y]
    by_cases y2 : j < i
    · rw [if_pos y2, if_pos (by omega)]
    · rw [if_neg y2, if_neg (by omega)]
theorem mw_all (s : State) (cA cI : ClassId) (n k : Nat) : ∀ i, (mwS s cA cI n k i).heap.size = s.heap.size + 1 + i ∧ (mwS s cA cI n k i).heap[s.heap.size]? = some (arrV cA n (fun j => if j < i then .ref (s.heap.size + 1 + j) else .null)) ∧ (∀ q, q < s.heap.size → (mwS s cA cI n k i).heap[q]? = s.heap[q]?) ∧ (∀ j, j < i → (mwS s cA cI n k i).heap[s.heap.size + 1 + j]? = some (arrV cI k (fun _ => .int 0))) ∧ (mwS s cA cI n k i).vm = s.vm ∧ (mwS s cA cI n k i).slotsUsed = s.slotsUsed + n + i * k := by
  intro i
  induction i with
  | zero =>
    refine ⟨by simp [mwS], ?_, fun q hq => State.heap_pushCell_of_lt _ _ hq, fun j hj => absurd hj (Nat.not_lt_zero _), rfl, ?_⟩
    · rw [show (arrV cA n (fun j => if j < 0 then Value.ref (s.heap.size + 1 + j) else .null)) = arrV cA n (fun _ => .null) from arrV_eq fun j _ => by rw [if_neg (Nat.not_lt_zero _)]]
      exact State.heap_pushCell_size _ _
    · simp [mwS, arrV_size]
  | succ i ih =>
    obtain ⟨a1, a2, a3, a4, a5, a6⟩ := ih
    have lt0 : s.heap.size < (mwS s cA cI n k i).heap.size := by omega
    have same : ∀ q, q ≠ s.heap.size → (mwS s cA cI n k (i + 1)).heap[q]? = ((mwS s cA cI n k i).pushCell (arrV cI k (fun _ => .int 0))).heap[q]? := fun q hq => State.heap_setCell_other (Ne.symm hq)
    refine ⟨?_, ?_, fun q hq => ?_, fun j hj => ?_, ?_, ?_⟩
    · simp [mwS, State.setCell, a1]; omega
    · exact State.heap_setCell_self (by rw [State.heap_pushCell_of_lt (h := lt0)]; exact a2)
    · have hlt : q < (mwS s cA cI n k i).heap.size := by omega
      rw [same q (Nat.ne_of_lt hq), State.heap_pushCell_of_lt (h := hlt)]; exact a3 q hq
    · rw [same _ (by omega)]
      by_cases y : j < i
      · have hlt : s.heap.size + 1 + j < (mwS s cA cI n k i).heap.size := by omega
        rw [State.heap_pushCell_of_lt (h := hlt)]; exact a4 j y
      · obtain rfl : j = i := by omega
        rw [← a1]
        exact State.heap_pushCell_size _ _
    · simp [mwS, a5]
    · simp [mwS, a6, arrV_size, Nat.succ_mul]; omega
theorem mw_top (s : State) (f : JFrame) (cA cI : ClassId) (n k : Nat) : ∀ i, mwS (s.setTop f) cA cI n k i = (mwS s cA cI n k i).setTop f := by
  intro i
  induction i with
  | zero => rfl
  | succ i ih => simp only [mwS, ih, State.heap_setTop, State.pushCell_setTop, State.setCell_setTop]
section MW
variable {E : CtlPost} {e : Env} {d : Bool} {acts : List Action} {s : State}
theorem mw_one {cI cc : ClassId} {kc : Class} {k : Int32} (hk : s.vm.classes[cI]? = some kc) (hkind : kc.kind = .array cc .int) (h0 : ¬ k < 0) (hl : ¬ k.toNatClampNeg > e.platform.arrayLengthLimit) (hh : ¬ k.toNatClampNeg * componentBytes .int > e.platform.maxHeapBytes) (h1 : s.heap.size < e.platform.maxCells) (h2 : s.slotsUsed + k.toNatClampNeg ≤ e.platform.maxSlots)
    {Q : Addr → Bool → List Action → State → Prop} (hq : ∀ acts', Q s.heap.size d acts' (s.pushCell (arrV cI k.toNatClampNeg (fun _ => .int 0)))) : wp (Op.multianewarray.make cI [k]) Q E e d acts s := by
  rw [Op.multianewarray.make]
  simp only [wp_bind', W.ite, h0, if_false, wp_pure', W.theClass, hk, hkind, Option.some.injEq, exists_eq_left']
  refine W.newArray_of hk hkind hl hh h1 h2 rfl (fun acts' => ?_)
  have := hq acts'
  rw [← arrV_new] at this
  exact this
theorem mw_two {cA cI cc : ClassId} {kA kc : Class} {n k : Int32} (hkA : s.vm.classes[cA]? = some kA) (hkindA : kA.kind = .array cI (.array .int)) (hk : s.vm.classes[cI]? = some kc) (hkind : kc.kind = .array cc .int) (hn : ¬ n < 0) (h0 : ¬ k < 0) (hlA : ¬ n.toNatClampNeg > e.platform.arrayLengthLimit) (hhA : ¬ n.toNatClampNeg * componentBytes (.array .int) > e.platform.maxHeapBytes) (hl : ¬ k.toNatClampNeg > e.platform.arrayLengthLimit) (hh : ¬ k.toNatClampNeg * componentBytes .int > e.platform.maxHeapBytes)
    (h1 : s.heap.size + 1 + n.toNatClampNeg ≤ e.platform.maxCells) (h2 : s.slotsUsed + n.toNatClampNeg + n.toNatClampNeg * k.toNatClampNeg ≤ e.platform.maxSlots)
    {Q : Addr → Bool → List Action → State → Prop} (hq : ∀ d' acts', Q s.heap.size d' acts' (mwS s cA cI n.toNatClampNeg k.toNatClampNeg n.toNatClampNeg)) : wp (Op.multianewarray.make cA [n, k]) Q E e d acts s := by
  have hfind : ([k].find? (· < 0)) = none := by simp [h0]
  rw [Op.multianewarray.make]
  simp only [wp_bind', W.ite, hn, if_false, wp_pure', W.theClass, hkA, hkindA, Option.some.injEq, exists_eq_left']
  refine W.newArray_of hkA hkindA hlA hhA (by omega) (by omega) rfl (fun acts' => ?_)
  simp only [hfind]
  rw [ite_self, wp_bind', Std.Legacy.Range.forIn_eq_forIn_range', show ([:n.toNatClampNeg] : Std.Legacy.Range).size = n.toNatClampNeg by simp [Std.Legacy.Range.size]]
  show wp (forIn (List.range' 0 n.toNatClampNeg 1) PUnit.unit _) _ E e d acts' _
  refine wp_forIn_inv (fun left t => ∃ i, i + left.length = n.toNatClampNeg ∧ left = List.range' i left.length ∧ t = mwS s cA cI n.toNatClampNeg k.toNatClampNeg i) _ _ ⟨0, by simp, by simp, ?_⟩ ?_ ?_
  · show s.pushCell _ = s.pushCell _
    rw [← arrV_new]
  · rintro x left t d' acts2 Q' ⟨i, hi, hlft, rfl⟩ next
    rw [List.length_cons] at hi hlft
    rw [List.range'_succ] at hlft
    obtain ⟨rfl, hl2⟩ := List.cons.inj hlft
    obtain ⟨a1, a2, a3, a4, a5, a6⟩ := mw_all s cA cI n.toNatClampNeg k.toNatClampNeg x
    have hmul : x * k.toNatClampNeg + k.toNatClampNeg ≤ n.toNatClampNeg * k.toNatClampNeg := by
      have := Nat.mul_le_mul_right k.toNatClampNeg (show x + 1 ≤ n.toNatClampNeg by omega)
      rwa [Nat.succ_mul] at this
    simp only [wp_bind']
    refine mw_one (by rw [a5]; exact hk) hkind h0 hl hh (by omega) (by omega) (fun acts3 => ?_)
    have lt0 : s.heap.size < (mwS s cA cI n.toNatClampNeg k.toNatClampNeg x).heap.size := by omega
    simp only [wp_bind', W.writeLoc, wp_pure']
    refine ⟨_, by rw [State.heap_pushCell_of_lt (h := lt0)]; exact a2, (fun z => by cases z), by rw [arrV_size]; omega, ?_, next _ _ _ ⟨x + 1, by omega, hl2, ?_⟩⟩
    · simp [State.fitsSlot, State.slotType?, arrV, a5, hkA, hkindA, fits]
    · rw [a1, mw_upd]
      rfl
  · rintro t d' acts2 ⟨i, hi, hlft, rfl⟩
    simp only [List.length_nil, Nat.add_zero] at hi
    subst hi
    simp only [wp_pure']
    exact hq _ _
end MW
section MWS
variable {p : Program} {l : Launch} {e : Env} {R : Room} {s : State} {m : MethodId} {args : Array Value} {below : List Frame} {meth : Method} {c : Code} {T : State} {H : Heap} {locs : List Loc} {cells slots : Nat} {Q : State → Prop} {cc : ByteArray}
theorem mw_stand (X : Stand p l e R s m args below meth c T locs cells slots) (cA cI : ClassId) (n k : Nat) : ∀ i, ∃ L : List Loc, (∀ q ∈ L, q.base = T.heap.size) ∧ Stand p l e R s m args below meth c (mwS T cA cI n k i) (locs ++ L) (cells + 1 + i) (slots + n + i * k) := by
  intro i
  induction i with
  | zero =>
    refine ⟨[], (fun q hq => nomatch hq), ?_⟩
    have h := X.pushed (arrV cA n (fun _ => .null))
    rw [arrV_size] at h
    rw [List.append_nil, Nat.zero_mul]
    exact h
  | succ i ih =>
    obtain ⟨L, hL, Xi⟩ := ih
    obtain ⟨a1, a2, -, -, -, -⟩ := mw_all T cA cI n k i
    have lt0 : T.heap.size < (mwS T cA cI n k i).heap.size := by omega
    have hcell := State.heap_pushCell_of_lt (mwS T cA cI n k i) (arrV cI k (fun _ => .int 0)) lt0
    rw [a2] at hcell
    have h := (Xi.pushed (arrV cI k (fun _ => .int 0))).stored hcell i (.ref (T.heap.size + 1 + i))
    rw [mw_upd, arrV_size] at h
    refine ⟨L ++ [⟨T.heap.size, i⟩], fun q hq => ?_, ?_⟩
    · rcases List.mem_append.mp hq with hq | hq
      · exact hL q hq
      · rw [List.mem_singleton.mp hq]
    · rw [← List.append_assoc, show slots + n + (i + 1) * k = slots + n + i * k + k by rw [Nat.succ_mul]; omega]
      exact h
theorem w_multi (hexec : p.tables.exec = Jvm.exec) (hb : c.code = cc) {own : String} {index : Nat} (hown : s.vm.findClass own = some m.cls) (hclink : (Cond.classLink own index ("[" ++ (FieldType.array .int).toString)).before args s = true) (hover : (Cond.arrayOver (.array .int)).before args s = true) (harr : (Cond.arrayClass .int).before args s = true)
    {g : JFrame} (hg : g.method = m) (hdg : decode cc g.pc = .ok (.multianewarray index 2, 4)) {n k : Int32} {N K : Nat} {rest : List Value} (hstack : g.stack = .int k :: .int n :: rest) (hn : ¬ n < 0) (hk : ¬ k < 0) (hN : n.toNatClampNeg = N) (hK : k.toNatClampNeg = K) (hN4 : N ≤ 1000) (hK4 : K ≤ 1000) (hcells : cells + (1 + N) ≤ R.cells) (hslots : slots + (N + N * K) ≤ R.slots)
    (kk : ∀ (H1 : Heap) (cA cI : ClassId) (L : List Loc), s.vm.findClass ("[" ++ (FieldType.array .int).toString) = some cA → s.vm.findClass (FieldType.array .int).toString = some cI → H1.size = H.size + 1 + N → H1[H.size]? = some (arrV cA N (fun j => if j < N then .ref (H.size + 1 + j) else .null)) → (∀ q, q < H.size → H1[q]? = H[q]?) → (∀ j, j < N → H1[H.size + 1 + j]? = some (arrV cI K (fun _ => .int 0))) → (∀ q ∈ L, q.base = H.size) →
      W p l e R s m args below meth c H1 (locs ++ L) (cells + 1 + N) (slots + N + N * K) Q { g with pc := g.pc + 4, stack := .ref H.size :: rest }) : W p l e R s m args below meth c H locs cells slots Q g := by
  intro T hT X
  subst hT; subst hb; subst hg; subst hN; subst hK
  have hpl : e.platform.magicAccessors = ({} : Platform).magicAccessors := by rw [X.admits.platform]
  obtain ⟨cI, cA, kA, hcomp, -, hkA, hkindA, hnameA⟩ := arrayOverA_spec hover
  obtain ⟨cI', kC, cc', hcomp', hkC, hkindC⟩ := Cond.arrayClass_spec harr
  obtain rfl : cI' = cI := Option.some.inj (hcomp'.symm.trans hcomp)
  obtain ⟨c0, hfc0, hcl⟩ := Cond.classLink_spec hown hclink e.platform hpl
  obtain rfl : c0 = cA := Option.some.inj (hfc0.symm.trans hnameA)
  obtain ⟨hg₁, hwarm₁, hready₁⟩ := State.classEntry (e := e) X.warmed hcl
  generalize T.vm.noted g.method.cls index (.cls c0) = vm₁ at hg₁ hwarm₁ hready₁
  have hal : s.vm.Alike vm₁ := hwarm₁.alike
  obtain ⟨kA₁, hkA₁, heA⟩ := hal.2.2 _ _ hkA
  obtain ⟨kC₁, hkC₁, heC⟩ := hal.2.2 _ _ hkC
  have hkindA₁ : kA₁.kind = .array cI' (.array .int) := by rw [heA]; exact hkindA
  have hkindC₁ : kC₁.kind = .array cc' .int := by rw [heC]; exact hkindC
  have X₁ := X.noted hwarm₁
  obtain ⟨hr1, hr2⟩ := X.roomAbove hcells hslots
  have hl1 : ¬ n.toNatClampNeg > e.platform.arrayLengthLimit := by rw [Launch.admits_arrayLengthLimit X.admits]; omega
  have hh1 : ¬ n.toNatClampNeg * componentBytes (.array .int) > e.platform.maxHeapBytes := by
    rw [Launch.admits_maxHeapBytes X.admits]; show ¬ n.toNatClampNeg * 4 > 536870912; omega
  have hl2 : ¬ k.toNatClampNeg > e.platform.arrayLengthLimit := by rw [Launch.admits_arrayLengthLimit X.admits]; omega
  have hh2 : ¬ k.toNatClampNeg * componentBytes .int > e.platform.maxHeapBytes := by
    rw [Launch.admits_maxHeapBytes X.admits]; show ¬ k.toNatClampNeg * 4 > 536870912; omega
  obtain ⟨L, hL, XF⟩ := mw_stand X₁ c0 cI' n.toNatClampNeg k.toNatClampNeg n.toNatClampNeg
  obtain ⟨a1, a2, a3, a4, a5, a6⟩ := mw_all (T.setVm vm₁) c0 cI' n.toNatClampNeg k.toNatClampNeg n.toNatClampNeg
  obtain ⟨t, b1, b2⟩ := kk _ c0 cI' L hnameA hcomp a1 a2 a3 a4 hL _ rfl XF
  refine ⟨t, ?_, b2⟩
  jvm_step X.here [hexec, hdg]
  simp only [multianewarray.sem, wp_bind', W.resolveClassAt_links (State.method?_setTop g X.here.top) hg₁]
  rw [W.popN, if_neg (by decide)]
  refine ⟨g, State.topJava?_setTop' (s := T.setVm vm₁) g X.here.top, [.int n, .int k], rest, rfl, hstack, ?_⟩
  simp only [List.mapM_cons, List.mapM_nil, wp_bind', wp_pure']
  have eS : ((T.setTop g).setVm vm₁).setTop { g with stack := rest } = (T.setVm vm₁).setTop { g with stack := rest } := by
    show ((T.setVm vm₁).setTop g).setTop _ = _
    rw [State.setTop_setTop]
  rw [eS]
  refine mw_two (s := (T.setVm vm₁).setTop { g with stack := rest }) hkA₁ hkindA₁ hkC₁ hkindC₁ hn hk hl1 hh1 hl2 hh2 (by show T.heap.size + 1 + _ ≤ _; omega) (by show T.slotsUsed + _ + _ ≤ _; omega) (fun d' acts' => ?_)
  rw [mw_top]
  simp only [wp_bind', W.mark, W.pushRef, State.topJava?_setTop' _ XF.here.top, Option.some.injEq, exists_eq_left', State.setTop_setTop, State.heap_setTop]
  intro acts
  simp [jvm, XF.here.top]
  exact b1
end MWS
theorem cx_multi {M : MI} {d mc ms z ci a n : Nat} {h' : HH} {pc q : Nat} {fs : List Value} {m sl : Nat} {lc : List (Nat × Value)} {st : List Value} {h : HH} {N K index : Nat} (hs0 : shL[a + 1 + m]? = some (.inr (5, N, 3))) (hsi : ∀ j, j < N → shL[a + 1 + m + 1 + j]? = some (.inr (0, K, 0)) ∧ h.1 (a + 1 + m + 1 + j) = fun _ => 0) (hN1 : 0 < N) (hcl : Cond.classLink M.1.cls index "[[I" ∈ tb) (har : Cond.arrayClass .int ∈ tb) (hN : N ≤ 1000) (hK : K ≤ 1000) (hmc : m + 1 + N ≤ mc) (hms : sl + N + N * K ≤ ms) (hdg : DC M pc (.multianewarray index 2) 4 q) (k : Cx M d mc ms z ci a n h' q fs (m + 1 + N) (sl + N + N * K) lc (.ref (a + 1 + m) :: st) h) : Cx M d mc ms z ci a n h' pc fs m sl lc (.int (nI K) :: .int (nI N) :: st) h := by
  obtain ⟨hd, rfl⟩ := hdg
  intro p l e s mth args below meth c X H locs ls C hO hZ hi hs hP hS hl
  have tw : ∀ w ∈ tb, w.before args s = true := fun w hw => C.2.2.2.2.2.1 w (List.mem_cons_of_mem _ hw)
  have hlast := sh_lt (hsi (N - 1) (by omega)).1
  have hx : X.1 (a + 1 + m) = z + (a + 1 + m) := hZ _ (by omega)
  have hK9 := C.2.2.2.2.2.2.2.1
  refine w_multi (N := N) (K := K) C.1 C.2.1 C.2.2.2.2.1 (index := index) (tw _ hcl) hO.2 (tw _ har) (g := F0 mth pc ls (.int (nI K) :: .int (nI N) :: st.map (rl X.1))) rfl hd rfl (nI_pos (by omega)) (nI_pos (by omega)) (nI_clamp (by omega)) (nI_clamp (by omega)) hN hK (by show m + (1 + N) ≤ mc; omega) (by show sl + (N + N * K) ≤ ms; omega) (fun H1 cA cI L f1 f2 e1 e2 e3 e4 e5 => ?_)
  have eH : H.size = X.1 (a + 1 + m) := by rw [hs, hx]; omega
  rw [eH] at e1 e2 e3 e4 e5 ⊢
  obtain ⟨hP1, hP2⟩ := wB_P.mp hP
  have hcA : cA = X.2.2 (a + 1 + m) := Option.some.inj (f1.symm.trans ((hK9.2.1 _ _ _ _ hs0).2))
  have lt : ∀ i, i ≤ m → X.1 (a + i) < X.1 (a + 1 + m) := fun i hi => by rw [hx, hZ _ (by omega)]; omega
  refine k p l e s mth args below meth c X H1 (locs ++ L) ls C hO hZ hi (by rw [e1, hx]; omega) (wB_P.mpr ⟨at_kept hP1 (e3 _ (lt 0 (by omega))), fun i hi => ?_⟩) ⟨Nat.le_trans hS.1 (by rw [e1, hs, hx]; omega), fun x x1 x2 => ?_, fun w hw => ?_⟩ hl
  · by_cases y : i < m
    · exact at_kept (hP2 i y) (e3 _ (by rw [show a + 1 + i = a + (1 + i) by omega]; exact lt _ (by omega)))
    · by_cases y2 : i = m
      · subst y2
        rw [cE_a hs0]
        show H1[X.1 (a + 1 + i)]? = some (vp_cell _ _)
        rw [vp_cell_q, e2, hcA]
        congr 1
        refine arrV_eq fun j hj => ?_
        rw [if_pos hj, hx, show a + 1 + i + 1 + 1 * j = a + 1 + i + 1 + j by omega, hZ _ (by have := sh_lt (hsi j hj).1; omega)]
        exact congrArg Value.ref (show (z + (a + 1 + i) + 1 + j : Nat) = z + (a + 1 + i + 1 + j) by omega)
      · obtain ⟨j, rfl⟩ : ∃ j, i = m + 1 + j := ⟨i - (m + 1), by omega⟩
        have hj : j < N := by omega
        obtain ⟨g1, g2⟩ := hsi j hj
        rw [show a + 1 + (m + 1 + j) = a + 1 + m + 1 + j by omega, cE_a g1]
        have hcI : cI = X.2.2 (a + 1 + m + 1 + j) := Option.some.inj (f2.symm.trans ((hK9.2.1 _ _ _ _ g1).2))
        have e6 := e4 j hj
        rw [show X.1 (a + 1 + m) + 1 + j = X.1 (a + 1 + m + 1 + j) by rw [hx, hZ _ (sh_lt g1)]; omega, hcI] at e6
        show H1[X.1 (a + 1 + m + 1 + j)]? = _
        rw [e6]
        simp only [aE, g2]
        rfl
  · rw [e3 x (by have := hS.1; rw [hs] at this; omega), hS.2.1 x x1 x2]
  · rcases List.mem_append.mp hw with hw | hw
    · exact hS.2.2 w hw
    · show z + a ≤ w.base
      rw [e5 w hw, hx]; omega
