/-! a row of rows of ints, made at once -/
/-- what stands when i of the inner rows are made -/
def mwS (s : State) (cA cI : ClassId) (n k : Nat) : Nat → State
  | 0 => s.pushCell (arrV cA n (fun _ => .null))
  | i + 1 => ((mwS s cA cI n k i).pushCell (arrV cI k (fun _ => .int 0))).setCell s.heap.size (arrV cA n (fun j => if j < i + 1 then .ref (s.heap.size + 1 + j) else .null))
theorem mw_upd (cA : ClassId) (n b i : Nat) : (arrV cA n (fun j => if j < i then .ref (b + 1 + j) else .null)).setSlot i (.ref (b + 1 + i)) = arrV cA n (fun j => if j < i + 1 then .ref (b + 1 + j) else .null) := by
  rw [arrV_store]
  refine arrV_eq fun j _ => ?_
  show (if j = i then Value.ref (b + 1 + i) else if j < i then Value.ref (b + 1 + j) else Value.null) = if j < i + 1 then Value.ref (b + 1 + j) else Value.null
  by_cases y : j = i
  · subst y; rw [if_pos rfl, if_pos (by omega)]
  · rw [if_neg y]
    by_cases y2 : j < i
    · rw [if_pos y2, if_pos (by omega)]
    · rw [if_neg y2, if_neg (by omega)]
theorem mw_all (s : State) (cA cI : ClassId) (n k : Nat) : ∀ i, (mwS s cA cI n k i).heap.size = s.heap.size + 1 + i ∧ (mwS s cA cI n k i).heap[s.heap.size]? = some (arrV cA n (fun j => if j < i then .ref (s.heap.size + 1 + j) else .null)) ∧ (∀ q, q < s.heap.size → (mwS s cA cI n k i).heap[q]? = s.heap[q]?) ∧ (∀ j, j < i → (mwS s cA cI n k i).heap[s.heap.size + 1 + j]? = some (arrV cI k (fun _ => .int 0))) ∧ (mwS s cA cI n k i).vm = s.vm ∧ (mwS s cA cI n k i).slotsUsed = s.slotsUsed + n + i * k := by
  intro i
  induction i with
  | zero =>
    refine ⟨by simp [mwS], ?_, fun q hq => State.heap_pushCell_of_lt _ _ hq, fun j hj => absurd hj (Nat.not_lt_zero _), rfl, ?_⟩
    · rw [show (arrV cA n (fun j => if j < 0 then Value.ref (s.heap.size + 1 + j) else .null)) = arrV cA n (fun _ => .null) from arrV_eq fun j _ => by rw [if_neg (Nat.not_lt_zero _)]]
      exact State.heap_pushCell_size _ _
    · simp [mwS, arrV_size]
  | succ i ih =>
    obtain ⟨a1, a2, a3, a4, a5, a6⟩ := ih
    have lt0 : s.heap.size < (mwS s cA cI n k i).heap.size := by omega
    have same : ∀ q, q ≠ s.heap.size → (mwS s cA cI n k (i + 1)).heap[q]? = ((mwS s cA cI n k i).pushCell (arrV cI k (fun _ => .int 0))).heap[q]? := fun q hq => State.heap_setCell_other (Ne.symm hq)
    refine ⟨?_, ?_, fun q hq => ?_, fun j hj => ?_, ?_, ?_⟩
    · simp [mwS, State.setCell, a1]; omega
    · exact State.heap_setCell_self (by rw [State.heap_pushCell_of_lt (h := lt0)]; exact a2)
    · have hlt : q < (mwS s cA cI n k i).heap.size := by omega
      rw [same q (Nat.ne_of_lt hq), State.heap_pushCell_of_lt (h := hlt)]; exact a3 q hq
    · rw [same _ (by omega)]
      by_cases y : j < i
      · have hlt : s.heap.size + 1 + j < (mwS s cA cI n k i).heap.size := by omega
        rw [State.heap_pushCell_of_lt (h := hlt)]; exact a4 j y
      · obtain rfl : j = i := by omega
        rw [← a1]
        exact State.heap_pushCell_size _ _
    · simp [mwS, a5]
    · simp [mwS, a6, arrV_size, Nat.succ_mul]; omega
theorem mw_top (s : State) (f : JFrame) (cA cI : ClassId) (n k : Nat) : ∀ i, mwS (s.setTop f) cA cI n k i = (mwS s cA cI n k i).setTop f := by
  intro i
  induction i with
  | zero => rfl
  | succ i ih => simp only [mwS, ih, State.heap_setTop, State.pushCell_setTop, State.setCell_setTop]
section MW
variable {E : CtlPost} {e : Env} {d : Bool} {acts : List Action} {s : State}
theorem mw_one {cI cc : ClassId} {kc : Class} {k : Int32} (hk : s.vm.classes[cI]? = some kc) (hkind : kc.kind = .array cc .int) (h0 : ¬ k < 0) (hl : ¬ k.toNatClampNeg > e.platform.arrayLengthLimit) (hh : ¬ k.toNatClampNeg * componentBytes .int > e.platform.maxHeapBytes) (h1 : s.heap.size < e.platform.maxCells) (h2 : s.slotsUsed + k.toNatClampNeg ≤ e.platform.maxSlots)
    {Q : Addr → Bool → List Action → State → Prop} (hq : ∀ acts', Q s.heap.size d acts' (s.pushCell (arrV cI k.toNatClampNeg (fun _ => .int 0)))) : wp (Op.multianewarray.make cI [k]) Q E e d acts s := by
  rw [Op.multianewarray.make]
  simp only [wp_bind', W.ite, h0, if_false, wp_pure', W.theClass, hk, hkind, Option.some.injEq, exists_eq_left']
  refine W.newArray_of hk hkind hl hh h1 h2 rfl (fun acts' => ?_)
  have := hq acts'
  rw [← arrV_new] at this
  exact this
theorem mw_two {cA cI cc : ClassId} {kA kc : Class} {n k : Int32} (hkA : s.vm.classes[cA]? = some kA) (hkindA : kA.kind = .array cI (.array .int)) (hk : s.vm.classes[cI]? = some kc) (hkind : kc.kind = .array cc .int) (hn : ¬ n < 0) (h0 : ¬ k < 0) (hlA : ¬ n.toNatClampNeg > e.platform.arrayLengthLimit) (hhA : ¬ n.toNatClampNeg * componentBytes (.array .int) > e.platform.maxHeapBytes) (hl : ¬ k.toNatClampNeg > e.platform.arrayLengthLimit) (hh : ¬ k.toNatClampNeg * componentBytes .int > e.platform.maxHeapBytes)
    (h1 : s.heap.size + 1 + n.toNatClampNeg ≤ e.platform.maxCells) (h2 : s.slotsUsed + n.toNatClampNeg + n.toNatClampNeg * k.toNatClampNeg ≤ e.platform.maxSlots)
    {Q : Addr → Bool → List Action → State → Prop} (hq : ∀ d' acts', Q s.heap.size d' acts' (mwS s cA cI n.toNatClampNeg k.toNatClampNeg n.toNatClampNeg)) : wp (Op.multianewarray.make cA [n, k]) Q E e d acts s := by
  have hfind : ([k].find? (· < 0)) = none := by simp [h0]
  rw [Op.multianewarray.make]
  simp only [wp_bind', W.ite, hn, if_false, wp_pure', W.theClass, hkA, hkindA, Option.some.injEq, exists_eq_left']
  refine W.newArray_of hkA hkindA hlA hhA (by omega) (by omega) rfl (fun acts' => ?_)
  simp only [hfind]
  rw [ite_self, wp_bind', Std.Legacy.Range.forIn_eq_forIn_range', show ([:n.toNatClampNeg] : Std.Legacy.Range).size = n.toNatClampNeg by simp [Std.Legacy.Range.size]]
  show wp (forIn (List.range' 0 n.toNatClampNeg 1) PUnit.unit _) _ E e d acts' _
  refine wp_forIn_inv (fun left t => ∃ i, i + left.length = n.toNatClampNeg ∧ left = List.range' i left.length ∧ t = mwS s cA cI n.toNatClampNeg k.toNatClampNeg i) _ _ ⟨0, by simp, by simp, ?_⟩ ?_ ?_
  · show s.pushCell _ = s.pushCell _
    rw [← arrV_new]
  · rintro x left t d' acts2 Q' ⟨i, hi, hlft, rfl⟩ next
    rw [List.length_cons] at hi hlft
    rw [List.range'_succ] at hlft
    obtain ⟨rfl, hl2⟩ := List.cons.inj hlft
    obtain ⟨a1, a2, a3, a4, a5, a6⟩ := mw_all s cA cI n.toNatClampNeg k.toNatClampNeg x
    have hmul : x * k.toNatClampNeg + k.toNatClampNeg ≤ n.toNatClampNeg * k.toNatClampNeg := by
      have := Nat.mul_le_mul_right k.toNatClampNeg (show x + 1 ≤ n.toNatClampNeg by omega)
      rwa [Nat.succ_mul] at this
    simp only [wp_bind']
    refine mw_one (by rw [a5]; exact hk) hkind h0 hl hh (by omega) (by omega) (fun acts3 => ?_)
    have lt0 : s.heap.size < (mwS s cA cI n.toNatClampNeg k.toNatClampNeg x).heap.size := by omega
    simp only [wp_bind', W.writeLoc, wp_pure']
    refine ⟨_, by rw [State.heap_pushCell_of_lt (h := lt0)]; exact a2, (fun z => by cases z), by rw [arrV_size]; omega, ?_, next _ _ _ ⟨x + 1, by omega, hl2, ?_⟩⟩
    · simp [State.fitsSlot, State.slotType?, arrV, a5, hkA, hkindA, fits]
    · rw [a1, mw_upd]
      rfl
  · rintro t d' acts2 ⟨i, hi, hlft, rfl⟩
    simp only [List.length_nil, Nat.add_zero] at hi
    subst hi
    simp only [wp_pure']
    exact hq _ _
end MW
