/-! a row of rows of ints, made at once -/
/-- what stands when i of the inner rows are made -/
def mwS (s : State) (cA cI : ClassId) (n k : Nat) : Nat → State
  | 0 => s.pushCell (arrV cA n (fun _ => .null))
  | i + 1 => ((mwS s cA cI n k i).pushCell (arrV cI k (fun _ => .int 0))).setCell s.heap.size (arrV cA n (fun j => if j < i + 1 then .ref (s.heap.size + 1 + j) else .null))
theorem mw_upd (cA : ClassId) (n b i : Nat) : (arrV cA n (fun j => if j < i then .ref (b + 1 + j) else .null)).setSlot i (.ref (b + 1 + i)) = arrV cA n (fun j => if j < i + 1 then .ref (b + 1 + j) else .null) := by
  rw [arrV_store]
  refine arrV_eq fun j _ => ?_
  show (if j = i then Value.ref (b + 1 + i) else if j < i then Value.ref (b + 1 + j) else Value.null) = if j < i + 1 then Value.ref (b + 1 + j) else Value.null
  by_cases y : j = i
  · subst y; rw [if_pos rfl, if_pos (by omega)]
  · rw [if_neg y]
    by_cases y2 : j < i
    · rw [if_pos y2, if_pos (by omega)]
    · rw [if_neg y2, if_neg (by omega)]
theorem mw_all (s : State) (cA cI : ClassId) (n k : Nat) : ∀ i, (mwS s cA cI n k i).heap.size = s.heap.size + 1 + i ∧ (mwS s cA cI n k i).heap[s.heap.size]? = some (arrV cA n (fun j => if j < i then .ref (s.heap.size + 1 + j) else .null)) ∧ (∀ q, q < s.heap.size → (mwS s cA cI n k i).heap[q]? = s.heap[q]?) ∧ (∀ j, j < i → (mwS s cA cI n k i).heap[s.heap.size + 1 + j]? = some (arrV cI k (fun _ => .int 0))) ∧ (mwS s cA cI n k i).vm = s.vm ∧ (mwS s cA cI n k i).slotsUsed = s.slotsUsed + n + i * k := by
  intro i
  induction i with
  | zero =>
    refine ⟨by simp [mwS], ?_, fun q hq => State.heap_pushCell_of_lt _ _ hq, fun j hj => absurd hj (Nat.not_lt_zero _), rfl, ?_⟩
    · rw [show (arrV cA n (fun j => if j < 0 then Value.ref (s.heap.size + 1 + j) else .null)) = arrV cA n (fun _ => .null) from arrV_eq fun j _ => by rw [if_neg (Nat.not_lt_zero _)]]
      exact State.heap_pushCell_size _ _
    · simp [mwS, arrV_size]
  | succ i ih =>
    obtain ⟨a1, a2, a3, a4, a5, a6⟩ := ih
    have lt0 : s.heap.size < (mwS s cA cI n k i).heap.size := by omega
    have same : ∀ q, q ≠ s.heap.size → (mwS s cA cI n k (i + 1)).heap[q]? = ((mwS s cA cI n k i).pushCell (arrV cI k (fun _ => .int 0))).heap[q]? := fun q hq => State.heap_setCell_other (Ne.symm hq)
    refine ⟨?_, ?_, fun q hq => ?_, fun j hj => ?_, ?_, ?_⟩
    · simp [mwS, State.setCell, a1]; omega
    · exact State.heap_setCell_self (by rw [State.heap_pushCell_of_lt (h := lt0)]; exact a2)
    · rw [same q (Nat.ne_of_lt hq), State.heap_pushCell_of_lt (h := by omega)]; exact a3 q hq
    · rw [same _ (by omega)]
      by_cases y : j < i
      · rw [State.heap_pushCell_of_lt (h := by omega)]; exact a4 j y
      · obtain rfl : j = i := by omega
        rw [← a1]
        exact State.heap_pushCell_size _ _
    · simp [mwS, a5]
    · simp [mwS, a6, arrV_size, Nat.succ_mul]; omega
