/-! a line that tells a law -/
theorem dpS_dpl (kd : Nat → Int32) : ∀ (X : List (Int32 × Int32)) (s d : Nat), (∀ j x, X[j]? = some x → kd (s + j) = x.1) → dpS kd X.length s d = dpl X d
  | [], s, d, _ => rfl
  | x :: r, s, d, h => by
    have h0 : kd s = x.1 := h 0 x rfl
    have ih := fun d' => dpS_dpl kd r (s + 1) d' fun j y hy => by
      rw [show s + 1 + j = s + (j + 1) by omega]
      exact h (j + 1) y hy
    show dpS kd (r.length + 1) s d = _
    unfold dpS dpl
    rw [h0, ih, ih, ih]
theorem sg_n : ∀ q, q ∈ sgL → q.1 = nI (q.1).toNatClampNeg ∧ (q.1).toNatClampNeg ≤ 16 := by decide +kernel
/-- every kind is a small number -/
theorem kd_nat {k v s u : Int32} (h : sv k v s u) : ∃ m : Nat, m ≤ 40 ∧ k = nI m ∧ ((∃ q, q < 3 ∧ m = 28 + q) ↔ (s = 0 ∧ ∃ q, q < 3 ∧ u = nI (11 + q))) ∧ ∀ q, q < 3 → m = 28 + q → u = nI (11 + q) := by
  rcases h with ⟨rfl, rfl⟩ | ⟨rfl, rfl⟩ | ⟨rfl, rfl, _⟩ | ⟨rfl, rfl, _⟩ | ⟨j, hj, rfl, rfl, rfl⟩ | ⟨q, hq, rfl, rfl, rfl⟩
  · exact ⟨0, by omega, rfl, ⟨fun ⟨q, _, z⟩ => by omega, fun z => absurd z.1 (by decide)⟩, fun q _ z => by omega⟩
  · exact ⟨1, by omega, rfl, ⟨fun ⟨q, _, z⟩ => by omega, fun z => absurd z.1 (by decide)⟩, fun q _ z => by omega⟩
  · exact ⟨2, by omega, rfl, ⟨fun ⟨q, _, z⟩ => by omega, fun z => absurd z.1 (by decide)⟩, fun q _ z => by omega⟩
  · exact ⟨3, by omega, rfl, ⟨fun ⟨q, _, z⟩ => by omega, fun z => absurd z.1 (by decide)⟩, fun q _ z => by omega⟩
  · have hw := w_lt hj
    have key : ∀ q, q < 3 → (17 + sW j = 28 + q ↔ j = 11 + q) := by
      intro q hq
      have e2 := (sW_f j hj).2.1
      constructor
      · intro z
        have : sW j = 11 + q := by omega
        have hs : sW (11 + q) = 11 + q := by unfold sW; rw [if_neg (by omega), if_neg (by omega)]
        rw [this, hs] at e2
        omega
      · intro z
        have hs : sW j = j := by unfold sW; rw [if_neg (by omega), if_neg (by omega)]
        omega
    refine ⟨17 + sW j, by omega, rfl, ⟨fun ⟨q, h1, h2⟩ => ⟨rfl, q, h1, by rw [(key q h1).mp h2]⟩, fun ⟨_, q, h1, h2⟩ => ⟨q, h1, (key q h1).mpr ((nI_eq (by omega) (by omega)).mp h2)⟩⟩, fun q h1 h2 => by rw [(key q h1).mp h2]⟩
  · obtain ⟨q1, q2⟩ := sg_n q hq
    exact ⟨_, by omega, q1, ⟨fun ⟨x, _, z⟩ => by omega, fun z => absurd z.1 (by decide)⟩, fun x _ z => by omega⟩
