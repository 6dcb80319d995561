/-! what the expressions come to: tools -/
theorem bnd_some {α β : Type} (a : α) (h : HH) (k : α → HH → Option β) : bnd (some (a, h)) k = k a h := rfl
theorem ckH_of {β : Type} {a : Nat} {s : Nat ⊕ (Nat × Nat × Nat)} (hs : shL[a]? = some s) (K : Option β) : ckH a s K = K := if_pos hs
theorem ckI_of {β : Type} {k n : Nat} (hk : k < n) (hn : n < 2 ^ 31) (K : Option β) : ckI (nI k) n K = K := by
  unfold ckI
  rw [if_neg]
  intro h
  rcases h with h | h
  · exact nI_pos (by omega) h
  · rw [nI_clamp (by omega)] at h; omega
theorem ldI_of {β : Type} {h : HH} {a k n : Nat} (hk : k < n) (hn : n < 2 ^ 31) (K : Int32 → Option β) : ldI h a n (nI k) K = K (h.1 a k) := by
  unfold ldI
  rw [ckI_of hk hn, nI_clamp (by omega)]
theorem ldL_of {β : Type} {h : HH} {a k n : Nat} (hk : k < n) (hn : n < 2 ^ 31) (K : Int64 → Option β) : ldL h a n (nI k) K = K (h.2.1 a k) := by
  unfold ldL
  rw [ckI_of hk hn, nI_clamp (by omega)]
theorem ldR_of {β : Type} {a k n st : Nat} (hk : k < n) (hn : n < 2 ^ 31) (K : Nat → Option β) : ldR a n st (nI k) K = K (a + 1 + st * k) := by
  unfold ldR
  rw [ckI_of hk hn, nI_clamp (by omega)]
theorem stI_of {β : Type} {h : HH} {a k n : Nat} {v : Int32} (hk : k < n) (hn : n < 2 ^ 31) (K : HH → Option β) : stI h a n (nI k) v K = K (wrI h a k v) := by
  unfold stI
  rw [ckI_of hk hn, nI_clamp (by omega)]
theorem stL_of {β : Type} {h : HH} {a k n : Nat} {v : Int64} (hk : k < n) (hn : n < 2 ^ 31) (K : HH → Option β) : stL h a n (nI k) v K = K (wrL h a k v) := by
  unfold stL
  rw [ckI_of hk hn, nI_clamp (by omega)]
theorem nI_mul (a b : Nat) : nI a * nI b = nI (a * b) := by
  unfold nI
  rw [← Int32.ofNat_mul]
theorem lit_nI (n : Nat) : (OfNat.ofNat n : Int32) = nI n := rfl
theorem wrI_1 (h : HH) (a k : Nat) (v : Int32) (x i : Nat) : (wrI h a k v).1 x i = if x = a ∧ i = k then v else h.1 x i := rfl
theorem wrI_2 (h : HH) (a k : Nat) (v : Int32) : (wrI h a k v).2 = h.2 := rfl
theorem wrL_1 (h : HH) (a k : Nat) (v : Int64) : (wrL h a k v).1 = h.1 := rfl
theorem wrL_2 (h : HH) (a k : Nat) (v : Int64) (x i : Nat) : (wrL h a k v).2.1 x i = if x = a ∧ i = k then v else h.2.1 x i := rfl
theorem wrL_3 (h : HH) (a k : Nat) (v : Int64) : (wrL h a k v).2.2 = h.2.2 := rfl
theorem wrR_1 (h : HH) (j r : Nat) : (wrR h j r).1 = h.1 := rfl
theorem wrR_2 (h : HH) (j r : Nat) : (wrR h j r).2.1 = h.2.1 := rfl
theorem wrR_3 (h : HH) (j r x : Nat) : (wrR h j r).2.2 x = if x = j then r else h.2.2 x := rfl
-- small ones
theorem x_cell (p f : Nat) (h : HH) : g_X10_cell (nI p) (nI f) h = some (nI (6 * p + f), h) := by
  unfold g_X10_cell
  rw [show (6 : Int32) = nI 6 from rfl, nI_mul, nI_add, Nat.mul_comm]
def adT (x m : Int32) : Int32 := mxI (-99) (mnI 999 (x + m))
theorem x_addTally {q : Nat} (hq : shL[q]? = some (.inl 7)) {c : Nat} (hc : c < 36) (m : Int32) (h : HH) : g_X7_addTally q (nI c) m h = some ((), wrI h (q + 5) c (adT (h.1 (q + 5) c) m)) := by
  unfold g_X7_addTally
  rw [ckH_of hq, ldI_of hc (by decide), stI_of hc (by decide)]
  rfl
theorem x_addTired {q : Nat} (hq : shL[q]? = some (.inl 7)) {c : Nat} (hc : c < 6) (m : Int32) (h : HH) : g_X7_addTired q (nI c) m h = some ((), wrI h (q + 2) c (mnI 99999 (h.1 (q + 2) c + m))) := by
  unfold g_X7_addTired
  rw [ckH_of hq, ldI_of hc (by decide), stI_of hc (by decide)]
