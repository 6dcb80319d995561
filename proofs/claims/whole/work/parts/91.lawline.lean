/-! a law's line -/
theorem dpS_c {f g : Nat → Int32} : ∀ (n s d : Nat), (∀ k, s ≤ k → k < s + n → f k = g k) → dpS f n s d = dpS g n s d
  | 0, _, _, _ => rfl
  | n + 1, s, d, h => by
    have ih := fun d' => dpS_c n (s + 1) d' fun k h1 h2 => h k (by omega) (by omega)
    unfold dpS
    rw [h s (Nat.le_refl _) (by omega), ih, ih, ih]
theorem DX_ne {X : List (Int32 × Int32)} (h : DX X) : 0 < X.length := by
  cases X with
  | nil =>
    have := h 0
    cases this
  | cons x r => exact Nat.succ_pos _
theorem isF_10 (h : HH) : g_X11_isFull (nI 10) h = some (0, h) := rfl
theorem LWS.e {p t b b' q : Nat} {O X : List (Int32 × Int32)} {hc hr hc' hr' : HH} (h : LWS p t b O hc hr) (hq : q < 3) (tX : t + X.length ≤ 64) (hX : DX X) (hok : ∀ x ∈ X, kOk x.1)
    (c1 : hc'.1 24 11 = nI (t + X.length)) (c2 : hr'.1 255 32 = nI (t + X.length)) (c3 : hr'.1 255 31 = nI 0) (c4 : hc'.1 (p + 11) 2 = nI (O ++ X).length) (c5 : hr'.1 257 13 = nI (O ++ X).length)
    (c6 : ∀ j x, (O ++ X)[j]? = some x → hc'.1 (p + 12) j = x.1 ∧ hc'.1 (p + 13) j = x.2) (c7 : ∀ j x, (O ++ X)[j]? = some x → coded x.1 x.2 (hr'.1 272 (64 + j)) (hr'.1 273 (64 + j)))
    (c8 : ∀ r, r < 3 → r ≠ q → hc'.1 (p + 14) r = hc.1 (p + 14) r ∧ hc'.1 (p + 15) r = hc.1 (p + 15) r ∧ hr'.1 270 (3 + r) = hr.1 270 (3 + r) ∧ hr'.1 271 (3 + r) = hr.1 271 (3 + r) ∧ b'.testBit (16 + r) = b.testBit (16 + r))
    (c9 : hc'.1 (p + 14) q = nI O.length ∧ hc'.1 (p + 15) q = nI (O ++ X).length ∧ hr'.1 270 (3 + q) = nI O.length ∧ hr'.1 271 (3 + q) = nI (O ++ X).length ∧ b'.testBit (16 + q) = true) : LWS p (t + X.length) b' (O ++ X) hc' hr' := by
  obtain ⟨⟨a1, a2, a3, a4, a5⟩, ⟨b1, b2, b3⟩, c⟩ := h
  have hlen : (O ++ X).length = O.length + X.length := List.length_append
  refine ⟨⟨c1, c2, c3, tX, by omega⟩, ⟨c4, c5, fun j x hx => ⟨c6 j x hx, c7 j x hx, ?_⟩⟩, fun r hr3 => ?_⟩
  · rcases List.mem_append.mp (List.mem_of_getElem? hx) with hm | hm
    · obtain ⟨j', hj'⟩ := List.getElem?_of_mem hm
      exact (b3 j' x hj').2.2
    · exact hok x hm
  · by_cases z : r = q
    · subst z
      obtain ⟨d1, d2, d3, d4, d5⟩ := c9
      refine ⟨O.length, (O ++ X).length, ⟨d1, d2⟩, ⟨d3, d4⟩, ⟨by omega, Nat.le_refl _⟩, fun _ => ?_, ⟨fun _ => by have := DX_ne hX; omega, fun _ => d5⟩⟩
      rw [hlen, Nat.add_sub_cancel_left, dpS_dpl _ X O.length 0 fun j x hx => (c6 (O.length + j) x (by rw [List.getElem?_append_right (by omega), Nat.add_sub_cancel_left]; exact hx)).1, hX]
    · obtain ⟨d1, d2, d3, d4, d5⟩ := c8 r hr3 z
      obtain ⟨s, e, e1, e2, e3, e4, e5⟩ := c r hr3
      refine ⟨s, e, ⟨d1.trans e1.1, d2.trans e1.2⟩, ⟨d3.trans e2.1, d4.trans e2.2⟩, ⟨e3.1, by omega⟩, fun y => ?_, by rw [d5]; exact e5⟩
      rw [← e4 y]
      refine dpS_c _ _ _ fun k h1 h2 => ?_
      have hk : k < O.length := by omega
      have g1 := (c6 k O[k] (by rw [List.getElem?_append_left hk]; exact List.getElem?_eq_getElem hk)).1
      have g2 := (b3 k O[k] (List.getElem?_eq_getElem hk)).1.1
      rw [g1, g2]
