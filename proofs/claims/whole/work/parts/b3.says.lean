/-! person: class and reference end alike -/
theorem scB_y (h : HH) (y : Int32) : scB h (wrI h 255 0 y) := ⟨fun a k u => by
  rw [wrI_1, if_neg]
  rcases u with u | u | u | ⟨s, _, _, u⟩ | u
  · omega
  · omega
  · omega
  · unfold inH at u; omega
  · omega, fun _ _ => rfl⟩
theorem r_person_thrown {a0 a1 : Int32} {h : HH} (h0 : g_X11_isPerson a0 h = some (0, h)) : g_X11_person a0 a1 h = some (0, wrI h 255 0 1) := by
  unfold g_X11_person
  rw [h0, bnd_some]
  simp only [jn, pfI, gfI]
  rw [if_pos trivial, wrI_at, if_neg (by decide)]
theorem r_person_what {a0 a1 : Int32} {h : HH} (h0 : g_X11_isPerson a0 h = some (1, h)) (h1 : a1 < 0 ∨ (4 : Int32) < a1) : g_X11_person a0 a1 h = some (0, wrI h 255 0 2) := by
  unfold g_X11_person
  rw [h0, bnd_some]
  simp only [jn, pfI, gfI]
  rw [if_neg (by decide)]
  by_cases q : a1 < 0
  · rw [if_pos q, wrI_at, if_neg (by decide)]
  · rw [if_neg q, if_pos (h1.resolve_left q), wrI_at, if_neg (by decide)]
theorem r_person_is {a0 a1 : Int32} {h : HH} (h0 : g_X11_isPerson a0 h = some (1, h)) (h1 : ¬ a1 < 0) (h2 : ¬ (4 : Int32) < a1) : g_X11_person a0 a1 h =
    (if a1 = (0 : Int32) then ldI (wrI h 255 0 0) 278 138 a0 fun v => some (v, wrI h 255 0 0) else if a1 = (1 : Int32) then ldI (wrI h 255 0 0) 261 12 a0 fun v => some (v, wrI h 255 0 0) else if a1 = (2 : Int32) then ldI (wrI h 255 0 0) 279 138 a0 fun v => some (v, wrI h 255 0 0) else if a1 = (3 : Int32) then ldI (wrI h 255 0 0) 280 138 a0 fun v => some (v, wrI h 255 0 0) else ldI (wrI h 255 0 0) 281 138 a0 fun v => some (v, wrI h 255 0 0)) := by
  unfold g_X11_person
  rw [h0, bnd_some]
  simp only [jn, pfI, gfI]
  rw [if_neg (by decide), if_neg h1, if_neg h2, wrI_at, if_pos rfl]
theorem x_person_is {a0 a1 : Int32} {h : HH} (h0 : g_X10_isPerson a0 h = some (1, h)) : g_X10_person a0 a1 h =
    (if a1 = (0 : Int32) then ldI h 53 6 a0 fun v => some (v, h) else if a1 = (1 : Int32) then gfR h 0 (fun p6 => ckH p6 (.inl 5) (ldI h (p6 + 3) 6 a0 fun v => some (v, h))) else if a1 = (2 : Int32) then ldI h 54 6 a0 fun v => some (v, h) else if a1 = (3 : Int32) then ldI h 55 6 a0 fun v => some (v, h) else if a1 = (4 : Int32) then ldI h 56 6 a0 fun v => some (v, h) else none) := by
  unfold g_X10_person
  rw [h0, bnd_some, if_neg (by decide)]
theorem c_person (a0 a1 : Int32) : ∀ h, Rel h → ∃ (k : Nat) (v b : Int32) (h2 : HH), PP a0 a1 h k v ∧ k ≤ 2 ∧ g_X11_person a0 a1 h = some (b, h2) ∧ g_X11_thrown h2 = some (nI k, h2) ∧ (k = 0 → b = v) ∧ Rel h2 := by
  intro h ⟨P, S, nf, np, nl, ng, im, pa, nN, nb, nT, tl, tp, fk, fp, w, c, m⟩
  have hnp : np ≤ 6 := w.1.1.2.1
  have rel : ∀ y, Rel (wrI h 255 0 y) := fun y => ⟨P, S, nf, np, nl, ng, im, pa, nN, nb, nT, tl, tp, fk, fp, w, RelC.X c (fun a k u => (scB_y h y).1 a k (by omega)) (scB_y h y).2, RelM.X m hnp c.2.2.1.l (fun a k u => (scB_y h y).1 a k (Or.inr u))⟩
  have thr : ∀ y, g_X11_thrown (wrI h 255 0 y) = some (y, wrI h 255 0 y) := fun y => by
    unfold g_X11_thrown
    simp only [gfI]
    rw [wrI_at]
  have other : ∀ (y : Int32) (a k : Nat), a ≠ 255 → (wrI h 255 0 y).1 a k = h.1 a k := fun y a k ha => by rw [wrI_1, if_neg (fun e => ha e.1)]
  by_cases pa0 : prs a0 np
  · obtain ⟨a, ha, rfl⟩ := pa0
    have hx := x_isP1 c.1 w.1 ha
    have hr := r_isP1 m.1.1 hnp ha
    by_cases q1 : a1 < 0 ∨ (4 : Int32) < a1
    · refine ⟨2, 0, 0, wrI h 255 0 2, Or.inr (Or.inr ⟨rfl, hx, ?_⟩), Nat.le_refl _, r_person_what hr q1, thr 2, fun e => absurd e (by decide), rel 2⟩
      rcases q1 with q | q
      · exact Or.inl (by have := Int32.lt_iff_toInt_lt.mp q; simpa using this)
      · exact Or.inr (by have := Int32.lt_iff_toInt_lt.mp q; simpa using this)
    · have q2 : ¬ a1 < 0 := fun q => q1 (Or.inl q)
      have q3 : ¬ (4 : Int32) < a1 := fun q => q1 (Or.inr q)
      obtain ⟨j, hj, rfl⟩ := nI_of q2
      have hj4 : j ≤ 4 := Nat.not_lt.mp fun q => q3 (nI_lt (a := 4) q hj)
      obtain ⟨p, hp, c1, sp, c3⟩ := c.1.p
      have cs := c.1.s
      have ms := m.1.2.1.f0 ha
      have hx2 := x_person_is (a1 := nI j) hx
      have hr2 := r_person_is hr q2 q3
      have go : ∀ v : Int32, g_X10_person (nI a) (nI j) h = some (v, h) → g_X11_person (nI a) (nI j) h = some (v, wrI h 255 0 0) → ∃ (k : Nat) (v b : Int32) (h2 : HH), PP (nI a) (nI j) h k v ∧ k ≤ 2 ∧ g_X11_person (nI a) (nI j) h = some (b, h2) ∧ g_X11_thrown h2 = some (nI k, h2) ∧ (k = 0 → b = v) ∧ Rel h2 := fun v e1 e2 => ⟨0, v, v, wrI h 255 0 0, Or.inl ⟨rfl, e1⟩, Nat.zero_le _, e2, thr 0, fun _ => rfl, rel 0⟩
      have ha6 : a < 6 := by omega
      rcases (show j = 0 ∨ j = 1 ∨ j = 2 ∨ j = 3 ∨ j = 4 by omega) with rfl | rfl | rfl | rfl | rfl
      · refine go (S 1 a) ?_ ?_
        · rw [hx2, if_pos (by decide), ldI_of ha6 (by decide), show h.1 53 a = S 1 a from cs 1 a (by decide)]
        · rw [hr2, if_pos (by decide), ldI_of (by omega) (by decide), other 0 278 a (by decide), ms.1]
      · refine go (P 3 a) ?_ ?_
        · rw [hx2, if_neg (by decide), if_pos (by decide)]
          simp only [gfR]
          rw [c1, ckH_of sp, ldI_of ha6 (by decide), c3 3 a (by decide)]
        · rw [hr2, if_neg (by decide), if_pos (by decide), ldI_of (by omega) (by decide), other 0 261 a (by decide)]
          obtain ⟨_, _, _, _, _, _, m7, _⟩ := m.1.1
          rw [m7 a ha]
      · refine go (S 2 a) ?_ ?_
        · rw [hx2, if_neg (by decide), if_neg (by decide), if_pos (by decide), ldI_of ha6 (by decide), show h.1 54 a = S 2 a from cs 2 a (by decide)]
        · rw [hr2, if_neg (by decide), if_neg (by decide), if_pos (by decide), ldI_of (by omega) (by decide), other 0 279 a (by decide), ms.2.1]
      · refine go (S 3 a) ?_ ?_
        · rw [hx2, if_neg (by decide), if_neg (by decide), if_neg (by decide), if_pos (by decide), ldI_of ha6 (by decide), show h.1 55 a = S 3 a from cs 3 a (by decide)]
        · rw [hr2, if_neg (by decide), if_neg (by decide), if_neg (by decide), if_pos (by decide), ldI_of (by omega) (by decide), other 0 280 a (by decide), ms.2.2.1]
      · refine go (S 4 a) ?_ ?_
        · rw [hx2, if_neg (by decide), if_neg (by decide), if_neg (by decide), if_neg (by decide), if_pos (by decide), ldI_of ha6 (by decide), show h.1 56 a = S 4 a from cs 4 a (by decide)]
        · rw [hr2, if_neg (by decide), if_neg (by decide), if_neg (by decide), if_neg (by decide), ldI_of (by omega) (by decide), other 0 281 a (by decide), ms.2.2.2]
  · exact ⟨1, 0, 0, wrI h 255 0 1, Or.inr (Or.inl ⟨rfl, x_isP0 c.1 w.1 pa0⟩), by decide, r_person_thrown (r_isP0 m.1.1 pa0), thr 1, fun e => absurd e (by decide), rel 1⟩
