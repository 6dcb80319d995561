/-! the reference starts a house from what was told -/
section ST
variable {h0 : HH} {T : TB} {s np : Nat} {who wh tr : Int32}
theorem r_st6 (K : HH → Option (Unit × HH)) (hs : s < 23) {p : Nat} (hp : p < 6) (hnp : np ≤ 6) (n1 : h0.1 257 1 = nI np) (e45 : h0.1 255 45 = who) (e46 : h0.1 255 46 = wh) (e47 : h0.1 255 47 = tr)
    (hT : ∀ f, f < 6 → (if p < np then (if nI p = who then (if nI f = wh then tr else h0.1 262 (6 * p + f)) else h0.1 262 (6 * p + f)) else 0) = T 5 (6 * p + f)) : ∀ (m f n : Nat) (h : HH), f + m = 6 → m < n → (∀ x, x < f → h.1 282 (36 * s + (6 * p + x)) = T 5 (6 * p + x)) → (∀ a k, (a = 255 ∨ a = 257 ∨ a = 262) → h.1 a k = h0.1 a k) →
    ∃ h', g_X11_starts_L82 K (nI s) (nI p) n (nI f) h = K h' ∧ (∀ x, x < 6 → h'.1 282 (36 * s + (6 * p + x)) = T 5 (6 * p + x)) ∧ (∀ a k, ¬ (a = 282 ∧ 36 * s + 6 * p ≤ k ∧ k < 36 * s + 6 * p + 6) → h'.1 a k = h.1 a k) ∧ h'.2 = h.2 := by
  intro m
  induction m with
  | zero =>
    intro f n h hf hn e1 e2
    obtain ⟨n, rfl⟩ : ∃ n', n = n' + 1 := ⟨n - 1, by omega⟩
    obtain rfl : f = 6 := by omega
    exact ⟨h, by rw [g_X11_starts_L82, if_neg (show ¬ nI 6 < 6 by decide)], e1, fun _ _ _ => rfl, rfl⟩
  | succ m ih =>
    intro f n h hf hn e1 e2
    obtain ⟨n, rfl⟩ : ∃ n', n = n' + 1 := ⟨n - 1, by omega⟩
    have hT' := hT f (by omega)
    obtain ⟨h', f1, f2, f3, f4⟩ := ih (f + 1) n (wrI h 282 (36 * s + (6 * p + f)) (T 5 (6 * p + f))) (by omega) (by omega) (fun x hx => by
      rw [wrI_1]
      by_cases q : x = f
      · rw [if_pos ⟨rfl, by omega⟩, q]
      · rw [if_neg (by omega)]; exact e1 x (by omega)) (fun a k q => by rw [wrI_1, if_neg (by omega)]; exact e2 a k q)
    refine ⟨h', ?_, f2, fun a k q => (f3 a k q).trans (by rw [wrI_1, if_neg (by omega)]), f4⟩
    rw [← f1, g_X11_starts_L82, if_pos (show nI f < 6 from nI_lt (b := 6) (by omega) (by decide)), ldI_1 (by decide) (by decide), e2 257 1 (by omega), n1]
    simp only [jn, vl, gfI, nI_1]
    rw [ix36, ix6]
    have r262 : ∀ X : Int32 → Option (Unit × HH), ldI h 262 72 (nI (6 * p + f)) X = X (h0.1 262 (6 * p + f)) := fun X => by rw [ldI_of (by omega) (by decide), e2 262 _ (by omega)]
    by_cases q : p < np
    · rw [if_pos (nI_lt q (by omega)), e2 255 45 (by omega), e45]
      rw [if_pos q] at hT'
      by_cases q2 : nI p = who
      · rw [if_pos q2, e2 255 46 (by omega), e46]
        rw [if_pos q2] at hT'
        by_cases q3 : nI f = wh
        · rw [if_pos q3] at hT'
          rw [if_pos q3, e2 255 47 (by omega), e47, hT', stI_of (by omega) (by decide)]
        · rw [if_neg q3] at hT'
          rw [if_neg q3, r262, hT', stI_of (by omega) (by decide)]
      · rw [if_neg q2] at hT'
        rw [if_neg q2, r262, hT', stI_of (by omega) (by decide)]
    · rw [if_neg q] at hT'
      rw [if_neg (nI_nlt (by omega) (by omega)), stI_of (by omega) (by decide), hT']
theorem r_st21 (hs : s < 23) (hnp : np ≤ 6) (n1 : h0.1 257 1 = nI np) (e45 : h0.1 255 45 = who) (e46 : h0.1 255 46 = wh) (e47 : h0.1 255 47 = tr)
    (hT : ∀ p f, p < 6 → f < 6 → (if p < np then (if nI p = who then (if nI f = wh then tr else h0.1 262 (6 * p + f)) else h0.1 262 (6 * p + f)) else 0) = T 5 (6 * p + f)) : ∀ (m p n : Nat) (h : HH), p + m = 6 → m < n → (∀ q, q < p → h.1 278 (6 * s + q) = h0.1 260 q ∧ h.1 279 (6 * s + q) = 0 ∧ h.1 280 (6 * s + q) = 0 ∧ h.1 281 (6 * s + q) = 0) → (∀ k, k < 6 * p → h.1 282 (36 * s + k) = T 5 k) → (∀ a k, ¬ inH s a k → h.1 a k = h0.1 a k) → 
    ∃ h', g_X11_starts_L21 (nI s) n (nI p) h = some ((), h') ∧ (∀ q, q < 6 → h'.1 278 (6 * s + q) = h0.1 260 q ∧ h'.1 279 (6 * s + q) = 0 ∧ h'.1 280 (6 * s + q) = 0 ∧ h'.1 281 (6 * s + q) = 0) ∧ (∀ k, k < 36 → h'.1 282 (36 * s + k) = T 5 k) ∧ (∀ a k, ¬ (278 ≤ a ∧ a ≤ 282 ∧ inH s a k) → h'.1 a k = h.1 a k) ∧ h'.2 = h.2 := by
  obtain ⟨N, hN⟩ : ∃ N : Nat, N = 1024 := ⟨_, rfl⟩
  intro m
  induction m with
  | zero =>
    intro p n h hp hn e1 e2 e3
    obtain ⟨n, rfl⟩ : ∃ n', n = n' + 1 := ⟨n - 1, by omega⟩
    obtain rfl : p = 6 := by omega
    exact ⟨h, by rw [g_X11_starts_L21, if_neg (show ¬ nI 6 < 6 by decide)], e1, fun k hk => e2 k (by omega), fun _ _ _ => rfl, rfl⟩
  | succ m ih =>
    intro p n h hp hn e1 e2 e3
    obtain ⟨n, rfl⟩ : ∃ n', n = n' + 1 := ⟨n - 1, by omega⟩
    obtain ⟨hA, eA⟩ : ∃ hA, hA = wrI (wrI (wrI (wrI h 278 (6 * s + p) (h0.1 260 p)) 279 (6 * s + p) 0) 280 (6 * s + p) 0) 281 (6 * s + p) 0 := ⟨_, rfl⟩
    have fA : ∀ a k, ¬ (278 ≤ a ∧ a ≤ 281 ∧ k = 6 * s + p) → hA.1 a k = h.1 a k := fun a k q => by rw [eA, wrI_1, if_neg (by omega), wrI_1, if_neg (by omega), wrI_1, if_neg (by omega), wrI_1, if_neg (by omega)]
    obtain ⟨h2, b1, b2, b3, b4⟩ := r_st6 (h0 := h0) (T := T) (fun (h23 : HH) => g_X11_starts_L21 (nI s) n (nI (p + 1)) h23) hs (p := p) (by omega) hnp n1 e45 e46 e47 (fun f hf => hT p f (by omega) hf) 6 0 N hA rfl (by omega) (fun x hx => absurd hx (by omega)) (fun a k q => by rw [fA a k (by omega)]; exact e3 a k (by unfold inH; omega))
    obtain ⟨h3, c1, c2, c3, c4, c5⟩ := ih (p + 1) n h2 (by omega) (by omega) (fun q hq => by
      rw [b3 _ _ (by omega), b3 _ _ (by omega), b3 _ _ (by omega), b3 _ _ (by omega)]
      by_cases z : q = p
      · subst z; rw [eA]; simp [wrI_1]
      · rw [fA _ _ (by omega), fA _ _ (by omega), fA _ _ (by omega), fA _ _ (by omega)]; exact e1 q (by omega)) (fun k hk => by
      by_cases z : k < 6 * p
      · rw [b3 _ _ (by omega), fA _ _ (by omega)]; exact e2 k z
      · obtain ⟨x, hx, rfl⟩ : ∃ x, x < 6 ∧ k = 6 * p + x := ⟨k - 6 * p, by omega, by omega⟩
        exact b2 x hx) (fun a k q => by
      rw [b3 _ _ (by unfold inH at q; omega), fA _ _ (by unfold inH at q; omega)]; exact e3 a k q)
    refine ⟨h3, ?_, c2, c3, fun a k q => by rw [c4 a k q, b3 a k (by unfold inH at q; omega), fA a k (by unfold inH at q; omega)], by rw [c5, b4, eA]; rfl⟩
    rw [← c1, g_X11_starts_L21, if_pos (show nI p < 6 from nI_lt (b := 6) (by omega) (by decide)), ← hN, ldI_of (by omega) (by decide), e3 260 p (by unfold inH; omega)]
    simp only [vl, nI_1]
    rw [ix6, stI_of (by omega) (by decide), stI_of (by omega) (by decide), stI_of (by omega) (by decide), stI_of (by omega) (by decide), ← eA]
    exact b1
theorem r_starts (hs : s < 23) (hnp : np ≤ 6) {h : HH} (n1 : h.1 257 1 = nI np) (e45 : h.1 255 45 = who) (e46 : h.1 255 46 = wh) (e47 : h.1 255 47 = tr)
    (hT : ∀ p f, p < 6 → f < 6 → (if p < np then (if nI p = who then (if nI f = wh then tr else h.1 262 (6 * p + f)) else h.1 262 (6 * p + f)) else 0) = T 5 (6 * p + f)) (hT1 : ∀ a, a < np → h.1 260 a = T 1 a ∧ T 2 a = 0 ∧ T 3 a = 0 ∧ T 4 a = 0) (hT0 : T 0 5 = 0 ∧ h.1 257 5 = T 0 6) :
    ∃ h', g_X11_starts (nI s) h = some ((), h') ∧ MS h' s T np ∧ (∀ a k, ¬ inH s a k → h'.1 a k = h.1 a k) ∧ h'.2 = h.2 := by
  obtain ⟨N, hN⟩ : ∃ N : Nat, N = 1024 := ⟨_, rfl⟩
  obtain ⟨hA, eA⟩ : ∃ hA, hA = wrI (wrI h 276 s 0) 277 s (h.1 257 5) := ⟨_, rfl⟩
  have fA : ∀ a k, ¬ ((a = 276 ∨ a = 277) ∧ k = s) → hA.1 a k = h.1 a k := fun a k q => by rw [eA, wrI_1, if_neg (by omega), wrI_1, if_neg (by omega)]
  obtain ⟨h2, b1, b2, b3, b4, b5⟩ := r_st21 (h0 := h) (T := T) hs hnp n1 e45 e46 e47 hT 6 0 N hA rfl (by omega) (fun q hq => absurd hq (by omega)) (fun k hk => absurd hk (by omega)) (fun a k q => fA a k (by unfold inH at q; omega))
  refine ⟨h2, ?_, ⟨fun a ha => ?_, b3, ?_, ?_⟩, fun a k q => by rw [b4 a k (fun z => q z.2.2), fA a k (by unfold inH at q; omega)], by rw [b5, eA]; rfl⟩
  · unfold g_X11_starts
    rw [← hN, stI_of (by omega) (by decide), show ∀ X : Int32 → Option (Unit × HH), ldI (wrI h 276 s 0) 257 14 (5 : Int32) X = X ((wrI h 276 s 0).1 257 5) from fun X => ldI_of (k := 5) (by decide) (by decide) X, show (wrI h 276 s 0).1 257 5 = h.1 257 5 by rw [wrI_1, if_neg (by omega)], stI_of (by omega) (by decide), ← eA]
    exact b1
  · obtain ⟨q1, q2, q3, q4⟩ := b2 a (by omega)
    obtain ⟨r1, r2, r3, r4⟩ := hT1 a ha
    rw [q1, q2, q3, q4, r1, r2, r3, r4]
    exact ⟨rfl, rfl, rfl, rfl⟩
  · rw [b4 _ _ (fun z => by omega), eA, wrI_1, if_neg (by omega), wrI_at, hT0.1]
  · rw [b4 _ _ (fun z => by omega), eA, wrI_at, hT0.2]
end ST
