/-! people, tallies, goings told -/
theorem PRL.kg {p nf np nl ng : Nat} {hc hr hc' hr' : HH} (h : PRL p nf np nl ng hc hr) (hn : ng < 20) (e1 : ∀ a k, p ≤ a → a < p + 22 → ¬ (a = p ∧ k = 9) → ¬ ((p + 7 ≤ a ∧ a ≤ p + 10) ∧ k = ng) → hc'.1 a k = hc.1 a k) (e2 : ∀ a k, 257 ≤ a → a ≤ 269 → ¬ (a = 257 ∧ k = 10) → ¬ ((266 ≤ a ∧ a ≤ 269) ∧ k = 20 + ng) → hr'.1 a k = hr.1 a k) (hs : hc'.1 p 9 = nI (ng + 1) ∧ hr'.1 257 10 = nI (ng + 1)) (hd : ∃ how a u x : Nat, (how < 3 ∧ a < np ∧ u < 100 ∧ x ≤ 6 ∧ (how = 0 → x ≤ nf) ∧ (how = 1 → x < nl)) ∧ (hc'.1 (p + 7) ng = nI (22 + how) ∧ hr'.1 266 (20 + ng) = nI how) ∧ (hc'.1 (p + 8) ng = nI a ∧ hr'.1 267 (20 + ng) = nI a) ∧ (hc'.1 (p + 9) ng = nI u ∧ hr'.1 268 (20 + ng) = nI u) ∧ hc'.1 (p + 10) ng = nI x ∧ hr'.1 269 (20 + ng) = nI x) : PRL p nf np nl (ng + 1) hc' hr' := by
  obtain ⟨⟨⟨a1, a2, a3⟩, ⟨a4, a5, a6⟩, ⟨a7, a8, a9⟩, a10, a11, a12⟩, ⟨⟨sl, b1, b2, b3⟩, b4, b5⟩, c, d, ⟨f1, f2⟩, ⟨g1, g2⟩, l, m⟩ := h
  have y1 : ∀ a k, p ≤ a → a < p + 22 → ¬ (a = p ∧ k = 9) → ¬ ((p + 7 ≤ a ∧ a ≤ p + 10) ∧ k = ng) → ∀ v, hc.1 a k = v → hc'.1 a k = v := fun a k h1 h2 h3 h4 v e => (e1 a k h1 h2 h3 h4).trans e
  have y2 : ∀ a k, 257 ≤ a → a ≤ 269 → ¬ (a = 257 ∧ k = 10) → ¬ ((266 ≤ a ∧ a ≤ 269) ∧ k = 20 + ng) → ∀ v, hr.1 a k = v → hr'.1 a k = v := fun a k h1 h2 h3 h4 v e => (e2 a k h1 h2 h3 h4).trans e
  refine ⟨⟨⟨y1 _ _ (by omega) (by omega) (by omega) (by omega) _ a1, y2 _ _ (by omega) (by omega) (by omega) (by omega) _ a2, a3⟩, ⟨y1 _ _ (by omega) (by omega) (by omega) (by omega) _ a4, y2 _ _ (by omega) (by omega) (by omega) (by omega) _ a5, a6⟩, ⟨y1 _ _ (by omega) (by omega) (by omega) (by omega) _ a7, y2 _ _ (by omega) (by omega) (by omega) (by omega) _ a8, a9⟩, hs.1, hs.2, by omega⟩, ⟨⟨sl, b1, y1 _ _ (by omega) (by omega) (by omega) (by omega) _ b2, y2 _ _ (by omega) (by omega) (by omega) (by omega) _ b3⟩, by rw [e1 _ _ (by omega) (by omega) (by omega) (by omega), e2 _ _ (by omega) (by omega) (by omega) (by omega)]; exact b4, y1 _ _ (by omega) (by omega) (by omega) (by omega) _ b5⟩, fun f hf => ?_, fun a ha => ?_, ⟨fun a ha => ?_, fun a h1 h2 => y1 _ _ (by omega) (by omega) (by omega) (by omega) _ (f2 a h1 h2)⟩, ⟨fun k hk => ?_, fun k h1 h2 => y1 _ _ (by omega) (by omega) (by omega) (by omega) _ (g2 k h1 h2)⟩, fun x hx => ?_, fun g hg => ?_⟩
  · obtain ⟨u, u1, u2, u3⟩ := c f hf
    exact ⟨u, u1, y1 _ _ (by omega) (by omega) (by omega) (by omega) _ u2, y2 _ _ (by omega) (by omega) (by omega) (by omega) _ u3⟩
  · obtain ⟨d1, ⟨u, u1, u2, u3⟩, v, v1, v2, v3⟩ := d a ha
    exact ⟨by rw [e1 _ _ (by omega) (by omega) (by omega) (by omega), e2 _ _ (by omega) (by omega) (by omega) (by omega)]; exact d1, ⟨u, u1, y1 _ _ (by omega) (by omega) (by omega) (by omega) _ u2, y2 _ _ (by omega) (by omega) (by omega) (by omega) _ u3⟩, v, v1, y1 _ _ (by omega) (by omega) (by omega) (by omega) _ v2, y2 _ _ (by omega) (by omega) (by omega) (by omega) _ v3⟩
  · rw [e1 (p + 18) _ (by omega) (by omega) (by omega) (by omega), e1 (p + 19) _ (by omega) (by omega) (by omega) (by omega), e1 (p + 20) _ (by omega) (by omega) (by omega) (by omega)]; exact f1 a ha
  · rw [e1 _ _ (by omega) (by omega) (by omega) (by omega), e2 _ _ (by omega) (by omega) (by omega) (by omega)]; exact g1 k hk
  · obtain ⟨i, j, u, l1, ⟨l2, l3⟩, ⟨l4, l5⟩, l6, l7⟩ := l x hx
    exact ⟨i, j, u, l1, ⟨y1 _ _ (by omega) (by omega) (by omega) (by omega) _ l2, y2 _ _ (by omega) (by omega) (by omega) (by omega) _ l3⟩, ⟨y1 _ _ (by omega) (by omega) (by omega) (by omega) _ l4, y2 _ _ (by omega) (by omega) (by omega) (by omega) _ l5⟩, y1 _ _ (by omega) (by omega) (by omega) (by omega) _ l6, y2 _ _ (by omega) (by omega) (by omega) (by omega) _ l7⟩
  · by_cases z : g = ng
    · rw [z]; exact hd
    · obtain ⟨how, a, u, x, ⟨w1, w2, w3, w4, w5, w6⟩, ⟨m2, m3⟩, ⟨m4, m5⟩, ⟨m6, m7⟩, m8, m9⟩ := m g (by omega)
      exact ⟨how, a, u, x, ⟨w1, w2, w3, w4, w5, w6⟩, ⟨y1 _ _ (by omega) (by omega) (by omega) (by omega) _ m2, y2 _ _ (by omega) (by omega) (by omega) (by omega) _ m3⟩, ⟨y1 _ _ (by omega) (by omega) (by omega) (by omega) _ m4, y2 _ _ (by omega) (by omega) (by omega) (by omega) _ m5⟩, ⟨y1 _ _ (by omega) (by omega) (by omega) (by omega) _ m6, y2 _ _ (by omega) (by omega) (by omega) (by omega) _ m7⟩, y1 _ _ (by omega) (by omega) (by omega) (by omega) _ m8, y2 _ _ (by omega) (by omega) (by omega) (by omega) _ m9⟩
theorem PRL.kp {p nf np nl ng : Nat} {hc hr hc' hr' : HH} (h : PRL p nf np nl ng hc hr) (hn : np < 6) (e1 : ∀ a k, p ≤ a → a < p + 22 → ¬ (a = p ∧ k = 2) → ¬ ((a = p + 2 ∨ a = p + 3 ∨ a = p + 17) ∧ k = np) → hc'.1 a k = hc.1 a k) (e2 : ∀ a k, 257 ≤ a → a ≤ 269 → ¬ (a = 257 ∧ k = 8) → ¬ (((259 ≤ a ∧ a ≤ 261) ∧ k = 6 + np) ∨ (a = 262 ∧ 36 + 6 * np ≤ k)) → hr'.1 a k = hr.1 a k) (hs : hc'.1 p 2 = nI (np + 1) ∧ hr'.1 257 8 = nI (np + 1)) (hz : ∀ k, 6 * np ≤ k → k < 6 * np + 6 → hr'.1 262 (36 + k) = 0) (hd : hr'.1 259 (6 + np) = hc'.1 (p + 2) np ∧ (∃ u : Nat, u ≤ 99 ∧ hc'.1 (p + 3) np = nI u ∧ hr'.1 261 (6 + np) = nI u) ∧ ∃ u : Nat, u ≤ nf ∧ hc'.1 (p + 17) np = nI u ∧ hr'.1 260 (6 + np) = nI u) : PRL p nf (np + 1) nl ng hc' hr' := by
  obtain ⟨⟨⟨a1, a2, a3⟩, ⟨a4, a5, a6⟩, ⟨a7, a8, a9⟩, a10, a11, a12⟩, ⟨⟨sl, b1, b2, b3⟩, b4, b5⟩, c, d, ⟨f1, f2⟩, ⟨g1, g2⟩, l, m⟩ := h
  have y1 : ∀ a k, p ≤ a → a < p + 22 → ¬ (a = p ∧ k = 2) → ¬ ((a = p + 2 ∨ a = p + 3 ∨ a = p + 17) ∧ k = np) → ∀ v, hc.1 a k = v → hc'.1 a k = v := fun a k h1 h2 h3 h4 v e => (e1 a k h1 h2 h3 h4).trans e
  have y2 : ∀ a k, 257 ≤ a → a ≤ 269 → ¬ (a = 257 ∧ k = 8) → ¬ (((259 ≤ a ∧ a ≤ 261) ∧ k = 6 + np) ∨ (a = 262 ∧ 36 + 6 * np ≤ k)) → ∀ v, hr.1 a k = v → hr'.1 a k = v := fun a k h1 h2 h3 h4 v e => (e2 a k h1 h2 h3 h4).trans e
  refine ⟨⟨⟨y1 _ _ (by omega) (by omega) (by omega) (by omega) _ a1, y2 _ _ (by omega) (by omega) (by omega) (by omega) _ a2, a3⟩, ⟨hs.1, hs.2, by omega⟩, ⟨y1 _ _ (by omega) (by omega) (by omega) (by omega) _ a7, y2 _ _ (by omega) (by omega) (by omega) (by omega) _ a8, a9⟩, y1 _ _ (by omega) (by omega) (by omega) (by omega) _ a10, y2 _ _ (by omega) (by omega) (by omega) (by omega) _ a11, a12⟩, ⟨⟨sl, b1, y1 _ _ (by omega) (by omega) (by omega) (by omega) _ b2, y2 _ _ (by omega) (by omega) (by omega) (by omega) _ b3⟩, by rw [e1 _ _ (by omega) (by omega) (by omega) (by omega), e2 _ _ (by omega) (by omega) (by omega) (by omega)]; exact b4, y1 _ _ (by omega) (by omega) (by omega) (by omega) _ b5⟩, fun f hf => ?_, fun a ha => ?_, ⟨fun a ha => ?_, fun a h1 h2 => y1 _ _ (by omega) (by omega) (by omega) (by omega) _ (f2 a (by omega) h2)⟩, ⟨fun k hk => ?_, fun k h1 h2 => y1 _ _ (by omega) (by omega) (by omega) (by omega) _ (g2 k (by omega) h2)⟩, fun x hx => ?_, fun g hg => ?_⟩
  · obtain ⟨u, u1, u2, u3⟩ := c f hf
    exact ⟨u, u1, y1 _ _ (by omega) (by omega) (by omega) (by omega) _ u2, y2 _ _ (by omega) (by omega) (by omega) (by omega) _ u3⟩
  · by_cases z : a = np
    · rw [z]; exact hd
    · obtain ⟨d1, ⟨u, u1, u2, u3⟩, v, v1, v2, v3⟩ := d a (by omega)
      exact ⟨by rw [e1 _ _ (by omega) (by omega) (by omega) (by omega), e2 _ _ (by omega) (by omega) (by omega) (by omega)]; exact d1, ⟨u, u1, y1 _ _ (by omega) (by omega) (by omega) (by omega) _ u2, y2 _ _ (by omega) (by omega) (by omega) (by omega) _ u3⟩, v, v1, y1 _ _ (by omega) (by omega) (by omega) (by omega) _ v2, y2 _ _ (by omega) (by omega) (by omega) (by omega) _ v3⟩
  · rw [e1 (p + 18) _ (by omega) (by omega) (by omega) (by omega), e1 (p + 19) _ (by omega) (by omega) (by omega) (by omega), e1 (p + 20) _ (by omega) (by omega) (by omega) (by omega)]; exact f1 a ha
  · by_cases z : k < 6 * np
    · rw [e1 _ _ (by omega) (by omega) (by omega) (by omega), e2 _ _ (by omega) (by omega) (by omega) (by omega)]; exact g1 k z
    · rw [e1 _ _ (by omega) (by omega) (by omega) (by omega), g2 k (by omega) (by omega), hz k (by omega) (by omega)]
      exact ⟨rfl, by decide, by decide⟩
  · obtain ⟨i, j, u, l1, ⟨l2, l3⟩, ⟨l4, l5⟩, l6, l7⟩ := l x hx
    exact ⟨i, j, u, l1, ⟨y1 _ _ (by omega) (by omega) (by omega) (by omega) _ l2, y2 _ _ (by omega) (by omega) (by omega) (by omega) _ l3⟩, ⟨y1 _ _ (by omega) (by omega) (by omega) (by omega) _ l4, y2 _ _ (by omega) (by omega) (by omega) (by omega) _ l5⟩, y1 _ _ (by omega) (by omega) (by omega) (by omega) _ l6, y2 _ _ (by omega) (by omega) (by omega) (by omega) _ l7⟩
  · obtain ⟨how, a, u, x, ⟨w1, w2, w3, w4, w5, w6⟩, ⟨m2, m3⟩, ⟨m4, m5⟩, ⟨m6, m7⟩, m8, m9⟩ := m g hg
    exact ⟨how, a, u, x, ⟨w1, by omega, w3, w4, w5, w6⟩, ⟨y1 _ _ (by omega) (by omega) (by omega) (by omega) _ m2, y2 _ _ (by omega) (by omega) (by omega) (by omega) _ m3⟩, ⟨y1 _ _ (by omega) (by omega) (by omega) (by omega) _ m4, y2 _ _ (by omega) (by omega) (by omega) (by omega) _ m5⟩, ⟨y1 _ _ (by omega) (by omega) (by omega) (by omega) _ m6, y2 _ _ (by omega) (by omega) (by omega) (by omega) _ m7⟩, y1 _ _ (by omega) (by omega) (by omega) (by omega) _ m8, y2 _ _ (by omega) (by omega) (by omega) (by omega) _ m9⟩
theorem PRL.kt {p nf np nl ng mm : Nat} {v0 : Int32} {hc hr hc' hr' : HH} (h : PRL p nf np nl ng hc hr) (hn : mm < 6 * np) (e1 : ∀ a k, p ≤ a → a < p + 22 → ¬ (a = p + 21 ∧ k = mm) → hc'.1 a k = hc.1 a k) (e2 : ∀ a k, 257 ≤ a → a ≤ 269 → ¬ (a = 262 ∧ k = 36 + mm) → hr'.1 a k = hr.1 a k) (hs : hc'.1 (p + 21) mm = v0 ∧ hr'.1 262 (36 + mm) = v0) (hv : inB v0) : PRL p nf np nl ng hc' hr' := by
  obtain ⟨⟨⟨a1, a2, a3⟩, ⟨a4, a5, a6⟩, ⟨a7, a8, a9⟩, a10, a11, a12⟩, ⟨⟨sl, b1, b2, b3⟩, b4, b5⟩, c, d, ⟨f1, f2⟩, ⟨g1, g2⟩, l, m⟩ := h
  have y1 : ∀ a k, p ≤ a → a < p + 22 → ¬ (a = p + 21 ∧ k = mm) → ∀ v, hc.1 a k = v → hc'.1 a k = v := fun a k h1 h2 h3 v e => (e1 a k h1 h2 h3).trans e
  have y2 : ∀ a k, 257 ≤ a → a ≤ 269 → ¬ (a = 262 ∧ k = 36 + mm) → ∀ v, hr.1 a k = v → hr'.1 a k = v := fun a k h1 h2 h3 v e => (e2 a k h1 h2 h3).trans e
  refine ⟨⟨⟨y1 _ _ (by omega) (by omega) (by omega) _ a1, y2 _ _ (by omega) (by omega) (by omega) _ a2, a3⟩, ⟨y1 _ _ (by omega) (by omega) (by omega) _ a4, y2 _ _ (by omega) (by omega) (by omega) _ a5, a6⟩, ⟨y1 _ _ (by omega) (by omega) (by omega) _ a7, y2 _ _ (by omega) (by omega) (by omega) _ a8, a9⟩, y1 _ _ (by omega) (by omega) (by omega) _ a10, y2 _ _ (by omega) (by omega) (by omega) _ a11, a12⟩, ⟨⟨sl, b1, y1 _ _ (by omega) (by omega) (by omega) _ b2, y2 _ _ (by omega) (by omega) (by omega) _ b3⟩, by rw [e1 _ _ (by omega) (by omega) (by omega), e2 _ _ (by omega) (by omega) (by omega)]; exact b4, y1 _ _ (by omega) (by omega) (by omega) _ b5⟩, fun f hf => ?_, fun a ha => ?_, ⟨fun a ha => ?_, fun a h1 h2 => y1 _ _ (by omega) (by omega) (by omega) _ (f2 a h1 h2)⟩, ⟨fun k hk => ?_, fun k h1 h2 => y1 _ _ (by omega) (by omega) (by omega) _ (g2 k h1 h2)⟩, fun x hx => ?_, fun g hg => ?_⟩
  · obtain ⟨u, u1, u2, u3⟩ := c f hf
    exact ⟨u, u1, y1 _ _ (by omega) (by omega) (by omega) _ u2, y2 _ _ (by omega) (by omega) (by omega) _ u3⟩
  · obtain ⟨d1, ⟨u, u1, u2, u3⟩, v, v1, v2, v3⟩ := d a ha
    exact ⟨by rw [e1 _ _ (by omega) (by omega) (by omega), e2 _ _ (by omega) (by omega) (by omega)]; exact d1, ⟨u, u1, y1 _ _ (by omega) (by omega) (by omega) _ u2, y2 _ _ (by omega) (by omega) (by omega) _ u3⟩, v, v1, y1 _ _ (by omega) (by omega) (by omega) _ v2, y2 _ _ (by omega) (by omega) (by omega) _ v3⟩
  · rw [e1 (p + 18) _ (by omega) (by omega) (by omega), e1 (p + 19) _ (by omega) (by omega) (by omega), e1 (p + 20) _ (by omega) (by omega) (by omega)]; exact f1 a ha
  · by_cases z : k = mm
    · rw [z, hs.1, hs.2]; exact ⟨rfl, hv⟩
    · rw [e1 _ _ (by omega) (by omega) (by omega), e2 _ _ (by omega) (by omega) (by omega)]; exact g1 k hk
  · obtain ⟨i, j, u, l1, ⟨l2, l3⟩, ⟨l4, l5⟩, l6, l7⟩ := l x hx
    exact ⟨i, j, u, l1, ⟨y1 _ _ (by omega) (by omega) (by omega) _ l2, y2 _ _ (by omega) (by omega) (by omega) _ l3⟩, ⟨y1 _ _ (by omega) (by omega) (by omega) _ l4, y2 _ _ (by omega) (by omega) (by omega) _ l5⟩, y1 _ _ (by omega) (by omega) (by omega) _ l6, y2 _ _ (by omega) (by omega) (by omega) _ l7⟩
  · obtain ⟨how, a, u, x, ⟨w1, w2, w3, w4, w5, w6⟩, ⟨m2, m3⟩, ⟨m4, m5⟩, ⟨m6, m7⟩, m8, m9⟩ := m g hg
    exact ⟨how, a, u, x, ⟨w1, w2, w3, w4, w5, w6⟩, ⟨y1 _ _ (by omega) (by omega) (by omega) _ m2, y2 _ _ (by omega) (by omega) (by omega) _ m3⟩, ⟨y1 _ _ (by omega) (by omega) (by omega) _ m4, y2 _ _ (by omega) (by omega) (by omega) _ m5⟩, ⟨y1 _ _ (by omega) (by omega) (by omega) _ m6, y2 _ _ (by omega) (by omega) (by omega) _ m7⟩, y1 _ _ (by omega) (by omega) (by omega) _ m8, y2 _ _ (by omega) (by omega) (by omega) _ m9⟩
/-- the rows of laws and flags stay, in the class -/
def LFc (p : Nat) (h h' : HH) : Prop := ∀ a k, (a = 24 ∧ ((6 ≤ k ∧ k ≤ 8) ∨ k = 11)) ∨ (p + 11 ≤ a ∧ a ≤ p + 15 ∧ (a = p + 11 → k = 2)) → h'.1 a k = h.1 a k
/-- and in the reference -/
def LFr (h h' : HH) : Prop := ∀ a k, (a = 255 ∧ (k = 20 ∨ k = 21 ∨ k = 31 ∨ k = 32)) ∨ (a = 257 ∧ k = 13) ∨ (270 ≤ a ∧ a ≤ 273) → h'.1 a k = h.1 a k
/-- a line's word of people, tallies, ladders, goings: what its body has to do -/
theorem ln_word {T : TKD} (w : TKok T) {p i nf np nl ng t b j : Nat} (hp : pOk p) {O : List (Int32 × Int32)} {hc hr : HH} (h : LnS T p i nf np nl ng t b O hc hr) (h1 : 1 ≤ j) (h7 : j ≤ 7) (hk : tK T i = nI (17 + j)) (BC BR : HH → Option (Unit × HH)) (hBC : ∀ x, cBd (nI (17 + j)) x = bnd (BC x) fun _ y => tlC y) (hBR : ∀ x, rBd (nI j) x = bnd (BR x) fun _ y => tlR y) (full : Prop) [Decidable full] (isF : g_X11_isFull (nI j) hr = some (if full then 1 else 0, hr))
    (fu : full → ∃ c', BC (wrI hc 24 6 1) = some ((), c') ∧ cF T 2 (tPl T i) c' ∧ sK p (wrI hc 24 6 1) c')
    (go : ¬ full → ∀ r1, rA T (i + 1) r1 → i + 1 < tL T → (∀ a k, ¬ (a = 255 ∧ (k = 20 ∨ (23 ≤ k ∧ k ≤ 26))) → r1.1 a k = hr.1 a k) → ∃ c' r', BC (wrI hc 24 6 1) = some ((), c') ∧ BR r1 = some ((), r') ∧ sK p (wrI hc 24 6 1) c' ∧ sR r1 r' ∧ ((∃ f q, cF T f q c' ∧ rF f q r') ∨ ∃ j' nf' np' nl' ng', i < j' ∧ At T j' c' r' ∧ PRL p nf' np' nl' ng' c' r' ∧ LFc p (wrI hc 24 6 1) c' ∧ LFr r1 r')) :
    ∃ hc' hr', g_X6_readLine hc = some ((), hc') ∧ g_X11_line hr = some ((), hr') ∧ LnD T p i hc hr hc' hr' := by
  have hp' : p + 22 ≤ 60 ∧ (p + 22 ≤ 24 ∨ 30 ≤ p) ∧ 2 ≤ p := by rcases hp with rfl | rfl <;> omega
  obtain ⟨⟨⟨c1, c2, c3⟩, r, hi⟩, e1, hP, hL, hF⟩ := h
  have hk0 : ¬ tK T i = 0 := by rw [hk]; exact nI_ne0 (by omega) (by omega)
  have hF0 := hF
  obtain ⟨hb1, hb2, hb3, hb4, hb5⟩ := hF
  have e26 := rA_word r (j := j) (by omega) hk
  have s0 : sK p hc (wrI hc 24 6 1) := sK_24 p hc _ (by omega) (by omega)
  rw [readLine_eq w c1 hi c2, hk, if_neg (show ¬ nI (17 + j) < 18 from nI_nlt (b := 18) (by omega) (by omega)), if_neg (show ¬ 24 < nI (17 + j) from nI_nlt (a := 24) (by omega) (by decide)), hBC, line_w r (j := j) (by omega) hk (fun z => by omega)]
  have n8 : ¬ nI j = (8 : Int32) := fun z => by have := (nI_eq (b := 8) (by omega) (by decide)).mp z; omega
  have n9 : ¬ nI j = (9 : Int32) := fun z => by have := (nI_eq (b := 9) (by omega) (by decide)).mp z; omega
  have mdR : rMd hr = if full then bnd (g_X11_wrong 2 hr) fun _ h81 => rMn (nI j) h81 else rMn (nI j) hr := by
    unfold rMd
    simp only [gfI]
    rw [e26, isF, bnd_some]
    by_cases z : full
    · rw [if_pos z, if_pos z, if_neg (by decide)]
    · rw [if_neg z, if_neg z, if_pos rfl, if_neg n8, if_neg n9]
  rw [mdR]
  by_cases z : full
  · rw [if_pos z]
    obtain ⟨h2, g1, g2, g3⟩ := fu z
    obtain ⟨r1, v1, v2, v3⟩ := rF.e r 2 (by decide)
    obtain ⟨h3, t1, t2, t3⟩ := ln_F w (p := p) (i := i) (hc := hc) (hr := hr) g2 v2 (s0.tr g3) v3.R
    exact ⟨h3, r1, by rw [g1, bnd_some, t1], by rw [v1, bnd_some, rMn_F v2], t3⟩
  · rw [if_neg z]
    obtain ⟨r1, m1, m2, m3, m4, m5⟩ := rMn_go w r hi hk0 (j := j) (by omega) hb2
    obtain ⟨c', r', g1, g2, g3, g4, g5⟩ := go z r1 m2 (tK_e w hi hk0) m5
    rw [g1, bnd_some, m1, hBR, g2, bnd_some]
    rcases g5 with ⟨f, q, k1, k2⟩ | ⟨j', nf', np', nl', ng', q1, q2, q3, q4, q5⟩
    · obtain ⟨h3, t1, t2, t3⟩ := ln_F w (p := p) (i := i) (hc := hc) (hr := hr) k1 k2 (s0.tr g3) (m4.tr g4)
      exact ⟨h3, r', t1, t2, t3⟩
    · have lno : LnO T p i hc hr c' r' := by
        refine ⟨s0.tr g3, m4.tr g4, ?_, Or.inr (Or.inr ⟨j', nf', np', nl', ng', t, b ||| 2 ^ j, O, q1, q2, by rw [g3.2]; exact e1, q3, ?_, ?_⟩)⟩
        · rw [q5 _ _ (by omega), m5 _ _ (by omega)]
        · refine hL.k (fun a k y => ?_) (fun a k y => ?_) fun r hr3 => by rw [td_or, decide_eq_false (by omega : ¬ j = 16 + r), Bool.or_false]
          · rw [q4 a k (by omega), wrI_1, if_neg (by omega)]
          · rw [q5 a k (by omega), m5 _ _ (by omega)]
        · refine hF0.w h1 h7 ?_ ?_ ?_ ?_
          · rw [q4 _ _ (by omega), wrI_at]
          · rw [q4 _ _ (by omega), wrI_1, if_neg (by omega)]
          · rw [q4 _ _ (by omega), wrI_1, if_neg (by omega)]
          · rw [q5 _ _ (by omega)]; exact m3
      obtain ⟨hc'', hr'', t1, t2, t3⟩ := line_tl w hp lno
      exact ⟨hc'', hr'', t1, t2, t3⟩
