/-! any line of a text; all lines of a text -/
theorem ln_all {T : TKD} (w : TKok T) {p i nf np nl ng t b : Nat} (hp : pOk p) {O : List (Int32 × Int32)} {hc hr : HH} (h : LnS T p i nf np nl ng t b O hc hr) : ∃ hc' hr', g_X6_readLine hc = some ((), hc') ∧ g_X11_line hr = some ((), hr') ∧ LnD T p i hc hr hc' hr' := by
  obtain ⟨m, m40, hm, _⟩ := kd_nat h.1.2.1.2.2.2.1
  by_cases q : m < 17 ∨ 27 < m
  · refine ln_bad w h ?_
    rw [hm]
    rcases q with q | q
    · exact Or.inl (nI_lt (b := 17) q (by decide))
    · exact Or.inr (nI_lt (a := 27) q (by omega))
  · rcases (show m = 17 ∨ m = 18 ∨ m = 19 ∨ m = 20 ∨ m = 21 ∨ m = 22 ∨ m = 23 ∨ m = 24 ∨ m = 25 ∨ m = 26 ∨ m = 27 by omega) with z | z | z | z | z | z | z | z | z | z | z
    · exact ln_flight w hp h (by rw [hm, z]; rfl)
    · exact ln_person w hp h (by rw [hm, z]; rfl)
    · exact ln_tally w hp h (k := 0) (by decide) (by rw [hm, z])
    · exact ln_tally w hp h (k := 1) (by decide) (by rw [hm, z])
    · exact ln_ladder w hp h (by rw [hm, z]; rfl)
    · exact ln_going w hp h (how := 0) (by decide) (by rw [hm, z])
    · exact ln_going w hp h (how := 1) (by decide) (by rw [hm, z])
    · exact ln_going w hp h (how := 2) (by decide) (by rw [hm, z])
    · exact ln_slip w hp h (by rw [hm, z]; rfl)
    · exact ln_seed w hp h (by rw [hm, z]; rfl)
    · exact ln_law w hp h (by rw [hm, z]; rfl)
theorem x6_kind_F {T : TKD} (w : TKok T) {h : HH} {f : Int32} {q : Nat} (c : cF T f q h) : ∃ r, g_X6_kind h = some (r, h) := by
  have := w.2.1
  obtain ⟨c1, c2, c3, c4, i, c5, c6⟩ := c
  by_cases z : i < tL T
  · exact ⟨_, x6_kind w c1 z c6⟩
  · refine ⟨0, ?_⟩
    unfold g_X6_kind
    simp only [gfI]
    rw [c6, c1.1, if_neg (nI_nlt (by omega) (by omega))]
/-- behind a fault the class reads no line more -/
theorem x6_read_F {T : TKD} (w : TKok T) {h : HH} {f : Int32} {q : Nat} (c : cF T f q h) (x y : Int32) (n : Nat) : g_X6_read_L62 (n + 1) x y h = some (x, h) := by
  rw [g_X6_read_L62]
  obtain ⟨r, e⟩ := x6_kind_F w c
  simp only [gfI]
  by_cases z : 0 < y
  · rw [if_pos z, e, bnd_some]
    by_cases z2 : r = 0
    · rw [if_pos z2]
    · rw [if_neg z2, if_neg c.n]
  · rw [if_neg z]
/-- how a text ends: a fault told by both, or all lines told -/
def TxD (T : TKD) (p : Nat) (r : Int32) (hc' hr' : HH) : Prop := (∃ f q, cF T f q hc' ∧ rF f q hr') ∨ ∃ j nf np nl ng t b O, LnS T p j nf np nl ng t b O hc' hr' ∧ hr'.1 255 21 = r
theorem x6_read_0 {T : TKD} (w : TKok T) {h : HH} (c : cT T h) {i : Nat} (hi : i < tL T) (e : h.1 24 3 = nI i) (k0 : tK T i = 0) (x : Int32) {left : Nat} (hl : left < 2 ^ 31) (h0 : 0 < left) (n : Nat) : g_X6_read_L62 (n + 1) x (nI left) h = some (x, h) := by
  rw [g_X6_read_L62, x6_kind w c hi e, bnd_some, if_pos k0]
  split <;> rfl
theorem x6_read_1 {T : TKD} (w : TKok T) {h h1 : HH} (c : cT T h) {i : Nat} (hi : i < tL T) (e : h.1 24 3 = nI i) (k0 : ¬ tK T i = 0) (e0 : h.1 24 4 = 0) (f : g_X6_readLine h = some ((), h1)) (x : Int32) {left : Nat} (hl : left + 1 < 2 ^ 31) (n : Nat) : g_X6_read_L62 (n + 1) x (nI (left + 1)) h = g_X6_read_L62 n (x + 1) (nI left) h1 := by
  have z : (0 : Int32) < nI (left + 1) := nI_lt (a := 0) (Nat.succ_pos _) hl
  rw [g_X6_read_L62, if_pos z, x6_kind w c hi e, bnd_some, if_neg k0]
  simp only [gfI, vl]
  rw [e0, if_pos rfl, f, bnd_some, pk_m1]
theorem r_read_0 {T : TKD} {i : Nat} {h : HH} (r : rA T i h) (k0 : tK T i = 0) (K : HH → Option (Int32 × HH)) (n : Nat) : g_X11_text_L117 K (n + 1) h = K h := by
  have es := sv_end r.2.2.2.1
  rw [g_X11_text_L117]
  simp only [gfI]
  rw [r.2.2.2.2, if_pos rfl, if_pos (by rw [es]; exact k0)]
theorem r_read_1 {T : TKD} {i : Nat} {h h1 : HH} (r : rA T i h) (k0 : ¬ tK T i = 0) (f : g_X11_line h = some ((), h1)) (K : HH → Option (Int32 × HH)) (n : Nat) : g_X11_text_L117 K (n + 1) h = g_X11_text_L117 K n h1 := by
  have es := sv_end r.2.2.2.1
  rw [g_X11_text_L117]
  simp only [gfI]
  rw [r.2.2.2.2, if_pos rfl, if_neg (by rw [es]; exact k0), f, bnd_some]
theorem r_read_F {f : Int32} {q : Nat} {h : HH} (c : rF f q h) (K : HH → Option (Int32 × HH)) (n : Nat) : g_X11_text_L117 K (n + 1) h = K h := by
  rw [g_X11_text_L117]
  simp only [gfI]
  rw [if_neg c.n]
theorem tx_all {T : TKD} (w : TKok T) {p : Nat} (hp : pOk p) : ∀ (m i n1 n2 left : Nat) (x : Int32) (nf np nl ng t b : Nat) (O : List (Int32 × Int32)) (hc hr : HH), tL T - i ≤ m → m < n1 → m < n2 → m ≤ left → left ≤ 701 → LnS T p i nf np nl ng t b O hc hr → hr.1 255 21 = x →
    ∃ r hc' hr', g_X6_read_L62 n1 x (nI left) hc = some (r, hc') ∧ (∀ K : HH → Option (Int32 × HH), g_X11_text_L117 K n2 hr = K hr') ∧ sK p hc hc' ∧ sR hr hr' ∧ TxD T p r hc' hr' := by
  intro m
  induction m with
  | zero =>
    intro i n1 n2 left x nf np nl ng t b O hc hr h1 h2 h3 h4 h5 h e
    have := h.1.2.2
    omega
  | succ m ih =>
    intro i n1 n2 left x nf np nl ng t b O hc hr h1 h2 h3 h4 h5 h e
    obtain ⟨n1, rfl⟩ : ∃ n', n1 = n' + 1 := ⟨n1 - 1, by omega⟩
    obtain ⟨n2, rfl⟩ : ∃ n', n2 = n' + 1 := ⟨n2 - 1, by omega⟩
    obtain ⟨left, rfl⟩ : ∃ l', left = l' + 1 := ⟨left - 1, by omega⟩
    have hl : left + 1 < 2 ^ 31 := Nat.lt_of_le_of_lt h5 (by decide)
    obtain ⟨⟨c1, c2, c3⟩, r, hi⟩ := h.1
    by_cases k0 : tK T i = 0
    · exact ⟨x, hc, hr, x6_read_0 w c1 hi c2 k0 x hl (Nat.succ_pos _) n1, fun K => r_read_0 r k0 K n2, sK_rf p hc, sR_rf hr, Or.inr ⟨i, nf, np, nl, ng, t, b, O, h, e⟩⟩
    · obtain ⟨hc1, hr1, f1, f2, s1, s2, f3⟩ := ln_all w hp h
      have oC := x6_read_1 w c1 hi c2 k0 c3 f1 x hl n1
      have oR := fun K => r_read_1 r k0 f2 K n2
      rcases f3 with ⟨f, q, k1, k2⟩ | ⟨j, nf', np', nl', ng', t', b', O', hj, hS, hl'⟩
      · obtain ⟨n1, rfl⟩ : ∃ n', n1 = n' + 1 := ⟨n1 - 1, by omega⟩
        obtain ⟨n2, rfl⟩ : ∃ n', n2 = n' + 1 := ⟨n2 - 1, by omega⟩
        exact ⟨x + 1, hc1, hr1, oC.trans (x6_read_F w k1 _ _ n1), fun K => (oR K).trans (r_read_F k2 K n2), s1, s2, Or.inl ⟨f, q, k1, k2⟩⟩
      · obtain ⟨r', hc', hr', g1, g2, g3, g4, g5⟩ := ih j n1 n2 left (x + 1) nf' np' nl' ng' t' b' O' hc1 hr1 (by omega) (by omega) (by omega) (by omega) (by omega) hS (by rw [hl', e])
        exact ⟨r', hc', hr', oC.trans g1, fun K => (oR K).trans (g2 K), s1.tr g3, s2.tr g4, g5⟩
