/-! reading: one token ahead, faults; the class and the reference side by side -/
abbrev TKD : Type := (Nat → Nat) × Nat × Nat × (Nat → Nat) × (Nat → Nat) × (Nat → Int32) × (Nat → Int32)
def tTp (T : TKD) : Nat → Nat := T.1
def tN (T : TKD) : Nat := T.2.1
def tL (T : TKD) : Nat := T.2.2.1
def tSt (T : TKD) : Nat → Nat := T.2.2.2.1
def tPl (T : TKD) : Nat → Nat := T.2.2.2.2.1
def tK (T : TKD) : Nat → Int32 := T.2.2.2.2.2.1
def tV (T : TKD) : Nat → Int32 := T.2.2.2.2.2.2
def TKok (T : TKD) : Prop := 0 < tL T ∧ tL T ≤ 701 ∧ (∀ j, j < tL T → NT (tTp T) (tN T) (tSt T j) (tPl T j) (tSt T (j + 1)) (tK T j) (tV T j)) ∧ tK T (tL T - 1) = 0 ∧ ∀ j, j < tL T - 1 → ¬ tK T j = 0
/-- the class's tokens -/
def cT (T : TKD) (h : HH) : Prop := h.1 25 3 = nI (tL T) ∧ ∀ j, j < tL T → h.1 26 j = tK T j ∧ h.1 27 j = nI (tPl T j) ∧ h.1 28 j = tV T j
theorem cT.k {T : TKD} {h h' : HH} (c : cT T h) (e : ∀ a k, 25 ≤ a → a ≤ 28 → h'.1 a k = h.1 a k) : cT T h' :=
  ⟨(e _ _ (by omega) (by omega)).trans c.1, fun j hj => ⟨(e _ _ (by omega) (by omega)).trans (c.2 j hj).1, (e _ _ (by omega) (by omega)).trans (c.2 j hj).2.1, (e _ _ (by omega) (by omega)).trans (c.2 j hj).2.2⟩⟩
/-- the reference at a token -/
def rA (T : TKD) (i : Nat) (h : HH) : Prop := bR (tTp T) (tN T) h ∧ h.1 255 23 = nI (tSt T (i + 1)) ∧ h.1 255 24 = nI (tPl T i) ∧ sv (tK T i) (tV T i) (h.1 255 25) (h.1 255 26) ∧ h.1 255 27 = 0
theorem rA.k {T : TKD} {i : Nat} {h h' : HH} (c : rA T i h) (e1 : ∀ k, 22 ≤ k → k ≤ 27 → h'.1 255 k = h.1 255 k) (e2 : ∀ k, h'.1 256 k = h.1 256 k) : rA T i h' := by
  obtain ⟨⟨c1, c2, c3⟩, c4, c5, c6, c7⟩ := c
  refine ⟨⟨c1, (e1 _ (by omega) (by omega)).trans c2, fun i hi => ⟨(c3 i hi).1, (e2 i).trans (c3 i hi).2⟩⟩, (e1 _ (by omega) (by omega)).trans c4, (e1 _ (by omega) (by omega)).trans c5, ?_, (e1 _ (by omega) (by omega)).trans c7⟩
  rw [e1 25 (by omega) (by omega), e1 26 (by omega) (by omega)]; exact c6
theorem tK_e {T : TKD} (w : TKok T) {i : Nat} (hi : i < tL T) (hk : ¬ tK T i = 0) : i + 1 < tL T := by
  apply Classical.byContradiction
  intro z
  obtain rfl : i = tL T - 1 := by omega
  exact hk w.2.2.2.1
theorem tK_0 {T : TKD} (w : TKok T) {i : Nat} (hi : i < tL T) (hk : tK T i = 0) : i = tL T - 1 := by
  apply Classical.byContradiction
  intro z
  exact w.2.2.2.2 i (by omega) hk
-- the class
theorem x6_kind {T : TKD} (w : TKok T) {h : HH} (c : cT T h) {i : Nat} (hi : i < tL T) (e : h.1 24 3 = nI i) : g_X6_kind h = some (tK T i, h) := by
  have := w.2.1
  unfold g_X6_kind
  simp only [gfI]
  rw [e, c.1, if_pos (nI_lt hi (by omega)), ldI_of (by omega) (by decide), (c.2 i hi).1]
theorem x6_value {T : TKD} (w : TKok T) {h : HH} (c : cT T h) {i : Nat} (hi : i < tL T) (e : h.1 24 3 = nI i) : g_X6_value h = some (tV T i, h) := by
  have := w.2.1
  unfold g_X6_value
  simp only [gfI]
  rw [e, c.1, if_pos (nI_lt hi (by omega)), ldI_of (by omega) (by decide), (c.2 i hi).2.2]
theorem x6_adv {T : TKD} (w : TKok T) {h : HH} (c : cT T h) {i : Nat} (hi : i < tL T) (e : h.1 24 3 = nI i) : g_X6_advance h = some ((), wrI h 24 3 (nI (i + 1))) := by
  have := w.2.1
  unfold g_X6_advance
  simp only [gfI, pfI]
  rw [e, c.1, if_pos (nI_lt hi (by omega)), nI_1]
theorem x6_fail {T : TKD} (w : TKok T) {h : HH} (c : cT T h) {i : Nat} (hi : i < tL T) (e : h.1 24 3 = nI i) (f : Int32) (e0 : h.1 24 4 = 0) : g_X6_fail f h = some ((), wrI (wrI h 24 4 f) 24 5 (nI (tPl T i))) := by
  have := w.2.1
  have c' : cT T (wrI h 24 4 f) := c.k fun a k h1 h2 => by rw [wrI_1, if_neg (by omega)]
  have e' : (wrI h 24 4 f).1 24 3 = nI i := by rw [wrI_1, if_neg (by omega)]; exact e
  unfold g_X6_fail
  simp only [gfI, pfI, jn]
  rw [e0, if_pos rfl, e', c'.1, if_pos (nI_lt hi (by omega)), ldI_of (by omega) (by decide), (c'.2 i hi).2.1]
theorem x6_failF {h : HH} (f : Int32) (e0 : ¬ h.1 24 4 = 0) : g_X6_fail f h = some ((), h) := by
  unfold g_X6_fail
  simp only [gfI]
  rw [if_neg e0]
/-- behind a fault: what the class keeps -/
def cF (T : TKD) (f : Int32) (q : Nat) (h : HH) : Prop := cT T h ∧ ¬ f = 0 ∧ h.1 24 4 = f ∧ h.1 24 5 = nI q ∧ ∃ i, i ≤ tL T ∧ h.1 24 3 = nI i
/-- nothing but the class's reader and its plan -/
def sK (p : Nat) (h h' : HH) : Prop := (∀ a k, ¬ (a = 24 ∧ 3 ≤ k ∧ k ≤ 11) → a ≠ 29 → ¬ (p ≤ a ∧ a < p + 22) → h'.1 a k = h.1 a k) ∧ h'.2.2 = h.2.2
theorem sK_rf (p : Nat) (h : HH) : sK p h h := ⟨fun _ _ _ _ _ => rfl, rfl⟩
theorem sK.tr {p : Nat} {a b c : HH} (x : sK p a b) (y : sK p b c) : sK p a c := ⟨fun i k q1 q2 q3 => (y.1 i k q1 q2 q3).trans (x.1 i k q1 q2 q3), y.2.trans x.2⟩
theorem sK_24 (p : Nat) (h : HH) {k : Nat} (v : Int32) (h1 : 3 ≤ k) (h2 : k ≤ 11) : sK p h (wrI h 24 k v) := ⟨fun a j q _ _ => by rw [wrI_1, if_neg (by omega)], rfl⟩
theorem sK_p (p : Nat) (h : HH) {a : Nat} (k : Nat) (v : Int32) (h1 : p ≤ a) (h2 : a < p + 22) : sK p h (wrI h a k v) := ⟨fun b j _ _ q => by rw [wrI_1, if_neg (by omega)], rfl⟩
theorem x6_advF {T : TKD} (w : TKok T) {h : HH} {f : Int32} {q : Nat} (c : cF T f q h) (p : Nat) : ∃ h', g_X6_advance h = some ((), h') ∧ cF T f q h' ∧ sK p h h' := by
  have := w.2.1
  obtain ⟨c1, c2, c3, c4, i, c5, c6⟩ := c
  by_cases z : i < tL T
  · exact ⟨_, x6_adv w c1 z c6, ⟨c1.k fun a k h1 h2 => by rw [wrI_1, if_neg (by omega)], c2, by rw [wrI_1, if_neg (by omega)]; exact c3, by rw [wrI_1, if_neg (by omega)]; exact c4, i + 1, by omega, wrI_at _ _ _ _⟩, sK_24 p h _ (by omega) (by omega)⟩
  · refine ⟨h, ?_, ⟨c1, c2, c3, c4, i, c5, c6⟩, sK_rf p h⟩
    unfold g_X6_advance
    simp only [gfI]
    rw [c6, c1.1, if_neg (nI_nlt (by omega) (by omega))]
theorem cF.n {T : TKD} {h : HH} {f : Int32} {q : Nat} (c : cF T f q h) : ¬ h.1 24 4 = 0 := by rw [c.2.2.1]; exact c.2.1
theorem cF.k {T : TKD} {h h' : HH} {f : Int32} {q : Nat} (c : cF T f q h) (e : ∀ a k, (a = 24 ∧ 3 ≤ k ∧ k ≤ 5) ∨ (25 ≤ a ∧ a ≤ 28) → h'.1 a k = h.1 a k) : cF T f q h' :=
  ⟨c.1.k fun a k h1 h2 => e a k (by omega), c.2.1, (e _ _ (by omega)).trans c.2.2.1, (e _ _ (by omega)).trans c.2.2.2.1, by obtain ⟨i, c5, c6⟩ := c.2.2.2.2; exact ⟨i, c5, (e _ _ (by omega)).trans c6⟩⟩
theorem x6_look_F {T : TKD} {h : HH} {f : Int32} {q : Nat} (c : cF T f q h) (a b : Int32) : g_X6_look a b h = some (a, h) := by
  unfold g_X6_look
  simp only [gfI]
  rw [if_neg c.n]
theorem x6_number_F {T : TKD} (w : TKok T) {h : HH} {f : Int32} {q : Nat} (c : cF T f q h) (p : Nat) (a b : Int32) : ∃ h', g_X6_number a b h = some (a, h') ∧ cF T f q h' ∧ sK p h h' := by
  obtain ⟨h', f1, f2, f3⟩ := x6_advF w c p
  refine ⟨h', ?_, f2, f3⟩
  unfold g_X6_number
  rw [x6_look_F c, bnd_some, f1]
  rfl
/-- a fault told now -/
theorem x6_failT {T : TKD} (w : TKok T) {h : HH} (c : cT T h) {i : Nat} (hi : i < tL T) (e : h.1 24 3 = nI i) (f : Int32) (e0 : h.1 24 4 = 0) (hf : ¬ f = 0) (p : Nat) : ∃ h', g_X6_fail f h = some ((), h') ∧ cF T f (tPl T i) h' ∧ sK p h h' := by
  refine ⟨_, x6_fail w c hi e f e0, ⟨c.k fun a k h1 h2 => by rw [wrI_1, if_neg (by omega), wrI_1, if_neg (by omega)], hf, by rw [wrI_1, if_neg (by omega), wrI_at], wrI_at _ _ _ _, i, by omega, by rw [wrI_1, if_neg (by omega), wrI_1, if_neg (by omega)]; exact e⟩, (sK_24 p h _ (by omega) (by omega)).tr (sK_24 p _ _ (by omega) (by omega))⟩
-- the reference
/-- behind a fault: what the reference keeps -/
def rF (f : Int32) (q : Nat) (h : HH) : Prop := ¬ f = 0 ∧ h.1 255 27 = f ∧ h.1 255 28 = nI q
theorem rF.n {h : HH} {f : Int32} {q : Nat} (c : rF f q h) : ¬ h.1 255 27 = 0 := by rw [c.2.1]; exact c.1
theorem r_token {T : TKD} (w : TKok T) {i : Nat} (hi : i < tL T) (hk : ¬ tK T i = 0) {h : HH} (r : rA T i h) : ∃ h', g_X11_token h = some ((), h') ∧ tkS h h' ∧ rA T (i + 1) h' := by
  obtain ⟨r1, r2, r3, r4, r5⟩ := r
  obtain ⟨h', f1, f2, f3, f4, f5⟩ := w.2.2.1 (i + 1) (tK_e w hi hk) h r1 r2
  exact ⟨h', f1, f2, r1.k f2, f3, f4, f5, (f2.1 _ _ (by omega)).trans r5⟩
theorem r_goOn {T : TKD} (w : TKok T) {i : Nat} (hi : i < tL T) (hk : ¬ tK T i = 0) {h : HH} (r : rA T i h) : ∃ h', g_X11_goOn h = some ((), h') ∧ tkS h h' ∧ rA T (i + 1) h' := by
  obtain ⟨h', f1, f2⟩ := r_token w hi hk r
  refine ⟨h', ?_, f2⟩
  unfold g_X11_goOn
  simp only [gfI]
  rw [r.2.2.2.2, if_pos rfl, f1]
  rfl
theorem r_goOn_F {f : Int32} {q : Nat} {h : HH} (c : rF f q h) : g_X11_goOn h = some ((), h) := by
  unfold g_X11_goOn
  simp only [gfI]
  rw [if_neg c.n]
/-- nothing but the reference's reading -/
def sR (h h' : HH) : Prop := (∀ a k, ¬ (a = 255 ∧ ((20 ≤ k ∧ k ≤ 32 ∧ k ≠ 22 ∧ k ≠ 29 ∧ k ≠ 30))) → ¬ (a = 257 ∧ 7 ≤ k) → ¬ ((258 ≤ a ∧ a ≤ 261) ∧ 6 ≤ k) → ¬ (a = 262 ∧ 36 ≤ k) → ¬ ((263 ≤ a ∧ a ≤ 265) ∧ 6 ≤ k) → ¬ ((266 ≤ a ∧ a ≤ 269) ∧ 20 ≤ k) → ¬ ((a = 270 ∨ a = 271) ∧ 3 ≤ k) → ¬ ((a = 272 ∨ a = 273) ∧ 64 ≤ k) → h'.1 a k = h.1 a k) ∧ h'.2 = h.2
theorem sR_rf (h : HH) : sR h h := ⟨fun _ _ _ _ _ _ _ _ _ _ => rfl, rfl⟩
theorem sR.tr {a b c : HH} (x : sR a b) (y : sR b c) : sR a c := ⟨fun i k q1 q2 q3 q4 q5 q6 q7 q8 => (y.1 i k q1 q2 q3 q4 q5 q6 q7 q8).trans (x.1 i k q1 q2 q3 q4 q5 q6 q7 q8), y.2.trans x.2⟩
theorem sR_255 (h : HH) {k : Nat} (v : Int32) (h1 : 20 ≤ k) (h2 : k ≤ 32) (h3 : k ≠ 22) (h4 : k ≠ 29) (h5 : k ≠ 30) : sR h (wrI h 255 k v) := ⟨fun a j q1 q2 q3 q4 q5 q6 q7 q8 => by rw [wrI_1, if_neg (by omega)], rfl⟩
theorem tkS.R {h h' : HH} (t : tkS h h') : sR h h' := ⟨fun a k q1 q2 q3 q4 q5 q6 q7 q8 => t.1 a k (by omega), t.2⟩
theorem r_wrong {h : HH} (f : Int32) (e0 : h.1 255 27 = 0) (hf : ¬ f = 0) {q : Nat} (eq : h.1 255 24 = nI q) : ∃ h', g_X11_wrong f h = some ((), h') ∧ rF f q h' ∧ sR h h' ∧ ∀ a k, ¬ (a = 255 ∧ (k = 27 ∨ k = 28)) → h'.1 a k = h.1 a k := by
  refine ⟨wrI (wrI h 255 27 f) 255 28 (nI q), ?_, ⟨hf, by rw [wrI_1, if_neg (by omega), wrI_at], wrI_at _ _ _ _⟩, (sR_255 h _ (by omega) (by omega) (by omega) (by omega) (by omega)).tr (sR_255 _ _ (by omega) (by omega) (by omega) (by omega) (by omega)), fun a k z => by rw [wrI_1, if_neg (by omega), wrI_1, if_neg (by omega)]⟩
  unfold g_X11_wrong
  simp only [gfI, pfI]
  rw [e0, if_pos rfl, wrI_1 h 255 27 f 255 24, if_neg (by omega), eq]
theorem r_wrong_F {f : Int32} {q : Nat} {h : HH} (c : rF f q h) (g : Int32) : g_X11_wrong g h = some ((), h) := by
  unfold g_X11_wrong
  simp only [gfI]
  rw [if_neg c.n]
theorem r_numeral_F {f : Int32} {q : Nat} {h : HH} (c : rF f q h) (a b : Int32) : g_X11_numeral a b h = some (a, h) := by
  unfold g_X11_numeral
  simp only [gfI]
  rw [if_neg c.n]
-- kinds and sorts
theorem sg_1 : ∀ q, q ∈ sgL → ∀ q', q' ∈ sgL → (q.1 = q'.1 ↔ q.2 = q'.2) := by decide +kernel
theorem sg_2 : ∀ q, q ∈ sgL → ¬ q.1 = 0 ∧ ¬ q.1 = 1 ∧ ¬ q.1 = 2 ∧ ¬ q.1 = 3 ∧ 4 ≤ q.1 ∧ q.1 ≤ 16 := by decide +kernel
theorem w_lt {j : Nat} (hj : j < 24) : sW j < 24 := (sW_f j hj).1
theorem sv_num {k v s u : Int32} (h : sv k v s u) : (s = 2) = (k = 2) := by
  rcases h with ⟨rfl, rfl⟩ | ⟨rfl, rfl⟩ | ⟨rfl, rfl, _⟩ | ⟨rfl, rfl, _⟩ | ⟨j, hj, rfl, rfl, _⟩ | ⟨q, hq, rfl, rfl, _⟩
  · decide
  · decide
  · rfl
  · decide
  · refine propext ⟨fun e => absurd e (by decide), fun e => ?_⟩
    have := (nI_eq (b := 2) (by have := w_lt hj; omega) (by decide)).mp e
    omega
  · exact propext ⟨fun e => absurd e (by decide), fun e => absurd e (sg_2 q hq).2.2.1⟩
theorem sv_nam {k v s u : Int32} (h : sv k v s u) : (s = 1) = (k = 3) := by
  rcases h with ⟨rfl, rfl⟩ | ⟨rfl, rfl⟩ | ⟨rfl, rfl, _⟩ | ⟨rfl, rfl, _⟩ | ⟨j, hj, rfl, rfl, _⟩ | ⟨q, hq, rfl, rfl, _⟩
  · decide
  · decide
  · decide
  · decide
  · refine propext ⟨fun e => absurd e (by decide), fun e => ?_⟩
    have := (nI_eq (b := 3) (by have := w_lt hj; omega) (by decide)).mp e
    omega
  · exact propext ⟨fun e => absurd e (by decide), fun e => absurd e (sg_2 q hq).2.2.2.1⟩
theorem sv_end {k v s u : Int32} (h : sv k v s u) : (s = 4) = (k = 0) := by
  rcases h with ⟨rfl, rfl⟩ | ⟨rfl, rfl⟩ | ⟨rfl, rfl, _⟩ | ⟨rfl, rfl, _⟩ | ⟨j, hj, rfl, rfl, _⟩ | ⟨q, hq, rfl, rfl, _⟩
  · decide
  · decide
  · decide
  · decide
  · refine propext ⟨fun e => absurd e (by decide), fun e => ?_⟩
    have := (nI_eq (b := 0) (by have := w_lt hj; omega) (by decide)).mp e
    omega
  · exact propext ⟨fun e => absurd e (by decide), fun e => absurd e (sg_2 q hq).1⟩
/-- a word of the language -/
theorem sv_wrd {k v s u : Int32} (h : sv k v s u) : (s = 0) = (∃ j, j < 24 ∧ k = nI (17 + sW j) ∧ u = nI j) := by
  rcases h with ⟨rfl, rfl⟩ | ⟨rfl, rfl⟩ | ⟨rfl, rfl, _⟩ | ⟨rfl, rfl, _⟩ | ⟨j, hj, rfl, rfl, rfl⟩ | ⟨q, hq, rfl, rfl, _⟩
  · refine propext ⟨fun e => absurd e (by decide), fun ⟨j, hj, e, _⟩ => absurd ((nI_eq (a := 0) (by decide) (by have := w_lt hj; omega)).mp e) (by omega)⟩
  · refine propext ⟨fun e => absurd e (by decide), fun ⟨j, hj, e, _⟩ => absurd ((nI_eq (a := 1) (by decide) (by have := w_lt hj; omega)).mp e) (by omega)⟩
  · refine propext ⟨fun e => absurd e (by decide), fun ⟨j, hj, e, _⟩ => absurd ((nI_eq (a := 2) (by decide) (by have := w_lt hj; omega)).mp e) (by omega)⟩
  · refine propext ⟨fun e => absurd e (by decide), fun ⟨j, hj, e, _⟩ => absurd ((nI_eq (a := 3) (by decide) (by have := w_lt hj; omega)).mp e) (by omega)⟩
  · exact propext ⟨fun _ => ⟨j, hj, rfl, rfl⟩, fun _ => rfl⟩
  · refine propext ⟨fun e => absurd e (by decide), fun ⟨j, hj, e, _⟩ => ?_⟩
    have := (sg_2 q hq).2.2.2.2.2
    rw [e] at this
    exact absurd this (nI_ge (b := 17 + sW j) (a := 16) (by omega) (by have := w_lt hj; omega))
theorem sW_inj {i j : Nat} (hi : i < 24) (hj : j < 24) (e : sW i = sW j) : i = j := by
  have := congrArg sW e
  rw [(sW_f i hi).2.1, (sW_f j hj).2.1] at this
  exact this
theorem sv_w {k v s u : Int32} (h : sv k v s u) {j : Nat} (hj : j < 24) : (s = 0 ∧ u = nI j) = (k = nI (17 + sW j)) := by
  refine propext ⟨fun ⟨e1, e2⟩ => ?_, fun e => ?_⟩
  · rw [sv_wrd h] at e1
    obtain ⟨i, hi, f1, f2⟩ := e1
    rw [e2] at f2
    have := (nI_eq (by omega) (by omega)).mp f2
    rw [f1, this]
  · have e1 : s = 0 := by
      apply Classical.byContradiction
      intro z
      rcases h with ⟨rfl, rfl⟩ | ⟨rfl, rfl⟩ | ⟨rfl, rfl, _⟩ | ⟨rfl, rfl, _⟩ | ⟨i, hi, rfl, rfl, _⟩ | ⟨q, hq, rfl, rfl, _⟩
      · exact absurd ((nI_eq (a := 0) (by decide) (by have := w_lt hj; omega)).mp e) (by omega)
      · exact absurd ((nI_eq (a := 1) (by decide) (by have := w_lt hj; omega)).mp e) (by omega)
      · exact absurd ((nI_eq (a := 2) (by decide) (by have := w_lt hj; omega)).mp e) (by omega)
      · exact absurd ((nI_eq (a := 3) (by decide) (by have := w_lt hj; omega)).mp e) (by omega)
      · exact z rfl
      · have := (sg_2 q hq).2.2.2.2.2
        rw [e] at this
        exact absurd this (nI_ge (b := 17 + sW j) (a := 16) (by omega) (by have := w_lt hj; omega))
    refine ⟨e1, ?_⟩
    rw [sv_wrd h] at e1
    obtain ⟨i, hi, f1, f2⟩ := e1
    rw [e] at f1
    have := (nI_eq (by have := w_lt hj; omega) (by have := w_lt hi; omega)).mp f1
    have := sW_inj hj hi (by omega)
    rw [f2, this]
theorem sv_g {k v s u : Int32} (h : sv k v s u) {q : Int32 × Int32} (hq : q ∈ sgL) : (s = 3 ∧ u = q.2) = (k = q.1) := by
  rcases h with ⟨rfl, rfl⟩ | ⟨rfl, rfl⟩ | ⟨rfl, rfl, _⟩ | ⟨rfl, rfl, _⟩ | ⟨j, hj, rfl, rfl, _⟩ | ⟨q', hq', rfl, rfl, rfl⟩
  · exact propext ⟨fun e => absurd e.1 (by decide), fun e => absurd e.symm (sg_2 q hq).1⟩
  · exact propext ⟨fun e => absurd e.1 (by decide), fun e => absurd e.symm (sg_2 q hq).2.1⟩
  · exact propext ⟨fun e => absurd e.1 (by decide), fun e => absurd e.symm (sg_2 q hq).2.2.1⟩
  · exact propext ⟨fun e => absurd e.1 (by decide), fun e => absurd e.symm (sg_2 q hq).2.2.2.1⟩
  · refine propext ⟨fun e => absurd e.1 (by decide), fun e => ?_⟩
    have := (sg_2 q hq).2.2.2.2.2
    rw [← e] at this
    exact absurd this (nI_ge (b := 17 + sW j) (a := 16) (by omega) (by have := w_lt hj; omega))
  · exact propext ⟨fun e => (sg_1 q' hq' q hq).mpr e.2, fun e => ⟨rfl, (sg_1 q' hq' q hq).mp e⟩⟩
theorem r_isSign {T : TKD} {i : Nat} {h : HH} (r : rA T i h) {q : Int32 × Int32} (hq : q ∈ sgL) : g_X11_isSign q.2 h = some (if tK T i = q.1 then 1 else 0, h) := by
  obtain ⟨r1, r2, r3, r4, r5⟩ := r
  have e := sv_g r4 hq
  unfold g_X11_isSign
  simp only [gfI]
  rw [r5, if_pos rfl]
  by_cases z : tK T i = q.1
  · rw [← e] at z
    have z' := z
    rw [e] at z'
    rw [if_pos z.1, if_pos z.2, if_pos z']
  · rw [if_neg z]
    rw [← e] at z
    by_cases z1 : h.1 255 25 = 3
    · rw [if_pos z1, if_neg (fun z2 => z ⟨z1, z2⟩)]
    · rw [if_neg z1]
theorem r_isWord {T : TKD} {i : Nat} {h : HH} (r : rA T i h) {j : Nat} (hj : j < 24) : g_X11_isWord (nI j) h = some (if tK T i = nI (17 + sW j) then 1 else 0, h) := by
  obtain ⟨r1, r2, r3, r4, r5⟩ := r
  have e := sv_w r4 hj
  unfold g_X11_isWord
  simp only [gfI]
  rw [r5, if_pos rfl]
  by_cases z : tK T i = nI (17 + sW j)
  · rw [← e] at z
    have z' := z
    rw [e] at z'
    rw [if_pos z.1, if_pos z.2, if_pos z']
  · rw [if_neg z]
    rw [← e] at z
    by_cases z1 : h.1 255 25 = 0
    · rw [if_pos z1, if_neg (fun z2 => z ⟨z1, z2⟩)]
    · rw [if_neg z1]
theorem r_isSign_F {f : Int32} {q : Nat} {h : HH} (c : rF f q h) (g : Int32) : g_X11_isSign g h = some (0, h) := by
  unfold g_X11_isSign
  simp only [gfI]
  rw [if_neg c.n]
theorem r_isWord_F {f : Int32} {q : Nat} {h : HH} (c : rF f q h) (g : Int32) : g_X11_isWord g h = some (0, h) := by
  unfold g_X11_isWord
  simp only [gfI]
  rw [if_neg c.n]
