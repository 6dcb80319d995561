/-! a text told: how both end -/
theorem r_half_L {a n : Nat} (hs : shL[a]? = some (.inr (0, 2 * n, 0))) (hn : n ≤ 100) (h : HH) : ∀ (m i N : Nat) (g : HH), i + m = n → m < N → (∀ k, k < i → g.1 a k = h.1 a (n + k)) → (∀ x k, ¬ (x = a ∧ k < i) → g.1 x k = h.1 x k) → g.2 = h.2 → ∃ h', g_X11_half_L7 a (nI n) N (nI i) g = some ((), h') ∧ (∀ k, k < n → h'.1 a k = h.1 a (n + k)) ∧ (∀ x k, ¬ (x = a ∧ k < n) → h'.1 x k = h.1 x k) ∧ h'.2 = h.2 := by
  have hl : lnA a = 2 * n := by unfold lnA; rw [hs]
  intro m
  induction m with
  | zero =>
    intro i N g hi hN e1 e2 e3
    obtain ⟨N, rfl⟩ : ∃ n', N = n' + 1 := ⟨N - 1, by omega⟩
    obtain rfl : i = n := by omega
    exact ⟨g, by rw [g_X11_half_L7, if_neg (nI_nlt (Nat.le_refl _) (by omega))], e1, e2, e3⟩
  | succ m ih =>
    intro i N g hi hN e1 e2 e3
    obtain ⟨N, rfl⟩ : ∃ n', N = n' + 1 := ⟨N - 1, by omega⟩
    obtain ⟨h', f1, f2⟩ := ih (i + 1) N (wrI g a i (h.1 a (n + i))) (by omega) (by omega) (fun k hk => by
      rw [wrI_1]
      by_cases z : k = i
      · rw [if_pos ⟨rfl, z⟩, z]
      · rw [if_neg (by omega)]; exact e1 k (by omega)) (fun x k q => by rw [wrI_1, if_neg (by omega)]; exact e2 x k (by omega)) e3
    refine ⟨h', ?_, f2⟩
    rw [g_X11_half_L7, if_pos (nI_lt (by omega) (by omega)), nI_add, hl, ldI_of (by omega) (by omega), stI_of (by omega) (by omega), e2 a (n + i) (by omega)]
    simp only [vl, nI_1]
    exact f1
theorem r_half {a n : Nat} (hs : shL[a]? = some (.inr (0, 2 * n, 0))) (hn : n ≤ 100) (h : HH) : ∃ h', g_X11_half a h = some ((), h') ∧ (∀ k, k < n → h'.1 a k = h.1 a (n + k)) ∧ (∀ x k, ¬ (x = a ∧ k < n) → h'.1 x k = h.1 x k) ∧ h'.2 = h.2 := by
  obtain ⟨N, hN⟩ : ∃ N : Nat, N = 1024 := ⟨_, rfl⟩
  have hl : lnA a = 2 * n := by unfold lnA; rw [hs]
  obtain ⟨h', f1, f2⟩ := r_half_L hs hn h n 0 N h (by omega) (by omega) (fun k hk => absurd hk (by omega)) (fun _ _ _ => rfl) rfl
  refine ⟨h', ?_, f2⟩
  unfold g_X11_half ckA dvI
  rw [hl, if_pos hs, if_neg (show ¬ (2 : Int32) = 0 by decide), ← hN, show Int32.ofNat (2 * n) / 2 = nI n from by
    show nI (2 * n) / nI 2 = nI n
    rw [pk_div (by omega) (by decide) (by decide)]
    congr 1
    omega]
  exact f1
theorem r_hvs (K : HH → Option (Int32 × HH)) : ∀ (l : List Nat) (h : HH), (∀ a ∈ l, ∃ n, n ≤ 100 ∧ shL[a]? = some (.inr (0, 2 * n, 0))) → l.Nodup → ∃ h', hvs K l h = K h' ∧ (∀ a ∈ l, ∀ n, shL[a]? = some (.inr (0, 2 * n, 0)) → ∀ k, k < n → h'.1 a k = h.1 a (n + k)) ∧ (∀ x k, x ∉ l → h'.1 x k = h.1 x k) ∧ h'.2 = h.2 := by
  intro l
  induction l with
  | nil => exact fun h _ _ => ⟨h, rfl, fun a ha => absurd ha List.not_mem_nil, fun _ _ _ => rfl, rfl⟩
  | cons a l ih =>
    intro h hl hd
    obtain ⟨hd1, hd2⟩ := List.nodup_cons.mp hd
    obtain ⟨n, n1, n2⟩ := hl a (List.mem_cons_self ..)
    obtain ⟨h1, f1, f2, f3, f4⟩ := r_half n2 n1 h
    obtain ⟨h', g1, g2, g3, g4⟩ := ih h1 (fun b hb => hl b (List.mem_cons_of_mem _ hb)) hd2
    refine ⟨h', by show bnd (g_X11_half a h) _ = _; rw [f1, bnd_some, g1], fun b hb n' hn' k hk => ?_, fun x k hx => ?_, g4.trans f4⟩
    · rcases List.mem_cons.mp hb with rfl | hb
      · have : n' = n := by
          have e := hn'.symm.trans n2
          injection e with e; injection e with e; injection e with _ e; injection e with e _
          omega
        rw [g3 b k hd1, this]
        exact f2 k (by omega)
      · have : b ≠ a := fun z => hd1 (z ▸ hb)
        rw [g2 b hb n' hn' k hk, f3 _ _ (fun z => this z.1)]
    · rw [g3 x k (fun z => hx (List.mem_cons_of_mem _ z)), f3 _ _ (fun z => hx (by rw [z.1]; exact List.mem_cons_self ..))]
theorem hvL_sh : ∀ a ∈ hvL, ∃ n, n ≤ 100 ∧ shL[a]? = some (.inr (0, 2 * n, 0)) := by
  intro a ha
  simp only [hvL, List.mem_cons, List.not_mem_nil, or_false] at ha
  rcases ha with rfl | rfl | rfl | rfl | rfl | rfl | rfl | rfl | rfl | rfl | rfl | rfl | rfl | rfl | rfl | rfl | rfl
  · exact ⟨7, by decide, sh_257⟩
  · exact ⟨6, by decide, sh_258⟩
  · exact ⟨6, by decide, sh_259⟩
  · exact ⟨6, by decide, sh_260⟩
  · exact ⟨6, by decide, sh_261⟩
  · exact ⟨36, by decide, sh_262⟩
  · exact ⟨6, by decide, sh_263⟩
  · exact ⟨6, by decide, sh_264⟩
  · exact ⟨6, by decide, sh_265⟩
  · exact ⟨20, by decide, sh_266⟩
  · exact ⟨20, by decide, sh_267⟩
  · exact ⟨20, by decide, sh_268⟩
  · exact ⟨20, by decide, sh_269⟩
  · exact ⟨3, by decide, sh_270⟩
  · exact ⟨3, by decide, sh_271⟩
  · exact ⟨64, by decide, sh_272⟩
  · exact ⟨64, by decide, sh_273⟩
/-- what the rows of the reference hold behind the halves -/
def HVD (h h' : HH) : Prop := (∀ k, k < 7 → h'.1 257 k = h.1 257 (7 + k)) ∧ (∀ a k, (258 ≤ a ∧ a ≤ 261) ∨ (263 ≤ a ∧ a ≤ 265) → k < 6 → h'.1 a k = h.1 a (6 + k)) ∧ (∀ k, k < 36 → h'.1 262 k = h.1 262 (36 + k)) ∧ (∀ a k, 266 ≤ a ∧ a ≤ 269 → k < 20 → h'.1 a k = h.1 a (20 + k)) ∧ (∀ a k, a = 270 ∨ a = 271 → k < 3 → h'.1 a k = h.1 a (3 + k)) ∧ (∀ a k, a = 272 ∨ a = 273 → k < 64 → h'.1 a k = h.1 a (64 + k))
theorem hvL_mem {a : Nat} (h : 257 ≤ a ∧ a ≤ 273) : a ∈ hvL := by
  simp only [hvL, List.mem_cons, List.not_mem_nil, or_false]
  omega
theorem hvL_not {a : Nat} (h : ¬ (257 ≤ a ∧ a ≤ 273)) : a ∉ hvL := by
  simp only [hvL, List.mem_cons, List.not_mem_nil, or_false]
  omega
theorem r_halves (K : HH → Option (Int32 × HH)) (h : HH) : ∃ h', hvs K hvL h = K h' ∧ HVD h h' ∧ (∀ a k, ¬ (257 ≤ a ∧ a ≤ 273) → h'.1 a k = h.1 a k) ∧ h'.2 = h.2 := by
  obtain ⟨h', f1, f2, f3, f4⟩ := r_hvs K hvL h hvL_sh (by decide)
  refine ⟨h', f1, ⟨f2 257 (hvL_mem (by omega)) 7 sh_257, fun a k ha hk => ?_, f2 262 (hvL_mem (by omega)) 36 sh_262, fun a k ha hk => ?_, fun a k ha hk => ?_, fun a k ha hk => ?_⟩, fun a k ha => f3 a k (hvL_not ha), f4⟩
  · rcases (show a = 258 ∨ a = 259 ∨ a = 260 ∨ a = 261 ∨ a = 263 ∨ a = 264 ∨ a = 265 by omega) with rfl | rfl | rfl | rfl | rfl | rfl | rfl
    · exact f2 _ (hvL_mem (by omega)) 6 sh_258 k hk
    · exact f2 _ (hvL_mem (by omega)) 6 sh_259 k hk
    · exact f2 _ (hvL_mem (by omega)) 6 sh_260 k hk
    · exact f2 _ (hvL_mem (by omega)) 6 sh_261 k hk
    · exact f2 _ (hvL_mem (by omega)) 6 sh_263 k hk
    · exact f2 _ (hvL_mem (by omega)) 6 sh_264 k hk
    · exact f2 _ (hvL_mem (by omega)) 6 sh_265 k hk
  · rcases (show a = 266 ∨ a = 267 ∨ a = 268 ∨ a = 269 by omega) with rfl | rfl | rfl | rfl
    · exact f2 _ (hvL_mem (by omega)) 20 sh_266 k hk
    · exact f2 _ (hvL_mem (by omega)) 20 sh_267 k hk
    · exact f2 _ (hvL_mem (by omega)) 20 sh_268 k hk
    · exact f2 _ (hvL_mem (by omega)) 20 sh_269 k hk
  · rcases ha with rfl | rfl
    · exact f2 _ (hvL_mem (by omega)) 3 sh_270 k hk
    · exact f2 _ (hvL_mem (by omega)) 3 sh_271 k hk
  · rcases ha with rfl | rfl
    · exact f2 _ (hvL_mem (by omega)) 64 sh_272 k hk
    · exact f2 _ (hvL_mem (by omega)) 64 sh_273 k hk
/-- the plan that the class's reader holds -/
def plA (p : Nat) (h : HH) : TB := fun o k => h.1 (p + o) k
theorem how_of {how : Nat} (h : how < 3) : (nI (22 + how) = 22 ∨ nI (22 + how) = 23 ∨ nI (22 + how) = 24) ∧ (nI (22 + how) = 22 → how = 0) ∧ (nI (22 + how) = 23 → how = 1) ∧ nI (22 + how) = nI how + 22 := by
  rcases (show how = 0 ∨ how = 1 ∨ how = 2 by omega) with rfl | rfl | rfl <;> decide
theorem tx_PW {p nf np nl ng t b : Nat} {O : List (Int32 × Int32)} {hc hr : HH} (hP : PRL p nf np nl ng hc hr) (hL : LWS p t b O hc hr) : PW (plA p hc) nf np nl ng := by
  obtain ⟨⟨⟨a1, a2, a3⟩, ⟨a4, a5, a6⟩, ⟨a7, a8, a9⟩, a10, a11, a12⟩, ⟨⟨sl, b1, b2, b3⟩, b4, b5⟩, c, d, ⟨f1, f2⟩, ⟨g1, g2⟩, l, m⟩ := hP
  obtain ⟨⟨l1, l2, l3, l4, l5⟩, ⟨l6, l7, l8⟩, l9⟩ := hL
  refine ⟨⟨a3, a6, a9, a12, a10, a1, fun g hg => ?_, fun x hx => ?_⟩, fun r hr => ?_, a4, a7, ⟨sl, b1, b2⟩, fun a ha => ?_, fun f hf => ?_, fun x hx => ?_, ⟨fun a ha => ?_, fun j hj => ?_, fun a h1 h2 => ⟨f2 a h1 h2, (f1 a h2).1, (f1 a h2).2.1, (f1 a h2).2.2⟩, 0, by omega, b5⟩, f1, b5, g2⟩
  · obtain ⟨how, a, u, x, ⟨w1, w2, w3, w4, w5, w6⟩, ⟨m2, m3⟩, ⟨m4, m5⟩, ⟨m6, m7⟩, m8, m9⟩ := m g hg
    obtain ⟨h1, h2, h3, h4⟩ := how_of w1
    have e7 : plA p hc 7 g = nI (22 + how) := m2
    rw [e7]
    exact ⟨h1, ⟨a, w2, m4⟩, ⟨u, w3, m6⟩, x, m8, fun z => w5 (h2 z), fun z => w6 (h3 z), w4⟩
  · obtain ⟨i, j, u, ⟨w1, w2, w3⟩, ⟨y1, y2⟩, ⟨y3, y4⟩, y5, y6⟩ := l x hx
    exact ⟨i, j, w1, w2, y1, y3⟩
  · obtain ⟨s, e, ⟨e1, e2⟩, e3, ⟨e4, e5⟩, e6, e7⟩ := l9 r hr
    refine ⟨s, e, e1, e2, ⟨e4, by omega, e6⟩, fun i hi => ?_⟩
    have hO : i < O.length := by omega
    obtain ⟨⟨y1, y2⟩, y3, y4⟩ := l8 i O[i] (List.getElem?_eq_getElem hO)
    have : plA p hc 12 i = O[i].1 := y1
    rw [this]; exact y4
  · obtain ⟨_, ⟨u, u1, u2, u3⟩, _⟩ := d a ha
    exact ⟨u, u1, u2⟩
  · obtain ⟨u, u1, u2, u3⟩ := c f hf
    exact ⟨u, u1, u2⟩
  · obtain ⟨i, j, u, ⟨w1, w2, w3⟩, _, _, y5, y6⟩ := l x hx
    exact ⟨u, w3, y5⟩
  · obtain ⟨_, _, v, v1, v2, v3⟩ := d a ha
    exact ⟨v, v1, v2⟩
  · by_cases z : j < 6 * np
    · exact (g1 j z).2
    · have e := g2 j (by omega) hj
      have : tdA (plA p hc) 5 j = 0 := e
      rw [this]
      exact ⟨by decide, by decide⟩
theorem tx_MP {p nf np nl ng t b : Nat} {O : List (Int32 × Int32)} {hc hr h : HH} (hP : PRL p nf np nl ng hc hr) (hL : LWS p t b O hc hr) (v : HVD hr h) : MP h (plA p hc) nf np nl ng ∧ (∀ a, a < np → h.1 259 a = plA p hc 2 a ∧ h.1 260 a = plA p hc 17 a) ∧ (∀ k, k < 6 * np → h.1 262 k = plA p hc 21 k) ∧ h.1 257 5 = plA p hc 16 6 ∧ h.1 257 6 = plA p hc 11 2 := by
  obtain ⟨⟨⟨a1, a2, a3⟩, ⟨a4, a5, a6⟩, ⟨a7, a8, a9⟩, a10, a11, a12⟩, ⟨⟨sl, b1, b2, b3⟩, b4, b5⟩, c, d, ⟨f1, f2⟩, ⟨g1, g2⟩, l, m⟩ := hP
  obtain ⟨⟨l1, l2, l3, l4, l5⟩, ⟨l6, l7, l8⟩, l9⟩ := hL
  obtain ⟨v1, v2, v3, v4, v5, v6⟩ := v
  refine ⟨⟨(v1 0 (by omega)).trans a2, (v1 1 (by omega)).trans a5, (v1 2 (by omega)).trans a8, (v1 3 (by omega)).trans a11, ((v1 4 (by omega)).trans b3).trans b2.symm, fun f hf => ?_, fun a ha => ?_, fun x hx => ?_, fun g hg => ?_, fun r hr => ?_⟩, fun a ha => ?_, fun k hk => ?_, (v1 5 (by omega)).trans b4.symm, ((v1 6 (by omega)).trans l7).trans l6.symm⟩
  · obtain ⟨u, u1, u2, u3⟩ := c f hf
    exact ((v2 258 f (by omega) (by omega)).trans u3).trans u2.symm
  · obtain ⟨_, ⟨u, u1, u2, u3⟩, _⟩ := d a ha
    exact ((v2 261 a (by omega) (by omega)).trans u3).trans u2.symm
  · obtain ⟨i, j, u, _, ⟨y1, y2⟩, ⟨y3, y4⟩, y5, y6⟩ := l x hx
    exact ⟨((v2 263 x (by omega) (by omega)).trans y2).trans y1.symm, ((v2 264 x (by omega) (by omega)).trans y4).trans y3.symm, ((v2 265 x (by omega) (by omega)).trans y6).trans y5.symm⟩
  · obtain ⟨how, a, u, x, ⟨w1, w2, w3, w4, w5, w6⟩, ⟨m2, m3⟩, ⟨m4, m5⟩, ⟨m6, m7⟩, m8, m9⟩ := m g hg
    refine ⟨?_, ((v4 267 g (by omega) (by omega)).trans m5).trans m4.symm, ((v4 268 g (by omega) (by omega)).trans m7).trans m6.symm, ((v4 269 g (by omega) (by omega)).trans m9).trans m8.symm⟩
    rw [v4 266 g (by omega) (by omega), m3]
    exact m2.trans (how_of w1).2.2.2
  · obtain ⟨s, e, ⟨e1, e2⟩, ⟨e3, e3'⟩, ⟨e4, e5⟩, e6, e7⟩ := l9 r hr
    refine ⟨((v5 270 r (by omega) hr).trans e3).trans e1.symm, ((v5 271 r (by omega) hr).trans e3').trans e2.symm, fun i hi => ?_⟩
    have ee : plA p hc 15 r = nI e := e2
    rw [ee, nI_clamp (by omega)] at hi
    have hO : i < O.length := by omega
    obtain ⟨⟨y1, y2⟩, y3, y4⟩ := l8 i O[i] (List.getElem?_eq_getElem hO)
    have q1 : plA p hc 12 i = O[i].1 := y1
    have q2 : plA p hc 13 i = O[i].2 := y2
    rw [q1, q2, v6 272 i (by omega) (by omega), v6 273 i (by omega) (by omega)]
    exact y3
  · obtain ⟨d1, _, v, _, d2, d3⟩ := d a ha
    exact ⟨(v2 259 a (by omega) (by omega)).trans d1, ((v2 260 a (by omega) (by omega)).trans d3).trans d2.symm⟩
  · exact (v3 k (by omega)).trans (g1 k hk).1.symm
