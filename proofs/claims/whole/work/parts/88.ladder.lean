/-! a line that tells a ladder -/
theorem frl0 (h : HH) : g_X11_fresher 0 h = some (h.1 257 7, h) := fr_of (w := 0) (by decide)
theorem frl1 (h : HH) : g_X11_fresher 1 h = some (h.1 257 8, h) := fr_of (w := 1) (by decide)
theorem frl2 (h : HH) : g_X11_fresher 2 h = some (h.1 257 9, h) := fr_of (w := 2) (by decide)
theorem frl3 (h : HH) : g_X11_fresher 3 h = some (h.1 257 10, h) := fr_of (w := 3) (by decide)
theorem PRL.kl {p nf np nl ng : Nat} {hc hr hc' hr' : HH} (h : PRL p nf np nl ng hc hr) (hn : nl < 6) (e1 : ∀ a k, p ≤ a → a < p + 22 → ¬ (a = p ∧ k = 5) → ¬ ((p + 4 ≤ a ∧ a ≤ p + 6) ∧ k = nl) → hc'.1 a k = hc.1 a k) (e2 : ∀ a k, 257 ≤ a → a ≤ 269 → ¬ (a = 257 ∧ k = 9) → ¬ ((263 ≤ a ∧ a ≤ 265) ∧ k = 6 + nl) → hr'.1 a k = hr.1 a k) (hs : hc'.1 p 5 = nI (nl + 1) ∧ hr'.1 257 9 = nI (nl + 1)) (hd : ∃ i j u : Nat, (i ≤ nf ∧ j ≤ nf ∧ u ≤ 99) ∧ (hc'.1 (p + 4) nl = nI i ∧ hr'.1 263 (6 + nl) = nI i) ∧ (hc'.1 (p + 5) nl = nI j ∧ hr'.1 264 (6 + nl) = nI j) ∧ hc'.1 (p + 6) nl = nI u ∧ hr'.1 265 (6 + nl) = nI u) : PRL p nf np (nl + 1) ng hc' hr' := by
  obtain ⟨⟨⟨a1, a2, a3⟩, ⟨a4, a5, a6⟩, ⟨a7, a8, a9⟩, a10, a11, a12⟩, ⟨⟨sl, b1, b2, b3⟩, b4, b5⟩, c, d, ⟨f1, f2⟩, ⟨g1, g2⟩, l, m⟩ := h
  have y1 : ∀ a k, p ≤ a → a < p + 22 → ¬ (a = p ∧ k = 5) → ¬ ((p + 4 ≤ a ∧ a ≤ p + 6) ∧ k = nl) → ∀ v, hc.1 a k = v → hc'.1 a k = v := fun a k h1 h2 h3 h4 v e => (e1 a k h1 h2 h3 h4).trans e
  have y2 : ∀ a k, 257 ≤ a → a ≤ 269 → ¬ (a = 257 ∧ k = 9) → ¬ ((263 ≤ a ∧ a ≤ 265) ∧ k = 6 + nl) → ∀ v, hr.1 a k = v → hr'.1 a k = v := fun a k h1 h2 h3 h4 v e => (e2 a k h1 h2 h3 h4).trans e
  refine ⟨⟨⟨y1 _ _ (by omega) (by omega) (by omega) (by omega) _ a1, y2 _ _ (by omega) (by omega) (by omega) (by omega) _ a2, a3⟩, ⟨y1 _ _ (by omega) (by omega) (by omega) (by omega) _ a4, y2 _ _ (by omega) (by omega) (by omega) (by omega) _ a5, a6⟩, ⟨hs.1, hs.2, by omega⟩, y1 _ _ (by omega) (by omega) (by omega) (by omega) _ a10, y2 _ _ (by omega) (by omega) (by omega) (by omega) _ a11, a12⟩, ⟨⟨sl, b1, y1 _ _ (by omega) (by omega) (by omega) (by omega) _ b2, y2 _ _ (by omega) (by omega) (by omega) (by omega) _ b3⟩, by rw [e1 _ _ (by omega) (by omega) (by omega) (by omega), e2 _ _ (by omega) (by omega) (by omega) (by omega)]; exact b4, y1 _ _ (by omega) (by omega) (by omega) (by omega) _ b5⟩, fun f hf => ?_, fun a ha => ?_, ⟨fun a ha => ?_, fun a h1 h2 => y1 _ _ (by omega) (by omega) (by omega) (by omega) _ (f2 a h1 h2)⟩, ⟨fun k hk => ?_, fun k h1 h2 => y1 _ _ (by omega) (by omega) (by omega) (by omega) _ (g2 k h1 h2)⟩, fun x hx => ?_, fun g hg => ?_⟩
  · obtain ⟨u, u1, u2, u3⟩ := c f hf
    exact ⟨u, u1, y1 _ _ (by omega) (by omega) (by omega) (by omega) _ u2, y2 _ _ (by omega) (by omega) (by omega) (by omega) _ u3⟩
  · obtain ⟨d1, ⟨u, u1, u2, u3⟩, v, v1, v2, v3⟩ := d a ha
    exact ⟨by rw [e1 _ _ (by omega) (by omega) (by omega) (by omega), e2 _ _ (by omega) (by omega) (by omega) (by omega)]; exact d1, ⟨u, u1, y1 _ _ (by omega) (by omega) (by omega) (by omega) _ u2, y2 _ _ (by omega) (by omega) (by omega) (by omega) _ u3⟩, v, v1, y1 _ _ (by omega) (by omega) (by omega) (by omega) _ v2, y2 _ _ (by omega) (by omega) (by omega) (by omega) _ v3⟩
  · rw [e1 (p + 18) _ (by omega) (by omega) (by omega) (by omega), e1 (p + 19) _ (by omega) (by omega) (by omega) (by omega), e1 (p + 20) _ (by omega) (by omega) (by omega) (by omega)]; exact f1 a ha
  · rw [e1 _ _ (by omega) (by omega) (by omega) (by omega), e2 _ _ (by omega) (by omega) (by omega) (by omega)]; exact g1 k hk
  · by_cases z : x = nl
    · rw [z]; exact hd
    · obtain ⟨i, j, u, l1, ⟨l2, l3⟩, ⟨l4, l5⟩, l6, l7⟩ := l x (by omega)
      exact ⟨i, j, u, l1, ⟨y1 _ _ (by omega) (by omega) (by omega) (by omega) _ l2, y2 _ _ (by omega) (by omega) (by omega) (by omega) _ l3⟩, ⟨y1 _ _ (by omega) (by omega) (by omega) (by omega) _ l4, y2 _ _ (by omega) (by omega) (by omega) (by omega) _ l5⟩, y1 _ _ (by omega) (by omega) (by omega) (by omega) _ l6, y2 _ _ (by omega) (by omega) (by omega) (by omega) _ l7⟩
  · obtain ⟨how, a, u, x, ⟨w1, w2, w3, w4, w5, w6⟩, ⟨m2, m3⟩, ⟨m4, m5⟩, ⟨m6, m7⟩, m8, m9⟩ := m g hg
    exact ⟨how, a, u, x, ⟨w1, w2, w3, w4, w5, fun z => by have := w6 z; omega⟩, ⟨y1 _ _ (by omega) (by omega) (by omega) (by omega) _ m2, y2 _ _ (by omega) (by omega) (by omega) (by omega) _ m3⟩, ⟨y1 _ _ (by omega) (by omega) (by omega) (by omega) _ m4, y2 _ _ (by omega) (by omega) (by omega) (by omega) _ m5⟩, ⟨y1 _ _ (by omega) (by omega) (by omega) (by omega) _ m6, y2 _ _ (by omega) (by omega) (by omega) (by omega) _ m7⟩, y1 _ _ (by omega) (by omega) (by omega) (by omega) _ m8, y2 _ _ (by omega) (by omega) (by omega) (by omega) _ m9⟩
/-- a fault stays a fault when rows behind it are written -/
theorem rF.w {f : Int32} {q : Nat} {h : HH} (c : rF f q h) (a k : Nat) (v : Int32) (ha : a ≠ 255) : rF f q (wrI h a k v) := ⟨c.1, by rw [wrI_1, if_neg (fun z => ha z.1.symm)]; exact c.2.1, by rw [wrI_1, if_neg (fun z => ha z.1.symm)]; exact c.2.2⟩
def laS (r8 r12 r20 : Int32) (h19 : HH) : Option (Unit × HH) :=
    gfI h19 24 4 fun v21 =>
    if v21 = 0 then
      (gfR h19 1 fun p22 => ckH p22 (.inl 5) (
      gfR h19 1 fun p23 => ckH p23 (.inl 5) (
      gfI h19 p23 5 fun v24 =>
      stI h19 (p22 + 4) 6 v24 r8 fun h25 =>
      gfR h25 1 fun p26 => ckH p26 (.inl 5) (
      gfR h25 1 fun p27 => ckH p27 (.inl 5) (
      gfI h25 p27 5 fun v28 =>
      stI h25 (p26 + 5) 6 v28 r12 fun h29 =>
      gfR h29 1 fun p30 => ckH p30 (.inl 5) (
      gfR h29 1 fun p31 => ckH p31 (.inl 5) (
      gfI h29 p31 5 fun v32 =>
      stI h29 (p30 + 6) 6 v32 r20 fun h33 =>
      gfR h33 1 fun p34 => ckH p34 (.inl 5) (
      gfI h33 p34 5 fun v35 =>
      pfI h33 p34 5 (v35 + (1 : Int32)) fun h36 =>
      some ((), h36)))))))))
    else
      (some ((), h19))
def laB2 (r8 r12 : Int32) (h16 : HH) : Option (Unit × HH) :=
    bnd (g_X6_advance h16) fun _ h17 => 
    bnd (g_X6_number (0 : Int32) (99 : Int32) h17) fun r20 h19 => laS r8 r12 r20 h19
def laB1 (h3 : HH) : Option (Unit × HH) :=
  gfR h3 1 fun p5 => ckH p5 (.inl 5) (
  gfI h3 p5 0 fun v6 =>
  bnd (g_X6_number (0 : Int32) v6 h3) fun r8 h7 => 
  gfR h7 1 fun p9 => ckH p9 (.inl 5) (
  gfI h7 p9 0 fun v10 =>
  bnd (g_X6_look (0 : Int32) v10 h7) fun r12 h11 => 
  gfI h11 24 4 fun v13 =>
  if v13 = 0 then
    (if r8 = r12 then
      (bnd (g_X6_fail (5 : Int32) h11) fun _ h37 => 
      laB2 r8 r12 h37)
    else
      (laB2 r8 r12 h11))
  else
    (laB2 r8 r12 h11)))
theorem ladder_eq (h : HH) : g_X6_readLadder h = gfR h 1 fun p1 => ckH p1 (.inl 5) (gfI h p1 5 fun v2 => bnd (g_X6_takeWord v2 (6 : Int32) h) fun _ h3 => laB1 h3) := rfl
theorem laB2_F {T : TKD} (w : TKok T) (p : Nat) (r8 r12 : Int32) {h : HH} {f : Int32} {q : Nat} (c : cF T f q h) : ∃ h', laB2 r8 r12 h = some ((), h') ∧ cF T f q h' ∧ sK p h h' := by
  obtain ⟨h1, f1, f2, f3⟩ := x6_advF w c p
  obtain ⟨h2, g1, g2, g3⟩ := x6_number_F w f2 p 0 99
  refine ⟨h2, ?_, g2, f3.tr g3⟩
  unfold laB2 laS
  simp only [gfI]
  rw [f1, bnd_some, g1, bnd_some, if_neg g2.n]
theorem laB1_F {T : TKD} (w : TKok T) {p : Nat} (hp : pOk p) {h : HH} {f : Int32} {q : Nat} (c : cF T f q h) (e1 : h.2.2 1 = p) : ∃ h', laB1 h = some ((), h') ∧ cF T f q h' ∧ sK p h h' := by
  obtain ⟨h1, f1, f2, f3⟩ := x6_number_F w c p 0 (h.1 p 0)
  obtain ⟨h2, g1, g2, g3⟩ := laB2_F w p 0 0 f2
  refine ⟨h2, ?_, g2, f3.tr g3⟩
  unfold laB1
  simp only [gfI, gfR]
  rw [e1, ckH_of (pOk.s0 p hp), f1, bnd_some, show h1.2.2 1 = p by rw [f3.2]; exact e1, ckH_of (pOk.s0 p hp), x6_look_F f2, bnd_some, if_neg f2.n]
  exact g1
/-- the reference's ladder from its second floor on -/
def rlB (v3 : Int32) (h12 : HH) : Option (Unit × HH) :=
    bnd (g_X11_fresher (0 : Int32) h12) fun r14 h13 => 
    bnd (g_X11_numeral (0 : Int32) r14 h13) fun r16 h15 => 
    stI h15 264 12 v3 r16 fun h17 =>
    bnd (g_X11_numeral (0 : Int32) (99 : Int32) h17) fun r19 h18 => 
    stI h18 265 12 v3 r19 fun h20 =>
    bnd (g_X11_fresher (2 : Int32) h20) fun r22 h21 => 
    bnd (g_X11_reads (2 : Int32) (r22 + (1 : Int32)) h21) fun _ h23 => 
    some ((), h23)
theorem rladder_eq (h : HH) : g_X11_ladderLine h = bnd (g_X11_fresher (2 : Int32) h) fun r2 h1 => 
  vl (((6 : Int32) + r2)) fun v3 =>
  bnd (g_X11_fresher (0 : Int32) h1) fun r5 h4 => 
  bnd (g_X11_numeral (0 : Int32) r5 h4) fun r7 h6 => 
  stI h6 263 12 v3 r7 fun h8 =>
  gfI h8 255 27 fun v9 =>
  if v9 = 0 then
    (gfI h8 255 25 fun v25 =>
    if v25 = (2 : Int32) then
      (gfI h8 255 26 fun v26 =>
      ldI h8 263 12 v3 fun v27 =>
      if v26 = v27 then
        (bnd (g_X11_wrong (5 : Int32) h8) fun _ h28 => 
        rlB v3 h28)
      else
        (rlB v3 h8))
    else
      (rlB v3 h8))
  else
    (rlB v3 h8) := rfl
theorem sR_w (h : HH) (a k : Nat) (v : Int32) (q : (a = 257 ∧ 7 ≤ k) ∨ ((258 ≤ a ∧ a ≤ 261) ∧ 6 ≤ k) ∨ (a = 262 ∧ 36 ≤ k) ∨ ((263 ≤ a ∧ a ≤ 265) ∧ 6 ≤ k) ∨ ((266 ≤ a ∧ a ≤ 269) ∧ 20 ≤ k) ∨ ((a = 270 ∨ a = 271) ∧ 3 ≤ k)) : sR h (wrI h a k v) := ⟨fun x i q1 q2 q3 q4 q5 q6 q7 q8 => by rw [wrI_1, if_neg (by omega)], rfl⟩
theorem rlB_F {f : Int32} {q nl : Nat} (hn : nl < 6) {h : HH} (c : rF f q h) (e : h.1 257 9 = nI nl) : ∃ h', rlB (nI (6 + nl)) h = some ((), h') ∧ rF f q h' ∧ sR h h' := by
  have c1 := c.w 264 (6 + nl) (nI 0) (by omega)
  have c2 := c1.w 265 (6 + nl) (nI 0) (by omega)
  have c3 := c2.w 257 9 (nI (nl + 1)) (by omega)
  refine ⟨_, ?_, c3, ((sR_w h _ _ _ (by omega)).tr (sR_w _ _ _ _ (by omega))).tr (sR_w _ _ _ _ (by omega))⟩
  unfold rlB
  rw [show (0 : Int32) = nI 0 from rfl, fr_of (by decide), bnd_some, r_numeral_F c, bnd_some, stI_of (by omega) (by decide), r_numeral_F c1, bnd_some, stI_of (by omega) (by decide), show (2 : Int32) = nI 2 from rfl, fr_of (by decide), bnd_some, rd_of (by decide), bnd_some, wrI_1 _ 265, if_neg (by omega), wrI_1 _ 264, if_neg (by omega), e, nI_1]
theorem laB2_ok {T : TKD} {p nl : Nat} (hp : pOk p) (hn : nl < 6) (r8 r12 r20 : Int32) {h : HH} (e1 : h.2.2 1 = p) (e0 : h.1 24 4 = 0) (e5 : h.1 p 5 = nI nl) : laS r8 r12 r20 h = some ((), wrI (wrI (wrI (wrI h (p + 4) nl r8) (p + 5) nl r12) (p + 6) nl r20) p 5 (nI (nl + 1))) := by
  have hp' : p + 22 ≤ 60 ∧ (p + 22 ≤ 24 ∨ 30 ≤ p) ∧ 2 ≤ p := by rcases hp with rfl | rfl <;> omega
  have st := pOk.s0 p hp
  unfold laS
  simp only [gfI, gfR, pfI]
  rw [e0, if_pos rfl, e1, ckH_of st, ckH_of st, e5, stI_of hn (by decide)]
  rw [show (wrI h (p + 4) nl r8).2.2 1 = p from e1, ckH_of st, ckH_of st, wrI_1 h (p + 4) nl r8 p 5, if_neg (by omega), e5, stI_of hn (by decide)]
  rw [show (wrI (wrI h (p + 4) nl r8) (p + 5) nl r12).2.2 1 = p from e1, ckH_of st, ckH_of st, wrI_1 _ (p + 5) nl r12 p 5, if_neg (by omega), wrI_1 h (p + 4) nl r8 p 5, if_neg (by omega), e5, stI_of hn (by decide)]
  rw [show (wrI (wrI (wrI h (p + 4) nl r8) (p + 5) nl r12) (p + 6) nl r20).2.2 1 = p from e1, ckH_of st, wrI_1 _ (p + 6) nl r20 p 5, if_neg (by omega), wrI_1 _ (p + 5) nl r12 p 5, if_neg (by omega), wrI_1 h (p + 4) nl r8 p 5, if_neg (by omega), e5, nI_1]
theorem la_2 {T : TKD} (w : TKok T) {p nf nl i v : Nat} (hp : pOk p) {C R : HH} (at2 : At T i C R) (e1 : C.2.2 1 = p) (a7 : C.1 p 5 = nI nl) (f7 : R.1 257 7 = nI nf) (f9 : R.1 257 9 = nI nl) (hn : nl < 6) (hnf : nf ≤ 6) (hv : v ≤ nf) (e263 : R.1 263 (6 + nl) = nI v) :
    ∃ c' r', (bnd (g_X6_look (0 : Int32) (nI nf) C) fun r12 h11 => if h11.1 24 4 = 0 then (if nI v = r12 then (bnd (g_X6_fail (5 : Int32) h11) fun _ h37 => laB2 (nI v) r12 h37) else (laB2 (nI v) r12 h11)) else (laB2 (nI v) r12 h11)) = some ((), c') ∧
      (if R.1 255 25 = 2 then ldI R 263 12 (nI (6 + nl)) fun v27 => if R.1 255 26 = v27 then (bnd (g_X11_wrong (5 : Int32) R) fun _ h28 => rlB (nI (6 + nl)) h28) else rlB (nI (6 + nl)) R else rlB (nI (6 + nl)) R) = some ((), r') ∧ sK p C c' ∧ sR R r' ∧
      ((∃ f q, cF T f q c' ∧ rF f q r') ∨ ∃ v' u, v' ≤ nf ∧ u ≤ 99 ∧ At T (i + 1 + 1) c' r' ∧ (c'.1 (p + 4) nl = nI v ∧ c'.1 (p + 5) nl = nI v' ∧ c'.1 (p + 6) nl = nI u ∧ c'.1 p 5 = nI (nl + 1)) ∧ (r'.1 264 (6 + nl) = nI v' ∧ r'.1 265 (6 + nl) = nI u ∧ r'.1 257 9 = nI (nl + 1)) ∧ (∀ a k, ¬ (a = 24 ∧ k = 3) → ¬ (a = p ∧ k = 5) → ¬ ((p + 4 ≤ a ∧ a ≤ p + 6) ∧ k = nl) → c'.1 a k = C.1 a k) ∧ ∀ a k, ¬ (a = 255 ∧ 23 ≤ k ∧ k ≤ 26) → ¬ (a = 257 ∧ k = 9) → ¬ ((264 ≤ a ∧ a ≤ 265) ∧ k = 6 + nl) → r'.1 a k = R.1 a k) := by
  have hp' : p + 22 ≤ 60 ∧ (p + 22 ≤ 24 ∨ 30 ≤ p) ∧ 2 ≤ p := by rcases hp with rfl | rfl <;> omega
  have at2' := at2
  obtain ⟨⟨c1, c2, c3⟩, r, hi⟩ := at2
  rcases P_look w at2' (lo := 0) (hi := nI nf) (by decide) (nI_le (b := 99999) (by omega) (by decide)) p with ⟨v', v1, v2, v3, v4, v5, v6, v7, r2, v8, v9, v10, v11⟩ | ⟨f, c', r2, f0, f1, f2, f3, f4, f5, f6, f7', f8, f9'⟩
  · have hv' : v' ≤ nf := nI_nl (by omega) (by omega) v3
    by_cases eq : v = v'
    · obtain ⟨h1, g1, g2, g3⟩ := x6_failT w c1 hi c2 5 c3 (by decide) p
      obtain ⟨h2, k1, k2, k3⟩ := laB2_F w p (nI v) (nI v') g2
      obtain ⟨r1, u1, u2, u3⟩ := rF.e r 5 (by decide)
      obtain ⟨r3, z1, z2, z3⟩ := rlB_F hn u2 (by rw [u3.1 _ _ (by omega) (by omega) (by omega)]; exact f9)
      refine ⟨h2, r3, ?_, ?_, g3.tr k3, u3.R.tr z3, Or.inl ⟨_, _, k2, z2⟩⟩
      · rw [v4, bnd_some, if_pos c3, if_pos (by rw [eq]), g1, bnd_some, k1]
      · rw [if_pos v5, ldI_of (by omega) (by decide), v6, e263, if_pos (by rw [eq]), u1, bnd_some, z1]
    · have nq : ¬ nI v = nI v' := fun z => eq ((nI_eq (by omega) (by omega)).mp z)
      have at3 : At T (i + 1) (wrI C 24 3 (nI (i + 1))) (wrI r2 264 (6 + nl) (nI v')) := ⟨⟨c1.k fun a k h1 h2 => by rw [wrI_1, if_neg (by omega)], wrI_at _ _ _ _, by rw [wrI_1, if_neg (by omega)]; exact c3⟩, v10.k (fun k _ _ => by rw [wrI_1, if_neg (by omega)]) (fun k => by rw [wrI_1, if_neg (by omega)]), v11⟩
      have eC : ∀ X, laB2 (nI v) (nI v') C = X ↔ (bnd (g_X6_number 0 99 (wrI C 24 3 (nI (i + 1)))) fun r20 h19 => laS (nI v) (nI v') r20 h19) = X := fun X => by
        unfold laB2
        rw [x6_adv w c1 hi c2, bnd_some]
      have eR : ∀ X, rlB (nI (6 + nl)) R = X ↔ (bnd (g_X11_numeral 0 99 (wrI r2 264 (6 + nl) (nI v'))) fun r19 h18 => stI h18 265 12 (nI (6 + nl)) r19 fun h20 => bnd (g_X11_fresher (2 : Int32) h20) fun r22 h21 => bnd (g_X11_reads (2 : Int32) (r22 + (1 : Int32)) h21) fun _ h23 => some ((), h23)) = X := fun X => by
        unfold rlB
        rw [frl0, bnd_some, f7, v8, bnd_some, stI_of (by omega) (by decide)]
      have sel : ∀ X, rlB (nI (6 + nl)) R = some ((), X) → (if R.1 255 25 = 2 then ldI R 263 12 (nI (6 + nl)) fun v27 => if R.1 255 26 = v27 then (bnd (g_X11_wrong (5 : Int32) R) fun _ h28 => rlB (nI (6 + nl)) h28) else rlB (nI (6 + nl)) R else rlB (nI (6 + nl)) R) = some ((), X) := fun X hX => by
        rw [if_pos v5, ldI_of (by omega) (by decide), v6, e263, if_neg (fun z => nq z.symm), hX]
      have q9 : ∀ x, (wrI r2 264 (6 + nl) x).1 257 9 = nI nl := fun x => by rw [wrI_1, if_neg (by omega), v9.1 _ _ (by omega)]; exact f9
      rcases P_num w at3 (lo := 0) (hi := 99) (by decide) (by decide) p with ⟨u, r3, u1, u2, u3, u4, u5, u6, u7⟩ | ⟨f, c', r3, g1, g2, g3, g4, g5, g6⟩
      · have hu : u ≤ 99 := nI_nl (a := 99) (by decide) (by omega) u3
        obtain ⟨⟨d1, d2, d3⟩, d4, d5⟩ := u7
        refine ⟨wrI (wrI (wrI (wrI (wrI (wrI C 24 3 (nI (i + 1))) 24 3 (nI (i + 1 + 1))) (p + 4) nl (nI v)) (p + 5) nl (nI v')) (p + 6) nl (nI u)) p 5 (nI (nl + 1)), wrI (wrI r3 265 (6 + nl) (nI u)) 257 9 (nI (nl + 1)), ?_, sel _ ((eR _).mpr ?_), (((((sK_24 p C _ (by omega) (by omega)).tr (sK_24 p _ _ (by omega) (by omega))).tr (sK_p p _ _ _ (by omega) (by omega))).tr (sK_p p _ _ _ (by omega) (by omega))).tr (sK_p p _ _ _ (by omega) (by omega))).tr (sK_p p _ _ _ (by omega) (by omega)), (((v9.R.tr (sR_w _ _ _ _ (by omega))).tr u6.R).tr (sR_w _ _ _ _ (by omega))).tr (sR_w _ _ _ _ (by omega)), Or.inr ⟨v', u, hv', hu, ⟨⟨d1.k fun a k h1 h2 => by rw [wrI_1, if_neg (by omega), wrI_1, if_neg (by omega), wrI_1, if_neg (by omega), wrI_1, if_neg (by omega)], by rw [wrI_1, if_neg (by omega), wrI_1, if_neg (by omega), wrI_1, if_neg (by omega), wrI_1, if_neg (by omega)]; exact d2, by rw [wrI_1, if_neg (by omega), wrI_1, if_neg (by omega), wrI_1, if_neg (by omega), wrI_1, if_neg (by omega)]; exact d3⟩, d4.k (fun k _ _ => by rw [wrI_1, if_neg (by omega), wrI_1, if_neg (by omega)]) (fun k => by rw [wrI_1, if_neg (by omega), wrI_1, if_neg (by omega)]), d5⟩, ⟨by rw [wrI_1, if_neg (by omega), wrI_1, if_neg (by omega), wrI_1, if_neg (by omega), wrI_at], by rw [wrI_1, if_neg (by omega), wrI_1, if_neg (by omega), wrI_at], by rw [wrI_1, if_neg (by omega), wrI_at], wrI_at _ _ _ _⟩, ⟨by rw [wrI_1, if_neg (by omega), wrI_1, if_neg (by omega), u6.1 _ _ (by omega), wrI_at], by rw [wrI_1, if_neg (by omega), wrI_at], wrI_at _ _ _ _⟩, fun a k h1 h2 h3 => by rw [wrI_1, if_neg (by omega), wrI_1, if_neg (by omega), wrI_1, if_neg (by omega), wrI_1, if_neg (by omega), wrI_1, if_neg (by omega), wrI_1, if_neg (by omega)], fun a k h1 h2 h3 => by rw [wrI_1, if_neg (by omega), wrI_1, if_neg (by omega), u6.1 _ _ (by omega), wrI_1, if_neg (by omega), v9.1 _ _ (by omega)]⟩⟩
        · rw [v4, bnd_some, if_pos c3, if_neg nq]
          refine (eC _).mpr ?_
          rw [u4, bnd_some]
          exact laB2_ok (T := T) hp hn _ _ _ e1 d3 (by rw [wrI_1, if_neg (by omega), wrI_1, if_neg (by omega)]; exact a7)
        · rw [u5, bnd_some, stI_of (by omega) (by decide), frl2, bnd_some, wrI_1 _ 265, if_neg (by omega), u6.1 _ _ (by omega), q9, nI_1, show g_X11_reads 2 (nI (nl + 1)) (wrI r3 265 (6 + nl) (nI u)) = _ from rd_of (w := 2) (by decide) _, bnd_some]
      · refine ⟨c', wrI (wrI r3 265 (6 + nl) 0) 257 9 (nI (nl + 1)), ?_, sel _ ((eR _).mpr ?_), (sK_24 p C _ (by omega) (by omega)).tr g3, (((v9.R.tr (sR_w _ _ _ _ (by omega))).tr g6.R).tr (sR_w _ _ _ _ (by omega))).tr (sR_w _ _ _ _ (by omega)), Or.inl ⟨_, _, g2, (g5.w _ _ _ (by omega)).w _ _ _ (by omega)⟩⟩
        · rw [v4, bnd_some, if_pos c3, if_neg nq]
          refine (eC _).mpr ?_
          rw [g1, bnd_some]
          unfold laS
          simp only [gfI]
          rw [if_neg g2.n]
        · rw [g4, bnd_some, stI_of (by omega) (by decide), frl2, bnd_some, wrI_1 _ 265, if_neg (by omega), g6.1 _ _ (by omega) (by omega) (by omega), q9, nI_1, show g_X11_reads 2 (nI (nl + 1)) (wrI r3 265 (6 + nl) 0) = _ from rd_of (w := 2) (by decide) _, bnd_some]
  · obtain ⟨h2, k1, k2, k3⟩ := laB2_F w p (nI v) 0 f2
    have q9 : ∀ x, (wrI r2 264 (6 + nl) x).1 257 9 = nI nl := fun x => by rw [wrI_1, if_neg (by omega), f7'.1 _ _ (by omega) (by omega) (by omega)]; exact f9
    have cw := f6.w 264 (6 + nl) 0 (by omega)
    have eR : rlB (nI (6 + nl)) R = some ((), wrI (wrI (wrI r2 264 (6 + nl) 0) 265 (6 + nl) 0) 257 9 (nI (nl + 1))) := by
      unfold rlB
      rw [frl0, bnd_some, f7, f5, bnd_some, stI_of (by omega) (by decide), r_numeral_F cw, bnd_some, stI_of (by omega) (by decide), frl2, bnd_some, wrI_1 _ 265, if_neg (by omega), q9, nI_1, show g_X11_reads 2 (nI (nl + 1)) (wrI (wrI r2 264 (6 + nl) 0) 265 (6 + nl) 0) = _ from rd_of (w := 2) (by decide) _, bnd_some]
    refine ⟨h2, wrI (wrI (wrI r2 264 (6 + nl) 0) 265 (6 + nl) 0) 257 9 (nI (nl + 1)), ?_, ?_, f3.tr k3, ((f7'.R.tr (sR_w _ _ _ _ (by omega))).tr (sR_w _ _ _ _ (by omega))).tr (sR_w _ _ _ _ (by omega)), Or.inl ⟨_, _, k2, (cw.w _ _ _ (by omega)).w _ _ _ (by omega)⟩⟩
    · rw [f1, bnd_some, if_neg f2.n, k1]
    · by_cases s2 : R.1 255 25 = 2
      · have := f8 s2
        rw [if_pos s2, ldI_of (by omega) (by decide), e263, if_neg (fun z => by
          rw [z] at this
          exact this.elim (nI_pos (by omega)) (nI_nlt hv (by omega))), eR]
      · rw [if_neg s2, eR]
theorem FLG.w {b j : Nat} {hc hr hc' hr' : HH} (h : FLG b hc hr) (h1 : 1 ≤ j) (h7 : j ≤ 7) (c6 : hc'.1 24 6 = 1) (c7 : hc'.1 24 7 = hc.1 24 7) (c8 : hc'.1 24 8 = hc.1 24 8) (e2 : hr'.1 255 20 = nI (b ||| 2 ^ j)) : FLG (b ||| 2 ^ j) hc' hr' := by
  obtain ⟨f1, f2, f3, f4, f5⟩ := h
  have tb : ∀ u, u ≠ j → (b ||| 2 ^ j).testBit u = b.testBit u := fun u hu => by rw [td_or, decide_eq_false (by omega : ¬ j = u), Bool.or_false]
  have tj : (b ||| 2 ^ j).testBit j = true := by rw [td_or]; simp
  refine ⟨td_lt f1 (by omega), e2, ?_, ?_, ?_⟩
  · rw [c6]
    exact ⟨fun z => absurd z (by decide), fun z => by rw [z j h1 h7] at tj; cases tj⟩
  · rw [c7, tb 8 (by omega)]; exact f4
  · rw [c8, tb 9 (by omega)]; exact f5
theorem ln_ladder {T : TKD} (w : TKok T) {p i nf np nl ng t b : Nat} (hp : pOk p) {O : List (Int32 × Int32)} {hc hr : HH} (h : LnS T p i nf np nl ng t b O hc hr) (hk : tK T i = 21) : ∃ hc' hr', g_X6_readLine hc = some ((), hc') ∧ g_X11_line hr = some ((), hr') ∧ LnD T p i hc hr hc' hr' := by
  have hp' : p + 22 ≤ 60 ∧ (p + 22 ≤ 24 ∨ 30 ≤ p) ∧ 2 ≤ p := by rcases hp with rfl | rfl <;> omega
  obtain ⟨⟨⟨c1, c2, c3⟩, r, hi⟩, e1, hP, hL, hF⟩ := h
  have hk0 : ¬ tK T i = 0 := by rw [hk]; decide
  have hkj : tK T i = nI (17 + 4) := hk
  have hF0 := hF
  obtain ⟨hb1, hb2, hb3, hb4, hb5⟩ := hF
  have hP0 := hP
  obtain ⟨⟨⟨a1, a2, a3⟩, _, ⟨a7, a8, a9⟩, _⟩, _⟩ := hP
  -- the class has seen a word behind the flights
  have cC : cT T (wrI hc 24 6 1) := c1.k fun a k h1 h2 => by rw [wrI_1, if_neg (by omega)]
  have s0 : sK p hc (wrI hc 24 6 1) := sK_24 p hc _ (by omega) (by omega)
  have e26 := rA_word r (j := 4) (by decide) hkj
  have isF : g_X11_isFull (nI 4) hr = some (if nl = 6 then 1 else 0, hr) := by
    unfold g_X11_isFull
    rw [if_neg (show ¬ nI 4 = (0 : Int32) by decide), if_neg (show ¬ nI 4 = (1 : Int32) by decide), if_pos (show nI 4 = (4 : Int32) from rfl), frl2, bnd_some, a8]
    by_cases z : nl = 6
    · rw [if_pos (show nI nl = 6 by rw [z]; rfl), if_pos z]
    · rw [if_neg (show ¬ nI nl = 6 from fun y => z ((nI_eq (b := 6) (by omega) (by decide)).mp y)), if_neg z]
  rw [readLine_eq w c1 hi c2, if_neg (by rw [hk]; decide), if_neg (by rw [hk]; decide), hk, line_w r (j := 4) (by decide) hkj (fun z => by omega)]
  have cB : cBd 21 (wrI hc 24 6 1) = bnd (g_X6_readLadder (wrI hc 24 6 1)) fun _ h33 => tlC h33 := rfl
  have tkw : g_X6_readLadder (wrI hc 24 6 1) = bnd (g_X6_takeWord (nI nl) 6 (wrI hc 24 6 1)) fun _ h3 => laB1 h3 := by
    rw [ladder_eq]
    simp only [gfI, gfR]
    rw [show (wrI hc 24 6 1).2.2 1 = p from e1, ckH_of (pOk.s0 p hp), wrI_1, if_neg (by omega), a7]
  rw [cB, tkw]
  have mdR : rMd hr = if nl = 6 then bnd (g_X11_wrong 2 hr) fun _ h81 => rMn (nI 4) h81 else rMn (nI 4) hr := by
    unfold rMd
    simp only [gfI]
    rw [e26, isF, bnd_some]
    by_cases z : nl = 6
    · rw [if_pos z, if_pos z, if_neg (by decide)]
    · rw [if_neg z, if_neg z, if_pos rfl, if_neg (show ¬ nI 4 = (8 : Int32) by decide), if_neg (show ¬ nI 4 = (9 : Int32) by decide)]
  rw [mdR]
  by_cases n6 : nl = 6
  · rw [if_pos n6]
    obtain ⟨h1, f1, f2, f3⟩ := x6_takeWord_N w cC hi (by rw [wrI_1, if_neg (by omega)]; exact c2) (by rw [wrI_1, if_neg (by omega)]; exact c3) p (a := nI nl) (m := 6) (by rw [n6]; decide)
    obtain ⟨h2, g1, g2, g3⟩ := laB1_F w hp f2 (by rw [f3.2]; exact e1)
    obtain ⟨r1, v1, v2, v3⟩ := rF.e r 2 (by decide)
    obtain ⟨h3, t1, t2, t3⟩ := ln_F w (p := p) (i := i) (hc := hc) (hr := hr) g2 v2 ((s0.tr f3).tr g3) v3.R
    exact ⟨h3, r1, by rw [f1, bnd_some, g1, bnd_some, t1], by rw [v1, bnd_some, rMn_F v2], t3⟩
  · rw [if_neg n6]
    have n6' : nl < 6 := by omega
    obtain ⟨r1, m1, m2, m3, m4, m5⟩ := rMn_go w r hi hk0 (j := 4) (by decide) hb2
    have f7 : r1.1 257 7 = nI nf := (m5 _ _ (by omega)).trans a2
    have f9 : r1.1 257 9 = nI nl := (m5 _ _ (by omega)).trans a8
    rw [x6_takeWord w cC hi (by rw [wrI_1, if_neg (by omega)]; exact c2) (show nI nl < 6 from nI_lt (b := 6) n6' (by decide)), bnd_some, m1]
    have rB : rBd (nI 4) r1 = bnd (g_X11_ladderLine r1) fun _ h58 => tlR h58 := rfl
    rw [rB, rladder_eq]
    simp only [vl, gfI]
    rw [frl2, bnd_some, f9, show (6 : Int32) = nI 6 from rfl, nI_add, frl0, bnd_some, f7]
    have at1 : At T (i + 1) (wrI (wrI hc 24 6 1) 24 3 (nI (i + 1))) r1 := ⟨⟨cC.k fun a k h1 h2 => by rw [wrI_1, if_neg (by omega)], wrI_at _ _ _ _, by rw [wrI_1, if_neg (by omega), wrI_1, if_neg (by omega)]; exact c3⟩, m2, tK_e w hi hk0⟩
    have s1 : sK p hc (wrI (wrI hc 24 6 1) 24 3 (nI (i + 1))) := s0.tr (sK_24 p _ _ (by omega) (by omega))
    have laE : laB1 (wrI (wrI hc 24 6 1) 24 3 (nI (i + 1))) = bnd (g_X6_number 0 (nI nf) (wrI (wrI hc 24 6 1) 24 3 (nI (i + 1)))) fun r8 h7 => gfR h7 1 fun p9 => ckH p9 (.inl 5) (
  gfI h7 p9 0 fun v10 =>
  bnd (g_X6_look (0 : Int32) v10 h7) fun r12 h11 => 
  gfI h11 24 4 fun v13 =>
  if v13 = 0 then
    (if r8 = r12 then
      (bnd (g_X6_fail (5 : Int32) h11) fun _ h37 => 
      laB2 r8 r12 h37)
    else
      (laB2 r8 r12 h11))
  else
    (laB2 r8 r12 h11)) := by
      unfold laB1
      simp only [gfR]
      rw [show (wrI (wrI hc 24 6 1) 24 3 (nI (i + 1))).2.2 1 = p from e1, ckH_of (pOk.s0 p hp)]
      simp only [gfI]
      rw [wrI_1 _ 24 3 _ p 0, if_neg (by omega), wrI_1 _ 24 6 _ p 0, if_neg (by omega), a1]
    rw [laE]
    simp only [gfI, gfR]
    rcases P_num w at1 (lo := 0) (hi := nI nf) (by decide) (nI_le (b := 99999) (by omega) (by decide)) p with ⟨v, r2, v1, v2, v3, v4, v5, v6, v7⟩ | ⟨f, c2', r2, f1, f2, f3, f4, f5, f6⟩
    rotate_left
    · -- the first floor is told wrong
      have c5 := f5.w 263 (6 + nl) 0 (by omega)
      have e9 : (wrI r2 263 (6 + nl) 0).1 257 9 = nI nl := by rw [wrI_1, if_neg (by omega), f6.1 _ _ (by omega) (by omega) (by omega)]; exact f9
      obtain ⟨r3, k1, k2, k3⟩ := rlB_F n6' c5 e9
      obtain ⟨h2, g1, g2, g3⟩ := laB2_F w p 0 0 f2
      obtain ⟨h3, t1, t2, t3⟩ := ln_F w (p := p) (i := i) (hc := hc) (hr := hr) g2 k2 ((s1.tr f3).tr g3) (((m4.tr f6.R).tr (sR_w _ _ _ _ (by omega))).tr k3)
      refine ⟨h3, r3, ?_, ?_, t3⟩
      · rw [f1, bnd_some, show c2'.2.2 1 = p by rw [f3.2]; exact e1, ckH_of (pOk.s0 p hp), x6_look_F f2, bnd_some, if_neg f2.n, g1, bnd_some, t1]
      · rw [f4, bnd_some, stI_of (by omega) (by decide), if_neg c5.n, k1, bnd_some, t2]
    · have hv : v ≤ nf := nI_nl (by omega) (by omega) v3
      obtain ⟨⟨d1, d2, d3⟩, d4, d5⟩ := v7
      have f7' : r2.1 257 7 = nI nf := (v6.1 _ _ (by omega)).trans f7
      have f9' : r2.1 257 9 = nI nl := (v6.1 _ _ (by omega)).trans f9
      have s2 : sK p hc (wrI (wrI (wrI hc 24 6 1) 24 3 (nI (i + 1))) 24 3 (nI (i + 1 + 1))) := s1.tr (sK_24 p _ _ (by omega) (by omega))
      have d4' : rA T (i + 1 + 1) (wrI r2 263 (6 + nl) (nI v)) := d4.k (fun k _ _ => by rw [wrI_1, if_neg (by omega)]) fun k => by rw [wrI_1, if_neg (by omega)]
      have q2 : sR hr (wrI r2 263 (6 + nl) (nI v)) := (m4.tr v6.R).tr (sR_w _ _ _ _ (by omega))
      have a1' : (wrI (wrI (wrI hc 24 6 1) 24 3 (nI (i + 1))) 24 3 (nI (i + 1 + 1))).1 p 0 = nI nf := by rw [wrI_1, if_neg (by omega), wrI_1, if_neg (by omega), wrI_1, if_neg (by omega)]; exact a1
      rw [v4, bnd_some, v5, bnd_some, stI_of (by omega) (by decide), show (wrI (wrI (wrI hc 24 6 1) 24 3 (nI (i + 1))) 24 3 (nI (i + 1 + 1))).2.2 1 = p from e1, ckH_of (pOk.s0 p hp), a1', d4'.2.2.2.2, if_pos rfl]
      obtain ⟨c', r', y1, y2, y3, y4, y5⟩ := la_2 w hp (C := wrI (wrI (wrI hc 24 6 1) 24 3 (nI (i + 1))) 24 3 (nI (i + 1 + 1))) (R := wrI r2 263 (6 + nl) (nI v)) (nf := nf) (nl := nl) (v := v) ⟨⟨d1, d2, d3⟩, d4', d5⟩ e1 (by rw [wrI_1, if_neg (by omega), wrI_1, if_neg (by omega), wrI_1, if_neg (by omega)]; exact a7) (by rw [wrI_1, if_neg (by omega)]; exact f7') (by rw [wrI_1, if_neg (by omega)]; exact f9') n6' a3 hv (wrI_at _ _ _ _)
      rcases y5 with ⟨f, q, k1, k2⟩ | ⟨v', u, x1, x2, x3, ⟨x4, x5, x6, x7⟩, ⟨x8, x9, x10⟩, x11, x12⟩
      · obtain ⟨h3, t1, t2, t3⟩ := ln_F w (p := p) (i := i) (hc := hc) (hr := hr) k1 k2 (s2.tr y3) (q2.tr y4)
        exact ⟨h3, r', by rw [y1, bnd_some, t1], by rw [y2, bnd_some, t2], t3⟩
      · have lno : LnO T p i hc hr c' r' := by
          refine ⟨s2.tr y3, q2.tr y4, ?_, Or.inr (Or.inr ⟨i + 1 + 1 + 1 + 1, nf, np, nl + 1, ng, t, b ||| 2 ^ 4, O, by omega, x3, by rw [y3.2]; exact e1, ?_, ?_, ?_⟩)⟩
          · rw [x12 _ _ (by omega) (by omega) (by omega), wrI_1, if_neg (by omega), v6.1 _ _ (by omega), m5 _ _ (by omega)]
          · refine hP0.kl n6' (fun a k h1 h2 h3 h4 => ?_) (fun a k h1 h2 h3 h4 => ?_) ⟨x7, x10⟩ ⟨v, v', u, ⟨hv, x1, x2⟩, ⟨x4, ?_⟩, ⟨x5, x8⟩, x6, x9⟩
            · rw [x11 a k (by omega) h3 h4, wrI_1, if_neg (by omega), wrI_1, if_neg (by omega), wrI_1, if_neg (by omega)]
            · rw [x12 a k (by omega) h3 (by omega), wrI_1, if_neg (by omega), v6.1 _ _ (by omega), m5 _ _ (by omega)]
            · rw [x12 _ _ (by omega) (by omega) (by omega), wrI_at]
          · refine hL.k (fun a k z => ?_) (fun a k z => ?_) fun r hr3 => by rw [td_or, decide_eq_false (by omega : ¬ 4 = 16 + r), Bool.or_false]
            · rw [x11 a k (by omega) (by omega) (by omega), wrI_1, if_neg (by omega), wrI_1, if_neg (by omega), wrI_1, if_neg (by omega)]
            · rw [x12 a k (by omega) (by omega) (by omega), wrI_1, if_neg (by omega), v6.1 _ _ (by omega), m5 _ _ (by omega)]
          · refine hF0.w (by decide) (by decide) ?_ ?_ ?_ ?_
            · rw [x11 _ _ (by omega) (by omega) (by omega), wrI_1, if_neg (by omega), wrI_1, if_neg (by omega), wrI_at]
            · rw [x11 _ _ (by omega) (by omega) (by omega), wrI_1, if_neg (by omega), wrI_1, if_neg (by omega), wrI_1, if_neg (by omega)]
            · rw [x11 _ _ (by omega) (by omega) (by omega), wrI_1, if_neg (by omega), wrI_1, if_neg (by omega), wrI_1, if_neg (by omega)]
            · rw [x12 _ _ (by omega) (by omega) (by omega), wrI_1, if_neg (by omega), v6.1 _ _ (by omega)]; exact m3
        obtain ⟨hc'', hr'', t1, t2, t3⟩ := line_tl w hp lno
        exact ⟨hc'', hr'', by rw [y1, bnd_some, t1], by rw [y2, bnd_some, t2], t3⟩
