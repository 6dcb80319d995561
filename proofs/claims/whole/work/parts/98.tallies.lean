/-! a line that tells a tally -/
def taC (a0 r4 r8 : Int32) (h12 : HH) : Option (Unit × HH) :=
    bnd (g_X6_advance h12) fun _ h13 => 
    bnd (g_X6_number (1 : Int32) (9 : Int32) h13) fun r16 h15 => 
    gfI h15 24 4 fun v17 =>
    if v17 = 0 then
      (gfR h15 1 fun p18 => ckH p18 (.inl 5) (
      bnd (g_X10_cell r4 r8 h15) fun r20 h19 => 
      stI h19 (p18 + 21) 36 r20 (a0 * r16) fun h21 =>
      some ((), h21)))
    else
      (some ((), h15))
def taD (a0 r4 : Int32) (h3 : HH) : Option (Unit × HH) :=
  gfR h3 1 fun p5 => ckH p5 (.inl 5) (
  gfI h3 p5 0 fun v6 =>
  bnd (g_X6_look (0 : Int32) (v6 - (1 : Int32)) h3) fun r8 h7 => 
  gfI h7 24 4 fun v9 =>
  if v9 = 0 then
    (gfR h7 1 fun p22 => ckH p22 (.inl 5) (
    bnd (g_X10_cell r4 r8 h7) fun r24 h23 => 
    ldI h23 (p22 + 21) 36 r24 fun v25 =>
    if v25 = 0 then
      (taC a0 r4 r8 h23)
    else
      (bnd (g_X6_fail (3 : Int32) h23) fun _ h26 => 
      taC a0 r4 r8 h26)))
  else
    (taC a0 r4 r8 h7))
theorem tally_eq (a0 : Int32) (h : HH) : g_X6_readTally a0 h = bnd (g_X6_advance h) fun _ h1 => bnd (g_X6_knownPerson h1) fun r4 h3 => taD a0 r4 h3 := rfl
def taR (a0 v3 : Int32) (h7 : HH) : Option (Unit × HH) :=
    bnd (g_X11_fresher (0 : Int32) h7) fun r9 h8 => 
    bnd (g_X11_numeral (0 : Int32) (r9 - (1 : Int32)) h8) fun r11 h10 => 
    bnd (g_X11_numeral (1 : Int32) (9 : Int32) h10) fun r13 h12 => 
    gfI h12 255 27 fun v14 =>
    if v14 = 0 then
      (stI h12 262 72 (((6 : Int32) * v3) + r11) (a0 * r13) fun h15 =>
      some ((), h15))
    else
      (some ((), h12))
def taS (a0 v3 : Int32) (h1 : HH) : Option (Unit × HH) :=
  gfI h1 255 27 fun v4 =>
  if v4 = 0 then
    (gfI h1 255 25 fun v16 =>
    if v16 = (2 : Int32) then
      (gfI h1 255 26 fun v17 =>
      bnd (g_X11_fresher (0 : Int32) h1) fun r19 h18 => 
      if v17 < r19 then
        (gfI h18 255 26 fun v20 =>
        ldI h18 262 72 (((6 : Int32) * v3) + v20) fun v21 =>
        if v21 = 0 then
          (taR a0 v3 h18)
        else
          (bnd (g_X11_wrong (3 : Int32) h18) fun _ h22 => 
          taR a0 v3 h22))
      else
        (taR a0 v3 h18))
    else
      (taR a0 v3 h1))
  else
    (taR a0 v3 h1)
theorem rtally_eq (a0 : Int32) (h : HH) : g_X11_tallyLine a0 h = bnd (g_X11_personAhead h) fun r2 h1 => vl (((6 : Int32) + r2)) fun v3 => taS a0 v3 h1 := rfl
theorem taC_F {T : TKD} (w : TKok T) (p : Nat) (a0 r4 r8 : Int32) {h : HH} {f : Int32} {q : Nat} (c : cF T f q h) : ∃ h', taC a0 r4 r8 h = some ((), h') ∧ cF T f q h' ∧ sK p h h' := by
  obtain ⟨h1, f1, f2, f3⟩ := x6_advF w c p
  obtain ⟨h2, g1, g2, g3⟩ := x6_number_F w f2 p 1 9
  refine ⟨h2, ?_, g2, f3.tr g3⟩
  unfold taC
  simp only [gfI]
  rw [f1, bnd_some, g1, bnd_some, if_neg g2.n]
theorem taD_F {T : TKD} (w : TKok T) {p : Nat} (hp : pOk p) (a0 r4 : Int32) {h : HH} {f : Int32} {q : Nat} (c : cF T f q h) (e1 : h.2.2 1 = p) : ∃ h', taD a0 r4 h = some ((), h') ∧ cF T f q h' ∧ sK p h h' := by
  obtain ⟨h1, f1, f2, f3⟩ := taC_F w p a0 r4 0 c
  refine ⟨h1, ?_, f2, f3⟩
  unfold taD
  simp only [gfI, gfR]
  rw [e1, ckH_of (pOk.s0 p hp), x6_look_F c, bnd_some, if_neg c.n, f1]
theorem taR_F (a0 v3 : Int32) {h : HH} {f : Int32} {q : Nat} (c : rF f q h) : taR a0 v3 h = some ((), h) := by
  unfold taR
  simp only [gfI]
  rw [frl0, bnd_some, r_numeral_F c, bnd_some, r_numeral_F c, bnd_some, if_neg c.n]
theorem taS_F (a0 v3 : Int32) {h : HH} {f : Int32} {q : Nat} (c : rF f q h) : taS a0 v3 h = some ((), h) := by
  unfold taS
  simp only [gfI]
  rw [if_neg c.n, taR_F _ _ c]
theorem sgn_B {s : Int32} (hs : s = 1 ∨ s = -1) {u : Nat} (hu : u ≤ 9) : inB (s * nI u) := by
  have key : ∀ v : Nat, v ≤ 9 → inB ((1 : Int32) * nI v) ∧ inB ((-1 : Int32) * nI v) := by
    intro v hv
    rcases (show v = 0 ∨ v = 1 ∨ v = 2 ∨ v = 3 ∨ v = 4 ∨ v = 5 ∨ v = 6 ∨ v = 7 ∨ v = 8 ∨ v = 9 by omega) with rfl | rfl | rfl | rfl | rfl | rfl | rfl | rfl | rfl | rfl <;> exact ⟨⟨by decide, by decide⟩, ⟨by decide, by decide⟩⟩
  rcases hs with rfl | rfl
  · exact (key u hu).1
  · exact (key u hu).2
theorem ta_2 {T : TKD} (w : TKok T) {p i nf a : Nat} (hp : pOk p) (hnf : nf ≤ 6) (ha : a < 6) {s : Int32} (hs : s = 1 ∨ s = -1) {C R : HH} (at0 : At T i C R) (e1 : C.2.2 1 = p) (a0 : C.1 p 0 = nI nf) (f7 : R.1 257 7 = nI nf) (eq : ∀ v, v < nf → C.1 (p + 21) (6 * a + v) = R.1 262 (36 + (6 * a + v))) :
    ∃ c' r', taD s (nI a) C = some ((), c') ∧ taS s (nI (6 + a)) R = some ((), r') ∧ sK p C c' ∧ sR R r' ∧ ((∃ f q, cF T f q c' ∧ rF f q r') ∨ ∃ v x, v < nf ∧ inB x ∧ At T (i + 1 + 1) c' r' ∧ c'.1 (p + 21) (6 * a + v) = x ∧ r'.1 262 (36 + (6 * a + v)) = x ∧ (∀ b k, ¬ (b = 24 ∧ k = 3) → ¬ (b = p + 21 ∧ k = 6 * a + v) → c'.1 b k = C.1 b k) ∧ ∀ b k, ¬ (b = 255 ∧ (23 ≤ k ∧ k ≤ 26)) → ¬ (b = 262 ∧ k = 36 + (6 * a + v)) → r'.1 b k = R.1 b k) := by
  have hp' : p + 22 ≤ 60 ∧ (p + 22 ≤ 24 ∨ 30 ≤ p) ∧ 2 ≤ p := by rcases hp with rfl | rfl <;> omega
  have st := pOk.s0 p hp
  have at1 := at0
  obtain ⟨⟨c1, c2, c3⟩, r, hi⟩ := at1
  have hm : nI nf - 1 ≤ 99999 := by
    rcases (show nf = 0 ∨ nf = 1 ∨ nf = 2 ∨ nf = 3 ∨ nf = 4 ∨ nf = 5 ∨ nf = 6 by omega) with rfl | rfl | rfl | rfl | rfl | rfl | rfl <;> decide
  have ix : ∀ v : Nat, (6 : Int32) * nI (6 + a) + nI v = nI (36 + (6 * a + v)) := fun v => by rw [ix6]; congr 1; omega
  rcases P_look w at0 (lo := 0) (hi := nI nf - 1) (by decide) hm p with ⟨v, v1, v2, v3, v4, s25, s26, hk0, r2, v5, v6, v7, v8⟩ | ⟨f, c2', r2, f0, g1, g2, g3, g3', g4, g5, g6, g7, _⟩
  · have hv : v < nf := by
      apply Classical.byContradiction
      intro z
      apply v3
      rcases Nat.eq_zero_or_pos nf with y | y
      · rw [y]
        exact Int32.lt_of_lt_of_le (show nI 0 - 1 < 0 by decide) (nI_pos' (by omega))
      · rw [show (1 : Int32) = nI 1 from rfl, pk_sub (by omega)]
        exact nI_lt (by omega) (by omega)
    have eC : taD s (nI a) C = if C.1 (p + 21) (6 * a + v) = 0 then taC s (nI a) (nI v) C else bnd (g_X6_fail 3 C) fun _ h26 => taC s (nI a) (nI v) h26 := by
      unfold taD
      simp only [gfI, gfR]
      rw [e1, ckH_of st, a0, v4, bnd_some, if_pos c3, e1, ckH_of st, x_cell, bnd_some, ldI_of (by omega) (by decide)]
    have eR : taS s (nI (6 + a)) R = if C.1 (p + 21) (6 * a + v) = 0 then taR s (nI (6 + a)) R else bnd (g_X11_wrong 3 R) fun _ h26 => taR s (nI (6 + a)) h26 := by
      unfold taS
      simp only [gfI]
      rw [r.2.2.2.2, if_pos rfl, s25, if_pos rfl, s26, frl0, bnd_some, f7, if_pos (nI_lt hv (by omega)), s26, ix, ldI_of (by omega) (by decide), eq v hv]
    rw [eC, eR]
    by_cases z : C.1 (p + 21) (6 * a + v) = 0
    rotate_left
    · obtain ⟨h2, k1, k2, k3⟩ := x6_failT w c1 hi c2 3 c3 (by decide) p
      obtain ⟨h3, l1, l2, l3⟩ := taC_F w p s (nI a) (nI v) k2
      obtain ⟨r3, m1, m2, m3⟩ := rF.e r 3 (by decide)
      exact ⟨h3, r3, by rw [if_neg z, k1, bnd_some, l1], by rw [if_neg z, m1, bnd_some, taR_F _ _ m2], k3.tr l3, m3.R, Or.inl ⟨_, _, l2, m2⟩⟩
    · rw [if_pos z, if_pos z]
      have at2 : At T (i + 1) (wrI C 24 3 (nI (i + 1))) r2 := ⟨⟨c1.k fun a k h1 h2 => by rw [wrI_1, if_neg (by omega)], wrI_at _ _ _ _, by rw [wrI_1, if_neg (by omega)]; exact c3⟩, v7, v8⟩
      have sA : sK p C (wrI C 24 3 (nI (i + 1))) := sK_24 p C _ (by omega) (by omega)
      unfold taC taR
      simp only [gfI, gfR]
      rw [x6_adv w c1 hi c2, bnd_some, frl0, bnd_some, f7, v5, bnd_some]
      rcases P_num w at2 (lo := 1) (hi := 9) (by decide) (by decide) p with ⟨u, r3, x1, x2, x3, x4, x5, x6, x7⟩ | ⟨f, c3', r3, g1, g2, g3, g4, g5, g6⟩
      · have hu : u ≤ 9 := nI_nl (a := 9) (by decide) (by omega) x3
        obtain ⟨⟨y1, y2, y3⟩, y4, y5⟩ := x7
        have e1' : (wrI (wrI C 24 3 (nI (i + 1))) 24 3 (nI (i + 1 + 1))).2.2 1 = p := e1
        refine ⟨wrI (wrI (wrI C 24 3 (nI (i + 1))) 24 3 (nI (i + 1 + 1))) (p + 21) (6 * a + v) (s * nI u), wrI r3 262 (36 + (6 * a + v)) (s * nI u), ?_, ?_, (sA.tr (sK_24 p _ _ (by omega) (by omega))).tr (sK_p p _ _ _ (by omega) (by omega)), (v6.R.tr x6.R).tr (sR_w _ _ _ _ (by omega)), Or.inr ⟨v, s * nI u, hv, sgn_B hs hu, ⟨⟨y1.k fun a k h1 h2 => by rw [wrI_1, if_neg (by omega)], by rw [wrI_1, if_neg (by omega)]; exact y2, by rw [wrI_1, if_neg (by omega)]; exact y3⟩, y4.k (fun k _ _ => by rw [wrI_1, if_neg (by omega)]) (fun k => by rw [wrI_1, if_neg (by omega)]), y5⟩, wrI_at _ _ _ _, wrI_at _ _ _ _, fun b k q1 q2 => by rw [wrI_1, if_neg q2, wrI_1, if_neg q1, wrI_1, if_neg q1], fun b k q1 q2 => by rw [wrI_1, if_neg q2, x6.1 _ _ q1, v6.1 _ _ q1]⟩⟩
        · rw [x4, bnd_some, if_pos y3, e1', ckH_of st, x_cell, bnd_some, stI_of (by omega) (by decide)]
        · rw [x5, bnd_some, if_pos y4.2.2.2.2, ix, stI_of (by omega) (by decide)]
      · exact ⟨c3', r3, by rw [g1, bnd_some, if_neg g2.n], by rw [g4, bnd_some, if_neg g5.n], sA.tr g3, v6.R.tr g6.R, Or.inl ⟨_, _, g2, g5⟩⟩
  · obtain ⟨h3, l1, l2, l3⟩ := taC_F w p s (nI a) 0 g2
    have tl : taR s (nI (6 + a)) R = some ((), r2) := by
      unfold taR
      simp only [gfI]
      rw [frl0, bnd_some, f7, g4, bnd_some, r_numeral_F g5, bnd_some, if_neg g5.n]
    refine ⟨h3, r2, ?_, ?_, g3.tr l3, g6.R, Or.inl ⟨_, _, l2, g5⟩⟩
    · unfold taD
      simp only [gfI, gfR]
      rw [e1, ckH_of st, a0, g1, bnd_some, if_neg g2.n, l1]
    · unfold taS
      simp only [gfI]
      rw [r.2.2.2.2, if_pos rfl]
      by_cases s2 : R.1 255 25 = 2
      · rw [if_pos s2, frl0, bnd_some, f7]
        have nl : ¬ R.1 255 26 < nI nf := by
          rcases g7 s2 with y | y
          · intro _
            obtain ⟨_, x, _, _, ux, _⟩ := sv_n r.2.2.2.1 (by have := sv_num r.2.2.2.1; rw [s2] at this; exact cast this rfl)
            rw [ux] at y
            exact absurd y (nI_pos (by omega))
          · intro y'
            rw [Int32.lt_iff_toInt_lt] at y y'
            rw [nI_toInt (by omega)] at y'
            rw [show (1 : Int32) = nI 1 from rfl, pk_sub_toInt (by omega) (by decide)] at y
            omega
        rw [if_neg nl, tl]
      · rw [if_neg s2, tl]
theorem ln_tally {T : TKD} (w : TKok T) {p i nf np nl ng t b k : Nat} (hp : pOk p) {O : List (Int32 × Int32)} {hc hr : HH} (h : LnS T p i nf np nl ng t b O hc hr) (hk1 : k < 2) (hk : tK T i = nI (19 + k)) : ∃ hc' hr', g_X6_readLine hc = some ((), hc') ∧ g_X11_line hr = some ((), hr') ∧ LnD T p i hc hr hc' hr' := by
  have hp' : p + 22 ≤ 60 ∧ (p + 22 ≤ 24 ∨ 30 ≤ p) ∧ 2 ≤ p := by rcases hp with rfl | rfl <;> omega
  have h0 := h
  obtain ⟨⟨⟨c1, c2, c3⟩, r, hi⟩, e1, hP, hL, hF⟩ := h
  have hP0 := hP
  obtain ⟨⟨⟨a1, a2, a3⟩, ⟨a4, a5, a6⟩, ⟨a7, a8, a9⟩, a10, a11, a12⟩, aS, aF, aN, aZ, ⟨aT, aT0⟩, _⟩ := hP
  have hk2 : tK T i = nI (17 + (2 + k)) := by rw [hk]; congr 1; omega
  obtain ⟨s, hs, hsk⟩ : ∃ s : Int32, (s = 1 ∨ s = -1) ∧ ((k = 0 ∧ s = 1) ∨ (k = 1 ∧ s = -1)) := by
    rcases (show k = 0 ∨ k = 1 by omega) with z | z
    · exact ⟨1, Or.inl rfl, Or.inl ⟨z, rfl⟩⟩
    · exact ⟨-1, Or.inr rfl, Or.inr ⟨z, rfl⟩⟩
  have isF : g_X11_isFull (nI (2 + k)) hr = some (if False then 1 else 0, hr) := by
    rw [if_neg (fun z => z)]
    rcases (show k = 0 ∨ k = 1 by omega) with rfl | rfl <;> rfl
  have st := pOk.s0 p hp
  have c1' : cT T (wrI hc 24 6 1) := c1.k fun a k h1 h2 => by rw [wrI_1, if_neg (by omega)]
  have c2' : (wrI hc 24 6 1).1 24 3 = nI i := by rw [wrI_1, if_neg (by omega)]; exact c2
  have c3' : (wrI hc 24 6 1).1 24 4 = 0 := by rw [wrI_1, if_neg (by omega)]; exact c3
  refine ln_word w hp h0 (j := 2 + k) (by omega) (by omega) hk2 (g_X6_readTally s) (g_X11_tallyLine s) ?_ ?_ False isF (fun z => z.elim) ?_
  · rcases hsk with ⟨rfl, rfl⟩ | ⟨rfl, rfl⟩ <;> exact fun x => rfl
  · rcases hsk with ⟨rfl, rfl⟩ | ⟨rfl, rfl⟩ <;> exact fun x => rfl
  · intro z r1 m2 hi1 m5
    have xC : ∀ b k, ¬ (b = 24 ∧ (k = 3 ∨ k = 6)) → (wrI (wrI hc 24 6 1) 24 3 (nI (i + 1))).1 b k = hc.1 b k := fun b k z => by rw [wrI_1, if_neg (by omega), wrI_1, if_neg (by omega)]
    have at1 : At T (i + 1) (wrI (wrI hc 24 6 1) 24 3 (nI (i + 1))) r1 := ⟨⟨c1'.k fun a k h1 h2 => by rw [wrI_1, if_neg (by omega)], wrI_at _ _ _ _, by rw [wrI_1, if_neg (by omega)]; exact c3'⟩, m2, hi1⟩
    have s1 : sK p (wrI hc 24 6 1) (wrI (wrI hc 24 6 1) 24 3 (nI (i + 1))) := sK_24 p _ _ (by omega) (by omega)
    rw [tally_eq, x6_adv w c1' hi c2', bnd_some, rtally_eq]
    simp only [vl]
    rcases P_per w hp at1 e1 (by rw [xC _ _ (by omega)]; exact a4) (by rw [m5 _ _ (by omega)]; exact a5) a6 (fun a ha => by rw [xC _ _ (by omega), m5 _ _ (by omega)]; exact (aN a ha).1) with ⟨a, r2, ha, v1, v2, v3, v4⟩ | ⟨rr, f, c2', r2, g1, g2, g3, g4, g5, g6⟩
    · rw [v1, bnd_some, v2, bnd_some, show (6 : Int32) + nI a = nI (6 + a) from nI_add 6 a]
      have xC2 : ∀ b k, ¬ (b = 24 ∧ (k = 3 ∨ k = 6)) → (wrI (wrI (wrI hc 24 6 1) 24 3 (nI (i + 1))) 24 3 (nI (i + 1 + 1))).1 b k = hc.1 b k := fun b k z => by rw [wrI_1, if_neg (by omega)]; exact xC b k z
      have xR2 : ∀ b k, ¬ (b = 255 ∧ (k = 20 ∨ (23 ≤ k ∧ k ≤ 26))) → r2.1 b k = hr.1 b k := fun b k z1 => by rw [v3.1 _ _ (by omega), m5 _ _ z1]
      obtain ⟨c', r', y1, y2, y3, y4, y5⟩ := ta_2 w hp a3 (show a < 6 by omega) hs v4 e1 (by rw [xC2 _ _ (by omega)]; exact a1) (by rw [xR2 _ _ (by omega)]; exact a2) (fun v hv => by rw [xC2 _ _ (by omega), xR2 _ _ (by omega)]; exact (aT (6 * a + v) (by omega)).1)
      refine ⟨c', r', y1, y2, (s1.tr (sK_24 p _ _ (by omega) (by omega))).tr y3, v3.R.tr y4, ?_⟩
      rcases y5 with y5 | ⟨v, x, x1, x2, x3, x4, x5, x6, x7⟩
      · exact Or.inl y5
      · refine Or.inr ⟨i + 1 + 1 + 1 + 1, nf, np, nl, ng, by omega, x3, ?_, fun b k z => ?_, fun b k z => ?_⟩
        · exact hP0.kt (mm := 6 * a + v) (v0 := x) (by omega) (fun b k h1 h2 h3 => by rw [x6 b k (by omega) h3, xC2 b k (by omega)]) (fun b k h1 h2 h3 => by rw [x7 b k (by omega) h3, xR2 b k (by omega)]) ⟨x4, x5⟩ x2
        · rw [x6 b k (by omega) (by omega), wrI_1, if_neg (by omega), wrI_1, if_neg (by omega)]
        · rw [x7 b k (by omega) (by omega), v3.1 _ _ (by omega)]
    · obtain ⟨c3', k1, k2, k3⟩ := taD_F w hp s rr g2 (by rw [g3.2]; exact e1)
      exact ⟨c3', r2, by rw [g1, bnd_some, k1], by rw [g4, bnd_some, show (6 : Int32) + 0 = 6 from rfl, taS_F _ _ g5], (s1.tr g3).tr k3, g6.R, Or.inl ⟨_, _, k2, g5⟩⟩
