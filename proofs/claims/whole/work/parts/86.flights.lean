/-! a line that tells a flight -/
theorem ln_F {T : TKD} (w : TKok T) {p i : Nat} {hc hr hc' hr' : HH} {f : Int32} {q : Nat} (c : cF T f q hc') (r : rF f q hr') (s1 : sK p hc hc') (s2 : sR hr hr') : ∃ hc'', tlC hc' = some ((), hc'') ∧ tlR hr' = some ((), hr') ∧ LnD T p i hc hr hc'' hr' := by
  obtain ⟨h1, f1, f2, f3⟩ := x6_advF w c p
  refine ⟨h1, ?_, ?_, s1.tr f3, s2, Or.inl ⟨f, q, f2, r⟩⟩
  · unfold tlC
    simp only [gfI, jn]
    rw [if_neg c.n, f1]
    rfl
  · unfold tlR
    simp only [gfI]
    rw [if_neg r.n]
def flB (h4 : HH) : Option (Unit × HH) :=
    gfR h4 1 fun p5 => ckH p5 (.inl 5) (
    gfI h4 p5 0 fun v6 =>
    bnd (g_X6_takeWord v6 (6 : Int32) h4) fun _ h7 => 
    bnd (g_X6_number (1 : Int32) (20 : Int32) h7) fun r10 h9 => 
    gfI h9 24 4 fun v11 =>
    if v11 = 0 then
      (gfR h9 1 fun p12 => ckH p12 (.inl 5) (
      gfR h9 1 fun p13 => ckH p13 (.inl 5) (
      gfI h9 p13 0 fun v14 =>
      stI h9 (p12 + 1) 6 v14 r10 fun h15 =>
      gfR h15 1 fun p16 => ckH p16 (.inl 5) (
      gfI h15 p16 0 fun v17 =>
      pfI h15 p16 0 (v17 + (1 : Int32)) fun h18 =>
      some ((), h18)))))
    else
      (some ((), h9)))
theorem flight_eq (h : HH) : g_X6_readFlight h = if h.1 24 6 = 0 then flB h else bnd (g_X6_fail 1 h) fun _ h19 => flB h19 := rfl
theorem flB_F {T : TKD} (w : TKok T) {p : Nat} (hp : pOk p) {h : HH} {f : Int32} {q : Nat} (c : cF T f q h) (e1 : h.2.2 1 = p) : ∃ h', flB h = some ((), h') ∧ cF T f q h' ∧ sK p h h' := by
  obtain ⟨h1, f1, f2, f3⟩ := x6_takeWord_F w c p (h.1 p 0) 6
  obtain ⟨h2, g1, g2, g3⟩ := x6_number_F w f2 p 1 20
  refine ⟨h2, ?_, g2, f3.tr g3⟩
  unfold flB
  simp only [gfI, gfR]
  rw [e1, ckH_of (pOk.s0 p hp), f1, bnd_some, g1, bnd_some, if_neg g2.n]
theorem nI_nl {a v : Nat} (ha : a < 2 ^ 31) (hv : v < 2 ^ 31) (h : ¬ nI a < nI v) : v ≤ a := by
  apply Classical.byContradiction
  intro z
  exact h (nI_lt (by omega) hv)
theorem ln_flight {T : TKD} (w : TKok T) {p i nf np nl ng t b : Nat} (hp : pOk p) {O : List (Int32 × Int32)} {hc hr : HH} (h : LnS T p i nf np nl ng t b O hc hr) (hk : tK T i = 17) : ∃ hc' hr', g_X6_readLine hc = some ((), hc') ∧ g_X11_line hr = some ((), hr') ∧ LnD T p i hc hr hc' hr' := by
  have hp' : p + 22 ≤ 60 ∧ (p + 22 ≤ 24 ∨ 30 ≤ p) ∧ 2 ≤ p := by rcases hp with rfl | rfl <;> omega
  obtain ⟨⟨⟨c1, c2, c3⟩, r, hi⟩, e1, hP, hL, hF⟩ := h
  have hk0 : ¬ tK T i = 0 := by rw [hk]; decide
  have hkj : tK T i = nI (17 + 0) := hk
  obtain ⟨hb1, hb2, hb3, hb4, hb5⟩ := hF
  obtain ⟨⟨⟨a1, a2, a3⟩, a4⟩, aR⟩ := hP
  rw [readLine_eq w c1 hi c2, if_pos (by rw [hk]; decide), hk]
  unfold cBd
  rw [if_pos rfl, flight_eq]
  by_cases fo : hc.1 24 6 = 0
  · rw [if_pos fo]
    have h254 : hr.1 255 20 &&& 254 = 0 := by rw [hb2, td_254 hb1]; exact hb3.mp fo
    rw [line_w r (j := 0) (by decide) hkj (fun _ => h254)]
    have e26 : hr.1 255 26 = nI 0 := by
      have e := sv_w r.2.2.2.1 (j := 0) (by omega)
      have : tK T i = nI (17 + sW 0) := by rw [hk]; decide
      rw [← e] at this
      exact this.2
    by_cases n6 : nf = 6
    · obtain ⟨h1, f1, f2, f3⟩ := x6_takeWord_N w c1 hi c2 c3 p (a := nI nf) (m := 6) (by rw [n6]; decide)
      obtain ⟨h2, g1, g2, g3⟩ := x6_number_F w f2 p 1 20
      obtain ⟨r1, v1, v2, v3⟩ := rF.e r 2 (by decide)
      obtain ⟨h3, t1, t2, t3⟩ := ln_F w (p := p) (i := i) (hc := hc) (hr := hr) g2 v2 (f3.tr g3) v3.R
      refine ⟨h3, r1, ?_, ?_, t3⟩
      · unfold flB
        simp only [gfI, gfR]
        rw [e1, ckH_of (pOk.s0 p hp), a1, f1, bnd_some, g1, bnd_some, if_neg g2.n, bnd_some, t1]
      · unfold rMd g_X11_isFull
        simp only [gfI]
        rw [e26, if_pos (show nI 0 = 0 from rfl), show (0 : Int32) = nI 0 from rfl, fr_of (by decide), bnd_some, a2, if_pos (show nI nf = 6 by rw [n6]; rfl), bnd_some, if_neg (show ¬ (1 : Int32) = nI 0 by decide), v1, bnd_some, rMn_F v2]
    · have n6' : nf < 6 := by omega
      obtain ⟨r1, m1, m2, m3, m4, m5⟩ := rMn_go w r hi hk0 (j := 0) (by decide) hb2
      have at1 : At T (i + 1) (wrI hc 24 3 (nI (i + 1))) r1 := ⟨⟨c1.k fun a k h1 h2 => by rw [wrI_1, if_neg (by omega)], wrI_at _ _ _ _, by rw [wrI_1, if_neg (by omega)]; exact c3⟩, m2, tK_e w hi hk0⟩
      have fr1 : r1.1 257 7 = nI nf := (m5 _ _ (by omega)).trans a2
      have eR1 : rMd hr = rBd (nI 0) r1 := by
        unfold rMd g_X11_isFull
        simp only [gfI]
        rw [e26, if_pos (show nI 0 = 0 from rfl), show (0 : Int32) = nI 0 from rfl, fr_of (by decide), bnd_some, a2, if_neg (show ¬ nI nf = 6 from fun z => n6 ((nI_eq (b := 6) (by omega) (by decide)).mp z)), bnd_some, if_pos rfl, if_neg (show ¬ nI 0 = (8 : Int32) by decide), if_neg (show ¬ nI 0 = (9 : Int32) by decide), m1]
      have eC1 : ∀ R, flB hc = R ↔ (bnd (g_X6_number 1 20 (wrI hc 24 3 (nI (i + 1)))) fun r10 h9 => if h9.1 24 4 = 0 then (ckH (h9.2.2 1) (.inl 5) (ckH (h9.2.2 1) (.inl 5) (stI h9 (h9.2.2 1 + 1) 6 (h9.1 (h9.2.2 1) 0) r10 fun h15 => ckH (h15.2.2 1) (.inl 5) (some ((), wrI h15 (h15.2.2 1) 0 (h15.1 (h15.2.2 1) 0 + 1)))))) else some ((), h9)) = R := fun R => by
        unfold flB
        simp only [gfI, gfR, pfI]
        rw [e1, ckH_of (pOk.s0 p hp), a1, x6_takeWord w c1 hi c2 (show nI nf < 6 from nI_lt (b := 6) n6' (by decide)), bnd_some]
      rw [eR1]
      unfold rBd
      rw [if_pos (show nI 0 = 0 from rfl)]
      rcases P_num w at1 (lo := 1) (hi := 20) (by decide) (by decide) p with ⟨v, r2, v1, v2, v3, v4, v5, v6, v7⟩ | ⟨f, c2', r2, f1, f2, f3, f4, f5, f6⟩
      · have hv : v ≤ 20 := nI_nl (a := 20) (by decide) (by omega) v3
        obtain ⟨⟨d1, d2, d3⟩, d4, d5⟩ := v7
        have fr2 : r2.1 257 7 = nI nf := (v6.1 _ _ (by omega)).trans fr1
        have lno : LnO T p i hc hr (wrI (wrI (wrI (wrI hc 24 3 (nI (i + 1))) 24 3 (nI (i + 1 + 1))) (p + 1) nf (nI v)) p 0 (nI (nf + 1))) (wrI (wrI r2 258 (6 + nf) (nI v)) 257 7 (nI (nf + 1))) := by
          refine ⟨(((sK_24 p hc _ (by omega) (by omega)).tr (sK_24 p _ _ (by omega) (by omega))).tr (sK_p p _ _ _ (by omega) (by omega))).tr (sK_p p _ _ _ (by omega) (by omega)), (m4.tr v6.R).tr ⟨fun a k q1 q2 q3 q4 q5 q6 q7 q8 => by rw [wrI_1, if_neg (by omega), wrI_1, if_neg (by omega)], rfl⟩, by rw [wrI_1, if_neg (by omega), wrI_1, if_neg (by omega), v6.1 _ _ (by omega), m5 _ _ (by omega)], Or.inr (Or.inr ⟨i + 1 + 1, nf + 1, np, nl, ng, t, b ||| 2 ^ 0, O, by omega, ⟨⟨d1.k fun a k h1 h2 => by rw [wrI_1, if_neg (by omega), wrI_1, if_neg (by omega)], by rw [wrI_1, if_neg (by omega), wrI_1, if_neg (by omega)]; exact d2, by rw [wrI_1, if_neg (by omega), wrI_1, if_neg (by omega)]; exact d3⟩, d4.k (fun k _ _ => by rw [wrI_1, if_neg (by omega), wrI_1, if_neg (by omega)]) (fun k => by rw [wrI_1, if_neg (by omega), wrI_1, if_neg (by omega)]), d5⟩, e1, ?_, ?_, ?_⟩)⟩
          · have q := PRL.k (hc' := wrI (wrI hc 24 3 (nI (i + 1))) 24 3 (nI (i + 1 + 1))) (hr' := r2) (⟨⟨⟨a1, a2, a3⟩, a4⟩, aR⟩ : PRL p nf np nl ng hc hr) (fun a k h1 h2 => by rw [wrI_1, if_neg (by omega), wrI_1, if_neg (by omega)]) fun a k h1 h2 => (v6.1 a k (by omega)).trans (m5 a k (by omega))
            obtain ⟨⟨⟨b1, b2, b3⟩, ⟨b4, b5, b6⟩, ⟨b7, b8, b9⟩, b10, b11, b12⟩, ⟨⟨sl, g1, g2, g3⟩, g4, g5⟩, cc, dd, ⟨ff1, ff2⟩, ⟨gg1, gg2⟩, ll, mm⟩ := q
            generalize wrI (wrI hc 24 3 (nI (i + 1))) 24 3 (nI (i + 1 + 1)) = C at *
            have xC : ∀ a k, ¬ (a = p ∧ k = 0) → a ≠ p + 1 → (wrI (wrI C (p + 1) nf (nI v)) p 0 (nI (nf + 1))).1 a k = C.1 a k := fun a k z1 z2 => by rw [wrI_1, if_neg z1, wrI_1, if_neg (fun z => z2 z.1)]
            have xR : ∀ a k, ¬ (a = 257 ∧ k = 7) → a ≠ 258 → (wrI (wrI r2 258 (6 + nf) (nI v)) 257 7 (nI (nf + 1))).1 a k = r2.1 a k := fun a k z1 z2 => by rw [wrI_1, if_neg z1, wrI_1, if_neg (fun z => z2 z.1)]
            refine ⟨⟨⟨wrI_at _ _ _ _, wrI_at _ _ _ _, by omega⟩, ⟨by rw [xC _ _ (by omega) (by omega)]; exact b4, by rw [xR _ _ (by omega) (by omega)]; exact b5, b6⟩, ⟨by rw [xC _ _ (by omega) (by omega)]; exact b7, by rw [xR _ _ (by omega) (by omega)]; exact b8, b9⟩, by rw [xC _ _ (by omega) (by omega)]; exact b10, by rw [xR _ _ (by omega) (by omega)]; exact b11, b12⟩, ⟨⟨sl, g1, by rw [xC _ _ (by omega) (by omega)]; exact g2, by rw [xR _ _ (by omega) (by omega)]; exact g3⟩, by rw [xC _ _ (by omega) (by omega), xR _ _ (by omega) (by omega)]; exact g4, by rw [xC _ _ (by omega) (by omega)]; exact g5⟩, fun f hf => ?_, fun a ha => ?_, ⟨fun a ha => ?_, fun a h1 h2 => by rw [xC _ _ (by omega) (by omega)]; exact ff2 a h1 h2⟩, ⟨fun k hk => ?_, fun k h1 h2 => by rw [xC _ _ (by omega) (by omega)]; exact gg2 k h1 h2⟩, fun x hx => ?_, fun g hg => ?_⟩
            · by_cases z : f = nf
              · subst z
                exact ⟨v, hv, by rw [wrI_1, if_neg (by omega), wrI_at], by rw [wrI_1, if_neg (by omega), wrI_at]⟩
              · obtain ⟨u, u1, u2, u3⟩ := cc f (by omega)
                exact ⟨u, u1, by rw [wrI_1, if_neg (by omega), wrI_1, if_neg (by omega)]; exact u2, by rw [wrI_1, if_neg (by omega), wrI_1, if_neg (by omega)]; exact u3⟩
            · obtain ⟨d1', ⟨u, u1, u2, u3⟩, x, x1, x2, x3⟩ := dd a ha
              exact ⟨by rw [xC _ _ (by omega) (by omega), xR _ _ (by omega) (by omega)]; exact d1', ⟨u, u1, by rw [xC _ _ (by omega) (by omega)]; exact u2, by rw [xR _ _ (by omega) (by omega)]; exact u3⟩, x, by omega, by rw [xC _ _ (by omega) (by omega)]; exact x2, by rw [xR _ _ (by omega) (by omega)]; exact x3⟩
            · rw [xC (p + 18) _ (by omega) (by omega), xC (p + 19) _ (by omega) (by omega), xC (p + 20) _ (by omega) (by omega)]; exact ff1 a ha
            · rw [xC _ _ (by omega) (by omega), xR _ _ (by omega) (by omega)]; exact gg1 k hk
            · obtain ⟨i', j, u, l1, ⟨l2, l3⟩, ⟨l4, l5⟩, l6, l7⟩ := ll x hx
              exact ⟨i', j, u, by omega, ⟨by rw [xC _ _ (by omega) (by omega)]; exact l2, by rw [xR _ _ (by omega) (by omega)]; exact l3⟩, ⟨by rw [xC _ _ (by omega) (by omega)]; exact l4, by rw [xR _ _ (by omega) (by omega)]; exact l5⟩, by rw [xC _ _ (by omega) (by omega)]; exact l6, by rw [xR _ _ (by omega) (by omega)]; exact l7⟩
            · obtain ⟨how, a, u, x, ⟨y1, y2, y3, y4, y5, y6⟩, ⟨m2', m3'⟩, ⟨m4', m5'⟩, ⟨m6', m7'⟩, m8', m9'⟩ := mm g hg
              exact ⟨how, a, u, x, ⟨y1, y2, y3, y4, fun z => by have := y5 z; omega, y6⟩, ⟨by rw [xC _ _ (by omega) (by omega)]; exact m2', by rw [xR _ _ (by omega) (by omega)]; exact m3'⟩, ⟨by rw [xC _ _ (by omega) (by omega)]; exact m4', by rw [xR _ _ (by omega) (by omega)]; exact m5'⟩, ⟨by rw [xC _ _ (by omega) (by omega)]; exact m6', by rw [xR _ _ (by omega) (by omega)]; exact m7'⟩, by rw [xC _ _ (by omega) (by omega)]; exact m8', by rw [xR _ _ (by omega) (by omega)]; exact m9'⟩
          · exact hL.k (fun a k z => by rw [wrI_1, if_neg (by omega), wrI_1, if_neg (by omega), wrI_1, if_neg (by omega), wrI_1, if_neg (by omega)]) (fun a k z => by rw [wrI_1, if_neg (by omega), wrI_1, if_neg (by omega)]; exact (v6.1 a k (by omega)).trans (m5 a k (by omega))) fun r hr3 => by rw [td_or, decide_eq_false (by omega : ¬ 0 = 16 + r), Bool.or_false]
          · have tb : ∀ u, 1 ≤ u → (b ||| 2 ^ 0).testBit u = b.testBit u := fun u hu => by rw [td_or, decide_eq_false (by omega : ¬ 0 = u), Bool.or_false]
            refine ⟨td_lt hb1 (by decide), by rw [wrI_1, if_neg (by omega), wrI_1, if_neg (by omega)]; exact (v6.1 _ _ (by omega)).trans m3, ?_, ?_, ?_⟩
            · rw [wrI_1, if_neg (by omega), wrI_1, if_neg (by omega), wrI_1, if_neg (by omega), wrI_1, if_neg (by omega), hb3]
              exact ⟨fun z u h1 h2 => by rw [tb u h1]; exact z u h1 h2, fun z u h1 h2 => by rw [← tb u h1]; exact z u h1 h2⟩
            · rw [wrI_1, if_neg (by omega), wrI_1, if_neg (by omega), wrI_1, if_neg (by omega), wrI_1, if_neg (by omega), tb 8 (by omega)]; exact hb4
            · rw [wrI_1, if_neg (by omega), wrI_1, if_neg (by omega), wrI_1, if_neg (by omega), wrI_1, if_neg (by omega), tb 9 (by omega)]; exact hb5
        obtain ⟨hc'', hr'', t1, t2, t3⟩ := line_tl w hp lno
        refine ⟨hc'', hr'', ?_, ?_, t3⟩
        · have eF : flB hc = some ((), wrI (wrI (wrI (wrI hc 24 3 (nI (i + 1))) 24 3 (nI (i + 1 + 1))) (p + 1) nf (nI v)) p 0 (nI (nf + 1))) := by
            refine (eC1 _).mpr ?_
            rw [v4, bnd_some, if_pos d3]
            have e1' : (wrI (wrI hc 24 3 (nI (i + 1))) 24 3 (nI (i + 1 + 1))).2.2 1 = p := e1
            have a1' : (wrI (wrI hc 24 3 (nI (i + 1))) 24 3 (nI (i + 1 + 1))).1 p 0 = nI nf := by rw [wrI_1, if_neg (by omega), wrI_1, if_neg (by omega)]; exact a1
            rw [e1', ckH_of (pOk.s0 p hp), ckH_of (pOk.s0 p hp), a1', stI_of (by omega) (by decide)]
            rw [show (wrI (wrI (wrI hc 24 3 (nI (i + 1))) 24 3 (nI (i + 1 + 1))) (p + 1) nf (nI v)).2.2 1 = p from e1, ckH_of (pOk.s0 p hp), wrI_1 _ (p + 1) nf _ p 0, if_neg (by omega), a1', nI_1]
          rw [eF, bnd_some]
          exact t1
        · rw [v5, bnd_some, show (0 : Int32) = nI 0 from rfl, fr_of (by decide), bnd_some, fr2, show (6 : Int32) = nI 6 from rfl, nI_add, stI_of (by omega) (by decide), fr_of (by decide), bnd_some, rd_of (by decide), bnd_some, wrI_1 r2 258, if_neg (by omega), fr2, nI_1]
          exact t2
      · obtain ⟨h3, t1, t2, t3⟩ := ln_F w (p := p) (i := i) (hc := hc) (hr := hr) f2 (hr' := wrI (wrI r2 258 (6 + nf) 1) 257 7 (nI (nf + 1))) ⟨f5.1, by rw [wrI_1, if_neg (by omega), wrI_1, if_neg (by omega)]; exact f5.2.1, by rw [wrI_1, if_neg (by omega), wrI_1, if_neg (by omega)]; exact f5.2.2⟩ ((sK_24 p hc _ (by omega) (by omega)).tr f3) ((m4.tr f6.R).tr ⟨fun a k q1 q2 q3 q4 q5 q6 q7 q8 => by rw [wrI_1, if_neg (by omega), wrI_1, if_neg (by omega)], rfl⟩)
        have fr2 : r2.1 257 7 = nI nf := (f6.1 _ _ (by omega) (by omega) (by omega)).trans fr1
        refine ⟨h3, _, ?_, ?_, t3⟩
        · rw [(eC1 (some ((), c2'))).mpr (by rw [f1, bnd_some, if_neg f2.n]), bnd_some, t1]
        · rw [f4, bnd_some, show (0 : Int32) = nI 0 from rfl, fr_of (by decide), bnd_some, fr2, show (6 : Int32) = nI 6 from rfl, nI_add, stI_of (by omega) (by decide), fr_of (by decide), bnd_some, rd_of (by decide), bnd_some, wrI_1 r2 258, if_neg (by omega), fr2, nI_1]
          exact t2
  · rw [if_neg fo]
    have h254 : ¬ hr.1 255 20 &&& 254 = 0 := by rw [hb2, td_254 hb1]; exact fun z => fo (hb3.mpr z)
    obtain ⟨r1, v1, v2, v3⟩ := line_fo r hk h254
    obtain ⟨h1, f1, f2, f3⟩ := x6_failT w c1 hi c2 1 c3 (by decide) p
    obtain ⟨h2, g1, g2, g3⟩ := flB_F w hp f2 (by rw [f3.2]; exact e1)
    obtain ⟨h3, t1, t2, t3⟩ := ln_F w (p := p) (i := i) (hc := hc) (hr := hr) g2 v2 (f3.tr g3) v3.R
    exact ⟨h3, r1, by rw [f1, bnd_some, g1, bnd_some, t1], v1, t3⟩
