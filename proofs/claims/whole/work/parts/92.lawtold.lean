/-! a law's line, put together -/
theorem PRL.kv {p nf np nl ng : Nat} {hc hr hc' hr' : HH} (h : PRL p nf np nl ng hc hr) (e1 : ∀ a k, p ≤ a → a < p + 22 → (a < p + 11 ∨ p + 16 ≤ a) → hc'.1 a k = hc.1 a k) (e2 : ∀ a k, 257 ≤ a → a ≤ 269 → (a = 257 → k ≤ 12) → hr'.1 a k = hr.1 a k) : PRL p nf np nl ng hc' hr' := by
  obtain ⟨⟨⟨a1, a2, a3⟩, ⟨a4, a5, a6⟩, ⟨a7, a8, a9⟩, a10, a11, a12⟩, ⟨⟨sl, b1, b2, b3⟩, b4, b5⟩, c, d, ⟨f1, f2⟩, ⟨g1, g2⟩, l, m⟩ := h
  refine ⟨⟨⟨(e1 _ _ (by omega) (by omega) (by omega)).trans a1, (e2 _ _ (by omega) (by omega) (by omega)).trans a2, a3⟩, ⟨(e1 _ _ (by omega) (by omega) (by omega)).trans a4, (e2 _ _ (by omega) (by omega) (by omega)).trans a5, a6⟩, ⟨(e1 _ _ (by omega) (by omega) (by omega)).trans a7, (e2 _ _ (by omega) (by omega) (by omega)).trans a8, a9⟩, (e1 _ _ (by omega) (by omega) (by omega)).trans a10, (e2 _ _ (by omega) (by omega) (by omega)).trans a11, a12⟩, ⟨⟨sl, b1, (e1 _ _ (by omega) (by omega) (by omega)).trans b2, (e2 _ _ (by omega) (by omega) (by omega)).trans b3⟩, by rw [e1 _ _ (by omega) (by omega) (by omega), e2 _ _ (by omega) (by omega) (by omega)]; exact b4, (e1 _ _ (by omega) (by omega) (by omega)).trans b5⟩, fun f hf => ?_, fun a ha => ?_, ⟨fun a ha => ?_, fun a h1 h2 => (e1 _ _ (by omega) (by omega) (by omega)).trans (f2 a h1 h2)⟩, ⟨fun k hk => ?_, fun k h1 h2 => (e1 _ _ (by omega) (by omega) (by omega)).trans (g2 k h1 h2)⟩, fun x hx => ?_, fun g hg => ?_⟩
  · obtain ⟨u, u1, u2, u3⟩ := c f hf
    exact ⟨u, u1, (e1 _ _ (by omega) (by omega) (by omega)).trans u2, (e2 _ _ (by omega) (by omega) (by omega)).trans u3⟩
  · obtain ⟨d1, ⟨u, u1, u2, u3⟩, v, v1, v2, v3⟩ := d a ha
    exact ⟨by rw [e1 _ _ (by omega) (by omega) (by omega), e2 _ _ (by omega) (by omega) (by omega)]; exact d1, ⟨u, u1, (e1 _ _ (by omega) (by omega) (by omega)).trans u2, (e2 _ _ (by omega) (by omega) (by omega)).trans u3⟩, v, v1, (e1 _ _ (by omega) (by omega) (by omega)).trans v2, (e2 _ _ (by omega) (by omega) (by omega)).trans v3⟩
  · rw [e1 (p + 18) _ (by omega) (by omega) (by omega), e1 (p + 19) _ (by omega) (by omega) (by omega), e1 (p + 20) _ (by omega) (by omega) (by omega)]; exact f1 a ha
  · rw [e1 _ _ (by omega) (by omega) (by omega), e2 _ _ (by omega) (by omega) (by omega)]; exact g1 k hk
  · obtain ⟨i, j, u, l1, ⟨l2, l3⟩, ⟨l4, l5⟩, l6, l7⟩ := l x hx
    exact ⟨i, j, u, l1, ⟨(e1 _ _ (by omega) (by omega) (by omega)).trans l2, (e2 _ _ (by omega) (by omega) (by omega)).trans l3⟩, ⟨(e1 _ _ (by omega) (by omega) (by omega)).trans l4, (e2 _ _ (by omega) (by omega) (by omega)).trans l5⟩, (e1 _ _ (by omega) (by omega) (by omega)).trans l6, (e2 _ _ (by omega) (by omega) (by omega)).trans l7⟩
  · obtain ⟨how, a, u, x, m1, ⟨m2, m3⟩, ⟨m4, m5⟩, ⟨m6, m7⟩, m8, m9⟩ := m g hg
    exact ⟨how, a, u, x, m1, ⟨(e1 _ _ (by omega) (by omega) (by omega)).trans m2, (e2 _ _ (by omega) (by omega) (by omega)).trans m3⟩, ⟨(e1 _ _ (by omega) (by omega) (by omega)).trans m4, (e2 _ _ (by omega) (by omega) (by omega)).trans m5⟩, ⟨(e1 _ _ (by omega) (by omega) (by omega)).trans m6, (e2 _ _ (by omega) (by omega) (by omega)).trans m7⟩, (e1 _ _ (by omega) (by omega) (by omega)).trans m8, (e2 _ _ (by omega) (by omega) (by omega)).trans m9⟩
theorem FLG.l {b q : Nat} {hc hr hc' hr' : HH} (h : FLG b hc hr) (hq : q < 3) (e1 : ∀ k, 6 ≤ k → k ≤ 8 → hc'.1 24 k = hc.1 24 k) (e2 : hr'.1 255 20 = nI ((b ||| 2 ^ 10) ||| 2 ^ (16 + q))) : FLG ((b ||| 2 ^ 10) ||| 2 ^ (16 + q)) hc' hr' := by
  obtain ⟨f1, f2, f3, f4, f5⟩ := h
  have tb : ∀ u, u ≤ 9 → ((b ||| 2 ^ 10) ||| 2 ^ (16 + q)).testBit u = b.testBit u := fun u hu => by rw [td_or, td_or, decide_eq_false (by omega : ¬ 16 + q = u), decide_eq_false (by omega : ¬ 10 = u), Bool.or_false, Bool.or_false]
  refine ⟨td_lt (td_lt f1 (by decide)) (by omega), e2, ?_, ?_, ?_⟩
  · rw [e1 6 (by omega) (by omega), f3]
    exact ⟨fun z u h1 h2 => by rw [tb u (by omega)]; exact z u h1 h2, fun z u h1 h2 => by rw [← tb u (by omega)]; exact z u h1 h2⟩
  · rw [e1 7 (by omega) (by omega), tb 8 (by omega)]; exact f4
  · rw [e1 8 (by omega) (by omega), tb 9 (by omega)]; exact f5
set_option maxRecDepth 100000 in
/-- the law's E, and the law's row closed -/
theorem law_2 {T : TKD} (w : TKok T) {p i nf np nl ng t b q : Nat} (hp : pOk p) {O : List (Int32 × Int32)} {hc hr C R : HH} (hq3 : q < 3) (hP : PRL p nf np nl ng hc hr) (hL0 : LWS p t b O hc hr) (hF : FLG b hc hr)
    (atE : At T (i + 1 + 1) C R) (eC3 : C.2.2 1 = p) (xc : ∀ a k, ¬ (a = 24 ∧ k = 3) → ¬ (a = p + 14 ∧ k = q) → C.1 a k = hc.1 a k) (eC4 : C.1 (p + 14) q = nI O.length) (sC : sK p hc C)
    (xr3 : ∀ a k, ¬ (a = 255 ∧ (k = 20 ∨ (23 ≤ k ∧ k ≤ 26))) → ¬ (a = 270 ∧ k = 3 + q) → R.1 a k = hr.1 a k) (s20 : R.1 255 20 = nI ((b ||| 2 ^ 10) ||| 2 ^ (16 + q))) (eR4 : R.1 270 (3 + q) = nI O.length) (sRr : sR hr R) :
    ∃ c' r', g_X6_readE C = some ((), c') ∧ rG 200 0 R = some ((), r') ∧ c'.2.2 1 = p ∧ LnO T p i hc hr (wrI c' (p + 15) q (c'.1 (p + 11) 2)) (wrI r' 271 (3 + q) (r'.1 257 13)) := by
  have hp' : p + 22 ≤ 60 ∧ (p + 22 ≤ 24 ∨ 30 ≤ p) ∧ 2 ≤ p := by rcases hp with rfl | rfl <;> omega
  have hL := hL0
  obtain ⟨⟨l1, l2, l3, l4, l5⟩, ⟨l6, l7, l8⟩, l9⟩ := hL
  obtain ⟨c', r', f1, f2, f3, f4, f5⟩ := P_E w hp atE eC3 (t := t) (O := O) (by rw [xc _ _ (by omega) (by omega)]; exact l1) (by rw [xc _ _ (by omega) (by omega)]; exact l6) (fun j x hx => by rw [xc (p + 12) _ (by omega) (by omega), xc (p + 13) _ (by omega) (by omega)]; exact (l8 j x hx).1) (by rw [xr3 _ _ (by omega) (by omega)]; exact l3) (by rw [xr3 _ _ (by omega) (by omega)]; exact l2) (by rw [xr3 _ _ (by omega) (by omega)]; exact l7) (fun j x hx => by rw [xr3 272 _ (by omega) (by omega), xr3 273 _ (by omega) (by omega)]; exact (l8 j x hx).2.1) l4 l5
  refine ⟨c', r', f1, f2, by rw [f3.2.1]; exact eC3, (sC.tr f3.K).tr (sK_p p _ _ _ (by omega) (by omega)), (sRr.tr f4.R).tr (sR_w _ _ _ _ (by omega)), ?_, ?_⟩
  · rw [wrI_1, if_neg (by omega), f4.1 _ _ (by omega) (by omega) (by omega), xr3 _ _ (by omega) (by omega)]
  · rcases f5 with ⟨f, q', k1, k2⟩ | ⟨i', X, k1, k2, k3, k4, k5, k6, k7⟩ | ⟨i', X, k1, k2, k3, k4, k5, k6⟩
    · exact Or.inl ⟨f, q', k1.k fun a k z => by rw [wrI_1, if_neg (by omega)], k2.w _ _ _ (by omega)⟩
    · exact Or.inr (Or.inl ⟨i', k1.1.k (fun k _ _ => by rw [wrI_1, if_neg (by omega)]) (fun k => by rw [wrI_1, if_neg (by omega)]), k2, k6, k7.k fun a k z => by rw [wrI_1, if_neg (by omega)]⟩)
    · have h701 := w.2.1
      have i2 := atE.2.2
      obtain ⟨j, j1, j2, j3⟩ := f3.2.2 (i + 1 + 1) (by omega) atE.1.2.1
      have i4 : i' < tL T := k1.2.2
      have up : j = i' := (nI_eq (a := j) (b := i') (by omega) (by omega)).mp (j3.symm.trans k1.1.2.1)
      refine Or.inr (Or.inr ⟨i', nf, np, nl, ng, t + X.length, (b ||| 2 ^ 10) ||| 2 ^ (16 + q), O ++ X, by omega, ⟨⟨k1.1.1.k fun a k h1 h2 => by rw [wrI_1, if_neg (by omega)], by rw [wrI_1, if_neg (by omega)]; exact k1.1.2.1, by rw [wrI_1, if_neg (by omega)]; exact k1.1.2.2⟩, k1.2.1.k (fun k _ _ => by rw [wrI_1, if_neg (by omega)]) (fun k => by rw [wrI_1, if_neg (by omega)]), k1.2.2⟩, by show c'.2.2 1 = p; rw [f3.2.1]; exact eC3, ?_, ?_, ?_⟩)
      · exact hP.kv (fun a k h1 h2 h3 => by rw [wrI_1, if_neg (by omega), f3.1 _ _ (by omega) (by omega) (by omega) (by omega) (by omega), xc _ _ (by omega) (by omega)]) fun a k h1 h2 h3 => by rw [wrI_1, if_neg (by omega), f4.1 _ _ (by omega) (by omega) (by omega), xr3 _ _ (by omega) (by omega)]
      · refine hL0.e hq3 k4 k5 k6 (by rw [wrI_1, if_neg (by omega)]; exact k3.2.2.1.2) (by rw [wrI_1, if_neg (by omega)]; exact k2.2.1.2) (by rw [wrI_1, if_neg (by omega)]; exact k2.2.1.1) (by rw [wrI_1, if_neg (by omega)]; exact k3.2.2.2.1) (by rw [wrI_1, if_neg (by omega)]; exact k2.2.2.1) (fun j x hx => by rw [wrI_1, if_neg (by omega), wrI_1, if_neg (by omega)]; exact k3.2.2.2.2 j x hx) (fun j x hx => by rw [wrI_1, if_neg (by omega), wrI_1, if_neg (by omega)]; exact k2.2.2.2 j x hx) (fun r hr3 hne => ⟨?_, ?_, ?_, ?_, ?_⟩) ⟨?_, by rw [wrI_at]; exact k3.2.2.2.1, ?_, by rw [wrI_at]; exact k2.2.2.1, ?_⟩
        · rw [wrI_1, if_neg (by omega), f3.1 _ _ (by omega) (by omega) (by omega) (by omega) (by omega), xc _ _ (by omega) (by omega)]
        · rw [wrI_1, if_neg (by omega), f3.1 _ _ (by omega) (by omega) (by omega) (by omega) (by omega), xc _ _ (by omega) (by omega)]
        · rw [wrI_1, if_neg (by omega), f4.1 _ _ (by omega) (by omega) (by omega), xr3 _ _ (by omega) (by omega)]
        · rw [wrI_1, if_neg (by omega), f4.1 _ _ (by omega) (by omega) (by omega), xr3 _ _ (by omega) (by omega)]
        · rw [td_or, td_or, decide_eq_false (by omega : ¬ 16 + q = 16 + r), decide_eq_false (by omega : ¬ 10 = 16 + r), Bool.or_false, Bool.or_false]
        · rw [wrI_1, if_neg (by omega), f3.1 _ _ (by omega) (by omega) (by omega) (by omega) (by omega)]; exact eC4
        · rw [wrI_1, if_neg (by omega), f4.1 _ _ (by omega) (by omega) (by omega)]; exact eR4
        · rw [td_or]; simp
      · refine hF.l hq3 (fun k h1 h2 => ?_) ?_
        · rw [wrI_1, if_neg (by omega), f3.1 _ _ (by omega) (by omega) (by omega) (by omega) (by omega), xc _ _ (by omega) (by omega)]
        · rw [wrI_1, if_neg (by omega), f4.1 _ _ (by omega) (by omega) (by omega)]; exact s20
theorem cT_3 {T : TKD} {p : Nat} (hp : pOk p) {h : HH} (c : cT T h) (a b v : Int32) (q : Nat) : cT T (wrI (wrI (wrI h 24 3 a) 24 3 b) (p + 14) q v) := by
  have hp' : p + 22 ≤ 60 ∧ (p + 22 ≤ 24 ∨ 30 ≤ p) ∧ 2 ≤ p := by rcases hp with rfl | rfl <;> omega
  exact c.k fun a k h1 h2 => by rw [wrI_1, if_neg (by omega), wrI_1, if_neg (by omega), wrI_1, if_neg (by omega)]
set_option maxRecDepth 100000 in
theorem ln_law {T : TKD} (w : TKok T) {p i nf np nl ng t b : Nat} (hp : pOk p) {O : List (Int32 × Int32)} {hc hr : HH} (h : LnS T p i nf np nl ng t b O hc hr) (hk : tK T i = 27) : ∃ hc' hr', g_X6_readLine hc = some ((), hc') ∧ g_X11_line hr = some ((), hr') ∧ LnD T p i hc hr hc' hr' := by
  have hp' : p + 22 ≤ 60 ∧ (p + 22 ≤ 24 ∨ 30 ≤ p) ∧ 2 ≤ p := by rcases hp with rfl | rfl <;> omega
  obtain ⟨⟨⟨c1, c2, c3⟩, r, hi⟩, e1, hP, hL, hF⟩ := h
  have hk0 : ¬ tK T i = 0 := by rw [hk]; decide
  have hkj : tK T i = nI (17 + 10) := hk
  have hi1 := tK_e w hi hk0
  have hF0 := hF
  obtain ⟨hb1, hb2, hb3, hb4, hb5⟩ := hF
  have e26 := rA_word r (j := 10) (by decide) hkj
  obtain ⟨r1, m1, m2, m3, m4, m5⟩ := rMn_go w r hi hk0 (j := 10) (by decide) hb2
  have cB : g_X6_readLine hc = bnd (g_X6_readLaw hc) fun _ h45 => tlC h45 := by
    rw [readLine_eq w c1 hi c2, if_neg (by rw [hk]; decide), if_pos (by rw [hk]; decide), hk]
    rfl
  have rB : g_X11_line hr = bnd (g_X11_lawLine r1) fun _ h73 => tlR h73 := by
    rw [line_w r (j := 10) (by decide) hkj (fun z => by omega)]
    unfold rMd
    simp only [gfI]
    rw [e26, isF_10, bnd_some, if_pos rfl, if_neg (show ¬ nI 10 = (8 : Int32) by decide), if_neg (show ¬ nI 10 = (9 : Int32) by decide), m1]
    rfl
  rw [cB, rB]
  obtain ⟨m, y1, y2, y3, y4⟩ := kd_nat m2.2.2.2.1
  have b1 : b ||| 2 ^ 10 < 2 ^ 20 := td_lt hb1 (by decide)
  by_cases hq : ∃ q, q < 3 ∧ m = 28 + q
  rotate_left
  · obtain ⟨h1, f1, f2, f3⟩ := law_bad w c1 hi1 c2 c3 y1 y2 hq p
    obtain ⟨r2, v1, v2, v3⟩ := rlaw_bad m2 (fun z => hq (y3.mpr z)) fun z => by
      rw [sv_wrd m2.2.2.2.1] at z
      obtain ⟨j, hj, _, z2⟩ := z
      exact ⟨j, by omega, z2⟩
    obtain ⟨h3, t1, t2, t3⟩ := ln_F w (p := p) (i := i) (hc := hc) (hr := hr) f2 v2 f3 (m4.tr v3.R)
    exact ⟨h3, r2, by rw [f1, bnd_some, t1], by rw [v1, bnd_some, t2], t3⟩
  · obtain ⟨s25, _⟩ := y3.mp hq
    obtain ⟨q, hq3, hm⟩ := hq
    have v26 := y4 q hq3 hm
    rw [hm] at y2
    have hL0 := hL
    obtain ⟨⟨l1, l2, l3, l4, l5⟩, ⟨l6, l7, l8⟩, l9⟩ := hL
    obtain ⟨s, e, ⟨s1, s2⟩, ⟨s3, s4⟩, ⟨s5, s6⟩, s7, s8⟩ := l9 q hq3
    have tb : (b ||| 2 ^ 10).testBit (16 + q) = b.testBit (16 + q) := by rw [td_or, decide_eq_false (by omega : ¬ 10 = 16 + q), Bool.or_false]
    rw [rlaw_word m2 s25 hq3 v26 m3 b1, tb]
    by_cases hlt : s < e
    · obtain ⟨h1, f1, f2, f3⟩ := law_had w hp c1 e1 hi1 c2 c3 hq3 y2 s1 s2 (by omega) hlt
      obtain ⟨r2, v1, v2, v3⟩ := rF.e m2 3 (by decide)
      obtain ⟨h3, t1, t2, t3⟩ := ln_F w (p := p) (i := i) (hc := hc) (hr := hr) f2 v2 f3 (m4.tr v3.R)
      exact ⟨h3, r2, by rw [f1, bnd_some, t1], by rw [if_pos (s8.mpr hlt), v1, bnd_some, if_neg v2.n, bnd_some, t2], t3⟩
    · rw [if_neg (fun z => hlt (s8.mp z)), law_go w hp c1 e1 hi1 c2 hq3 y2 s1 s2 (by omega) hlt, l6]
      have hk1 : ¬ tK T (i + 1) = 0 := by rw [y2]; exact nI_ne0 (by omega) (by omega)
      have m2' : rA T (i + 1) (wrI r1 255 20 (nI ((b ||| 2 ^ 10) ||| 2 ^ (16 + q)))) := m2.k (fun k _ _ => by rw [wrI_1, if_neg (by omega)]) fun k => by rw [wrI_1, if_neg (by omega)]
      obtain ⟨r2, v1, v2, v3⟩ := r_token w hi1 hk1 m2'
      have xr : ∀ a k, ¬ (a = 255 ∧ (k = 20 ∨ (23 ≤ k ∧ k ≤ 26))) → r2.1 a k = hr.1 a k := fun a k z => by rw [v2.1 a k (by omega), wrI_1, if_neg (by omega)]; exact m5 a k z
      have hi2 := tK_e w hi1 hk1
      have xc : ∀ a k, ¬ (a = 24 ∧ k = 3) → ¬ (a = p + 14 ∧ k = q) → (wrI (wrI (wrI hc 24 3 (nI (i + 1))) 24 3 (nI (i + 1 + 1))) (p + 14) q (nI O.length)).1 a k = hc.1 a k := fun a k z1 z2 => by rw [wrI_1, if_neg z2, wrI_1, if_neg z1, wrI_1, if_neg z1]
      have sC : sK p hc (wrI (wrI (wrI hc 24 3 (nI (i + 1))) 24 3 (nI (i + 1 + 1))) (p + 14) q (nI O.length)) := ((sK_24 p hc _ (by omega) (by omega)).tr (sK_24 p _ _ (by omega) (by omega))).tr (sK_p p _ _ _ (by omega) (by omega))
      have eC2 : (wrI (wrI (wrI hc 24 3 (nI (i + 1))) 24 3 (nI (i + 1 + 1))) (p + 14) q (nI O.length)).1 24 3 = nI (i + 1 + 1) := by rw [wrI_1, if_neg (by omega), wrI_at]
      have eC3 : (wrI (wrI (wrI hc 24 3 (nI (i + 1))) 24 3 (nI (i + 1 + 1))) (p + 14) q (nI O.length)).2.2 1 = p := e1
      have r3 : rA T (i + 1 + 1) (wrI r2 270 (3 + q) (nI O.length)) := v3.k (fun k _ _ => by rw [wrI_1, if_neg (by omega)]) fun k => by rw [wrI_1, if_neg (by omega)]
      have xr3 : ∀ a k, ¬ (a = 255 ∧ (k = 20 ∨ (23 ≤ k ∧ k ≤ 26))) → ¬ (a = 270 ∧ k = 3 + q) → (wrI r2 270 (3 + q) (nI O.length)).1 a k = hr.1 a k := fun a k z1 z2 => by rw [wrI_1, if_neg z2]; exact xr a k z1
      have s20 : (wrI r2 270 (3 + q) (nI O.length)).1 255 20 = nI ((b ||| 2 ^ 10) ||| 2 ^ (16 + q)) := by rw [wrI_1, if_neg (by omega), v2.1 _ _ (by omega), wrI_at]
      have sRr : sR hr (wrI r2 270 (3 + q) (nI O.length)) := ((m4.tr (sR_255 r1 _ (by omega) (by omega) (by omega) (by omega) (by omega))).tr v2.R).tr (sR_w _ _ _ _ (by omega))
      simp only [pfI]
      rw [v1, bnd_some, frl6, bnd_some, xr _ _ (by omega), l7, stI_of (by omega) (by decide)]
      have eC4 : (wrI (wrI (wrI hc 24 3 (nI (i + 1))) 24 3 (nI (i + 1 + 1))) (p + 14) q (nI O.length)).1 (p + 14) q = nI O.length := wrI_at _ _ _ _
      have eR4 : (wrI r2 270 (3 + q) (nI O.length)).1 270 (3 + q) = nI O.length := wrI_at _ _ _ _
      have cTC : cT T (wrI (wrI (wrI hc 24 3 (nI (i + 1))) 24 3 (nI (i + 1 + 1))) (p + 14) q (nI O.length)) := cT_3 hp c1 _ _ _ _
      have atE : At T (i + 1 + 1) (wrI (wrI (wrI hc 24 3 (nI (i + 1))) 24 3 (nI (i + 1 + 1))) (p + 14) q (nI O.length)) (wrI r2 270 (3 + q) (nI O.length)) := ⟨⟨cTC, eC2, by rw [xc _ _ (by omega) (by omega)]; exact c3⟩, r3, hi2⟩
      obtain ⟨c', r', f1, f2, e1', lno⟩ := law_2 w hp hq3 hP hL0 hF0 atE eC3 xc eC4 sC xr3 s20 eR4 sRr
      obtain ⟨hc'', hr'', t1, t2, t3⟩ := line_tl w hp lno
      refine ⟨hc'', hr'', ?_, ?_, t3⟩
      · rw [f1, bnd_some]
        simp only [gfR]
        rw [e1', ckH_of (pOk.s0 p hp), stI_of hq3 (by decide), bnd_some, t1]
      · rw [f2, bnd_some, frl6, bnd_some, stI_of (by omega) (by decide), bnd_some, t2]
