/-! lines that tell the slip, the seed -/
theorem PRL.k2 {p nf np nl ng : Nat} {hc hr hc' hr' : HH} (h : PRL p nf np nl ng hc hr) (e1 : ∀ a k, p ≤ a → a < p + 22 → ¬ (a = p ∧ k = 15) → ¬ (a = p + 16 ∧ k = 6) → hc'.1 a k = hc.1 a k) (e2 : ∀ a k, 257 ≤ a → a ≤ 269 → ¬ (a = 257 ∧ (k = 11 ∨ k = 12)) → hr'.1 a k = hr.1 a k) (hs : ∃ sl : Nat, sl ≤ 100 ∧ hc'.1 p 15 = nI sl ∧ hr'.1 257 11 = nI sl) (hd : hc'.1 (p + 16) 6 = hr'.1 257 12) : PRL p nf np nl ng hc' hr' := by
  obtain ⟨⟨⟨a1, a2, a3⟩, ⟨a4, a5, a6⟩, ⟨a7, a8, a9⟩, a10, a11, a12⟩, ⟨_, _, b5⟩, c, d, ⟨f1, f2⟩, ⟨g1, g2⟩, l, m⟩ := h
  have y1 : ∀ a k, p ≤ a → a < p + 22 → ¬ (a = p ∧ k = 15) → ¬ (a = p + 16 ∧ k = 6) → ∀ v, hc.1 a k = v → hc'.1 a k = v := fun a k h1 h2 h3 h4 v e => (e1 a k h1 h2 h3 h4).trans e
  have y2 : ∀ a k, 257 ≤ a → a ≤ 269 → ¬ (a = 257 ∧ (k = 11 ∨ k = 12)) → ∀ v, hr.1 a k = v → hr'.1 a k = v := fun a k h1 h2 h3 v e => (e2 a k h1 h2 h3).trans e
  refine ⟨⟨⟨y1 _ _ (by omega) (by omega) (by omega) (by omega) _ a1, y2 _ _ (by omega) (by omega) (by omega) _ a2, a3⟩, ⟨y1 _ _ (by omega) (by omega) (by omega) (by omega) _ a4, y2 _ _ (by omega) (by omega) (by omega) _ a5, a6⟩, ⟨y1 _ _ (by omega) (by omega) (by omega) (by omega) _ a7, y2 _ _ (by omega) (by omega) (by omega) _ a8, a9⟩, y1 _ _ (by omega) (by omega) (by omega) (by omega) _ a10, y2 _ _ (by omega) (by omega) (by omega) _ a11, a12⟩, ⟨hs, hd, y1 _ _ (by omega) (by omega) (by omega) (by omega) _ b5⟩, fun f hf => ?_, fun a ha => ?_, ⟨fun a ha => ?_, fun a h1 h2 => y1 _ _ (by omega) (by omega) (by omega) (by omega) _ (f2 a h1 h2)⟩, ⟨fun k hk => ?_, fun k h1 h2 => y1 _ _ (by omega) (by omega) (by omega) (by omega) _ (g2 k h1 h2)⟩, fun x hx => ?_, fun g hg => ?_⟩
  · obtain ⟨u, u1, u2, u3⟩ := c f hf
    exact ⟨u, u1, y1 _ _ (by omega) (by omega) (by omega) (by omega) _ u2, y2 _ _ (by omega) (by omega) (by omega) _ u3⟩
  · obtain ⟨d1, ⟨u, u1, u2, u3⟩, v, v1, v2, v3⟩ := d a ha
    exact ⟨by rw [e1 _ _ (by omega) (by omega) (by omega) (by omega), e2 _ _ (by omega) (by omega) (by omega)]; exact d1, ⟨u, u1, y1 _ _ (by omega) (by omega) (by omega) (by omega) _ u2, y2 _ _ (by omega) (by omega) (by omega) _ u3⟩, v, v1, y1 _ _ (by omega) (by omega) (by omega) (by omega) _ v2, y2 _ _ (by omega) (by omega) (by omega) _ v3⟩
  · rw [e1 (p + 18) _ (by omega) (by omega) (by omega) (by omega), e1 (p + 19) _ (by omega) (by omega) (by omega) (by omega), e1 (p + 20) _ (by omega) (by omega) (by omega) (by omega)]; exact f1 a ha
  · rw [e1 _ _ (by omega) (by omega) (by omega) (by omega), e2 _ _ (by omega) (by omega) (by omega)]; exact g1 k hk
  · obtain ⟨i, j, u, l1, ⟨l2, l3⟩, ⟨l4, l5⟩, l6, l7⟩ := l x hx
    exact ⟨i, j, u, l1, ⟨y1 _ _ (by omega) (by omega) (by omega) (by omega) _ l2, y2 _ _ (by omega) (by omega) (by omega) _ l3⟩, ⟨y1 _ _ (by omega) (by omega) (by omega) (by omega) _ l4, y2 _ _ (by omega) (by omega) (by omega) _ l5⟩, y1 _ _ (by omega) (by omega) (by omega) (by omega) _ l6, y2 _ _ (by omega) (by omega) (by omega) _ l7⟩
  · obtain ⟨how, a, u, x, m1, ⟨m2, m3⟩, ⟨m4, m5⟩, ⟨m6, m7⟩, m8, m9⟩ := m g hg
    exact ⟨how, a, u, x, m1, ⟨y1 _ _ (by omega) (by omega) (by omega) (by omega) _ m2, y2 _ _ (by omega) (by omega) (by omega) _ m3⟩, ⟨y1 _ _ (by omega) (by omega) (by omega) (by omega) _ m4, y2 _ _ (by omega) (by omega) (by omega) _ m5⟩, ⟨y1 _ _ (by omega) (by omega) (by omega) (by omega) _ m6, y2 _ _ (by omega) (by omega) (by omega) _ m7⟩, y1 _ _ (by omega) (by omega) (by omega) (by omega) _ m8, y2 _ _ (by omega) (by omega) (by omega) _ m9⟩
def onB (fld kc off : Nat) (hi : Int32) (h4 : HH) : Option (Unit × HH) :=
    pfI h4 24 fld (1 : Int32) fun h5 =>
    bnd (g_X6_advance h5) fun _ h6 => 
    gfR h6 1 fun p8 => ckH p8 (.inl 5) (
    bnd (g_X6_number (0 : Int32) hi h6) fun r10 h9 => 
    pfI h9 (p8 + off) kc r10 fun h11 =>
    some ((), h11))
theorem slip_eq (h : HH) : g_X6_readSlip h = if h.1 24 7 = 0 then onB 7 15 0 100 h else bnd (g_X6_fail 3 h) fun _ h12 => onB 7 15 0 100 h12 := rfl
theorem seed_eq (h : HH) : g_X6_readSeed h = if h.1 24 8 = 0 then onB 8 6 16 99999 h else bnd (g_X6_fail 3 h) fun _ h12 => onB 8 6 16 99999 h12 := rfl
def onJ (j fld kc off m : Nat) : Prop := (j = 8 ∧ fld = 7 ∧ kc = 15 ∧ off = 0 ∧ m = 100) ∨ (j = 9 ∧ fld = 8 ∧ kc = 6 ∧ off = 16 ∧ m = 99999)
theorem rMd_on {h : HH} {b j fld kc off m : Nat} (hj : onJ j fld kc off m) (e26 : h.1 255 26 = nI j) (hb : h.1 255 20 = nI b) (hb1 : b < 2 ^ 20) : rMd h = if b.testBit j = true then bnd (g_X11_wrong 3 h) fun _ h79 => rMn (nI j) h79 else rMn (nI j) h := by
  have full : g_X11_isFull (nI j) h = some (0, h) := by
    unfold g_X11_isFull
    rcases hj with ⟨rfl, _⟩ | ⟨rfl, _⟩ <;> rfl
  unfold rMd
  simp only [gfI]
  rw [e26, full, bnd_some, if_pos rfl, hb]
  have tb := td_bit hb1 (w := j) (by rcases hj with ⟨rfl, _⟩ | ⟨rfl, _⟩ <;> decide)
  have sel : (if ((nI b >>> (nI j &&& 31)) &&& (1 : Int32)) = 1 then (bnd (g_X11_wrong 3 h) fun _ h79 => rMn (nI j) h79) else rMn (nI j) h) = if b.testBit j = true then bnd (g_X11_wrong 3 h) fun _ h79 => rMn (nI j) h79 else rMn (nI j) h := by
    by_cases z : b.testBit j = true
    · rw [if_pos z, if_pos (by rw [tb]; exact z)]
    · rw [if_neg z, if_neg (by rw [tb]; exact z)]
  rw [sel]
  rcases hj with ⟨rfl, _⟩ | ⟨rfl, _⟩
  · rw [if_pos (show nI 8 = 8 from rfl)]
  · rw [if_neg (show ¬ nI 9 = 8 by decide), if_pos (show nI 9 = 9 from rfl)]
theorem rA_word {T : TKD} {i : Nat} {h : HH} (r : rA T i h) {j : Nat} (hj : j ≤ 10) (hk : tK T i = nI (17 + j)) : h.1 255 26 = nI j := by
  have e := sv_w r.2.2.2.1 (j := j) (by omega)
  have hs : sW j = j := by unfold sW; rw [if_neg (by omega), if_neg (by omega)]
  rw [hs] at e
  rw [← e] at hk
  exact hk.2
theorem onB_F {T : TKD} (w : TKok T) {p j fld kc off m : Nat} (hp : pOk p) (hj : onJ j fld kc off m) {h : HH} {f : Int32} {q : Nat} (c : cF T f q h) (e1 : h.2.2 1 = p) (hi : Int32) : ∃ h', onB fld kc off hi h = some ((), h') ∧ cF T f q h' ∧ sK p h h' := by
  have hp' : p + 22 ≤ 60 ∧ (p + 22 ≤ 24 ∨ 30 ≤ p) ∧ 2 ≤ p := by rcases hp with rfl | rfl <;> omega
  have hj' : 6 ≤ fld ∧ fld ≤ 8 ∧ off ≤ 16 := by rcases hj with ⟨_, rfl, _, rfl, _⟩ | ⟨_, rfl, _, rfl, _⟩ <;> omega
  have c0 : cF T f q (wrI h 24 fld 1) := c.k fun a k z => by rw [wrI_1, if_neg (by omega)]
  obtain ⟨h1, f1, f2, f3⟩ := x6_advF w c0 p
  obtain ⟨h2, g1, g2, g3⟩ := x6_number_F w f2 p 0 hi
  refine ⟨wrI h2 (p + off) kc 0, ?_, g2.k fun a k z => by rw [wrI_1, if_neg (by omega)], (((sK_24 p h _ (by omega) (by omega)).tr f3).tr g3).tr (sK_p p _ _ _ (by omega) (by omega))⟩
  unfold onB
  simp only [gfR, pfI]
  rw [f1, bnd_some, show h1.2.2 1 = p by rw [f3.2]; exact e1, ckH_of (pOk.s0 p hp), g1, bnd_some]
theorem ln_on {T : TKD} (w : TKok T) {p i nf np nl ng t b j fld kc off m : Nat} (hp : pOk p) (hj : onJ j fld kc off m) {O : List (Int32 × Int32)} {hc hr : HH} (h : LnS T p i nf np nl ng t b O hc hr) (hk : tK T i = nI (17 + j))
    (hC : g_X6_readLine hc = bnd (if hc.1 24 fld = 0 then onB fld kc off (nI m) hc else bnd (g_X6_fail 3 hc) fun _ h12 => onB fld kc off (nI m) h12) fun _ h20 => tlC h20)
    (hR : ∀ g, rBd (nI j) g = bnd (g_X11_numeral 0 (nI m) g) fun r65 h64 => bnd (g_X11_reads (nI (j - 4)) r65 h64) fun _ h66 => tlR h66) :
    ∃ hc' hr', g_X6_readLine hc = some ((), hc') ∧ g_X11_line hr = some ((), hr') ∧ LnD T p i hc hr hc' hr' := by
  have hp' : p + 22 ≤ 60 ∧ (p + 22 ≤ 24 ∨ 30 ≤ p) ∧ 2 ≤ p := by rcases hp with rfl | rfl <;> omega
  have hj' : 7 ≤ fld ∧ fld ≤ 8 ∧ off ≤ 16 ∧ 8 ≤ j ∧ j ≤ 9 ∧ m ≤ 99999 ∧ fld + 1 = j := by rcases hj with ⟨rfl, rfl, _, rfl, rfl⟩ | ⟨rfl, rfl, _, rfl, rfl⟩ <;> omega
  obtain ⟨⟨⟨c1, c2, c3⟩, r, hi⟩, e1, hP, hL, hF⟩ := h
  have hF0 := hF
  obtain ⟨hb1, hb2, hb3, hb4, hb5⟩ := hF
  have hk0 : ¬ tK T i = 0 := by rw [hk]; exact nI_ne0 (by omega) (by omega)
  have fl : hc.1 24 fld = 0 ↔ b.testBit j = false := by
    rcases hj with ⟨rfl, rfl, _⟩ | ⟨rfl, rfl, _⟩
    · exact hb4
    · exact hb5
  have e26 := rA_word r (j := j) (by omega) hk
  rw [hC, line_w r (j := j) (by omega) hk (fun z => by omega), rMd_on hj e26 hb2 hb1]
  by_cases z : b.testBit j = true
  · rw [if_pos z, if_neg (fun y => by rw [fl.mp y] at z; cases z)]
    obtain ⟨r1, v1, v2, v3⟩ := rF.e r 3 (by decide)
    obtain ⟨h1, f1, f2, f3⟩ := x6_failT w c1 hi c2 3 c3 (by decide) p
    obtain ⟨h2, g1, g2, g3⟩ := onB_F w hp hj f2 (by rw [f3.2]; exact e1) (nI m)
    obtain ⟨h3, t1, t2, t3⟩ := ln_F w (p := p) (i := i) (hc := hc) (hr := hr) g2 v2 (f3.tr g3) v3.R
    exact ⟨h3, r1, by rw [f1, bnd_some, g1, bnd_some, t1], by rw [v1, bnd_some, rMn_F v2], t3⟩
  · have z' : b.testBit j = false := by simpa using z
    rw [if_neg z, if_pos (fl.mpr z')]
    obtain ⟨r1, m1, m2, m3, m4, m5⟩ := rMn_go w r hi hk0 (j := j) (by omega) hb2
    have at1 : At T (i + 1) (wrI (wrI hc 24 fld 1) 24 3 (nI (i + 1))) r1 := ⟨⟨c1.k fun a k h1 h2 => by rw [wrI_1, if_neg (by omega), wrI_1, if_neg (by omega)], wrI_at _ _ _ _, by rw [wrI_1, if_neg (by omega), wrI_1, if_neg (by omega)]; exact c3⟩, m2, tK_e w hi hk0⟩
    have eC : ∀ R, onB fld kc off (nI m) hc = R ↔ (bnd (g_X6_number 0 (nI m) (wrI (wrI hc 24 fld 1) 24 3 (nI (i + 1)))) fun r10 h9 => some ((), wrI h9 (p + off) kc r10)) = R := fun R => by
      unfold onB
      simp only [gfR, pfI]
      rw [x6_adv w (i := i) (c1.k fun a k h1 h2 => by rw [wrI_1, if_neg (by omega)]) hi (by rw [wrI_1, if_neg (by omega)]; exact c2), bnd_some, show (wrI (wrI hc 24 fld 1) 24 3 (nI (i + 1))).2.2 1 = p from e1, ckH_of (pOk.s0 p hp)]
    rw [m1, hR]
    rcases P_num w at1 (lo := 0) (hi := nI m) (by decide) (nI_le (b := 99999) hj'.2.2.2.2.2.1 (by decide)) p with ⟨v, r2, v1, v2, v3, v4, v5, v6, v7⟩ | ⟨f, c2', r2, f1, f2, f3, f4, f5, f6⟩
    · have hv : v ≤ m := nI_nl (by omega) (by omega) v3
      obtain ⟨⟨d1, d2, d3⟩, d4, d5⟩ := v7
      have lno : LnO T p i hc hr (wrI (wrI (wrI (wrI hc 24 fld 1) 24 3 (nI (i + 1))) 24 3 (nI (i + 1 + 1))) (p + off) kc (nI v)) (wrI r2 257 (7 + (j - 4)) (nI v)) := by
        refine ⟨(((sK_24 p hc _ (by omega) (by omega)).tr (sK_24 p _ _ (by omega) (by omega))).tr (sK_24 p _ _ (by omega) (by omega))).tr (sK_p p _ _ _ (by omega) (by omega)), (m4.tr v6.R).tr ⟨fun a k q1 q2 q3 q4 q5 q6 q7 q8 => by rw [wrI_1, if_neg (by omega)], rfl⟩, by rw [wrI_1, if_neg (by omega), v6.1 _ _ (by omega), m5 _ _ (by omega)], Or.inr (Or.inr ⟨i + 1 + 1, nf, np, nl, ng, t, b ||| 2 ^ j, O, by omega, ⟨⟨d1.k fun a k h1 h2 => by rw [wrI_1, if_neg (by omega)], by rw [wrI_1, if_neg (by omega)]; exact d2, by rw [wrI_1, if_neg (by omega)]; exact d3⟩, d4.k (fun k _ _ => by rw [wrI_1, if_neg (by omega)]) (fun k => by rw [wrI_1, if_neg (by omega)]), d5⟩, e1, ?_, ?_, ?_⟩)⟩
        · obtain ⟨_, ⟨⟨sl, g1, g2, g3⟩, g4, _⟩, _⟩ := id hP
          refine hP.k2 (fun a k h1 h2 h3 h4 => ?_) (fun a k h1 h2 h3 => ?_) ?_ ?_
          · rw [wrI_1, if_neg (by rcases hj with ⟨rfl, rfl, rfl, rfl, rfl⟩ | ⟨rfl, rfl, rfl, rfl, rfl⟩ <;> omega), wrI_1, if_neg (by omega), wrI_1, if_neg (by omega), wrI_1, if_neg (by omega)]
          · rw [wrI_1, if_neg (by omega)]; exact (v6.1 a k (by omega)).trans (m5 a k (by omega))
          · rcases hj with ⟨rfl, rfl, rfl, rfl, rfl⟩ | ⟨rfl, rfl, rfl, rfl, rfl⟩
            · exact ⟨v, hv, wrI_at _ _ _ _, wrI_at _ _ _ _⟩
            · exact ⟨sl, g1, by rw [wrI_1, if_neg (by omega), wrI_1, if_neg (by omega), wrI_1, if_neg (by omega), wrI_1, if_neg (by omega)]; exact g2, by rw [wrI_1, if_neg (by omega)]; exact ((v6.1 _ _ (by omega)).trans (m5 _ _ (by omega))).trans g3⟩
          · rcases hj with ⟨rfl, rfl, rfl, rfl, rfl⟩ | ⟨rfl, rfl, rfl, rfl, rfl⟩
            · rw [wrI_1, if_neg (by omega), wrI_1, if_neg (by omega), wrI_1, if_neg (by omega), wrI_1, if_neg (by omega), wrI_1, if_neg (by omega)]; exact g4.trans ((v6.1 _ _ (by omega)).trans (m5 _ _ (by omega))).symm
            · rw [wrI_at]; exact (wrI_at _ _ _ _).symm
        · exact hL.k (fun a k y => by rw [wrI_1, if_neg (by rcases hj with ⟨rfl, rfl, rfl, rfl, rfl⟩ | ⟨rfl, rfl, rfl, rfl, rfl⟩ <;> omega), wrI_1, if_neg (by omega), wrI_1, if_neg (by omega), wrI_1, if_neg (by omega)]) (fun a k y => by rw [wrI_1, if_neg (by omega)]; exact (v6.1 a k (by omega)).trans (m5 a k (by omega))) fun r hr3 => by rw [td_or, decide_eq_false (by omega : ¬ j = 16 + r), Bool.or_false]
        · have tb : ∀ u, u ≠ j → (b ||| 2 ^ j).testBit u = b.testBit u := fun u hu => by rw [td_or, decide_eq_false (by omega : ¬ j = u), Bool.or_false]
          have tj : (b ||| 2 ^ j).testBit j = true := by rw [td_or]; simp
          have rd : ∀ k, k ≤ 8 → 6 ≤ k → (wrI (wrI (wrI (wrI hc 24 fld 1) 24 3 (nI (i + 1))) 24 3 (nI (i + 1 + 1))) (p + off) kc (nI v)).1 24 k = if k = fld then 1 else hc.1 24 k := fun k h1 h2 => by
            rw [wrI_1, if_neg (by omega), wrI_1, if_neg (by omega), wrI_1, if_neg (by omega), wrI_1]
            by_cases y : k = fld
            · rw [if_pos ⟨rfl, y⟩, if_pos y]
            · rw [if_neg (fun x => y x.2), if_neg y]
          refine ⟨td_lt hb1 (by omega), by rw [wrI_1, if_neg (by omega)]; exact (v6.1 _ _ (by omega)).trans m3, ?_, ?_, ?_⟩
          · rw [rd 6 (by omega) (by omega), if_neg (by omega), hb3]
            exact ⟨fun z u h1 h2 => by rw [tb u (by omega)]; exact z u h1 h2, fun z u h1 h2 => by rw [← tb u (by omega)]; exact z u h1 h2⟩
          · rw [rd 7 (by omega) (by omega)]
            by_cases y : 7 = fld
            · rw [if_pos y, show 8 = j by omega, tj]; simp
            · rw [if_neg y, tb 8 (by omega)]; exact hb4
          · rw [rd 8 (by omega) (by omega)]
            by_cases y : 8 = fld
            · rw [if_pos y, show 9 = j by omega, tj]; simp
            · rw [if_neg y, tb 9 (by omega)]; exact hb5
      obtain ⟨hc'', hr'', t1, t2, t3⟩ := line_tl w hp lno
      refine ⟨hc'', hr'', ?_, ?_, t3⟩
      · rw [(eC (some ((), wrI (wrI (wrI (wrI hc 24 fld 1) 24 3 (nI (i + 1))) 24 3 (nI (i + 1 + 1))) (p + off) kc (nI v)))).mpr (by rw [v4, bnd_some]), bnd_some]
        exact t1
      · rw [v5, bnd_some, rd_of (by omega), bnd_some]
        exact t2
    · obtain ⟨h3, t1, t2, t3⟩ := ln_F w (p := p) (i := i) (hc := hc) (hr := hr) (hc' := wrI c2' (p + off) kc 0) (f2.k fun a k y => by rw [wrI_1, if_neg (by omega)]) (hr' := wrI r2 257 (7 + (j - 4)) 0) ⟨f5.1, by rw [wrI_1, if_neg (by omega)]; exact f5.2.1, by rw [wrI_1, if_neg (by omega)]; exact f5.2.2⟩ ((((sK_24 p hc _ (by omega) (by omega)).tr (sK_24 p _ _ (by omega) (by omega))).tr f3).tr (sK_p p _ _ _ (by omega) (by omega))) ((m4.tr f6.R).tr ⟨fun a k q1 q2 q3 q4 q5 q6 q7 q8 => by rw [wrI_1, if_neg (by omega)], rfl⟩)
      refine ⟨h3, _, ?_, ?_, t3⟩
      · rw [(eC (some ((), wrI c2' (p + off) kc 0))).mpr (by rw [f1, bnd_some]), bnd_some, t1]
      · rw [f4, bnd_some, rd_of (by omega), bnd_some]
        exact t2
theorem ln_slip {T : TKD} (w : TKok T) {p i nf np nl ng t b : Nat} (hp : pOk p) {O : List (Int32 × Int32)} {hc hr : HH} (h : LnS T p i nf np nl ng t b O hc hr) (hk : tK T i = 25) : ∃ hc' hr', g_X6_readLine hc = some ((), hc') ∧ g_X11_line hr = some ((), hr') ∧ LnD T p i hc hr hc' hr' := by
  refine ln_on w hp (j := 8) (fld := 7) (kc := 15) (off := 0) (m := 100) (Or.inl ⟨rfl, rfl, rfl, rfl, rfl⟩) h hk ?_ (fun g => rfl)
  rw [readLine_eq w h.1.1.1 h.1.2.2 h.1.1.2.1, if_neg (by rw [hk]; decide), if_pos (by rw [hk]; decide), hk]
  show (bnd (g_X6_readSlip hc) fun _ h39 => tlC h39) = _
  rw [slip_eq]
  rfl
theorem ln_seed {T : TKD} (w : TKok T) {p i nf np nl ng t b : Nat} (hp : pOk p) {O : List (Int32 × Int32)} {hc hr : HH} (h : LnS T p i nf np nl ng t b O hc hr) (hk : tK T i = 26) : ∃ hc' hr', g_X6_readLine hc = some ((), hc') ∧ g_X11_line hr = some ((), hr') ∧ LnD T p i hc hr hc' hr' := by
  refine ln_on w hp (j := 9) (fld := 8) (kc := 6) (off := 16) (m := 99999) (Or.inr ⟨rfl, rfl, rfl, rfl, rfl⟩) h hk ?_ (fun g => rfl)
  rw [readLine_eq w h.1.1.1 h.1.2.2 h.1.1.2.1, if_neg (by rw [hk]; decide), if_pos (by rw [hk]; decide), hk]
  show (bnd (g_X6_readSeed hc) fun _ h42 => tlC h42) = _
  rw [seed_eq]
  rfl
