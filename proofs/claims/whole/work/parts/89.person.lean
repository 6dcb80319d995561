/-! a line of no known word; a person told ahead -/
theorem fdA_or (f : Nat → Int32) (x : Int32) : ∀ (m i : Nat), fdA f x m i = -1 ∨ ∃ a, i ≤ a ∧ a < i + m ∧ fdA f x m i = nI a ∧ f a = x
  | 0, _ => Or.inl rfl
  | m + 1, i => by
    unfold fdA
    by_cases q : f i = x
    · rw [if_pos q]; exact Or.inr ⟨i, by omega, by omega, rfl, q⟩
    · rw [if_neg q]
      rcases fdA_or f x m (i + 1) with h | ⟨a, h1, h2, h3, h4⟩
      · exact Or.inl h
      · exact Or.inr ⟨a, by omega, by omega, h3, h4⟩
theorem sW_11 : ∀ j, j < 24 → 11 ≤ j → 11 ≤ sW j := by decide +kernel
theorem ln_bad {T : TKD} (w : TKok T) {p i nf np nl ng t b : Nat} {O : List (Int32 × Int32)} {hc hr : HH} (h : LnS T p i nf np nl ng t b O hc hr) (hk : tK T i < 17 ∨ 27 < tK T i) : ∃ hc' hr', g_X6_readLine hc = some ((), hc') ∧ g_X11_line hr = some ((), hr') ∧ LnD T p i hc hr hc' hr' := by
  obtain ⟨⟨⟨c1, c2, c3⟩, r, hi⟩, e1, hP, hL, hF⟩ := h
  obtain ⟨h1, f1, f2, f3⟩ := x6_failT w c1 hi c2 1 c3 (by decide) p
  obtain ⟨r1, v1, v2, v3⟩ := rF.e r 1 (by decide)
  obtain ⟨h3, t1, t2, t3⟩ := ln_F w (p := p) (i := i) (hc := hc) (hr := hr) f2 v2 f3 v3.R
  refine ⟨h3, r1, ?_, ?_, t3⟩
  · have ne : ∀ k : Int32, ¬ k < 17 → ¬ 27 < k → ¬ tK T i = k := fun k k1 k2 e => by rw [e] at hk; exact hk.elim k1 k2
    have cb : cBd (tK T i) hc = bnd (g_X6_fail 1 hc) fun _ h47 => tlC h47 := by
      unfold cBd
      rw [if_neg (ne 17 (by decide) (by decide)), if_neg (ne 18 (by decide) (by decide)), if_neg (fun z => z.elim (ne 19 (by decide) (by decide)) (ne 20 (by decide) (by decide))), if_neg (ne 21 (by decide) (by decide)), if_neg (fun z => z.elim (ne 22 (by decide) (by decide)) (fun z => z.elim (ne 23 (by decide) (by decide)) (ne 24 (by decide) (by decide)))), if_neg (ne 25 (by decide) (by decide)), if_neg (ne 26 (by decide) (by decide)), if_neg (ne 27 (by decide) (by decide))]
    rw [readLine_eq w c1 hi c2]
    have sel : (if tK T i < 18 then cBd (tK T i) hc else if 24 < tK T i then cBd (tK T i) hc else cBd (tK T i) (wrI hc 24 6 1)) = cBd (tK T i) hc := by
      rcases hk with z | z
      · rw [if_pos (Int32.lt_trans z (by decide))]
      · split
        · rfl
        · rw [if_pos (Int32.lt_trans (show (24 : Int32) < 27 by decide) z)]
    rw [sel, cb, f1, bnd_some, t1]
  · have hsv := r.2.2.2.1
    unfold g_X11_line
    simp only [gfI, jn]
    by_cases wd : hr.1 255 25 = 0
    · have wd' := wd
      rw [sv_wrd hsv] at wd'
      obtain ⟨j, hj, y1, y2⟩ := wd'
      have j11 : 11 ≤ j := by
        apply Classical.byContradiction
        intro z
        have hs : sW j = j := by unfold sW; rw [if_neg (by omega), if_neg (by omega)]
        rw [y1, hs] at hk
        exact hk.elim (nI_nlt (b := 17) (by omega) (by omega)) (nI_nlt (a := 27) (by omega) (by decide))
      rw [if_pos wd, y2, if_pos (show 10 < nI j from nI_lt (a := 10) (by omega) (by omega)), v1, bnd_some]
    · rw [if_neg wd, v1, bnd_some]
theorem x6_known_F {T : TKD} {h : HH} {f : Int32} {q : Nat} (c : cF T f q h) : g_X6_knownPerson h = some (-1, h) := by
  unfold g_X6_knownPerson
  simp only [gfI]
  rw [if_neg c.n]
theorem r_ahead_F {f : Int32} {q : Nat} {h : HH} (c : rF f q h) : g_X11_personAhead h = some (0, h) := by
  unfold g_X11_personAhead
  simp only [gfI]
  rw [if_neg c.n]
/-- a person told ahead, by both -/
theorem P_per {T : TKD} (w : TKok T) {p i np : Nat} (hp : pOk p) {hc hr : HH} (at0 : At T i hc hr) (e1 : hc.2.2 1 = p) (e2 : hc.1 p 2 = nI np) (e8 : hr.1 257 8 = nI np) (hn : np ≤ 6) (en : ∀ a, a < np → hr.1 259 (6 + a) = hc.1 (p + 2) a) :
    (∃ a hr', a < np ∧ g_X6_knownPerson hc = some (nI a, wrI hc 24 3 (nI (i + 1))) ∧ g_X11_personAhead hr = some (nI a, hr') ∧ tkS hr hr' ∧ At T (i + 1) (wrI hc 24 3 (nI (i + 1))) hr') ∨
    (∃ r f hc' hr', g_X6_knownPerson hc = some (r, hc') ∧ cF T f (tPl T i) hc' ∧ sK p hc hc' ∧ g_X11_personAhead hr = some (0, hr') ∧ rF f (tPl T i) hr' ∧ eR hr hr') := by
  obtain ⟨⟨c1, c2, c3⟩, r, hi⟩ := at0
  have hsv := r.2.2.2.1
  have enm := sv_nam hsv
  have st := pOk.s0 p hp
  have fl : ∀ f : Int32, ¬ f = 0 → ∃ hc' h2 hr', g_X6_fail f hc = some ((), hc') ∧ g_X6_advance hc' = some ((), h2) ∧ cF T f (tPl T i) h2 ∧ sK p hc h2 ∧ g_X11_wrong f hr = some ((), hr') ∧ rF f (tPl T i) hr' ∧ eR hr hr' := by
    intro f hf
    obtain ⟨h1, f1, f2, f3⟩ := x6_failT w c1 hi c2 f c3 hf p
    obtain ⟨h2, g1, g2, g3⟩ := x6_advF w f2 p
    obtain ⟨r1, v1, v2, v3⟩ := rF.e r f hf
    exact ⟨h1, h2, r1, f1, g1, g2, f3.tr g3, v1, v2, v3⟩
  by_cases k3 : tK T i = 3
  · have s1 : hr.1 255 25 = 1 := by rw [enm]; exact k3
    have hk0 : ¬ tK T i = 0 := by rw [k3]; decide
    have ev : hr.1 255 26 = tV T i := by
      rcases hsv with ⟨z, _⟩ | ⟨z, _⟩ | ⟨z, _⟩ | ⟨_, _, z⟩ | ⟨j, hj, z, _⟩ | ⟨q, hq, z, _⟩
      · exact absurd (z.symm.trans k3) (by decide)
      · exact absurd (z.symm.trans k3) (by decide)
      · exact absurd (z.symm.trans k3) (by decide)
      · exact z
      · have := (nI_eq (b := 3) (by have := w_lt hj; omega) (by decide)).mp (z.symm.trans k3)
        omega
      · exact absurd (z.symm.trans k3) (sg_2 q hq).2.2.2.1
    have fe : fdA (fun k => hr.1 259 (6 + k)) (tV T i) np 0 = fdA (hc.1 (p + 2)) (tV T i) np 0 := fdA_eq _ _ _ fun k _ hk => en k (by omega)
    have cf := x_personOf st e2 hn (tV T i)
    have rf : g_X11_found 6 (nI np) (tV T i) hr = some (fdA (hc.1 (p + 2)) (tV T i) np 0, hr) := by rw [← fe]; exact r_found (b := 6) hn (by decide) (tV T i)
    have fr : g_X11_fresher 1 hr = some (nI np, hr) := by rw [frl1, e8]
    rcases fdA_or (hc.1 (p + 2)) (tV T i) np 0 with hm | ⟨a, a1, a2, a3, a4⟩
    · obtain ⟨h1, h2, r1, g1, g2, g3, g4, g5, g6, g7⟩ := fl 4 (by decide)
      refine Or.inr ⟨-1, 4, h2, r1, ?_, g3, g4, ?_, g6, g7⟩
      · unfold g_X6_knownPerson
        simp only [gfI, gfR, jn]
        rw [c3, if_pos rfl, e1, ckH_of st, x6_value w c1 hi c2, bnd_some, cf, bnd_some, x6_kind w c1 hi c2, bnd_some, if_pos k3, hm, if_pos rfl, g1, bnd_some, g2, bnd_some]
      · unfold g_X11_personAhead
        simp only [gfI, jn]
        rw [r.2.2.2.2, if_pos rfl, if_pos s1, if_pos rfl, fr, bnd_some, ev, rf, bnd_some, if_pos r.2.2.2.2, hm, if_pos rfl, g5, bnd_some, r_goOn_F g6, bnd_some, if_neg g6.n]
    · obtain ⟨r2, v1, v2, v3⟩ := r_goOn w hi hk0 r
      have na : ¬ nI a = -1 := fun z => absurd (nI_pos (n := a) (by omega)) (by rw [z]; decide)
      refine Or.inl ⟨a, r2, by omega, ?_, ?_, v2, ⟨c1.k fun a k h1 h2 => by rw [wrI_1, if_neg (by omega)], wrI_at _ _ _ _, by rw [wrI_1, if_neg (by omega)]; exact c3⟩, v3, tK_e w hi hk0⟩
      · unfold g_X6_knownPerson
        simp only [gfI, gfR, jn]
        rw [c3, if_pos rfl, e1, ckH_of st, x6_value w c1 hi c2, bnd_some, cf, bnd_some, x6_kind w c1 hi c2, bnd_some, if_pos k3, a3, if_neg na, x6_adv w c1 hi c2, bnd_some]
      · unfold g_X11_personAhead
        simp only [gfI, jn]
        rw [r.2.2.2.2, if_pos rfl, if_pos s1, if_pos rfl, fr, bnd_some, ev, rf, bnd_some, if_pos r.2.2.2.2, a3, if_neg na, v1, bnd_some, if_pos v3.2.2.2.2]
  · have s1 : ¬ hr.1 255 25 = 1 := by rw [enm]; exact k3
    obtain ⟨h1, h2, r1, g1, g2, g3, g4, g5, g6, g7⟩ := fl 1 (by decide)
    refine Or.inr ⟨fdA (hc.1 (p + 2)) (tV T i) np 0, 1, h2, r1, ?_, g3, g4, ?_, g6, g7⟩
    · unfold g_X6_knownPerson
      simp only [gfI, gfR, jn]
      rw [c3, if_pos rfl, e1, ckH_of st, x6_value w c1 hi c2, bnd_some, x_personOf st e2 hn (tV T i), bnd_some, x6_kind w c1 hi c2, bnd_some, if_neg k3, g1, bnd_some, g2, bnd_some]
    · unfold g_X11_personAhead
      simp only [gfI, jn]
      rw [r.2.2.2.2, if_pos rfl, if_neg s1, g5, bnd_some, if_neg g6.n, if_neg g6.n, r_goOn_F g6, bnd_some, if_neg g6.n]
