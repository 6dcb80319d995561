/-! a line that tells a person, from its word on -/
theorem P_new {T : TKD} (w : TKok T) {p i np : Nat} (hp : pOk p) {hc hr : HH} (at0 : At T i hc hr) (e1 : hc.2.2 1 = p) (e2 : hc.1 p 2 = nI np) (hn : np ≤ 6) (en : ∀ a, a < np → hr.1 259 (6 + a) = hc.1 (p + 2) a) :
    (∃ v hr', (∀ K, pnC K hc = K v (wrI hc 24 3 (nI (i + 1)))) ∧ g_X11_fresh 6 (nI np) hr = some (v, hr') ∧ tkS hr hr' ∧ At T (i + 1) (wrI hc 24 3 (nI (i + 1))) hr') ∨
    (∃ v f hc' hr', (∀ K, pnC K hc = K v hc') ∧ cF T f (tPl T i) hc' ∧ sK p hc hc' ∧ g_X11_fresh 6 (nI np) hr = some (0, hr') ∧ rF f (tPl T i) hr' ∧ eR hr hr') := by
  obtain ⟨⟨c1, c2, c3⟩, r, hi⟩ := at0
  have hsv := r.2.2.2.1
  have enm := sv_nam hsv
  have st := pOk.s0 p hp
  have fl : ∀ f : Int32, ¬ f = 0 → ∃ hc' h2 hr', g_X6_fail f hc = some ((), hc') ∧ g_X6_advance hc' = some ((), h2) ∧ cF T f (tPl T i) h2 ∧ sK p hc h2 ∧ g_X11_wrong f hr = some ((), hr') ∧ rF f (tPl T i) hr' ∧ eR hr hr' := by
    intro f hf
    obtain ⟨h1, f1, f2, f3⟩ := x6_failT w c1 hi c2 f c3 hf p
    obtain ⟨h2, g1, g2, g3⟩ := x6_advF w f2 p
    obtain ⟨r1, v1, v2, v3⟩ := rF.e r f hf
    exact ⟨h1, h2, r1, f1, g1, g2, f3.tr g3, v1, v2, v3⟩
  by_cases k3 : tK T i = 3
  · have s1 : hr.1 255 25 = 1 := by rw [enm]; exact k3
    have hk0 : ¬ tK T i = 0 := by rw [k3]; decide
    have ev : hr.1 255 26 = tV T i := by
      rcases hsv with ⟨z, _⟩ | ⟨z, _⟩ | ⟨z, _⟩ | ⟨_, _, z⟩ | ⟨j, hj, z, _⟩ | ⟨q, hq, z, _⟩
      · exact absurd (z.symm.trans k3) (by decide)
      · exact absurd (z.symm.trans k3) (by decide)
      · exact absurd (z.symm.trans k3) (by decide)
      · exact z
      · have := (nI_eq (b := 3) (by have := w_lt hj; omega) (by decide)).mp (z.symm.trans k3)
        omega
      · exact absurd (z.symm.trans k3) (sg_2 q hq).2.2.2.1
    have fe : fdA (fun k => hr.1 259 (6 + k)) (tV T i) np 0 = fdA (hc.1 (p + 2)) (tV T i) np 0 := fdA_eq _ _ _ fun k _ hk => en k (by omega)
    have cf := x_personOf st e2 hn (tV T i)
    have rf : g_X11_found 6 (nI np) (tV T i) hr = some (fdA (hc.1 (p + 2)) (tV T i) np 0, hr) := by rw [← fe]; exact r_found (b := 6) hn (by decide) (tV T i)
    rcases fdA_or (hc.1 (p + 2)) (tV T i) np 0 with hm | ⟨a, a1, a2, a3, a4⟩
    · obtain ⟨r2, v1, v2, v3⟩ := r_token w hi hk0 r
      refine Or.inl ⟨tV T i, r2, fun K => ?_, ?_, v2, ⟨c1.k fun a k h1 h2 => by rw [wrI_1, if_neg (by omega)], wrI_at _ _ _ _, by rw [wrI_1, if_neg (by omega)]; exact c3⟩, v3, tK_e w hi hk0⟩
      · unfold pnC
        simp only [gfR]
        rw [x6_value w c1 hi c2, bnd_some, x6_kind w c1 hi c2, bnd_some, if_pos k3, e1, ckH_of st, cf, bnd_some, hm, if_pos rfl, x6_adv w c1 hi c2, bnd_some]
      · unfold g_X11_fresh
        simp only [gfI, jn]
        rw [r.2.2.2.2, if_pos rfl, if_pos s1, ev, rf, bnd_some, hm, if_pos rfl, r.2.2.2.2, if_pos rfl, v1, bnd_some, ev]
    · obtain ⟨h1, h2, r1, g1, g2, g3, g4, g5, g6, g7⟩ := fl 3 (by decide)
      have na : ¬ nI a = -1 := fun z => absurd (nI_pos (n := a) (by omega)) (by rw [z]; decide)
      refine Or.inr ⟨tV T i, 3, h2, r1, fun K => ?_, g3, g4, ?_, g6, g7⟩
      · unfold pnC
        simp only [gfR]
        rw [x6_value w c1 hi c2, bnd_some, x6_kind w c1 hi c2, bnd_some, if_pos k3, e1, ckH_of st, cf, bnd_some, a3, if_neg na, g1, bnd_some, g2, bnd_some]
      · unfold g_X11_fresh
        simp only [gfI, jn]
        rw [r.2.2.2.2, if_pos rfl, if_pos s1, ev, rf, bnd_some, a3, if_neg na, g5, bnd_some, if_neg g6.n]
  · have s1 : ¬ hr.1 255 25 = 1 := by rw [enm]; exact k3
    obtain ⟨h1, h2, r1, g1, g2, g3, g4, g5, g6, g7⟩ := fl 1 (by decide)
    refine Or.inr ⟨tV T i, 1, h2, r1, fun K => ?_, g3, g4, ?_, g6, g7⟩
    · unfold pnC
      rw [x6_value w c1 hi c2, bnd_some, x6_kind w c1 hi c2, bnd_some, if_neg k3, g1, bnd_some, g2, bnd_some]
    · unfold g_X11_fresh
      simp only [gfI, jn]
      rw [r.2.2.2.2, if_pos rfl, if_neg s1, g5, bnd_some, if_neg g6.n]
theorem ln_person {T : TKD} (w : TKok T) {p i nf np nl ng t b : Nat} (hp : pOk p) {O : List (Int32 × Int32)} {hc hr : HH} (h : LnS T p i nf np nl ng t b O hc hr) (hk : tK T i = 18) : ∃ hc' hr', g_X6_readLine hc = some ((), hc') ∧ g_X11_line hr = some ((), hr') ∧ LnD T p i hc hr hc' hr' := by
  have hp' : p + 22 ≤ 60 ∧ (p + 22 ≤ 24 ∨ 30 ≤ p) ∧ 2 ≤ p := by rcases hp with rfl | rfl <;> omega
  have h0 := h
  obtain ⟨⟨⟨c1, c2, c3⟩, r, hi⟩, e1, hP, hL, hF⟩ := h
  have hP0 := hP
  obtain ⟨⟨⟨a1, a2, a3⟩, ⟨a4, a5, a6⟩, ⟨a7, a8, a9⟩, a10, a11, a12⟩, aS, aF, aN, _⟩ := hP
  have isF : g_X11_isFull (nI 1) hr = some (if np = 6 then 1 else 0, hr) := by
    unfold g_X11_isFull
    rw [if_neg (show ¬ nI 1 = (0 : Int32) by decide), if_pos (show nI 1 = (1 : Int32) from rfl), frl1, bnd_some, a5]
    by_cases z : np = 6
    · rw [if_pos (show nI np = 6 by rw [z]; rfl), if_pos z]
    · rw [if_neg (show ¬ nI np = 6 from fun y => z ((nI_eq (b := 6) (by omega) (by decide)).mp y)), if_neg z]
  have st := pOk.s0 p hp
  have c1' : cT T (wrI hc 24 6 1) := c1.k fun a k h1 h2 => by rw [wrI_1, if_neg (by omega)]
  have c2' : (wrI hc 24 6 1).1 24 3 = nI i := by rw [wrI_1, if_neg (by omega)]; exact c2
  have c3' : (wrI hc 24 6 1).1 24 4 = 0 := by rw [wrI_1, if_neg (by omega)]; exact c3
  have open1 : g_X6_readPerson (wrI hc 24 6 1) = bnd (g_X6_takeWord (nI np) 6 (wrI hc 24 6 1)) fun _ h3 => pnC pnR h3 := by
    rw [person_eq]
    simp only [gfI, gfR]
    rw [show (wrI hc 24 6 1).2.2 1 = p from e1, ckH_of st, wrI_1, if_neg (by omega), a4]
  refine ln_word w hp h0 (j := 1) (by omega) (by omega) hk g_X6_readPerson g_X11_personLine (fun _ => rfl) (fun _ => rfl) (np = 6) isF ?_ ?_
  · intro z
    obtain ⟨h1, f1, f2, f3⟩ := x6_takeWord_N w c1' hi c2' c3' p (a := nI np) (m := 6) (by rw [z]; decide)
    obtain ⟨v, h2, g1, g2, g3⟩ := pnC_F w hp a6 f2 (by rw [f3.2]; exact e1) (by
      have : h1.1 p 2 = (wrI hc 24 6 1).1 p 2 := by
        have e := f1
        unfold g_X6_takeWord at e
        simp only [jn] at e
        rw [if_neg (show ¬ nI np < 6 by rw [z]; decide), x6_fail w c1' hi c2' 2 c3', bnd_some, x6_adv w (i := i) (c1'.k fun a k h1 h2 => by rw [wrI_1, if_neg (by omega), wrI_1, if_neg (by omega)]) hi (by rw [wrI_1, if_neg (by omega), wrI_1, if_neg (by omega)]; exact c2'), bnd_some] at e
        have e' := (Prod.mk.inj (Option.some.inj e)).2
        rw [← e', wrI_1, if_neg (by omega), wrI_1, if_neg (by omega), wrI_1, if_neg (by omega)]
      rw [this, wrI_1, if_neg (by omega)]; exact a4)
    obtain ⟨h3, k1, k2, k3⟩ := pnR_F w hp v g2 (by rw [g3.2, f3.2]; exact e1)
    exact ⟨h3, by rw [open1, f1, bnd_some, g1, k1], k2, (f3.tr g3).tr k3⟩
  · intro z r1 m2 hi1 m5
    have hnp : np < 6 := by omega
    have xC : ∀ b k, ¬ (b = 24 ∧ (k = 3 ∨ k = 6)) → (wrI (wrI hc 24 6 1) 24 3 (nI (i + 1))).1 b k = hc.1 b k := fun b k z => by rw [wrI_1, if_neg (by omega), wrI_1, if_neg (by omega)]
    have at1 : At T (i + 1) (wrI (wrI hc 24 6 1) 24 3 (nI (i + 1))) r1 := ⟨⟨c1'.k fun a k h1 h2 => by rw [wrI_1, if_neg (by omega)], wrI_at _ _ _ _, by rw [wrI_1, if_neg (by omega)]; exact c3'⟩, m2, hi1⟩
    have s1 : sK p (wrI hc 24 6 1) (wrI (wrI hc 24 6 1) 24 3 (nI (i + 1))) := sK_24 p _ _ (by omega) (by omega)
    have opC : g_X6_readPerson (wrI hc 24 6 1) = pnC pnR (wrI (wrI hc 24 6 1) 24 3 (nI (i + 1))) := by
      rw [open1, x6_takeWord w c1' hi c2' (show nI np < 6 from nI_lt (b := 6) hnp (by decide)), bnd_some]
    have opR : g_X11_personLine r1 = bnd (g_X11_fresh 6 (nI np) r1) fun r7 h6 => stI h6 259 12 (nI (6 + np)) r7 fun h8 => prR (nI (6 + np)) h8 := by
      rw [rperson_eq]
      simp only [vl]
      rw [frl1, bnd_some, m5 _ _ (by omega), a5, frl1, bnd_some, m5 _ _ (by omega), a5, show (6 : Int32) + nI np = nI (6 + np) from nI_add 6 np]
    rw [opC, opR]
    have e8 : r1.1 257 8 = nI np := by rw [m5 _ _ (by omega)]; exact a5
    rcases P_new w hp at1 e1 (by rw [xC _ _ (by omega)]; exact a4) a6 (fun a ha => by rw [xC _ _ (by omega), m5 _ _ (by omega)]; exact (aN a ha).1) with ⟨v, r2, v1, v2, v3, v4⟩ | ⟨v, f, c2', r2, g1, g2, g3, g4, g5, g6⟩
    · rw [v1, v2, bnd_some, stI_of (by omega) (by decide)]
      obtain ⟨v5, v6, v7⟩ := v4
      have at2 : At T (i + 1 + 1) (wrI (wrI (wrI hc 24 6 1) 24 3 (nI (i + 1))) 24 3 (nI (i + 1 + 1))) (wrI r2 259 (6 + np) v) := ⟨v5, v6.k (fun k _ _ => by rw [wrI_1, if_neg (by omega)]) (fun k => by rw [wrI_1, if_neg (by omega)]), v7⟩
      have xC2 : ∀ b k, ¬ (b = 24 ∧ (k = 3 ∨ k = 6)) → (wrI (wrI (wrI hc 24 6 1) 24 3 (nI (i + 1))) 24 3 (nI (i + 1 + 1))).1 b k = hc.1 b k := fun b k z => by rw [wrI_1, if_neg (by omega)]; exact xC b k z
      have xR2 : ∀ b k, ¬ (b = 255 ∧ (k = 20 ∨ (23 ≤ k ∧ k ≤ 26))) → ¬ (b = 259 ∧ k = 6 + np) → (wrI r2 259 (6 + np) v).1 b k = hr.1 b k := fun b k z1 z2 => by rw [wrI_1, if_neg z2, v3.1 _ _ (by omega), m5 _ _ z1]
      obtain ⟨c', r', y1, y2, y3, y4, y5⟩ := pn_2 w hp hnp a3 v at2 e1 (by rw [xC2 _ _ (by omega)]; exact a1) (by rw [xC2 _ _ (by omega)]; exact a4) (by rw [xR2 _ _ (by omega) (by omega)]; exact a2) (by rw [xR2 _ _ (by omega) (by omega)]; exact a5)
      refine ⟨c', r', y1, y2, (s1.tr (sK_24 p _ _ (by omega) (by omega))).tr y3, (v3.R.tr (sR_w _ _ _ _ (by omega))).tr y4, ?_⟩
      rcases y5 with y5 | ⟨u, x, x1, x2, x3, x4, x5, x6, x7, x8⟩
      · exact Or.inl y5
      · refine Or.inr ⟨i + 1 + 1 + 1 + 1, nf, np + 1, nl, ng, by omega, x3, ?_, fun b k z => ?_, fun b k z => ?_⟩
        · refine hP0.kp hnp (fun b k h1 h2 h3 h4 => by rw [x7 b k (by omega) h3 h4, xC2 b k (by omega)]) (fun b k h1 h2 h3 h4 => by rw [x8 b k (by omega) h3 (by omega), xR2 b k (by omega) (by omega)]) ⟨x4.2.2.2, x5.2.2⟩ x6 ⟨?_, ⟨x, x2, x4.2.1, x5.2.1⟩, u, x1, x4.2.2.1, x5.1⟩
          rw [x8 _ _ (by omega) (by omega) (by omega), wrI_at, x4.1]
        · rw [x7 b k (by omega) (by omega) (by omega), wrI_1, if_neg (by omega), wrI_1, if_neg (by omega)]
        · rw [x8 b k (by omega) (by omega) (by omega), wrI_1, if_neg (by omega), v3.1 _ _ (by omega)]
    · obtain ⟨c3', k1, k2, k3⟩ := pnR_F w hp v g2 (by rw [g3.2]; exact e1)
      have q1 := g5.w 259 (6 + np) 0 (by omega)
      obtain ⟨r4, l1, l2, l3⟩ := prR_F hnp q1 (by rw [wrI_1, if_neg (by omega), g6.1 _ _ (by omega) (by omega) (by omega)]; exact e8)
      refine ⟨c3', r4, by rw [g1, k1], ?_, (s1.tr g3).tr k3, (g6.R.tr (sR_w _ _ _ _ (by omega))).tr l3, Or.inl ⟨_, _, k2, l2⟩⟩
      rw [g4, bnd_some, stI_of (by omega) (by decide), l1]
