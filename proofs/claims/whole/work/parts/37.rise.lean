/-! the class: falls, one flight up, a way by foot, a ladder -/
theorem wrI_at (h : HH) (a k : Nat) (v : Int32) : (wrI h a k v).1 a k = v := by rw [wrI_1]; simp
theorem dvI_of {β : Type} {x y : Int32} (hy : ¬ y = 0) (K : Int32 → Option β) : dvI x y K = K (x / y) := if_neg hy
theorem rmI_of {β : Type} {x y : Int32} (hy : ¬ y = 0) (K : Int32 → Option β) : rmI x y K = K (x - x / y * y) := if_neg hy
section CR
variable {h h' : HH} {p q z np md : Nat} {P S S' : TB} {fo : Nat → Int32}
theorem cAt.mvF (c : cAt h p q z P S fo np md) (s : scF q h h') (cs : CS h' q S') : cAt h' p q z P S' fo np md := by
  obtain ⟨c1, c2, c3, c4, c5, c6, c7, c8, c9, c10, c11, c12, c13, c14, c15, c16, c17⟩ := c
  refine ⟨by rw [s.2.2]; exact c1, by rw [s.2.2]; exact c2, by rw [s.2.2]; exact c3, c4, c5, c6, fun o k ho => ?_, cs, ?_, c10, c11, c12, ?_, c14, c15, c16, c17⟩
  · rw [s.1 _ _ (by omega) (by omega) (by omega)]; exact c7 o k ho
  · funext k
    rw [s.1 _ _ (by omega) (by omega) (by omega), c9]
  · rw [s.1 _ _ (by omega) (by omega) (by omega)]; exact c13
theorem cAt.mv (c : cAt h p q z P S fo np md) (s : scQ q h h') (cs : CS h' q S') : cAt h' p q z P S' fo np md := c.mvF s.F cs
theorem cAt.on (c : cAt h p q z P S fo np md) : cOn h p q z np := by
  obtain ⟨c1, c2, c3, c4, c5, c6, c7, c8, c9, c10, c11, c12, c13, c14, c15, c16, c17⟩ := c
  exact ⟨c1, c2, c3, c4, c5, c6, (c7 0 2 (by decide)).trans c10, c11⟩
theorem cAt.st (c : cAt h p q z P S fo np md) {a f : Nat} (ha : a < 6) (hf : f < 6) (less : Int32) : ∃ h', scQ q h h' ∧ cAt h' p q z P S fo np md ∧ g_X0_steepOf (nI a) (nI f) less h = some (stA P S fo np a f less, h') := by
  obtain ⟨c1, c2, c3, c4, c5, c6, c7, c8, c9, c10, c11, c12, c13, c14, c15, c16, c17⟩ := id c
  obtain ⟨h', s, e⟩ := x_steepOf c.on (lawsOk_A c7 c12) ha hf less
  rw [stS_A c7 c8, c9] at e
  exact ⟨h', scQ_0 s, c.mv (scQ_0 s) (CS_0 c8 s), e⟩
theorem cAt.va (c : cAt h p q z P S fo np md) {r a f : Nat} (hr : r < 3) (ha : a < 6) (hf : f < 6) (less : Int32) : ∃ h', scQ q h h' ∧ cAt h' p q z P S fo np md ∧ g_X0_valueOf (nI r) (nI a) (nI f) less h = some (lwA P S fo np r a f less, h') := by
  obtain ⟨c1, c2, c3, c4, c5, c6, c7, c8, c9, c10, c11, c12, c13, c14, c15, c16, c17⟩ := id c
  obtain ⟨h', s, e⟩ := x_valueOf c.on (lawsOk_A c7 c12) hr ha hf less
  rw [lwS_A c7 c8, c9] at e
  exact ⟨h', scQ_0 s, c.mv (scQ_0 s) (CS_0 c8 s), e⟩
theorem cAt.wr (c : cAt h p q z P S fo np md) {o : Nat} (k : Nat) (v : Int32) (ho : o < 6) : scQ q h (wrI h (q + o) k v) ∧ cAt (wrI h (q + o) k v) p q z P (up S o k v) fo np md := by
  have c8 := c.2.2.2.2.2.2.2.1
  exact ⟨scQ_w h k v ho, c.mv (scQ_w h k v ho) (CS_w c8 k v ho)⟩
theorem up_self (S : TB) (o k : Nat) : up S o k (S o k) = S := by
  funext x i
  unfold up
  split
  · rename_i e; rw [e.1, e.2]
  · rfl
theorem x_drawn (c : cAt h p q z P S fo np md) : ∃ h', scQ q h h' ∧ cAt h' p q z P (up S 0 6 (nxN (S 0 6))) fo np md ∧ g_X7_drawn q h = some (nxN (S 0 6) / 65536, h') := by
  obtain ⟨c1, c2, c3, c4, c5, c6, c7, c8, c9, c10, c11, c12, c13, c14, c15, c16, c17⟩ := id c
  have e0 : h.1 q 6 = S 0 6 := c8 0 6 (by decide)
  obtain ⟨w1, w2⟩ := c.wr (o := 0) 6 (nxN (S 0 6)) (by decide)
  refine ⟨wrI h (q + 0) 6 (nxN (S 0 6)), w1, w2, ?_⟩
  unfold g_X7_drawn
  simp only [gfI, pfI]
  rw [ckH_of c5, e0, wrI_at, dvI_of (by decide)]
  rfl
theorem x_slips (c : cAt h p q z P S fo np md) : ∃ h', scQ q h h' ∧ cAt h' p q z P (up S 0 6 (slA md (P 0 15) (S 0 6)).2) fo np md ∧ g_X0_slips h = some (if (slA md (P 0 15) (S 0 6)).1 then 1 else 0, h') := by
  obtain ⟨c1, c2, c3, c4, c5, c6, c7, c8, c9, c10, c11, c12, c13, c14, c15, c16, c17⟩ := id c
  have e15 : h.1 p 15 = P 0 15 := c7 0 15 (by decide)
  have stay : cAt h p q z P (up S 0 6 (S 0 6)) fo np md := by rw [up_self]; exact c
  unfold g_X0_slips slA
  simp only [gfI, gfR, c1, c2, c13]
  by_cases m2 : md = 2
  · subst m2
    refine ⟨h, scQ_rf q h, by rw [if_pos (Or.inl rfl)]; exact stay, ?_⟩
    rw [if_pos (by decide), if_pos (Or.inl rfl)]
    rfl
  have m2' : ¬ nI md = 2 := fun e => m2 ((nI_eq (by omega) (by decide)).mp (e.trans (show (2 : Int32) = nI 2 from rfl)))
  rw [if_neg m2', ckH_of c4, e15]
  by_cases s0 : P 0 15 = 0
  · refine ⟨h, scQ_rf q h, by rw [if_pos (Or.inr s0)]; exact stay, ?_⟩
    rw [if_pos s0, if_pos (Or.inr s0)]
    rfl
  rw [if_neg s0, ckH_of c4, if_neg (show ¬ (md = 2 ∨ P 0 15 = 0) by simp [m2, s0])]
  by_cases s1 : P 0 15 = 100
  · refine ⟨h, scQ_rf q h, by rw [if_pos s1]; exact stay, ?_⟩
    rw [if_pos s1, if_pos s1]
    rfl
  rw [if_neg s1, if_neg s1]
  by_cases m1 : md = 1
  · subst m1
    refine ⟨h, scQ_rf q h, by rw [if_pos rfl]; exact stay, ?_⟩
    rw [if_pos (by decide), if_pos rfl, ckH_of c4]
    by_cases s5 : P 0 15 < 50
    · rw [if_pos s5]; simp [s5]
    · rw [if_neg s5]; simp [s5]
  have m1' : ¬ nI md = 1 := fun e => m1 ((nI_eq (by omega) (by decide)).mp (e.trans (show (1 : Int32) = nI 1 from rfl)))
  obtain ⟨h1, w1, w2, w3⟩ := x_drawn c
  rw [if_neg m1, if_neg m1', ckH_of c5, w3, bnd_some]
  refine ⟨h1, w1, w2, ?_⟩
  have c1' := w2.1
  have e15' : h1.1 p 15 = P 0 15 := w2.2.2.2.2.2.2.1 0 15 (by decide)
  rw [rmI_of (by decide), c1', ckH_of c4, e15']
  by_cases s5 : nxN (S 0 6) / 65536 - nxN (S 0 6) / 65536 / 100 * 100 < P 0 15
  · rw [if_pos s5]; simp [s5]
  · rw [if_neg s5]; simp [s5]
theorem x_rise (c : cAt h p q z P S fo np md) {a f : Nat} (ha : a < 6) (hf : f < 6) : ∃ h', scQ q h h' ∧ cAt h' p q z P (riA P S fo np md a f).2 fo np md ∧ g_X0_rise (nI a) (nI f) h = some (if (riA P S fo np md a f).1 then 1 else 0, h') := by
  obtain ⟨h1, s1, k1, e1⟩ := c.st ha hf 0
  have stick : ∀ g, scQ q h g → cAt g p q z P S fo np md → ∃ h', scQ q h h' ∧ cAt h' p q z P (up S 3 a (S 3 a + 1)) fo np md ∧ (ckH (g.2.2 3) (.inl 7) (ldI g ((g.2.2 3) + 3) 6 (nI a) fun v9 => stI g ((g.2.2 3) + 3) 6 (nI a) (v9 + (1 : Int32)) fun h10 => some ((0 : Int32), h10))) = some ((0 : Int32), h') := by
    intro g sg kg
    obtain ⟨w1, w2⟩ := kg.wr (o := 3) a (S 3 a + 1) (by decide)
    have e3 : g.1 (q + 3) a = S 3 a := kg.2.2.2.2.2.2.2.1 3 a (by decide)
    exact ⟨_, sg.tr w1, w2, by rw [kg.2.1, ckH_of kg.2.2.2.2.1, ldI_of ha (by decide), stI_of ha (by decide), e3]⟩
  unfold g_X0_rise riA
  have e1 : g_X0_steepOf (nI a) (nI f) 0 h = some (stA P S fo np a f 0, h1) := e1
  rw [e1, bnd_some]
  simp only [gfR, jn]
  have hz : ∀ x, h1.1 z x = fo x := fun x => by rw [k1.2.2.2.2.2.2.2.2.1]
  rw [k1.2.2.1, ckH_of k1.2.2.2.2.2.1, ldI_of ha (by decide), hz]
  by_cases t1 : fo a < stA P S fo np a f 0
  · have d1 : fo a < stA P S fo np a f 0 ∨ lwA P S fo np 2 a f 0 = 0 := Or.inl t1
    rw [if_pos t1, if_pos d1]
    exact stick h1 s1 k1
  obtain ⟨h2, s2, k2, e2⟩ := k1.va (r := 2) (by decide) ha hf 0
  have e2 : g_X0_valueOf 2 (nI a) (nI f) 0 h1 = some (lwA P S fo np 2 a f 0, h2) := e2
  rw [if_neg t1, e2, bnd_some]
  by_cases t2 : lwA P S fo np 2 a f 0 = 0
  · have d1 : fo a < stA P S fo np a f 0 ∨ lwA P S fo np 2 a f 0 = 0 := Or.inr t2
    have l1 : lg_cmp (lwA P S fo np 2 a f 0) 0 = 0 := by rw [lc_eq]; exact t2
    rw [if_pos l1, if_pos d1]
    exact stick h2 (s1.tr s2) k2
  have d1 : ¬ (fo a < stA P S fo np a f 0 ∨ lwA P S fo np 2 a f 0 = 0) := by simp [t1, t2]
  have l1 : ¬ lg_cmp (lwA P S fo np 2 a f 0) 0 = 0 := by rw [lc_eq]; exact t2
  rw [if_neg l1, if_neg d1]
  obtain ⟨h3, s3, k3, e3⟩ := x_slips k2
  rw [e3, bnd_some]
  have s13 := (s1.tr s2).tr s3
  generalize slA md (P 0 15) (S 0 6) = sl at k3 e3 ⊢
  obtain ⟨fl, nu⟩ := sl
  have k3 : cAt h3 p q z P (up S 0 6 nu) fo np md := k3
  have n46 : ∀ o k, o ≠ 0 → up S 0 6 nu o k = S o k := fun o k ho => up_ne _ _ _ _ _ _ (fun e => ho e.1)
  cases fl with
  | true =>
    simp only [if_true, i10, if_false]
    obtain ⟨w1, w2⟩ := k3.wr (o := 4) a (S 4 a + 1) (by decide)
    obtain ⟨v1, v2⟩ := w2.wr (o := 1) a 0 (by decide)
    refine ⟨_, (s13.tr w1).tr v1, v2, ?_⟩
    have e4 : h3.1 (q + 4) a = S 4 a := (k3.2.2.2.2.2.2.2.1 4 a (by decide)).trans (n46 4 a (by decide))
    rw [k3.2.1, ckH_of k3.2.2.2.2.1, ldI_of ha (by decide), stI_of ha (by decide), e4, w2.2.1, ckH_of k3.2.2.2.2.1, stI_of ha (by decide)]
    rfl
  | false =>
    simp only [Bool.false_eq_true, if_false, if_true]
    obtain ⟨h4, s4, k4, e4⟩ := k3.va (r := 1) (by decide) ha hf 0
    have e4 : g_X0_valueOf 1 (nI a) (nI f) 0 h3 = some (lwA P (up S 0 6 nu) fo np 1 a f 0, h4) := e4
    have el : lwA P (up S 0 6 nu) fo np 1 a f 0 = lwA P S fo np 1 a f 0 := by
      have f1 : up S 0 6 nu 1 = S 1 := funext fun k => n46 1 k (by decide)
      unfold lwA nmA
      rw [f1, n46 5 _ (by decide), n46 2 _ (by decide), up_ne S 0 6 nu 0 5 (by decide)]
    rw [el] at e4
    rw [e4, bnd_some]
    have tl : ∀ y, ∃ h', scQ q h h' ∧ cAt h' p q z P (up (up (up (up S 0 6 nu) 2 a (mnI 99999 (S 2 a + y))) 5 (6 * a + f) (adT (S 5 (6 * a + f)) 1)) 1 a (nI f + 1)) fo np md ∧ (bnd (g_X7_addTired (h4.2.2 3) (nI a) y h4) fun _ h22 => ckH (h22.2.2 3) (.inl 7) (bnd (g_X10_cell (nI a) (nI f) h22) fun r26 h25 => bnd (g_X7_addTally (h22.2.2 3) r26 (1 : Int32) h25) fun _ h27 => ckH (h27.2.2 3) (.inl 7) (stI h27 ((h27.2.2 3) + 1) 6 (nI a) (nI f + (1 : Int32)) fun h30 => some ((1 : Int32), h30)))) = some ((1 : Int32), h') := by
      intro y
      have k7 := k4.2.2.2.2.1
      obtain ⟨w1, w2⟩ := k4.wr (o := 2) a (mnI 99999 (S 2 a + y)) (by decide)
      obtain ⟨v1, v2⟩ := w2.wr (o := 5) (6 * a + f) (adT (S 5 (6 * a + f)) 1) (by decide)
      obtain ⟨u1, u2⟩ := v2.wr (o := 1) a (nI f + 1) (by decide)
      refine ⟨_, (((s13.tr s4).tr w1).tr v1).tr u1, u2, ?_⟩
      have e5 : h4.1 (q + 2) a = S 2 a := (k4.2.2.2.2.2.2.2.1 2 a (by decide)).trans (n46 2 a (by decide))
      have e6 : (wrI h4 (q + 2) a (mnI 99999 (S 2 a + y))).1 (q + 5) (6 * a + f) = S 5 (6 * a + f) := by
        rw [w2.2.2.2.2.2.2.2.1 5 _ (by decide), up_ne _ _ _ _ _ _ (by omega), n46 5 _ (by decide)]
      rw [k4.2.1, x_addTired k7 ha, e5, bnd_some, w2.2.1, ckH_of k7, x_cell, bnd_some, x_addTally k7 (by omega), e6, bnd_some, v2.2.1, ckH_of k7, stI_of ha (by decide)]
    by_cases t4 : lwA P S fo np 1 a f 0 = eM
    · have l4 : lg_cmp (lwA P S fo np 1 a f 0) (-9223372036854775808) = 0 := by rw [lc_eq]; exact t4
      rw [if_pos l4, if_pos t4, ckH_of (show shL[h4.2.2 3]? = some (.inl 7) by rw [k4.2.1]; exact k4.2.2.2.2.1)]
      exact tl (mxI 0 (stA P S fo np a f 0))
    · have l4 : ¬ lg_cmp (lwA P S fo np 1 a f 0) (-9223372036854775808) = 0 := by rw [lc_eq]; exact t4
      rw [if_neg l4, if_neg t4, ckH_of (show shL[h4.2.2 3]? = some (.inl 7) by rw [k4.2.1]; exact k4.2.2.2.2.1)]
      exact tl _
end CR
