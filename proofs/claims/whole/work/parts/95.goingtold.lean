/-! a line that tells a going, from the person on -/
theorem go_3 {T : TKD} (w : TKok T) {p i how ng nf np nl : Nat} (hp : pOk p) (hh : how < 3) (hn : ng < 20) (hnf : nf ≤ 6) (hnp : np ≤ 6) (hnl : nl ≤ 6) {C R : HH} (at0 : At T i C R) (e1 : C.2.2 1 = p) (a0 : C.1 p 0 = nI nf) (a2 : C.1 p 2 = nI np) (a5 : C.1 p 5 = nI nl) (a9 : C.1 p 9 = nI ng) (f7 : R.1 257 7 = nI nf) (f8 : R.1 257 8 = nI np) (f9 : R.1 257 9 = nI nl) (f10 : R.1 257 10 = nI ng) (en : ∀ a, a < np → R.1 259 (6 + a) = C.1 (p + 2) a) :
    ∃ c' r', (bnd (g_X6_knownPerson C) fun r6 h5 => bnd (g_X6_number (0 : Int32) (99 : Int32) h5) fun r8 h7 => goC (nI (22 + how)) r6 r8 h7) = some ((), c') ∧
      (bnd (g_X11_personAhead R) fun r6 h5 => stI h5 267 40 (nI (20 + ng)) r6 fun h7 => bnd (g_X11_numeral (0 : Int32) (99 : Int32) h7) fun r9 h8 => stI h8 268 40 (nI (20 + ng)) r9 fun h10 => stI h10 269 40 (nI (20 + ng)) (0 : Int32) fun h11 => rgC (nI how) (nI (20 + ng)) h11) = some ((), r') ∧ sK p C c' ∧ sR R r' ∧
      ((∃ f q, cF T f q c' ∧ rF f q r') ∨ ∃ a u x j', i < j' ∧ (a < np ∧ u < 100 ∧ x ≤ 6 ∧ (how = 0 → x ≤ nf) ∧ (how = 1 → x < nl)) ∧ At T j' c' r' ∧ (c'.1 (p + 7) ng = nI (22 + how) ∧ c'.1 (p + 8) ng = nI a ∧ c'.1 (p + 9) ng = nI u ∧ c'.1 (p + 10) ng = nI x ∧ c'.1 p 9 = nI (ng + 1)) ∧ (r'.1 267 (20 + ng) = nI a ∧ r'.1 268 (20 + ng) = nI u ∧ r'.1 269 (20 + ng) = nI x ∧ r'.1 257 10 = nI (ng + 1)) ∧ (∀ b k, ¬ (b = 24 ∧ k = 3) → ¬ (b = p ∧ k = 9) → ¬ ((p + 7 ≤ b ∧ b ≤ p + 10) ∧ k = ng) → c'.1 b k = C.1 b k) ∧ ∀ b k, ¬ (b = 255 ∧ (23 ≤ k ∧ k ≤ 26)) → ¬ (b = 257 ∧ k = 10) → ¬ ((267 ≤ b ∧ b ≤ 269) ∧ k = 20 + ng) → r'.1 b k = R.1 b k) := by
  have hp' : p + 22 ≤ 60 ∧ (p + 22 ≤ 24 ∨ 30 ≤ p) ∧ 2 ≤ p := by rcases hp with rfl | rfl <;> omega
  rcases P_per w hp at0 e1 a2 f8 hnp en with ⟨a, r2, ha, v1, v2, v3, v4⟩ | ⟨rr, f, c2, r2, g1, g2, g3, g4, g5, g6⟩
  · rw [v1, bnd_some, v2, bnd_some, stI_of (by omega) (by decide)]
    have sA : sK p C (wrI C 24 3 (nI (i + 1))) := sK_24 p C _ (by omega) (by omega)
    obtain ⟨v5, v6, v7⟩ := v4
    have at2 : At T (i + 1) (wrI C 24 3 (nI (i + 1))) (wrI r2 267 (20 + ng) (nI a)) := ⟨v5, v6.k (fun k _ _ => by rw [wrI_1, if_neg (by omega)]) (fun k => by rw [wrI_1, if_neg (by omega)]), v7⟩
    have f10a : (wrI r2 267 (20 + ng) (nI a)).1 257 10 = nI ng := by rw [wrI_1, if_neg (by omega), v3.1 _ _ (by omega)]; exact f10
    rcases P_num w at2 (lo := 0) (hi := 99) (by decide) (by decide) p with ⟨u, r3, u1, u2, u3, u4, u5, u6, u7⟩ | ⟨f, c3, r3, g1, g2, g3, g4, g5, g6⟩
    · have hu : u ≤ 99 := nI_nl (a := 99) (by decide) (by omega) u3
      rw [u4, bnd_some, u5, bnd_some, stI_of (by omega) (by decide), stI_of (by omega) (by decide)]
      obtain ⟨w5, w6, w7⟩ := u7
      have at3 : At T (i + 1 + 1) (wrI (wrI C 24 3 (nI (i + 1))) 24 3 (nI (i + 1 + 1))) (wrI (wrI r3 268 (20 + ng) (nI u)) 269 (20 + ng) 0) := ⟨w5, w6.k (fun k _ _ => by rw [wrI_1, if_neg (by omega), wrI_1, if_neg (by omega)]) (fun k => by rw [wrI_1, if_neg (by omega), wrI_1, if_neg (by omega)]), w7⟩
      have xC : ∀ b k, ¬ (b = 24 ∧ k = 3) → (wrI (wrI C 24 3 (nI (i + 1))) 24 3 (nI (i + 1 + 1))).1 b k = C.1 b k := fun b k z => by rw [wrI_1, if_neg z, wrI_1, if_neg z]
      have xR : ∀ b k, ¬ (b = 255 ∧ (23 ≤ k ∧ k ≤ 26)) → ¬ ((267 ≤ b ∧ b ≤ 269) ∧ k = 20 + ng) → (wrI (wrI r3 268 (20 + ng) (nI u)) 269 (20 + ng) 0).1 b k = R.1 b k := fun b k z1 z2 => by rw [wrI_1, if_neg (by omega), wrI_1, if_neg (by omega), u6.1 _ _ z1, wrI_1, if_neg (by omega), v3.1 _ _ z1]
      have q267 : (wrI (wrI r3 268 (20 + ng) (nI u)) 269 (20 + ng) 0).1 267 (20 + ng) = nI a := by rw [wrI_1, if_neg (by omega), wrI_1, if_neg (by omega), u6.1 _ _ (by omega), wrI_at]
      have q268 : (wrI (wrI r3 268 (20 + ng) (nI u)) 269 (20 + ng) 0).1 268 (20 + ng) = nI u := by rw [wrI_1, if_neg (by omega), wrI_at]
      have sC : sK p C (wrI (wrI C 24 3 (nI (i + 1))) 24 3 (nI (i + 1 + 1))) := sA.tr (sK_24 p _ _ (by omega) (by omega))
      have sRr : sR R (wrI (wrI r3 268 (20 + ng) (nI u)) 269 (20 + ng) 0) := (((v3.R.tr (sR_w _ _ _ _ (by omega))).tr u6.R).tr (sR_w _ _ _ _ (by omega))).tr (sR_w _ _ _ _ (by omega))
      obtain ⟨c', r', y1, y2, y3, y4, y5⟩ := go_2 w (how := how) (a := a) (u := u) (nl := nl) hp hh hn hnf hnl at3 e1 (by rw [xC _ _ (by omega)]; exact a0) (by rw [xC _ _ (by omega)]; exact a5) (by rw [xC _ _ (by omega)]; exact a9) (by rw [xR _ _ (by omega) (by omega)]; exact f7) (by rw [xR _ _ (by omega) (by omega)]; exact f9) (by rw [xR _ _ (by omega) (by omega)]; exact f10) (wrI_at _ _ _ _)
      refine ⟨c', r', y1, y2, sC.tr y3, sRr.tr y4, ?_⟩
      rcases y5 with y5 | ⟨x, j', x1, x2, x3, x4, x5, x6, x7⟩
      · exact Or.inl y5
      · exact Or.inr ⟨a, u, x, j', by omega, ⟨ha, by omega, x2⟩, x3, x4, ⟨by rw [x7 _ _ (by omega) (by omega) (by omega)]; exact q267, by rw [x7 _ _ (by omega) (by omega) (by omega)]; exact q268, x5.1, x5.2⟩, fun b k z1 z2 z3 => by rw [x6 b k z1 z2 z3, xC b k z1], fun b k z1 z2 z3 => by rw [x7 b k z1 z2 (by omega), xR b k z1 z3]⟩
    · rw [g1, bnd_some, g4, bnd_some, stI_of (by omega) (by decide), stI_of (by omega) (by decide)]
      obtain ⟨c4, k1, k2, k3⟩ := goC_F w hp (nI (22 + how)) (nI a) 0 g2 (by rw [g3.2]; exact e1)
      obtain ⟨r4, l1, l2, l3⟩ := rgC_F hh hn ((g5.w 268 (20 + ng) 0 (by omega)).w 269 (20 + ng) 0 (by omega)) (by rw [wrI_1, if_neg (by omega), wrI_1, if_neg (by omega), g6.1 _ _ (by omega) (by omega) (by omega)]; exact f10a)
      exact ⟨c4, r4, k1, l1, (sA.tr g3).tr k3, ((((v3.R.tr (sR_w _ _ _ _ (by omega))).tr g6.R).tr (sR_w _ _ _ _ (by omega))).tr (sR_w _ _ _ _ (by omega))).tr l3, Or.inl ⟨_, _, k2, l2⟩⟩
  · obtain ⟨c3, k1, k2, k3⟩ := x6_number_F w g2 p 0 99
    obtain ⟨c4, l1, l2, l3⟩ := goC_F w hp (nI (22 + how)) rr 0 k2 (by rw [k3.2, g3.2]; exact e1)
    have q1 := g5.w 267 (20 + ng) 0 (by omega)
    have q2 := q1.w 268 (20 + ng) 0 (by omega)
    obtain ⟨r4, m1, m2, m3⟩ := rgC_F hh hn (q2.w 269 (20 + ng) 0 (by omega)) (by rw [wrI_1, if_neg (by omega), wrI_1, if_neg (by omega), wrI_1, if_neg (by omega), g6.1 _ _ (by omega) (by omega) (by omega)]; exact f10)
    refine ⟨c4, r4, by rw [g1, bnd_some, k1, bnd_some, l1], ?_, (g3.tr k3).tr l3, (((g6.R.tr (sR_w _ _ _ _ (by omega))).tr (sR_w _ _ _ _ (by omega))).tr (sR_w _ _ _ _ (by omega))).tr m3, Or.inl ⟨_, _, l2, m2⟩⟩
    rw [g4, bnd_some, stI_of (by omega) (by decide), r_numeral_F q1, bnd_some, stI_of (by omega) (by decide), stI_of (by omega) (by decide), m1]
theorem ln_going {T : TKD} (w : TKok T) {p i nf np nl ng t b how : Nat} (hp : pOk p) {O : List (Int32 × Int32)} {hc hr : HH} (h : LnS T p i nf np nl ng t b O hc hr) (hh : how < 3) (hk : tK T i = nI (22 + how)) : ∃ hc' hr', g_X6_readLine hc = some ((), hc') ∧ g_X11_line hr = some ((), hr') ∧ LnD T p i hc hr hc' hr' := by
  have hp' : p + 22 ≤ 60 ∧ (p + 22 ≤ 24 ∨ 30 ≤ p) ∧ 2 ≤ p := by rcases hp with rfl | rfl <;> omega
  have h0 := h
  obtain ⟨⟨⟨c1, c2, c3⟩, r, hi⟩, e1, hP, hL, hF⟩ := h
  have hP0 := hP
  obtain ⟨⟨⟨a1, a2, a3⟩, ⟨a4, a5, a6⟩, ⟨a7, a8, a9⟩, a10, a11, a12⟩, aS, aF, aN, _⟩ := hP
  have hk2 : tK T i = nI (17 + (5 + how)) := by rw [hk]; congr 1; omega
  have isF : g_X11_isFull (nI (5 + how)) hr = some (if ng = 20 then 1 else 0, hr) := by
    have hor : nI (5 + how) = 5 ∨ nI (5 + how) = 6 ∨ nI (5 + how) = 7 := by rcases (show how = 0 ∨ how = 1 ∨ how = 2 by omega) with rfl | rfl | rfl <;> decide
    have n0 : ∀ k : Nat, k < 5 → ¬ nI (5 + how) = nI k := fun k hk z => by have := (nI_eq (by omega) (by omega)).mp z; omega
    unfold g_X11_isFull
    rw [if_neg (show ¬ nI (5 + how) = (0 : Int32) from n0 0 (by decide)), if_neg (show ¬ nI (5 + how) = (1 : Int32) from n0 1 (by decide)), if_neg (show ¬ nI (5 + how) = (4 : Int32) from n0 4 (by decide)), if_pos hor, frl3, bnd_some, a11]
    by_cases z : ng = 20
    · rw [if_pos (show nI ng = 20 by rw [z]; rfl), if_pos z]
    · rw [if_neg (show ¬ nI ng = 20 from fun y => z ((nI_eq (b := 20) (by omega) (by decide)).mp y)), if_neg z]
  have st := pOk.s0 p hp
  have c1' : cT T (wrI hc 24 6 1) := c1.k fun a k h1 h2 => by rw [wrI_1, if_neg (by omega)]
  have c2' : (wrI hc 24 6 1).1 24 3 = nI i := by rw [wrI_1, if_neg (by omega)]; exact c2
  have c3' : (wrI hc 24 6 1).1 24 4 = 0 := by rw [wrI_1, if_neg (by omega)]; exact c3
  have open1 : g_X6_readGoing (nI (22 + how)) (wrI hc 24 6 1) = bnd (g_X6_takeWord (nI ng) 20 (wrI hc 24 6 1)) fun _ h3 => bnd (g_X6_knownPerson h3) fun r6 h5 => bnd (g_X6_number (0 : Int32) (99 : Int32) h5) fun r8 h7 => goC (nI (22 + how)) r6 r8 h7 := by
    rw [going_eq]
    simp only [gfI, gfR]
    rw [show (wrI hc 24 6 1).2.2 1 = p from e1, ckH_of st, wrI_1, if_neg (by omega), a10]
  refine ln_word w hp h0 (j := 5 + how) (by omega) (by omega) hk2 (g_X6_readGoing (nI (22 + how))) (g_X11_goingLine (nI how)) ?_ ?_ (ng = 20) isF ?_ ?_
  · rcases (show how = 0 ∨ how = 1 ∨ how = 2 by omega) with rfl | rfl | rfl <;> exact fun x => rfl
  · intro x
    have e : rBd (nI (5 + how)) x = bnd (g_X11_goingLine (nI (5 + how) - 5) x) fun _ y => tlR y := by rcases (show how = 0 ∨ how = 1 ∨ how = 2 by omega) with rfl | rfl | rfl <;> rfl
    rw [e, show (5 : Int32) = nI 5 from rfl, pk_sub (by omega), show 5 + how - 5 = how by omega]
  · intro z
    obtain ⟨h1, f1, f2, f3⟩ := x6_takeWord_N w c1' hi c2' c3' p (a := nI ng) (m := 20) (by rw [z]; decide)
    obtain ⟨h2, g1, g2, g3⟩ := x6_number_F w f2 p 0 99
    obtain ⟨h3, k1, k2, k3⟩ := goC_F w hp (nI (22 + how)) (-1) 0 g2 (by rw [g3.2, f3.2]; exact e1)
    exact ⟨h3, by rw [open1, f1, bnd_some, x6_known_F f2, bnd_some, g1, bnd_some, k1], k2, (f3.tr g3).tr k3⟩
  · intro z r1 m2 hi1 m5
    have hng : ng < 20 := by omega
    have xR : ∀ b k, ¬ (b = 255 ∧ (k = 20 ∨ (23 ≤ k ∧ k ≤ 26))) → ¬ (b = 266 ∧ k = 20 + ng) → (wrI r1 266 (20 + ng) (nI how)).1 b k = hr.1 b k := fun b k z1 z2 => by rw [wrI_1, if_neg z2]; exact m5 b k z1
    have xC : ∀ b k, ¬ (b = 24 ∧ (k = 3 ∨ k = 6)) → (wrI (wrI hc 24 6 1) 24 3 (nI (i + 1))).1 b k = hc.1 b k := fun b k z => by rw [wrI_1, if_neg (by omega), wrI_1, if_neg (by omega)]
    have at1 : At T (i + 1) (wrI (wrI hc 24 6 1) 24 3 (nI (i + 1))) (wrI r1 266 (20 + ng) (nI how)) := ⟨⟨c1'.k fun a k h1 h2 => by rw [wrI_1, if_neg (by omega)], wrI_at _ _ _ _, by rw [wrI_1, if_neg (by omega)]; exact c3'⟩, m2.k (fun k _ _ => by rw [wrI_1, if_neg (by omega)]) (fun k => by rw [wrI_1, if_neg (by omega)]), hi1⟩
    obtain ⟨c', r', y1, y2, y3, y4, y5⟩ := go_3 w hp (how := how) (nf := nf) (np := np) (nl := nl) hh hng a3 a6 a9 at1 e1 (by rw [xC _ _ (by omega)]; exact a1) (by rw [xC _ _ (by omega)]; exact a4) (by rw [xC _ _ (by omega)]; exact a7) (by rw [xC _ _ (by omega)]; exact a10) (by rw [xR _ _ (by omega) (by omega)]; exact a2) (by rw [xR _ _ (by omega) (by omega)]; exact a5) (by rw [xR _ _ (by omega) (by omega)]; exact a8) (by rw [xR _ _ (by omega) (by omega)]; exact a11) (fun a ha => by rw [xC _ _ (by omega), xR _ _ (by omega) (by omega)]; exact (aN a ha).1)
    refine ⟨c', r', ?_, ?_, (sK_24 p _ _ (by omega) (by omega)).tr y3, (sR_w r1 266 (20 + ng) (nI how) (by omega)).tr y4, ?_⟩
    · rw [open1, x6_takeWord w c1' hi c2' (show nI ng < 20 from nI_lt (b := 20) hng (by decide)), bnd_some, y1]
    · rw [rgoing_eq]
      simp only [vl]
      rw [frl3, bnd_some, m5 _ _ (by omega), a11, show (20 : Int32) + nI ng = nI (20 + ng) from nI_add 20 ng, stI_of (by omega) (by decide), y2]
    · rcases y5 with y5 | ⟨a, u, x, j', x1, x2, x3, x4, x5, x6, x7⟩
      · exact Or.inl y5
      · refine Or.inr ⟨j', nf, np, nl, ng + 1, by omega, x3, ?_, ?_, ?_⟩
        · refine hP0.kg hng (fun b k h1 h2 h3 h4 => by rw [x6 b k (by omega) h3 h4, xC b k (by omega)]) (fun b k h1 h2 h3 h4 => by rw [x7 b k (by omega) h3 (by omega), xR b k (by omega) (by omega)]) ⟨x4.2.2.2.2, x5.2.2.2⟩ ⟨how, a, u, x, ⟨hh, x2⟩, ⟨x4.1, ?_⟩, ⟨x4.2.1, x5.1⟩, ⟨x4.2.2.1, x5.2.1⟩, x4.2.2.2.1, x5.2.2.1⟩
          rw [x7 _ _ (by omega) (by omega) (by omega), wrI_at]
        · intro b k z
          rw [x6 b k (by omega) (by omega) (by omega), wrI_1, if_neg (by omega)]
        · intro b k z
          rw [x7 b k (by omega) (by omega) (by omega), wrI_1, if_neg (by omega)]
