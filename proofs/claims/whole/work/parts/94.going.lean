/-! a line that tells a going -/
def goS (a0 r6 r8 u12 : Int32) (h11 : HH) : Option (Unit × HH) :=
    gfI h11 24 4 fun v13 =>
    if v13 = 0 then
      (gfR h11 1 fun p14 => ckH p14 (.inl 5) (
      gfR h11 1 fun p15 => ckH p15 (.inl 5) (
      gfI h11 p15 9 fun v16 =>
      stI h11 (p14 + 7) 20 v16 a0 fun h17 =>
      gfR h17 1 fun p18 => ckH p18 (.inl 5) (
      gfR h17 1 fun p19 => ckH p19 (.inl 5) (
      gfI h17 p19 9 fun v20 =>
      stI h17 (p18 + 8) 20 v20 r6 fun h21 =>
      gfR h21 1 fun p22 => ckH p22 (.inl 5) (
      gfR h21 1 fun p23 => ckH p23 (.inl 5) (
      gfI h21 p23 9 fun v24 =>
      stI h21 (p22 + 9) 20 v24 r8 fun h25 =>
      gfR h25 1 fun p26 => ckH p26 (.inl 5) (
      gfR h25 1 fun p27 => ckH p27 (.inl 5) (
      gfI h25 p27 9 fun v28 =>
      stI h25 (p26 + 10) 20 v28 u12 fun h29 =>
      gfR h29 1 fun p30 => ckH p30 (.inl 5) (
      gfI h29 p30 9 fun v31 =>
      pfI h29 p30 9 (v31 + (1 : Int32)) fun h32 =>
      some ((), h32)))))))))))
    else
      (some ((), h11))
def goC (a0 r6 r8 : Int32) (h7 : HH) : Option (Unit × HH) :=
  if a0 = (22 : Int32) then
    (gfR h7 1 fun p33 => ckH p33 (.inl 5) (
    gfI h7 p33 0 fun v34 =>
    bnd (g_X6_number (0 : Int32) v34 h7) fun r36 h35 => 
    goS a0 r6 r8 r36 h35))
  else
    (if a0 = (23 : Int32) then
      (bnd (g_X6_look (0 : Int32) (5 : Int32) h7) fun r38 h37 => 
      gfI h37 24 4 fun v39 =>
      if v39 = 0 then
        (gfR h37 1 fun p45 => ckH p45 (.inl 5) (
        gfI h37 p45 5 fun v46 =>
        if r38 < v46 then
          (bnd (g_X6_advance h37) fun _ h43 => goS a0 r6 r8 r38 h43)
        else
          (bnd (g_X6_fail (4 : Int32) h37) fun _ h47 => 
          bnd (g_X6_advance h47) fun _ h43 => goS a0 r6 r8 r38 h43)))
      else
        (bnd (g_X6_advance h37) fun _ h43 => goS a0 r6 r8 r38 h43))
    else
      (goS a0 r6 r8 (0 : Int32) h7))
theorem going_eq (a0 : Int32) (h : HH) : g_X6_readGoing a0 h = gfR h 1 fun p1 => ckH p1 (.inl 5) (gfI h p1 9 fun v2 => bnd (g_X6_takeWord v2 (20 : Int32) h) fun _ h3 => bnd (g_X6_knownPerson h3) fun r6 h5 => bnd (g_X6_number (0 : Int32) (99 : Int32) h5) fun r8 h7 => goC a0 r6 r8 h7) := rfl
def rgE (h17 : HH) : Option (Unit × HH) :=
      bnd (g_X11_fresher (3 : Int32) h17) fun r19 h18 => 
      bnd (g_X11_reads (3 : Int32) (r19 + (1 : Int32)) h18) fun _ h20 => 
      some ((), h20)
def rgX (a0 v3 : Int32) (h14 : HH) : Option (Unit × HH) :=
    if a0 < (2 : Int32) then
      (if a0 = 0 then
        (bnd (g_X11_fresher (0 : Int32) h14) fun r30 h29 => 
        bnd (g_X11_numeral (0 : Int32) r30 h29) fun r27 h26 => 
        stI h26 269 40 v3 r27 fun h28 => rgE h28)
      else
        (bnd (g_X11_numeral (0 : Int32) (5 : Int32) h14) fun r27 h26 => 
        stI h26 269 40 v3 r27 fun h28 => rgE h28))
    else
      (rgE h14)
def rgC (a0 v3 : Int32) (h11 : HH) : Option (Unit × HH) :=
  if a0 = (1 : Int32) then
    (gfI h11 255 27 fun v31 =>
    if v31 = 0 then
      (gfI h11 255 25 fun v32 =>
      if v32 = (2 : Int32) then
        (gfI h11 255 26 fun v33 =>
        if v33 < (6 : Int32) then
          (gfI h11 255 26 fun v34 =>
          bnd (g_X11_fresher (2 : Int32) h11) fun r36 h35 => 
          if v34 < r36 then
            (rgX a0 v3 h35)
          else
            (bnd (g_X11_wrong (4 : Int32) h35) fun _ h37 => 
            rgX a0 v3 h37))
        else
          (rgX a0 v3 h11))
      else
        (rgX a0 v3 h11))
    else
      (rgX a0 v3 h11))
  else
    (rgX a0 v3 h11)
theorem rgoing_eq (a0 : Int32) (h : HH) : g_X11_goingLine a0 h = bnd (g_X11_fresher (3 : Int32) h) fun r2 h1 => 
  vl (((20 : Int32) + r2)) fun v3 =>
  stI h1 266 40 v3 a0 fun h4 =>
  bnd (g_X11_personAhead h4) fun r6 h5 => 
  stI h5 267 40 v3 r6 fun h7 =>
  bnd (g_X11_numeral (0 : Int32) (99 : Int32) h7) fun r9 h8 => 
  stI h8 268 40 v3 r9 fun h10 =>
  stI h10 269 40 v3 (0 : Int32) fun h11 => rgC a0 v3 h11 := rfl
theorem goS_F {T : TKD} {h : HH} {f : Int32} {q : Nat} (c : cF T f q h) (a0 r6 r8 u : Int32) : goS a0 r6 r8 u h = some ((), h) := by
  unfold goS
  simp only [gfI]
  rw [if_neg c.n]
theorem goC_F {T : TKD} (w : TKok T) {p : Nat} (hp : pOk p) (a0 r6 r8 : Int32) {h : HH} {f : Int32} {q : Nat} (c : cF T f q h) (e1 : h.2.2 1 = p) : ∃ h', goC a0 r6 r8 h = some ((), h') ∧ cF T f q h' ∧ sK p h h' := by
  unfold goC
  simp only [gfI, gfR]
  by_cases z : a0 = 22
  · obtain ⟨h2, g1, g2, g3⟩ := x6_number_F w c p 0 (h.1 p 0)
    exact ⟨h2, by rw [if_pos z, e1, ckH_of (pOk.s0 p hp), g1, bnd_some, goS_F g2], g2, g3⟩
  · by_cases y : a0 = 23
    · obtain ⟨h2, g1, g2, g3⟩ := x6_advF w c p
      exact ⟨h2, by rw [if_neg z, if_pos y, x6_look_F c, bnd_some, if_neg c.n, g1, bnd_some, goS_F g2], g2, g3⟩
    · exact ⟨h, by rw [if_neg z, if_neg y, goS_F c], c, sK_rf p h⟩
theorem rgE_ok {ng : Nat} {h : HH} (e : h.1 257 10 = nI ng) : rgE h = some ((), wrI h 257 10 (nI (ng + 1))) := by
  unfold rgE
  rw [frl3, bnd_some, e, nI_1, show g_X11_reads 3 (nI (ng + 1)) h = _ from rd_of (w := 3) (by decide) _, bnd_some]
theorem rgX_F {how ng : Nat} (hh : how < 3) (hn : ng < 20) {f : Int32} {q : Nat} {h : HH} (c : rF f q h) (e : h.1 257 10 = nI ng) : ∃ h', rgX (nI how) (nI (20 + ng)) h = some ((), h') ∧ rF f q h' ∧ sR h h' := by
  have e9 : ∀ x, (wrI h 269 (20 + ng) x).1 257 10 = nI ng := fun x => by rw [wrI_1, if_neg (by omega)]; exact e
  unfold rgX
  by_cases z : how < 2
  · rw [if_pos (show nI how < 2 from nI_lt (b := 2) z (by decide))]
    by_cases y : how = 0
    · refine ⟨wrI (wrI h 269 (20 + ng) 0) 257 10 (nI (ng + 1)), ?_, (c.w _ _ _ (by omega)).w _ _ _ (by omega), (sR_w _ _ _ _ (by omega)).tr (sR_w _ _ _ _ (by omega))⟩
      rw [if_pos (by rw [y]; rfl), frl0, bnd_some, r_numeral_F c, bnd_some, stI_of (by omega) (by decide), rgE_ok (e9 _)]
    · refine ⟨wrI (wrI h 269 (20 + ng) 0) 257 10 (nI (ng + 1)), ?_, (c.w _ _ _ (by omega)).w _ _ _ (by omega), (sR_w _ _ _ _ (by omega)).tr (sR_w _ _ _ _ (by omega))⟩
      rw [if_neg (nI_ne0 (by omega) (by omega)), r_numeral_F c, bnd_some, stI_of (by omega) (by decide), rgE_ok (e9 _)]
  · refine ⟨wrI h 257 10 (nI (ng + 1)), ?_, c.w _ _ _ (by omega), sR_w _ _ _ _ (by omega)⟩
    rw [if_neg (show ¬ nI how < 2 from nI_nlt (b := 2) (by omega) (by omega)), rgE_ok e]
theorem rgC_F {how ng : Nat} (hh : how < 3) (hn : ng < 20) {f : Int32} {q : Nat} {h : HH} (c : rF f q h) (e : h.1 257 10 = nI ng) : ∃ h', rgC (nI how) (nI (20 + ng)) h = some ((), h') ∧ rF f q h' ∧ sR h h' := by
  obtain ⟨h', f1, f2⟩ := rgX_F hh hn c e
  refine ⟨h', ?_, f2⟩
  unfold rgC
  simp only [gfI]
  by_cases z : nI how = 1
  · rw [if_pos z, if_neg c.n, f1]
  · rw [if_neg z, f1]
theorem goS_ok {p ng : Nat} (hp : pOk p) (hn : ng < 20) (a0 r6 r8 u : Int32) {h : HH} (e1 : h.2.2 1 = p) (e0 : h.1 24 4 = 0) (e9 : h.1 p 9 = nI ng) : goS a0 r6 r8 u h = some ((), wrI (wrI (wrI (wrI (wrI h (p + 7) ng a0) (p + 8) ng r6) (p + 9) ng r8) (p + 10) ng u) p 9 (nI (ng + 1))) := by
  have hp' : p + 22 ≤ 60 ∧ (p + 22 ≤ 24 ∨ 30 ≤ p) ∧ 2 ≤ p := by rcases hp with rfl | rfl <;> omega
  have st := pOk.s0 p hp
  unfold goS
  simp only [gfI, gfR, pfI]
  rw [e0, if_pos rfl, e1, ckH_of st, ckH_of st, e9, stI_of hn (by decide)]
  rw [show (wrI h (p + 7) ng a0).2.2 1 = p from e1, ckH_of st, ckH_of st, wrI_1 h (p + 7) ng a0 p 9, if_neg (by omega), e9, stI_of hn (by decide)]
  rw [show (wrI (wrI h (p + 7) ng a0) (p + 8) ng r6).2.2 1 = p from e1, ckH_of st, ckH_of st, wrI_1 _ (p + 8) ng r6 p 9, if_neg (by omega), wrI_1 h (p + 7) ng a0 p 9, if_neg (by omega), e9, stI_of hn (by decide)]
  rw [show (wrI (wrI (wrI h (p + 7) ng a0) (p + 8) ng r6) (p + 9) ng r8).2.2 1 = p from e1, ckH_of st, ckH_of st, wrI_1 _ (p + 9) ng r8 p 9, if_neg (by omega), wrI_1 _ (p + 8) ng r6 p 9, if_neg (by omega), wrI_1 h (p + 7) ng a0 p 9, if_neg (by omega), e9, stI_of hn (by decide)]
  rw [show (wrI (wrI (wrI (wrI h (p + 7) ng a0) (p + 8) ng r6) (p + 9) ng r8) (p + 10) ng u).2.2 1 = p from e1, ckH_of st, wrI_1 _ (p + 10) ng u p 9, if_neg (by omega), wrI_1 _ (p + 9) ng r8 p 9, if_neg (by omega), wrI_1 _ (p + 8) ng r6 p 9, if_neg (by omega), wrI_1 h (p + 7) ng a0 p 9, if_neg (by omega), e9, nI_1]
/-- what a going told leaves -/
def GoD (T : TKD) (p i how a u ng nf nl : Nat) (C R c' r' : HH) : Prop := (∃ f q, cF T f q c' ∧ rF f q r') ∨ ∃ x j', i ≤ j' ∧ (x ≤ 6 ∧ (how = 0 → x ≤ nf) ∧ (how = 1 → x < nl)) ∧ At T j' c' r' ∧ (c'.1 (p + 7) ng = nI (22 + how) ∧ c'.1 (p + 8) ng = nI a ∧ c'.1 (p + 9) ng = nI u ∧ c'.1 (p + 10) ng = nI x ∧ c'.1 p 9 = nI (ng + 1)) ∧ (r'.1 269 (20 + ng) = nI x ∧ r'.1 257 10 = nI (ng + 1)) ∧ (∀ b k, ¬ (b = 24 ∧ k = 3) → ¬ (b = p ∧ k = 9) → ¬ ((p + 7 ≤ b ∧ b ≤ p + 10) ∧ k = ng) → c'.1 b k = C.1 b k) ∧ ∀ b k, ¬ (b = 255 ∧ (23 ≤ k ∧ k ≤ 26)) → ¬ (b = 257 ∧ k = 10) → ¬ (b = 269 ∧ k = 20 + ng) → r'.1 b k = R.1 b k
/-- the class's row written -/
def goW (p ng : Nat) (a0 r6 r8 u : Int32) (h : HH) : HH := wrI (wrI (wrI (wrI (wrI h (p + 7) ng a0) (p + 8) ng r6) (p + 9) ng r8) (p + 10) ng u) p 9 (nI (ng + 1))
theorem goW_at {p ng : Nat} (a0 r6 r8 u : Int32) (h : HH) : (goW p ng a0 r6 r8 u h).1 (p + 7) ng = a0 ∧ (goW p ng a0 r6 r8 u h).1 (p + 8) ng = r6 ∧ (goW p ng a0 r6 r8 u h).1 (p + 9) ng = r8 ∧ (goW p ng a0 r6 r8 u h).1 (p + 10) ng = u ∧ (goW p ng a0 r6 r8 u h).1 p 9 = nI (ng + 1) := by
  unfold goW
  exact ⟨by rw [wrI_1, if_neg (by omega), wrI_1, if_neg (by omega), wrI_1, if_neg (by omega), wrI_1, if_neg (by omega), wrI_at], by rw [wrI_1, if_neg (by omega), wrI_1, if_neg (by omega), wrI_1, if_neg (by omega), wrI_at], by rw [wrI_1, if_neg (by omega), wrI_1, if_neg (by omega), wrI_at], by rw [wrI_1, if_neg (by omega), wrI_at], wrI_at _ _ _ _⟩
theorem goW_x {p ng : Nat} (a0 r6 r8 u : Int32) (h : HH) {b k : Nat} (h1 : ¬ (b = p ∧ k = 9)) (h2 : ¬ ((p + 7 ≤ b ∧ b ≤ p + 10) ∧ k = ng)) : (goW p ng a0 r6 r8 u h).1 b k = h.1 b k := by
  unfold goW
  rw [wrI_1, if_neg (by omega), wrI_1, if_neg (by omega), wrI_1, if_neg (by omega), wrI_1, if_neg (by omega), wrI_1, if_neg (by omega)]
theorem goW_s {p ng : Nat} (a0 r6 r8 u : Int32) (h : HH) : sK p h (goW p ng a0 r6 r8 u h) := ((((sK_p p _ _ _ (by omega) (by omega)).tr (sK_p p _ _ _ (by omega) (by omega))).tr (sK_p p _ _ _ (by omega) (by omega))).tr (sK_p p _ _ _ (by omega) (by omega))).tr (sK_p p _ _ _ (by omega) (by omega))
theorem goW_A {T : TKD} {p ng j : Nat} (hp : pOk p) {a0 r6 r8 u : Int32} {C R : HH} (h : At T j C R) : At T j (goW p ng a0 r6 r8 u C) R := by
  have hp' : p + 22 ≤ 60 ∧ (p + 22 ≤ 24 ∨ 30 ≤ p) ∧ 2 ≤ p := by rcases hp with rfl | rfl <;> omega
  obtain ⟨⟨c1, c2, c3⟩, r, hi⟩ := h
  exact ⟨⟨c1.k fun a k h1 h2 => goW_x _ _ _ _ _ (by omega) (by omega), by rw [goW_x _ _ _ _ _ (by omega) (by omega)]; exact c2, by rw [goW_x _ _ _ _ _ (by omega) (by omega)]; exact c3⟩, r, hi⟩
/-- the last number of a going, told well -/
theorem go_end {T : TKD} {p i how a u ng nf nl x j' : Nat} (hp : pOk p) (hn : ng < 20) {C R C1 R1 : HH} (a1 : At T j' C1 R1) (hij : i ≤ j') (hx : x ≤ 6 ∧ (how = 0 → x ≤ nf) ∧ (how = 1 → x < nl)) (xC : ∀ b k, ¬ (b = 24 ∧ k = 3) → C1.1 b k = C.1 b k) (xR : ∀ b k, ¬ (b = 255 ∧ (23 ≤ k ∧ k ≤ 26)) → ¬ (b = 269 ∧ k = 20 + ng) → R1.1 b k = R.1 b k) (e269 : R1.1 269 (20 + ng) = nI x) : GoD T p i how a u ng nf nl C R (goW p ng (nI (22 + how)) (nI a) (nI u) (nI x) C1) (wrI R1 257 10 (nI (ng + 1))) := by
  have a2 := goW_A (p := p) (ng := ng) (a0 := nI (22 + how)) (r6 := nI a) (r8 := nI u) (u := nI x) hp a1
  obtain ⟨k1, k2, k3⟩ := a2
  refine Or.inr ⟨x, j', hij, hx, ⟨k1, k2.k (fun k _ _ => by rw [wrI_1, if_neg (by omega)]) (fun k => by rw [wrI_1, if_neg (by omega)]), k3⟩, goW_at _ _ _ _ _, ⟨by rw [wrI_1, if_neg (by omega)]; exact e269, wrI_at _ _ _ _⟩, fun b k h1 h2 h3 => by rw [goW_x _ _ _ _ _ h2 h3]; exact xC b k h1, fun b k h1 h2 h3 => by rw [wrI_1, if_neg h2]; exact xR b k h1 h3⟩
theorem go_2 {T : TKD} (w : TKok T) {p i how a u ng nf nl : Nat} (hp : pOk p) (hh : how < 3) (hn : ng < 20) (hnf : nf ≤ 6) (hnl : nl ≤ 6) {C R : HH} (at0 : At T i C R) (e1 : C.2.2 1 = p) (a0 : C.1 p 0 = nI nf) (a5 : C.1 p 5 = nI nl) (a9 : C.1 p 9 = nI ng) (f7 : R.1 257 7 = nI nf) (f9 : R.1 257 9 = nI nl) (f10 : R.1 257 10 = nI ng) (e269 : R.1 269 (20 + ng) = nI 0) :
    ∃ c' r', goC (nI (22 + how)) (nI a) (nI u) C = some ((), c') ∧ rgC (nI how) (nI (20 + ng)) R = some ((), r') ∧ sK p C c' ∧ sR R r' ∧ GoD T p i how a u ng nf nl C R c' r' := by
  have hp' : p + 22 ≤ 60 ∧ (p + 22 ≤ 24 ∨ 30 ≤ p) ∧ 2 ≤ p := by rcases hp with rfl | rfl <;> omega
  have st := pOk.s0 p hp
  have at1 := at0
  obtain ⟨⟨c1, c2, c3⟩, r, hi⟩ := at1
  have c1' : cT T (wrI C 24 3 (nI (i + 1))) := c1.k fun a k h1 h2 => by rw [wrI_1, if_neg (by omega)]
  have sA : sK p C (wrI C 24 3 (nI (i + 1))) := sK_24 p C _ (by omega) (by omega)
  have xA : ∀ b k, ¬ (b = 24 ∧ k = 3) → (wrI C 24 3 (nI (i + 1))).1 b k = C.1 b k := fun b k z => by rw [wrI_1, if_neg z]
  rcases (show how = 0 ∨ how = 1 ∨ how = 2 by omega) with rfl | rfl | rfl
  · -- by foot
    rcases P_num w at0 (lo := 0) (hi := nI nf) (by decide) (nI_le (b := 99999) (by omega) (by decide)) p with ⟨v, r2, v1, v2, v3, v4, v5, v6, v7⟩ | ⟨f, c2', r2, g1, g2, g3, g4, g5, g6⟩
    · have hv : v ≤ nf := nI_nl (by omega) (by omega) v3
      obtain ⟨⟨d1, d2, d3⟩, d4, d5⟩ := v7
      have e10 : (wrI r2 269 (20 + ng) (nI v)).1 257 10 = nI ng := by rw [wrI_1, if_neg (by omega), v6.1 _ _ (by omega)]; exact f10
      refine ⟨goW p ng (nI (22 + 0)) (nI a) (nI u) (nI v) (wrI C 24 3 (nI (i + 1))), wrI (wrI r2 269 (20 + ng) (nI v)) 257 10 (nI (ng + 1)), ?_, ?_, sA.tr (goW_s _ _ _ _ _), (v6.R.tr (sR_w _ _ _ _ (by omega))).tr (sR_w _ _ _ _ (by omega)), go_end hp hn (j' := i + 1) ⟨⟨d1, d2, d3⟩, d4.k (fun k _ _ => by rw [wrI_1, if_neg (by omega)]) (fun k => by rw [wrI_1, if_neg (by omega)]), d5⟩ (by omega) ⟨by omega, fun _ => hv, fun z => by omega⟩ xA (fun b k h1 h2 => by rw [wrI_1, if_neg h2, v6.1 _ _ h1]) (wrI_at _ _ _ _)⟩
      · unfold goC
        simp only [gfI, gfR]
        rw [if_pos (show nI (22 + 0) = 22 from rfl), e1, ckH_of st, a0, v4, bnd_some, goS_ok hp hn _ _ _ _ (show (wrI C 24 3 (nI (i + 1))).2.2 1 = p from e1) d3 (by rw [wrI_1, if_neg (by omega)]; exact a9)]
        rfl
      · unfold rgC rgX
        rw [if_neg (show ¬ nI 0 = 1 by decide), if_pos (show nI 0 < 2 by decide), if_pos (show nI 0 = 0 from rfl), frl0, bnd_some, f7, v5, bnd_some, stI_of (by omega) (by decide), rgE_ok e10]
    · have e10 : (wrI r2 269 (20 + ng) 0).1 257 10 = nI ng := by rw [wrI_1, if_neg (by omega), g6.1 _ _ (by omega) (by omega) (by omega)]; exact f10
      refine ⟨c2', wrI (wrI r2 269 (20 + ng) 0) 257 10 (nI (ng + 1)), ?_, ?_, g3, (g6.R.tr (sR_w _ _ _ _ (by omega))).tr (sR_w _ _ _ _ (by omega)), Or.inl ⟨_, _, g2, (g5.w _ _ _ (by omega)).w _ _ _ (by omega)⟩⟩
      · unfold goC
        simp only [gfI, gfR]
        rw [if_pos (show nI (22 + 0) = 22 from rfl), e1, ckH_of st, a0, g1, bnd_some, goS_F g2]
      · unfold rgC rgX
        rw [if_neg (show ¬ nI 0 = 1 by decide), if_pos (show nI 0 < 2 by decide), if_pos (show nI 0 = 0 from rfl), frl0, bnd_some, f7, g4, bnd_some, stI_of (by omega) (by decide), rgE_ok e10]
  · -- by ladder
    rcases P_look w at0 (lo := 0) (hi := 5) (by decide) (by decide) p with ⟨v, v1, v2, v3, v4, s25, s26, hk0, r2, v5, v6, v7, v8⟩ | ⟨f, c2', r2, f0, g1, g2, g3, g3', g4, g5, g6, g7, _⟩
    · have hv : v ≤ 5 := nI_nl (a := 5) (by decide) (by omega) v3
      by_cases hlt : v < nl
      · have e10 : (wrI r2 269 (20 + ng) (nI v)).1 257 10 = nI ng := by rw [wrI_1, if_neg (by omega), v6.1 _ _ (by omega)]; exact f10
        refine ⟨goW p ng (nI (22 + 1)) (nI a) (nI u) (nI v) (wrI C 24 3 (nI (i + 1))), wrI (wrI r2 269 (20 + ng) (nI v)) 257 10 (nI (ng + 1)), ?_, ?_, sA.tr (goW_s _ _ _ _ _), (v6.R.tr (sR_w _ _ _ _ (by omega))).tr (sR_w _ _ _ _ (by omega)), go_end hp hn (j' := i + 1) ⟨⟨c1', wrI_at _ _ _ _, by rw [wrI_1, if_neg (by omega)]; exact c3⟩, v7.k (fun k _ _ => by rw [wrI_1, if_neg (by omega)]) (fun k => by rw [wrI_1, if_neg (by omega)]), v8⟩ (by omega) ⟨by omega, fun z => by omega, fun _ => hlt⟩ xA (fun b k h1 h2 => by rw [wrI_1, if_neg h2, v6.1 _ _ h1]) (wrI_at _ _ _ _)⟩
        · unfold goC
          simp only [gfI, gfR]
          rw [if_neg (show ¬ nI (22 + 1) = 22 by decide), if_pos (show nI (22 + 1) = 23 from rfl), v4, bnd_some, c3, if_pos rfl, e1, ckH_of st, a5, if_pos (show nI v < nI nl from nI_lt hlt (by omega)), x6_adv w c1 hi c2, bnd_some, goS_ok hp hn _ _ _ _ (show (wrI C 24 3 (nI (i + 1))).2.2 1 = p from e1) (by rw [wrI_1, if_neg (by omega)]; exact c3) (by rw [wrI_1, if_neg (by omega)]; exact a9)]
          rfl
        · unfold rgC rgX
          simp only [gfI]
          rw [if_pos (show nI 1 = 1 from rfl), r.2.2.2.2, if_pos rfl, s25, if_pos rfl, s26, if_pos (show nI v < 6 from nI_lt (b := 6) (by omega) (by decide)), frl2, bnd_some, f9, if_pos (show nI v < nI nl from nI_lt hlt (by omega)), if_pos (show nI 1 < 2 by decide), if_neg (show ¬ nI 1 = 0 by decide), v5, bnd_some, stI_of (by omega) (by decide), rgE_ok e10]
      · obtain ⟨h2, k1, k2, k3⟩ := x6_failT w c1 hi c2 4 c3 (by decide) p
        obtain ⟨h3, l1, l2, l3⟩ := x6_advF w k2 p
        obtain ⟨r3, m1, m2, m3⟩ := rF.e r 4 (by decide)
        obtain ⟨r4, n1, n2, n3⟩ := rgX_F (how := 1) (by decide) hn m2 (by rw [m3.1 _ _ (by omega) (by omega) (by omega)]; exact f10)
        refine ⟨h3, r4, ?_, ?_, k3.tr l3, m3.R.tr n3, Or.inl ⟨_, _, l2, n2⟩⟩
        · unfold goC
          simp only [gfI, gfR]
          rw [if_neg (show ¬ nI (22 + 1) = 22 by decide), if_pos (show nI (22 + 1) = 23 from rfl), v4, bnd_some, c3, if_pos rfl, e1, ckH_of st, a5, if_neg (show ¬ nI v < nI nl from nI_nlt (by omega) (by omega)), k1, bnd_some, l1, bnd_some, goS_F l2]
        · unfold rgC
          simp only [gfI]
          rw [if_pos (show nI 1 = 1 from rfl), r.2.2.2.2, if_pos rfl, s25, if_pos rfl, s26, if_pos (show nI v < 6 from nI_lt (b := 6) (by omega) (by decide)), frl2, bnd_some, f9, if_neg (show ¬ nI v < nI nl from nI_nlt (by omega) (by omega)), m1, bnd_some, n1]
    · obtain ⟨h3, l1, l2, l3⟩ := x6_advF w g2 p
      have e10 : (wrI r2 269 (20 + ng) 0).1 257 10 = nI ng := by rw [wrI_1, if_neg (by omega), g6.1 _ _ (by omega) (by omega) (by omega)]; exact f10
      refine ⟨h3, wrI (wrI r2 269 (20 + ng) 0) 257 10 (nI (ng + 1)), ?_, ?_, g3.tr l3, (g6.R.tr (sR_w _ _ _ _ (by omega))).tr (sR_w _ _ _ _ (by omega)), Or.inl ⟨_, _, l2, (g5.w _ _ _ (by omega)).w _ _ _ (by omega)⟩⟩
      · unfold goC
        simp only [gfI, gfR]
        rw [if_neg (show ¬ nI (22 + 1) = 22 by decide), if_pos (show nI (22 + 1) = 23 from rfl), g1, bnd_some, if_neg g2.n, l1, bnd_some, goS_F l2]
      · have tl : rgX (nI 1) (nI (20 + ng)) R = some ((), wrI (wrI r2 269 (20 + ng) 0) 257 10 (nI (ng + 1))) := by
          unfold rgX
          rw [if_pos (show nI 1 < 2 by decide), if_neg (show ¬ nI 1 = 0 by decide), g4, bnd_some, stI_of (by omega) (by decide), rgE_ok e10]
        unfold rgC
        simp only [gfI]
        rw [if_pos (show nI 1 = 1 from rfl), r.2.2.2.2, if_pos rfl]
        by_cases s2 : R.1 255 25 = 2
        · rw [if_pos s2]
          by_cases s6 : R.1 255 26 < 6
          · rw [if_pos s6, frl2, bnd_some, f9]
            rcases g7 s2 with y | y
            · rw [if_pos (Int32.lt_of_lt_of_le y (nI_le (a := 0) (Nat.zero_le _) (by omega))), tl]
            · exact absurd y (by rw [Int32.not_lt]; rw [Int32.lt_iff_toInt_lt] at s6; rw [Int32.le_iff_toInt_le]; exact Int.lt_add_one_iff.mp s6)
          · rw [if_neg s6, tl]
        · rw [if_neg s2, tl]
  · -- by the window
    refine ⟨goW p ng (nI (22 + 2)) (nI a) (nI u) (nI 0) C, wrI R 257 10 (nI (ng + 1)), ?_, ?_, goW_s _ _ _ _ _, sR_w _ _ _ _ (by omega), go_end hp hn (j' := i) at0 (Nat.le_refl _) ⟨by omega, fun z => by omega, fun z => by omega⟩ (fun _ _ _ => rfl) (fun _ _ _ _ => rfl) e269⟩
    · unfold goC
      rw [if_neg (show ¬ nI (22 + 2) = 22 by decide), if_neg (show ¬ nI (22 + 2) = 23 by decide), show (0 : Int32) = nI 0 from rfl, goS_ok hp hn _ _ _ _ e1 c3 a9]
      rfl
    · unfold rgC rgX
      rw [if_neg (show ¬ nI 2 = 1 by decide), if_neg (show ¬ nI 2 < 2 by decide), rgE_ok f10]
