/-! a line that tells a person -/
def pnC (K : Int32 → HH → Option (Unit × HH)) (h3 : HH) : Option (Unit × HH) :=
  bnd (g_X6_value h3) fun r6 h5 => 
  bnd (g_X6_kind h5) fun r8 h7 => 
  if r8 = (3 : Int32) then
    (gfR h7 1 fun p36 => ckH p36 (.inl 5) (
    bnd (g_X5_personOf p36 r6 h7) fun r38 h37 => 
    if r38 = (-1 : Int32) then
      (bnd (g_X6_advance h37) fun _ h12 => K r6 h12)
    else
      (bnd (g_X6_fail (3 : Int32) h37) fun _ h39 => 
      bnd (g_X6_advance h39) fun _ h12 => K r6 h12)))
  else
    (bnd (g_X6_fail (1 : Int32) h7) fun _ h41 => 
    bnd (g_X6_advance h41) fun _ h12 => K r6 h12)
def pnR (r6 : Int32) (h12 : HH) : Option (Unit × HH) :=
    gfR h12 1 fun p14 => ckH p14 (.inl 5) (
    gfI h12 p14 0 fun v15 =>
    bnd (g_X6_number (0 : Int32) v15 h12) fun r17 h16 => 
    bnd (g_X6_number (0 : Int32) (99 : Int32) h16) fun r19 h18 => 
    gfI h18 24 4 fun v20 =>
    if v20 = 0 then
      (gfR h18 1 fun p21 => ckH p21 (.inl 5) (
      gfR h18 1 fun p22 => ckH p22 (.inl 5) (
      gfI h18 p22 2 fun v23 =>
      stI h18 (p21 + 2) 6 v23 r6 fun h24 =>
      gfR h24 1 fun p25 => ckH p25 (.inl 5) (
      gfR h24 1 fun p26 => ckH p26 (.inl 5) (
      gfI h24 p26 2 fun v27 =>
      stI h24 (p25 + 3) 6 v27 r19 fun h28 =>
      gfR h28 1 fun p29 => ckH p29 (.inl 5) (
      gfR h28 1 fun p30 => ckH p30 (.inl 5) (
      gfI h28 p30 2 fun v31 =>
      stI h28 (p29 + 17) 6 v31 r17 fun h32 =>
      gfR h32 1 fun p33 => ckH p33 (.inl 5) (
      gfI h32 p33 2 fun v34 =>
      pfI h32 p33 2 (v34 + (1 : Int32)) fun h35 =>
      some ((), h35)))))))))
    else
      (some ((), h18)))
theorem person_eq (h : HH) : g_X6_readPerson h = gfR h 1 fun p1 => ckH p1 (.inl 5) (gfI h p1 2 fun v2 => bnd (g_X6_takeWord v2 (6 : Int32) h) fun _ h3 => pnC pnR h3) := rfl
def prE (h19 : HH) : Option (Unit × HH) :=
    bnd (g_X11_fresher (1 : Int32) h19) fun r21 h20 => 
    bnd (g_X11_reads (1 : Int32) (r21 + (1 : Int32)) h20) fun _ h22 => 
    some ((), h22)
def prR (v3 : Int32) (h8 : HH) : Option (Unit × HH) :=
  bnd (g_X11_fresher (0 : Int32) h8) fun r10 h9 => 
  bnd (g_X11_numeral (0 : Int32) r10 h9) fun r12 h11 => 
  stI h11 260 12 v3 r12 fun h13 =>
  bnd (g_X11_numeral (0 : Int32) (99 : Int32) h13) fun r15 h14 => 
  stI h14 261 12 v3 r15 fun h16 =>
  g_X11_personLine_L61 prE v3 1024 (0 : Int32) h16
theorem rperson_eq (h : HH) : g_X11_personLine h = bnd (g_X11_fresher (1 : Int32) h) fun r2 h1 => 
  vl (((6 : Int32) + r2)) fun v3 =>
  bnd (g_X11_fresher (1 : Int32) h1) fun r5 h4 => 
  bnd (g_X11_fresh (6 : Int32) r5 h4) fun r7 h6 => 
  stI h6 259 12 v3 r7 fun h8 => prR v3 h8 := rfl
theorem r_zero (K : HH → Option (Unit × HH)) {np : Nat} (hn : np < 6) : ∀ (m x N : Nat) (h : HH), x + m = 6 → m < N → ∃ h', g_X11_personLine_L61 K (nI (6 + np)) N (nI x) h = K h' ∧ (∀ a k, ¬ (a = 262 ∧ 36 + 6 * np + x ≤ k ∧ k < 36 + 6 * np + 6) → h'.1 a k = h.1 a k) ∧ (∀ k, 36 + 6 * np + x ≤ k → k < 36 + 6 * np + 6 → h'.1 262 k = 0) ∧ h'.2 = h.2
  | 0, x, N, h, hx, hN => by
    obtain ⟨N', rfl⟩ : ∃ n, N = n + 1 := ⟨N - 1, by omega⟩
    refine ⟨h, ?_, fun _ _ _ => rfl, fun k h1 h2 => by omega, rfl⟩
    rw [g_X11_personLine_L61, if_neg (show ¬ nI x < 6 from nI_nlt (b := 6) (by omega) (by omega))]
  | m + 1, x, N, h, hx, hN => by
    obtain ⟨N', rfl⟩ : ∃ n, N = n + 1 := ⟨N - 1, by omega⟩
    obtain ⟨h', f1, f2, f3, f4⟩ := r_zero K hn m (x + 1) N' (wrI h 262 (36 + 6 * np + x) 0) (by omega) (by omega)
    refine ⟨h', ?_, fun a k z => ?_, fun k h1 h2 => ?_, f4⟩
    · rw [g_X11_personLine_L61, if_pos (show nI x < 6 from nI_lt (b := 6) (by omega) (by decide)), show (6 : Int32) * nI (6 + np) = nI (6 * (6 + np)) from nI_mul 6 _, nI_add, show 6 * (6 + np) + x = 36 + 6 * np + x by omega, stI_of (by omega) (by decide)]
      simp only [vl]
      rw [nI_1, f1]
    · rw [f2 a k (by omega), wrI_1, if_neg (by omega)]
    · by_cases z : k = 36 + 6 * np + x
      · rw [f2 262 k (by omega), z, wrI_at]
      · exact f3 k (by omega) h2
theorem sR_z {np : Nat} {h h' : HH} (f2 : ∀ a k, ¬ (a = 262 ∧ 36 + 6 * np + 0 ≤ k ∧ k < 36 + 6 * np + 6) → h'.1 a k = h.1 a k) (f4 : h'.2 = h.2) : sR h h' := ⟨fun x i q1 q2 q3 q4 q5 q6 q7 q8 => f2 x i (by omega), f4⟩
theorem rF.fr {f : Int32} {q : Nat} {h h' : HH} (c : rF f q h) (e : ∀ k, h'.1 255 k = h.1 255 k) : rF f q h' := ⟨c.1, (e _).trans c.2.1, (e _).trans c.2.2⟩
theorem prE_ok {np : Nat} {h : HH} (e : h.1 257 8 = nI np) : prE h = some ((), wrI h 257 8 (nI (np + 1))) := by
  unfold prE
  rw [frl1, bnd_some, e, nI_1, show g_X11_reads 1 (nI (np + 1)) h = _ from rd_of (w := 1) (by decide) _, bnd_some]
theorem prR_F {np : Nat} (hn : np < 6) {f : Int32} {q : Nat} {h : HH} (c : rF f q h) (e : h.1 257 8 = nI np) : ∃ h', prR (nI (6 + np)) h = some ((), h') ∧ rF f q h' ∧ sR h h' := by
  obtain ⟨N, hN⟩ : ∃ N : Nat, N = 1024 := ⟨_, rfl⟩
  have q1 := c.w 260 (6 + np) 0 (by omega)
  have q2 := q1.w 261 (6 + np) 0 (by omega)
  obtain ⟨h1, f1, f2, f3, f4⟩ := r_zero prE hn 6 0 N (wrI (wrI h 260 (6 + np) 0) 261 (6 + np) 0) rfl (by omega)
  refine ⟨wrI h1 257 8 (nI (np + 1)), ?_, (q2.fr fun k => f2 _ _ (by omega)).w _ _ _ (by omega), (((sR_w _ _ _ _ (by omega)).tr (sR_w _ _ _ _ (by omega))).tr (sR_z f2 f4)).tr (sR_w _ _ _ _ (by omega))⟩
  unfold prR
  rw [← hN, frl0, bnd_some, r_numeral_F c, bnd_some, stI_of (by omega) (by decide), r_numeral_F q1, bnd_some, stI_of (by omega) (by decide), show g_X11_personLine_L61 prE (nI (6 + np)) N 0 _ = _ from f1, prE_ok (by rw [f2 _ _ (by omega), wrI_1, if_neg (by omega), wrI_1, if_neg (by omega)]; exact e)]
/-- the class's row written -/
def pnW (p np : Nat) (r6 r19 r17 : Int32) (h : HH) : HH := wrI (wrI (wrI (wrI h (p + 2) np r6) (p + 3) np r19) (p + 17) np r17) p 2 (nI (np + 1))
theorem pnR_F {T : TKD} (w : TKok T) {p : Nat} (hp : pOk p) (r6 : Int32) {h : HH} {f : Int32} {q : Nat} (c : cF T f q h) (e1 : h.2.2 1 = p) : ∃ h', pnR r6 h = some ((), h') ∧ cF T f q h' ∧ sK p h h' := by
  obtain ⟨h1, f1, f2, f3⟩ := x6_number_F w c p 0 (h.1 p 0)
  obtain ⟨h2, g1, g2, g3⟩ := x6_number_F w f2 p 0 99
  refine ⟨h2, ?_, g2, f3.tr g3⟩
  unfold pnR
  simp only [gfI, gfR]
  rw [e1, ckH_of (pOk.s0 p hp), f1, bnd_some, g1, bnd_some, if_neg g2.n]
theorem x6_vk {T : TKD} (w : TKok T) {f : Int32} {q : Nat} {h : HH} (c : cF T f q h) : ∃ v k, g_X6_value h = some (v, h) ∧ g_X6_kind h = some (k, h) := by
  have := w.2.1
  obtain ⟨c1, c2, c3, c4, i, c5, c6⟩ := c
  by_cases z : i < tL T
  · exact ⟨_, _, x6_value w c1 z c6, x6_kind w c1 z c6⟩
  · refine ⟨0, 0, ?_, ?_⟩
    · unfold g_X6_value
      simp only [gfI]
      rw [c6, c1.1, if_neg (nI_nlt (by omega) (by omega))]
    · unfold g_X6_kind
      simp only [gfI]
      rw [c6, c1.1, if_neg (nI_nlt (by omega) (by omega))]
theorem pnC_F {T : TKD} (w : TKok T) {p np : Nat} (hp : pOk p) (hn : np ≤ 6) {h : HH} {f : Int32} {q : Nat} (c : cF T f q h) (e1 : h.2.2 1 = p) (e2 : h.1 p 2 = nI np) : ∃ v h', (∀ K, pnC K h = K v h') ∧ cF T f q h' ∧ sK p h h' := by
  obtain ⟨v, k, f1, f2⟩ := x6_vk w c
  obtain ⟨h1, g1, g2, g3⟩ := x6_advF w c p
  have st := pOk.s0 p hp
  refine ⟨v, h1, fun K => ?_, g2, g3⟩
  unfold pnC
  simp only [gfR]
  rw [f1, bnd_some, f2, bnd_some]
  by_cases z : k = 3
  · rw [if_pos z, e1, ckH_of st, x_personOf st e2 hn v, bnd_some]
    split
    · rw [g1, bnd_some]
    · rw [x6_failF _ c.n, bnd_some, g1, bnd_some]
  · rw [if_neg z, x6_failF _ c.n, bnd_some, g1, bnd_some]
theorem pnR_ok {p np : Nat} (hp : pOk p) (hn : np < 6) (r6 r17 r19 : Int32) {h : HH} (e1 : h.2.2 1 = p) (e0 : h.1 24 4 = 0) (e2 : h.1 p 2 = nI np) : (gfI h 24 4 fun v20 =>
    if v20 = 0 then
      (gfR h 1 fun p21 => ckH p21 (.inl 5) (
      gfR h 1 fun p22 => ckH p22 (.inl 5) (
      gfI h p22 2 fun v23 =>
      stI h (p21 + 2) 6 v23 r6 fun h24 =>
      gfR h24 1 fun p25 => ckH p25 (.inl 5) (
      gfR h24 1 fun p26 => ckH p26 (.inl 5) (
      gfI h24 p26 2 fun v27 =>
      stI h24 (p25 + 3) 6 v27 r19 fun h28 =>
      gfR h28 1 fun p29 => ckH p29 (.inl 5) (
      gfR h28 1 fun p30 => ckH p30 (.inl 5) (
      gfI h28 p30 2 fun v31 =>
      stI h28 (p29 + 17) 6 v31 r17 fun h32 =>
      gfR h32 1 fun p33 => ckH p33 (.inl 5) (
      gfI h32 p33 2 fun v34 =>
      pfI h32 p33 2 (v34 + (1 : Int32)) fun h35 =>
      some ((), h35)))))))))
    else
      (some ((), h))) = some ((), pnW p np r6 r19 r17 h) := by
  have hp' : p + 22 ≤ 60 ∧ (p + 22 ≤ 24 ∨ 30 ≤ p) ∧ 2 ≤ p := by rcases hp with rfl | rfl <;> omega
  have st := pOk.s0 p hp
  unfold pnW
  simp only [gfI, gfR, pfI]
  rw [e0, if_pos rfl, e1, ckH_of st, ckH_of st, e2, stI_of hn (by decide)]
  rw [show (wrI h (p + 2) np r6).2.2 1 = p from e1, ckH_of st, ckH_of st, wrI_1 h (p + 2) np r6 p 2, if_neg (by omega), e2, stI_of hn (by decide)]
  rw [show (wrI (wrI h (p + 2) np r6) (p + 3) np r19).2.2 1 = p from e1, ckH_of st, ckH_of st, wrI_1 _ (p + 3) np r19 p 2, if_neg (by omega), wrI_1 h (p + 2) np r6 p 2, if_neg (by omega), e2, stI_of hn (by decide)]
  rw [show (wrI (wrI (wrI h (p + 2) np r6) (p + 3) np r19) (p + 17) np r17).2.2 1 = p from e1, ckH_of st, wrI_1 _ (p + 17) np r17 p 2, if_neg (by omega), wrI_1 _ (p + 3) np r19 p 2, if_neg (by omega), wrI_1 h (p + 2) np r6 p 2, if_neg (by omega), e2, nI_1]
theorem pnW_at {p np : Nat} (a b c : Int32) (h : HH) : (pnW p np a b c h).1 (p + 2) np = a ∧ (pnW p np a b c h).1 (p + 3) np = b ∧ (pnW p np a b c h).1 (p + 17) np = c ∧ (pnW p np a b c h).1 p 2 = nI (np + 1) := by
  unfold pnW
  exact ⟨by rw [wrI_1, if_neg (by omega), wrI_1, if_neg (by omega), wrI_1, if_neg (by omega), wrI_at], by rw [wrI_1, if_neg (by omega), wrI_1, if_neg (by omega), wrI_at], by rw [wrI_1, if_neg (by omega), wrI_at], wrI_at _ _ _ _⟩
theorem pnW_x {p np : Nat} (a b c : Int32) (h : HH) {x k : Nat} (h1 : ¬ (x = p ∧ k = 2)) (h2 : ¬ ((x = p + 2 ∨ x = p + 3 ∨ x = p + 17) ∧ k = np)) : (pnW p np a b c h).1 x k = h.1 x k := by
  unfold pnW
  rw [wrI_1, if_neg (by omega), wrI_1, if_neg (by omega), wrI_1, if_neg (by omega), wrI_1, if_neg (by omega)]
theorem pnW_s {p np : Nat} (a b c : Int32) (h : HH) : sK p h (pnW p np a b c h) := (((sK_p p _ _ _ (by omega) (by omega)).tr (sK_p p _ _ _ (by omega) (by omega))).tr (sK_p p _ _ _ (by omega) (by omega))).tr (sK_p p _ _ _ (by omega) (by omega))
theorem pn_2 {T : TKD} (w : TKok T) {p i nf np : Nat} (hp : pOk p) (hn : np < 6) (hnf : nf ≤ 6) (r6 : Int32) {C R : HH} (at0 : At T i C R) (e1 : C.2.2 1 = p) (a0 : C.1 p 0 = nI nf) (a2 : C.1 p 2 = nI np) (f7 : R.1 257 7 = nI nf) (f8 : R.1 257 8 = nI np) :
    ∃ c' r', pnR r6 C = some ((), c') ∧ prR (nI (6 + np)) R = some ((), r') ∧ sK p C c' ∧ sR R r' ∧
      ((∃ f q, cF T f q c' ∧ rF f q r') ∨ ∃ u x, u ≤ nf ∧ x ≤ 99 ∧ At T (i + 1 + 1) c' r' ∧ (c'.1 (p + 2) np = r6 ∧ c'.1 (p + 3) np = nI x ∧ c'.1 (p + 17) np = nI u ∧ c'.1 p 2 = nI (np + 1)) ∧ (r'.1 260 (6 + np) = nI u ∧ r'.1 261 (6 + np) = nI x ∧ r'.1 257 8 = nI (np + 1)) ∧ (∀ k, 6 * np ≤ k → k < 6 * np + 6 → r'.1 262 (36 + k) = 0) ∧ (∀ b k, ¬ (b = 24 ∧ k = 3) → ¬ (b = p ∧ k = 2) → ¬ ((b = p + 2 ∨ b = p + 3 ∨ b = p + 17) ∧ k = np) → c'.1 b k = C.1 b k) ∧ ∀ b k, ¬ (b = 255 ∧ (23 ≤ k ∧ k ≤ 26)) → ¬ (b = 257 ∧ k = 8) → ¬ (((260 ≤ b ∧ b ≤ 261) ∧ k = 6 + np) ∨ (b = 262 ∧ 36 + 6 * np ≤ k)) → r'.1 b k = R.1 b k) := by
  have hp' : p + 22 ≤ 60 ∧ (p + 22 ≤ 24 ∨ 30 ≤ p) ∧ 2 ≤ p := by rcases hp with rfl | rfl <;> omega
  have st := pOk.s0 p hp
  have sA : sK p C (wrI C 24 3 (nI (i + 1))) := sK_24 p C _ (by omega) (by omega)
  obtain ⟨N, hN⟩ : ∃ N : Nat, N = 1024 := ⟨_, rfl⟩
  unfold pnR prR
  simp only [gfI, gfR]
  rw [← hN, e1, ckH_of st, a0, frl0, bnd_some, f7]
  rcases P_num w at0 (lo := 0) (hi := nI nf) (by decide) (nI_le (b := 99999) (by omega) (by decide)) p with ⟨u, r2, v1, v2, v3, v4, v5, v6, v7⟩ | ⟨f, c2', r2, g1, g2, g3, g4, g5, g6⟩
  · have hu : u ≤ nf := nI_nl (by omega) (by omega) v3
    rw [v4, bnd_some, v5, bnd_some, stI_of (by omega) (by decide)]
    obtain ⟨d1, d2, d3⟩ := v7
    have at2 : At T (i + 1) (wrI C 24 3 (nI (i + 1))) (wrI r2 260 (6 + np) (nI u)) := ⟨d1, d2.k (fun k _ _ => by rw [wrI_1, if_neg (by omega)]) (fun k => by rw [wrI_1, if_neg (by omega)]), d3⟩
    rcases P_num w at2 (lo := 0) (hi := 99) (by decide) (by decide) p with ⟨x, r3, x1, x2, x3, x4, x5, x6, x7⟩ | ⟨f, c3, r3, g1, g2, g3, g4, g5, g6⟩
    · have hx : x ≤ 99 := nI_nl (a := 99) (by decide) (by omega) x3
      rw [x4, bnd_some, x5, bnd_some, stI_of (by omega) (by decide)]
      obtain ⟨r4, z1, z2, z3, z4⟩ := r_zero prE hn 6 0 N (wrI r3 261 (6 + np) (nI x)) rfl (by omega)
      obtain ⟨⟨y1, y2, y3⟩, y4, y5⟩ := x7
      have xC : ∀ b k, ¬ (b = 24 ∧ k = 3) → (wrI (wrI C 24 3 (nI (i + 1))) 24 3 (nI (i + 1 + 1))).1 b k = C.1 b k := fun b k z => by rw [wrI_1, if_neg z, wrI_1, if_neg z]
      have xR : ∀ b k, ¬ (b = 255 ∧ (23 ≤ k ∧ k ≤ 26)) → ¬ (((260 ≤ b ∧ b ≤ 261) ∧ k = 6 + np) ∨ (b = 262 ∧ 36 + 6 * np ≤ k)) → r4.1 b k = R.1 b k := fun b k q1 q2 => by rw [z2 b k (by omega), wrI_1, if_neg (by omega), x6.1 _ _ q1, wrI_1, if_neg (by omega), v6.1 _ _ q1]
      have e8 : r4.1 257 8 = nI np := by rw [xR _ _ (by omega) (by omega)]; exact f8
      have key := pnR_ok (p := p) (np := np) hp hn r6 (nI u) (nI x) (h := wrI (wrI C 24 3 (nI (i + 1))) 24 3 (nI (i + 1 + 1))) e1 y3 (by rw [xC _ _ (by omega)]; exact a2)
      simp only [gfI, gfR] at key
      rw [show g_X11_personLine_L61 prE (nI (6 + np)) N 0 (wrI r3 261 (6 + np) (nI x)) = _ from z1, prE_ok e8]
      have w24 : ∀ k, (pnW p np r6 (nI x) (nI u) (wrI (wrI C 24 3 (nI (i + 1))) 24 3 (nI (i + 1 + 1)))).1 24 k = (wrI (wrI C 24 3 (nI (i + 1))) 24 3 (nI (i + 1 + 1))).1 24 k := fun k => pnW_x _ _ _ _ (by omega) (by omega)
      refine ⟨_, _, key, rfl, (sA.tr (sK_24 p _ _ (by omega) (by omega))).tr (pnW_s _ _ _ _), ((((v6.R.tr (sR_w _ _ _ _ (by omega))).tr x6.R).tr (sR_w _ _ _ _ (by omega))).tr (sR_z z2 z4)).tr (sR_w _ _ _ _ (by omega)), Or.inr ⟨u, x, hu, hx, ⟨⟨y1.k fun a k h1 h2 => pnW_x _ _ _ _ (by omega) (by omega), (w24 3).trans y2, (w24 4).trans y3⟩, y4.k (fun k _ _ => by rw [wrI_1, if_neg (by omega), z2 _ _ (by omega), wrI_1, if_neg (by omega)]) (fun k => by rw [wrI_1, if_neg (by omega), z2 _ _ (by omega), wrI_1, if_neg (by omega)]), y5⟩, pnW_at _ _ _ _, ⟨?_, ?_, wrI_at _ _ _ _⟩, fun k h1 h2 => ?_, fun b k q1 q2 q3 => ?_, fun b k q1 q2 q3 => ?_⟩⟩
      · rw [wrI_1, if_neg (by omega), z2 _ _ (by omega), wrI_1, if_neg (by omega), x6.1 _ _ (by omega), wrI_at]
      · rw [wrI_1, if_neg (by omega), z2 _ _ (by omega), wrI_at]
      · rw [wrI_1, if_neg (by omega)]; exact z3 _ (by omega) (by omega)
      · rw [pnW_x _ _ _ _ q2 q3, xC _ _ q1]
      · rw [wrI_1, if_neg q2, xR _ _ q1 q3]
    · have q2 := g5.w 261 (6 + np) 0 (by omega)
      obtain ⟨r4, z1, z2, z3, z4⟩ := r_zero prE hn 6 0 N (wrI r3 261 (6 + np) 0) rfl (by omega)
      rw [g1, bnd_some, g4, bnd_some, stI_of (by omega) (by decide), if_neg g2.n, show g_X11_personLine_L61 prE (nI (6 + np)) N 0 _ = _ from z1, prE_ok (np := np) (by rw [z2 _ _ (by omega), wrI_1, if_neg (by omega), g6.1 _ _ (by omega) (by omega) (by omega), wrI_1, if_neg (by omega), v6.1 _ _ (by omega)]; exact f8)]
      exact ⟨_, _, rfl, rfl, sA.tr g3, ((((v6.R.tr (sR_w _ _ _ _ (by omega))).tr g6.R).tr (sR_w _ _ _ _ (by omega))).tr (sR_z z2 z4)).tr (sR_w _ _ _ _ (by omega)), Or.inl ⟨_, _, g2, (q2.fr fun k => z2 _ _ (by omega)).w _ _ _ (by omega)⟩⟩
  · obtain ⟨c3, k1, k2, k3⟩ := x6_number_F w g2 p 0 99
    have q1 := g5.w 260 (6 + np) 0 (by omega)
    have q2 := q1.w 261 (6 + np) 0 (by omega)
    obtain ⟨r4, z1, z2, z3, z4⟩ := r_zero prE hn 6 0 N (wrI (wrI r2 260 (6 + np) 0) 261 (6 + np) 0) rfl (by omega)
    rw [g1, bnd_some, k1, bnd_some, if_neg k2.n, g4, bnd_some, stI_of (by omega) (by decide), r_numeral_F q1, bnd_some, stI_of (by omega) (by decide), show g_X11_personLine_L61 prE (nI (6 + np)) N 0 _ = _ from z1, prE_ok (np := np) (by rw [z2 _ _ (by omega), wrI_1, if_neg (by omega), wrI_1, if_neg (by omega), g6.1 _ _ (by omega) (by omega) (by omega)]; exact f8)]
    exact ⟨_, _, rfl, rfl, g3.tr k3, (((g6.R.tr (sR_w _ _ _ _ (by omega))).tr (sR_w _ _ _ _ (by omega))).tr (sR_z z2 z4)).tr (sR_w _ _ _ _ (by omega)), Or.inl ⟨_, _, k2, (q2.fr fun k => z2 _ _ (by omega)).w _ _ _ (by omega)⟩⟩
