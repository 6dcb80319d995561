/-! text -/
theorem HVD.l {h g h' : HH} (v : HVD h h') (e : ∀ a k, 257 ≤ a → h.1 a k = g.1 a k) : HVD g h' := by
  obtain ⟨v1, v2, v3, v4, v5, v6⟩ := v
  exact ⟨fun k hk => (v1 k hk).trans (e _ _ (by omega)), fun a k ha hk => (v2 a k ha hk).trans (e _ _ (by omega)), fun k hk => (v3 k hk).trans (e _ _ (by omega)), fun a k ha hk => (v4 a k ha hk).trans (e _ _ (by omega)), fun a k ha hk => (v5 a k ha hk).trans (e _ _ (by omega)), fun a k ha hk => (v6 a k ha hk).trans (e _ _ (by omega))⟩
theorem tx_start {T : TKD} (w : TKok T) {p : Nat} {hc hr : HH} (c : cT T hc) (z : zP p hc) (z24 : ∀ k, (3 ≤ k ∧ k ≤ 8) ∨ k = 11 → hc.1 24 k = 0) (e1 : hc.2.2 1 = p) (r : rA T 0 hr) (r257 : ∀ k, k < 7 → hr.1 257 (7 + k) = 0) (r270 : ∀ x, x < 3 → hr.1 270 (3 + x) = 0 ∧ hr.1 271 (3 + x) = 0) (r20 : hr.1 255 20 = 0) (r31 : hr.1 255 31 = 0) (r32 : hr.1 255 32 = 0) : LnS T p 0 0 0 0 0 0 0 [] hc hr := by
  obtain ⟨⟨z1, z2, z3, z4, z5⟩, ⟨z6, z7⟩, z8⟩ := z
  refine ⟨⟨⟨c, z24 3 (by omega), z24 4 (by omega)⟩, r, w.1⟩, e1, ⟨⟨⟨z1, r257 0 (by omega), by omega⟩, ⟨z2, r257 1 (by omega), by omega⟩, ⟨z3, r257 2 (by omega), by omega⟩, z4, r257 3 (by omega), by omega⟩, ⟨⟨0, by omega, z5, r257 4 (by omega)⟩, ?_, z8 0 5 (Or.inr (Or.inr ⟨rfl, Or.inl rfl⟩))⟩, fun f hf => absurd hf (Nat.not_lt_zero _), fun f hf => absurd hf (Nat.not_lt_zero _), ⟨fun a ha => ⟨z8 2 a (Or.inl ⟨by omega, by omega, ha⟩), z8 3 a (Or.inl ⟨by omega, by omega, ha⟩), z8 4 a (Or.inl ⟨by omega, by omega, ha⟩)⟩, fun a _ ha => z8 1 a (Or.inl ⟨by omega, by omega, ha⟩)⟩, ⟨fun k hk => absurd hk (by omega), fun k _ hk => z8 5 k (Or.inr (Or.inl ⟨rfl, hk⟩))⟩, fun f hf => absurd hf (Nat.not_lt_zero _), fun f hf => absurd hf (Nat.not_lt_zero _)⟩, ⟨⟨z24 11 (by omega), r32, r31, by omega, Nat.le_refl _⟩, ⟨z6, r257 6 (by omega), fun j x hx => by cases hx⟩, fun x hx => ⟨0, 0, ⟨(z7 x hx).1, (z7 x hx).2⟩, ⟨(r270 x hx).1, (r270 x hx).2⟩, ⟨Nat.le_refl _, Nat.le_refl _⟩, fun y => absurd y (Nat.lt_irrefl _), ⟨fun y => ?_, fun y => absurd y (Nat.lt_irrefl _)⟩⟩⟩, by decide, r20, ⟨fun _ u _ _ => Nat.zero_testBit u, fun _ => z24 6 (by omega)⟩, ⟨fun _ => Nat.zero_testBit 8, fun _ => z24 7 (by omega)⟩, ⟨fun _ => Nat.zero_testBit 9, fun _ => z24 8 (by omega)⟩⟩
  · have q1 := z8 0 6 (Or.inr (Or.inr ⟨rfl, Or.inr rfl⟩))
    exact q1.trans (r257 5 (by omega)).symm
  · rw [Nat.zero_testBit] at y; cases y
def txC (r4 : Int32) (h3 : HH) : Option (Int32 × HH) :=
  gfI h3 24 4 fun v5 =>
  if v5 = 0 then
    (gfR h3 1 fun p6 => ckH p6 (.inl 5) (
    gfR h3 0 fun p7 => ckH p7 (.inl 5) (
    pfR h3 1 p7 fun h8 =>
    pfR h8 0 p6 fun h9 =>
    gfR h9 0 fun p10 => ckH p10 (.inl 5) (
    bnd (g_X7_take 52 (p10 + 16) h9) fun _ h11 => 
    bnd (g_X3_clear h11) fun _ h13 => 
    pfI h13 0 6 (0 : Int32) fun h15 =>
    bnd (g_X4_clear h15) fun _ h16 => 
    some (r4, h16)))))
  else
    (some ((-1 : Int32), h3))
theorem text_eq (a0 : Int32) (h : HH) : g_X10_text a0 h = if a0 < 0 then some ((-2 : Int32), h) else gfI h 0 1 fun v1 => if v1 < a0 then some ((-2 : Int32), h) else pfI h 0 1 (0 : Int32) fun h2 => bnd (g_X6_read a0 h2) fun r4 h3 => txC r4 h3 := rfl
theorem txC_ok {p : Nat} (hp : pOk p) {h : HH} (e1 : h.2.2 1 = p) (e0 : h.2.2 0 = 32 - p) (e4 : h.1 24 4 = 0) (r : Int32) : ∃ h' S', txC r h = some (r, h') ∧ eqR S' (tdA (plA p h)) ∧ CS h' 52 S' ∧ h'.2.2 0 = p ∧ h'.2.2 1 = 32 - p ∧ (h'.1 186 6 = 0 ∧ h'.1 186 7 = -1 ∧ h'.1 0 6 = 0 ∧ h'.1 64 2 = 0) ∧ ∀ a k, ¬ (52 ≤ a ∧ a < 58) → ¬ (a = 186 ∧ (k = 6 ∨ k = 7)) → ¬ (a = 0 ∧ k = 6) → ¬ (a = 64 ∧ k = 2) → h'.1 a k = h.1 a k := by
  have s16 : shL[p + 16]? = some (.inl 7) := by rcases hp with rfl | rfl; exact sh_18; exact sh_46
  have s32 : shL[32 - p]? = some (.inl 5) := by rcases hp with rfl | rfl; exact sh_30; exact sh_2
  have cs : CS (wrR (wrR h 1 (32 - p)) 0 p) (p + 16) (tdA (plA p h)) := fun o k ho => by
    show h.1 (p + 16 + o) k = h.1 (p + (16 + o)) k
    rw [Nat.add_assoc]
  obtain ⟨h1, S', f1, f2, f3, f4, f5⟩ := x_take (q := 52) (r := p + 16) sh_52 s16 (by rcases hp with rfl | rfl <;> omega) cs
  have x1 : ∀ a k, ¬ (52 ≤ a ∧ a < 58) → h1.1 a k = h.1 a k := fun a k q => (f4 a k (by omega)).trans rfl
  refine ⟨wrI (wrI (wrI (wrI h1 186 6 0) 186 7 (-1)) 0 6 0) 64 2 0, S', ?_, f3, fun o k ho => ?_, ?_, ?_, ⟨?_, ?_, ?_, wrI_at _ _ _ _⟩, fun a k q1 q2 q3 q4 => ?_⟩
  · unfold txC
    simp only [gfI, gfR, pfR, pfI]
    rw [e4, if_pos rfl, e1, ckH_of (pOk.s0 p hp), e0, ckH_of s32, show (wrR (wrR h 1 (32 - p)) 0 p).2.2 0 = p by rw [wrR_3, if_pos rfl], ckH_of (pOk.s0 p hp), f1, bnd_some]
    rfl
  · rw [wrI_1, if_neg (by omega), wrI_1, if_neg (by omega), wrI_1, if_neg (by omega), wrI_1, if_neg (by omega)]
    exact f2 o k ho
  · show h1.2.2 0 = p
    rw [f5, wrR_3, if_pos rfl]
  · show h1.2.2 1 = 32 - p
    rw [f5, wrR_3, if_neg (by decide), wrR_3, if_pos rfl]
  · rw [wrI_1, if_neg (by omega), wrI_1, if_neg (by omega), wrI_1, if_neg (by omega), wrI_at]
  · rw [wrI_1, if_neg (by omega), wrI_1, if_neg (by omega), wrI_at]
  · rw [wrI_1, if_neg (by omega), wrI_at]
  · rw [wrI_1, if_neg (by omega), wrI_1, if_neg (by omega), wrI_1, if_neg (by omega), wrI_1, if_neg (by omega)]
    exact x1 a k q1
theorem txE_ok {T : TKD} {p j nf np nl ng t b : Nat} {O : List (Int32 × Int32)} {hc hr : HH} (hS : LnS T p j nf np nl ng t b O hc hr) (e28 : hr.1 255 28 = -1) (e45 : hr.1 255 45 = -1) (e48 : hr.1 255 48 = 0) (e49 : hr.1 255 49 = -1) (e2 : hr.1 255 2 = 0) {S' : TB} (q : eqR S' (tdA (plA p hc))) (nT : TB) (tp : Nat → Nat) :
    ∃ h', txE hr = some (hr.1 255 21, h') ∧ fC hr h' ∧ RelM h' (plA p hc) S' nf np nl ng none [] 0 (-1) nT 0 tp 0 (-1) := by
  obtain ⟨⟨_, r, _⟩, e1, hP, hL, _⟩ := hS
  have e27 := r.2.2.2.2
  have hPW := tx_PW hP hL
  have hnp : np ≤ 6 := hPW.1.2.1
  obtain ⟨h30, eh30⟩ : ∃ h30, h30 = wrI (wrI hr 255 29 0) 255 30 (-1) := ⟨_, rfl⟩
  have x30 : ∀ a k, ¬ (a = 255 ∧ (k = 29 ∨ k = 30)) → h30.1 a k = hr.1 a k := fun a k z => by rw [eh30, wrI_1, if_neg (by omega), wrI_1, if_neg (by omega)]
  obtain ⟨h64, f1, f2, f3, f4⟩ := r_halves txZ h30
  have f2' : HVD hr h64 := f2.l fun a k z => x30 a k (by omega)
  obtain ⟨m1, m2, m3, m4, m5⟩ := tx_MP hP hL f2'
  obtain ⟨h69, eh69⟩ : ∃ h69, h69 = wrI (wrI (wrI (wrI h64 255 56 0) 255 57 (-1)) 255 43 0) 255 44 0 := ⟨_, rfl⟩
  have x69 : ∀ a k, ¬ (a = 255 ∧ (k = 56 ∨ k = 57 ∨ k = 43 ∨ k = 44)) → h69.1 a k = h64.1 a k := fun a k z => by rw [eh69, wrI_1, if_neg (by omega), wrI_1, if_neg (by omega), wrI_1, if_neg (by omega), wrI_1, if_neg (by omega)]
  have k255 : ∀ k v, hr.1 255 k = v → ¬ (k = 29 ∨ k = 30 ∨ k = 56 ∨ k = 57 ∨ k = 43 ∨ k = 44) → h69.1 255 k = v := fun k v e z => by rw [x69 _ _ (by omega), f3 _ _ (by omega), x30 _ _ (by omega)]; exact e
  have hz : ∀ k, k < 36 → (if k < 6 * np then h69.1 262 k else 0) = S' 5 k := fun k hk => by
    rw [q.2.1 k hk]
    by_cases z : k < 6 * np
    · rw [if_pos z, x69 _ _ (by omega)]; exact m3 k z
    · rw [if_neg z]; exact (hPW.2.2.2.2.2.2.2.2.2.2.2 k (by omega) hk).symm
  obtain ⟨h70, g1, g2, g3, g4⟩ := r_starts (h := h69) (T := S') (s := 0) (np := np) (who := -1) (by decide) hnp (by rw [x69 _ _ (by omega)]; exact m1.2.1) (k255 45 _ e45 (by omega)) rfl rfl (fun x f hx hf => by
    have := hz (6 * x + f) (by omega)
    by_cases z : x < np
    · rw [if_pos z, if_neg (show ¬ nI x = -1 from fun y => absurd (nI_pos (n := x) (by omega)) (by rw [y]; decide))]
      rw [if_pos (by omega)] at this
      exact this
    · rw [if_neg z]
      rw [if_neg (by omega)] at this
      exact this) (fun a ha => by
    obtain ⟨q1, q2, q3, q4⟩ := q.1 a (by omega)
    obtain ⟨w1, w2, w3⟩ := hPW.2.2.2.2.2.2.2.2.2.1 a (by omega)
    rw [q1, q2, q3, q4, x69 _ _ (by omega)]
    exact ⟨(m2 a ha).2, w1, w2, w3⟩) (by
    rw [q.2.2.1, q.2.2.2, x69 _ _ (by omega)]
    exact ⟨hPW.2.2.2.2.2.2.2.2.2.2.1, m4⟩)
  have k70 : ∀ k v, h69.1 255 k = v → h70.1 255 k = v := fun k v e => (g3 _ _ (by unfold inH; omega)).trans e
  have y70 : ∀ a k, 257 ≤ a → a ≤ 273 → h70.1 a k = h64.1 a k := fun a k z1 z2 => (g3 _ _ (by unfold inH; omega)).trans (x69 a k (by omega))
  refine ⟨h70, ?_, ⟨fun a k z => ?_, fun j hj => ?_⟩, ⟨m1.X fun a k z1 z2 => y70 a k z1 z2, g2, k70 _ _ (k255 _ _ e45 (by omega)), k70 _ _ (k255 _ _ e48 (by omega)), k70 _ _ (k255 _ _ e49 (by omega)), fun a ha => ?_, fun k hk => ?_, ?_, ?_⟩, ⟨?_, fun I hI => by cases hI⟩, ⟨?_, fun i I hI => by cases hI⟩, ⟨?_, ?_, fun i hi => absurd hi (Nat.not_lt_zero _)⟩, ⟨k70 _ _ (k255 _ _ e2 (by omega)), fun i hi => absurd hi (Nat.not_lt_zero _)⟩, ?_, ?_⟩
  · unfold txE
    simp only [gfI, pfI]
    rw [e27, show (wrI hr 255 29 0).1 255 28 = -1 by rw [wrI_1, if_neg (by omega)]; exact e28, ← eh30, show h30.1 255 27 = 0 by rw [x30 _ _ (by omega)]; exact e27, if_pos rfl, f1]
    unfold txZ g_X11_begins
    simp only [gfI, pfI]
    rw [← eh69, show g_X11_starts 0 h69 = some ((), h70) from g1, bnd_some, bnd_some, k70 21 _ (k255 21 _ rfl (by omega))]
  · rw [g3 _ _ (by unfold inH; omega), x69 _ _ (by omega), f3 _ _ (by omega), x30 _ _ (by omega)]
  · rw [g4, eh69]
    show h64.2.2 j = hr.2.2 j
    rw [f4, eh30]
    rfl
  · rw [y70 _ _ (by omega) (by omega), y70 _ _ (by omega) (by omega)]; exact m2 a ha
  · rw [y70 _ _ (by omega) (by omega)]; exact m3 k hk
  · rw [y70 _ _ (by omega) (by omega)]; exact m4
  · rw [y70 _ _ (by omega) (by omega)]; exact m5
  · refine k70 _ _ ?_
    rw [eh69, wrI_1, if_neg (by omega), wrI_at]
    rfl
  · refine k70 _ _ ?_
    rw [eh69, wrI_at]
    rfl
  · refine k70 _ _ ?_
    rw [eh69, wrI_1, if_neg (by omega), wrI_1, if_neg (by omega), wrI_1, if_neg (by omega), wrI_at]
    rfl
  · refine k70 _ _ ?_
    rw [eh69, wrI_1, if_neg (by omega), wrI_1, if_neg (by omega), wrI_at]
  · refine k70 _ _ ?_
    rw [x69 _ _ (by omega), f3 _ _ (by omega), eh30, wrI_1, if_neg (by omega), wrI_at]
  · refine k70 _ _ ?_
    rw [x69 _ _ (by omega), f3 _ _ (by omega), eh30, wrI_at]
theorem txE_F {f : Int32} {q : Nat} {hr : HH} (c : rF f q hr) : txE hr = some (-1, wrI (wrI hr 255 29 f) 255 30 (nI q)) := by
  unfold txE
  simp only [gfI, pfI]
  rw [c.2.1, show (wrI hr 255 29 f).1 255 28 = nI q by rw [wrI_1, if_neg (by omega)]; exact c.2.2, show (wrI (wrI hr 255 29 f) 255 30 (nI q)).1 255 27 = f by rw [wrI_1, if_neg (by omega), wrI_1, if_neg (by omega)]; exact c.2.1, if_neg c.1]
theorem txC_F {T : TKD} {f : Int32} {q : Nat} {h : HH} (c : cF T f q h) (r : Int32) : txC r h = some (-1, h) := by
  unfold txC
  simp only [gfI]
  rw [if_neg c.n]
theorem c_text (a0 : Int32) : Eqv (g_X10_text a0) (g_X11_text a0) := by
  intro h ⟨P, S, nf, np, nl, ng, im, pa, nN, nb, nT, tl, tp, fk, fp, w, c, m⟩
  have hnp : np ≤ 6 := w.1.1.2.1
  have hpa : pa.length ≤ 20 := c.2.2.1.l
  have tl7 : tl ≤ 700 := c.2.2.2.2.1.2.1
  by_cases hin : prs a0 (tl + 1)
  rotate_left
  · refine ⟨-2, h, wrI h 255 0 0, ?_, ?_, P, S, nf, np, nl, ng, im, pa, nN, nb, nT, tl, tp, fk, fp, w, RelC.X c (fun a k u => by rw [wrI_1, if_neg (by omega)]) (fun _ _ => rfl), RelM.z m hnp hpa⟩
    · rw [text_eq]
      simp only [gfI]
      by_cases z : a0 < 0
      · rw [if_pos z]
      · rw [if_neg z, c.2.2.2.2.1.1, if_pos (prs_n1 hin z (by omega))]
    · rw [rtext_eq]
      simp only [gfI, pfI]
      by_cases z : a0 < 0
      · rw [if_pos z]
      · rw [if_neg z, show (wrI h 255 0 0).1 255 2 = nI tl by rw [wrI_1, if_neg (by omega)]; exact m.2.2.2.2.1.1, if_pos (prs_n1 hin z (by omega))]
  · obtain ⟨n, hn, rfl⟩ := hin
    obtain ⟨c1, c2, c3, c4, c5, c6⟩ := c
    obtain ⟨p0, hp0, d1, d2, d3, d4, d5⟩ := id c1
    obtain ⟨p, ep⟩ : ∃ p, p = 32 - p0 := ⟨_, rfl⟩
    have hp : pOk p := by rcases hp0 with rfl | rfl; exact Or.inr ep; exact Or.inl ep
    have hpp : p0 = 32 - p := by rcases hp0 with rfl | rfl <;> omega
    have hp' : p + 22 ≤ 60 ∧ (p + 22 ≤ 24 ∨ 30 ≤ p) ∧ 2 ≤ p ∧ p + 22 ≤ 52 := by rcases hp with rfl | rfl <;> omega
    have bc : bC tp n (wrI h 0 1 0) := ⟨by omega, fun i hi => ⟨(c5.2.2 i (by omega)).1, by rw [wrI_1, if_neg (by omega)]; exact (c5.2.2 i (by omega)).2⟩⟩
    obtain ⟨T, hc, wT, eT, eN, eS, f1, f2, f3, f4, f5, f6⟩ := x_open hp bc (show (wrI h 0 1 0).2.2 1 = p from d2.trans ep.symm)
    have e1 : hc.2.2 1 = p := by rw [f6]; exact d2.trans ep.symm
    -- the reference over any heap that tells the same bytes
    have ref : ∀ g, RelM g P S nf np nl ng im pa nN nb nT tl tp fk fp → ∃ hr, g_X11_text (nI n) g = g_X11_text_L117 txE 1024 hr ∧ LnS T p 0 0 0 0 0 0 0 [] hc hr ∧ (hr.1 255 2 = 0 ∧ hr.1 255 21 = 0 ∧ hr.1 255 28 = -1) ∧ (∀ a k, ¬ (a = 255 ∧ (k = 0 ∨ k = 2 ∨ (20 ≤ k ∧ k ≤ 28) ∨ k = 31 ∨ k = 32)) → ¬ (a = 257 ∧ 7 ≤ k) → ¬ ((a = 270 ∨ a = 271) ∧ 3 ≤ k) → hr.1 a k = g.1 a k) ∧ hr.2 = g.2 := fun g mg => by
      have m5 := mg.2.2.2.2.1
      obtain ⟨hr, k1, k2, k3, k4, ⟨k5, k6, k7, k8, k9, k10⟩, k11, k12⟩ := r_open wT (tl := tl) (h := g) (by omega) tl7 m5.1 (fun i hi => by rw [eT]; exact ⟨(c5.2.2 i (by omega)).1, m5.2 i (by omega)⟩) eS
      rw [eN] at k1
      exact ⟨hr, k1, tx_start wT f2 f3 f4 e1 k2 k3 k4 k6 k8 k9, ⟨k5, k7, k10⟩, k11, k12⟩
    have mRel : RelM h P S nf np nl ng im pa nN nb nT tl tp fk fp := m
    obtain ⟨hrA, a1, a2, ⟨a3, a4, a5⟩, a6, a7⟩ := ref h mRel
    obtain ⟨r, hc', hrB, b1, b2, b3, b4, b5⟩ := tx_all wT hp (tL T) 0 1024 1024 (tL T) 0 0 0 0 0 0 0 [] hc hrA (by omega) (by have := wT.2.1; omega) (by have := wT.2.1; omega) (Nat.le_refl _) wT.2.1 a2 a4
    -- what the class's reading left
    have kc : ∀ a k, ¬ (24 ≤ a ∧ a ≤ 29) → ¬ (p ≤ a ∧ a < p + 22) → ¬ (a = 0 ∧ k = 1) → hc'.1 a k = h.1 a k := fun a k q1 q2 q3 => by
      rw [b3.1 a k (by omega) (by omega) q2, f5 a k (by omega) q2, wrI_1, if_neg q3]
    have kr : ∀ j, hc'.2.2 j = h.2.2 j := fun j => by rw [b3.2, f6]; rfl
    have kt : hc'.1 0 1 = 0 := by rw [b3.1 0 1 (by omega) (by omega) (by omega), f5 0 1 (by omega) (by omega), wrI_at]
    have oC : g_X10_text (nI n) h = txC r hc' := by
      rw [text_eq]
      simp only [gfI, pfI]
      rw [if_neg (nI_pos (by omega)), c5.1, if_neg (nI_nlt (by omega) (by omega)), f1, show (0 : Int32) = 0 from rfl, b1, bnd_some]
    -- the reference behind it, over any heap of its own
    have ref2 : ∀ g, RelM g P S nf np nl ng im pa nN nb nT tl tp fk fp → ∃ hr, g_X11_text (nI n) g = txE hr ∧ TxD T p r hc' hr ∧ hr.1 255 2 = 0 ∧ (hr.1 255 27 = 0 → hr.1 255 28 = -1) ∧ (∀ a k, ¬ (a = 255 ∧ (k = 0 ∨ k = 2 ∨ (20 ≤ k ∧ k ≤ 28) ∨ k = 31 ∨ k = 32)) → ¬ (257 ≤ a ∧ a ≤ 273) → hr.1 a k = g.1 a k) ∧ (∀ k, k < 7 → hr.1 257 k = g.1 257 k) ∧ (∀ a k, ((258 ≤ a ∧ a ≤ 261) ∨ (263 ≤ a ∧ a ≤ 265)) → k < 6 → hr.1 a k = g.1 a k) ∧ (∀ k, k < 36 → hr.1 262 k = g.1 262 k) ∧ (∀ a k, 266 ≤ a ∧ a ≤ 269 → k < 20 → hr.1 a k = g.1 a k) ∧ (∀ a k, (a = 270 ∨ a = 271) → k < 3 → hr.1 a k = g.1 a k) ∧ (∀ a k, (a = 272 ∨ a = 273) → k < 64 → hr.1 a k = g.1 a k) ∧ hr.2 = g.2 := fun g mg => by
      obtain ⟨hr0, k1, k2, ⟨k3, k4, k5⟩, k6, k7⟩ := ref g mg
      obtain ⟨r', hcx, hr, g1, g2, g3, g4, g5⟩ := tx_all wT hp (tL T) 0 1024 1024 (tL T) 0 0 0 0 0 0 0 [] hc hr0 (by omega) (by have := wT.2.1; omega) (by have := wT.2.1; omega) (Nat.le_refl _) wT.2.1 k2 k4
      rw [b1] at g1
      obtain ⟨rfl, rfl⟩ := Prod.mk.inj (Option.some.inj g1)
      have fr : ∀ a k, ¬ (a = 255 ∧ (k = 0 ∨ k = 2 ∨ (20 ≤ k ∧ k ≤ 28) ∨ k = 31 ∨ k = 32)) → ¬ (a = 257 ∧ 7 ≤ k) → ¬ ((258 ≤ a ∧ a ≤ 261) ∧ 6 ≤ k) → ¬ (a = 262 ∧ 36 ≤ k) → ¬ ((263 ≤ a ∧ a ≤ 265) ∧ 6 ≤ k) → ¬ ((266 ≤ a ∧ a ≤ 269) ∧ 20 ≤ k) → ¬ ((a = 270 ∨ a = 271) ∧ 3 ≤ k) → ¬ ((a = 272 ∨ a = 273) ∧ 64 ≤ k) → hr.1 a k = g.1 a k := fun a k q1 q2 q3 q4 q5 q6 q7 q8 => by
        rw [g4.1 a k (by omega) q2 q3 q4 q5 q6 q7 q8, k6 a k q1 q2 q7]
      refine ⟨hr, k1.trans (g2 txE), g5, (g4.1 _ _ (by omega) (by omega) (by omega) (by omega) (by omega) (by omega) (by omega) (by omega)).trans k3, fun z => ?_, fun a k q1 q2 => fr a k q1 (by omega) (by omega) (by omega) (by omega) (by omega) (by omega) (by omega), fun k hk => fr _ _ (by omega) (by omega) (by omega) (by omega) (by omega) (by omega) (by omega) (by omega), fun a k ha hk => fr _ _ (by omega) (by omega) (by omega) (by omega) (by omega) (by omega) (by omega) (by omega), fun k hk => fr _ _ (by omega) (by omega) (by omega) (by omega) (by omega) (by omega) (by omega) (by omega), fun a k ha hk => fr _ _ (by omega) (by omega) (by omega) (by omega) (by omega) (by omega) (by omega) (by omega), fun a k ha hk => fr _ _ (by omega) (by omega) (by omega) (by omega) (by omega) (by omega) (by omega) (by omega), fun a k ha hk => fr _ _ (by omega) (by omega) (by omega) (by omega) (by omega) (by omega) (by omega) (by omega), g4.2.trans k7⟩
      have hJ := J_text_L117 (fun g => some ((0 : Int32), g)) (fun _ => JE_some) 1024 hr0 0 hr (g2 _) z
      exact hJ.2.trans k5
    have c3X : ∀ {x : HH}, (∀ a k, 64 ≤ a ∧ a < 186 → x.1 a k = h.1 a k) → RC3 x pa := fun e => c3.X e
    rcases b5 with ⟨f, q, k1, k2⟩ | ⟨j, nf', np', nl', ng', t', b', O', hS, e21⟩
    · -- a fault
      have mh : RelM hc' P S nf np nl ng im pa nN nb nT tl tp fk fp := RelM.X mRel hnp hpa fun a k u => kc a k (by have := kM_ge u; omega) (by have := kM_ge u; omega) (by have := kM_ge u; omega)
      obtain ⟨hr, g1, g2, g3, g4, g5, g6, g7, g8, g9, g10, g11, g12⟩ := ref2 hc' mh
      rcases g2 with ⟨f', q', k1', k2'⟩ | ⟨j, nf', np', nl', ng', t', b', O', hS, e21⟩
      rotate_left
      · exact absurd hS.1.1.2.2 k1.n
      · obtain rfl : f' = f := k1'.2.2.1.symm.trans k1.2.2.1
        have eq : nI q' = nI q := k1'.2.2.2.1.symm.trans k1.2.2.2.1
        refine ⟨-1, hc', wrI (wrI hr 255 29 f') 255 30 (nI q'), ?_, ?_, P, S, nf, np, nl, ng, im, pa, nN, nb, nT, 0, tp, f', nI q', w, ?_, ?_⟩
        · rw [oC, txC_F k1]
        · rw [g1, txE_F k2']
        · have lo : ∀ a k, a < 255 → (wrI (wrI hr 255 29 f') 255 30 (nI q')).1 a k = hc'.1 a k := fun a k z => by rw [wrI_1, if_neg (by omega), wrI_1, if_neg (by omega)]; exact g5 a k (by omega) (by omega)
          have r2 : ∀ j, (wrI (wrI hr 255 29 f') 255 30 (nI q')).2.2 j = h.2.2 j := fun j => by
            show hr.2.2 j = _
            rw [g12, kr]
          refine ⟨⟨p0, hp0, (r2 0).trans d1, (r2 1).trans d2, fun o k ho => ?_, fun o k ho => ?_, fun a ha => ?_⟩, c2.X fun a k u => ?_, c3.X fun a k u => ?_, c4.X fun a k u => ?_, ⟨?_, by omega, fun i hi => absurd hi (Nat.not_lt_zero _)⟩, ⟨?_, fun _ => ?_, fun z => absurd z k1.2.1⟩⟩
          · rw [lo _ _ (by omega), kc _ _ (by omega) (by omega) (by omega)]; exact d3 o k ho
          · rw [lo _ _ (by omega), kc _ _ (by omega) (by omega) (by omega)]; exact d4 o k ho
          · rw [lo _ _ (by omega), kc _ _ (by omega) (by omega) (by omega)]; exact d5 a ha
          · rw [lo _ _ (by omega), kc _ _ (by omega) (by omega) (by omega)]
          · rw [lo _ _ (by omega), kc _ _ (by omega) (by omega) (by omega)]
          · rw [lo _ _ (by omega), kc _ _ (by omega) (by omega) (by omega)]
          · rw [lo _ _ (by omega)]; exact kt
          · rw [lo _ _ (by omega)]; exact k1'.2.2.1
          · rw [lo _ _ (by omega)]; exact k1'.2.2.2.1
        · obtain ⟨n1, n2, n3, n4, n5, n6⟩ := mh
          have hi : ∀ a k, ¬ (a = 255 ∧ (k = 0 ∨ k = 2 ∨ (20 ≤ k ∧ k ≤ 32))) → ¬ (257 ≤ a ∧ a ≤ 273) → (wrI (wrI hr 255 29 f') 255 30 (nI q')).1 a k = hc'.1 a k := fun a k z1 z2 => by rw [wrI_1, if_neg (by omega), wrI_1, if_neg (by omega)]; exact g5 a k (by omega) z2
          have hj : ∀ a k, 257 ≤ a → (wrI (wrI hr 255 29 f') 255 30 (nI q')).1 a k = hr.1 a k := fun a k z => by rw [wrI_1, if_neg (by omega), wrI_1, if_neg (by omega)]
          obtain ⟨o1, o2, o3, o4, o5, o6, o7, o8, o9⟩ := n1
          obtain ⟨i1, i2, i3, i4, i5, i6, i7, i8, i9, i10⟩ := o1
          have wl := w.1.1
          refine ⟨⟨⟨?_, ?_, ?_, ?_, ?_, fun x hx => ?_, fun a ha => ?_, fun x hx => ?_, fun x hx => ?_, fun x hx => ?_⟩, o2.X hnp fun a k u => hi a k (by unfold inH at u; omega) (by unfold inH at u; omega), (hi _ _ (by omega) (by omega)).trans o3, (hi _ _ (by omega) (by omega)).trans o4, (hi _ _ (by omega) (by omega)).trans o5, fun a ha => ?_, fun k hk => ?_, ?_, ?_⟩, n2.X hnp fun a k u => hi a k (by unfold inH at u; omega) (by unfold inH at u; omega), n3.X hnp (fun a k u => hi a k (by
            rcases u with u | ⟨s, _, _, u⟩
            · omega
            · unfold inH at u; omega) (by
            rcases u with u | ⟨s, _, _, u⟩
            · omega
            · unfold inH at u; omega)) hpa, n4.X fun a k u => hi a k (by omega) (by omega), ⟨?_, fun i hi => absurd hi (Nat.not_lt_zero _)⟩, ?_, wrI_at _ _ _ _⟩
          · rw [hj _ _ (by omega), g6 _ (by omega)]; exact i1
          · rw [hj _ _ (by omega), g6 _ (by omega)]; exact i2
          · rw [hj _ _ (by omega), g6 _ (by omega)]; exact i3
          · rw [hj _ _ (by omega), g6 _ (by omega)]; exact i4
          · rw [hj _ _ (by omega), g6 _ (by omega)]; exact i5
          · rw [hj _ _ (by omega), g7 _ _ (by omega) (by have := wl.1; omega)]; exact i6 x hx
          · rw [hj _ _ (by omega), g7 _ _ (by omega) (by omega)]; exact i7 a ha
          · have hx6 : x < 6 := by have := wl.2.2.1; omega
            rw [hj _ _ (by omega), g7 _ _ (by omega) hx6, hj _ _ (by omega), g7 _ _ (by omega) hx6, hj _ _ (by omega), g7 _ _ (by omega) hx6]; exact i8 x hx
          · have hx6 : x < 20 := by have := wl.2.2.2.1; omega
            rw [hj _ _ (by omega), g9 _ _ (by omega) hx6, hj _ _ (by omega), g9 _ _ (by omega) hx6, hj _ _ (by omega), g9 _ _ (by omega) hx6, hj _ _ (by omega), g9 _ _ (by omega) hx6]; exact i9 x hx
          · obtain ⟨j1, j2, j3⟩ := i10 x hx
            refine ⟨by rw [hj _ _ (by omega), g10 _ _ (by omega) hx]; exact j1, by rw [hj _ _ (by omega), g10 _ _ (by omega) hx]; exact j2, fun i hi => ?_⟩
            have h64 : i < 64 := by
              obtain ⟨s, e, s1, s2, s3, s4⟩ := w.1.2.1 x hx
              rw [s2, nI_clamp (by have := s3.2.1; omega)] at hi
              have := s3.2.1
              omega
            rw [hj _ _ (by omega), g11 _ _ (by omega) h64, hj _ _ (by omega), g11 _ _ (by omega) h64]
            exact j3 i hi
          · rw [hj _ _ (by omega), g7 _ _ (by omega) (by omega), hj _ _ (by omega), g7 _ _ (by omega) (by omega)]; exact o6 a ha
          · rw [hj _ _ (by omega), g8 _ (by omega)]; exact o7 k hk
          · rw [hj _ _ (by omega), g6 _ (by omega)]; exact o8
          · rw [hj _ _ (by omega), g6 _ (by omega)]; exact o9
          · rw [wrI_1, if_neg (by omega), wrI_1, if_neg (by omega)]; exact g3
          · rw [wrI_1, if_neg (by omega), wrI_at]
    · -- all told
      obtain ⟨h1, S', s1, s2, s3, s4, s5, ⟨s6, s7, s8, s9⟩, s10⟩ := txC_ok hp (hS.2.1) (by rw [kr, d1, hpp]) hS.1.1.2.2 r
      have mh : RelM h1 P S nf np nl ng im pa nN nb nT tl tp fk fp := RelM.X mRel hnp hpa fun a k u => by
        have := kM_ge u
        rw [s10 a k (by omega) (by omega) (by omega) (by omega), kc a k (by omega) (by omega) (by omega)]
      obtain ⟨hr, g1, g2, g3, g4, g5, g6, g7, g8, g9, g10, g11, g12⟩ := ref2 h1 mh
      rcases g2 with ⟨f', q', k1', k2'⟩ | ⟨j2, nf2, np2, nl2, ng2, t2, b2', O2, hS2, e212⟩
      · exact absurd hS.1.1.2.2 k1'.n
      · have x255 : ∀ k v, h1.1 255 k = v → ¬ (k = 0 ∨ k = 2 ∨ (20 ≤ k ∧ k ≤ 28) ∨ k = 31 ∨ k = 32) → hr.1 255 k = v := fun k v e z => (g5 _ _ (by omega) (by omega)).trans e
        have hPW := tx_PW hS2.2.2.1 hS2.2.2.2.1
        obtain ⟨h2, v1, v2, v3⟩ := txE_ok hS2 (g4 hS2.1.2.1.2.2.2.2) (x255 _ _ mh.1.2.2.1 (by omega)) (x255 _ _ mh.1.2.2.2.1 (by omega)) (x255 _ _ mh.1.2.2.2.2.1 (by omega)) g3 s2 nT tp
        refine ⟨r, h1, h2, by rw [oC, s1], by rw [g1, v1, e212], plA p hc', S', nf2, np2, nl2, ng2, none, [], 0, -1, nT, 0, tp, 0, -1, ⟨hPW, s2.sG hPW.2.2.2.2.2.2.2.2.1 hPW.1.2.1, fun I hI => (by cases hI), fun I hI => absurd hI List.not_mem_nil, ⟨by omega, Or.inl rfl, fun i hi => absurd hi (Nat.not_lt_zero _)⟩⟩, ?_, v3⟩
        have lo : ∀ a k, a < 255 → h2.1 a k = h1.1 a k := fun a k z => (v2.1 a k z).trans (g5 a k (by omega) (by omega))
        have r2 : ∀ j, j < 2 → h2.2.2 j = h1.2.2 j := fun j hj => (v2.2 j hj).trans (by rw [g12])
        obtain ⟨nx, t1, t2', t3, t4, t5⟩ := c3
        refine ⟨⟨p, hp, (r2 0 (by omega)).trans s4, (r2 1 (by omega)).trans s5, fun o k ho => ?_, fun o k ho => ?_, fun a ha => ?_⟩, ⟨?_, fun I hI => by cases hI⟩, ⟨nx, t1, ?_, ?_, by simp, fun i I hI => by cases hI⟩, ⟨?_, ?_, fun i hi => absurd hi (Nat.not_lt_zero _)⟩, ⟨?_, by omega, fun i hi => absurd hi (Nat.not_lt_zero _)⟩, ⟨?_, fun z => absurd rfl z, fun _ => rfl⟩⟩
        · rw [lo _ _ (by omega), s10 _ _ (by omega) (by omega) (by omega) (by omega)]; rfl
        · rw [lo _ _ (by omega)]; exact s3 o k ho
        · rw [lo _ _ (by omega), s10 _ _ (by omega) (by omega) (by omega) (by omega), kc _ _ (by omega) (by omega) (by omega)]; exact d5 a ha
        · rw [lo _ _ (by omega), s8]; rfl
        · rw [lo _ _ (by omega), s10 _ _ (by omega) (by omega) (by omega) (by omega), kc _ _ (by omega) (by omega) (by omega)]; exact t2'
        · rw [lo _ _ (by omega), s9]; rfl
        · rw [lo _ _ (by omega), s6]; rfl
        · rw [lo _ _ (by omega), s7]
        · rw [lo _ _ (by omega), s10 _ _ (by omega) (by omega) (by omega) (by omega), kt]; rfl
        · rw [lo _ _ (by omega), s10 _ _ (by omega) (by omega) (by omega) (by omega)]; exact hS.1.1.2.2
