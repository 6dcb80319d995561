/-! a text: how both begin -/
/-- the places of a state -/
def stO (o k : Nat) : Prop := (1 ≤ o ∧ o ≤ 4 ∧ k < 6) ∨ (o = 5 ∧ k < 36) ∨ (o = 0 ∧ (k = 5 ∨ k = 6))
theorem x_clrS {q : Nat} (hq : q = 18 ∨ q = 46) (h : HH) : ∃ h', g_X7_clear q h = some ((), h') ∧ (∀ o k, stO o k → h'.1 (q + o) k = 0) ∧ (∀ a k, ¬ (q ≤ a ∧ a < q + 6) → h'.1 a k = h.1 a k) ∧ h'.2 = h.2 := by
  have s0 : shL[q]? = some (.inl 7) := by rcases hq with rfl | rfl; exact sh_18; exact sh_46
  have s1 : shL[q + 1]? = some (.inr (0, 6, 0)) := by rcases hq with rfl | rfl; exact sh_19; exact sh_47
  have s2 : shL[q + 2]? = some (.inr (0, 6, 0)) := by rcases hq with rfl | rfl; exact sh_20; exact sh_48
  have s3 : shL[q + 3]? = some (.inr (0, 6, 0)) := by rcases hq with rfl | rfl; exact sh_21; exact sh_49
  have s4 : shL[q + 4]? = some (.inr (0, 6, 0)) := by rcases hq with rfl | rfl; exact sh_22; exact sh_50
  have s5 : shL[q + 5]? = some (.inr (0, 36, 0)) := by rcases hq with rfl | rfl; exact sh_23; exact sh_51
  obtain ⟨h1, a1, a2, a3, a4⟩ := x_fill s1 (by decide) 0 h
  obtain ⟨h2, b1, b2, b3, b4⟩ := x_fill s2 (by decide) 0 h1
  obtain ⟨h3, c1, c2, c3, c4⟩ := x_fill s3 (by decide) 0 h2
  obtain ⟨h4, d1, d2, d3, d4⟩ := x_fill s4 (by decide) 0 h3
  obtain ⟨h5, e1, e2, e3, e4⟩ := x_fill s5 (by decide) 0 h4
  refine ⟨wrI (wrI h5 q 5 0) q 6 0, ?_, fun o k hk => ?_, fun a k hk => ?_, ?_⟩
  · unfold g_X7_clear
    simp only [pfI]
    rw [ckH_of s0, a1, bnd_some, b1, bnd_some, c1, bnd_some, d1, bnd_some, e1, bnd_some]
  · rcases hk with ⟨o1, o4, hk⟩ | ⟨rfl, hk⟩ | ⟨rfl, hk⟩
    · rw [wrI_1, if_neg (by omega), wrI_1, if_neg (by omega), e3 _ _ (by omega)]
      rcases (show o = 1 ∨ o = 2 ∨ o = 3 ∨ o = 4 by omega) with rfl | rfl | rfl | rfl
      · rw [d3 _ _ (by omega), c3 _ _ (by omega), b3 _ _ (by omega), a2 _ hk]
      · rw [d3 _ _ (by omega), c3 _ _ (by omega), b2 _ hk]
      · rw [d3 _ _ (by omega), c2 _ hk]
      · exact d2 _ hk
    · rw [wrI_1, if_neg (by omega), wrI_1, if_neg (by omega), e2 _ hk]
    · rw [Nat.add_zero]
      rcases hk with rfl | rfl
      · rw [wrI_1, if_neg (by omega), wrI_at]
      · exact wrI_at _ _ _ _
  · rw [wrI_1, if_neg (by omega), wrI_1, if_neg (by omega), e3 _ _ (by omega), d3 _ _ (by omega), c3 _ _ (by omega), b3 _ _ (by omega), a3 _ _ (by omega)]
  · show h5.2 = h.2
    rw [e4, d4, c4, b4, a4]
/-- a plan that tells nothing -/
def zP (p : Nat) (h : HH) : Prop := (h.1 p 0 = 0 ∧ h.1 p 2 = 0 ∧ h.1 p 5 = 0 ∧ h.1 p 9 = 0 ∧ h.1 p 15 = 0) ∧ (h.1 (p + 11) 2 = 0 ∧ ∀ r, r < 3 → h.1 (p + 14) r = 0 ∧ h.1 (p + 15) r = 0) ∧ ∀ o k, stO o k → h.1 (p + 16 + o) k = 0
theorem zP.k {p : Nat} {h h' : HH} (z : zP p h) (e : ∀ a k, p ≤ a → a < p + 22 → h'.1 a k = h.1 a k) : zP p h' := by
  obtain ⟨⟨z1, z2, z3, z4, z5⟩, ⟨z6, z7⟩, z8⟩ := z
  refine ⟨⟨?_, ?_, ?_, ?_, ?_⟩, ⟨?_, fun r hr => ⟨?_, ?_⟩⟩, fun o k hk => ?_⟩
  · rw [e _ _ (by omega) (by omega)]; exact z1
  · rw [e _ _ (by omega) (by omega)]; exact z2
  · rw [e _ _ (by omega) (by omega)]; exact z3
  · rw [e _ _ (by omega) (by omega)]; exact z4
  · rw [e _ _ (by omega) (by omega)]; exact z5
  · rw [e _ _ (by omega) (by omega)]; exact z6
  · rw [e _ _ (by omega) (by omega)]; exact (z7 r hr).1
  · rw [e _ _ (by omega) (by omega)]; exact (z7 r hr).2
  · have : o < 6 := by unfold stO at hk; omega
    rw [e _ _ (by omega) (by omega)]; exact z8 o k hk
theorem x_clrL {p : Nat} (hp : pOk p) (h : HH) : ∃ h', g_X2_clear (p + 11) h = some ((), h') ∧ h'.1 (p + 11) 2 = 0 ∧ (∀ r, r < 3 → h'.1 (p + 14) r = 0 ∧ h'.1 (p + 15) r = 0) ∧ (∀ a k, ¬ (p + 11 ≤ a ∧ a ≤ p + 15) → h'.1 a k = h.1 a k) ∧ h'.2 = h.2 := by
  have s1 : shL[p + 11 + 3]? = some (.inr (0, 3, 0)) := by rcases hp with rfl | rfl; exact sh_16; exact sh_44
  have s2 : shL[p + 11 + 4]? = some (.inr (0, 3, 0)) := by rcases hp with rfl | rfl; exact sh_17; exact sh_45
  obtain ⟨h1, a1, a2, a3, a4⟩ := x_fill s1 (by decide) 0 (wrI h (p + 11) 2 0)
  obtain ⟨h2, b1, b2, b3, b4⟩ := x_fill s2 (by decide) 0 h1
  refine ⟨h2, ?_, ?_, fun r hr => ⟨?_, b2 r hr⟩, fun a k hk => ?_, ?_⟩
  · unfold g_X2_clear
    simp only [pfI]
    rw [ckH_of (pOk.s p hp), a1, bnd_some, b1, bnd_some]
  · rw [b3 _ _ (by omega), a3 _ _ (by omega), wrI_at]
  · rw [b3 _ _ (by omega)]; exact a2 r hr
  · rw [b3 _ _ (by omega), a3 _ _ (by omega), wrI_1, if_neg (by omega)]
  · rw [b4, a4]; rfl
theorem x_clrP {p : Nat} (hp : pOk p) (h : HH) : ∃ h', g_X5_clear p h = some ((), h') ∧ zP p h' ∧ (∀ a k, ¬ (p ≤ a ∧ a < p + 22) → h'.1 a k = h.1 a k) ∧ h'.2 = h.2 := by
  obtain ⟨h1, a1, a2, a3, a4, a5⟩ := x_clrL hp (wrI (wrI (wrI (wrI h p 0 0) p 2 0) p 5 0) p 9 0)
  obtain ⟨h2, b1, b2, b3, b4⟩ := x_clrS (q := p + 16) (by rcases hp with rfl | rfl; exact Or.inl rfl; exact Or.inr rfl) (wrI h1 p 15 0)
  have x1 : ∀ a k, ¬ (p + 16 ≤ a ∧ a < p + 22) → ¬ (a = p ∧ k = 15) → h2.1 a k = h1.1 a k := fun a k q1 q2 => by rw [b3 a k (by omega), wrI_1, if_neg q2]
  refine ⟨h2, ?_, ⟨⟨?_, ?_, ?_, ?_, ?_⟩, ⟨?_, fun r hr => ⟨?_, ?_⟩⟩, b2⟩, fun a k hk => ?_, ?_⟩
  · unfold g_X5_clear
    simp only [pfI]
    rw [ckH_of (pOk.s0 p hp), a1, bnd_some, b1, bnd_some]
  · rw [x1 _ _ (by omega) (by omega), a4 _ _ (by omega), wrI_1, if_neg (by omega), wrI_1, if_neg (by omega), wrI_1, if_neg (by omega), wrI_at]
  · rw [x1 _ _ (by omega) (by omega), a4 _ _ (by omega), wrI_1, if_neg (by omega), wrI_1, if_neg (by omega), wrI_at]
  · rw [x1 _ _ (by omega) (by omega), a4 _ _ (by omega), wrI_1, if_neg (by omega), wrI_at]
  · rw [x1 _ _ (by omega) (by omega), a4 _ _ (by omega), wrI_at]
  · rw [b3 _ _ (by omega), wrI_at]
  · rw [x1 _ _ (by omega) (by omega)]; exact a2
  · rw [x1 _ _ (by omega) (by omega)]; exact (a3 r hr).1
  · rw [x1 _ _ (by omega) (by omega)]; exact (a3 r hr).2
  · rw [x1 _ _ (by omega) (by omega), a4 _ _ (by omega), wrI_1, if_neg (by omega), wrI_1, if_neg (by omega), wrI_1, if_neg (by omega), wrI_1, if_neg (by omega)]
  · rw [b4, wrI_2, a5]; rfl
/-- the class's reader, ready for its first line -/
theorem x_open {tp : Nat → Nat} {n p : Nat} (hp : pOk p) {h : HH} (hb : bC tp n h) (e1 : h.2.2 1 = p) :
    ∃ T hc, TKok T ∧ tTp T = tp ∧ tN T = n ∧ tSt T 0 = 0 ∧ g_X6_read (nI n) h = g_X6_read_L62 1024 0 (nI (tL T)) hc ∧ cT T hc ∧ zP p hc ∧ (∀ k, (3 ≤ k ∧ k ≤ 8) ∨ k = 11 → hc.1 24 k = 0) ∧ (∀ a k, ¬ (24 ≤ a ∧ a ≤ 28) → ¬ (p ≤ a ∧ a < p + 22) → hc.1 a k = h.1 a k) ∧ hc.2 = h.2 := by
  have hp' : p + 22 ≤ 60 ∧ (p + 22 ≤ 24 ∨ 30 ≤ p) ∧ 2 ≤ p := by rcases hp with rfl | rfl <;> omega
  obtain ⟨N, hN⟩ : ∃ N : Nat, N = 1024 := ⟨_, rfl⟩
  obtain ⟨h1, L, st, PL, f1, f2, f3, f4, f5, f6, f7, f8, f9, f10⟩ := x_cut hb
  obtain ⟨h2, g1, g2, g3, g4⟩ := x_clrP hp h1
  obtain ⟨hc, ehc⟩ : ∃ hc, hc = wrI (wrI (wrI (wrI (wrI (wrI (wrI h2 24 3 0) 24 4 0) 24 5 0) 24 6 0) 24 7 0) 24 8 0) 24 11 0 := ⟨_, rfl⟩
  have x1 : ∀ a k, ¬ (a = 24 ∧ ((3 ≤ k ∧ k ≤ 8) ∨ k = 11)) → hc.1 a k = h2.1 a k := fun a k q => by rw [ehc, wrI_1, if_neg (by omega), wrI_1, if_neg (by omega), wrI_1, if_neg (by omega), wrI_1, if_neg (by omega), wrI_1, if_neg (by omega), wrI_1, if_neg (by omega), wrI_1, if_neg (by omega)]
  have x2 : ∀ k, (3 ≤ k ∧ k ≤ 8) ∨ k = 11 → hc.1 24 k = 0 := fun k q => by
    rw [ehc]
    simp only [wrI_1]
    rcases (show k = 3 ∨ k = 4 ∨ k = 5 ∨ k = 6 ∨ k = 7 ∨ k = 8 ∨ k = 11 by omega) with rfl | rfl | rfl | rfl | rfl | rfl | rfl <;> simp
  have xT : ∀ a k, 25 ≤ a → a ≤ 28 → hc.1 a k = h1.1 a k := fun a k q1 q2 => by rw [x1 a k (by omega), g3 a k (by omega)]
  refine ⟨(tp, n, L, st, PL, fun j => h1.1 26 j, fun j => h1.1 28 j), hc, ⟨f2, f3, fun j hj => (f6 j (Nat.zero_le _) hj).1, f7, f8⟩, rfl, rfl, f5, ?_, ⟨(xT _ _ (by omega) (by omega)).trans f4, fun j hj => ⟨xT _ _ (by omega) (by omega), (xT _ _ (by omega) (by omega)).trans (f6 j (Nat.zero_le _) hj).2.1, xT _ _ (by omega) (by omega)⟩⟩, g2.k fun a k q1 q2 => x1 a k (by omega), x2, fun a k q1 q2 => ?_, ?_⟩
  · unfold g_X6_read
    simp only [gfR, gfI, pfI]
    rw [← hN, f1, bnd_some, show h1.2.2 1 = p by rw [f10]; exact e1, ckH_of (pOk.s0 p hp), g1, bnd_some, ← ehc, show hc.1 25 3 = nI L from (xT _ _ (by omega) (by omega)).trans f4]
    rfl
  · rw [x1 a k (by omega), g3 a k q2, f9 a k (by omega) (by omega)]
  · rw [ehc]
    show h2.2 = h.2
    rw [g4, f10]
/-- the reference's rows of numbers told, cleared -/
theorem r_L47 (K : HH → Option (Int32 × HH)) : ∀ (m i N : Nat) (h : HH), i + m = 7 → m < N → ∃ h', g_X11_text_L47 K N (nI i) h = K h' ∧ (∀ k, i ≤ k → k < 7 → h'.1 257 (7 + k) = 0) ∧ (∀ a k, ¬ (a = 257 ∧ 7 + i ≤ k ∧ k < 14) → h'.1 a k = h.1 a k) ∧ h'.2 = h.2 := by
  intro m
  induction m with
  | zero =>
    intro i N h hi hN
    obtain ⟨N, rfl⟩ : ∃ n', N = n' + 1 := ⟨N - 1, by omega⟩
    exact ⟨h, by rw [g_X11_text_L47, if_neg (show ¬ nI i < 7 from nI_nlt (b := 7) (by omega) (by omega))], fun k _ _ => by omega, fun _ _ _ => rfl, rfl⟩
  | succ m ih =>
    intro i N h hi hN
    obtain ⟨N, rfl⟩ : ∃ n', N = n' + 1 := ⟨N - 1, by omega⟩
    obtain ⟨h', f1, f2, f3, f4⟩ := ih (i + 1) N (wrI h 257 (7 + i) 0) (by omega) (by omega)
    refine ⟨h', ?_, fun k h1 h2 => ?_, fun a k q => ?_, f4⟩
    · rw [g_X11_text_L47, if_pos (show nI i < 7 from nI_lt (b := 7) (by omega) (by decide)), rd_of (by omega), bnd_some]
      simp only [vl, nI_1]
      exact f1
    · by_cases z : k = i
      · rw [z, f3 _ _ (by omega), wrI_at]
      · exact f2 k (by omega) h2
    · rw [f3 a k (by omega), wrI_1, if_neg (by omega)]
theorem r_L67 (K : HH → Option (Int32 × HH)) : ∀ (m i N : Nat) (h : HH), i + m = 6 → m < N → ∃ h', g_X11_text_L67 K N (nI i) h = K h' ∧ (∀ k, i ≤ k → k < 6 → h'.1 270 k = 0 ∧ h'.1 271 k = 0) ∧ (∀ a k, ¬ ((a = 270 ∨ a = 271) ∧ i ≤ k ∧ k < 6) → h'.1 a k = h.1 a k) ∧ h'.2 = h.2 := by
  intro m
  induction m with
  | zero =>
    intro i N h hi hN
    obtain ⟨N, rfl⟩ : ∃ n', N = n' + 1 := ⟨N - 1, by omega⟩
    exact ⟨h, by rw [g_X11_text_L67, if_neg (show ¬ nI i < 6 from nI_nlt (b := 6) (by omega) (by omega))], fun k _ _ => by omega, fun _ _ _ => rfl, rfl⟩
  | succ m ih =>
    intro i N h hi hN
    obtain ⟨N, rfl⟩ : ∃ n', N = n' + 1 := ⟨N - 1, by omega⟩
    obtain ⟨h', f1, f2, f3, f4⟩ := ih (i + 1) N (wrI (wrI h 270 i 0) 271 i 0) (by omega) (by omega)
    refine ⟨h', ?_, fun k h1 h2 => ?_, fun a k q => ?_, f4⟩
    · rw [g_X11_text_L67, if_pos (show nI i < 6 from nI_lt (b := 6) (by omega) (by decide)), stI_of (by omega) (by decide), stI_of (by omega) (by decide)]
      simp only [vl, nI_1]
      exact f1
    · by_cases z : k = i
      · rw [z, f3 _ _ (by omega), f3 _ _ (by omega), wrI_at, wrI_1, if_neg (by omega), wrI_at]
        exact ⟨rfl, rfl⟩
      · exact f2 k (by omega) h2
    · rw [f3 a k (by omega), wrI_1, if_neg (by omega), wrI_1, if_neg (by omega)]
/-- halves laid over, one row behind another -/
def hvs (K : HH → Option (Int32 × HH)) : List Nat → HH → Option (Int32 × HH)
  | [], h => K h
  | a :: l, h => bnd (g_X11_half a h) fun _ h' => hvs K l h'
def txZ (h64 : HH) : Option (Int32 × HH) :=
  pfI h64 255 56 (0 : Int32) fun h66 =>
  pfI h66 255 57 (-1 : Int32) fun h67 =>
  pfI h67 255 43 (0 : Int32) fun h68 =>
  pfI h68 255 44 (0 : Int32) fun h69 =>
  bnd (g_X11_begins h69) fun _ h70 => 
  gfI h70 255 21 fun v72 =>
  some (v72, h70)
def hvL : List Nat := [257, 258, 259, 260, 261, 262, 263, 264, 265, 266, 267, 268, 269, 270, 271, 272, 273]
/-- how the reference ends a text -/
def txE (h26 : HH) : Option (Int32 × HH) :=
  gfI h26 255 27 fun v27 =>
  pfI h26 255 29 v27 fun h28 =>
  gfI h28 255 28 fun v29 =>
  pfI h28 255 30 v29 fun h30 =>
  gfI h30 255 27 fun v31 =>
  if v31 = 0 then hvs txZ hvL h30 else some ((-1 : Int32), h30)
theorem rtext_eq (a0 : Int32) (h : HH) : g_X11_text a0 h = pfI h 255 0 (0 : Int32) fun h1 =>
  if a0 < 0 then
    (some ((-2 : Int32), h1))
  else
    (gfI h1 255 2 fun v2 =>
    if v2 < a0 then
      (some ((-2 : Int32), h1))
    else
      (pfI h1 255 22 a0 fun h3 =>
      pfI h3 255 2 (0 : Int32) fun h4 =>
      pfI h4 255 23 (0 : Int32) fun h5 =>
      pfI h5 255 27 (0 : Int32) fun h6 =>
      pfI h6 255 28 (-1 : Int32) fun h7 =>
      g_X11_text_L47 (fun  (h11 : HH) =>
        g_X11_text_L67 (fun  (h15 : HH) =>
          pfI h15 255 20 (0 : Int32) fun h16 =>
          pfI h16 255 21 (0 : Int32) fun h17 =>
          pfI h17 255 31 (0 : Int32) fun h18 =>
          pfI h18 255 32 (0 : Int32) fun h19 =>
          bnd (g_X11_token h19) fun _ h20 => 
          g_X11_text_L117 txE 1024 h20) 1024 (3 : Int32) h11) 1024 (0 : Int32) h7)) := rfl
/-- the reference, ready for its first line -/
theorem r_open {T : TKD} (w : TKok T) {tl : Nat} {h : HH} (hn : tN T ≤ tl) (h700 : tl ≤ 700) (e2 : h.1 255 2 = nI tl) (hb : ∀ i, i < tN T → tTp T i < 256 ∧ h.1 256 i = nI (tTp T i)) (s0 : tSt T 0 = 0) :
    ∃ hr, g_X11_text (nI (tN T)) h = g_X11_text_L117 txE 1024 hr ∧ rA T 0 hr ∧ (∀ k, k < 7 → hr.1 257 (7 + k) = 0) ∧ (∀ r, r < 3 → hr.1 270 (3 + r) = 0 ∧ hr.1 271 (3 + r) = 0) ∧ (hr.1 255 2 = 0 ∧ hr.1 255 20 = 0 ∧ hr.1 255 21 = 0 ∧ hr.1 255 31 = 0 ∧ hr.1 255 32 = 0 ∧ hr.1 255 28 = -1) ∧ (∀ a k, ¬ (a = 255 ∧ (k = 0 ∨ k = 2 ∨ (20 ≤ k ∧ k ≤ 28) ∨ k = 31 ∨ k = 32)) → ¬ (a = 257 ∧ 7 ≤ k) → ¬ ((a = 270 ∨ a = 271) ∧ 3 ≤ k) → hr.1 a k = h.1 a k) ∧ hr.2 = h.2 := by
  obtain ⟨N, hN⟩ : ∃ N : Nat, N = 1024 := ⟨_, rfl⟩
  obtain ⟨h0, eh0⟩ : ∃ h0, h0 = wrI (wrI (wrI (wrI (wrI (wrI h 255 0 0) 255 22 (nI (tN T))) 255 2 0) 255 23 0) 255 27 0) 255 28 (-1) := ⟨_, rfl⟩
  have x0 : ∀ a k, ¬ (a = 255 ∧ (k = 0 ∨ k = 2 ∨ k = 22 ∨ k = 23 ∨ k = 27 ∨ k = 28)) → h0.1 a k = h.1 a k := fun a k q => by rw [eh0, wrI_1, if_neg (by omega), wrI_1, if_neg (by omega), wrI_1, if_neg (by omega), wrI_1, if_neg (by omega), wrI_1, if_neg (by omega), wrI_1, if_neg (by omega)]
  obtain ⟨K1, eK1⟩ : ∃ K1 : HH → Option (Int32 × HH), K1 = fun (h15 : HH) => bnd (g_X11_token (wrI (wrI (wrI (wrI h15 255 20 0) 255 21 0) 255 31 0) 255 32 0)) fun _ h20 => g_X11_text_L117 txE N h20 := ⟨_, rfl⟩
  obtain ⟨h1, a1, a2, a3, a4⟩ := r_L47 (fun h11 => g_X11_text_L67 K1 N 3 h11) 7 0 N h0 (by omega) (by omega)
  obtain ⟨h2, b1, b2, b3, b4⟩ := r_L67 K1 3 3 N h1 (by omega) (by omega)
  obtain ⟨h3, eh3⟩ : ∃ h3, h3 = wrI (wrI (wrI (wrI h2 255 20 0) 255 21 0) 255 31 0) 255 32 0 := ⟨_, rfl⟩
  have x3 : ∀ a k, ¬ (a = 255 ∧ (k = 20 ∨ k = 21 ∨ k = 31 ∨ k = 32)) → h3.1 a k = h2.1 a k := fun a k q => by rw [eh3, wrI_1, if_neg (by omega), wrI_1, if_neg (by omega), wrI_1, if_neg (by omega), wrI_1, if_neg (by omega)]
  have x30 : ∀ a k, ¬ (a = 255 ∧ (k = 20 ∨ k = 21 ∨ k = 31 ∨ k = 32)) → ¬ (a = 257 ∧ 7 ≤ k) → ¬ ((a = 270 ∨ a = 271) ∧ 3 ≤ k) → h3.1 a k = h0.1 a k := fun a k q1 q2 q3 => by rw [x3 a k q1, b3 a k (by omega), a3 a k (by omega)]
  have e22 : h3.1 255 22 = nI (tN T) := by rw [x30 _ _ (by omega) (by omega) (by omega), eh0, wrI_1, if_neg (by omega), wrI_1, if_neg (by omega), wrI_1, if_neg (by omega), wrI_1, if_neg (by omega), wrI_at]
  have e23 : h3.1 255 23 = nI (tSt T 0) := by rw [x30 _ _ (by omega) (by omega) (by omega), eh0, wrI_1, if_neg (by omega), wrI_1, if_neg (by omega), wrI_at, s0]; rfl
  have bR3 : bR (tTp T) (tN T) h3 := ⟨by omega, e22, fun i hi => ⟨(hb i hi).1, by rw [x30 _ _ (by omega) (by omega) (by omega), x0 _ _ (by omega)]; exact (hb i hi).2⟩⟩
  obtain ⟨hr, f1, f2, f3, f4, f5⟩ := w.2.2.1 0 w.1 h3 bR3 e23
  have k255 : ∀ k v, h3.1 255 k = v → ¬ (23 ≤ k ∧ k ≤ 26) → hr.1 255 k = v := fun k v e q => (f2.1 _ _ (by omega)).trans e
  refine ⟨hr, ?_, ⟨bR3.k f2, f3, f4, f5, ?_⟩, fun k hk => ?_, fun r hr3 => ?_, ⟨k255 _ _ ?_ (by omega), k255 _ _ ?_ (by omega), k255 _ _ ?_ (by omega), k255 _ _ ?_ (by omega), k255 _ _ ?_ (by omega), k255 _ _ ?_ (by omega)⟩, fun a k q1 q2 q3 => ?_, ?_⟩
  · rw [rtext_eq]
    simp only [pfI, gfI]
    rw [if_neg (nI_pos (by omega)), show (wrI h 255 0 0).1 255 2 = nI tl by rw [wrI_1, if_neg (by omega)]; exact e2, if_neg (nI_nlt hn (by omega)), ← eh0, ← hN, ← eK1, show (0 : Int32) = nI 0 from rfl, a1, show (3 : Int32) = nI 3 from rfl, b1, eK1]
    show bnd (g_X11_token (wrI (wrI (wrI (wrI h2 255 20 0) 255 21 0) 255 31 0) 255 32 0)) _ = _
    rw [← eh3, f1, bnd_some]
  · refine k255 _ _ ?_ (by omega)
    rw [x30 _ _ (by omega) (by omega) (by omega), eh0, wrI_1, if_neg (by omega), wrI_at]
  · rw [f2.1 _ _ (by omega), x3 _ _ (by omega), b3 _ _ (by omega)]; exact a2 k (Nat.zero_le _) hk
  · rw [f2.1 _ _ (by omega), f2.1 _ _ (by omega), x3 _ _ (by omega), x3 _ _ (by omega)]; exact b2 (3 + r) (by omega) (by omega)
  · rw [x30 _ _ (by omega) (by omega) (by omega), eh0, wrI_1, if_neg (by omega), wrI_1, if_neg (by omega), wrI_1, if_neg (by omega), wrI_at]
  · rw [eh3, wrI_1, if_neg (by omega), wrI_1, if_neg (by omega), wrI_1, if_neg (by omega), wrI_at]
  · rw [eh3, wrI_1, if_neg (by omega), wrI_1, if_neg (by omega), wrI_at]
  · rw [eh3, wrI_1, if_neg (by omega), wrI_at]
  · rw [eh3, wrI_at]
  · rw [x30 _ _ (by omega) (by omega) (by omega), eh0, wrI_at]
  · rw [f2.1 _ _ (by omega), x30 _ _ (by omega) q2 q3, x0 _ _ (by omega)]
  · rw [f2.2, eh3]
    show h2.2 = h.2
    rw [b4, a4, eh0]
    rfl
