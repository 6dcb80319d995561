/-! filling a row -/
theorem x_fill_L {A n : Nat} (hA : shL[A]? = some (.inr (0, n, 0))) (hn : n ≤ 1000) (v : Int32) (h0 : HH) : ∀ (m i N : Nat) (h : HH), i + m = n → m < N → (∀ k, k < i → h.1 A k = v) → (∀ a k, ¬ (a = A ∧ k < i) → h.1 a k = h0.1 a k) → h.2 = h0.2 →
    ∃ h', g_J7_fill_53178_L5 A v (nI n) N (nI i) h = some ((), h') ∧ (∀ k, k < n → h'.1 A k = v) ∧ (∀ a k, ¬ (a = A ∧ k < n) → h'.1 a k = h0.1 a k) ∧ h'.2 = h0.2 := by
  have hl : lnA A = n := by unfold lnA; rw [hA]
  intro m
  induction m with
  | zero =>
    intro i N h hi hN e1 e2 e3
    obtain ⟨N, rfl⟩ : ∃ n', N = n' + 1 := ⟨N - 1, by omega⟩
    obtain rfl : i = n := by omega
    exact ⟨h, by rw [g_J7_fill_53178_L5, if_neg (nI_nlt (Nat.le_refl _) (by omega))], e1, e2, e3⟩
  | succ m ih =>
    intro i N h hi hN e1 e2 e3
    obtain ⟨N, rfl⟩ : ∃ n', N = n' + 1 := ⟨N - 1, by omega⟩
    obtain ⟨h', f1, f2, f3, f4⟩ := ih (i + 1) N (wrI h A i v) (by omega) (by omega) (fun k hk => by
      rw [wrI_1]
      by_cases q : k = i
      · rw [if_pos ⟨rfl, q⟩]
      · rw [if_neg (fun z => q z.2)]; exact e1 k (by omega)) (fun a k q => by rw [wrI_1, if_neg (fun z => q ⟨z.1, by omega⟩)]; exact e2 a k (fun z => q ⟨z.1, by omega⟩)) e3
    refine ⟨h', ?_, f2, f3, f4⟩
    rw [← f1, g_J7_fill_53178_L5, if_pos (nI_lt (by omega) (by omega)), hl, stI_of (by omega) (by omega)]
    simp only [vl, nI_1]
theorem x_fill {A n : Nat} (hA : shL[A]? = some (.inr (0, n, 0))) (hn : n ≤ 1000) (v : Int32) (h : HH) : ∃ h', g_J7_fill_53178 A v h = some ((), h') ∧ (∀ k, k < n → h'.1 A k = v) ∧ (∀ a k, ¬ (a = A ∧ k < n) → h'.1 a k = h.1 a k) ∧ h'.2 = h.2 := by
  have hl : lnA A = n := by unfold lnA; rw [hA]
  obtain ⟨N, hN⟩ : ∃ N : Nat, N = 1024 := ⟨_, rfl⟩
  obtain ⟨h', f1, f2, f3, f4⟩ := x_fill_L hA hn v h n 0 N h (by omega) (by omega) (fun k hk => absurd hk (by omega)) (fun _ _ _ => rfl) rfl
  refine ⟨h', ?_, f2, f3, f4⟩
  unfold g_J7_fill_53178 ckA
  rw [hl, if_pos hA, ← hN]
  exact f1
/-! tried -/
/-- no tallies -/
def zT (T : TB) : TB := fun x i => if x = 5 ∧ i < 36 then 0 else T x i
theorem zT_o {T : TB} {x i : Nat} (h : ¬ (x = 5 ∧ i < 36)) : zT T x i = T x i := if_neg h
theorem zT_X {T : TB} {nf np : Nat} (s : sX T nf np) : sX (zT T) nf np := by
  obtain ⟨s1, s2, s3⟩ := s
  refine ⟨fun a ha => ?_, fun j hj => ?_, fun a h1 h2 => ?_⟩
  · rw [zT_o (by omega)]; exact s1 a ha
  · unfold zT; rw [if_pos ⟨rfl, hj⟩]; exact ⟨by decide, by decide⟩
  · rw [zT_o (by omega), zT_o (by omega), zT_o (by omega), zT_o (by omega)]; exact s3 a h1 h2
theorem x_try {h : HH} {p z np nf nl ng md u n : Nat} {P T : TB} {fo : Nat → Int32} (c : cAt h p 196 z P T fo np md) (w : gOk P nf np nl ng) (s : sX T nf np) (hu : T 0 5 = nI u) (hu2 : u ≤ 9800) (hn : n ≤ 200) (idle : Int32) (bare : Bool) {z' : Nat} (hz : z' = p + 3 ∨ z' = 224) (sz : shL[z']? = some (.inr (0, 6, 0))) :
    ∃ h', scA h h' ∧ g_X0_pass (nI n) (wrR (wrI (wrI h 193 7 idle) 193 8 (if bare then 1 else 0)) 4 z') = some ((), h') ∧ CS h' 196 (itA (hrA P (h.1 z') np md ng bare idle) n T) := by
  obtain ⟨c1, c2, c3, c4, c5, c6, c7, c8, c9, c10, c11, c12, c13, c14, c15, c16, c17⟩ := c
  have fr : ∀ a k, ¬ (a = 193 ∧ (k = 7 ∨ k = 8)) → (wrR (wrI (wrI h 193 7 idle) 193 8 (if bare then 1 else 0)) 4 z').1 a k = h.1 a k := fun a k q => by rw [wrR_1, wrI_1, if_neg (by omega), wrI_1, if_neg (by omega)]
  have fr2 : ∀ j, j ≠ 4 → (wrR (wrI (wrI h 193 7 idle) 193 8 (if bare then 1 else 0)) 4 z').2.2 j = h.2.2 j := fun j q => by rw [wrR_3, if_neg q]; rfl
  have k : cAt (wrR (wrI (wrI h 193 7 idle) 193 8 (if bare then 1 else 0)) 4 z') p 196 z' P T (h.1 z') np md :=
    ⟨(fr2 2 (by decide)).trans c1, (fr2 3 (by decide)).trans c2, by rw [wrR_3, if_pos rfl], c4, c5, sz, fun o k ho => (fr _ _ (by omega)).trans (c7 o k ho), fun o k ho => (fr _ _ (by omega)).trans (c8 o k ho), funext fun k => fr _ _ (by omega), c10, c11, c12, (fr _ _ (by omega)).trans c13, c14, c15, c16, hz⟩
  obtain ⟨h', s', k', e'⟩ := x_pass w (bare := bare) (idle := idle) (k := n) (u := u) (by omega) (by omega) hu s.1 k (by rw [wrR_1, wrI_at]) (by rw [wrR_1, wrI_1, if_neg (by decide), wrI_at])
  exact ⟨h', ⟨fun a k q => (s'.A.1 a k q).trans (fr a k (by omega)), fun j hj => (s'.A.2 j hj).trans (fr2 j (by omega))⟩, e', k'.2.2.2.2.2.2.2.1⟩
theorem scB_48 {h : HH} (h1 h2 : HH) (v w : Int32) (s : scG 1 (wrI (wrI h 255 48 v) 255 49 w) h1) (e1 : h.1 255 48 = 0) (e2 : h.1 255 49 = -1) (e : h2 = wrI (wrI h1 255 48 0) 255 49 (-1)) : scB h h2 := by
  have sB := scG1B s
  subst e
  refine ⟨fun a k u => ?_, fun j hj => (sB.2 j hj).trans rfl⟩
  by_cases q : a = 255 ∧ k = 49
  · rw [q.1, q.2, wrI_at, e2]
  · by_cases q2 : a = 255 ∧ k = 48
    · rw [q2.1, q2.2, wrI_1, if_neg (by decide), wrI_at, e1]
    · rw [wrI_1, if_neg q, wrI_1, if_neg q2, sB.1 a k u, wrI_1, if_neg q, wrI_1, if_neg q2]
theorem r_try {h : HH} {P S T : TB} {fo : Nat → Int32} {nf np nl ng md n : Nat} (m : RM1 h P S nf np nl ng) (w : PW P nf np nl ng) (k : mAt h 1 P T (P 3) nf np nl ng) (s : sX T nf np) (hn : n ≤ 200) (v48 a1 idle : Int32) {bare : Bool} (hfo : ∀ a, a < np → (if v48 = 4 then 99 else P 3 a) = fo a) (hmd : (md = 2 ∧ v48 = 5) ∨ (¬ v48 = 5 ∧ md = 1)) (hb : v48 = 3 ↔ bare = true) (hid : (v48 = 2 ∧ a1 = idle) ∨ (¬ v48 = 2 ∧ idle = -1)) :
    ∃ h', scB h h' ∧ (bnd (g_X11_goesOn (nI n) (wrI (wrI h 255 48 v48) 255 49 a1)) fun _ h17 => bnd (g_X11_sumOf 278 (1 : Int32) (wrI (wrI h17 255 48 0) 255 49 (-1))) fun r22 h21 => some (r22, h21)) = some (smI (itA (hrA P fo np md ng bare idle) n T 1) np, h') := by
  have hnp : np ≤ 6 := w.1.2.1
  obtain ⟨m1, k1, mf, wl, hs, hnf, hnp'⟩ := id k
  have q48 : (wrI (wrI h 255 48 v48) 255 49 a1).1 255 48 = v48 := by rw [wrI_1, if_neg (by decide), wrI_at]
  have q49 : (wrI (wrI h 255 48 v48) 255 49 a1).1 255 49 = a1 := wrI_at _ _ _ _
  have fr : ∀ a k, ¬ (a = 255 ∧ (k = 48 ∨ k = 49)) → (wrI (wrI h 255 48 v48) 255 49 a1).1 a k = h.1 a k := fun a k q => by rw [wrI_1, if_neg (by omega), wrI_1, if_neg (by omega)]
  have kA : mAt (wrI (wrI h 255 48 v48) 255 49 a1) 1 P T fo nf np nl ng := ⟨m1.X fun a k q1 q2 => fr a k (by omega), k1.X hnp fun a k hk => fr a k (by unfold inH at hk; omega), fun b hb => by
    rw [q48, fr 261 b (by omega), m1.2.2.2.2.2.2.1 b hb]; exact hfo b hb, wl, hs, hnf, hnp'⟩
  obtain ⟨h1, s1, c1, e1⟩ := r_goesOn w.1 (e := n) (md := md) (bare := bare) (idle := idle) (by omega) s kA (by
      unfold mdR; rw [q48]
      rcases hmd with ⟨q1, q2⟩ | ⟨q1, q2⟩
      · exact Or.inl ⟨q1, q2⟩
      · exact Or.inr ⟨q1, Or.inr ⟨q2, rfl⟩⟩) (by rw [q48]; exact hb) (by
      unfold idR; rw [q48, q49]
      rcases hid with q | ⟨q1, q2⟩
      · exact Or.inl q
      · refine Or.inr ⟨q1, fun g hg e => ?_⟩
        obtain ⟨g1, g2, g3⟩ := pg_ok w.1 hg
        rw [g3, q2] at e
        exact m1_ne _ (by omega) e)
  have fr2 : ∀ a k, ¬ (a = 255 ∧ (k = 48 ∨ k = 49)) → (wrI (wrI h1 255 48 0) 255 49 (-1)).1 a k = h1.1 a k := fun a k q => by rw [wrI_1, if_neg (by omega), wrI_1, if_neg (by omega)]
  have z := r_sum (o := 1) (s := 1) (h := wrI (wrI h1 255 48 0) 255 49 (-1)) (by decide) (by decide) (by decide) hnp ((fr2 257 1 (by decide)).trans c1.1.2.1) (c1.2.1.X hnp fun a k hk => fr2 a k (by unfold inH at hk; omega))
  have z' : g_X11_sumOf 278 1 (wrI (wrI h1 255 48 0) 255 49 (-1)) = _ := z
  exact ⟨_, scB_48 h1 _ v48 a1 s1 m.2.2.2.1 m.2.2.2.2.1 rfl, by rw [e1, bnd_some, z', bnd_some]⟩
theorem r_try0 (K : HH → Option (Int32 × HH)) (c1 c2 c3 : Int32) (h1 : ¬ c1 = 1) (h : HH) : g_X11_tried_L65 K c1 c2 c3 1024 0 h = K h := by
  rw [g_X11_tried_L65, if_pos (by decide), if_neg h1]
theorem r_try1_L (K : HH → Option (Int32 × HH)) (c2 c3 : Int32) (h0 : HH) : ∀ (m i N : Nat) (h : HH), i + m = 36 → m < N → (∀ x, x < i → h.1 282 (36 * 1 + x) = 0) → (∀ a k, ¬ (a = 282 ∧ 36 ≤ k ∧ k < 36 + i) → h.1 a k = h0.1 a k) → h.2 = h0.2 →
    ∃ h', g_X11_tried_L65 K 1 c2 c3 N (nI i) h = K h' ∧ (∀ x, x < 36 → h'.1 282 (36 * 1 + x) = 0) ∧ (∀ a k, ¬ (a = 282 ∧ 36 ≤ k ∧ k < 36 + 36) → h'.1 a k = h0.1 a k) ∧ h'.2 = h0.2 := by
  intro m
  induction m with
  | zero =>
    intro i N h hi hN e1 e2 e3
    obtain ⟨N, rfl⟩ : ∃ n', N = n' + 1 := ⟨N - 1, by omega⟩
    obtain rfl : i = 36 := by omega
    exact ⟨h, by rw [g_X11_tried_L65, if_neg (show ¬ nI 36 < 36 by decide)], e1, e2, e3⟩
  | succ m ih =>
    intro i N h hi hN e1 e2 e3
    obtain ⟨N, rfl⟩ : ∃ n', N = n' + 1 := ⟨N - 1, by omega⟩
    obtain ⟨h', f1, f2, f3, f4⟩ := ih (i + 1) N (wrI h 282 (36 + i) 0) (by omega) (by omega) (fun x hx => by
      rw [wrI_1]
      by_cases q : x = i
      · rw [if_pos ⟨rfl, by omega⟩]
      · rw [if_neg (by omega)]; exact e1 x (by omega)) (fun a k q => by rw [wrI_1, if_neg (by omega)]; exact e2 a k (by omega)) e3
    refine ⟨h', ?_, f2, f3, f4⟩
    rw [← f1, g_X11_tried_L65, if_pos (show nI i < 36 from nI_lt (b := 36) (by omega) (by decide)), if_pos rfl, show (36 : Int32) + nI i = nI (36 + i) from nI_add 36 i, stI_of (by omega) (by decide)]
    simp only [vl, nI_1]
theorem r_try1 (K : HH → Option (Int32 × HH)) (c2 c3 : Int32) {h : HH} {P S T : TB} {nf np nl ng : Nat} (hnp : np ≤ 6) (m : RM1 h P S nf np nl ng) (k : mAt h 1 P T (P 3) nf np nl ng) : ∃ h', g_X11_tried_L65 K 1 c2 c3 1024 0 h = K h' ∧ scB h h' ∧ RM1 h' P S nf np nl ng ∧ mAt h' 1 P (zT T) (P 3) nf np nl ng := by
  obtain ⟨h', f1, f2, f3, f4⟩ := r_try1_L K c2 c3 h 36 0 1024 h rfl (by decide) (fun x hx => absurd hx (by omega)) (fun _ _ _ => rfl) rfl
  have sg : scG 1 h h' := ⟨fun a k u _ _ _ => f3 a k (by unfold inH at u; omega), fun a k _ _ => by rw [f4], by rw [f4]⟩
  have mB := m.B hnp (scG1B sg)
  obtain ⟨m1, k1, mf, wl, hs, hnf, hnp'⟩ := k
  refine ⟨h', f1, scG1B sg, mB, mB.1, ⟨fun a ha => ?_, fun j hj => ?_, ?_, ?_⟩, mf.X (f3 _ _ (by omega)) (fun k => f3 _ _ (by omega)), wl, hs, hnf, hnp'⟩
  · rw [f3 278 _ (by omega), f3 279 _ (by omega), f3 280 _ (by omega), f3 281 _ (by omega), zT_o (by omega), zT_o (by omega), zT_o (by omega), zT_o (by omega)]
    exact k1.1 a ha
  · rw [f2 j hj]; unfold zT; rw [if_pos ⟨rfl, hj⟩]
  · rw [f3 276 _ (by omega), zT_o (by omega)]; exact k1.2.2.1
  · rw [f3 277 _ (by omega), zT_o (by omega)]; exact k1.2.2.2
theorem x_zero {h : HH} {p z np md : Nat} {P T : TB} {fo : Nat → Int32} (c : cAt h p 196 z P T fo np md) : ∃ h', g_J7_fill_53178 201 0 h = some ((), h') ∧ scA h h' ∧ cAt h' p 196 z P (zT T) fo np md ∧ h'.2.2 0 = h.2.2 0 := by
  obtain ⟨h', f1, f2, f3, f4⟩ := x_fill (A := 201) (n := 36) sh_201 (by decide) 0 h
  have sq : scQ 196 h h' := ⟨fun a k u => f3 a k (by omega), fun a k _ => by rw [f4], by rw [f4]⟩
  refine ⟨h', f1, sq.F.A, c.mv sq fun o k ho => ?_, by rw [f4]⟩
  have c8 := c.2.2.2.2.2.2.2.1 o k ho
  unfold zT
  by_cases q : o = 5 ∧ k < 36
  · rw [if_pos q, q.1]; exact f2 k q.2
  · rw [if_neg q, f3 _ _ (by omega)]; exact c8
theorem smI_h {h : HH} {U : TB} {nf np : Nat} (hnp : np ≤ 6) (c : CS h 196 U) (s : sX U nf np) : smI (h.1 197) 6 = smI (U 1) np := (smI_eq 6 fun a _ => c 1 a (by decide)).trans (s.2.2.sm hnp (by decide) (by decide))
theorem ckZ0 {β : Type} (K : Option β) : ckZ 0 K = K := if_pos (Or.inl rfl)
theorem ckZ1 {β : Type} (K : Option β) : ckZ 1 K = K := if_pos (Or.inr rfl)
theorem wrI_r (h : HH) (a k : Nat) (v : Int32) : (wrI h a k v).2.2 = h.2.2 := rfl
theorem c_tried (a0 a1 a2 : Int32) : Eqv (g_X10_tried a0 a1 a2) (g_X11_tried a0 a1 a2) := by
  refine Eqv_qs fun P S nf np nl ng w s h c => ?_
  have hnf : nf ≤ 6 := w.1.1
  have hnp : np ≤ 6 := w.1.2.1
  -- what is refused
  have no : (∀ h, RC1 h P S → g_X10_tried a0 a1 a2 h = some (-1, h)) → (∀ h, RM1 h P S nf np nl ng → g_X11_tried a0 a1 a2 h = some (-1, wrI h 255 0 0)) → ∃ (v : Int32) (h' : HH), scA h h' ∧ g_X10_tried a0 a1 a2 h = some (v, h') ∧ ∀ h, RM1 h P S nf np nl ng → ∃ h', scB h h' ∧ g_X11_tried a0 a1 a2 h = some (v, h') := fun q1 q2 => ⟨-1, h, scA_rf h, q1 h c, fun h m => ⟨_, scB_0 h, q2 h m⟩⟩
  have fits : (a0 = 2 ∧ prs a1 np) ∨ (¬ a0 = 2 ∧ prs a0 5 ∧ a1 = 0) ∨ ((∀ h, RC1 h P S → g_X10_tried a0 a1 a2 h = some (-1, h)) ∧ (∀ h, RM1 h P S nf np nl ng → g_X11_tried a0 a1 a2 h = some (-1, wrI h 255 0 0))) := by
    by_cases k2 : a0 = 2
    · by_cases pa : prs a1 np
      · exact Or.inl ⟨k2, pa⟩
      · subst k2
        refine Or.inr (Or.inr ⟨fun h c => ?_, fun h m => ?_⟩)
        · unfold g_X10_tried
          simp only [jn]
          rw [if_pos True.intro, x_isP0 c w pa, bnd_some, if_neg (by decide), if_neg (by decide), if_pos rfl]
        · unfold g_X11_tried
          simp only [jn, pfI]
          rw [if_pos True.intro, r_isP0 (m.B hnp (scB_0 h)).1 pa, bnd_some, if_pos rfl]
    · by_cases k0 : a0 < 0
      · refine Or.inr (Or.inr ⟨fun h c => ?_, fun h m => ?_⟩)
        · unfold g_X10_tried
          simp only [jn, k2, k0, if_true, if_false, ite_self]
        · unfold g_X11_tried
          simp only [jn, pfI, k2, k0, if_true, if_false]
      · by_cases k4 : 4 < a0
        · refine Or.inr (Or.inr ⟨fun h c => ?_, fun h m => ?_⟩)
          · unfold g_X10_tried
            simp only [jn, k2, k0, k4, if_true, if_false, ite_self]
          · unfold g_X11_tried
            simp only [jn, pfI, k2, k0, k4, if_true, if_false]
        · by_cases ka : a1 = 0
          · refine Or.inr (Or.inl ⟨k2, ?_, ka⟩)
            obtain ⟨k, hk, rfl⟩ := nI_of k0
            exact ⟨k, Nat.not_le.mp fun q => k4 (nI_lt (a := 4) (by omega) hk), rfl⟩
          · refine Or.inr (Or.inr ⟨fun h c => ?_, fun h m => ?_⟩)
            · unfold g_X10_tried
              simp only [jn, k2, k0, k4, ka, if_true, if_false]
            · unfold g_X11_tried
              simp only [jn, pfI, k2, k0, k4, ka, if_true, if_false]
  -- so many hours
  by_cases n0 : a2 < 0 ∨ 200 < a2
  · have nn : ∀ (x : Int32) (h : HH) (X : Option (Int32 × HH)), (if a2 < 0 then some (x, h) else if 200 < a2 then some (x, h) else X) = some (x, h) := fun x h X => by
      by_cases q : a2 < 0
      · rw [if_pos q]
      · rw [if_neg q, if_pos (n0.resolve_left q)]
    rcases fits with ⟨rfl, i, hi, rfl⟩ | ⟨k2, ⟨k, hk, rfl⟩, rfl⟩ | ⟨q1, q2⟩
    · refine no (fun h c => ?_) (fun h m => ?_)
      · unfold g_X10_tried
        simp only [jn]
        rw [if_pos True.intro, x_isP1 c w hi, bnd_some, if_neg (by decide), if_neg (by decide), if_neg (by decide), nn]
      · unfold g_X11_tried
        simp only [jn, pfI]
        rw [if_pos True.intro, r_isP1 (m.B hnp (scB_0 h)).1 hnp hi, bnd_some, if_neg (by decide), nn]
    · have kn : ¬ nI k < 0 := nI_pos (by omega)
      have k4 : ¬ 4 < nI k := nI_nlt (a := 4) (by omega) (by decide)
      refine no (fun h c => ?_) (fun h m => ?_)
      · unfold g_X10_tried
        simp only [jn]
        rw [if_neg k2, if_pos True.intro, if_neg kn, if_neg k4, if_neg (by decide), nn]
      · unfold g_X11_tried
        simp only [jn, pfI]
        rw [if_neg k2, if_neg kn, if_neg k4, if_pos True.intro, if_neg (by decide), nn]
    · exact no q1 q2
  have n1 : ¬ a2 < 0 := fun q => n0 (Or.inl q)
  have n2 : ¬ 200 < a2 := fun q => n0 (Or.inr q)
  obtain ⟨n, hn, rfl⟩ := nI_of n1
  have n200 : n ≤ 200 := Nat.not_lt.mp fun q => n2 (nI_lt (a := 200) q hn)
  obtain ⟨u, u1, u2⟩ := s.2.2.2
  have d10 : ¬ (1 : Int32) = 0 := by decide
  rcases fits with ⟨rfl, i, hi, rfl⟩ | ⟨k2, ⟨k, hk, rfl⟩, rfl⟩ | ⟨q1, q2⟩
  · obtain ⟨p, h1, T, e1, q1, k1, k7, k8, p0, sp, s1, c1⟩ := x_trial c w (md := 1) (by decide)
    have e1' : g_X10_startTrial 1 h = _ := e1
    have tX := q1.sX s.X hnp
    have tu := q1.2.2.1.trans u2
    have p1 := p0
    have sA := s1
    obtain ⟨h3, s3, e3, k3⟩ := x_try k1 w.1 tX tu u1 n200 (nI i) false (Or.inl rfl) (k1.2.2.2.2.2.1)
    rw [show h1.1 (p + 3) = P 3 from k1.2.2.2.2.2.2.2.2.1] at k3
    simp only [Bool.false_eq_true, if_false] at e3
    have gX := tX.it (P := P) (fo := (P 3)) (md := 1) w.1 (bare := false) (idle := (nI i)) n
    refine ⟨smI (itA (hrA P (P 3) np 1 ng false (nI i)) n T 1) np, h3, sA.tr s3, ?_, fun h m => ?_⟩
    · unfold g_X10_tried
      simp only [jn, (by decide : ¬ (2 : Int32) < 0), (by decide : ¬ (4 : Int32) < 2), (by decide : ¬ (2 : Int32) = 0), (by decide : ¬ (2 : Int32) = 1), (by decide : ¬ (2 : Int32) = 3), (by decide : ¬ (2 : Int32) = 4), n1, n2, if_true, if_false]
      rw [x_isP1 c w hi, bnd_some]
      simp only [d10, if_false]
      rw [e1', bnd_some, ckH_of sh_196]
      simp only [pfI, pfR, gfR, ckZ0, ckZ1, wrI_r, p1]
      rw [ckH_of sp, ckH_of (k1.2.2.2.2.2.1), e3, bnd_some, show g_X7_sumOf (196 + 1) h3 = _ from x_sum sh_197 h3, bnd_some, smI_h hnp k3 gX]
    · have mB := m.B hnp (scB_0 h)
      obtain ⟨h4, e4, k4, s4, m4, n48, n49⟩ := r_trial mB w q1
      obtain ⟨h6, s6, e6⟩ := r_try m4 w k4 tX n200 2 (nI i) (nI i) (bare := false) (fo := (P 3)) (md := 1) (fun a ha => by rw [if_neg (by decide)]) (Or.inr ⟨by decide, rfl⟩) (by decide) (Or.inl ⟨rfl, rfl⟩)
      refine ⟨h6, ((scB_0 h).tr (scG1B s4)).tr s6, ?_⟩
      unfold g_X11_tried
      simp only [jn, pfI, (by decide : ¬ (2 : Int32) < 0), (by decide : ¬ (4 : Int32) < 2), (by decide : ¬ (2 : Int32) = 0), (by decide : ¬ (2 : Int32) = 1), (by decide : ¬ (2 : Int32) = 3), (by decide : ¬ (2 : Int32) = 4), n1, n2, if_true, if_false]
      rw [r_isP1 mB.1 hnp hi, bnd_some]
      simp only [d10, if_false]
      rw [e4, bnd_some, r_try0 _ _ _ _ (by decide)]
      exact e6
  · rcases (show k = 0 ∨ k = 1 ∨ k = 3 ∨ k = 4 by
      have : k ≠ 2 := fun q => k2 (by rw [q]; rfl)
      omega) with rfl | rfl | rfl | rfl
    · show ∃ (v : Int32) (h' : HH), scA h h' ∧ g_X10_tried 0 0 (nI n) h = some (v, h') ∧ ∀ h, RM1 h P S nf np nl ng → ∃ h', scB h h' ∧ g_X11_tried 0 0 (nI n) h = some (v, h')
      obtain ⟨p, h1, T, e1, q1, k1, k7, k8, p0, sp, s1, c1⟩ := x_trial c w (md := 2) (by decide)
      have e1' : g_X10_startTrial 2 h = _ := e1
      have tX := q1.sX s.X hnp
      have tu := q1.2.2.1.trans u2
      have p1 := p0
      have sA := s1
      obtain ⟨h3, s3, e3, k3⟩ := x_try k1 w.1 tX tu u1 n200 (-1) false (Or.inl rfl) (k1.2.2.2.2.2.1)
      rw [show h1.1 (p + 3) = P 3 from k1.2.2.2.2.2.2.2.2.1] at k3
      simp only [Bool.false_eq_true, if_false] at e3
      have gX := tX.it (P := P) (fo := (P 3)) (md := 2) w.1 (bare := false) (idle := (-1)) n
      refine ⟨smI (itA (hrA P (P 3) np 2 ng false (-1)) n T 1) np, h3, sA.tr s3, ?_, fun h m => ?_⟩
      · unfold g_X10_tried
        simp only [jn, (by decide : ¬ (0 : Int32) < 0), (by decide : ¬ (4 : Int32) < 0), (by decide : ¬ (0 : Int32) = 1), (by decide : ¬ (0 : Int32) = 2), (by decide : ¬ (0 : Int32) = 3), (by decide : ¬ (0 : Int32) = 4), n1, n2, if_true, if_false]
        rw [e1', bnd_some, ckH_of sh_196]
        simp only [pfI, pfR, gfR, ckZ0, ckZ1, wrI_r, p1]
        rw [ckH_of sp, ckH_of (k1.2.2.2.2.2.1), e3, bnd_some, show g_X7_sumOf (196 + 1) h3 = _ from x_sum sh_197 h3, bnd_some, smI_h hnp k3 gX, if_neg d10]
      · have mB := m.B hnp (scB_0 h)
        obtain ⟨h4, e4, k4, s4, m4, n48, n49⟩ := r_trial mB w q1
        obtain ⟨h6, s6, e6⟩ := r_try m4 w k4 tX n200 5 0 (-1) (bare := false) (fo := (P 3)) (md := 2) (fun a ha => by rw [if_neg (by decide)]) (Or.inl ⟨rfl, rfl⟩) (by decide) (Or.inr ⟨by decide, rfl⟩)
        refine ⟨h6, ((scB_0 h).tr (scG1B s4)).tr s6, ?_⟩
        unfold g_X11_tried
        simp only [jn, pfI, (by decide : ¬ (0 : Int32) < 0), (by decide : ¬ (4 : Int32) < 0), (by decide : ¬ (0 : Int32) = 1), (by decide : ¬ (0 : Int32) = 2), (by decide : ¬ (0 : Int32) = 3), (by decide : ¬ (0 : Int32) = 4), n1, n2, if_true, if_false]
        rw [e4, bnd_some, r_try0 _ _ _ _ (by decide)]
        exact e6
    · show ∃ (v : Int32) (h' : HH), scA h h' ∧ g_X10_tried 1 0 (nI n) h = some (v, h') ∧ ∀ h, RM1 h P S nf np nl ng → ∃ h', scB h h' ∧ g_X11_tried 1 0 (nI n) h = some (v, h')
      obtain ⟨p, h1, T, e1, q1, k1, k7, k8, p0, sp, s1, c1⟩ := x_trial c w (md := 1) (by decide)
      have e1' : g_X10_startTrial 1 h = _ := e1
      have tX := q1.sX s.X hnp
      have tu := q1.2.2.1.trans u2
      obtain ⟨h2, f2, s2, k2', r2⟩ := x_zero k1
      have p1 := r2.trans p0
      have sA := s1.tr s2
      obtain ⟨h3, s3, e3, k3⟩ := x_try k2' w.1 (zT_X tX) ((zT_o (by decide)).trans tu) u1 n200 (-1) false (Or.inl rfl) (k1.2.2.2.2.2.1)
      rw [show h2.1 (p + 3) = P 3 from k2'.2.2.2.2.2.2.2.2.1] at k3
      simp only [Bool.false_eq_true, if_false] at e3
      have gX := (zT_X tX).it (P := P) (fo := (P 3)) (md := 1) w.1 (bare := false) (idle := (-1)) n
      refine ⟨smI (itA (hrA P (P 3) np 1 ng false (-1)) n (zT T) 1) np, h3, sA.tr s3, ?_, fun h m => ?_⟩
      · unfold g_X10_tried
        simp only [jn, (by decide : ¬ (1 : Int32) < 0), (by decide : ¬ (4 : Int32) < 1), (by decide : ¬ (1 : Int32) = 0), (by decide : ¬ (1 : Int32) = 2), (by decide : ¬ (1 : Int32) = 3), (by decide : ¬ (1 : Int32) = 4), n1, n2, if_true, if_false]
        rw [e1', bnd_some, ckH_of sh_196]
        rw [show g_J7_fill_53178 (196 + 5) 0 h1 = _ from f2, bnd_some]
        simp only [pfI, pfR, gfR, ckZ0, ckZ1, wrI_r, p1]
        rw [ckH_of sp, ckH_of (k1.2.2.2.2.2.1), e3, bnd_some, show g_X7_sumOf (196 + 1) h3 = _ from x_sum sh_197 h3, bnd_some, smI_h hnp k3 gX]
      · have mB := m.B hnp (scB_0 h)
        obtain ⟨h4, e4, k4, s4, m4, n48, n49⟩ := r_trial mB w q1
        obtain ⟨h5, e5, s5, m5, k5⟩ := r_try1 (fun (h10 : HH) => bnd (g_X11_goesOn (nI n) (wrI (wrI h10 255 48 1) 255 49 0)) fun _ h17 => bnd (g_X11_sumOf 278 (1 : Int32) (wrI (wrI h17 255 48 0) 255 49 (-1))) fun r22 h21 => some (r22, h21)) 0 (nI n) hnp m4 k4
        obtain ⟨h6, s6, e6⟩ := r_try m5 w k5 (zT_X tX) n200 1 0 (-1) (bare := false) (fo := (P 3)) (md := 1) (fun a ha => by rw [if_neg (by decide)]) (Or.inr ⟨by decide, rfl⟩) (by decide) (Or.inr ⟨by decide, rfl⟩)
        refine ⟨h6, (((scB_0 h).tr (scG1B s4)).tr s5).tr s6, ?_⟩
        unfold g_X11_tried
        simp only [jn, pfI, (by decide : ¬ (1 : Int32) < 0), (by decide : ¬ (4 : Int32) < 1), (by decide : ¬ (1 : Int32) = 0), (by decide : ¬ (1 : Int32) = 2), (by decide : ¬ (1 : Int32) = 3), (by decide : ¬ (1 : Int32) = 4), n1, n2, if_true, if_false]
        rw [e4, bnd_some]
        exact e5.trans e6
    · show ∃ (v : Int32) (h' : HH), scA h h' ∧ g_X10_tried 3 0 (nI n) h = some (v, h') ∧ ∀ h, RM1 h P S nf np nl ng → ∃ h', scB h h' ∧ g_X11_tried 3 0 (nI n) h = some (v, h')
      obtain ⟨p, h1, T, e1, q1, k1, k7, k8, p0, sp, s1, c1⟩ := x_trial c w (md := 1) (by decide)
      have e1' : g_X10_startTrial 1 h = _ := e1
      have tX := q1.sX s.X hnp
      have tu := q1.2.2.1.trans u2
      have p1 := p0
      have sA := s1
      obtain ⟨h3, s3, e3, k3⟩ := x_try k1 w.1 tX tu u1 n200 (-1) true (Or.inl rfl) (k1.2.2.2.2.2.1)
      rw [show h1.1 (p + 3) = P 3 from k1.2.2.2.2.2.2.2.2.1] at k3
      simp only [if_true] at e3
      have gX := tX.it (P := P) (fo := (P 3)) (md := 1) w.1 (bare := true) (idle := (-1)) n
      refine ⟨smI (itA (hrA P (P 3) np 1 ng true (-1)) n T 1) np, h3, sA.tr s3, ?_, fun h m => ?_⟩
      · unfold g_X10_tried
        simp only [jn, (by decide : ¬ (3 : Int32) < 0), (by decide : ¬ (4 : Int32) < 3), (by decide : ¬ (3 : Int32) = 0), (by decide : ¬ (3 : Int32) = 1), (by decide : ¬ (3 : Int32) = 2), (by decide : ¬ (3 : Int32) = 4), n1, n2, if_true, if_false]
        rw [e1', bnd_some, ckH_of sh_196]
        simp only [pfI, pfR, gfR, ckZ0, ckZ1, wrI_r, p1]
        rw [ckH_of sp, ckH_of (k1.2.2.2.2.2.1), e3, bnd_some, show g_X7_sumOf (196 + 1) h3 = _ from x_sum sh_197 h3, bnd_some, smI_h hnp k3 gX, if_neg d10]
      · have mB := m.B hnp (scB_0 h)
        obtain ⟨h4, e4, k4, s4, m4, n48, n49⟩ := r_trial mB w q1
        obtain ⟨h6, s6, e6⟩ := r_try m4 w k4 tX n200 3 0 (-1) (bare := true) (fo := (P 3)) (md := 1) (fun a ha => by rw [if_neg (by decide)]) (Or.inr ⟨by decide, rfl⟩) (by decide) (Or.inr ⟨by decide, rfl⟩)
        refine ⟨h6, ((scB_0 h).tr (scG1B s4)).tr s6, ?_⟩
        unfold g_X11_tried
        simp only [jn, pfI, (by decide : ¬ (3 : Int32) < 0), (by decide : ¬ (4 : Int32) < 3), (by decide : ¬ (3 : Int32) = 0), (by decide : ¬ (3 : Int32) = 1), (by decide : ¬ (3 : Int32) = 2), (by decide : ¬ (3 : Int32) = 4), n1, n2, if_true, if_false]
        rw [e4, bnd_some, r_try0 _ _ _ _ (by decide)]
        exact e6
    · show ∃ (v : Int32) (h' : HH), scA h h' ∧ g_X10_tried 4 0 (nI n) h = some (v, h') ∧ ∀ h, RM1 h P S nf np nl ng → ∃ h', scB h h' ∧ g_X11_tried 4 0 (nI n) h = some (v, h')
      obtain ⟨p, h1, T, e1, q1, k1, k7, k8, p0, sp, s1, c1⟩ := x_trial c w (md := 1) (by decide)
      have e1' : g_X10_startTrial 1 h = _ := e1
      have tX := q1.sX s.X hnp
      have tu := q1.2.2.1.trans u2
      have p1 := p0
      have sA := s1
      have FO : ∀ a, a < np → h1.1 224 a = 99 := fun a ha => by
        obtain ⟨_, _, _, _, _, _, c5⟩ := c1
        exact c5 a (by omega)
      obtain ⟨h3, s3, e3, k3⟩ := x_try k1 w.1 tX tu u1 n200 (-1) false (Or.inr rfl) sh_224
      simp only [Bool.false_eq_true, if_false] at e3
      have gX := tX.it (P := P) (fo := (h1.1 224)) (md := 1) w.1 (bare := false) (idle := (-1)) n
      refine ⟨smI (itA (hrA P (h1.1 224) np 1 ng false (-1)) n T 1) np, h3, sA.tr s3, ?_, fun h m => ?_⟩
      · unfold g_X10_tried
        simp only [jn, (by decide : ¬ (4 : Int32) < 0), (by decide : ¬ (4 : Int32) < 4), (by decide : ¬ (4 : Int32) = 0), (by decide : ¬ (4 : Int32) = 1), (by decide : ¬ (4 : Int32) = 2), (by decide : ¬ (4 : Int32) = 3), n1, n2, if_true, if_false]
        rw [e1', bnd_some, ckH_of sh_196]
        simp only [pfI, pfR, gfR, ckZ0, ckZ1, wrI_r, p1]
        rw [ckH_of sh_224, e3, bnd_some, show g_X7_sumOf (196 + 1) h3 = _ from x_sum sh_197 h3, bnd_some, smI_h hnp k3 gX, if_neg d10]
      · have mB := m.B hnp (scB_0 h)
        obtain ⟨h4, e4, k4, s4, m4, n48, n49⟩ := r_trial mB w q1
        obtain ⟨h6, s6, e6⟩ := r_try m4 w k4 tX n200 4 0 (-1) (bare := false) (fo := (h1.1 224)) (md := 1) (fun a ha => by rw [if_pos rfl]; exact (FO a ha).symm) (Or.inr ⟨by decide, rfl⟩) (by decide) (Or.inr ⟨by decide, rfl⟩)
        refine ⟨h6, ((scB_0 h).tr (scG1B s4)).tr s6, ?_⟩
        unfold g_X11_tried
        simp only [jn, pfI, (by decide : ¬ (4 : Int32) < 0), (by decide : ¬ (4 : Int32) < 4), (by decide : ¬ (4 : Int32) = 0), (by decide : ¬ (4 : Int32) = 1), (by decide : ¬ (4 : Int32) = 2), (by decide : ¬ (4 : Int32) = 3), n1, n2, if_true, if_false]
        rw [e4, bnd_some, r_try0 _ _ _ _ (by decide)]
        exact e6
  · exact no q1 q2
