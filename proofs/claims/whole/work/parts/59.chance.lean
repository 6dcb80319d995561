/-! chance -/
theorem r_by_L {P : TB} {nf np nl ng : Nat} (w : PW P nf np nl ng) (K : HH → Option (Int32 × HH)) (c3 c4 c6 c7 : Int32) {e : Nat} (he : e < 2 ^ 31) : ∀ (m i n : Nat) (S : TB) (h : HH), i + m = e → m < n → sX S nf np → mAt h 1 P S (P 3) nf np nl ng → h.1 255 48 = 0 →
    ∃ h', scG 1 h h' ∧ mAt h' 1 P (itA (hrA P (P 3) np 0 ng false (-1)) m S) (P 3) nf np nl ng ∧ g_X11_chance_L72 K (nI e) c3 c4 c6 c7 n (nI i) h = K h' := by
  intro m
  induction m with
  | zero =>
    intro i n S h hi hn s c h48
    obtain ⟨n, rfl⟩ : ∃ n', n = n' + 1 := ⟨n - 1, by omega⟩
    exact ⟨h, scG_rf 1 h, c, by rw [g_X11_chance_L72, if_neg (nI_nlt (by omega) (by omega))]⟩
  | succ m ih =>
    intro i n S h hi hn s c h48
    obtain ⟨n, rfl⟩ : ∃ n', n = n' + 1 := ⟨n - 1, by omega⟩
    obtain ⟨-, z2, z3⟩ := m48_0 (h := h) w.1 h48
    obtain ⟨h1, s1, c1, e1⟩ := r_passes c w.1 (b := 1) (md := 0) (Or.inr ⟨by rw [h48]; decide, Or.inl ⟨rfl, rfl⟩⟩) s.2.1 s.1 z2 z3
    obtain ⟨h2, s2, c2, e2⟩ := ih (i + 1) n _ h1 (by omega) (by omega) (s.hr w.1) c1 ((s1.t (by unfold inH; omega) (by omega) (by omega) (by omega)).trans h48)
    refine ⟨h2, s1.tr s2, c2, ?_⟩
    have e1' : g_X11_passes 1 1 h = _ := e1
    rw [← e2, g_X11_chance_L72, if_pos (nI_lt (by omega) (by omega)), e1', bnd_some]
    simp only [vl, nI_1]
theorem up06_X {T : TB} {nf np : Nat} (s : sX T nf np) (v : Int32) : sX (up T 0 6 v) nf np := by
  obtain ⟨s1, s2, s3⟩ := s
  refine ⟨fun a ha => ?_, tOk_o s2 _ _ (by decide), zG_up s3 _ (Or.inr (Or.inl rfl))⟩
  obtain ⟨fl, q1, q2⟩ := s1 a ha
  exact ⟨fl, q1, by rw [up_ne _ _ _ _ _ _ (by omega)]; exact q2⟩
theorem ch_L {P S : TB} {nf np nl ng : Nat} (w : PW P nf np nl ng) (s : sG S nf np) {n a t : Nat} (hn : n ≤ 99) (ha : a < np) : ∀ (m i n1 n2 : Nat) (x acc : Int32) (h : HH), i + m = 10 → m < n1 → m < n2 → RC1 h P S → ∃ (v : Int32) (h' : HH), scA h h' ∧ g_X10_chance_L43 (nI n) (nI a) (nI t) n1 x acc (nI i) h = some (v, h') ∧
    ∀ h, RM1 h P S nf np nl ng → ∃ h', scB h h' ∧ g_X11_chance_L48 (nI n) (nI a) (nI t) n2 x acc (nI i) h = some (v, h') := by
  have hnp : np ≤ 6 := w.1.2.1
  obtain ⟨u, u1, u2⟩ := s.2.2.2
  intro m
  induction m with
  | zero =>
    intro i n1 n2 x acc h hi h1 h2 c
    obtain ⟨n1, rfl⟩ : ∃ n', n1 = n' + 1 := ⟨n1 - 1, by omega⟩
    obtain ⟨n2, rfl⟩ : ∃ n', n2 = n' + 1 := ⟨n2 - 1, by omega⟩
    obtain rfl : i = 10 := by omega
    exact ⟨acc, h, scA_rf h, by rw [g_X10_chance_L43, if_neg (show ¬ nI 10 < 10 by decide)], fun h m => ⟨h, scB_rf h, by rw [g_X11_chance_L48, if_neg (show ¬ nI 10 < 10 by decide)]⟩⟩
  | succ m ih =>
    intro i n1 n2 x acc h hi h1 h2 c
    obtain ⟨n1, rfl⟩ : ∃ n', n1 = n' + 1 := ⟨n1 - 1, by omega⟩
    obtain ⟨n2, rfl⟩ : ∃ n', n2 = n' + 1 := ⟨n2 - 1, by omega⟩
    have i1 : nI i < 10 := nI_lt (b := 10) (by omega) (by decide)
    obtain ⟨p, hA, T, eA, qA, kA, k7, k8, p0, sp, sA, cA⟩ := x_trial c w (md := 0) (by decide)
    have eA' : g_X10_startTrial 0 h = _ := eA
    obtain ⟨w1, w2⟩ := kA.wr (o := 0) 6 x (by decide)
    have tX := up06_X (qA.sX s.X hnp) x
    obtain ⟨hB, sB, kB, eB⟩ := x_pass w.1 (bare := false) (idle := -1) (k := n) (u := u) (by omega) (by omega) ((up_ne _ _ _ _ _ _ (by omega)).trans (qA.2.2.1.trans u2)) tX.1 w2 (by rw [wrI_1, if_neg (by omega), k8]; rfl) (by rw [wrI_1, if_neg (by omega), k7])
    obtain ⟨U, hU⟩ : ∃ U, U = itA (hrA P (P 3) np 0 ng false (-1)) n (up T 0 6 x) := ⟨_, rfl⟩
    rw [← hU] at kB
    have kU := kB.2.2.2.2.2.2.2.1
    have cB := (cA.X (h' := hB) (fun a k u => (sB.A.1 a k (by omega)).trans (w1.F.A.1 a k (by omega))) (fun j hj => (sB.A.2 j hj).trans (w1.F.A.2 j hj)))
    obtain ⟨v, hC, sC, eC, H2⟩ := ih (i + 1) n1 n2 (U 0 6) (if U 1 a = nI t then acc + 1 else acc) hB (by omega) (by omega) (by omega) cB
    refine ⟨v, hC, ((sA.tr w1.F.A).tr sB.A).tr sC, ?_, fun h m => ?_⟩
    · rw [← eC, g_X10_chance_L43, if_pos i1, eA', bnd_some, ckH_of sh_196]
      simp only [pfI, gfI, jn, vl, nI_1]
      rw [show g_X0_pass (nI n) (wrI hA 196 6 x) = _ from eB, bnd_some, ldI_of (by omega) (by decide), kU 1 a (by decide), show hB.1 196 6 = U 0 6 from kU 0 6 (by decide)]
      by_cases q : U 1 a = nI t
      · rw [if_pos q, if_pos q]
      · rw [if_neg q, if_neg q]
    · obtain ⟨h3, e3, k3, s3, m3, n48, n49⟩ := r_trial m w qA
      obtain ⟨v1, v2⟩ := k3.wn x
      obtain ⟨N, hN⟩ : ∃ N : Nat, N = 1024 := ⟨_, rfl⟩
      obtain ⟨h4, s4, k4, e4⟩ := r_by_L w (fun (h12 : HH) => ldI h12 277 23 (1 : Int32) fun v13 => ldI h12 278 138 ((6 : Int32) + nI a) fun v14 => if v14 = nI t then g_X11_chance_L48 (nI n) (nI a) (nI t) n2 v13 (acc + 1) (nI (i + 1)) h12 else g_X11_chance_L48 (nI n) (nI a) (nI t) n2 v13 (acc + 0) (nI (i + 1)) h12) (nI a) (nI t) acc (nI i) (e := n) (by omega) n 0 N _ _ (by omega) (by omega) tX v2 (by rw [wrI_1, if_neg (by decide)]; exact n48)
      rw [← hU] at k4
      have sD := ((scG1B s3).tr (scG1B v1.G)).tr (scG1B s4)
      obtain ⟨h5, s5, e5⟩ := H2 h4 (m.B hnp sD)
      refine ⟨h5, sD.tr s5, ?_⟩
      rw [← e5, g_X11_chance_L48, ← hN, if_pos i1, show g_X11_copies 1 0 h = _ from e3, bnd_some, show (stI h3 277 23 (1 : Int32) x) = (fun K => K (wrI h3 277 1 x)) from funext fun K => stI_of (k := 1) (by decide) (by decide) K]
      simp only [jn, vl, nI_1]
      refine e4.trans ?_
      rw [ldI_1 (by decide) (by decide), ix6_1, ldI_of (by omega) (by decide), (k4.2.1.1 a ha).1, k4.2.1.2.2.2]
      by_cases q : U 1 a = nI t
      · rw [if_pos q, if_pos q]
      · rw [if_neg q, if_neg q, Int32.add_zero]
theorem c_chance (a0 a1 a2 a3 : Int32) : Eqv (g_X10_chance a0 a1 a2 a3) (g_X11_chance a0 a1 a2 a3) := by
  refine Eqv_qs fun P S nf np nl ng w s h c => ?_
  have hnf : nf ≤ 6 := w.1.1
  have hnp : np ≤ 6 := w.1.2.1
  have no : (∀ h, RC1 h P S → g_X10_chance a0 a1 a2 a3 h = some (-1, h)) → (∀ h, RM1 h P S nf np nl ng → g_X11_chance a0 a1 a2 a3 h = some (-1, wrI h 255 0 0)) → ∃ (v : Int32) (h' : HH), scA h h' ∧ g_X10_chance a0 a1 a2 a3 h = some (v, h') ∧ ∀ h, RM1 h P S nf np nl ng → ∃ h', scB h h' ∧ g_X11_chance a0 a1 a2 a3 h = some (v, h') := fun q1 q2 => ⟨-1, h, scA_rf h, q1 h c, fun h m => ⟨_, scB_0 h, q2 h m⟩⟩
  by_cases z0 : a0 < 0
  · exact no (fun h c => by unfold g_X10_chance; rw [if_pos z0]) (fun h m => by unfold g_X11_chance; simp only [pfI]; rw [if_pos z0])
  by_cases z1 : a1 < 1
  · exact no (fun h c => by unfold g_X10_chance; rw [if_neg z0, if_pos z1]) (fun h m => by unfold g_X11_chance; simp only [pfI]; rw [if_neg z0, if_pos z1])
  by_cases z2 : 99 < a1
  · exact no (fun h c => by unfold g_X10_chance; rw [if_neg z0, if_neg z1, if_pos z2]) (fun h m => by unfold g_X11_chance; simp only [pfI]; rw [if_neg z0, if_neg z1, if_pos z2])
  by_cases pa : prs a2 np
  rotate_left
  · exact no (fun h c => by unfold g_X10_chance; rw [if_neg z0, if_neg z1, if_neg z2, xg_P0 c w pa]) (fun h m => by unfold g_X11_chance; simp only [pfI]; rw [if_neg z0, if_neg z1, if_neg z2, rg_P0 (m.B hnp (scB_0 h)).1 pa])
  obtain ⟨a, ha, rfl⟩ := pa
  by_cases pf : prs a3 (nf + 1)
  rotate_left
  · exact no (fun h c => by unfold g_X10_chance; rw [if_neg z0, if_neg z1, if_neg z2, xg_P1 c w ha, xg_L0 c w pf]) (fun h m => by unfold g_X11_chance; simp only [pfI]; rw [if_neg z0, if_neg z1, if_neg z2, rg_P1 (m.B hnp (scB_0 h)).1 hnp ha, rg_L0 (m.B hnp (scB_0 h)).1 hnf pf])
  obtain ⟨t, ht, rfl⟩ := pf
  have n0 : ¬ a1 < 0 := fun q => z1 (by
    rw [Int32.lt_iff_toInt_lt] at q ⊢
    have e0 : (0 : Int32).toInt = 0 := by decide
    rw [e0] at q
    rw [i1]; omega)
  obtain ⟨n, hn, rfl⟩ := nI_of n0
  have n99 : n ≤ 99 := Nat.not_lt.mp fun q => z2 (nI_lt (a := 99) q hn)
  obtain ⟨N, hN⟩ : ∃ N : Nat, N = 1024 := ⟨_, rfl⟩
  obtain ⟨v, h', s', e', H2⟩ := ch_L w s (n := n) (t := t) n99 ha 10 0 N N a0 0 h (by omega) (by omega) (by omega) c
  refine ⟨v, h', s', ?_, fun h m => ?_⟩
  · unfold g_X10_chance
    rw [if_neg z0, if_neg z1, if_neg z2, xg_P1 c w ha, xg_L1 c w ht, ← hN]
    exact e'
  · have mB := m.B hnp (scB_0 h)
    obtain ⟨h4, s4, e4⟩ := H2 _ mB
    refine ⟨h4, (scB_0 h).tr s4, ?_⟩
    unfold g_X11_chance
    simp only [pfI]
    rw [if_neg z0, if_neg z1, if_neg z2, rg_P1 mB.1 hnp ha, rg_L1 mB.1 hnf ht, ← hN]
    exact e4
/-! ease -/
theorem ea_L {P S : TB} {nf np nl ng : Nat} (w : PW P nf np nl ng) {a f : Nat} (ha : a < np) (hf : f < nf) : ∀ (m i n1 n2 : Nat), i + m = 201 → m < n1 → m < n2 → ∃ v : Int32,
    (∀ h p, cAt h p 52 (p + 3) P S (P 3) np 2 → h.2.2 0 = p → ∃ h', scA h h' ∧ g_X10_ease_L24 (nI a) (nI f) n1 (nI i) h = some (v, h')) ∧
    ∀ h, RM1 h P S nf np nl ng → ∃ h', scB h h' ∧ g_X11_ease_L18 (nI a) (nI f) n2 (nI i) h = some (v, h') := by
  have hnf : nf ≤ 6 := w.1.1
  have hnp : np ≤ 6 := w.1.2.1
  intro m
  induction m with
  | zero =>
    intro i n1 n2 hi h1 h2
    obtain ⟨n1, rfl⟩ : ∃ n', n1 = n' + 1 := ⟨n1 - 1, by omega⟩
    obtain ⟨n2, rfl⟩ : ∃ n', n2 = n' + 1 := ⟨n2 - 1, by omega⟩
    obtain rfl : i = 201 := by omega
    exact ⟨-2, fun h p c p0 => ⟨h, scA_rf h, by rw [g_X10_ease_L24, if_pos (show 200 < nI 201 by decide)]⟩, fun h m => ⟨h, scB_rf h, by rw [g_X11_ease_L18, if_pos (show 200 < nI 201 by decide)]⟩⟩
  | succ m ih =>
    intro i n1 n2 hi h1 h2
    obtain ⟨n1, rfl⟩ : ∃ n', n1 = n' + 1 := ⟨n1 - 1, by omega⟩
    obtain ⟨n2, rfl⟩ : ∃ n', n2 = n' + 1 := ⟨n2 - 1, by omega⟩
    have i1 : ¬ 200 < nI i := nI_nlt (a := 200) (by omega) (by decide)
    obtain ⟨v, v1, v2⟩ := ih (i + 1) n1 n2 (by omega) (by omega) (by omega)
    refine ⟨if P 3 a < stA P S (P 3) np a f (nI i) then v else nI i, fun h p c p0 => ?_, fun h m => ?_⟩
    · obtain ⟨hA, sA, kA, eA⟩ := c.st (a := a) (f := f) (by omega) (by omega) (nI i)
      have a1 := scA_all (c.A sA kA) sA.2.2
      have p1 : hA.2.2 0 = p := by rw [sA.2.2]; exact p0
      obtain ⟨hB, sB, eB⟩ := v1 hA p kA p1
      by_cases q : P 3 a < stA P S (P 3) np a f (nI i)
      · refine ⟨hB, a1.tr sB, ?_⟩
        rw [g_X10_ease_L24, if_neg i1, eA, bnd_some]
        simp only [gfR, vl, nI_1]
        rw [p1, ckH_of kA.2.2.2.1, ldI_of (by omega) (by decide), kA.2.2.2.2.2.2.1 3 a (by decide), if_pos q, if_pos q]
        exact eB
      · refine ⟨hA, a1, ?_⟩
        rw [g_X10_ease_L24, if_neg i1, eA, bnd_some]
        simp only [gfR, vl, nI_1]
        rw [p1, ckH_of kA.2.2.2.1, ldI_of (by omega) (by decide), kA.2.2.2.2.2.2.1 3 a (by decide), if_neg q, if_neg q]
    · obtain ⟨hA, sA, kA, eA⟩ := r_steepWith (m.at w) ha hf (nI i)
      have eA' : g_X11_steepWith 0 (nI a) (nI f) (S 5 (6 * a + f) - nI i) h = _ := eA
      have mA := m.B hnp sA.B
      have ty : g_X11_tallyAt 0 (nI a) (nI f) h = _ := r_tally (s := 0) m.2.1 (by decide) (a := a) (f := f) (by omega) (by omega)
      obtain ⟨hB, sB, eB⟩ := v2 hA mA
      by_cases q : P 3 a < stA P S (P 3) np a f (nI i)
      · refine ⟨hB, sA.B.tr sB, ?_⟩
        rw [g_X11_ease_L18, if_neg i1, ty, bnd_some, eA', bnd_some, ldI_of (by omega) (by decide), mA.1.2.2.2.2.2.2.1 a ha, if_pos q, if_pos q]
        simp only [vl, nI_1]
        exact eB
      · refine ⟨hA, sA.B, ?_⟩
        rw [g_X11_ease_L18, if_neg i1, ty, bnd_some, eA', bnd_some, ldI_of (by omega) (by decide), mA.1.2.2.2.2.2.2.1 a ha, if_neg q, if_neg q]
theorem c_ease (a0 a1 : Int32) : Eqv (g_X10_ease a0 a1) (g_X11_ease a0 a1) := by
  obtain ⟨N, hN⟩ : ∃ N : Nat, N = 1024 := ⟨_, rfl⟩
  refine Eqv_PF a0 a1 (-1) (fun a0 a1 h3 => bnd (g_X10_lookAtNow h3) fun _ h5 => g_X10_ease_L24 a0 a1 N (0 : Int32) h5) (fun a0 a1 h2 => g_X11_ease_L18 a0 a1 N (0 : Int32) h2) (fun _ => by rw [hN]; rfl) (fun _ => by rw [hN]; rfl) fun P S nf np nl ng a f w s ha hf => ?_
  obtain ⟨v, v1, v2⟩ := ea_L (S := S) w ha hf 201 0 N N (by omega) (by omega) (by omega)
  refine ⟨v, fun h c => ?_, fun h m => v2 h m⟩
  obtain ⟨p, h1, s1, c1, k1, -, -, p0, e1⟩ := x_look c w
  obtain ⟨h2, s2, e2⟩ := v1 h1 p k1 p0
  exact ⟨h2, s1.tr s2, by rw [e1, bnd_some]; exact e2⟩
/-! steepest -/
theorem sp_L {P S : TB} {nf np nl ng : Nat} (w : PW P nf np nl ng) {a : Nat} (ha : a < np) : ∀ (m i n1 n2 : Nat) (b y : Int32), i + m = nf → m < n1 → m < n2 → ((b = -2 ∧ y = 0) ∨ ∃ j, j < i ∧ b = nI j ∧ y = stA P S (P 3) np a j 0) → ∃ v : Int32,
    (∀ h p, cAt h p 52 (p + 3) P S (P 3) np 2 → h.2.2 0 = p → ∃ h', scA h h' ∧ g_X10_steepest_L22 (nI a) n1 b y (nI i) h = some (v, h')) ∧
    ∀ h, RM1 h P S nf np nl ng → ∃ h', scB h h' ∧ g_X11_steepest_L20 (nI a) n2 b (nI i) h = some (v, h') := by
  have hnf : nf ≤ 6 := w.1.1
  have hnp : np ≤ 6 := w.1.2.1
  intro m
  induction m with
  | zero =>
    intro i n1 n2 b y hi h1 h2 hb
    obtain ⟨n1, rfl⟩ : ∃ n', n1 = n' + 1 := ⟨n1 - 1, by omega⟩
    obtain ⟨n2, rfl⟩ : ∃ n', n2 = n' + 1 := ⟨n2 - 1, by omega⟩
    refine ⟨b, fun h p c p0 => ⟨h, scA_rf h, ?_⟩, fun h m => ⟨h, scB_rf h, ?_⟩⟩
    · rw [g_X10_steepest_L22]
      simp only [gfR, gfI]
      rw [p0, ckH_of c.2.2.2.1, show h.1 p 0 = nI nf from (c.2.2.2.2.2.2.1 0 0 (by decide)).trans w.1.2.2.2.2.2.1, if_neg (nI_nlt (by omega) (by omega))]
    · rw [g_X11_steepest_L20, ldI_0 (by decide) (by decide), m.1.1, if_neg (nI_nlt (by omega) (by omega))]
  | succ m ih =>
    intro i n1 n2 b y hi h1 h2 hb
    obtain ⟨n1, rfl⟩ : ∃ n', n1 = n' + 1 := ⟨n1 - 1, by omega⟩
    obtain ⟨n2, rfl⟩ : ∃ n', n2 = n' + 1 := ⟨n2 - 1, by omega⟩
    have hif : i < nf := by omega
    have cl : ∀ h p, cAt h p 52 (p + 3) P S (P 3) np 2 → h.2.2 0 = p → ∃ h', scA h h' ∧ cAt h' p 52 (p + 3) P S (P 3) np 2 ∧ h'.2.2 0 = p ∧ g_X10_steepest_L22 (nI a) (n1 + 1) b y (nI i) h = if b = -2 then g_X10_steepest_L22 (nI a) n1 (nI i) (stA P S (P 3) np a i 0) (nI (i + 1)) h' else if y < stA P S (P 3) np a i 0 then g_X10_steepest_L22 (nI a) n1 (nI i) (stA P S (P 3) np a i 0) (nI (i + 1)) h' else g_X10_steepest_L22 (nI a) n1 b y (nI (i + 1)) h' := by
      intro h p c p0
      obtain ⟨hA, sA, kA, eA⟩ := c.st (a := a) (f := i) (by omega) (by omega) 0
      refine ⟨hA, scA_all (c.A sA kA) sA.2.2, kA, by rw [sA.2.2]; exact p0, ?_⟩
      rw [g_X10_steepest_L22]
      simp only [gfR, gfI, jn, vl, nI_1]
      rw [p0, ckH_of c.2.2.2.1, show h.1 p 0 = nI nf from (c.2.2.2.2.2.2.1 0 0 (by decide)).trans w.1.2.2.2.2.2.1, if_pos (nI_lt hif (by omega)), show g_X0_steepOf (nI a) (nI i) 0 h = _ from eA, bnd_some]
    rcases hb with ⟨rfl, rfl⟩ | ⟨j, hj, rfl, rfl⟩
    · obtain ⟨v, v1, v2⟩ := ih (i + 1) n1 n2 (nI i) (stA P S (P 3) np a i 0) (by omega) (by omega) (by omega) (Or.inr ⟨i, by omega, rfl, rfl⟩)
      refine ⟨v, fun h p c p0 => ?_, fun h m => ?_⟩
      · obtain ⟨hA, sA, kA, p1, eA⟩ := cl h p c p0
        obtain ⟨hB, sB, eB⟩ := v1 hA p kA p1
        exact ⟨hB, sA.tr sB, by rw [eA, if_pos rfl]; exact eB⟩
      · obtain ⟨hB, sB, eB⟩ := v2 h m
        refine ⟨hB, sB, ?_⟩
        rw [g_X11_steepest_L20, ldI_0 (by decide) (by decide), m.1.1, if_pos (nI_lt hif (by omega))]
        simp only [jn, vl, nI_1]
        rw [if_pos (by decide)]
        exact eB
    · have jn2 : ¬ nI j = -2 := fun e => nI_pos (n := j) (by omega) (by rw [e]; decide)
      have j0 : ¬ nI j < 0 := nI_pos (by omega)
      have rf : ∀ h, RM1 h P S nf np nl ng → ∃ h', scB h h' ∧ RM1 h' P S nf np nl ng ∧ g_X11_steepest_L20 (nI a) (n2 + 1) (nI j) (nI i) h = if stA P S (P 3) np a j 0 < stA P S (P 3) np a i 0 then g_X11_steepest_L20 (nI a) n2 (nI i) (nI (i + 1)) h' else g_X11_steepest_L20 (nI a) n2 (nI j) (nI (i + 1)) h' := by
        intro h m
        obtain ⟨hA, sA, kA, eA⟩ := r_steepOf (m.at w) ha hif
        have mA := m.B hnp sA.B
        obtain ⟨hB, sB, kB, eB⟩ := r_steepOf (f := j) (mA.at w) ha (by omega)
        refine ⟨hB, sA.B.tr sB.B, mA.B hnp sB.B, ?_⟩
        rw [g_X11_steepest_L20, ldI_0 (by decide) (by decide), m.1.1, if_pos (nI_lt hif (by omega))]
        simp only [jn, vl, nI_1]
        rw [if_neg j0, show g_X11_steepOf 0 (nI a) (nI i) h = _ from eA, bnd_some, show g_X11_steepOf 0 (nI a) (nI j) hA = _ from eB, bnd_some]
      by_cases q : stA P S (P 3) np a j 0 < stA P S (P 3) np a i 0
      · obtain ⟨v, v1, v2⟩ := ih (i + 1) n1 n2 (nI i) (stA P S (P 3) np a i 0) (by omega) (by omega) (by omega) (Or.inr ⟨i, by omega, rfl, rfl⟩)
        refine ⟨v, fun h p c p0 => ?_, fun h m => ?_⟩
        · obtain ⟨hA, sA, kA, p1, eA⟩ := cl h p c p0
          obtain ⟨hB, sB, eB⟩ := v1 hA p kA p1
          exact ⟨hB, sA.tr sB, by rw [eA, if_neg jn2, if_pos q]; exact eB⟩
        · obtain ⟨hA, sA, mA, eA⟩ := rf h m
          obtain ⟨hB, sB, eB⟩ := v2 hA mA
          exact ⟨hB, sA.tr sB, by rw [eA, if_pos q]; exact eB⟩
      · obtain ⟨v, v1, v2⟩ := ih (i + 1) n1 n2 (nI j) (stA P S (P 3) np a j 0) (by omega) (by omega) (by omega) (Or.inr ⟨j, by omega, rfl, rfl⟩)
        refine ⟨v, fun h p c p0 => ?_, fun h m => ?_⟩
        · obtain ⟨hA, sA, kA, p1, eA⟩ := cl h p c p0
          obtain ⟨hB, sB, eB⟩ := v1 hA p kA p1
          exact ⟨hB, sA.tr sB, by rw [eA, if_neg jn2, if_neg q]; exact eB⟩
        · obtain ⟨hA, sA, mA, eA⟩ := rf h m
          obtain ⟨hB, sB, eB⟩ := v2 hA mA
          exact ⟨hB, sA.tr sB, by rw [eA, if_neg q]; exact eB⟩
theorem c_steepest (a0 : Int32) : Eqv (g_X10_steepest a0) (g_X11_steepest a0) := by
  obtain ⟨N, hN⟩ : ∃ N : Nat, N = 1024 := ⟨_, rfl⟩
  refine Eqv_P a0 (-1) (fun a0 h1 => bnd (g_X10_lookAtNow h1) fun _ h3 => g_X10_steepest_L22 a0 N (-2) 0 0 h3) (fun a0 h2 => g_X11_steepest_L20 a0 N (-2) 0 h2) (fun _ => by rw [hN]; rfl) (fun _ => by rw [hN]; rfl) fun P S nf np nl ng a w s ha => ?_
  have hnf : nf ≤ 6 := w.1.1
  obtain ⟨v, v1, v2⟩ := sp_L (S := S) w ha nf 0 N N (-2) 0 (by omega) (by omega) (by omega) (Or.inl ⟨rfl, rfl⟩)
  refine ⟨v, fun h c => ?_, fun h m => v2 h m⟩
  obtain ⟨p, h1, s1, c1, k1, -, -, p0, e1⟩ := x_look c w
  obtain ⟨h2, s2, e2⟩ := v1 h1 p k1 p0
  exact ⟨h2, s1.tr s2, by rw [e1, bnd_some]; exact e2⟩
