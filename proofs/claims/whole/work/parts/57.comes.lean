/-! what comes: asked over a trial -/
theorem Eqv_qs {α : Type} {f g : HH → Option (α × HH)} (H : ∀ P S nf np nl ng, PW P nf np nl ng → sG S nf np → ∀ h, RC1 h P S → ∃ (v : α) (h' : HH), scA h h' ∧ f h = some (v, h') ∧ ∀ h, RM1 h P S nf np nl ng → ∃ h', scB h h' ∧ g h = some (v, h')) : Eqv f g := by
  refine Eqv_s fun P S nf np nl ng im pa nN nb nT tl tp fk fp w y h c => ?_
  have hnp : np ≤ 6 := w.1.1.2.1
  obtain ⟨v, h', s1, e1, H2⟩ := H P S nf np nl ng w.1 w.2.1 h c.1
  refine ⟨v, h', P, S, nf, np, nl, ng, im, pa, nN, nb, nT, tl, tp, fk, fp, s1.M, e1, w, RelC.X c (fun a k u => s1.1 a k (by omega)) s1.2, fun h m => ?_⟩
  obtain ⟨h2, s2, e2⟩ := H2 h m.1
  exact ⟨h2, s2.C, e2, RelM.X m hnp y.2.2.1 (fun a k u => s2.1 a k (Or.inr u))⟩
theorem Eqv_PLs {α : Type} {f g : HH → Option (α × HH)} (a0 a1 : Int32) (R : α) (KC KM : Int32 → Int32 → HH → Option (α × HH))
    (hf : ∀ h, f h = bnd (g_X10_isPerson a0 h) fun r2 h1 => if r2 = 0 then some (R, h1) else bnd (g_X10_isFloor a1 h1) fun r4 h3 => if r4 = 0 then some (R, h3) else KC a0 a1 h3)
    (hg : ∀ h, g h = bnd (g_X11_isPerson a0 (wrI h 255 0 0)) fun r2 h1 => if r2 = 0 then some (R, h1) else bnd (g_X11_isFloor a1 h1) fun r4 h3 => if r4 = 0 then some (R, h3) else KM a0 a1 h3)
    (H : ∀ P S nf np nl ng a f, PW P nf np nl ng → sG S nf np → a < np → f ≤ nf → ∀ h, RC1 h P S → ∃ (v : α) (h' : HH), scA h h' ∧ KC (nI a) (nI f) h = some (v, h') ∧ ∀ h, RM1 h P S nf np nl ng → ∃ h', scB h h' ∧ KM (nI a) (nI f) h = some (v, h')) : Eqv f g := by
  refine Eqv_qs fun P S nf np nl ng w s h c => ?_
  have hnf : nf ≤ 6 := w.1.1
  have hnp : np ≤ 6 := w.1.2.1
  by_cases pa : prs a0 np
  · obtain ⟨a, ha, rfl⟩ := pa
    by_cases pf : prs a1 (nf + 1)
    · obtain ⟨k, hk, rfl⟩ := pf
      obtain ⟨v, h', s1, e1, H2⟩ := H P S nf np nl ng a k w s ha (by omega) h c
      refine ⟨v, h', s1, by rw [hf, xg_P1 c w ha, xg_L1 c w hk]; exact e1, fun h m => ?_⟩
      have m1 := m.B hnp (scB_0 h)
      obtain ⟨h', s1, e1⟩ := H2 _ m1
      exact ⟨h', (scB_0 h).tr s1, by rw [hg, rg_P1 m1.1 hnp ha, rg_L1 m1.1 hnf hk]; exact e1⟩
    · refine ⟨R, h, scA_rf h, by rw [hf, xg_P1 c w ha, xg_L0 c w pf], fun h m => ⟨_, scB_0 h, ?_⟩⟩
      have m1 := m.B hnp (scB_0 h)
      rw [hg, rg_P1 m1.1 hnp ha, rg_L0 m1.1 hnf pf]
  · refine ⟨R, h, scA_rf h, by rw [hf, xg_P0 c w pa], fun h m => ⟨_, scB_0 h, ?_⟩⟩
    rw [hg, rg_P0 (m.B hnp (scB_0 h)).1 pa]
/-! ahead -/
theorem m48_0 {h : HH} {P : TB} {nf np nl ng : Nat} (w : gOk P nf np nl ng) (e : h.1 255 48 = 0) : mdR h 0 1 ∧ (h.1 255 48 = 3 ↔ false = true) ∧ idR h P ng (-1) := by
  refine ⟨Or.inr ⟨by rw [e]; decide, Or.inr ⟨rfl, rfl⟩⟩, by rw [e]; decide, Or.inr ⟨by rw [e]; decide, fun g hg q => ?_⟩⟩
  obtain ⟨g1, g2, g3⟩ := pg_ok w hg
  rw [g3] at q
  exact m1_ne _ (by omega) q
theorem ix6_1 (a : Nat) : (6 : Int32) + nI a = nI (6 * 1 + a) := by rw [show (6 : Int32) = nI 6 from rfl, nI_add]
theorem c_ahead (a0 a1 a2 : Int32) : Eqv (g_X10_ahead a0 a1 a2) (g_X11_ahead a0 a1 a2) := by
  refine Eqv_qs fun P S nf np nl ng w s h c => ?_
  have hnf : nf ≤ 6 := w.1.1
  have hnp : np ≤ 6 := w.1.2.1
  by_cases h0 : a0 < 0
  · refine ⟨-1, h, scA_rf h, ?_, fun h m => ⟨_, scB_0 h, ?_⟩⟩
    · unfold g_X10_ahead; simp only [jn, h0, if_true, ite_self]
    · unfold g_X11_ahead; simp only [pfI, h0, if_true]
  by_cases h200 : 200 < a0
  · refine ⟨-1, h, scA_rf h, ?_, fun h m => ⟨_, scB_0 h, ?_⟩⟩
    · unfold g_X10_ahead; simp only [jn, h0, h200, if_true, if_false, ite_self]
    · unfold g_X11_ahead; simp only [pfI, h0, h200, if_true, if_false]
  by_cases w0 : a1 < 0
  · refine ⟨-1, h, scA_rf h, ?_, fun h m => ⟨_, scB_0 h, ?_⟩⟩
    · unfold g_X10_ahead; simp only [jn, h0, h200, w0, if_true, if_false, ite_self]
    · unfold g_X11_ahead; simp only [pfI, h0, h200, w0, if_true, if_false]
  by_cases w4 : 4 < a1
  · refine ⟨-1, h, scA_rf h, ?_, fun h m => ⟨_, scB_0 h, ?_⟩⟩
    · unfold g_X10_ahead; simp only [jn, h0, h200, w0, w4, if_true, if_false, ite_self]
    · unfold g_X11_ahead; simp only [pfI, h0, h200, w0, w4, if_true, if_false]
  obtain ⟨n, hn, rfl⟩ := nI_of h0
  have n200 : n ≤ 200 := Nat.not_lt.mp fun q => h200 (nI_lt (a := 200) q hn)
  obtain ⟨k, hk, rfl⟩ := nI_of w0
  have k4 : k ≤ 4 := Nat.not_lt.mp fun q => w4 (nI_lt (a := 4) q hk)
  by_cases pa : k < 2 ∧ ¬ prs a2 np
  · obtain ⟨k2, pa⟩ := pa
    refine ⟨-1, h, scA_rf h, ?_, fun h m => ⟨_, scB_0 h, ?_⟩⟩
    · unfold g_X10_ahead
      simp only [jn, h0, h200, w0, w4, if_false]
      rcases (show k = 0 ∨ k = 1 by omega) with rfl | rfl
      · rw [if_pos (by decide), if_neg (by decide), xg_P0 c w pa]
      · rw [if_neg (by decide), if_pos (by decide), if_neg (by decide), xg_P0 c w pa]
    · have m1 := m.B hnp (scB_0 h)
      unfold g_X11_ahead
      simp only [pfI, jn, h0, h200, w0, w4, if_false]
      rw [if_pos (show nI k < 2 from nI_lt (b := 2) k2 (by decide)), rg_P0 m1.1 pa]
  obtain ⟨u, u1, u2⟩ := s.2.2.2
  obtain ⟨p, h1, T, e1, q1, k1, k7, k8, p0, sp, s1, c1⟩ := x_trial c w (md := 1) (by decide)
  have tX := q1.sX s.X hnp
  obtain ⟨h2, s2, k2, e2⟩ := x_pass w.1 (bare := false) (idle := -1) (k := n) (u := u) (by omega) (by omega) (q1.2.2.1.trans u2) tX.1 k1 (by rw [k8]; rfl) k7
  have e1' : g_X10_startTrial 1 h = _ := e1
  have gX := tX.it (P := P) (fo := P 3) (md := 1) w.1 (bare := false) (idle := -1) n
  have fA := s1.tr s2.A
  have c2 := c1.X (h' := h2) (fun a k u => s2.A.1 a k (by omega)) s2.A.2
  obtain ⟨U, hU⟩ : ∃ U, U = itA (hrA P (P 3) np 1 ng false (-1)) n T := ⟨_, rfl⟩
  rw [← hU] at k2 gX
  have kU := k2.2.2.2.2.2.2.2.1
  have kS := c2.s
  have cls : ∀ X : Nat → HH → Option (Int32 × HH), g_X10_ahead (nI n) (nI k) a2 h = (bnd (g_X10_startTrial (1 : Int32) h) fun r9 h8 => ckH r9 (.inl 7) (bnd (g_X0_pass (nI n) h8) fun _ h10 => X r9 h10)) → g_X10_ahead (nI n) (nI k) a2 h = X 196 h2 := fun X e => by
    rw [e, e1', bnd_some, ckH_of sh_196, e2, bnd_some]
  have ref : ∀ (v : Int32) (Y : HH → Option (Int32 × HH)), (∀ h, RM1 h P S nf np nl ng → g_X11_ahead (nI n) (nI k) a2 h = (bnd (g_X11_copies (1 : Int32) (0 : Int32) (wrI h 255 0 0)) fun _ h5 => bnd (g_X11_goesOn (nI n) h5) fun _ h7 => Y h7)) → (∀ h, MS h 1 U np → RM1 h P S nf np nl ng → Y h = some (v, h)) → ∀ h, RM1 h P S nf np nl ng → ∃ h', scB h h' ∧ g_X11_ahead (nI n) (nI k) a2 h = some (v, h') := fun v Y e eY h m => by
    have m1 := m.B hnp (scB_0 h)
    obtain ⟨h3, e3, k3, s3, m3, n48, n49⟩ := r_trial m1 w q1
    obtain ⟨z1, z2, z3⟩ := m48_0 w.1 n48
    obtain ⟨h4, s4, k4, e4⟩ := r_goesOn w.1 (e := n) (by omega) tX k3 z1 z2 z3
    rw [← hU] at k4
    exact ⟨h4, ((scB_0 h).tr (scG1B s3)).tr (scG1B s4), by rw [e h m, e3, bnd_some, e4, bnd_some]; exact eY h4 k4.2.1 (m3.B hnp (scG1B s4))⟩
  by_cases k2' : k < 2
  · obtain ⟨a, ha, rfl⟩ : prs a2 np := by
      by_cases q : prs a2 np
      · exact q
      · exact absurd ⟨k2', q⟩ pa
    rcases (show k = 0 ∨ k = 1 by omega) with rfl | rfl
    · refine ⟨U 1 a, h2, fA, ?_, ref _ _ (fun h m => by
        have m1 := m.B hnp (scB_0 h)
        unfold g_X11_ahead
        simp only [pfI, jn, h0, h200, w0, w4, if_false]
        rw [if_pos (show nI 0 < 2 by decide), rg_P1 m1.1 hnp ha]) (fun h m mr => ?_)⟩
      · refine (cls _ (by
          unfold g_X10_ahead
          simp only [jn, h0, h200, w0, w4, if_false]
          rw [if_pos (by decide), if_neg (by decide), xg_P1 c w ha])).trans ?_
        rw [if_pos (by decide), ldI_of (by omega) (by decide), kU 1 a (by decide)]
      · rw [if_pos (by decide), ix6_1, ldI_of (by omega) (by decide), (m.1 a ha).1]
    · refine ⟨U 2 a, h2, fA, ?_, ref _ _ (fun h m => by
        have m1 := m.B hnp (scB_0 h)
        unfold g_X11_ahead
        simp only [pfI, jn, h0, h200, w0, w4, if_false]
        rw [if_pos (show nI 1 < 2 by decide), rg_P1 m1.1 hnp ha]) (fun h m mr => ?_)⟩
      · refine (cls _ (by
          unfold g_X10_ahead
          simp only [jn, h0, h200, w0, w4, if_false]
          rw [if_neg (by decide), if_pos (by decide), if_neg (by decide), xg_P1 c w ha])).trans ?_
        rw [if_neg (by decide), if_pos (by decide), ldI_of (by omega) (by decide), kU 2 a (by decide)]
      · rw [if_neg (by decide), if_pos (by decide), ix6_1, ldI_of (by omega) (by decide), (m.1 a ha).2.1]
  · rcases (show k = 2 ∨ k = 3 ∨ k = 4 by omega) with rfl | rfl | rfl
    · refine ⟨smI (U 3) np - smI (S 3) np, h2, fA, ?_, ref _ _ (fun h m => by
        have m1 := m.B hnp (scB_0 h)
        unfold g_X11_ahead
        simp only [pfI, jn, h0, h200, w0, w4, if_false]
        rw [if_neg (show ¬ nI 2 < 2 by decide)]) (fun h m mr => ?_)⟩
      · refine (cls _ (by
          unfold g_X10_ahead
          simp only [jn, h0, h200, w0, w4, if_false]
          rw [if_neg (by decide), if_neg (by decide), if_pos True.intro])).trans ?_
        rw [if_neg (by decide), if_neg (by decide), if_pos (by decide), x_sum (by decide +kernel : shL[196 + 3]? = some (.inr (0, 6, 0))), bnd_some, x_sum sh_55, bnd_some, (smI_eq 6 fun a _ => kU 3 a (by decide)).trans (gX.2.2.sm hnp (by decide) (by decide)), (smI_eq 6 fun a _ => kS 3 a (by decide)).trans (s.2.2.1.sm hnp (by decide) (by decide))]
      · have s1 := r_sum (o := 3) (s := 1) (by decide) (by decide) (by decide) hnp mr.1.2.1 m
        have s0 := r_sum (o := 3) (s := 0) (by decide) (by decide) (by decide) hnp mr.1.2.1 mr.2.1
        have s1' : g_X11_sumOf 280 1 h = _ := s1
        have s0' : g_X11_sumOf 280 0 h = _ := s0
        rw [if_neg (by decide), if_neg (by decide), if_pos (by decide), s1', bnd_some, s0', bnd_some]
    · refine ⟨smI (U 4) np - smI (S 4) np, h2, fA, ?_, ref _ _ (fun h m => by
        have m1 := m.B hnp (scB_0 h)
        unfold g_X11_ahead
        simp only [pfI, jn, h0, h200, w0, w4, if_false]
        rw [if_neg (show ¬ nI 3 < 2 by decide)]) (fun h m mr => ?_)⟩
      · refine (cls _ (by
          unfold g_X10_ahead
          simp only [jn, h0, h200, w0, w4, if_false]
          rw [if_neg (by decide), if_neg (by decide), if_pos True.intro])).trans ?_
        rw [if_neg (by decide), if_neg (by decide), if_neg (by decide), if_pos (by decide), x_sum (by decide +kernel : shL[196 + 4]? = some (.inr (0, 6, 0))), bnd_some, x_sum sh_56, bnd_some, (smI_eq 6 fun a _ => kU 4 a (by decide)).trans (gX.2.2.sm hnp (by decide) (by decide)), (smI_eq 6 fun a _ => kS 4 a (by decide)).trans (s.2.2.1.sm hnp (by decide) (by decide))]
      · have s1 := r_sum (o := 4) (s := 1) (by decide) (by decide) (by decide) hnp mr.1.2.1 m
        have s0 := r_sum (o := 4) (s := 0) (by decide) (by decide) (by decide) hnp mr.1.2.1 mr.2.1
        have s1' : g_X11_sumOf 281 1 h = _ := s1
        have s0' : g_X11_sumOf 281 0 h = _ := s0
        rw [if_neg (by decide), if_neg (by decide), if_neg (by decide), if_pos (by decide), s1', bnd_some, s0', bnd_some]
    · refine ⟨cnI (U 5) 36, h2, fA, ?_, ref _ _ (fun h m => by
        have m1 := m.B hnp (scB_0 h)
        unfold g_X11_ahead
        simp only [pfI, jn, h0, h200, w0, w4, if_false]
        rw [if_neg (show ¬ nI 4 < 2 by decide)]) (fun h m mr => ?_)⟩
      · refine (cls _ (by
          unfold g_X10_ahead
          simp only [jn, h0, h200, w0, w4, if_false]
          rw [if_neg (by decide), if_neg (by decide), if_pos True.intro])).trans ?_
        rw [if_neg (by decide), if_neg (by decide), if_neg (by decide), if_neg (by decide), x_tallies sh_196 kU, bnd_some]
      · have s1 := r_entries (s := 1) (by decide) m
        have s1' : g_X11_entries 1 h = _ := s1
        rw [if_neg (by decide), if_neg (by decide), if_neg (by decide), if_neg (by decide), s1', bnd_some]
/-! there -/
theorem th_L {P : TB} {S : TB} {nf np nl ng : Nat} (w : PW P nf np nl ng) {a t : Nat} (ha : a < np) (ht : t ≤ nf) : ∀ (m i n1 n2 : Nat) (U : TB), i + m = 200 → m < n1 → m < n2 → sX U nf np → ∃ v : Int32,
    (∀ h p, cAt h p 196 (p + 3) P U (P 3) np 1 → h.1 193 7 = -1 → h.1 193 8 = 0 → ∃ h', scA h h' ∧ g_X10_there_L27 (nI a) (nI t) 196 n1 (nI i) h = some (v, h')) ∧
    ∀ h, mAt h 1 P U (P 3) nf np nl ng → h.1 255 48 = 0 → ∃ h', scB h h' ∧ g_X11_there_L31 (nI a) (nI t) n2 (nI i) h = some (v, h') := by
  have hnp : np ≤ 6 := w.1.2.1
  intro m
  induction m with
  | zero =>
    intro i n1 n2 U hi h1 h2 s
    obtain ⟨n1, rfl⟩ : ∃ n', n1 = n' + 1 := ⟨n1 - 1, by omega⟩
    obtain ⟨n2, rfl⟩ : ∃ n', n2 = n' + 1 := ⟨n2 - 1, by omega⟩
    obtain rfl : i = 200 := by omega
    exact ⟨-2, fun h p c k7 k8 => ⟨h, scA_rf h, by rw [g_X10_there_L27, if_neg (show ¬ nI 200 < 200 by decide)]⟩, fun h c n48 => ⟨h, scB_rf h, by rw [g_X11_there_L31, if_pos (show 199 < nI 200 by decide)]⟩⟩
  | succ m ih =>
    intro i n1 n2 U hi h1 h2 s
    obtain ⟨n1, rfl⟩ : ∃ n', n1 = n' + 1 := ⟨n1 - 1, by omega⟩
    obtain ⟨n2, rfl⟩ : ∃ n', n2 = n' + 1 := ⟨n2 - 1, by omega⟩
    have i1 : nI i < 200 := nI_lt (b := 200) (by omega) (by decide)
    have i2 : ¬ 199 < nI i := nI_nlt (a := 199) (by omega) (by decide)
    by_cases k : U 1 a = nI t
    · refine ⟨nI i, fun h p c k7 k8 => ⟨h, scA_rf h, ?_⟩, fun h c n48 => ⟨h, scB_rf h, ?_⟩⟩
      · rw [g_X10_there_L27, if_pos i1, ldI_of (by omega) (by decide), c.2.2.2.2.2.2.2.1 1 a (by decide), if_pos k]
      · rw [g_X11_there_L31, if_neg i2, ix6_1, ldI_of (by omega) (by decide), (c.2.1.1 a ha).1, if_pos k]
    · obtain ⟨v, v1, v2⟩ := ih (i + 1) n1 n2 (hrA P (P 3) np 1 ng false (-1) U) (by omega) (by omega) (by omega) (s.hr w.1)
      refine ⟨v, fun h p c k7 k8 => ?_, fun h c n48 => ?_⟩
      · obtain ⟨h3, s3, c3, e3⟩ := x_passOne c w.1 s.1 (bare := false) (by rw [k8]; rfl) k7
        obtain ⟨h4, s4, e4⟩ := v1 h3 p c3 ((s3.1 193 7 (by omega) (by omega) (by omega)).trans k7) ((s3.1 193 8 (by omega) (by omega) (by omega)).trans k8)
        refine ⟨h4, s3.A.tr s4, ?_⟩
        rw [g_X10_there_L27, if_pos i1, ldI_of (by omega) (by decide), c.2.2.2.2.2.2.2.1 1 a (by decide), if_neg k, e3, bnd_some]
        simp only [vl, nI_1]
        exact e4
      · obtain ⟨z1, z2, z3⟩ := m48_0 w.1 n48
        obtain ⟨h3, s3, c3, e3⟩ := r_passes c w.1 z1 s.2.1 s.1 z2 z3
        obtain ⟨h4, s4, e4⟩ := v2 h3 c3 ((s3.t (by unfold inH; omega) (by omega) (by omega) (by omega)).trans n48)
        refine ⟨h4, (scG1B s3).tr s4, ?_⟩
        have e3' : g_X11_passes 1 0 h = _ := e3
        rw [g_X11_there_L31, if_neg i2, ix6_1, ldI_of (by omega) (by decide), (c.2.1.1 a ha).1, if_neg k, e3', bnd_some]
        simp only [vl, nI_1]
        exact e4
theorem c_there (a0 a1 : Int32) : Eqv (g_X10_there a0 a1) (g_X11_there a0 a1) := by
  obtain ⟨N, hN⟩ : ∃ N : Nat, N = 1024 := ⟨_, rfl⟩
  refine Eqv_PLs a0 a1 (-1) (fun a0 a1 h3 => bnd (g_X10_startTrial (1 : Int32) h3) fun r6 h5 => ckH r6 (.inl 7) (g_X10_there_L27 a0 a1 r6 N (0 : Int32) h5)) (fun a0 a1 h4 => bnd (g_X11_copies (1 : Int32) (0 : Int32) h4) fun _ h6 => g_X11_there_L31 a0 a1 N (0 : Int32) h6) (fun _ => by rw [hN]; rfl) (fun _ => by rw [hN]; rfl) fun P S nf np nl ng a t w s ha ht h c => ?_
  have hnp : np ≤ 6 := w.1.2.1
  obtain ⟨p, h1, T, e1, q1, k1, k7, k8, p0, sp, s1, c1⟩ := x_trial c w (md := 1) (by decide)
  obtain ⟨v, v1, v2⟩ := th_L (S := S) w ha ht 200 0 N N T (by omega) (by omega) (by omega) (q1.sX s.X hnp)
  obtain ⟨h2, s2, e2⟩ := v1 h1 p k1 k7 k8
  have e1' : g_X10_startTrial 1 h = _ := e1
  refine ⟨v, h2, s1.tr s2, ?_, fun h m => ?_⟩
  · rw [e1', bnd_some, ckH_of sh_196]; exact e2
  · obtain ⟨h3, e3, k3, s3, m3, n48, n49⟩ := r_trial m w q1
    obtain ⟨h4, s4, e4⟩ := v2 h3 k3 n48
    exact ⟨h4, (scG1B s3).tr s4, by rw [e3, bnd_some]; exact e4⟩
/-! highest, climbs -/
theorem r_getsUp {P U : TB} {nf np nl ng : Nat} (w : PW P nf np nl ng) {a fl t : Nat} (ha : a < np) (s : sX U nf np) (hfl : U 1 a = nI fl) (hf : fl ≤ nf) (ht : t ≤ nf) {h : HH} (c : mAt h 1 P U (P 3) nf np nl ng) (n48 : h.1 255 48 = 0) :
    ∃ h', scB h h' ∧ mAt h' 1 P (wkA P (P 3) np 2 a fl t U).2 (P 3) nf np nl ng ∧ h'.1 255 48 = 0 ∧ g_X11_getsUp (nI a) (nI t) h = some ((wkA P (P 3) np 2 a fl t U).2 1 a, h') := by
  have hnp : np ≤ 6 := w.1.2.1
  have fr5 : ∀ v : Int32, scG 1 h (wrI h 255 48 v) → True := fun _ _ => trivial
  obtain ⟨m, k, mf, wl, hs, hnf, hnp'⟩ := id c
  have c5 : mAt (wrI h 255 48 5) 1 P U (P 3) nf np nl ng := ⟨m.X fun a k q1 q2 => by rw [wrI_1, if_neg (by omega)], k.X hnp fun a k hk => by rw [wrI_1, if_neg (by unfold inH at hk; omega)], fun b hb => by
    rw [wrI_at, if_neg (by decide), wrI_1, if_neg (by omega)]
    exact m.2.2.2.2.2.2.1 b hb, wl, hs, hnf, hnp'⟩
  obtain ⟨h1, s1, c1, e1⟩ := r_goesTo c5 (b := 0) (md := 2) (Or.inl ⟨rfl, wrI_at _ _ _ _⟩) s.2.1 ha hfl hf ht
  have e1' : g_X11_goesTo 1 (nI a) (nI t) 0 (wrI h 255 48 5) = _ := e1
  obtain ⟨m1, k1, mf1, -, -, -, -⟩ := id c1
  have c2 : mAt (wrI h1 255 48 0) 1 P (wkA P (P 3) np 2 a fl t U).2 (P 3) nf np nl ng := ⟨m1.X fun a k q1 q2 => by rw [wrI_1, if_neg (by omega)], k1.X hnp fun a k hk => by rw [wrI_1, if_neg (by unfold inH at hk; omega)], fun b hb => by
    rw [wrI_at, if_neg (by decide), wrI_1, if_neg (by omega)]
    exact m1.2.2.2.2.2.2.1 b hb, wl, hs, hnf, hnp'⟩
  refine ⟨wrI h1 255 48 0, ⟨fun a k u => ?_, fun j hj => ?_⟩, c2, wrI_at _ _ _ _, ?_⟩
  · have sB := scG1B s1.G
    by_cases q : a = 255 ∧ k = 48
    · rw [q.1, q.2, wrI_at, n48]
    · rw [wrI_1, if_neg q, sB.1 a k u, wrI_1, if_neg q]
  · have sB := scG1B s1.G
    exact (sB.2 j hj).trans rfl
  · unfold g_X11_getsUp
    simp only [pfI]
    rw [e1', bnd_some, ix6_1, ldI_of (by omega) (by decide), (c2.2.1.1 a ha).1]
theorem c_highest (a0 : Int32) : Eqv (g_X10_highest a0) (g_X11_highest a0) := by
  refine Eqv_qs fun P S nf np nl ng w s h c => ?_
  have hnf : nf ≤ 6 := w.1.1
  have hnp : np ≤ 6 := w.1.2.1
  by_cases pa : prs a0 np
  · obtain ⟨a, ha, rfl⟩ := pa
    obtain ⟨p, h1, T, e1, q1, k1, k7, k8, p0, sp, s1, c1⟩ := x_trial c w (md := 2) (by decide)
    have tX := q1.sX s.X hnp
    obtain ⟨fl, fl1, fl2⟩ := tX.1 a ha
    have e1' : g_X10_startTrial 2 h = _ := e1
    obtain ⟨h2, s2, k2, e2⟩ := x_walkTo k1 w.1.2.2.2.2.2.1 hnf (a := a) (fl := fl) (t := nf) (by omega) fl2 fl1 (Nat.le_refl _)
    refine ⟨(wkA P (P 3) np 2 a fl nf T).2 1 a, h2, s1.tr s2.F.A, ?_, fun h m => ?_⟩
    · unfold g_X10_highest
      rw [xg_P1 c w ha, e1', bnd_some, ckH_of sh_196]
      simp only [gfR, gfI]
      rw [p0, ckH_of sp, show h1.1 p 0 = nI nf from (k1.2.2.2.2.2.2.1 0 0 (by decide)).trans w.1.2.2.2.2.2.1, e2, bnd_some, ldI_of (by omega) (by decide), k2.2.2.2.2.2.2.2.1 1 a (by decide)]
    · have mB := m.B hnp (scB_0 h)
      obtain ⟨h3, e3, k3, s3, m3, n48, n49⟩ := r_trial mB w q1
      obtain ⟨h4, s4, k4, -, e4⟩ := r_getsUp w ha tX fl2 fl1 (Nat.le_refl nf) k3 n48
      refine ⟨h4, ((scB_0 h).tr (scG1B s3)).tr s4, ?_⟩
      unfold g_X11_highest
      simp only [pfI]
      rw [rg_P1 mB.1 hnp ha, e3, bnd_some, ldI_0 (by decide) (by decide), k3.1.1, e4, bnd_some]
  · refine ⟨-1, h, scA_rf h, ?_, fun h m => ⟨_, scB_0 h, ?_⟩⟩
    · unfold g_X10_highest; rw [xg_P0 c w pa]
    · unfold g_X11_highest
      simp only [pfI]
      rw [rg_P0 (m.B hnp (scB_0 h)).1 pa]
theorem upA_no {P : TB} {fo : Nat → Int32} {np md a : Nat} : ∀ (k f : Nat) (S : TB), S 1 a = nI f → ((upA P fo np md a k f S).1 = true ∧ (upA P fo np md a k f S).2 1 a = nI (f + k)) ∨ ((upA P fo np md a k f S).1 = false ∧ ∃ fl, fl < f + k ∧ (upA P fo np md a k f S).2 1 a = nI fl)
  | 0, f, _, h => Or.inl ⟨rfl, h⟩
  | k + 1, f, S, h => by
    unfold upA
    cases hb : (riA P S fo np md a f).1 with
    | true =>
      simp only [if_true]
      rcases upA_no k (f + 1) _ (riA_fl hb) with ⟨q1, q2⟩ | ⟨q1, fl, q2, q3⟩
      · exact Or.inl ⟨q1, by rw [q2]; congr 1; omega⟩
      · exact Or.inr ⟨q1, fl, by omega, q3⟩
    | false =>
      simp only [Bool.false_eq_true, if_false]
      obtain ⟨fl, h1, h2⟩ := riA_nf h hb
      exact Or.inr ⟨trivial, fl, by omega, h2⟩
theorem cl_L {P : TB} {S : TB} {nf np nl ng : Nat} (w : PW P nf np nl ng) {a t : Nat} (ha : a < np) (ht : t ≤ nf) (ht0 : 0 < t) : ∀ (m i n1 n2 : Nat) (U : TB), i + m = 99 → m < n1 → m < n2 → sX U nf np → ∃ v : Int32,
    (∀ h p, cAt h p 196 (p + 3) P U (P 3) np 2 → ∃ h', scA h h' ∧ g_X10_climbs_L34 (nI a) (nI t) 196 n1 (nI i) (nI i) h = some (v, h')) ∧
    ∀ h, mAt h 1 P U (P 3) nf np nl ng → h.1 255 48 = 0 → ∃ h', scB h h' ∧ g_X11_climbs_L35 (nI a) (nI t) n2 (nI i) h = some (v, h') := by
  have hnf : nf ≤ 6 := w.1.1
  have hnp : np ≤ 6 := w.1.2.1
  intro m
  induction m with
  | zero =>
    intro i n1 n2 U hi h1 h2 s
    obtain ⟨n1, rfl⟩ : ∃ n', n1 = n' + 1 := ⟨n1 - 1, by omega⟩
    obtain ⟨n2, rfl⟩ : ∃ n', n2 = n' + 1 := ⟨n2 - 1, by omega⟩
    obtain rfl : i = 99 := by omega
    exact ⟨99, fun h p c => ⟨h, scA_rf h, by rw [g_X10_climbs_L34, if_neg (show ¬ nI 99 < 99 by decide)]; rfl⟩, fun h c n48 => ⟨h, scB_rf h, by rw [g_X11_climbs_L35, if_neg (show ¬ nI 99 < 99 by decide)]⟩⟩
  | succ m ih =>
    intro i n1 n2 U hi h1 h2 s
    obtain ⟨n1, rfl⟩ : ∃ n', n1 = n' + 1 := ⟨n1 - 1, by omega⟩
    obtain ⟨n2, rfl⟩ : ∃ n', n2 = n' + 1 := ⟨n2 - 1, by omega⟩
    have i1 : nI i < 99 := nI_lt (b := 99) (by omega) (by decide)
    have sU : sX (up U 1 a 0) nf np := by
      obtain ⟨x1, x2, x3⟩ := s
      refine ⟨fun b hb => ?_, tOk_o x2 _ _ (by decide), zG_up x3 _ (Or.inl ha)⟩
      by_cases e : b = a
      · exact ⟨0, Nat.zero_le _, by rw [e, up_at]; rfl⟩
      · obtain ⟨fl, q1, q2⟩ := x1 b hb
        exact ⟨fl, q1, by rw [up_ne _ _ _ _ _ _ (by omega)]; exact q2⟩
    have f0 : up U 1 a 0 1 a = nI 0 := up_at _ _ _ _
    obtain ⟨v, v1, v2⟩ := ih (i + 1) n1 n2 (wkA P (P 3) np 2 a 0 t (up U 1 a 0)).2 (by omega) (by omega) (by omega) (sU.wk ha f0 (Nat.zero_le _) ht)
    have wk : wkA P (P 3) np 2 a 0 t (up U 1 a 0) = upA P (P 3) np 2 a t 0 (up U 1 a 0) := by unfold wkA; rw [if_neg (by omega)]; rfl
    have no := upA_no (P := P) (fo := P 3) (np := np) (md := 2) (a := a) t 0 (up U 1 a 0) f0
    rw [← wk, Nat.zero_add] at no
    have cl : ∀ h p, cAt h p 196 (p + 3) P U (P 3) np 2 → ∃ h', scA h h' ∧ cAt h' p 196 (p + 3) P (wkA P (P 3) np 2 a 0 t (up U 1 a 0)).2 (P 3) np 2 ∧ g_X10_climbs_L34 (nI a) (nI t) 196 (n1 + 1) (nI i) (nI i) h = if (wkA P (P 3) np 2 a 0 t (up U 1 a 0)).1 then g_X10_climbs_L34 (nI a) (nI t) 196 n1 (nI (i + 1)) (nI (i + 1)) h' else some (nI i, h') := by
      intro h p c
      obtain ⟨w1, w2⟩ := c.wr (o := 1) a 0 (by decide)
      obtain ⟨h2, s2, k2, e2⟩ := x_walkTo w2 w.1.2.2.2.2.2.1 hnf (a := a) (fl := 0) (t := t) (by omega) f0 (Nat.zero_le _) ht
      refine ⟨h2, w1.F.A.tr s2.F.A, k2, ?_⟩
      rw [g_X10_climbs_L34, if_pos i1, stI_of (by omega) (by decide), e2, bnd_some]
      simp only [vl, nI_1]
      cases (wkA P (P 3) np 2 a 0 t (up U 1 a 0)).1 with
      | true => simp only [if_true, i10, if_false]
      | false => simp only [Bool.false_eq_true, if_false, if_true]
    have rl : ∀ h, mAt h 1 P U (P 3) nf np nl ng → h.1 255 48 = 0 → ∃ h', scB h h' ∧ mAt h' 1 P (wkA P (P 3) np 2 a 0 t (up U 1 a 0)).2 (P 3) nf np nl ng ∧ h'.1 255 48 = 0 ∧ g_X11_climbs_L35 (nI a) (nI t) (n2 + 1) (nI i) h = if (wkA P (P 3) np 2 a 0 t (up U 1 a 0)).2 1 a = nI t then g_X11_climbs_L35 (nI a) (nI t) n2 (nI (i + 1)) h' else some (nI i, h') := by
      intro h c n48
      obtain ⟨w1, w2⟩ := c.wp (o := 1) (by decide) (by decide) ha 0
      obtain ⟨h2, s2, k2, n2', e2⟩ := r_getsUp w ha sU f0 (Nat.zero_le nf) ht w2 (by rw [wrI_1, if_neg (by omega)]; exact n48)
      refine ⟨h2, (scG1B w1.G).tr s2, k2, n2', ?_⟩
      rw [g_X11_climbs_L35, if_pos i1, ix6_1, stI_of (by omega) (by decide)]
      have e2' : g_X11_getsUp (nI a) (nI t) (wrI h 278 (6 * 1 + a) 0) = _ := e2
      rw [e2', bnd_some]
      simp only [vl, nI_1]
    rcases no with ⟨q1, q2⟩ | ⟨q1, fl, q2, q3⟩
    · refine ⟨v, fun h p c => ?_, fun h c n48 => ?_⟩
      · obtain ⟨h2, s2, k2, e2⟩ := cl h p c
        obtain ⟨h3, s3, e3⟩ := v1 h2 p k2
        exact ⟨h3, s2.tr s3, by rw [e2, if_pos q1]; exact e3⟩
      · obtain ⟨h2, s2, k2, n2', e2⟩ := rl h c n48
        obtain ⟨h3, s3, e3⟩ := v2 h2 k2 n2'
        exact ⟨h3, s2.tr s3, by rw [e2, if_pos q2]; exact e3⟩
    · refine ⟨nI i, fun h p c => ?_, fun h c n48 => ?_⟩
      · obtain ⟨h2, s2, k2, e2⟩ := cl h p c
        exact ⟨h2, s2, by rw [e2, if_neg (by rw [q1]; decide)]⟩
      · obtain ⟨h2, s2, k2, n2', e2⟩ := rl h c n48
        exact ⟨h2, s2, by rw [e2, if_neg (fun e => by have := (nI_eq (by omega) (by omega)).mp (q3.symm.trans e); omega)]⟩
theorem c_climbs (a0 a1 : Int32) : Eqv (g_X10_climbs a0 a1) (g_X11_climbs a0 a1) := by
  obtain ⟨N, hN⟩ : ∃ N : Nat, N = 1024 := ⟨_, rfl⟩
  refine Eqv_PLs a0 a1 (-1) (fun a0 a1 h3 => if a1 = 0 then some ((-1 : Int32), h3) else bnd (g_X10_startTrial (2 : Int32) h3) fun r6 h5 => ckH r6 (.inl 7) (g_X10_climbs_L34 a0 a1 r6 N (0 : Int32) (0 : Int32) h5)) (fun a0 a1 h4 => if a1 = 0 then some ((-1 : Int32), h4) else bnd (g_X11_copies (1 : Int32) (0 : Int32) h4) fun _ h6 => g_X11_climbs_L35 a0 a1 N (0 : Int32) h6) (fun _ => by rw [hN]; rfl) (fun _ => by rw [hN]; rfl) fun P S nf np nl ng a t w s ha ht h c => ?_
  have hnp : np ≤ 6 := w.1.2.1
  have hnf : nf ≤ 6 := w.1.1
  by_cases ht0 : t = 0
  · subst ht0
    exact ⟨-1, h, scA_rf h, by rw [if_pos (show nI 0 = (0 : Int32) from nI_0)], fun h m => ⟨h, scB_rf h, by rw [if_pos (show nI 0 = (0 : Int32) from nI_0)]⟩⟩
  have t0 : ¬ nI t = 0 := nI_ne0 (by omega) (by omega)
  obtain ⟨p, h1, T, e1, q1, k1, k7, k8, p0, sp, s1, c1⟩ := x_trial c w (md := 2) (by decide)
  obtain ⟨v, v1, v2⟩ := cl_L (S := S) w ha ht (by omega) 99 0 N N T (by omega) (by omega) (by omega) (q1.sX s.X hnp)
  obtain ⟨h2, s2, e2⟩ := v1 h1 p k1
  have e1' : g_X10_startTrial 2 h = _ := e1
  refine ⟨v, h2, s1.tr s2, ?_, fun h m => ?_⟩
  · rw [if_neg t0, e1', bnd_some, ckH_of sh_196]; exact e2
  · obtain ⟨h3, e3, k3, s3, m3, n48, n49⟩ := r_trial m w q1
    obtain ⟨h4, s4, e4⟩ := v2 h3 k3 n48
    exact ⟨h4, (scG1B s3).tr s4, by rw [if_neg t0, e3, bnd_some]; exact e4⟩
