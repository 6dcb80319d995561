/-! calls: tools -/
def fM (h h' : HH) : Prop := ∀ a k, 255 ≤ a → h'.1 a k = h.1 a k
def fC (h h' : HH) : Prop := (∀ a k, a < 255 → h'.1 a k = h.1 a k) ∧ ∀ j, j < 2 → h'.2.2 j = h.2.2 j
theorem fM_rf (h : HH) : fM h h := fun _ _ _ => rfl
theorem fC_rf (h : HH) : fC h h := ⟨fun _ _ _ => rfl, fun _ _ => rfl⟩
theorem fM.tr {a b c : HH} (s : fM a b) (t : fM b c) : fM a c := fun x k u => (t x k u).trans (s x k u)
theorem fC.tr {a b c : HH} (s : fC a b) (t : fC b c) : fC a c := ⟨fun x k u => (t.1 x k u).trans (s.1 x k u), fun j hj => (t.2 j hj).trans (s.2 j hj)⟩
theorem kM_ge {a k : Nat} (u : kM a k) : 255 ≤ a := by
  rcases u with u | u | ⟨s, _, _, u⟩ | u
  · omega
  · omega
  · unfold inH at u; omega
  · omega
theorem scA.M {h h' : HH} (s : scA h h') : fM h h' := fun a k u => s.1 a k (by omega)
theorem scB.C {h h' : HH} (s : scB h h') : fC h h' := ⟨fun a k u => s.1 a k (Or.inl u), s.2⟩
/-- what else is known of the two at every call -/
def RelY (tl : Nat) (tp : Nat → Nat) (pa : List TB) (fk fp : Int32) : Prop := tl ≤ 700 ∧ (∀ i, i < tl → tp i < 256) ∧ pa.length ≤ 20 ∧ (fk = 0 → fp = -1)
theorem Eqv_u {α : Type} {f g : HH → Option (α × HH)} (H : ∀ P S nf np nl ng im pa nN nb nT tl tp fk fp, RelW P S nf np nl ng im pa nN nb nT → RelY tl tp pa fk fp →
    ∃ (v : α) (P' S' : TB) (nf' np' nl' ng' : Nat) (im' : Option TB) (pa' : List TB) (nN' : Nat) (nb' : Int32) (nT' : TB) (tl' : Nat) (tp' : Nat → Nat) (fk' fp' : Int32), RelW P' S' nf' np' nl' ng' im' pa' nN' nb' nT' ∧
      (∀ h, RelC h P S im pa nN nb nT tl tp fk fp → ∃ h', fM h h' ∧ f h = some (v, h') ∧ RelC h' P' S' im' pa' nN' nb' nT' tl' tp' fk' fp') ∧
      (∀ h, RelM h P S nf np nl ng im pa nN nb nT tl tp fk fp → ∃ h', fC h h' ∧ g h = some (v, h') ∧ RelM h' P' S' nf' np' nl' ng' im' pa' nN' nb' nT' tl' tp' fk' fp')) : Eqv f g := by
  intro h ⟨P, S, nf, np, nl, ng, im, pa, nN, nb, nT, tl, tp, fk, fp, w, c, m⟩
  obtain ⟨v, P', S', nf', np', nl', ng', im', pa', nN', nb', nT', tl', tp', fk', fp', w', H1, H2⟩ := H P S nf np nl ng im pa nN nb nT tl tp fk fp w ⟨c.2.2.2.2.1.2.1, fun i hi => (c.2.2.2.2.1.2.2 i hi).1, c.2.2.1.l, c.2.2.2.2.2.2.2⟩
  obtain ⟨h1, a1, e1, c1⟩ := H1 h c
  have hnp : np ≤ 6 := w.1.1.2.1
  have m1 := RelM.X m hnp c.2.2.1.l (fun a k u => a1 a k (kM_ge u))
  obtain ⟨h2, b2, e2, m2⟩ := H2 h1 m1
  exact ⟨v, h1, h2, e1, e2, P', S', nf', np', nl', ng', im', pa', nN', nb', nT', tl', tp', fk', fp', w', RelC.X c1 (fun a k u => b2.1 a k (by omega)) b2.2, m2⟩
theorem RC1.s {h : HH} {P S : TB} (c : RC1 h P S) : ∀ o k, o < 6 → h.1 (52 + o) k = S o k := by
  obtain ⟨p, hp, c1, c2, c3, c4, c5⟩ := c
  exact c4
theorem RC1.p {h : HH} {P S : TB} (c : RC1 h P S) : ∃ p, (p = 2 ∨ p = 30) ∧ h.2.2 0 = p ∧ shL[p]? = some (.inl 5) ∧ CP h p P := by
  obtain ⟨p, hp, c1, c2, c3, c4, c5⟩ := c
  exact ⟨p, hp, c1, by rcases hp with rfl | rfl; exact sh_2; exact sh_30, c3⟩
theorem MS.t0 {h : HH} {S : TB} {np : Nat} (m : MS h 0 S np) {k : Nat} (hk : k < 36) : h.1 282 k = S 5 k := by
  have := m.2.1 k hk
  rwa [Nat.mul_zero, Nat.zero_add] at this
theorem MS.f0 {h : HH} {S : TB} {np : Nat} (m : MS h 0 S np) {a : Nat} (ha : a < np) : h.1 278 a = S 1 a ∧ h.1 279 a = S 2 a ∧ h.1 280 a = S 3 a ∧ h.1 281 a = S 4 a := by
  have := m.1 a ha
  rwa [Nat.mul_zero, Nat.zero_add] at this
section GD
variable {α : Type} {h : HH} {P S : TB} {nf np nl ng : Nat}
theorem xg_P1 (c : RC1 h P S) (w : PW P nf np nl ng) {a : Nat} (ha : a < np) (R : α) (K : HH → Option (α × HH)) : (bnd (g_X10_isPerson (nI a) h) fun r2 h1 => if r2 = 0 then some (R, h1) else K h1) = K h := by
  rw [x_isP1 c w ha, bnd_some, if_neg (by decide)]
theorem xg_P0 (c : RC1 h P S) (w : PW P nf np nl ng) {a : Int32} (ha : ¬ prs a np) (R : α) (K : HH → Option (α × HH)) : (bnd (g_X10_isPerson a h) fun r2 h1 => if r2 = 0 then some (R, h1) else K h1) = some (R, h) := by
  rw [x_isP0 c w ha, bnd_some, if_pos rfl]
theorem xg_F1 (c : RC1 h P S) (w : PW P nf np nl ng) {a : Nat} (ha : a < nf) (R : α) (K : HH → Option (α × HH)) : (bnd (g_X10_isFlight (nI a) h) fun r2 h1 => if r2 = 0 then some (R, h1) else K h1) = K h := by
  rw [x_isF1 c w ha, bnd_some, if_neg (by decide)]
theorem xg_F0 (c : RC1 h P S) (w : PW P nf np nl ng) {a : Int32} (ha : ¬ prs a nf) (R : α) (K : HH → Option (α × HH)) : (bnd (g_X10_isFlight a h) fun r2 h1 => if r2 = 0 then some (R, h1) else K h1) = some (R, h) := by
  rw [x_isF0 c w ha, bnd_some, if_pos rfl]
theorem xg_L1 (c : RC1 h P S) (w : PW P nf np nl ng) {a : Nat} (ha : a < nf + 1) (R : α) (K : HH → Option (α × HH)) : (bnd (g_X10_isFloor (nI a) h) fun r2 h1 => if r2 = 0 then some (R, h1) else K h1) = K h := by
  rw [x_isL1 c w ha, bnd_some, if_neg (by decide)]
theorem xg_L0 (c : RC1 h P S) (w : PW P nf np nl ng) {a : Int32} (ha : ¬ prs a (nf + 1)) (R : α) (K : HH → Option (α × HH)) : (bnd (g_X10_isFloor a h) fun r2 h1 => if r2 = 0 then some (R, h1) else K h1) = some (R, h) := by
  rw [x_isL0 c w ha, bnd_some, if_pos rfl]
theorem rg_P1 (m : MP h P nf np nl ng) (hnp : np ≤ 6) {a : Nat} (ha : a < np) (R : α) (K : HH → Option (α × HH)) : (bnd (g_X11_isPerson (nI a) h) fun r2 h1 => if r2 = 0 then some (R, h1) else K h1) = K h := by
  rw [r_isP1 m hnp ha, bnd_some, if_neg (by decide)]
theorem rg_P0 (m : MP h P nf np nl ng) {a : Int32} (ha : ¬ prs a np) (R : α) (K : HH → Option (α × HH)) : (bnd (g_X11_isPerson a h) fun r2 h1 => if r2 = 0 then some (R, h1) else K h1) = some (R, h) := by
  rw [r_isP0 m ha, bnd_some, if_pos rfl]
theorem rg_F1 (m : MP h P nf np nl ng) (hnf : nf ≤ 6) {a : Nat} (ha : a < nf) (R : α) (K : HH → Option (α × HH)) : (bnd (g_X11_isFlight (nI a) h) fun r2 h1 => if r2 = 0 then some (R, h1) else K h1) = K h := by
  rw [r_isF1 m hnf ha, bnd_some, if_neg (by decide)]
theorem rg_F0 (m : MP h P nf np nl ng) {a : Int32} (ha : ¬ prs a nf) (R : α) (K : HH → Option (α × HH)) : (bnd (g_X11_isFlight a h) fun r2 h1 => if r2 = 0 then some (R, h1) else K h1) = some (R, h) := by
  rw [r_isF0 m ha, bnd_some, if_pos rfl]
theorem rg_L1 (m : MP h P nf np nl ng) (hnf : nf ≤ 6) {a : Nat} (ha : a < nf + 1) (R : α) (K : HH → Option (α × HH)) : (bnd (g_X11_isFloor (nI a) h) fun r2 h1 => if r2 = 0 then some (R, h1) else K h1) = K h := by
  rw [r_isL1 m hnf ha, bnd_some, if_neg (by decide)]
theorem rg_L0 (m : MP h P nf np nl ng) (hnf : nf ≤ 6) {a : Int32} (ha : ¬ prs a (nf + 1)) (R : α) (K : HH → Option (α × HH)) : (bnd (g_X11_isFloor a h) fun r2 h1 => if r2 = 0 then some (R, h1) else K h1) = some (R, h) := by
  rw [r_isL0 m hnf ha, bnd_some, if_pos rfl]
theorem rg_A1 (m : MP h P nf np nl ng) (hnf : nf ≤ 6) (hnp : np ≤ 6) {a f : Nat} (ha : a < np) (hf : f < nf) (R : α) (K : HH → Option (α × HH)) : (bnd (g_X11_areOf (nI a) (nI f) h) fun r2 h1 => if r2 = 0 then some (R, h1) else K h1) = K h := by
  rw [r_of1 m hnf hnp ha hf, bnd_some, if_neg (by decide)]
theorem rg_A0 (m : MP h P nf np nl ng) (hnf : nf ≤ 6) (hnp : np ≤ 6) {a f : Int32} (hn : ¬ (prs a np ∧ prs f nf)) (R : α) (K : HH → Option (α × HH)) : (bnd (g_X11_areOf a f h) fun r2 h1 => if r2 = 0 then some (R, h1) else K h1) = some (R, h) := by
  rw [r_of0 m hnf hnp hn, bnd_some, if_pos rfl]
theorem Eqv_PF {f g : HH → Option (α × HH)} (a0 a1 : Int32) (R : α) (KC KM : Int32 → Int32 → HH → Option (α × HH))
    (hf : ∀ h, f h = bnd (g_X10_isPerson a0 h) fun r2 h1 => if r2 = 0 then some (R, h1) else bnd (g_X10_isFlight a1 h1) fun r4 h3 => if r4 = 0 then some (R, h3) else KC a0 a1 h3)
    (hg : ∀ h, g h = bnd (g_X11_areOf a0 a1 (wrI h 255 0 0)) fun r3 h2 => if r3 = 0 then some (R, h2) else KM a0 a1 h2)
    (H : ∀ P S nf np nl ng a f, PW P nf np nl ng → sG S nf np → a < np → f < nf → ∃ v : α, (∀ h, RC1 h P S → ∃ h', scA h h' ∧ KC (nI a) (nI f) h = some (v, h')) ∧ ∀ h, RM1 h P S nf np nl ng → ∃ h', scB h h' ∧ KM (nI a) (nI f) h = some (v, h')) : Eqv f g := by
  refine Eqv_q fun P S nf np nl ng w s => ?_
  have hnf : nf ≤ 6 := w.1.1
  have hnp : np ≤ 6 := w.1.2.1
  by_cases hp : prs a0 np ∧ prs a1 nf
  · obtain ⟨⟨a, ha, rfl⟩, k, hk, rfl⟩ := hp
    obtain ⟨v, H1, H2⟩ := H P S nf np nl ng a k w s ha hk
    refine ⟨v, fun h c => ?_, fun h m => ?_⟩
    · obtain ⟨h', s1, e1⟩ := H1 h c
      exact ⟨h', s1, by rw [hf, xg_P1 c w ha, xg_F1 c w hk]; exact e1⟩
    · have m1 := m.B hnp (scB_0 h)
      obtain ⟨h', s1, e1⟩ := H2 _ m1
      exact ⟨h', (scB_0 h).tr s1, by rw [hg, rg_A1 m1.1 hnf hnp ha hk]; exact e1⟩
  · refine ⟨R, fun h c => ⟨h, scA_rf h, ?_⟩, fun h m => ⟨_, scB_0 h, ?_⟩⟩
    · rw [hf]
      by_cases pa : prs a0 np
      · have pf : ¬ prs a1 nf := fun q => hp ⟨pa, q⟩
        obtain ⟨k, hk, rfl⟩ := pa
        rw [xg_P1 c w hk, xg_F0 c w pf]
      · rw [xg_P0 c w pa]
    · rw [hg, rg_A0 (m.B hnp (scB_0 h)).1 hnf hnp hp]
theorem Eqv_PL {f g : HH → Option (α × HH)} (a0 a1 : Int32) (R : α) (KC KM : Int32 → Int32 → HH → Option (α × HH))
    (hf : ∀ h, f h = bnd (g_X10_isPerson a0 h) fun r2 h1 => if r2 = 0 then some (R, h1) else bnd (g_X10_isFloor a1 h1) fun r4 h3 => if r4 = 0 then some (R, h3) else KC a0 a1 h3)
    (hg : ∀ h, g h = bnd (g_X11_isPerson a0 (wrI h 255 0 0)) fun r2 h1 => if r2 = 0 then some (R, h1) else bnd (g_X11_isFloor a1 h1) fun r4 h3 => if r4 = 0 then some (R, h3) else KM a0 a1 h3)
    (H : ∀ P S nf np nl ng a f, PW P nf np nl ng → sG S nf np → a < np → f ≤ nf → ∃ v : α, (∀ h, RC1 h P S → ∃ h', scA h h' ∧ KC (nI a) (nI f) h = some (v, h')) ∧ ∀ h, RM1 h P S nf np nl ng → ∃ h', scB h h' ∧ KM (nI a) (nI f) h = some (v, h')) : Eqv f g := by
  refine Eqv_q fun P S nf np nl ng w s => ?_
  have hnf : nf ≤ 6 := w.1.1
  have hnp : np ≤ 6 := w.1.2.1
  by_cases pa : prs a0 np
  · obtain ⟨a, ha, rfl⟩ := pa
    by_cases pf : prs a1 (nf + 1)
    · obtain ⟨k, hk, rfl⟩ := pf
      obtain ⟨v, H1, H2⟩ := H P S nf np nl ng a k w s ha (by omega)
      refine ⟨v, fun h c => ?_, fun h m => ?_⟩
      · obtain ⟨h', s1, e1⟩ := H1 h c
        exact ⟨h', s1, by rw [hf, xg_P1 c w ha, xg_L1 c w hk]; exact e1⟩
      · have m1 := m.B hnp (scB_0 h)
        obtain ⟨h', s1, e1⟩ := H2 _ m1
        exact ⟨h', (scB_0 h).tr s1, by rw [hg, rg_P1 m1.1 hnp ha, rg_L1 m1.1 hnf hk]; exact e1⟩
    · refine ⟨R, fun h c => ⟨h, scA_rf h, ?_⟩, fun h m => ⟨_, scB_0 h, ?_⟩⟩
      · rw [hf, xg_P1 c w ha, xg_L0 c w pf]
      · have m1 := m.B hnp (scB_0 h)
        rw [hg, rg_P1 m1.1 hnp ha, rg_L0 m1.1 hnf pf]
  · refine ⟨R, fun h c => ⟨h, scA_rf h, ?_⟩, fun h m => ⟨_, scB_0 h, ?_⟩⟩
    · rw [hf, xg_P0 c w pa]
    · rw [hg, rg_P0 (m.B hnp (scB_0 h)).1 pa]
theorem Eqv_P {f g : HH → Option (α × HH)} (a0 : Int32) (R : α) (KC KM : Int32 → HH → Option (α × HH))
    (hf : ∀ h, f h = bnd (g_X10_isPerson a0 h) fun r2 h1 => if r2 = 0 then some (R, h1) else KC a0 h1)
    (hg : ∀ h, g h = bnd (g_X11_isPerson a0 (wrI h 255 0 0)) fun r2 h1 => if r2 = 0 then some (R, h1) else KM a0 h1)
    (H : ∀ P S nf np nl ng a, PW P nf np nl ng → sG S nf np → a < np → ∃ v : α, (∀ h, RC1 h P S → ∃ h', scA h h' ∧ KC (nI a) h = some (v, h')) ∧ ∀ h, RM1 h P S nf np nl ng → ∃ h', scB h h' ∧ KM (nI a) h = some (v, h')) : Eqv f g := by
  refine Eqv_q fun P S nf np nl ng w s => ?_
  have hnp : np ≤ 6 := w.1.2.1
  by_cases pa : prs a0 np
  · obtain ⟨a, ha, rfl⟩ := pa
    obtain ⟨v, H1, H2⟩ := H P S nf np nl ng a w s ha
    refine ⟨v, fun h c => ?_, fun h m => ?_⟩
    · obtain ⟨h', s1, e1⟩ := H1 h c
      exact ⟨h', s1, by rw [hf, xg_P1 c w ha]; exact e1⟩
    · have m1 := m.B hnp (scB_0 h)
      obtain ⟨h', s1, e1⟩ := H2 _ m1
      exact ⟨h', (scB_0 h).tr s1, by rw [hg, rg_P1 m1.1 hnp ha]; exact e1⟩
  · refine ⟨R, fun h c => ⟨h, scA_rf h, ?_⟩, fun h m => ⟨_, scB_0 h, ?_⟩⟩
    · rw [hf, xg_P0 c w pa]
    · rw [hg, rg_P0 (m.B hnp (scB_0 h)).1 pa]
end GD
/-! tally, level -/
theorem c_tally (a0 a1 : Int32) : Eqv (g_X10_tally a0 a1) (g_X11_tally a0 a1) := by
  refine Eqv_PF a0 a1 (-2147483648) (fun a0 a1 h3 => bnd (g_X10_cell a0 a1 h3) fun r6 h5 => ldI h5 57 36 r6 fun v7 => some (v7, h5)) (fun a0 a1 h2 => bnd (g_X11_tallyAt (0 : Int32) a0 a1 h2) fun r5 h4 => some (r5, h4)) (fun _ => rfl) (fun _ => rfl) fun P S nf np nl ng a f w s ha hf => ?_
  have hnf : nf ≤ 6 := w.1.1
  have hnp : np ≤ 6 := w.1.2.1
  refine ⟨S 5 (6 * a + f), fun h c => ⟨h, scA_rf h, ?_⟩, fun h m => ⟨h, scB_rf h, ?_⟩⟩
  · rw [x_cell, bnd_some, ldI_of (by omega) (by decide), c.s 5 _ (by decide)]
  · have e := r_tally (s := 0) m.2.1 (by decide) (a := a) (f := f) (by omega) (by omega)
    have e' : g_X11_tallyAt 0 (nI a) (nI f) h = _ := e
    rw [e', bnd_some]
theorem lv_L {P S : TB} {nf np nl ng : Nat} (w : PW P nf np nl ng) {a : Nat} (ha : a < np) : ∀ (m i n1 n2 : Nat) (x : Int32), i + m = nf → m < n1 → m < n2 → ∃ v : Int32, (∀ h, RC1 h P S → g_X10_level_L14 (nI a) n1 x (nI i) h = some (v, h)) ∧ ∀ h, RM1 h P S nf np nl ng → g_X11_level_L19 (nI a) n2 x (nI i) h = some (v, h) := by
  have hnf : nf ≤ 6 := w.1.1
  have hnp : np ≤ 6 := w.1.2.1
  intro m
  induction m with
  | zero =>
    intro i n1 n2 x hi h1 h2
    obtain ⟨n1, rfl⟩ : ∃ n', n1 = n' + 1 := ⟨n1 - 1, by omega⟩
    obtain ⟨n2, rfl⟩ : ∃ n', n2 = n' + 1 := ⟨n2 - 1, by omega⟩
    refine ⟨x, fun h c => ?_, fun h m => ?_⟩
    · obtain ⟨p, hp, c1, sp, c3⟩ := c.p
      rw [g_X10_level_L14]
      simp only [gfR, gfI]
      rw [c1, ckH_of sp, show h.1 p 0 = nI nf from (c3 0 0 (by decide)).trans w.1.2.2.2.2.2.1, if_neg (nI_nlt (by omega) (by omega))]
    · rw [g_X11_level_L19, ldI_0 (by decide) (by decide), m.1.1, if_neg (nI_nlt (by omega) (by omega))]
  | succ m ih =>
    intro i n1 n2 x hi h1 h2
    obtain ⟨n1, rfl⟩ : ∃ n', n1 = n' + 1 := ⟨n1 - 1, by omega⟩
    obtain ⟨n2, rfl⟩ : ∃ n', n2 = n' + 1 := ⟨n2 - 1, by omega⟩
    obtain ⟨v, v1, v2⟩ := ih (i + 1) n1 n2 (x + mxI 0 (S 5 (6 * a + i))) (by omega) (by omega) (by omega)
    refine ⟨v, fun h c => ?_, fun h m => ?_⟩
    · obtain ⟨p, hp, c1, sp, c3⟩ := c.p
      rw [g_X10_level_L14]
      simp only [gfR, gfI, vl, nI_1]
      rw [c1, ckH_of sp, show h.1 p 0 = nI nf from (c3 0 0 (by decide)).trans w.1.2.2.2.2.2.1, if_pos (nI_lt (by omega) (by omega)), x_cell, bnd_some, ldI_of (by omega) (by decide), c.s 5 _ (by decide)]
      exact v1 h c
    · have e := r_tally (s := 0) m.2.1 (by decide) (a := a) (f := i) (by omega) (by omega)
      have e' : g_X11_tallyAt 0 (nI a) (nI i) h = _ := e
      rw [g_X11_level_L19, ldI_0 (by decide) (by decide), m.1.1, if_pos (nI_lt (by omega) (by omega)), e', bnd_some]
      simp only [vl, nI_1]
      exact v2 h m
theorem c_level (a0 : Int32) : Eqv (g_X10_level a0) (g_X11_level a0) := by
  refine Eqv_P a0 (-1) (fun a0 h1 => g_X10_level_L14 a0 1024 0 0 h1) (fun a0 h1 => g_X11_level_L19 a0 1024 0 0 h1) (fun _ => rfl) (fun _ => rfl) fun P S nf np nl ng a w s ha => ?_
  have hnf : nf ≤ 6 := w.1.1
  obtain ⟨v, v1, v2⟩ := lv_L (S := S) w ha nf 0 1024 1024 0 (by omega) (by omega) (by omega)
  exact ⟨v, fun h c => ⟨h, scA_rf h, v1 h c⟩, fun h m => ⟨h, scB_rf h, v2 h m⟩⟩
/-! fault, named -/
theorem c_fault (a0 : Int32) : Eqv (g_X10_fault a0) (g_X11_fault a0) := by
  refine Eqv_u fun P S nf np nl ng im pa nN nb nT tl tp fk fp w y => ?_
  refine ⟨if a0 = 0 then fk else if a0 = 1 then fp else -1, P, S, nf, np, nl, ng, im, pa, nN, nb, nT, tl, tp, fk, fp, w, fun h c => ⟨h, fM_rf h, ?_, c⟩, fun h m => ⟨wrI h 255 0 0, (scB_0 h).C, ?_, ?_⟩⟩
  · obtain ⟨c1, c2, c3⟩ := c.2.2.2.2.2
    unfold g_X10_fault
    simp only [gfI]
    rw [c1]
    by_cases k0 : a0 = 0
    · rw [if_pos k0, if_pos k0]
    · rw [if_neg k0, if_neg k0]
      by_cases k1 : a0 = 1
      · rw [if_pos k1, if_pos k1]
        by_cases kf : fk = 0
        · rw [if_pos kf, c3 kf]
        · rw [if_neg kf, c2 kf]
      · rw [if_neg k1, if_neg k1]
  · obtain ⟨m1, m2⟩ := m.2.2.2.2.2
    unfold g_X11_fault
    simp only [gfI, pfI]
    rw [show (wrI h 255 0 0).1 255 29 = fk by rw [wrI_1, if_neg (by decide), m1], show (wrI h 255 0 0).1 255 30 = fp by rw [wrI_1, if_neg (by decide), m2]]
    by_cases k0 : a0 = 0
    · rw [if_pos k0, if_pos k0]
    · rw [if_neg k0, if_neg k0]
      by_cases k1 : a0 = 1
      · rw [if_pos k1, if_pos k1]
      · rw [if_neg k1, if_neg k1]
  · exact RelM.X m w.np y.2.2.1 (fun a k u => (scB_0 h).1 a k (Or.inr u))
/-- a name's number -/
def fdA (f : Nat → Int32) (x : Int32) : Nat → Nat → Int32
  | 0, _ => -1
  | m + 1, i => if f i = x then nI i else fdA f x m (i + 1)
theorem x_personOf_L {p : Nat} {h : HH} {n : Nat} (e2 : h.1 p 2 = nI n) (hn : n ≤ 6) (x : Int32) : ∀ (m i N : Nat), i + m = n → m < N → g_X5_personOf_L2 p x N (nI i) h = some (fdA (h.1 (p + 2)) x m i, h) := by
  intro m
  induction m with
  | zero =>
    intro i N hi hN
    obtain ⟨N, rfl⟩ : ∃ n', N = n' + 1 := ⟨N - 1, by omega⟩
    rw [g_X5_personOf_L2]
    simp only [gfI]
    rw [e2, if_neg (nI_nlt (by omega) (by omega))]
    rfl
  | succ m ih =>
    intro i N hi hN
    obtain ⟨N, rfl⟩ : ∃ n', N = n' + 1 := ⟨N - 1, by omega⟩
    rw [g_X5_personOf_L2]
    simp only [gfI, vl, nI_1]
    rw [e2, if_pos (nI_lt (by omega) (by omega)), ldI_of (by omega) (by decide), fdA]
    by_cases k : h.1 (p + 2) i = x
    · rw [if_pos k, if_pos k]
    · rw [if_neg k, if_neg k]; exact ih (i + 1) N (by omega) (by omega)
theorem x_personOf {p : Nat} (sp : shL[p]? = some (.inl 5)) {h : HH} {n : Nat} (e2 : h.1 p 2 = nI n) (hn : n ≤ 6) (x : Int32) : g_X5_personOf p x h = some (fdA (h.1 (p + 2)) x n 0, h) := by
  obtain ⟨N, hN⟩ : ∃ N : Nat, N = 1024 := ⟨_, rfl⟩
  unfold g_X5_personOf
  rw [ckH_of sp, ← hN]
  exact x_personOf_L e2 hn x n 0 N (by omega) (by omega)
theorem r_found_L {h : HH} {b n : Nat} (hn : n ≤ 6) (hb : b ≤ 6) (x : Int32) : ∀ (m i N : Nat), i + m = n → m < N → g_X11_found_L3 (nI b) (nI n) x N (nI i) h = some (fdA (fun k => h.1 259 (b + k)) x m i, h) := by
  intro m
  induction m with
  | zero =>
    intro i N hi hN
    obtain ⟨N, rfl⟩ : ∃ n', N = n' + 1 := ⟨N - 1, by omega⟩
    rw [g_X11_found_L3, if_neg (nI_nlt (by omega) (by omega))]
    rfl
  | succ m ih =>
    intro i N hi hN
    obtain ⟨N, rfl⟩ : ∃ n', N = n' + 1 := ⟨N - 1, by omega⟩
    rw [g_X11_found_L3, if_pos (nI_lt (by omega) (by omega)), nI_add, ldI_of (by omega) (by decide), fdA]
    simp only [vl, nI_1]
    by_cases k : h.1 259 (b + i) = x
    · rw [if_pos k, if_pos k]
    · rw [if_neg k, if_neg k]; exact ih (i + 1) N (by omega) (by omega)
theorem r_found {h : HH} {b n : Nat} (hn : n ≤ 6) (hb : b ≤ 6) (x : Int32) : g_X11_found (nI b) (nI n) x h = some (fdA (fun k => h.1 259 (b + k)) x n 0, h) := by
  obtain ⟨N, hN⟩ : ∃ N : Nat, N = 1024 := ⟨_, rfl⟩
  unfold g_X11_found
  rw [← hN]
  exact r_found_L hn hb x n 0 N (by omega) (by omega)
theorem fdA_eq {f g : Nat → Int32} (x : Int32) : ∀ (m i : Nat), (∀ k, i ≤ k → k < i + m → f k = g k) → fdA f x m i = fdA g x m i
  | 0, _, _ => rfl
  | m + 1, i, h => by
    unfold fdA
    rw [h i (Nat.le_refl _) (by omega), fdA_eq x m (i + 1) (fun k h1 h2 => h k (by omega) (by omega))]
theorem c_named (a0 : Int32) : Eqv (g_X10_named a0) (g_X11_named a0) := by
  refine Eqv_q fun P S nf np nl ng w s => ?_
  have hnp : np ≤ 6 := w.1.2.1
  refine ⟨fdA (P 2) a0 np 0, fun h c => ⟨h, scA_rf h, ?_⟩, fun h m => ⟨_, scB_0 h, ?_⟩⟩
  · obtain ⟨p, hp, c1, sp, c3⟩ := c.p
    unfold g_X10_named
    simp only [gfR]
    rw [c1, ckH_of sp, x_personOf sp ((c3 0 2 (by decide)).trans w.2.2.1) hnp, bnd_some, fdA_eq (g := P 2) a0 np 0 (fun k _ _ => c3 2 k (by decide))]
  · have m1 := m.B hnp (scB_0 h)
    have e := r_found (h := wrI h 255 0 0) (b := 0) hnp (by decide) a0
    have e' : g_X11_found 0 (nI np) a0 (wrI h 255 0 0) = _ := e
    unfold g_X11_named
    simp only [pfI]
    rw [ldI_1 (by decide) (by decide), m1.1.2.1, e', bnd_some, fdA_eq (g := P 2) a0 np 0 (fun k _ hk => by rw [Nat.zero_add]; exact (m1.2.2.2.2.2.1 k (by omega)).1)]
