/-! a call of both: the same answer, and all holds again -/
def scA (h h' : HH) : Prop := (∀ a k, (a < 192 ∨ a = 224 ∨ 255 ≤ a) → h'.1 a k = h.1 a k) ∧ ∀ j, j < 2 → h'.2.2 j = h.2.2 j
def kM (a k : Nat) : Prop := (a = 255 ∧ (k = 2 ∨ k = 29 ∨ k = 30 ∨ k = 43 ∨ k = 44 ∨ k = 45 ∨ k = 48 ∨ k = 49 ∨ k = 56 ∨ k = 57)) ∨ (256 ≤ a ∧ a ≤ 273) ∨ (∃ s, s ≠ 1 ∧ s < 23 ∧ inH s a k) ∨ (288 ≤ a ∧ a ≤ 292)
def scB (h h' : HH) : Prop := (∀ a k, a < 255 ∨ kM a k → h'.1 a k = h.1 a k) ∧ ∀ j, j < 2 → h'.2.2 j = h.2.2 j
theorem scA_rf (h : HH) : scA h h := ⟨fun _ _ _ => rfl, fun _ _ => rfl⟩
theorem scB_rf (h : HH) : scB h h := ⟨fun _ _ _ => rfl, fun _ _ => rfl⟩
theorem scA.tr {a b c : HH} (s : scA a b) (t : scA b c) : scA a c := ⟨fun x k u => (t.1 x k u).trans (s.1 x k u), fun j hj => (t.2 j hj).trans (s.2 j hj)⟩
theorem scB.tr {a b c : HH} (s : scB a b) (t : scB b c) : scB a c := ⟨fun x k u => (t.1 x k u).trans (s.1 x k u), fun j hj => (t.2 j hj).trans (s.2 j hj)⟩
def RelW (P S : TB) (nf np nl ng : Nat) (im : Option TB) (pa : List TB) (nN : Nat) (nb : Int32) (nT : TB) : Prop := PW P nf np nl ng ∧ sG S nf np ∧ (∀ I, im = some I → sG I nf np) ∧ (∀ I ∈ pa, sG I nf np) ∧ NW nf np nN nb nT
def RelC (h : HH) (P S : TB) (im : Option TB) (pa : List TB) (nN : Nat) (nb : Int32) (nT : TB) (tl : Nat) (tp : Nat → Nat) (fk fp : Int32) : Prop := RC1 h P S ∧ RC2 h im ∧ RC3 h pa ∧ RC4 h nN nb nT ∧ RC5 h tl tp ∧ RC6 h fk fp
def RelM (h : HH) (P S : TB) (nf np nl ng : Nat) (im : Option TB) (pa : List TB) (nN : Nat) (nb : Int32) (nT : TB) (tl : Nat) (tp : Nat → Nat) (fk fp : Int32) : Prop := RM1 h P S nf np nl ng ∧ RM2 h np im ∧ RM3 h np pa ∧ RM4 h nN nb nT ∧ RM5 h tl tp ∧ RM6 h fk fp
theorem RelC.X {h h' : HH} {P S : TB} {im : Option TB} {pa : List TB} {nN : Nat} {nb : Int32} {nT : TB} {tl : Nat} {tp : Nat → Nat} {fk fp : Int32} (c : RelC h P S im pa nN nb nT tl tp fk fp) (e : ∀ a k, a < 192 ∨ a = 224 → h'.1 a k = h.1 a k) (e2 : ∀ j, j < 2 → h'.2.2 j = h.2.2 j) : RelC h' P S im pa nN nb nT tl tp fk fp :=
  ⟨c.1.X (fun a k u => e a k (by omega)) e2, c.2.1.X fun a k u => e a k (by omega), c.2.2.1.X fun a k u => e a k (by omega), c.2.2.2.1.X fun a k u => e a k (by omega), c.2.2.2.2.1.X fun a k u => e a k (by omega), c.2.2.2.2.2.X fun a k u => e a k (by omega)⟩
theorem RelM.X {h h' : HH} {P S : TB} {nf np nl ng : Nat} {im : Option TB} {pa : List TB} {nN : Nat} {nb : Int32} {nT : TB} {tl : Nat} {tp : Nat → Nat} {fk fp : Int32} (c : RelM h P S nf np nl ng im pa nN nb nT tl tp fk fp) (hnp : np ≤ 6) (hl : pa.length ≤ 20) (e : ∀ a k, kM a k → h'.1 a k = h.1 a k) : RelM h' P S nf np nl ng im pa nN nb nT tl tp fk fp :=
  ⟨c.1.X hnp fun a k u => e a k (by
      rcases u with u | u | u
      · unfold kM; omega
      · unfold kM; omega
      · exact Or.inr (Or.inr (Or.inl ⟨0, by decide, by decide, u⟩))), c.2.1.X hnp fun a k u => e a k (by
      rcases u with u | u
      · unfold kM; omega
      · exact Or.inr (Or.inr (Or.inl ⟨2, by decide, by decide, u⟩))), c.2.2.1.X hnp (fun a k u => e a k (by
      rcases u with u | ⟨s, s1, s2, u⟩
      · unfold kM; omega
      · exact Or.inr (Or.inr (Or.inl ⟨s, by omega, s2, u⟩)))) hl, c.2.2.2.1.X fun a k u => e a k (by unfold kM; omega), c.2.2.2.2.1.X fun a k u => e a k (by unfold kM; omega), c.2.2.2.2.2.X fun a k u => e a k (by unfold kM; omega)⟩
theorem RelW.np {P S : TB} {nf np nl ng : Nat} {im : Option TB} {pa : List TB} {nN : Nat} {nb : Int32} {nT : TB} (w : RelW P S nf np nl ng im pa nN nb nT) : np ≤ 6 := w.1.1.2.1
theorem RC3.l {h : HH} {pa : List TB} (c : RC3 h pa) : pa.length ≤ 20 := by obtain ⟨nx, c1, c2, c3, c4, c5⟩ := c; exact c4
/-- the two calls, one behind the other -/
def Eqv {α : Type} (f g : HH → Option (α × HH)) : Prop := ∀ h, Rel h → ∃ r h1 h2, f h = some (r, h1) ∧ g h1 = some (r, h2) ∧ Rel h2
theorem Eqv_q {α : Type} {f g : HH → Option (α × HH)} (H : ∀ P S nf np nl ng, PW P nf np nl ng → sG S nf np → ∃ v : α, (∀ h, RC1 h P S → ∃ h', scA h h' ∧ f h = some (v, h')) ∧ ∀ h, RM1 h P S nf np nl ng → ∃ h', scB h h' ∧ g h = some (v, h')) : Eqv f g := by
  intro h ⟨P, S, nf, np, nl, ng, im, pa, nN, nb, nT, tl, tp, fk, fp, w, c, m⟩
  obtain ⟨v, H1, H2⟩ := H P S nf np nl ng w.1 w.2.1
  obtain ⟨h1, a1, e1⟩ := H1 h c.1
  have c1 := RelC.X c (fun a k u => a1.1 a k (by omega)) a1.2
  have hnp : np ≤ 6 := w.1.1.2.1
  have m1 := RelM.X m hnp c.2.2.1.l (fun a k u => a1.1 a k (by
    rcases u with u | u | ⟨s, _, _, u⟩ | u
    · omega
    · omega
    · unfold inH at u; omega
    · omega))
  obtain ⟨h2, b2, e2⟩ := H2 h1 m1.1
  refine ⟨v, h1, h2, e1, e2, P, S, nf, np, nl, ng, im, pa, nN, nb, nT, tl, tp, fk, fp, w, ?_, ?_⟩
  · exact RelC.X c1 (fun a k u => b2.1 a k (by omega)) b2.2
  · exact RelM.X m1 hnp c.2.2.1.l (fun a k u => b2.1 a k (Or.inr u))
/-- one of so many -/
def prs (a : Int32) (n : Nat) : Prop := ∃ k, k < n ∧ a = nI k
theorem prs_n {a : Int32} {n : Nat} (h : ¬ prs a n) (h0 : ¬ a < 0) : ¬ a < nI n := by
  obtain ⟨j, hj, rfl⟩ := nI_of h0
  intro q
  by_cases k : j < n
  · exact h ⟨j, k, rfl⟩
  · exact nI_nlt (by omega) hj q
theorem prs_n1 {a : Int32} {n : Nat} (h : ¬ prs a (n + 1)) (h0 : ¬ a < 0) (hn : n < 2 ^ 31) : nI n < a := by
  obtain ⟨j, hj, rfl⟩ := nI_of h0
  by_cases k : j < n + 1
  · exact absurd ⟨j, k, rfl⟩ h
  · exact nI_lt (by omega) hj
section SB
variable {h : HH} {P S : TB} {nf np nl ng : Nat}
theorem x_isP1 (c : RC1 h P S) (w : PW P nf np nl ng) {a : Nat} (ha : a < np) : g_X10_isPerson (nI a) h = some (1, h) := by
  obtain ⟨p, hp, c1, c2, c3, c4, c5⟩ := c
  have hnp : np ≤ 6 := w.1.2.1
  have e : h.1 p 2 = nI np := (c3 0 2 (by decide)).trans w.2.2.1
  have sp : shL[p]? = some (.inl 5) := by rcases hp with rfl | rfl; exact sh_2; exact sh_30
  unfold g_X10_isPerson
  simp only [gfR, gfI]
  rw [if_neg (nI_pos (by omega)), c1, ckH_of sp, e, if_pos (nI_lt ha (by omega))]
theorem x_isP0 (c : RC1 h P S) (w : PW P nf np nl ng) {a : Int32} (ha : ¬ prs a np) : g_X10_isPerson a h = some (0, h) := by
  obtain ⟨p, hp, c1, c2, c3, c4, c5⟩ := c
  have e : h.1 p 2 = nI np := (c3 0 2 (by decide)).trans w.2.2.1
  have sp : shL[p]? = some (.inl 5) := by rcases hp with rfl | rfl; exact sh_2; exact sh_30
  unfold g_X10_isPerson
  simp only [gfR, gfI]
  by_cases a0 : a < 0
  · rw [if_pos a0]
  · rw [if_neg a0, c1, ckH_of sp, e, if_neg (prs_n ha a0)]
theorem x_isF1 (c : RC1 h P S) (w : PW P nf np nl ng) {a : Nat} (ha : a < nf) : g_X10_isFlight (nI a) h = some (1, h) := by
  obtain ⟨p, hp, c1, c2, c3, c4, c5⟩ := c
  have hnf : nf ≤ 6 := w.1.1
  have e : h.1 p 0 = nI nf := (c3 0 0 (by decide)).trans w.1.2.2.2.2.2.1
  have sp : shL[p]? = some (.inl 5) := by rcases hp with rfl | rfl; exact sh_2; exact sh_30
  unfold g_X10_isFlight
  simp only [gfR, gfI]
  rw [if_neg (nI_pos (by omega)), c1, ckH_of sp, e, if_pos (nI_lt ha (by omega))]
theorem x_isF0 (c : RC1 h P S) (w : PW P nf np nl ng) {a : Int32} (ha : ¬ prs a nf) : g_X10_isFlight a h = some (0, h) := by
  obtain ⟨p, hp, c1, c2, c3, c4, c5⟩ := c
  have e : h.1 p 0 = nI nf := (c3 0 0 (by decide)).trans w.1.2.2.2.2.2.1
  have sp : shL[p]? = some (.inl 5) := by rcases hp with rfl | rfl; exact sh_2; exact sh_30
  unfold g_X10_isFlight
  simp only [gfR, gfI]
  by_cases a0 : a < 0
  · rw [if_pos a0]
  · rw [if_neg a0, c1, ckH_of sp, e, if_neg (prs_n ha a0)]
theorem x_isL1 (c : RC1 h P S) (w : PW P nf np nl ng) {a : Nat} (ha : a < nf + 1) : g_X10_isFloor (nI a) h = some (1, h) := by
  obtain ⟨p, hp, c1, c2, c3, c4, c5⟩ := c
  have hnf : nf ≤ 6 := w.1.1
  have e : h.1 p 0 = nI nf := (c3 0 0 (by decide)).trans w.1.2.2.2.2.2.1
  have sp : shL[p]? = some (.inl 5) := by rcases hp with rfl | rfl; exact sh_2; exact sh_30
  unfold g_X10_isFloor
  simp only [gfR, gfI]
  rw [if_neg (nI_pos (by omega)), c1, ckH_of sp, e, if_neg (nI_nlt (by omega) (by omega))]
theorem x_isL0 (c : RC1 h P S) (w : PW P nf np nl ng) {a : Int32} (ha : ¬ prs a (nf + 1)) : g_X10_isFloor a h = some (0, h) := by
  obtain ⟨p, hp, c1, c2, c3, c4, c5⟩ := c
  have hnf : nf ≤ 6 := w.1.1
  have e : h.1 p 0 = nI nf := (c3 0 0 (by decide)).trans w.1.2.2.2.2.2.1
  have sp : shL[p]? = some (.inl 5) := by rcases hp with rfl | rfl; exact sh_2; exact sh_30
  unfold g_X10_isFloor
  simp only [gfR, gfI]
  by_cases a0 : a < 0
  · rw [if_pos a0]
  · rw [if_neg a0, c1, ckH_of sp, e, if_pos (prs_n1 ha a0 (by omega))]
theorem ldI_1 {β : Type} {h : HH} {a n : Nat} (hk : 1 < n) (hn : n < 2 ^ 31) (K : Int32 → Option β) : ldI h a n (1 : Int32) K = K (h.1 a 1) := ldI_of (k := 1) hk hn K
theorem ldI_0 {β : Type} {h : HH} {a n : Nat} (hk : 0 < n) (hn : n < 2 ^ 31) (K : Int32 → Option β) : ldI h a n (0 : Int32) K = K (h.1 a 0) := ldI_of (k := 0) hk hn K
theorem r_isP1 (m : MP h P nf np nl ng) (hnp : np ≤ 6) {a : Nat} (ha : a < np) : g_X11_isPerson (nI a) h = some (1, h) := by
  unfold g_X11_isPerson
  rw [if_neg (nI_pos (by omega)), ldI_1 (by decide) (by decide), m.2.1, if_pos (nI_lt ha (by omega))]
theorem r_isP0 (m : MP h P nf np nl ng) {a : Int32} (ha : ¬ prs a np) : g_X11_isPerson a h = some (0, h) := by
  unfold g_X11_isPerson
  by_cases a0 : a < 0
  · rw [if_pos a0]
  · rw [if_neg a0, ldI_1 (by decide) (by decide), m.2.1, if_neg (prs_n ha a0)]
theorem r_isF1 (m : MP h P nf np nl ng) (hnf : nf ≤ 6) {a : Nat} (ha : a < nf) : g_X11_isFlight (nI a) h = some (1, h) := by
  unfold g_X11_isFlight
  rw [if_neg (nI_pos (by omega)), ldI_0 (by decide) (by decide), m.1, if_pos (nI_lt ha (by omega))]
theorem r_isF0 (m : MP h P nf np nl ng) {a : Int32} (ha : ¬ prs a nf) : g_X11_isFlight a h = some (0, h) := by
  unfold g_X11_isFlight
  by_cases a0 : a < 0
  · rw [if_pos a0]
  · rw [if_neg a0, ldI_0 (by decide) (by decide), m.1, if_neg (prs_n ha a0)]
theorem r_isL1 (m : MP h P nf np nl ng) (hnf : nf ≤ 6) {a : Nat} (ha : a < nf + 1) : g_X11_isFloor (nI a) h = some (1, h) := by
  unfold g_X11_isFloor
  rw [if_neg (nI_pos (by omega)), ldI_0 (by decide) (by decide), m.1, if_neg (nI_nlt (by omega) (by omega))]
theorem r_isL0 (m : MP h P nf np nl ng) (hnf : nf ≤ 6) {a : Int32} (ha : ¬ prs a (nf + 1)) : g_X11_isFloor a h = some (0, h) := by
  unfold g_X11_isFloor
  by_cases a0 : a < 0
  · rw [if_pos a0]
  · rw [if_neg a0, ldI_0 (by decide) (by decide), m.1, if_pos (prs_n1 ha a0 (by omega))]
theorem r_of1 (m : MP h P nf np nl ng) (hnf : nf ≤ 6) (hnp : np ≤ 6) {a f : Nat} (ha : a < np) (hf : f < nf) : g_X11_areOf (nI a) (nI f) h = some (1, h) := by
  unfold g_X11_areOf
  rw [r_isP1 m hnp ha, bnd_some, if_neg (by decide), r_isF1 m hnf hf, bnd_some, if_neg (by decide)]
theorem r_of0 (m : MP h P nf np nl ng) (hnf : nf ≤ 6) (hnp : np ≤ 6) {a f : Int32} (hn : ¬ (prs a np ∧ prs f nf)) : g_X11_areOf a f h = some (0, h) := by
  unfold g_X11_areOf
  by_cases pa : prs a np
  · have pf : ¬ prs f nf := fun q => hn ⟨pa, q⟩
    obtain ⟨k, hk, rfl⟩ := pa
    rw [r_isP1 m hnp hk, bnd_some, if_neg (by decide), r_isF0 m pf, bnd_some, if_pos rfl]
  · rw [r_isP0 m pa, bnd_some, if_pos rfl]
/-- the course begins over the plan that holds and a state -/
theorem x_begin {p q md : Nat} (hp : p = 2 ∨ p = 30) (hq : q = 52 ∨ q = 196) (hmd : md ≤ 2) {T : TB} (c3 : CP h p P) (c4 : CS h q T) (w : PW P nf np nl ng) :
    ∃ h', g_X0_begin p q (nI md) h = some ((), h') ∧ cAt h' p q (p + 3) P T (P 3) np md ∧ h'.1 193 7 = -1 ∧ h'.1 193 8 = 0 ∧ (∀ a k, a ≠ 193 → h'.1 a k = h.1 a k) ∧ h'.2.1 = h.2.1 ∧ ∀ j, j < 2 → h'.2.2 j = h.2.2 j := by
  have sp : shL[p]? = some (.inl 5) := by rcases hp with rfl | rfl; exact sh_2; exact sh_30
  have sq : shL[q]? = some (.inl 7) := by rcases hq with rfl | rfl; exact sh_52; exact sh_196
  have sz : shL[p + 3]? = some (.inr (0, 6, 0)) := by rcases hp with rfl | rfl; exact sh_5; exact sh_33
  refine ⟨wrR (wrI (wrI (wrI (wrR (wrR h 2 p) 3 q) 193 6 (nI md)) 193 7 (-1)) 193 8 0) 4 (p + 3), by unfold g_X0_begin; rw [ckH_of sp, ckH_of sq]; rfl, ?_, ?_, ?_, ?_, rfl, ?_⟩
  · have e : ∀ a k, a ≠ 193 → (wrR (wrI (wrI (wrI (wrR (wrR h 2 p) 3 q) 193 6 (nI md)) 193 7 (-1)) 193 8 0) 4 (p + 3)).1 a k = h.1 a k := by
      intro a k ha
      rw [wrR_1, wrI_1, if_neg (fun e => ha e.1), wrI_1, if_neg (fun e => ha e.1), wrI_1, if_neg (fun e => ha e.1), wrR_1, wrR_1]
    refine ⟨?_, ?_, ?_, sp, sq, sz, fun o k ho => ?_, fun o k ho => ?_, ?_, w.2.2.1, w.1.2.1, w.2.1, ?_, hmd, hp, hq, Or.inl rfl⟩
    · rw [wrR_3, if_neg (by decide)]
      show (wrR (wrR h 2 p) 3 q).2.2 2 = p
      rw [wrR_3, if_neg (by decide), wrR_3, if_pos rfl]
    · rw [wrR_3, if_neg (by decide)]
      show (wrR (wrR h 2 p) 3 q).2.2 3 = q
      rw [wrR_3, if_pos rfl]
    · rw [wrR_3, if_pos rfl]
    · rw [e _ _ (by omega)]; exact c3 o k ho
    · rw [e _ _ (by omega)]; exact c4 o k ho
    · funext k
      rw [e _ _ (by omega)]; exact c3 3 k (by decide)
    · rw [wrR_1, wrI_1, if_neg (by decide), wrI_1, if_neg (by decide), wrI_at]
  · rw [wrR_1, wrI_1, if_neg (by decide), wrI_at]
  · rw [wrR_1, wrI_at]
  · intro a k ha
    rw [wrR_1, wrI_1, if_neg (fun e => ha e.1), wrI_1, if_neg (fun e => ha e.1), wrI_1, if_neg (fun e => ha e.1), wrR_1, wrR_1]
  · intro j hj
    rw [wrR_3, if_neg (by omega)]
    show (wrR (wrR h 2 p) 3 q).2.2 j = _
    rw [wrR_3, if_neg (by omega), wrR_3, if_neg (by omega)]
theorem x_look (c : RC1 h P S) (w : PW P nf np nl ng) : ∃ p h', scA h h' ∧ RC1 h' P S ∧ cAt h' p 52 (p + 3) P S (P 3) np 2 ∧ h'.1 193 7 = -1 ∧ h'.1 193 8 = 0 ∧ h'.2.2 0 = p ∧ g_X10_lookAtNow h = some ((), h') := by
  obtain ⟨p, hp, c1, c2, c3, c4, c5⟩ := id c
  have sp : shL[p]? = some (.inl 5) := by rcases hp with rfl | rfl; exact sh_2; exact sh_30
  obtain ⟨h1, e1, k1, k7, k8, s1, s2, s3⟩ := x_begin hp (Or.inl rfl) (md := 2) (by decide) c3 c4 w
  refine ⟨p, h1, ⟨fun a k u => s1 a k (by omega), s3⟩, c.X (fun a k u => s1 a k (by omega)) s3, k1, k7, k8, (s3 0 (by decide)).trans c1, ?_⟩
  unfold g_X10_lookAtNow
  have e1' : g_X0_begin p 52 2 h = some ((), h1) := e1
  simp only [gfR]
  rw [c1, ckH_of sp, e1', bnd_some]
/-- nothing but what it works with -/
theorem cAt.A {p z md : Nat} {fo : Nat → Int32} {h' : HH} (c : cAt h p 52 z P S fo np md) (s : scQ 52 h h') (c' : cAt h' p 52 z P S fo np md) : ∀ a k, h'.1 a k = h.1 a k := by
  intro a k
  by_cases ha : 52 ≤ a ∧ a < 58
  · obtain ⟨o, ho, rfl⟩ : ∃ o, o < 6 ∧ a = 52 + o := ⟨a - 52, by omega, by omega⟩
    rw [c'.2.2.2.2.2.2.2.1 o k ho, c.2.2.2.2.2.2.2.1 o k ho]
  · exact s.1 a k (by omega)
theorem scA_all {h' : HH} (e : ∀ a k, h'.1 a k = h.1 a k) (e2 : h'.2.2 = h.2.2) : scA h h' := ⟨fun a k _ => e a k, fun j _ => by rw [e2]⟩
theorem scM.B {h' : HH} (e : scM h h') : scB h h' := ⟨fun a k u => e.1 a k (by
  rcases u with u | u | u | ⟨s, _, _, u⟩ | u
  · omega
  · omega
  · omega
  · unfold inH at u; omega
  · omega), fun j _ => by rw [e.2.2]⟩
theorem scB_0 (h : HH) : scB h (wrI h 255 0 0) := ⟨fun a k u => by
  rw [wrI_1, if_neg]
  rcases u with u | u | u | ⟨s, _, _, u⟩ | u
  · omega
  · omega
  · omega
  · unfold inH at u; omega
  · omega, fun _ _ => rfl⟩
theorem RM1.B {h' : HH} (m : RM1 h P S nf np nl ng) (hnp : np ≤ 6) (e : scB h h') : RM1 h' P S nf np nl ng := m.X hnp fun a k u => e.1 a k (by
  rcases u with u | u | u
  · unfold kM; omega
  · unfold kM; omega
  · exact Or.inr (Or.inr (Or.inr (Or.inl ⟨0, by decide, by decide, u⟩))))
theorem RM1.at (m : RM1 h P S nf np nl ng) (w : PW P nf np nl ng) : mAt h 0 P S (P 3) nf np nl ng :=
  ⟨m.1, m.2.1, fun a ha => by rw [m.2.2.2.1, if_neg (by decide)]; exact m.1.2.2.2.2.2.2.1 a ha, w.2.1, by decide, w.1.1, w.1.2.1⟩
end SB
/-! steep -/
theorem c_steep (a0 a1 : Int32) : Eqv (g_X10_steep a0 a1) (g_X11_steep a0 a1) := by
  refine Eqv_q fun P S nf np nl ng w s => ?_
  have hnf : nf ≤ 6 := w.1.1
  have hnp : np ≤ 6 := w.1.2.1
  by_cases hp : prs a0 np ∧ prs a1 nf
  · obtain ⟨⟨a, ha, rfl⟩, f, hf, rfl⟩ := hp
    refine ⟨stA P S (P 3) np a f 0, fun h c => ?_, fun h m => ?_⟩
    · obtain ⟨p, h1, s1, c1, k1, -, -, -, e1⟩ := x_look c w
      obtain ⟨h2, s2, k2, e2⟩ := k1.st (a := a) (f := f) (by omega) (by omega) 0
      refine ⟨h2, s1.tr (scA_all (k1.A s2 k2) s2.2.2), ?_⟩
      have e2' : g_X0_steepOf (nI a) (nI f) 0 h1 = _ := e2
      unfold g_X10_steep
      rw [x_isP1 c w ha, bnd_some, if_neg (by decide), x_isF1 c w hf, bnd_some, if_neg (by decide), e1, bnd_some, e2', bnd_some]
    · have m1 := m.B hnp (scB_0 h)
      obtain ⟨h2, s2, k2, e2⟩ := r_steepOf (m1.at w) ha hf
      refine ⟨h2, (scB_0 h).tr s2.B, ?_⟩
      have e2' : g_X11_steepOf 0 (nI a) (nI f) _ = _ := e2
      unfold g_X11_steep
      simp only [pfI]
      rw [r_of1 m1.1 hnf hnp ha hf, bnd_some, if_neg (by decide), e2', bnd_some]
  · refine ⟨-2147483648, fun h c => ?_, fun h m => ?_⟩
    · refine ⟨h, scA_rf h, ?_⟩
      unfold g_X10_steep
      by_cases pa : prs a0 np
      · have pf : ¬ prs a1 nf := fun q => hp ⟨pa, q⟩
        obtain ⟨k, hk, rfl⟩ := pa
        rw [x_isP1 c w hk, bnd_some, if_neg (by decide), x_isF0 c w pf, bnd_some, if_pos rfl]
      · rw [x_isP0 c w pa, bnd_some, if_pos rfl]
    · refine ⟨_, scB_0 h, ?_⟩
      unfold g_X11_steep
      simp only [pfI]
      rw [r_of0 (m.B hnp (scB_0 h)).1 hnf hnp hp, bnd_some, if_pos rfl]
