/-! calls that change what is: going, carrying, putting right, undoing, images -/
theorem Eqv_s {α : Type} {f g : HH → Option (α × HH)} (H : ∀ P S nf np nl ng im pa nN nb nT tl tp fk fp, RelW P S nf np nl ng im pa nN nb nT → RelY tl tp pa fk fp → ∀ h, RelC h P S im pa nN nb nT tl tp fk fp →
    ∃ (v : α) (h' : HH) (P' S' : TB) (nf' np' nl' ng' : Nat) (im' : Option TB) (pa' : List TB) (nN' : Nat) (nb' : Int32) (nT' : TB) (tl' : Nat) (tp' : Nat → Nat) (fk' fp' : Int32), fM h h' ∧ f h = some (v, h') ∧ RelW P' S' nf' np' nl' ng' im' pa' nN' nb' nT' ∧ RelC h' P' S' im' pa' nN' nb' nT' tl' tp' fk' fp' ∧
      (∀ h, RelM h P S nf np nl ng im pa nN nb nT tl tp fk fp → ∃ h', fC h h' ∧ g h = some (v, h') ∧ RelM h' P' S' nf' np' nl' ng' im' pa' nN' nb' nT' tl' tp' fk' fp')) : Eqv f g := by
  intro h ⟨P, S, nf, np, nl, ng, im, pa, nN, nb, nT, tl, tp, fk, fp, w, c, m⟩
  obtain ⟨v, h1, P', S', nf', np', nl', ng', im', pa', nN', nb', nT', tl', tp', fk', fp', a1, e1, w', c1, H2⟩ := H P S nf np nl ng im pa nN nb nT tl tp fk fp w ⟨c.2.2.2.2.1.2.1, fun i hi => (c.2.2.2.2.1.2.2 i hi).1, c.2.2.1.l, c.2.2.2.2.2.2.2⟩ h c
  have hnp : np ≤ 6 := w.1.1.2.1
  have m1 := RelM.X m hnp c.2.2.1.l (fun a k u => a1 a k (kM_ge u))
  obtain ⟨h2, b2, e2, m2⟩ := H2 h1 m1
  exact ⟨v, h1, h2, e1, e2, P', S', nf', np', nl', ng', im', pa', nN', nb', nT', tl', tp', fk', fp', w', RelC.X c1 (fun a k u => b2.1 a k (by omega)) b2.2, m2⟩
def frS (h h' : HH) : Prop := ∀ a k, (a < 2 ∨ (24 ≤ a ∧ a < 30) ∨ (58 ≤ a ∧ a < 64) ∨ (186 ≤ a ∧ a < 192)) → h'.1 a k = h.1 a k
def frT (h h' : HH) : Prop := ∀ a k, ((a = 255 ∧ (k = 2 ∨ k = 29 ∨ k = 30 ∨ k = 43 ∨ k = 56 ∨ k = 57)) ∨ a = 256 ∨ (288 ≤ a ∧ a ≤ 292) ∨ inH 2 a k) → h'.1 a k = h.1 a k
/-- only the state and the past change -/
theorem Eqv_S {α : Type} {f g : HH → Option (α × HH)} (H : ∀ P S nf np nl ng pa, PW P nf np nl ng → sG S nf np → (∀ I ∈ pa, sG I nf np) → pa.length ≤ 20 → ∀ h, RC1 h P S → RC3 h pa →
    ∃ (v : α) (h' : HH) (S' : TB) (pa' : List TB), f h = some (v, h') ∧ fM h h' ∧ frS h h' ∧ RC1 h' P S' ∧ RC3 h' pa' ∧ sG S' nf np ∧ (∀ I ∈ pa', sG I nf np) ∧
      ∀ h, RM1 h P S nf np nl ng → RM3 h np pa → ∃ h', g h = some (v, h') ∧ fC h h' ∧ frT h h' ∧ RM1 h' P S' nf np nl ng ∧ RM3 h' np pa') : Eqv f g := by
  refine Eqv_s fun P S nf np nl ng im pa nN nb nT tl tp fk fp w y h c => ?_
  obtain ⟨w1, w2, w3, w4, w5⟩ := w
  obtain ⟨c1, c2, c3, c4, c5, c6⟩ := c
  obtain ⟨v, h', S', pa', e, m1, s1, k1, k3, g1, g2, H2⟩ := H P S nf np nl ng pa w1 w2 w4 y.2.2.1 h c1 c3
  refine ⟨v, h', P, S', nf, np, nl, ng, im, pa', nN, nb, nT, tl, tp, fk, fp, m1, e, ⟨w1, g1, w3, g2, w5⟩, ⟨k1, c2.X fun a k u => s1 a k (by omega), k3, c4.X fun a k u => s1 a k (by omega), c5.X fun a k u => s1 a k (by omega), c6.X fun a k u => s1 a k (by omega)⟩, fun h m => ?_⟩
  obtain ⟨m1, m2, m3, m4, m5, m6⟩ := m
  obtain ⟨h2, e2, b1, b2, k2, k4⟩ := H2 h m1 m3
  exact ⟨h2, b1, e2, k2, m2.X w1.1.2.1 fun a k u => b2 a k (by rcases u with u | u; exact Or.inl (by omega); exact Or.inr (Or.inr (Or.inr u))), k4, m4.X fun a k u => b2 a k (by omega), m5.X fun a k u => b2 a k (by omega), m6.X fun a k u => b2 a k (by omega)⟩
theorem frS_rf (h : HH) : frS h h := fun _ _ _ => rfl
theorem frT_rf (h : HH) : frT h h := fun _ _ _ => rfl
theorem frS.tr {a b c : HH} (s : frS a b) (t : frS b c) : frS a c := fun x k u => (t x k u).trans (s x k u)
theorem frT.tr {a b c : HH} (s : frT a b) (t : frT b c) : frT a c := fun x k u => (t x k u).trans (s x k u)
theorem frT_0 (h : HH) : frT h (wrI h 255 0 0) := fun a k u => by
  rw [wrI_1, if_neg]
  rcases u with u | u | u | u
  · omega
  · omega
  · omega
  · unfold inH at u; omega
theorem RM3.B {h h' : HH} {np : Nat} {pa : List TB} (m : RM3 h np pa) (hnp : np ≤ 6) (hl : pa.length ≤ 20) (e : scB h h') : RM3 h' np pa := m.X hnp (fun a k u => e.1 a k (by
  rcases u with u | ⟨s, s1, s2, u⟩
  · unfold kM; omega
  · exact Or.inr (Or.inr (Or.inr (Or.inl ⟨s, by omega, s2, u⟩))))) hl
section SD
variable {α : Type}
theorem Eqv_SL {f g : HH → Option (α × HH)} (a0 a1 : Int32) (R : α) (KC KM : Int32 → Int32 → HH → Option (α × HH))
    (hf : ∀ h, f h = bnd (g_X10_isPerson a0 h) fun r2 h1 => if r2 = 0 then some (R, h1) else bnd (g_X10_isFloor a1 h1) fun r4 h3 => if r4 = 0 then some (R, h3) else KC a0 a1 h3)
    (hg : ∀ h, g h = bnd (g_X11_isPerson a0 (wrI h 255 0 0)) fun r2 h1 => if r2 = 0 then some (R, h1) else bnd (g_X11_isFloor a1 h1) fun r4 h3 => if r4 = 0 then some (R, h3) else KM a0 a1 h3)
    (H : ∀ P S nf np nl ng pa a t, PW P nf np nl ng → sG S nf np → (∀ I ∈ pa, sG I nf np) → pa.length ≤ 20 → a < np → t ≤ nf → ∀ h, RC1 h P S → RC3 h pa →
      ∃ (v : α) (h' : HH) (S' : TB) (pa' : List TB), KC (nI a) (nI t) h = some (v, h') ∧ fM h h' ∧ frS h h' ∧ RC1 h' P S' ∧ RC3 h' pa' ∧ sG S' nf np ∧ (∀ I ∈ pa', sG I nf np) ∧
        ∀ h, RM1 h P S nf np nl ng → RM3 h np pa → ∃ h', KM (nI a) (nI t) h = some (v, h') ∧ fC h h' ∧ frT h h' ∧ RM1 h' P S' nf np nl ng ∧ RM3 h' np pa') : Eqv f g := by
  refine Eqv_S fun P S nf np nl ng pa w s spa hl h c c3 => ?_
  have hnf : nf ≤ 6 := w.1.1
  have hnp : np ≤ 6 := w.1.2.1
  by_cases pa0 : prs a0 np
  · obtain ⟨a, ha, rfl⟩ := pa0
    by_cases pf : prs a1 (nf + 1)
    · obtain ⟨k, hk, rfl⟩ := pf
      obtain ⟨v, h', S', pa', e, m1, s1, k1, k3, g1, g2, H2⟩ := H P S nf np nl ng pa a k w s spa hl ha (by omega) h c c3
      refine ⟨v, h', S', pa', by rw [hf, xg_P1 c w ha, xg_L1 c w hk]; exact e, m1, s1, k1, k3, g1, g2, fun h m m3 => ?_⟩
      have m1 := m.B hnp (scB_0 h)
      obtain ⟨h', e', b1, b2, b3, b4⟩ := H2 _ m1 (m3.B hnp hl (scB_0 h))
      exact ⟨h', by rw [hg, rg_P1 m1.1 hnp ha, rg_L1 m1.1 hnf hk]; exact e', (scB_0 h).C.tr b1, (frT_0 h).tr b2, b3, b4⟩
    · refine ⟨R, h, S, pa, by rw [hf, xg_P1 c w ha, xg_L0 c w pf], fM_rf h, frS_rf h, c, c3, s, spa, fun h m m3 => ?_⟩
      have m1 := m.B hnp (scB_0 h)
      exact ⟨_, by rw [hg, rg_P1 m1.1 hnp ha, rg_L0 m1.1 hnf pf], (scB_0 h).C, frT_0 h, m1, m3.B hnp hl (scB_0 h)⟩
  · refine ⟨R, h, S, pa, by rw [hf, xg_P0 c w pa0], fM_rf h, frS_rf h, c, c3, s, spa, fun h m m3 => ?_⟩
    have m1 := m.B hnp (scB_0 h)
    exact ⟨_, by rw [hg, rg_P0 m1.1 pa0], (scB_0 h).C, frT_0 h, m1, m3.B hnp hl (scB_0 h)⟩
end SD
theorem RC1.c {h h' : HH} {P S S' : TB} {p : Nat} (c : RC1 h P S) (hp : h.2.2 0 = p) (e : ∀ a, h'.1 224 a = h.1 224 a) (e2 : ∀ j, j < 2 → h'.2.2 j = h.2.2 j) (k : CP h' p P) (k2 : CS h' 52 S') : RC1 h' P S' := by
  obtain ⟨q, hq, c1, c2, c3, c4, c5⟩ := c
  have : q = p := c1.symm.trans hp
  subst this
  exact ⟨q, hq, (e2 0 (by decide)).trans c1, (e2 1 (by decide)).trans c2, k, k2, fun a ha => (e a).trans (c5 a ha)⟩
/-- the class begins over what is now -/
theorem x_beginN {h : HH} {P S : TB} {nf np nl ng md : Nat} (c : RC1 h P S) (w : PW P nf np nl ng) (hmd : md ≤ 2) : ∃ p h', h.2.2 0 = p ∧ shL[p]? = some (.inl 5) ∧ g_X0_begin p 52 (nI md) h = some ((), h') ∧ cAt h' p 52 (p + 3) P S (P 3) np md ∧ h'.1 193 7 = -1 ∧ h'.1 193 8 = 0 ∧ (∀ a k, a ≠ 193 → h'.1 a k = h.1 a k) ∧ ∀ j, j < 2 → h'.2.2 j = h.2.2 j := by
  obtain ⟨p, hp, c1, sp, c3⟩ := c.p
  obtain ⟨h1, e1, k1, k7, k8, s1, s2, s3⟩ := x_begin hp (Or.inl rfl) hmd c3 c.s w
  exact ⟨p, h1, c1, sp, e1, k1, k7, k8, s1, s3⟩
theorem sG_up1 {S : TB} {nf np a f : Nat} (s : sG S nf np) (ha : a < np) (hf : f ≤ nf) : sG (up S 1 a (nI f)) nf np := by
  obtain ⟨s1, s2, s3, u, s4, s5⟩ := s
  refine ⟨fun b hb => ?_, tOk_o s2 _ _ (by decide), zG_up s3 _ (Or.inl ha), u, s4, by rw [up_ne _ _ _ _ _ _ (by omega)]; exact s5⟩
  by_cases e : b = a
  · exact ⟨f, hf, by rw [e, up_at]⟩
  · obtain ⟨fl, q1, q2⟩ := s1 b hb
    exact ⟨fl, q1, by rw [up_ne _ _ _ _ _ _ (by omega)]; exact q2⟩
theorem sG_up5 {S : TB} {nf np k : Nat} (s : sG S nf np) : sG (up S 5 k 0) nf np := by
  obtain ⟨s1, s2, s3, u, s4, s5⟩ := s
  refine ⟨fun b hb => ?_, tOk_t s2 _ ⟨by decide, by decide⟩, zG_up s3 _ (Or.inr (Or.inr rfl)), u, s4, by rw [up_ne _ _ _ _ _ _ (by omega)]; exact s5⟩
  obtain ⟨fl, q1, q2⟩ := s1 b hb
  exact ⟨fl, q1, by rw [up_ne _ _ _ _ _ _ (by omega)]; exact q2⟩
theorem past_ok {S T : TB} {pa : List TB} {nf np : Nat} (s : sG S nf np) (e : eqR T S) (hnp : np ≤ 6) (h : ∀ I ∈ pa, sG I nf np) : ∀ I ∈ T :: pa.take 19, sG I nf np := by
  intro I hI
  rcases List.mem_cons.mp hI with rfl | hI
  · exact e.sG s hnp
  · exact h I (List.mem_of_mem_take hI)
/-- the reference over the house of now, behind a change of it -/
theorem RM1.of {h h' : HH} {P S S' : TB} {nf np nl ng : Nat} (m : RM1 h P S nf np nl ng) (k : MP h' P nf np nl ng) (k2 : MS h' 0 S' np) (e : ∀ a k, (a = 255 ∧ (k = 45 ∨ k = 48 ∨ k = 49)) ∨ (257 ≤ a ∧ a ≤ 273) → h'.1 a k = h.1 a k) : RM1 h' P S' nf np nl ng := by
  obtain ⟨c1, c2, c3, c4, c5, c6, c7, c8, c9⟩ := m
  refine ⟨k, k2, (e _ _ (by omega)).trans c3, (e _ _ (by omega)).trans c4, (e _ _ (by omega)).trans c5, fun a ha => ?_, fun k hk => (e _ _ (by omega)).trans (c7 k hk), (e _ _ (by omega)).trans c8, (e _ _ (by omega)).trans c9⟩
  rw [e 259 _ (by omega), e 260 _ (by omega)]
  exact c6 a ha
theorem scG.t {s : Nat} {h h' : HH} (e : scG s h h') {a k : Nat} (q : ¬ inH s a k) (q2 : ¬ (a = 255 ∧ (k = 35 ∨ k = 52))) (q3 : a ≠ 283) (q4 : a ≠ 284) : h'.1 a k = h.1 a k := e.1 a k q q2 q3 q4
theorem scG.fC {s : Nat} {h h' : HH} (e : scG s h h') : fC h h' := ⟨fun a k ha => e.1 a k (by unfold inH; omega) (by omega) (by omega) (by omega), fun j _ => by rw [e.2.2]⟩
theorem scG.frT {s : Nat} {h h' : HH} (e : scG s h h') (hs : s ≠ 2) : frT h h' := fun a k u => e.1 a k (by
  rcases u with u | u | u | u
  · unfold inH; omega
  · unfold inH; omega
  · unfold inH; omega
  · exact inH_ne u (fun q => hs q.symm)) (by
  rcases u with u | u | u | u
  · omega
  · omega
  · omega
  · unfold inH at u; omega) (by
  rcases u with u | u | u | u
  · omega
  · omega
  · omega
  · unfold inH at u; omega) (by
  rcases u with u | u | u | u
  · omega
  · omega
  · omega
  · unfold inH at u; omega)
theorem RM3.G {h h' : HH} {np : Nat} {pa : List TB} (m : RM3 h np pa) (hnp : np ≤ 6) (hl : pa.length ≤ 20) {s : Nat} (hs : s < 3) (e : scG s h h') : RM3 h' np pa := m.X hnp (fun a k u => by
  rcases u with u | ⟨t, s1, s2, u⟩
  · exact e.1 a k (by unfold inH; omega) (by omega) (by omega) (by omega)
  · exact e.1 a k (inH_ne u (by omega)) (by unfold inH at u; omega) (by unfold inH at u; omega) (by unfold inH at u; omega)) hl
theorem RM1.G {h h' : HH} {P S S' : TB} {nf np nl ng : Nat} (m : RM1 h P S nf np nl ng) (e : scG 0 h h') (k : MP h' P nf np nl ng) (k2 : MS h' 0 S' np) : RM1 h' P S' nf np nl ng :=
  m.of k k2 fun a k u => e.1 a k (by unfold inH; omega) (by omega) (by omega) (by omega)
theorem keep_T {h h' : HH} (e : ∀ a k, ¬ (a = 255 ∧ k = 44) → (∀ s, 3 ≤ s → s < 23 → ¬ inH s a k) → h'.1 a k = h.1 a k) (e2 : h'.2 = h.2) : fC h h' ∧ frT h h' :=
  ⟨⟨fun a k ha => e a k (by omega) (fun s _ _ => by unfold inH; omega), fun j _ => by rw [e2]⟩, fun a k u => e a k (by
    rcases u with u | u | u | u
    · omega
    · omega
    · omega
    · unfold inH at u; omega) (fun s q1 q2 => by
    rcases u with u | u | u | u
    · unfold inH; omega
    · unfold inH; omega
    · unfold inH; omega
    · exact inH_ne u (by omega))⟩
theorem keep_1 {h h' : HH} {P S : TB} {nf np nl ng : Nat} (m : RM1 h P S nf np nl ng) (hnp : np ≤ 6) (e : ∀ a k, ¬ (a = 255 ∧ k = 44) → (∀ s, 3 ≤ s → s < 23 → ¬ inH s a k) → h'.1 a k = h.1 a k) : RM1 h' P S nf np nl ng :=
  m.X hnp fun a k u => e a k (by
    rcases u with u | u | u
    · omega
    · omega
    · unfold inH at u; omega) (fun s q1 q2 => by
    rcases u with u | u | u
    · unfold inH; omega
    · unfold inH; omega
    · exact inH_ne u (by omega))
/-! walk -/
theorem c_walk (a0 a1 : Int32) : Eqv (g_X10_walk a0 a1) (g_X11_walk a0 a1) := by
  refine Eqv_SL a0 a1 (-1) (fun a0 a1 h3 => bnd (g_X4_push 52 h3) fun _ h5 => gfR h5 0 fun p7 => ckH p7 (.inl 5) (bnd (g_X0_begin p7 52 (1 : Int32) h5) fun _ h8 => bnd (g_X0_walkTo a0 a1 h8) fun r11 h10 => ldI h10 53 6 a0 fun v12 => some (v12, h10)))
    (fun a0 a1 h4 => bnd (g_X11_keepNow h4) fun _ h6 => bnd (g_X11_goesTo (0 : Int32) a0 a1 (0 : Int32) h6) fun _ h8 => ldI h8 278 138 a0 fun v10 => some (v10, h8)) (fun _ => rfl) (fun _ => rfl) fun P S nf np nl ng pa a t w s spa hl ha ht h c c3 => ?_
  have hnf : nf ≤ 6 := w.1.1
  have hnp : np ≤ 6 := w.1.2.1
  obtain ⟨fl, fl1, fl2⟩ := s.1 a ha
  obtain ⟨h1, T, e1, q1, k1, f1, g1⟩ := x_push c3 c.s
  have c1 := c.X (h' := h1) (fun a k u => f1 a k (by omega)) (fun j _ => by rw [g1])
  obtain ⟨p, h2, p0, sp, e2, k2, k7, k8, f2, g2⟩ := x_beginN c1 w (md := 1) (by decide)
  obtain ⟨h3, s3, k3, e3⟩ := x_walkTo k2 w.1.2.2.2.2.2.1 hnf (a := a) (fl := fl) (t := t) (by omega) fl2 fl1 ht
  have e2' : g_X0_begin p 52 1 h1 = _ := e2
  refine ⟨(wkA P (P 3) np 1 a fl t S).2 1 a, h3, (wkA P (P 3) np 1 a fl t S).2, T :: pa.take 19, ?_, ?_, ?_, ?_, ?_, ?_, past_ok s q1 hnp spa, fun h m m3 => ?_⟩
  · rw [e1, bnd_some]
    simp only [gfR]
    rw [p0, ckH_of sp, e2', bnd_some, e3, bnd_some, ldI_of (by omega) (by decide)]
    rw [show h3.1 53 a = (wkA P (P 3) np 1 a fl t S).2 1 a from k3.2.2.2.2.2.2.2.1 1 a (by decide)]
  · intro a k u
    rw [s3.1 a k (by omega), f2 a k (by omega), f1 a k (by omega)]
  · intro a k u
    rw [s3.1 a k (by omega), f2 a k (by omega), f1 a k (by omega)]
  · exact c1.c p0 (fun a => by rw [s3.1 _ _ (by omega), f2 _ _ (by omega)]) (fun j hj => by rw [s3.2.2, g2 j hj]) k3.2.2.2.2.2.2.1 k3.2.2.2.2.2.2.2.1
  · exact k1.X fun a k u => by rw [s3.1 a k (by omega), f2 a k (by omega)]
  · have := s.X.wk (P := P) (fo := P 3) (md := 1) ha fl2 fl1 ht
    obtain ⟨u, u1, u2⟩ := s.2.2.2
    exact ⟨this.1, this.2.1, this.2.2, u, u1, by rw [wkA_hr]; exact u2⟩
  · obtain ⟨h4, e4, m4, f4, g4⟩ := r_keepNow hnp m3 m.2.1 hl q1
    have m1 := keep_1 m hnp f4
    obtain ⟨t1, t2⟩ := keep_T f4 g4
    obtain ⟨h5, s5, k5, e5⟩ := r_goesTo (m1.at w) (b := 0) (md := 1) (Or.inr ⟨by rw [m1.2.2.2.1]; decide, Or.inr ⟨rfl, rfl⟩⟩) s.2.1 ha fl2 fl1 ht
    have e5' : g_X11_goesTo 0 (nI a) (nI t) 0 h4 = _ := e5
    refine ⟨h5, ?_, t1.tr s5.G.fC, t2.tr (s5.G.frT (by decide)), m1.G s5.G k5.1 k5.2.1, m4.G hnp (by simp [List.length_take]; omega) (by decide) s5.G⟩
    rw [e4, bnd_some, e5', bnd_some, ldI_of (by omega) (by decide), (k5.2.1.f0 ha).1]
/-! carry, right -/
theorem c_carry (a0 a1 : Int32) : Eqv (g_X10_carry a0 a1) (g_X11_carry a0 a1) := by
  refine Eqv_SL a0 a1 0 (fun a0 a1 h3 => ldI h3 53 6 a0 fun v5 => if v5 = a1 then some ((0 : Int32), h3) else bnd (g_X4_push 52 h3) fun _ h6 => stI h6 53 6 a0 a1 fun h8 => some ((1 : Int32), h8))
    (fun a0 a1 h4 => ldI h4 278 138 a0 fun v6 => if v6 = a1 then some ((0 : Int32), h4) else bnd (g_X11_keepNow h4) fun _ h7 => stI h7 278 138 a0 a1 fun h9 => some ((1 : Int32), h9)) (fun _ => rfl) (fun _ => rfl) fun P S nf np nl ng pa a t w s spa hl ha ht h c c3 => ?_
  have hnf : nf ≤ 6 := w.1.1
  have hnp : np ≤ 6 := w.1.2.1
  by_cases k0 : S 1 a = nI t
  · refine ⟨0, h, S, pa, ?_, fM_rf h, frS_rf h, c, c3, s, spa, fun h m m3 => ⟨h, ?_, fC_rf h, frT_rf h, m, m3⟩⟩
    · rw [ldI_of (by omega) (by decide), c.s 1 a (by decide), if_pos k0]
    · rw [ldI_of (by omega) (by decide), (m.2.1.f0 ha).1, if_pos k0]
  obtain ⟨h1, T, e1, q1, k1, f1, g1⟩ := x_push c3 c.s
  have c1 := c.X (h' := h1) (fun a k u => f1 a k (by omega)) (fun j _ => by rw [g1])
  obtain ⟨p, hp, p0, sp, cp⟩ := c1.p
  refine ⟨1, wrI h1 (52 + 1) a (nI t), up S 1 a (nI t), T :: pa.take 19, ?_, ?_, ?_, ?_, ?_, sG_up1 s ha ht, past_ok s q1 hnp spa, fun h m m3 => ?_⟩
  · rw [ldI_of (by omega) (by decide), c.s 1 a (by decide), if_neg k0, e1, bnd_some, stI_of (by omega) (by decide)]
  · intro a k u
    rw [wrI_1, if_neg (by omega), f1 a k (by omega)]
  · intro a k u
    rw [wrI_1, if_neg (by omega), f1 a k (by omega)]
  · exact c1.c p0 (fun a => by rw [wrI_1, if_neg (by omega)]) (fun j hj => rfl) (fun o k ho => by rw [wrI_1, if_neg (by omega)]; exact cp o k ho) (CS_w c1.s a _ (by decide))
  · exact k1.X fun a k u => by rw [wrI_1, if_neg (by omega)]
  · obtain ⟨h4, e4, m4, f4, g4⟩ := r_keepNow hnp m3 m.2.1 hl q1
    have m1 := keep_1 m hnp f4
    obtain ⟨t1, t2⟩ := keep_T f4 g4
    obtain ⟨s5, k5⟩ := (m1.at w).wp (o := 1) (by decide) (by decide) ha (nI t)
    rw [show 6 * 0 + a = a by omega] at s5 k5
    refine ⟨_, ?_, t1.tr s5.G.fC, t2.tr (s5.G.frT (by decide)), m1.G s5.G k5.1 k5.2.1, m4.G hnp (by simp [List.length_take]; omega) (by decide) s5.G⟩
    rw [ldI_of (by omega) (by decide), (m.2.1.f0 ha).1, if_neg k0, e4, bnd_some, stI_of (by omega) (by decide)]
theorem c_right (a0 a1 : Int32) : Eqv (g_X10_right a0 a1) (g_X11_right a0 a1) := by
  refine Eqv_S fun P S nf np nl ng pa w s spa hl h c c3 => ?_
  have hnf : nf ≤ 6 := w.1.1
  have hnp : np ≤ 6 := w.1.2.1
  by_cases hp : prs a0 np ∧ prs a1 nf
  rotate_left
  · refine ⟨-2147483648, h, S, pa, ?_, fM_rf h, frS_rf h, c, c3, s, spa, fun h m m3 => ⟨_, ?_, (scB_0 h).C, frT_0 h, m.B hnp (scB_0 h), m3.B hnp hl (scB_0 h)⟩⟩
    · unfold g_X10_right
      by_cases pa : prs a0 np
      · have pf : ¬ prs a1 nf := fun q => hp ⟨pa, q⟩
        obtain ⟨k, hk, rfl⟩ := pa
        rw [xg_P1 c w hk, xg_F0 c w pf]
      · rw [xg_P0 c w pa]
    · unfold g_X11_right
      simp only [pfI]
      rw [rg_A0 (m.B hnp (scB_0 h)).1 hnf hnp hp]
  obtain ⟨⟨a, ha, rfl⟩, f, hf, rfl⟩ := hp
  have ty : ∀ h, RM1 h P S nf np nl ng → g_X11_tallyAt 0 (nI a) (nI f) h = some (S 5 (6 * a + f), h) := fun h m => r_tally (s := 0) m.2.1 (by decide) (a := a) (f := f) (by omega) (by omega)
  by_cases k0 : S 5 (6 * a + f) = 0
  · refine ⟨-2147483648, h, S, pa, ?_, fM_rf h, frS_rf h, c, c3, s, spa, fun h m m3 => ⟨_, ?_, (scB_0 h).C, frT_0 h, m.B hnp (scB_0 h), m3.B hnp hl (scB_0 h)⟩⟩
    · unfold g_X10_right
      rw [xg_P1 c w ha, xg_F1 c w hf, x_cell, bnd_some, ldI_of (by omega) (by decide), c.s 5 _ (by decide), if_pos k0]
    · unfold g_X11_right
      simp only [pfI]
      have m1 := m.B hnp (scB_0 h)
      rw [rg_A1 m1.1 hnf hnp ha hf, ty _ m1, bnd_some, if_pos k0]
  obtain ⟨h1, T, e1, q1, k1, f1, g1⟩ := x_push c3 c.s
  have c1 := c.X (h' := h1) (fun a k u => f1 a k (by omega)) (fun j _ => by rw [g1])
  obtain ⟨p, hp, p0, sp, cp⟩ := c1.p
  refine ⟨S 5 (6 * a + f), wrI h1 (52 + 5) (6 * a + f) 0, up S 5 (6 * a + f) 0, T :: pa.take 19, ?_, ?_, ?_, ?_, ?_, sG_up5 s, past_ok s q1 hnp spa, fun h m m3 => ?_⟩
  · unfold g_X10_right
    rw [xg_P1 c w ha, xg_F1 c w hf, x_cell, bnd_some, ldI_of (by omega) (by decide), c.s 5 _ (by decide), if_neg k0, e1, bnd_some, x_cell, bnd_some, stI_of (by omega) (by decide)]
  · intro a k u
    rw [wrI_1, if_neg (by omega), f1 a k (by omega)]
  · intro a k u
    rw [wrI_1, if_neg (by omega), f1 a k (by omega)]
  · exact c1.c p0 (fun a => by rw [wrI_1, if_neg (by omega)]) (fun j hj => rfl) (fun o k ho => by rw [wrI_1, if_neg (by omega)]; exact cp o k ho) (CS_w c1.s _ _ (by decide))
  · exact k1.X fun a k u => by rw [wrI_1, if_neg (by omega)]
  · have mB := m.B hnp (scB_0 h)
    obtain ⟨h4, e4, m4, f4, g4⟩ := r_keepNow hnp (m3.B hnp hl (scB_0 h)) mB.2.1 hl q1
    have m1 := keep_1 mB hnp f4
    obtain ⟨t1, t2⟩ := keep_T f4 g4
    obtain ⟨s5, k5⟩ := (m1.at w).wt (j := 6 * a + f) (by omega) 0
    rw [show 36 * 0 + (6 * a + f) = 6 * a + f by omega] at s5 k5
    refine ⟨_, ?_, ((scB_0 h).C.tr t1).tr s5.G.fC, ((frT_0 h).tr t2).tr (s5.G.frT (by decide)), m1.G s5.G k5.1 k5.2.1, m4.G hnp (by simp [List.length_take]; omega) (by decide) s5.G⟩
    unfold g_X11_right
    simp only [pfI]
    rw [rg_A1 mB.1 hnf hnp ha hf, ty _ mB, bnd_some, if_neg k0, e4, bnd_some, ty _ m1, bnd_some, ix6, stI_of (by omega) (by decide)]
/-! go -/
theorem r_go_L {P : TB} {nf np nl ng : Nat} (w : PW P nf np nl ng) (K : HH → Option (Int32 × HH)) {e : Nat} (he : e < 2 ^ 31) : ∀ (m i n : Nat) (S : TB) (h : HH), i + m = e → m < n → sX S nf np → mAt h 0 P S (P 3) nf np nl ng → h.1 255 48 = 0 →
    ∃ h', scG 0 h h' ∧ mAt h' 0 P (itA (hrA P (P 3) np 0 ng false (-1)) m S) (P 3) nf np nl ng ∧ g_X11_go_L43 K (nI e) n (nI i) h = K h' := by
  intro m
  induction m with
  | zero =>
    intro i n S h hi hn s c h48
    obtain ⟨n, rfl⟩ : ∃ n', n = n' + 1 := ⟨n - 1, by omega⟩
    exact ⟨h, scG_rf 0 h, c, by rw [g_X11_go_L43, if_neg (nI_nlt (by omega) (by omega))]⟩
  | succ m ih =>
    intro i n S h hi hn s c h48
    obtain ⟨n, rfl⟩ : ∃ n', n = n' + 1 := ⟨n - 1, by omega⟩
    have hid : idR h P ng (-1) := by
      refine Or.inr ⟨by rw [h48]; decide, fun g hg e => ?_⟩
      obtain ⟨g1, g2, g3⟩ := pg_ok w.1 hg
      rw [g3] at e
      exact m1_ne _ (by omega) e
    obtain ⟨h1, s1, c1, e1⟩ := r_passes c w.1 (b := 1) (md := 0) (Or.inr ⟨by rw [h48]; decide, Or.inl ⟨rfl, rfl⟩⟩) s.2.1 s.1 (bare := false) (by rw [h48]; decide) hid
    obtain ⟨h2, s2, c2, e2⟩ := ih (i + 1) n _ h1 (by omega) (by omega) (s.hr w.1) c1 ((s1.t (by unfold inH; omega) (by omega) (by omega) (by omega)).trans h48)
    refine ⟨h2, s1.tr s2, c2, ?_⟩
    have e1' : g_X11_passes 0 1 h = _ := e1
    rw [← e2, g_X11_go_L43, if_pos (nI_lt (by omega) (by omega)), e1', bnd_some]
    simp only [vl, nI_1]
theorem c_go (a0 : Int32) : Eqv (g_X10_go a0) (g_X11_go a0) := by
  refine Eqv_S fun P S nf np nl ng pa w s spa hl h c c3 => ?_
  have hnf : nf ≤ 6 := w.1.1
  have hnp : np ≤ 6 := w.1.2.1
  obtain ⟨u, u1, u2⟩ := s.2.2.2
  have no : (∀ h, RC1 h P S → g_X10_go a0 h = some (-1, h)) → (∀ h, RM1 h P S nf np nl ng → g_X11_go a0 h = some (-1, wrI h 255 0 0)) → ∃ (v : Int32) (h' : HH) (S' : TB) (pa' : List TB), g_X10_go a0 h = some (v, h') ∧ fM h h' ∧ frS h h' ∧ RC1 h' P S' ∧ RC3 h' pa' ∧ sG S' nf np ∧ (∀ I ∈ pa', sG I nf np) ∧ ∀ h, RM1 h P S nf np nl ng → RM3 h np pa → ∃ h', g_X11_go a0 h = some (v, h') ∧ fC h h' ∧ frT h h' ∧ RM1 h' P S' nf np nl ng ∧ RM3 h' np pa' := fun q1 q2 =>
    ⟨-1, h, S, pa, q1 h c, fM_rf h, frS_rf h, c, c3, s, spa, fun h m m3 => ⟨_, q2 h m, (scB_0 h).C, frT_0 h, m.B hnp (scB_0 h), m3.B hnp hl (scB_0 h)⟩⟩
  by_cases h0 : a0 < 0
  · exact no (fun h c => by unfold g_X10_go; rw [if_pos h0]) (fun h m => by unfold g_X11_go; simp only [pfI]; rw [if_pos h0])
  obtain ⟨n, hn, rfl⟩ := nI_of h0
  by_cases h200 : n ≤ 200
  rotate_left
  · have q : 200 < nI n := nI_lt (a := 200) (by omega) hn
    exact no (fun h c => by unfold g_X10_go; rw [if_neg h0, if_pos q]) (fun h m => by unfold g_X11_go; simp only [pfI]; rw [if_neg h0, if_pos q])
  have q : ¬ 200 < nI n := nI_nlt (a := 200) h200 (by decide)
  have r5 : ∀ h, RC1 h P S → h.1 52 5 = nI u := fun h c => (c.s 0 5 (by decide)).trans u2
  have r6 : ∀ h, RM1 h P S nf np nl ng → (wrI h 255 0 0).1 276 0 = nI u := fun h m => by rw [wrI_1, if_neg (by decide), m.2.1.2.2.1]; exact u2
  by_cases h98 : u + n ≤ 9800
  rotate_left
  · have q2 : 9800 < nI u + nI n := by rw [nI_add]; exact nI_lt (a := 9800) (by omega) (by omega)
    exact no (fun h c => by unfold g_X10_go; simp only [gfI]; rw [if_neg h0, if_neg q, r5 h c, if_pos q2]) (fun h m => by unfold g_X11_go; simp only [pfI]; rw [if_neg h0, if_neg q, ldI_0 (by decide) (by decide), r6 h m, if_pos q2])
  have q2 : ¬ 9800 < nI u + nI n := by rw [nI_add]; exact nI_nlt (a := 9800) h98 (by decide)
  -- the past goes, if an hour does
  obtain ⟨hA, pA, eA, cA, aA, fA, gA⟩ : ∃ (hA : HH) (pA : List TB), (if 0 < nI n then (bnd (g_X4_clear h) fun _ h11 => some ((), h11)) else some ((), h)) = some ((), hA) ∧ RC3 hA pA ∧ (pA = if 0 < nI n then [] else pa) ∧ (∀ a k, a ≠ 64 → hA.1 a k = h.1 a k) ∧ hA.2 = h.2 := by
    by_cases z : 0 < nI n
    · obtain ⟨nx, d1, d2, d3, d4, d5⟩ := c3
      refine ⟨wrI h 64 2 0, [], by rw [if_pos z]; rfl, ⟨nx, d1, by rw [wrI_1, if_neg (by decide)]; exact d2, wrI_at _ _ _ _, by simp, fun i I hI => by simp at hI⟩, by rw [if_pos z], fun a k q => by rw [wrI_1, if_neg (fun e => q e.1)], rfl⟩
    · exact ⟨h, pa, by rw [if_neg z], c3, by rw [if_neg z], fun _ _ _ => rfl, rfl⟩
  have c1 := c.X (h' := hA) (fun a k u => fA a k (by omega)) (fun j _ => by rw [gA])
  obtain ⟨p, h2, p0, sp, e2, k2, k7, k8, f2, g2⟩ := x_beginN c1 w (md := 0) (by decide)
  obtain ⟨h3, s3, k3, e3⟩ := x_pass w.1 (bare := false) (idle := -1) (k := n) (by omega) (by omega) u2 s.1 k2 (by rw [k8]; rfl) k7
  have e2' : g_X0_begin p 52 0 hA = _ := e2
  have hr := itA_hr (P := P) (fo := P 3) (np := np) (md := 0) (ng := ng) (bare := false) (idle := -1) n u u2
  have rest : ∀ g : HH, g = hA → (gfR g 0 fun p5 => ckH p5 (.inl 5) (bnd (g_X0_begin p5 52 (0 : Int32) g) fun _ h6 => bnd (g_X0_pass (nI n) h6) fun _ h8 => gfI h8 52 5 fun v10 => some (v10, h8))) = some (nI (u + n), h3) := by
    intro g hg
    subst hg
    simp only [gfR, gfI]
    rw [p0, ckH_of sp, e2', bnd_some, e3, bnd_some, show h3.1 52 5 = nI (u + n) from (k3.2.2.2.2.2.2.2.1 0 5 (by decide)).trans hr]
  have hpa : ∀ I ∈ pA, sG I nf np := by
    rw [aA]
    by_cases z : 0 < nI n
    · rw [if_pos z]; intro I hI; cases hI
    · rw [if_neg z]; exact spa
  refine ⟨nI (u + n), h3, itA (hrA P (P 3) np 0 ng false (-1)) n S, pA, ?_, ?_, ?_, ?_, ?_, ?_, hpa, fun h m m3 => ?_⟩
  · unfold g_X10_go
    simp only [gfI, jn]
    rw [if_neg h0, if_neg q, r5 h c, if_neg q2]
    by_cases z : 0 < nI n
    · rw [if_pos z] at eA ⊢
      have : wrI h 64 2 0 = hA := by
        have := eA
        exact (Prod.mk.inj (Option.some.inj this)).2
      refine Eq.trans ?_ (rest (wrI h 64 2 0) this)
      rfl
    · rw [if_neg z] at eA ⊢
      exact rest h (Prod.mk.inj (Option.some.inj eA)).2
  · intro a k u
    rw [s3.1 a k (by omega) (by omega) (by omega), f2 a k (by omega), fA a k (by omega)]
  · intro a k u
    rw [s3.1 a k (by omega) (by omega) (by omega), f2 a k (by omega), fA a k (by omega)]
  · exact c1.c p0 (fun a => by rw [s3.1 _ _ (by omega) (by omega) (by omega), f2 _ _ (by omega)]) (fun j hj => by rw [s3.2.2, g2 j hj]) k3.2.2.2.2.2.2.1 k3.2.2.2.2.2.2.2.1
  · exact cA.X fun a k u => by rw [s3.1 a k (by omega) (by omega) (by omega), f2 a k (by omega)]
  · have := s.X.it (P := P) (fo := P 3) (md := 0) w.1 (bare := false) (idle := -1) n
    exact ⟨this.1, this.2.1, this.2.2, u + n, h98, hr⟩
  · have mB := m.B hnp (scB_0 h)
    have m3B := m3.B hnp hl (scB_0 h)
    obtain ⟨N, hN⟩ : ∃ N : Nat, N = 1024 := ⟨_, rfl⟩
    obtain ⟨hM, eM', m1, m2, tM, cM⟩ : ∃ hM : HH, (if 0 < nI n then wrI (wrI h 255 0 0) 255 44 0 else wrI h 255 0 0) = hM ∧ RM1 hM P S nf np nl ng ∧ RM3 hM np pA ∧ frT h hM ∧ fC h hM := by
      by_cases z : 0 < nI n
      · rw [if_pos z] at aA
        refine ⟨wrI (wrI h 255 0 0) 255 44 0, by rw [if_pos z], mB.of (mB.1.X fun a k q1 q2 => by rw [wrI_1, if_neg (by omega)]) (mB.2.1.X hnp fun a k hk => by rw [wrI_1, if_neg (by unfold inH at hk; omega)]) (fun a k u => by rw [wrI_1, if_neg (by omega)]), ?_, (frT_0 h).tr fun a k u => ?_, (scB_0 h).C.tr ⟨fun a k ha => by rw [wrI_1, if_neg (by omega)], fun _ _ => rfl⟩⟩
        · rw [aA]; exact ⟨wrI_at _ _ _ _, fun i I hI => by simp at hI⟩
        · rw [wrI_1, if_neg]
          rcases u with u | u | u | u
          · omega
          · omega
          · omega
          · unfold inH at u; omega
      · rw [if_neg z] at aA
        exact ⟨_, by rw [if_neg z], mB, by rw [aA]; exact m3B, frT_0 h, (scB_0 h).C⟩
    obtain ⟨h5, s5, k5, e5⟩ := r_go_L w (fun h9 => ldI h9 276 23 (0 : Int32) fun v10 => some (v10, h9)) (e := n) hn n 0 N S hM (by omega) (by omega) s.X (m1.at w) m1.2.2.2.1
    have e5' : g_X11_go_L43 (fun h9 => ldI h9 276 23 (0 : Int32) fun v10 => some (v10, h9)) (nI n) N 0 hM = some (nI (u + n), h5) := by
      refine e5.trans ?_
      rw [ldI_0 (by decide) (by decide), k5.2.1.2.2.1, hr]
    have pl : pA.length ≤ 20 := by
      rw [aA]
      by_cases z : 0 < nI n
      · rw [if_pos z]; simp
      · rw [if_neg z]; exact hl
    refine ⟨h5, ?_, cM.tr s5.fC, tM.tr (s5.frT (by decide)), m1.G s5 k5.1 k5.2.1, m2.G hnp pl (by decide) s5⟩
    unfold g_X11_go
    simp only [pfI, jn]
    rw [if_neg h0, if_neg q, ldI_0 (by decide) (by decide), r6 h m, if_neg q2, ← hN]
    by_cases z : 0 < nI n
    · rw [if_pos z] at eM' ⊢
      rw [eM']; exact e5'
    · rw [if_neg z] at eM' ⊢
      rw [eM']; exact e5'
/-! undo, keep, back -/
theorem c_undo : Eqv g_X10_undo g_X11_undo := by
  refine Eqv_S fun P S nf np nl ng pa w s spa hl h c c3 => ?_
  have hnf : nf ≤ 6 := w.1.1
  have hnp : np ≤ 6 := w.1.2.1
  cases pa with
  | nil =>
    refine ⟨-1, h, S, [], ?_, fM_rf h, frS_rf h, c, c3, s, spa, fun h m m3 => ⟨_, ?_, (scB_0 h).C, frT_0 h, m.B hnp (scB_0 h), m3.B hnp hl (scB_0 h)⟩⟩
    · obtain ⟨nx, d1, d2, d3, d4, d5⟩ := c3
      unfold g_X10_undo g_X4_pop
      simp only [gfI]
      rw [ckH_of sh_52, d3, if_pos (show nI ([] : List TB).length = (0 : Int32) from nI_0), bnd_some, if_pos rfl]
    · unfold g_X11_undo
      simp only [gfI, pfI]
      rw [(m3.B hnp hl (scB_0 h)).1, if_pos (show nI ([] : List TB).length = (0 : Int32) from nI_0)]
  | cons I pa =>
    obtain ⟨h1, T, e1, q1, k1, k3, f1, g1, n1⟩ := x_pop c3
    obtain ⟨p, hp, p0, sp, cp⟩ := c.p
    have hl' : pa.length + 1 ≤ 20 := hl
    refine ⟨nI pa.length, h1, T, pa, ?_, fun a k u => f1 a k (by omega), fun a k u => f1 a k (by omega), c.c p0 (fun a => f1 _ _ (by omega)) (fun j hj => by rw [g1]) (fun o k ho => (f1 _ _ (by omega)).trans (cp o k ho)) k1, k3, q1.sG (spa I (by simp)) hnp, fun J hJ => spa J (List.mem_cons_of_mem _ hJ), fun h m m3 => ?_⟩
    · unfold g_X10_undo
      simp only [gfI]
      rw [e1, bnd_some, if_neg (by decide), n1]
    · have mB := m.B hnp (scB_0 h)
      have m3B := m3.B hnp hl (scB_0 h)
      obtain ⟨x1, x2⟩ := id m3B
      have x1' : (wrI h 255 0 0).1 255 44 = nI (pa.length + 1) := x1
      have mI : MS (wrI (wrI h 255 0 0) 255 44 (nI pa.length)) (3 + pa.length) I np := by
        have := x2 0 I rfl
        have e : 2 + (I :: pa).length - 0 = 3 + pa.length := by simp; omega
        rw [e] at this
        exact this.X hnp fun a k hk => by rw [wrI_1, if_neg (by unfold inH at hk; omega)]
      obtain ⟨h2, e2, m2, f2, g2⟩ := r_copies (t := 0) (s := 3 + pa.length) (by decide) (by omega) (by omega) hnp mI
      have e2' : g_X11_copies 0 (nI (3 + pa.length)) (wrI (wrI h 255 0 0) 255 44 (nI pa.length)) = _ := e2
      have w44 : ∀ a k, ¬ (a = 255 ∧ k = 44) → (wrI (wrI h 255 0 0) 255 44 (nI pa.length)).1 a k = (wrI h 255 0 0).1 a k := fun a k q => by rw [wrI_1, if_neg q]
      have n44 : h2.1 255 44 = nI pa.length := (f2 _ _ (by unfold inH; omega)).trans (wrI_at _ _ _ _)
      refine ⟨h2, ?_, (scB_0 h).C.tr ⟨fun a k ha => (f2 a k (by unfold inH; omega)).trans (w44 a k (by omega)), fun j _ => by rw [g2]; rfl⟩, (frT_0 h).tr fun a k u => ?_, mB.of (mB.1.X fun a k q1 q2 => (f2 a k (by unfold inH; omega)).trans (w44 a k (by omega))) (m2.R q1 hnp) (fun a k u => (f2 a k (by unfold inH; omega)).trans (w44 a k (by omega))), ⟨n44, fun i J hJ => ?_⟩⟩
      · unfold g_X11_undo
        simp only [gfI, pfI]
        rw [x1', if_neg (nI_ne0 (by omega) (by omega)), nI_pred, wrI_at, show (3 : Int32) + nI pa.length = nI (3 + pa.length) from nI_add 3 _, e2', bnd_some, n44]
      · rcases u with u | u | u | u
        · exact (f2 a k (by unfold inH; omega)).trans (w44 a k (by omega))
        · exact (f2 a k (by unfold inH; omega)).trans (w44 a k (by omega))
        · exact (f2 a k (by unfold inH; omega)).trans (w44 a k (by omega))
        · exact (f2 a k (inH_ne u (by decide))).trans (w44 a k (by unfold inH at u; omega))
      · have hi : i < pa.length := (List.getElem?_eq_some_iff.mp hJ).1
        have := x2 (i + 1) J (by simpa using hJ)
        have e : 2 + (I :: pa).length - (i + 1) = 2 + pa.length - i := by simp; omega
        rw [e] at this
        exact this.X hnp fun a k hk => (f2 a k (inH_ne hk (by omega))).trans (w44 a k (by unfold inH at hk; omega))
