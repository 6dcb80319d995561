/-! images -/
theorem c_keep : Eqv g_X10_keep g_X11_keep := by
  refine Eqv_s fun P S nf np nl ng im pa nN nb nT tl tp fk fp w y h c => ?_
  obtain ⟨w1, w2, w3, w4, w5⟩ := w
  obtain ⟨c1, c2, c3, c4, c5, c6⟩ := c
  have hnp : np ≤ 6 := w1.1.2.1
  obtain ⟨h1, T, e1, k1, q1, f1, g1⟩ := x_take (q := 58) (r := 52) sh_58 sh_52 (by decide) c1.s
  have fr : ∀ a k, ¬ (58 ≤ a ∧ a < 64) → ¬ (a = 0 ∧ k = 6) → (wrI h1 0 6 1).1 a k = h.1 a k := fun a k u v => by rw [wrI_1, if_neg v, f1 a k (by omega)]
  have kT : CS (wrI h1 0 6 1) 58 T := fun o k ho => by rw [wrI_1, if_neg (by omega)]; exact k1 o k ho
  refine ⟨S 0 5, wrI h1 0 6 1, P, S, nf, np, nl, ng, some T, pa, nN, nb, nT, tl, tp, fk, fp, fun a k u => fr a k (by omega) (by omega), ?_, ⟨w1, w2, fun I hI => ?_, w4, w5⟩, ⟨c1.X (fun a k u => fr a k (by omega) (by omega)) (fun j _ => by rw [wrI_2, g1]), ⟨wrI_at _ _ _ _, fun I hI => ?_⟩, c3.X fun a k u => fr a k (by omega) (by omega), c4.X fun a k u => fr a k (by omega) (by omega), c5.X fun a k u => fr a k (by omega) (by omega), c6.X fun a k u => fr a k (by omega) (by omega)⟩, fun h m => ?_⟩
  · unfold g_X10_keep
    simp only [gfI, pfI]
    rw [e1, bnd_some, show (wrI h1 0 6 1).1 58 5 = S 0 5 from (kT 0 5 (by decide)).trans q1.2.2.1]
  · cases hI; exact q1.sG w2 hnp
  · cases hI; exact kT
  · obtain ⟨m1, m2, m3, m4, m5, m6⟩ := m
    have mB := m1.B hnp (scB_0 h)
    obtain ⟨h2, e2, k2, f2, g2⟩ := r_copies (t := 2) (s := 0) (by decide) (by decide) (by decide) hnp mB.2.1
    have e2' : g_X11_copies 2 0 (wrI h 255 0 0) = _ := e2
    have fr : ∀ a k, ¬ inH 2 a k → ¬ (a = 255 ∧ (k = 0 ∨ k = 43)) → (wrI h2 255 43 1).1 a k = h.1 a k := fun a k u v => by rw [wrI_1, if_neg (by omega), f2 a k u, wrI_1, if_neg (by omega)]
    refine ⟨wrI h2 255 43 1, ⟨fun a k ha => fr a k (by unfold inH; omega) (by omega), fun j _ => by rw [wrI_2, g2]; rfl⟩, ?_, m1.X hnp fun a k u => fr a k ?_ ?_, ⟨wrI_at _ _ _ _, fun I hI => ?_⟩, m3.X hnp (fun a k u => fr a k ?_ ?_) y.2.2.1, m4.X fun a k u => fr a k (by unfold inH; omega) (by omega), m5.X fun a k u => fr a k (by unfold inH; omega) (by omega), m6.X fun a k u => fr a k (by unfold inH; omega) (by omega)⟩
    · unfold g_X11_keep
      simp only [pfI]
      rw [e2', bnd_some, ldI_0 (by decide) (by decide), fr 276 0 (by unfold inH; omega) (by omega), m1.2.1.2.2.1]
    · rcases u with u | u | u
      · unfold inH; omega
      · unfold inH; omega
      · exact inH_ne u (by decide)
    · rcases u with u | u | u
      · omega
      · omega
      · unfold inH at u; omega
    · cases hI
      exact (k2.R q1 hnp).X hnp fun a k hk => by rw [wrI_1, if_neg (by unfold inH at hk; omega)]
    · rcases u with u | ⟨s, s1, s2, u⟩
      · unfold inH; omega
      · exact inH_ne u (by omega)
    · rcases u with u | ⟨s, s1, s2, u⟩
      · omega
      · unfold inH at u; omega
theorem c_back : Eqv g_X10_back g_X11_back := by
  refine Eqv_s fun P S nf np nl ng im pa nN nb nT tl tp fk fp w y h c => ?_
  obtain ⟨w1, w2, w3, w4, w5⟩ := id w
  obtain ⟨c1, c2, c3, c4, c5, c6⟩ := id c
  have hnp : np ≤ 6 := w1.1.2.1
  cases im with
  | none =>
    refine ⟨-1, h, P, S, nf, np, nl, ng, none, pa, nN, nb, nT, tl, tp, fk, fp, fM_rf h, ?_, w, c, fun h m => ⟨_, (scB_0 h).C, ?_, RelM.X m hnp y.2.2.1 (fun a k u => (scB_0 h).1 a k (Or.inr u))⟩⟩
    · unfold g_X10_back
      simp only [gfI]
      rw [show h.1 0 6 = 0 by simpa using c2.1, if_pos rfl]
    · unfold g_X11_back
      simp only [gfI, pfI]
      rw [show (wrI h 255 0 0).1 255 43 = 0 by rw [wrI_1, if_neg (by decide)]; simpa using m.2.1.1, if_pos rfl]
  | some I =>
    obtain ⟨h1, T, e1, k1, q1, f1, g1⟩ := x_take (q := 52) (r := 58) sh_52 sh_58 (by decide) (c2.2 I rfl)
    have fr : ∀ a k, ¬ (52 ≤ a ∧ a < 58) → ¬ (a = 64 ∧ k = 2) → (wrI h1 64 2 0).1 a k = h.1 a k := fun a k u v => by rw [wrI_1, if_neg v, f1 a k (by omega)]
    have kT : CS (wrI h1 64 2 0) 52 T := fun o k ho => by rw [wrI_1, if_neg (by omega)]; exact k1 o k ho
    obtain ⟨p, hp, p0, sp, cp⟩ := c1.p
    obtain ⟨nx, d1, d2, d3, d4, d5⟩ := c3
    refine ⟨I 0 5, wrI h1 64 2 0, P, T, nf, np, nl, ng, some I, [], nN, nb, nT, tl, tp, fk, fp, fun a k u => fr a k (by omega) (by omega), ?_, ⟨w1, q1.sG (w3 I rfl) hnp, w3, fun J hJ => (by cases hJ), w5⟩, ⟨c1.c p0 (fun a => fr _ _ (by omega) (by omega)) (fun j _ => by rw [wrI_2, g1]) (fun o k ho => (fr _ _ (by omega) (by omega)).trans (cp o k ho)) kT, c2.X fun a k u => fr a k (by omega) (by omega), ⟨nx, d1, by rw [fr 64 1 (by decide) (by decide)]; exact d2, wrI_at _ _ _ _, by simp, fun i J hJ => by simp at hJ⟩, c4.X fun a k u => fr a k (by omega) (by omega), c5.X fun a k u => fr a k (by omega) (by omega), c6.X fun a k u => fr a k (by omega) (by omega)⟩, fun h m => ?_⟩
    · unfold g_X10_back
      simp only [gfI]
      rw [show h.1 0 6 = 1 by simpa using c2.1, if_neg (by decide), e1, bnd_some]
      show (some ((wrI h1 64 2 0).1 52 5, wrI h1 64 2 0)) = _
      rw [show (wrI h1 64 2 0).1 52 5 = I 0 5 from (kT 0 5 (by decide)).trans q1.2.2.1]
    · obtain ⟨m1, m2, m3, m4, m5, m6⟩ := m
      have mB := m1.B hnp (scB_0 h)
      have mI : MS (wrI h 255 0 0) 2 I np := (m2.2 I rfl).X hnp fun a k hk => by rw [wrI_1, if_neg (by unfold inH at hk; omega)]
      obtain ⟨h2, e2, k2, f2, g2⟩ := r_copies (t := 0) (s := 2) (by decide) (by decide) (by decide) hnp mI
      have e2' : g_X11_copies 0 2 (wrI h 255 0 0) = _ := e2
      have fr : ∀ a k, ¬ inH 0 a k → ¬ (a = 255 ∧ (k = 0 ∨ k = 44)) → (wrI h2 255 44 0).1 a k = h.1 a k := fun a k u v => by rw [wrI_1, if_neg (by omega), f2 a k u, wrI_1, if_neg (by omega)]
      have k3 : MS (wrI h2 255 44 0) 0 I np := k2.X hnp fun a k hk => by rw [wrI_1, if_neg (by unfold inH at hk; omega)]
      refine ⟨wrI h2 255 44 0, ⟨fun a k ha => fr a k (by unfold inH; omega) (by omega), fun j _ => by rw [wrI_2, g2]; rfl⟩, ?_, m1.of (m1.1.X fun a k q1 q2 => fr a k (by unfold inH; omega) (by omega)) (k3.R q1 hnp) (fun a k u => fr a k (by unfold inH; omega) (by omega)), m2.X hnp fun a k u => fr a k ?_ ?_, ⟨wrI_at _ _ _ _, fun i J hJ => by simp at hJ⟩, m4.X fun a k u => fr a k (by unfold inH; omega) (by omega), m5.X fun a k u => fr a k (by unfold inH; omega) (by omega), m6.X fun a k u => fr a k (by unfold inH; omega) (by omega)⟩
      · unfold g_X11_back
        simp only [gfI, pfI]
        rw [show (wrI h 255 0 0).1 255 43 = 1 by rw [wrI_1, if_neg (by decide)]; simpa using m2.1, if_neg (by decide), e2', bnd_some, ldI_0 (by decide) (by decide), k3.2.2.1]
      · rcases u with u | u
        · unfold inH; omega
        · exact inH_ne u (by decide)
      · rcases u with u | u
        · omega
        · unfold inH at u; omega
/-! trials -/
theorem scF.A {h h' : HH} (s : scF 196 h h') : scA h h' := ⟨fun a k u => s.1 a k (by omega) (by omega) (by omega), fun j _ => by rw [s.2.2]⟩
theorem x_trial {h : HH} {P S : TB} {nf np nl ng md : Nat} (c : RC1 h P S) (w : PW P nf np nl ng) (hmd : md ≤ 2) : ∃ p h' T, g_X10_startTrial (nI md) h = some (196, h') ∧ eqR T S ∧ cAt h' p 196 (p + 3) P T (P 3) np md ∧ h'.1 193 7 = -1 ∧ h'.1 193 8 = 0 ∧ h'.2.2 0 = p ∧ shL[p]? = some (.inl 5) ∧ scA h h' ∧ RC1 h' P S := by
  obtain ⟨p, hp, p0, sp, cp⟩ := c.p
  obtain ⟨h1, T, e1, k1, q1, f1, g1⟩ := x_take (q := 196) (r := 52) sh_196 sh_52 (by decide) c.s
  have p1 : h1.2.2 0 = p := by rw [g1]; exact p0
  obtain ⟨h2, e2, k2, k7, k8, s1, s2, s3⟩ := x_begin hp (Or.inr rfl) hmd (h := h1) (T := T) (fun o k ho => (f1 _ _ (by omega)).trans (cp o k ho)) k1 w
  have fr : scA h h2 := ⟨fun a k u => (s1 a k (by omega)).trans (f1 a k (by omega)), fun j hj => (s3 j hj).trans (by rw [g1])⟩
  refine ⟨p, h2, T, ?_, q1, k2, k7, k8, (s3 0 (by decide)).trans p1, sp, fr, c.X (fun a k u => fr.1 a k (by omega)) fr.2⟩
  unfold g_X10_startTrial
  simp only [gfR]
  rw [e1, bnd_some, p1, ckH_of sp, e2, bnd_some]
theorem scG1B {h h' : HH} (e : scG 1 h h') : scB h h' := ⟨fun a k u => e.1 a k (by
  rcases u with u | u | u | ⟨s, s1, _, u⟩ | u
  · unfold inH; omega
  · unfold inH; omega
  · unfold inH; omega
  · exact inH_ne u s1
  · unfold inH; omega) (by
  rcases u with u | u | u | ⟨s, _, _, u⟩ | u
  · omega
  · omega
  · omega
  · unfold inH at u; omega
  · omega) (by
  rcases u with u | u | u | ⟨s, _, _, u⟩ | u
  · omega
  · omega
  · omega
  · unfold inH at u; omega
  · omega) (by
  rcases u with u | u | u | ⟨s, _, _, u⟩ | u
  · omega
  · omega
  · omega
  · unfold inH at u; omega
  · omega), fun j _ => by rw [e.2.2]⟩
theorem r_trial {h : HH} {P S T : TB} {nf np nl ng : Nat} (m : RM1 h P S nf np nl ng) (w : PW P nf np nl ng) (q : eqR T S) : ∃ h', g_X11_copies 1 0 h = some ((), h') ∧ mAt h' 1 P T (P 3) nf np nl ng ∧ scG 1 h h' ∧ RM1 h' P S nf np nl ng ∧ h'.1 255 48 = 0 ∧ h'.1 255 49 = -1 := by
  have hnp : np ≤ 6 := w.1.2.1
  obtain ⟨h2, e2, k2, f2, g2⟩ := r_copies (t := 1) (s := 0) (by decide) (by decide) (by decide) hnp m.2.1
  have sg : scG 1 h h2 := ⟨fun a k u _ _ _ => f2 a k u, fun a k _ _ => by rw [g2], by rw [g2]⟩
  have mB := m.B hnp (scG1B sg)
  exact ⟨h2, e2, ⟨mB.1, k2.R q hnp, fun a ha => by rw [mB.2.2.2.1, if_neg (by decide)]; exact mB.1.2.2.2.2.2.2.1 a ha, w.2.1, by decide, w.1.1, hnp⟩, sg, mB, mB.2.2.2.1, mB.2.2.2.2.1⟩
theorem r_on_L {P : TB} {fo : Nat → Int32} {nf np nl ng md : Nat} (w : gOk P nf np nl ng) {bare : Bool} {idle : Int32} {e : Nat} (he : e < 2 ^ 31) : ∀ (m i n : Nat) (S : TB) (h : HH), i + m = e → m < n → sX S nf np → mAt h 1 P S fo nf np nl ng → mdR h 0 md → (h.1 255 48 = 3 ↔ bare = true) → idR h P ng idle →
    ∃ h', scG 1 h h' ∧ mAt h' 1 P (itA (hrA P fo np md ng bare idle) m S) fo nf np nl ng ∧ g_X11_goesOn_L2 (nI e) n (nI i) h = some ((), h') := by
  intro m
  induction m with
  | zero =>
    intro i n S h hi hn s c hm hb hid
    obtain ⟨n, rfl⟩ : ∃ n', n = n' + 1 := ⟨n - 1, by omega⟩
    exact ⟨h, scG_rf 1 h, c, by rw [g_X11_goesOn_L2, if_neg (nI_nlt (by omega) (by omega))]⟩
  | succ m ih =>
    intro i n S h hi hn s c hm hb hid
    obtain ⟨n, rfl⟩ : ∃ n', n = n' + 1 := ⟨n - 1, by omega⟩
    obtain ⟨h1, s1, c1, e1⟩ := r_passes c w hm s.2.1 s.1 hb hid
    have z : ∀ k, k ≠ 35 → k ≠ 52 → h1.1 255 k = h.1 255 k := fun k q1 q2 => s1.t (by unfold inH; omega) (by omega) (by omega) (by omega)
    obtain ⟨h2, s2, c2, e2⟩ := ih (i + 1) n _ h1 (by omega) (by omega) (s.hr w) c1 (hm.mv (z 48 (by decide) (by decide))) (by rw [z 48 (by decide) (by decide)]; exact hb) (hid.X (z 48 (by decide) (by decide)) (z 49 (by decide) (by decide)))
    refine ⟨h2, s1.tr s2, c2, ?_⟩
    have e1' : g_X11_passes 1 0 h = _ := e1
    rw [← e2, g_X11_goesOn_L2, if_pos (nI_lt (by omega) (by omega)), e1', bnd_some]
    simp only [vl, nI_1]
theorem r_goesOn {P S : TB} {fo : Nat → Int32} {nf np nl ng md : Nat} (w : gOk P nf np nl ng) {bare : Bool} {idle : Int32} {e : Nat} (he : e ≤ 1000) {h : HH} (s : sX S nf np) (c : mAt h 1 P S fo nf np nl ng) (hm : mdR h 0 md) (hb : h.1 255 48 = 3 ↔ bare = true) (hid : idR h P ng idle) :
    ∃ h', scG 1 h h' ∧ mAt h' 1 P (itA (hrA P fo np md ng bare idle) e S) fo nf np nl ng ∧ g_X11_goesOn (nI e) h = some ((), h') := by
  obtain ⟨N, hN⟩ : ∃ N : Nat, N = 1024 := ⟨_, rfl⟩
  obtain ⟨h', q1, q2, q3⟩ := r_on_L w (e := e) (by omega) e 0 N S h (by omega) (by omega) s c hm hb hid
  refine ⟨h', q1, q2, ?_⟩
  unfold g_X11_goesOn
  rw [← hN]
  exact q3
/-- so many added up -/
def smI (f : Nat → Int32) : Nat → Int32
  | 0 => 0
  | n + 1 => smI f n + f n
theorem smI_z {f : Nat → Int32} {np : Nat} : ∀ m, (∀ a, np ≤ a → a < np + m → f a = 0) → smI f (np + m) = smI f np
  | 0, _ => rfl
  | m + 1, h => by
    show smI f (np + m) + f (np + m) = _
    rw [h (np + m) (by omega) (by omega), Int32.add_zero, smI_z m fun a h1 h2 => h a h1 (by omega)]
theorem smI_eq {f g : Nat → Int32} : ∀ n, (∀ a, a < n → f a = g a) → smI f n = smI g n
  | 0, _ => rfl
  | n + 1, h => by
    show smI f n + f n = smI g n + g n
    rw [smI_eq n fun a ha => h a (by omega), h n (by omega)]
theorem zG.sm {S : TB} {np : Nat} (z : zG S np) (hnp : np ≤ 6) {o : Nat} (h1 : 1 ≤ o) (h4 : o ≤ 4) : smI (S o) 6 = smI (S o) np := by
  have := smI_z (f := S o) (np := np) (6 - np) (fun a q1 q2 => by
    obtain ⟨z1, z2, z3, z4⟩ := z a q1 (by omega)
    rcases (show o = 1 ∨ o = 2 ∨ o = 3 ∨ o = 4 by omega) with rfl | rfl | rfl | rfl <;> assumption)
  rwa [show np + (6 - np) = 6 by omega] at this
theorem x_sum_L (A : Nat) (h : HH) : ∀ (m i n : Nat), i + m = 6 → m < n → g_X7_sumOf_L4 A n (smI (h.1 A) i) (nI i) h = some (smI (h.1 A) 6, h) := by
  intro m
  induction m with
  | zero =>
    intro i n hi hn
    obtain ⟨n, rfl⟩ : ∃ n', n = n' + 1 := ⟨n - 1, by omega⟩
    obtain rfl : i = 6 := by omega
    rw [g_X7_sumOf_L4, if_neg (show ¬ nI 6 < 6 by decide)]
  | succ m ih =>
    intro i n hi hn
    obtain ⟨n, rfl⟩ : ∃ n', n = n' + 1 := ⟨n - 1, by omega⟩
    rw [g_X7_sumOf_L4, if_pos (show nI i < 6 from nI_lt (b := 6) (by omega) (by decide)), ldI_of (by omega) (by decide)]
    simp only [vl, nI_1]
    exact ih (i + 1) n (by omega) (by omega)
theorem x_sum {A : Nat} (hA : shL[A]? = some (.inr (0, 6, 0))) (h : HH) : g_X7_sumOf A h = some (smI (h.1 A) 6, h) := by
  unfold g_X7_sumOf
  rw [ckH_of hA]
  exact x_sum_L A h 6 0 1024 (by omega) (by omega)
theorem r_sum_L {A s np : Nat} (hs : s < 23) (hnp : np ≤ 6) {h : HH} (e : h.1 257 1 = nI np) : ∀ (m i n : Nat), i + m = np → m < n → g_X11_sumOf_L5 A (nI s) n (smI (fun a => h.1 A (6 * s + a)) i) (nI i) h = some (smI (fun a => h.1 A (6 * s + a)) np, h) := by
  intro m
  induction m with
  | zero =>
    intro i n hi hn
    obtain ⟨n, rfl⟩ : ∃ n', n = n' + 1 := ⟨n - 1, by omega⟩
    rw [g_X11_sumOf_L5, ldI_1 (by decide) (by decide), e, if_neg (nI_nlt (by omega) (by omega)), show i = np by omega]
  | succ m ih =>
    intro i n hi hn
    obtain ⟨n, rfl⟩ : ∃ n', n = n' + 1 := ⟨n - 1, by omega⟩
    rw [g_X11_sumOf_L5, ldI_1 (by decide) (by decide), e, if_pos (nI_lt (by omega) (by omega)), ix6, ldI_of (by omega) (by decide)]
    simp only [vl, nI_1]
    exact ih (i + 1) n (by omega) (by omega)
theorem r_sum {o s np : Nat} (h1 : 1 ≤ o) (h4 : o ≤ 4) (hs : s < 23) (hnp : np ≤ 6) {h : HH} {S : TB} (e : h.1 257 1 = nI np) (m : MS h s S np) : g_X11_sumOf (277 + o) (nI s) h = some (smI (S o) np, h) := by
  have hA : shL[277 + o]? = some (.inr (0, 138, 0)) := by rcases (show o = 1 ∨ o = 2 ∨ o = 3 ∨ o = 4 by omega) with rfl | rfl | rfl | rfl; exact sh_278; exact sh_279; exact sh_280; exact sh_281
  unfold g_X11_sumOf
  rw [ckH_of hA]
  refine (r_sum_L hs hnp e np 0 1024 (by omega) (by omega)).trans ?_
  rw [smI_eq np fun a ha => ?_]
  obtain ⟨m1, m2, m3, m4⟩ := m.1 a ha
  rcases (show o = 1 ∨ o = 2 ∨ o = 3 ∨ o = 4 by omega) with rfl | rfl | rfl | rfl <;> assumption
def cnI (f : Nat → Int32) : Nat → Int32
  | 0 => 0
  | n + 1 => if f n = 0 then cnI f n else cnI f n + 1
theorem x_tallies_L {q : Nat} {h : HH} {S : TB} (c : CS h q S) : ∀ (m i n : Nat), i + m = 36 → m < n → g_X7_tallies_L4 q n (cnI (S 5) i) (nI i) h = some (cnI (S 5) 36, h) := by
  intro m
  induction m with
  | zero =>
    intro i n hi hn
    obtain ⟨n, rfl⟩ : ∃ n', n = n' + 1 := ⟨n - 1, by omega⟩
    obtain rfl : i = 36 := by omega
    rw [g_X7_tallies_L4, if_neg (show ¬ nI 36 < 36 by decide)]
  | succ m ih =>
    intro i n hi hn
    obtain ⟨n, rfl⟩ : ∃ n', n = n' + 1 := ⟨n - 1, by omega⟩
    have h1 := ih (i + 1) n (by omega) (by omega)
    have e : cnI (S 5) (i + 1) = if S 5 i = 0 then cnI (S 5) i else cnI (S 5) i + 1 := rfl
    rw [e] at h1
    rw [g_X7_tallies_L4, if_pos (show nI i < 36 from nI_lt (b := 36) (by omega) (by decide)), ldI_of (by omega) (by decide), c 5 i (by decide)]
    simp only [jn, vl, nI_1]
    by_cases k : S 5 i = 0
    · rw [if_pos k] at h1 ⊢; exact h1
    · rw [if_neg k] at h1 ⊢; exact h1
theorem x_tallies {q : Nat} (hq : shL[q]? = some (.inl 7)) {h : HH} {S : TB} (c : CS h q S) : g_X7_tallies q h = some (cnI (S 5) 36, h) := by
  unfold g_X7_tallies
  rw [ckH_of hq]
  exact x_tallies_L c 36 0 1024 (by omega) (by omega)
theorem r_entries_L {s np : Nat} (hs : s < 23) {h : HH} {S : TB} (c : MS h s S np) : ∀ (m i n : Nat), i + m = 36 → m < n → g_X11_entries_L4 (nI s) n (cnI (S 5) i) (nI i) h = some (cnI (S 5) 36, h) := by
  intro m
  induction m with
  | zero =>
    intro i n hi hn
    obtain ⟨n, rfl⟩ : ∃ n', n = n' + 1 := ⟨n - 1, by omega⟩
    obtain rfl : i = 36 := by omega
    rw [g_X11_entries_L4, if_neg (show ¬ nI 36 < 36 by decide)]
  | succ m ih =>
    intro i n hi hn
    obtain ⟨n, rfl⟩ : ∃ n', n = n' + 1 := ⟨n - 1, by omega⟩
    have h1 := ih (i + 1) n (by omega) (by omega)
    have e : cnI (S 5) (i + 1) = if S 5 i = 0 then cnI (S 5) i else cnI (S 5) i + 1 := rfl
    rw [e] at h1
    rw [g_X11_entries_L4, if_pos (show nI i < 36 from nI_lt (b := 36) (by omega) (by decide)), ix36', ldI_of (by omega) (by decide), c.2.1 i (by omega)]
    simp only [jn, vl, nI_1]
    by_cases k : S 5 i = 0
    · rw [if_pos k] at h1 ⊢; rw [Int32.add_zero]; exact h1
    · rw [if_neg k] at h1 ⊢; exact h1
theorem r_entries {s np : Nat} (hs : s < 23) {h : HH} {S : TB} (c : MS h s S np) : g_X11_entries (nI s) h = some (cnI (S 5) 36, h) := by
  unfold g_X11_entries
  exact r_entries_L hs c 36 0 1024 (by omega) (by omega)
/-! count -/
theorem known_nN {h : HH} {nN : Nat} {nb : Int32} {nT : TB} (c : RC4 h nN nb nT) : g_X3_knownBy h = some (if nb = -1 then nI nN else nb, h) := by
  unfold g_X3_knownBy
  simp only [gfI]
  rw [c.2.1, c.1]
  by_cases k : nb = -1
  · rw [if_pos k, if_pos k]
  · rw [if_neg k, if_neg k]
theorem r_known_nN {h : HH} {nN : Nat} {nb : Int32} {nT : TB} (m : RM4 h nN nb nT) : g_X11_knownMany h = some (if nb = -1 then nI nN else nb, h) := by
  unfold g_X11_knownMany
  simp only [gfI]
  rw [m.2.1, m.1]
  by_cases k : nb = -1
  · rw [if_pos k, if_pos k]
  · rw [if_neg k, if_neg k]
theorem RelM.z {h : HH} {P S : TB} {nf np nl ng : Nat} {im : Option TB} {pa : List TB} {nN : Nat} {nb : Int32} {nT : TB} {tl : Nat} {tp : Nat → Nat} {fk fp : Int32} (m : RelM h P S nf np nl ng im pa nN nb nT tl tp fk fp) (hnp : np ≤ 6) (hl : pa.length ≤ 20) : RelM (wrI h 255 0 0) P S nf np nl ng im pa nN nb nT tl tp fk fp := RelM.X m hnp hl (fun a k u => (scB_0 h).1 a k (Or.inr u))
theorem ldI_2 {β : Type} {h : HH} {a n : Nat} (hk : 2 < n) (hn : n < 2 ^ 31) (K : Int32 → Option β) : ldI h a n (2 : Int32) K = K (h.1 a 2) := ldI_of (k := 2) hk hn K
theorem ldI_6 {β : Type} {h : HH} {a n : Nat} (hk : 6 < n) (hn : n < 2 ^ 31) (K : Int32 → Option β) : ldI h a n (6 : Int32) K = K (h.1 a 6) := ldI_of (k := 6) hk hn K
theorem so_if {α : Type} (c : Prop) [Decidable c] (a b : α) (h : HH) : some (if c then a else b, h) = if c then some (a, h) else some (b, h) := by split <;> rfl
theorem c_count (a0 : Int32) : Eqv (g_X10_count a0) (g_X11_count a0) := by
  refine Eqv_u fun P S nf np nl ng im pa nN nb nT tl tp fk fp w y => ?_
  have hnp : np ≤ 6 := w.1.1.2.1
  have z := w.2.1.2.2.1
  refine ⟨if a0 = 0 then nI nf else if a0 = 1 then nI np else if a0 = 2 then nI nl else if a0 = 3 then nI ng else if a0 = 4 then P 11 2 else if a0 = 5 then S 0 5 else if a0 = 6 then cnI (S 5) 36 else if a0 = 7 then smI (S 2) np else if a0 = 8 then smI (S 3) np else if a0 = 9 then smI (S 4) np else if a0 = 10 then smI (S 1) np else if a0 = 11 then nI nN else if a0 = 12 then (if nb = -1 then nI nN else nb) else if a0 = 13 then nI pa.length else -1, P, S, nf, np, nl, ng, im, pa, nN, nb, nT, tl, tp, fk, fp, w, fun h c => ⟨h, fM_rf h, ?_, c⟩, fun h m => ⟨wrI h 255 0 0, (scB_0 h).C, ?_, m.z hnp y.2.2.1⟩⟩
  · obtain ⟨c1, c2, c3, c4, c5, c6⟩ := c
    obtain ⟨p, hp, p0, sp, cp⟩ := c1.p
    have cs := c1.s
    have c64 : h.1 64 2 = nI pa.length := by obtain ⟨nx, d1, d2, d3, d4, d5⟩ := c3; exact d3
    unfold g_X10_count
    simp only [gfR, gfI]
    rw [p0, ckH_of sp, ckH_of sp, ckH_of sp, ckH_of sp, ckH_of sp]
    rw [show h.1 p 0 = nI nf from (cp 0 0 (by decide)).trans w.1.1.2.2.2.2.2.1, show h.1 p 2 = nI np from (cp 0 2 (by decide)).trans w.1.2.2.1, show h.1 p 5 = nI nl from (cp 0 5 (by decide)).trans w.1.2.2.2.1, show h.1 p 9 = nI ng from (cp 0 9 (by decide)).trans w.1.1.2.2.2.2.1, show h.1 (p + 11) 2 = P 11 2 from cp 11 2 (by decide), show h.1 52 5 = S 0 5 from cs 0 5 (by decide), x_tallies sh_52 cs, x_sum sh_54, x_sum sh_55, x_sum sh_56, x_sum sh_53, bnd_some, bnd_some, bnd_some, bnd_some, bnd_some, known_nN c4, bnd_some, c4.1, c64]
    rw [show smI (h.1 54) 6 = smI (S 2) np from (smI_eq 6 fun a _ => cs 2 a (by decide)).trans (z.sm hnp (by decide) (by decide)), show smI (h.1 55) 6 = smI (S 3) np from (smI_eq 6 fun a _ => cs 3 a (by decide)).trans (z.sm hnp (by decide) (by decide)), show smI (h.1 56) 6 = smI (S 4) np from (smI_eq 6 fun a _ => cs 4 a (by decide)).trans (z.sm hnp (by decide) (by decide)), show smI (h.1 53) 6 = smI (S 1) np from (smI_eq 6 fun a _ => cs 1 a (by decide)).trans (z.sm hnp (by decide) (by decide))]
    simp only [so_if]
  · obtain ⟨m1, m2, m3, m4, m5, m6⟩ := m.z hnp y.2.2.1
    have s1 := r_sum (o := 1) (s := 0) (by decide) (by decide) (by decide) hnp m1.1.2.1 m1.2.1
    have s2 := r_sum (o := 2) (s := 0) (by decide) (by decide) (by decide) hnp m1.1.2.1 m1.2.1
    have s3 := r_sum (o := 3) (s := 0) (by decide) (by decide) (by decide) hnp m1.1.2.1 m1.2.1
    have s4 := r_sum (o := 4) (s := 0) (by decide) (by decide) (by decide) hnp m1.1.2.1 m1.2.1
    have s5 := r_entries (s := 0) (by decide) m1.2.1
    have s1' : g_X11_sumOf 278 0 (wrI h 255 0 0) = _ := s1
    have s2' : g_X11_sumOf 279 0 (wrI h 255 0 0) = _ := s2
    have s3' : g_X11_sumOf 280 0 (wrI h 255 0 0) = _ := s3
    have s4' : g_X11_sumOf 281 0 (wrI h 255 0 0) = _ := s4
    have s5' : g_X11_entries 0 (wrI h 255 0 0) = _ := s5
    unfold g_X11_count
    simp only [gfI, pfI]
    rw [ldI_0 (by decide) (by decide), ldI_1 (by decide) (by decide), ldI_2 (by decide) (by decide), ldI_3 (by decide) (by decide), ldI_6 (by decide) (by decide), ldI_0 (by decide) (by decide), s1', s2', s3', s4', s5', bnd_some, bnd_some, bnd_some, bnd_some, bnd_some, r_known_nN m4, bnd_some, m1.1.1, m1.1.2.1, m1.1.2.2.1, m1.1.2.2.2.1, m1.2.2.2.2.2.2.2.2, m1.2.1.2.2.1, m4.1, m3.1]
    simp only [so_if]
