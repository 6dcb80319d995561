/-! hads, ask -/
theorem x_hadsC {P S : TB} {nf np nl ng : Nat} {im : Option TB} {pa : List TB} {nN : Nat} {nb : Int32} {nT : TB} {tl : Nat} {tp : Nat → Nat} {fk fp : Int32} {kb a f : Nat} {h : HH} (w : PW P nf np nl ng) (wn : NW nf np nN nb nT) (hkb : (if nb = -1 then nI nN else nb) = nI kb) (hk : kb ≤ nN) (ha : a < np) (hf : f < nf) (c : RelC h P S im pa nN nb nT tl tp fk fp) :
    ∃ (h1 h' : HH) (T : Nat → TB), g_X10_startGuess h = some ((), h1) ∧ g_X1_possible (nI a) (nI f) h1 = some (nI (vB (fun j => hsA P np ng nT (cnA nT kb) nN 40 1 (T j)) 19), h') ∧ scA h h' ∧ (∀ j, j < 19 → eqR (T j) (gB P a f j)) ∧ ∀ j r, j < 19 → 1 ≤ r → r < 41 → h'.1 (226 + 1 + 1 * j) r = itA (HR P np ng) r (T j) 1 a := by
  obtain ⟨c1, c2, c3, c4, c5, c6⟩ := c
  obtain ⟨hA, eA, nA, fA, gA⟩ := x_weigh wn hkb hk c4
  have c1A := c1.X (h' := hA) (fun x k q => fA x k (by omega)) (fun j _ => by rw [gA])
  obtain ⟨p, hp, p0, sp, cp⟩ := c1A.p
  obtain ⟨hB, eB, kB, k7, k8, fB', gB', rB⟩ := x_begin (q := 196) (md := 1) hp (Or.inr rfl) (by decide) (h := hA) (T := fun o i => hA.1 (196 + o) i) cp (fun o k _ => rfl) w
  obtain ⟨N, hN⟩ : ∃ N : Nat, N = 1024 := ⟨_, rfl⟩
  obtain ⟨T, hC, tC, eC, rC, fC', gC⟩ := x_ps (c := cnA nT kb) w wn ha hf 19 0 N 0 _ hB rfl (by omega) kB k7 k8 (c4.X fun x k q => (fB' x k (by omega)).trans (fA x k (by omega))) (fun x hx => (fB' 192 x (by omega)).trans (nA x hx))
  refine ⟨hB, hC, T, ?_, ?_, ⟨fun x k q => by rw [fC' x k (by omega) (by omega) (by omega) (by omega), fB' x k (by omega), fA x k (by omega)], fun j hj => by rw [gC, rB j hj, gA]⟩, fun j hj => tC j (Nat.zero_le _) hj, fun j r hj => rC j r (Nat.zero_le _) hj⟩
  · unfold g_X10_startGuess
    simp only [gfR]
    rw [eA, bnd_some, p0, ckH_of sp, show g_X0_begin p 196 1 hA = _ from eB, bnd_some]
  · unfold g_X1_possible
    rw [← hN]
    refine Eq.trans eC ?_
    have := fB_vB (fun j => hsA P np ng nT (cnA nT kb) nN 40 1 (T j)) 19 0 (Nat.le_refl _)
    rw [show nI (vB (fun j => hsA P np ng nT (cnA nT kb) nN 40 1 (T j)) 0) = 0 from rfl] at this
    rw [this]
def frM (h h' : HH) : Prop := (∀ x k, ¬ inH 1 x k → ¬ (x = 255 ∧ (k = 35 ∨ k = 52 ∨ k = 47 ∨ k = 45 ∨ k = 46)) → x ≠ 283 → x ≠ 284 → x ≠ 293 → x ≠ 294 → h'.1 x k = h.1 x k) ∧ h'.2.2 = h.2.2
theorem frM.tr {a b c : HH} (s : frM a b) (t : frM b c) : frM a c := ⟨fun x k q1 q2 q3 q4 q5 q6 => (t.1 x k q1 q2 q3 q4 q5 q6).trans (s.1 x k q1 q2 q3 q4 q5 q6), t.2.trans s.2⟩
theorem frH.M {h h' : HH} (s : frH h h') : frM h h' := ⟨fun x k q1 q2 q3 q4 _ q6 => s.1 x k q1 (by omega) q3 q4 q6, s.2⟩
theorem frM_w (h : HH) {k : Nat} (v : Int32) (hk : k = 45 ∨ k = 46 ∨ k = 47) : frM h (wrI h 255 k v) := ⟨fun x i _ q _ _ _ _ => by rw [wrI_1, if_neg (by omega)], rfl⟩
theorem frM.B {h h' : HH} (s : frM h h') (e : h'.1 255 45 = h.1 255 45) : scB h h' := by
  refine ⟨fun x k u => ?_, fun j _ => by rw [s.2]⟩
  by_cases q : x = 255 ∧ k = 45
  · rw [q.1, q.2]; exact e
  · refine s.1 x k ?_ ?_ ?_ ?_ ?_ ?_
    · rcases u with u | u | u | ⟨s, s1, _, u⟩ | u
      · unfold inH; omega
      · unfold inH; omega
      · unfold inH; omega
      · exact inH_ne u s1
      · unfold inH; omega
    all_goals
      rcases u with u | u | u | ⟨s, _, _, u⟩ | u
      · omega
      · omega
      · omega
      · unfold inH at u; omega
      · omega
theorem hsA_40 {P : TB} {nf np ng nN kb : Nat} {nb : Int32} {nT : TB} (wn : NW nf np nN nb nT) (hk : kb ≤ nN) (U : TB) : hsA P np ng nT (cnA nT kb) nN 40 1 U = hsA P np ng nT (cnA nT kb) nN (enA nT (cnA nT kb) kb) 1 U := by
  have le := enA_le wn (cnA nT kb) kb hk
  have e := hsA_end (P := P) (np := np) (ng := ng) (nT := nT) (c := cnA nT kb) (nN := nN) (e := enA nT (cnA nT kb) kb) (fun t ht ht40 U => by
    refine hoA_tr nN 0 fun j _ hj => ?_
    unfold okN
    by_cases q : cnA nT kb j = true ∧ nT 4 j = -1 ∧ nT 0 j = nI t
    · exfalso
      obtain ⟨q1, q2, q3⟩ := q
      by_cases hjk : j < kb
      · have := enA_ge (nT := nT) (cnA nT kb) kb j hjk q1 q2
        obtain ⟨u, a, f, u1, u2, u3, -⟩ := note_0 wn (i := j) (by omega) q2
        rw [u3, nI_clamp (by omega)] at this
        rw [u3] at q3
        have := (nI_eq (by omega) (by omega)).mp q3
        omega
      · rw [cnA_f nT kb (by omega)] at q1; cases q1
    · rw [if_neg q]) (enA nT (cnA nT kb) kb) (40 - enA nT (cnA nT kb) kb) 1 U (by omega) (by omega)
  rw [show enA nT (cnA nT kb) kb + (40 - enA nT (cnA nT kb) kb) = 40 by omega] at e
  exact e
set_option maxRecDepth 100000 in
theorem r_hadsM {P S : TB} {nf np nl ng nN kb a f : Nat} {nb : Int32} {nT : TB} {h : HH} (w : PW P nf np nl ng) (wn : NW nf np nN nb nT) (hkb : (if nb = -1 then nI nN else nb) = nI kb) (hk : kb ≤ nN) (ha : a < np) (hf : f < nf) (T : Nat → TB) (hT : ∀ j, j < 19 → eqR (T j) (gB P a f j)) (m1 : RM1 h P S nf np nl ng) (m4 : RM4 h nN nb nT) :
    ∃ h', g_X11_hadsOf (nI a) (nI f) h = some (nI (vB (fun j => hsA P np ng nT (cnA nT kb) nN 40 1 (T j)) 19), wrI h' 255 45 (-1)) ∧ rH h' P nf np nl ng a f nN nb nT kb (cnA nT kb) ∧ frM h h' := by
  obtain ⟨M, hM⟩ : ∃ M : Nat, M = 40 := ⟨_, rfl⟩
  have h40 : ∀ U, hsA P np ng nT (cnA nT kb) nN M 1 U = hsA P np ng nT (cnA nT kb) nN (enA nT (cnA nT kb) kb) 1 U := fun U => by rw [hM]; exact hsA_40 wn hk U
  rw [← hM]
  have hnf : nf ≤ 6 := w.1.1
  have hnp : np ≤ 6 := w.1.2.1
  have h24 := wn.1
  have le := enA_le wn (cnA nT kb) kb hk
  obtain ⟨N, hN⟩ : ∃ N : Nat, N = 1024 := ⟨_, rfl⟩
  obtain ⟨hA, eA, nA, fA, gA⟩ := r_wg1 (nT := nT) (fun (h5 : HH) => bnd (g_X11_knownMany h5) fun r7 h6 => vl ((r7 - (1 : Int32))) fun v8 => g_X11_hadsOf_L36 (fun (h17 : HH) => g_X11_hadsOf_L84 (fun (z30 : Int32) (h29 : HH) => g_X11_hadsOf_L148 (fun (z43 : Int32) (h42 : HH) => some (z43, wrI h42 255 45 (-1))) z30 N (0 : Int32) (0 : Int32) (wrI (wrI h29 255 45 (nI a)) 255 46 (nI f))) (nI a) (nI f) N (0 : Int32) (0 : Int32) h17) (nI a) (nI f) N v8 h6) (nI a) (nI f) hkb (by omega) kb 0 N h (by omega) (by omega) m4 (fun x hx => absurd hx (by omega))
  have rA : RM4 hA nN nb nT := m4.X fun x k q => fA x k (by omega)
  obtain ⟨hB, eB, nB, fB', gB'⟩ := r_wg2 (fun (h17 : HH) => g_X11_hadsOf_L84 (fun (z30 : Int32) (h29 : HH) => g_X11_hadsOf_L148 (fun (z43 : Int32) (h42 : HH) => some (z43, wrI h42 255 45 (-1))) z30 N (0 : Int32) (0 : Int32) (wrI (wrI h29 255 45 (nI a)) 255 46 (nI f))) (nI a) (nI f) N (0 : Int32) (0 : Int32) h17) (nI a) (nI f) wn hk kb N (fun i => decide (i < kb)) hA (Nat.le_refl _) (by omega) rA (fun x hx => by rw [nA x hx, decide_eq_true hx]; rfl)
  have rB : RM4 hB nN nb nT := rA.X fun x k q => fB' x k (by omega)
  have e3 := r_wg3 (fun (z30 : Int32) (h29 : HH) => g_X11_hadsOf_L148 (fun (z43 : Int32) (h42 : HH) => some (z43, wrI h42 255 45 (-1))) z30 N (0 : Int32) (0 : Int32) (wrI (wrI h29 255 45 (nI a)) 255 46 (nI f))) (nI a) (nI f) wn hkb hk (cnA nT kb) rB nB kb 0 N (by omega) (by omega)
  obtain ⟨hC, eC⟩ : ∃ hC, hC = wrI (wrI hB 255 45 (nI a)) 255 46 (nI f) := ⟨_, rfl⟩
  have fC : ∀ x k, ¬ (x = 255 ∧ (k = 45 ∨ k = 46)) → x ≠ 293 → hC.1 x k = h.1 x k := fun x k q1 q2 => by rw [eC, wrI_1, if_neg (by omega), wrI_1, if_neg (by omega), fB' x k q2, fA x k q2]
  have rC : rH hC P nf np nl ng a f nN nb nT kb (cnA nT kb) := by
    obtain ⟨q1, q2, q3, q4, q5, q6, q7, q8, q9⟩ := m1
    refine ⟨q1.X fun x k z1 z2 => fC x k (by omega) (by omega), by rw [eC, wrI_1, if_neg (by omega), wrI_at], by rw [eC, wrI_at], (fC _ _ (by omega) (by omega)).trans q4, fun x hx => (fC _ _ (by omega) (by omega)).trans (q6 x hx).2, fun k hk => (fC _ _ (by omega) (by omega)).trans (q7 k hk), (fC _ _ (by omega) (by omega)).trans q8, m4.X fun x k q => fC x k (by omega) (by omega), fun x hx => ?_⟩
    rw [eC, wrI_1, if_neg (by omega), wrI_1, if_neg (by omega)]
    exact nB x hx
  obtain ⟨hD, sD, rD, eD⟩ := r_hads_L (fun (z43 : Int32) (h42 : HH) => some (z43, wrI h42 255 45 (-1))) w wn hkb hk (fun x hx => cnA_f nT kb hx) le ha hf T hT 19 0 N 0 hC rfl (by omega) rC
  have bb : fB (fun j => hsA P np ng nT (cnA nT kb) nN (enA nT (cnA nT kb) kb) 1 (T j)) 19 0 0 = nI (vB (fun j => hsA P np ng nT (cnA nT kb) nN M 1 (T j)) 19) := by
    have := fB_vB (fun j => hsA P np ng nT (cnA nT kb) nN M 1 (T j)) 19 0 (Nat.le_refl _)
    rw [show nI (vB (fun j => hsA P np ng nT (cnA nT kb) nN M 1 (T j)) 0) = 0 from rfl, show 0 + 19 = 19 by omega] at this
    rw [← this]
    exact fB_eq 19 0 0 fun j _ _ => (h40 (T j)).symm
  rw [bb] at eD
  have sM : frM h hC := ⟨fun x k _ q2 _ _ q5 _ => fC x k (by omega) q5, by rw [eC, wrI_2, wrI_2, gB', gA]⟩
  refine ⟨hD, ?_, rD, sM.tr sD.M⟩
  unfold g_X11_hadsOf
  simp only [pfI]
  rw [← hN]
  refine Eq.trans eA ?_
  rw [r_known_nN rA, bnd_some, hkb]
  refine Eq.trans eB (Eq.trans e3 ?_)
  rw [← eC]
  exact eD
theorem c_hads (a0 a1 : Int32) : Eqv (g_X10_hads a0 a1) (g_X11_hads a0 a1) := by
  refine Eqv_s fun P S nf np nl ng im pa nN nb nT tl tp fk fp w y h c => ?_
  have hnf : nf ≤ 6 := w.1.1.1
  have hnp : np ≤ 6 := w.1.1.2.1
  obtain ⟨w1, w2, w3, w4, w5⟩ := id w
  by_cases hp : prs a0 np ∧ prs a1 nf
  · obtain ⟨⟨a, ha, rfl⟩, f, hf, rfl⟩ := hp
    obtain ⟨kb, hk, hkb⟩ := kb_of w5
    obtain ⟨h1, h2, T, e1, e2, s2, hT, fl⟩ := x_hadsC w1 w5 hkb hk ha hf c
    refine ⟨nI (vB (fun j => hsA P np ng nT (cnA nT kb) nN 40 1 (T j)) 19), h2, P, S, nf, np, nl, ng, im, pa, nN, nb, nT, tl, tp, fk, fp, s2.M, ?_, w, RelC.X c (fun a k u => s2.1 a k (by omega)) s2.2, fun h m => ?_⟩
    · unfold g_X10_hads
      rw [xg_P1 c.1 w1 ha, xg_F1 c.1 w1 hf, e1, bnd_some, e2, bnd_some]
    · have mB := m.z hnp y.2.2.1
      obtain ⟨h3, e3, r3, f3⟩ := r_hadsM w1 w5 hkb hk ha hf T hT mB.1 mB.2.2.2.1
      have sB : scB (wrI h 255 0 0) (wrI h3 255 45 (-1)) := (f3.tr (frM_w h3 (-1) (Or.inl rfl))).B (by rw [wrI_at]; exact mB.1.2.2.1.symm)
      refine ⟨wrI h3 255 45 (-1), (scB_0 h).C.tr sB.C, ?_, RelM.X mB hnp y.2.2.1 (fun a k u => sB.1 a k (Or.inr u))⟩
      unfold g_X11_hads
      simp only [pfI]
      rw [rg_A1 mB.1.1 hnf hnp ha hf, e3, bnd_some]
  · refine ⟨-1, h, P, S, nf, np, nl, ng, im, pa, nN, nb, nT, tl, tp, fk, fp, fM_rf h, ?_, w, c, fun h m => ⟨_, (scB_0 h).C, ?_, m.z hnp y.2.2.1⟩⟩
    · unfold g_X10_hads
      by_cases pa : prs a0 np
      · have pf : ¬ prs a1 nf := fun q => hp ⟨pa, q⟩
        obtain ⟨k, hk, rfl⟩ := pa
        rw [xg_P1 c.1 w1 hk, xg_F0 c.1 w1 pf]
      · rw [xg_P0 c.1 w1 pa]
    · unfold g_X11_hads
      simp only [pfI]
      rw [rg_A0 (m.z hnp y.2.2.1).1.1 hnf hnp hp]
/-! the worst at an hour -/
def ctW (b : Nat → Bool) (g : Nat → Nat) (v : Nat) : Nat → Nat
  | 0 => 0
  | j + 1 => if b j = true ∧ g j = v then ctW b g v j + 1 else ctW b g v j
def moW (b : Nat → Bool) (g : Nat → Nat) : Nat → Nat
  | 0 => 0
  | j + 1 => if b j = true then max (moW b g j) (ctW b g (g j) (j + 1)) else moW b g j
def worW (b : Nat → Bool) (g : Nat → Nat) : Nat → Nat
  | 0 => 0
  | k + 1 => if b k = true then max (worW b g k) (ctW b g (g k) 19) else worW b g k
theorem ctW_le (b : Nat → Bool) (g : Nat → Nat) (v : Nat) : ∀ j, ctW b g v j ≤ j
  | 0 => Nat.le_refl _
  | j + 1 => by
    have := ctW_le b g v j
    unfold ctW
    split <;> omega
theorem ctW_mono (b : Nat → Bool) (g : Nat → Nat) (v : Nat) (j : Nat) : ∀ r, ctW b g v j ≤ ctW b g v (j + r)
  | 0 => Nat.le_refl _
  | r + 1 => by
    have ih := ctW_mono b g v j r
    have e : ctW b g v (j + (r + 1)) = if b (j + r) = true ∧ g (j + r) = v then ctW b g v (j + r) + 1 else ctW b g v (j + r) := rfl
    rw [e]
    split <;> omega
theorem ctW_mo (b : Nat → Bool) (g : Nat → Nat) (v : Nat) : ∀ j, ctW b g v j ≤ moW b g j
  | 0 => Nat.le_refl _
  | j + 1 => by
    have ih := ctW_mo b g v j
    have e : ctW b g v (j + 1) = if b j = true ∧ g j = v then ctW b g v j + 1 else ctW b g v j := rfl
    have e2 : moW b g (j + 1) = if b j = true then max (moW b g j) (ctW b g (g j) (j + 1)) else moW b g j := rfl
    by_cases hb : b j = true
    · rw [e2, if_pos hb]
      by_cases hg : g j = v
      · rw [hg]; omega
      · rw [e, if_neg (fun z => hg z.2)]; omega
    · rw [e, e2, if_neg (fun z => hb z.1), if_neg hb]; exact ih
theorem ws_ge (b : Nat → Bool) (g : Nat → Nat) : ∀ k i, i < k → b i = true → ctW b g (g i) 19 ≤ worW b g k
  | 0, i, h, _ => absurd h (Nat.not_lt_zero _)
  | k + 1, i, h, hb => by
    unfold worW
    by_cases e : i = k
    · subst e; rw [if_pos hb]; omega
    · have := ws_ge b g k i (by omega) hb
      split <;> omega
theorem mo_le (b : Nat → Bool) (g : Nat → Nat) : ∀ j, j ≤ 19 → moW b g j ≤ worW b g 19
  | 0, _ => Nat.zero_le _
  | j + 1, h => by
    have ih := mo_le b g j (by omega)
    have e2 : moW b g (j + 1) = if b j = true then max (moW b g j) (ctW b g (g j) (j + 1)) else moW b g j := rfl
    rw [e2]
    by_cases hb : b j = true
    · rw [if_pos hb]
      have h1 := ws_ge b g 19 j (by omega) hb
      have h2 := ctW_mono b g (g j) (j + 1) (19 - (j + 1))
      rw [show j + 1 + (19 - (j + 1)) = 19 by omega] at h2
      omega
    · rw [if_neg hb]; exact ih
theorem ws_le (b : Nat → Bool) (g : Nat → Nat) : ∀ k, worW b g k ≤ moW b g 19
  | 0 => Nat.zero_le _
  | k + 1 => by
    have ih := ws_le b g k
    have h := ctW_mo b g (g k) 19
    unfold worW
    split <;> omega
theorem mo_ws (b : Nat → Bool) (g : Nat → Nat) : worW b g 19 = moW b g 19 := Nat.le_antisymm (ws_le b g 19) (mo_le b g 19 (Nat.le_refl _))
theorem mo_19 (b : Nat → Bool) (g : Nat → Nat) : ∀ j, moW b g j ≤ j
  | 0 => Nat.le_refl _
  | j + 1 => by
    have ih := mo_19 b g j
    have h := ctW_le b g (g j) (j + 1)
    have e2 : moW b g (j + 1) = if b j = true then max (moW b g j) (ctW b g (g j) (j + 1)) else moW b g j := rfl
    rw [e2]
    split <;> omega
theorem x_worst_L (b : Nat → Bool) (g : Nat → Nat) {t : Nat} (ht : t < 41) (hg : ∀ j, j < 19 → g j < 7) : ∀ (m i n : Nat) (h : HH), i + m = 19 → m < n → (∀ v, v < 7 → h.1 246 v = nI (ctW b g v i)) → (∀ j, j < 19 → h.1 (226 + 1 + 1 * j) t = nI (g j)) →
    ∃ h', g_X1_worst_L13 (nI (vB b 19)) (nI t) n (nI (moW b g i)) (nI i) h = some (nI (moW b g 19), h') ∧ (∀ x k, x ≠ 246 → h'.1 x k = h.1 x k) ∧ h'.2 = h.2 := by
  intro m
  induction m with
  | zero =>
    intro i n h hi hn e1 e2
    obtain ⟨n, rfl⟩ : ∃ n', n = n' + 1 := ⟨n - 1, by omega⟩
    obtain rfl : i = 19 := by omega
    exact ⟨h, by rw [g_X1_worst_L13, if_neg (show ¬ nI 19 < 19 by decide)], fun _ _ _ => rfl, rfl⟩
  | succ m ih =>
    intro i n h hi hn e1 e2
    obtain ⟨n, rfl⟩ : ∃ n', n = n' + 1 := ⟨n - 1, by omega⟩
    have hi19 : i < 19 := by omega
    have gi := hg i hi19
    have bit := bt_19 b hi19
    have em : moW b g (i + 1) = if b i = true then max (moW b g i) (ctW b g (g i) (i + 1)) else moW b g i := rfl
    have ec : ∀ v, ctW b g v (i + 1) = if b i = true ∧ g i = v then ctW b g v i + 1 else ctW b g v i := fun _ => rfl
    have l1 := ctW_le b g (g i) i
    have l2 := mo_19 b g i
    rw [g_X1_worst_L13, if_pos (show nI i < 19 from nI_lt (b := 19) hi19 (by decide))]
    simp only [jn, vl, nI_1]
    rw [bit]
    cases hb : b i with
    | false =>
      rw [hb] at em
      simp only [Bool.false_eq_true, if_false] at em
      obtain ⟨h', f1, f2, f3⟩ := ih (i + 1) n h (by omega) (by omega) (fun v hv => by rw [ec v, hb]; simp only [Bool.false_eq_true, false_and, if_false]; exact e1 v hv) e2
      refine ⟨h', ?_, f2, f3⟩
      rw [em] at f1
      simp only [Bool.false_eq_true, if_false, if_true]
      exact f1
    | true =>
      rw [hb] at em
      simp only [if_true] at em
      obtain ⟨h', f1, f2, f3⟩ := ih (i + 1) n (wrI h 246 (g i) (nI (ctW b g (g i) i + 1))) (by omega) (by omega) (fun v hv => by
        rw [ec v, hb, wrI_1]
        by_cases q : v = g i
        · rw [if_pos ⟨rfl, q⟩, if_pos ⟨rfl, q.symm⟩, q]
        · rw [if_neg (fun z => q z.2), if_neg (fun z => q z.2.symm)]; exact e1 v hv) (fun j hj => by rw [wrI_1, if_neg (by omega)]; exact e2 j hj)
      refine ⟨h', ?_, fun x k q => (f2 x k q).trans (by rw [wrI_1, if_neg (fun z => q z.1)]), f3⟩
      rw [em, ec (g i), hb] at f1
      simp only [and_self, if_true] at f1
      simp only [if_true]
      rw [if_neg (show ¬ (1 : Int32) = 0 by decide), ldR_of hi19 (by decide), ckH_of (sh_fl i hi19), ldI_of ht (by decide), e2 i hi19, ldI_of gi (by decide), e1 _ gi, stI_of gi (by decide), nI_1, ldI_of gi (by decide), wrI_at, mx_nI (by omega) (by omega)]
      exact f1
theorem x_worst (b : Nat → Bool) (g : Nat → Nat) {t : Nat} (ht : t < 41) (hg : ∀ j, j < 19 → g j < 7) {h : HH} (e2 : ∀ j, j < 19 → h.1 (226 + 1 + 1 * j) t = nI (g j)) : ∃ h', g_X1_worst (nI (vB b 19)) (nI t) h = some (nI (moW b g 19), h') ∧ (∀ x k, x ≠ 246 → h'.1 x k = h.1 x k) ∧ h'.2 = h.2 := by
  obtain ⟨N, hN⟩ : ∃ N : Nat, N = 1024 := ⟨_, rfl⟩
  obtain ⟨h1, e1, y1, f1, g1⟩ := x_fill sh_246 (by decide) 0 h
  obtain ⟨h2, e3, f3, g3⟩ := x_worst_L b g ht hg 19 0 N h1 rfl (by omega) (fun v hv => y1 v hv) (fun j hj => by rw [f1 _ _ (by omega)]; exact e2 j hj)
  refine ⟨h2, ?_, fun x k q => by rw [f3 x k q, f1 x k (fun z => q z.1)], by rw [g3, g1]⟩
  unfold g_X1_worst
  rw [e1, bnd_some, ← hN]
  exact e3
theorem r_w18 (K : Int32 → HH → Option (Int32 × HH)) (b : Nat → Bool) (g : Nat → Nat) (c3 : Int32) {t k : Nat} (ht : t < 41) (hk : k < 19) (hg : ∀ j, j < 19 → g j < 7) {h : HH} (e2 : ∀ j, j < 19 → h.1 294 (41 * j + t) = nI (g j)) : ∀ (m i n : Nat), i + m = 19 → m < n → g_X11_worstAt_L18 K (nI (vB b 19)) (nI t) c3 (nI k) n (nI (ctW b g (g k) i)) (nI i) h = K (nI (ctW b g (g k) 19)) h := by
  have ix : ∀ j : Nat, (41 : Int32) * nI j + nI t = nI (41 * j + t) := fun j => by rw [show (41 : Int32) = nI 41 from rfl, nI_mul, nI_add]
  intro m
  induction m with
  | zero =>
    intro i n hi hn
    obtain ⟨n, rfl⟩ : ∃ n', n = n' + 1 := ⟨n - 1, by omega⟩
    obtain rfl : i = 19 := by omega
    rw [g_X11_worstAt_L18, if_neg (show ¬ nI 19 < 19 by decide)]
  | succ m ih =>
    intro i n hi hn
    obtain ⟨n, rfl⟩ : ∃ n', n = n' + 1 := ⟨n - 1, by omega⟩
    have hi19 : i < 19 := by omega
    have h1 := ih (i + 1) n (by omega) (by omega)
    have ec : ctW b g (g k) (i + 1) = if b i = true ∧ g i = g k then ctW b g (g k) i + 1 else ctW b g (g k) i := rfl
    have gi := hg i hi19
    have gk := hg k hk
    rw [ec] at h1
    rw [g_X11_worstAt_L18, if_pos (show nI i < 19 from nI_lt (b := 19) hi19 (by decide))]
    simp only [jn, vl, nI_1]
    rw [bt_19 b hi19]
    cases hb : b i with
    | false =>
      rw [hb] at h1
      simp only [Bool.false_eq_true, false_and, if_false] at h1
      rw [if_neg (show ¬ ((if false = true then (1 : Int32) else 0) = 1) by decide), Int32.add_zero]
      exact h1
    | true =>
      rw [hb] at h1
      rw [if_pos (show ((if true = true then (1 : Int32) else 0) = 1) from rfl), ix, ix, ldI_of (by omega) (by decide), e2 i hi19, ldI_of (by omega) (by decide), e2 k hk]
      by_cases q : g i = g k
      · rw [if_pos ⟨rfl, q⟩] at h1
        rw [if_pos (by rw [q])]
        exact h1
      · rw [if_neg (fun z => q z.2)] at h1
        rw [if_neg (fun z => q ((nI_eq (by omega) (by omega)).mp z)), Int32.add_zero]
        exact h1
theorem r_w5 (b : Nat → Bool) (g : Nat → Nat) {t : Nat} (ht : t < 41) (hg : ∀ j, j < 19 → g j < 7) {h : HH} (e2 : ∀ j, j < 19 → h.1 294 (41 * j + t) = nI (g j)) : ∀ (m i n : Nat), i + m = 19 → m < n → g_X11_worstAt_L5 (nI (vB b 19)) (nI t) n (nI (worW b g i)) (nI i) h = some (nI (worW b g 19), h) := by
  obtain ⟨N, hN⟩ : ∃ N : Nat, N = 1024 := ⟨_, rfl⟩
  intro m
  induction m with
  | zero =>
    intro i n hi hn
    obtain ⟨n, rfl⟩ : ∃ n', n = n' + 1 := ⟨n - 1, by omega⟩
    obtain rfl : i = 19 := by omega
    rw [g_X11_worstAt_L5, if_neg (show ¬ nI 19 < 19 by decide)]
  | succ m ih =>
    intro i n hi hn
    obtain ⟨n, rfl⟩ : ∃ n', n = n' + 1 := ⟨n - 1, by omega⟩
    have hi19 : i < 19 := by omega
    have h1 := ih (i + 1) n (by omega) (by omega)
    have em : worW b g (i + 1) = if b i = true then max (worW b g i) (ctW b g (g i) 19) else worW b g i := rfl
    rw [em] at h1
    have l1 := ctW_le b g (g i) 19
    have l2 := ws_le b g i
    have l3 := mo_19 b g 19
    rw [g_X11_worstAt_L5, ← hN, if_pos (show nI i < 19 from nI_lt (b := 19) hi19 (by decide))]
    simp only [jn, vl, nI_1]
    refine Eq.trans (r_w18 _ b g _ ht hi19 hg e2 19 0 N rfl (by omega)) ?_
    rw [bt_19 b hi19]
    cases hb : b i with
    | false =>
      rw [hb] at h1
      simp only [Bool.false_eq_true, if_false] at h1
      rw [if_neg (show ¬ ((if false = true then (1 : Int32) else 0) = 1) by decide)]
      exact h1
    | true =>
      rw [hb] at h1
      simp only [if_true] at h1
      rw [if_pos (show ((if true = true then (1 : Int32) else 0) = 1) from rfl), mx_nI (by omega) (by omega)]
      exact h1
theorem r_worst (b : Nat → Bool) (g : Nat → Nat) {t : Nat} (ht : t < 41) (hg : ∀ j, j < 19 → g j < 7) {h : HH} (e2 : ∀ j, j < 19 → h.1 294 (41 * j + t) = nI (g j)) : g_X11_worstAt (nI (vB b 19)) (nI t) h = some (nI (moW b g 19), h) := by
  obtain ⟨N, hN⟩ : ∃ N : Nat, N = 1024 := ⟨_, rfl⟩
  unfold g_X11_worstAt
  rw [← hN, ← mo_ws]
  exact r_w5 b g ht hg e2 19 0 N rfl (by omega)
/-! ask -/
theorem r_as65 {P : TB} {nf np nl ng nN kb a f : Nat} {nb : Int32} {nT : TB} {c : Nat → Bool} (K : HH → Option (Int32 × HH)) (w : PW P nf np nl ng) (ha : a < np) (c3 c4 : Int32) {i : Nat} (hi : i < 19) : ∀ (m t n : Nat) (U : TB) (h : HH), t + m = 41 → m < n → 1 ≤ t → rH h P nf np nl ng a f nN nb nT kb c → MS h 1 U np → sX U nf np →
    ∃ h', frH h h' ∧ rH h' P nf np nl ng a f nN nb nT kb c ∧ g_X11_ask_L65 K (nI a) c3 c4 (nI i) n (nI t) h = K h' ∧ (∀ r, t ≤ r → r < 41 → h'.1 294 (41 * i + r) = itA (HR P np ng) (r + 1 - t) U 1 a) ∧ ∀ k, ¬ (41 * i + t ≤ k ∧ k < 41 * i + 41) → h'.1 294 k = h.1 294 k := by
  have hnp : np ≤ 6 := w.1.2.1
  have ix : ∀ j t : Nat, (41 : Int32) * nI j + nI t = nI (41 * j + t) := fun j t => by rw [show (41 : Int32) = nI 41 from rfl, nI_mul, nI_add]
  intro m
  induction m with
  | zero =>
    intro t n U h ht hn ht1 r ms sx
    obtain ⟨n, rfl⟩ : ∃ n', n = n' + 1 := ⟨n - 1, by omega⟩
    obtain rfl : t = 41 := by omega
    exact ⟨h, frH_rf h, r, by rw [g_X11_ask_L65, if_pos (show 40 < nI 41 by decide)], fun r h1 h2 => by omega, fun _ _ => rfl⟩
  | succ m ih =>
    intro t n U h ht hn ht1 r ms sx
    obtain ⟨n, rfl⟩ : ∃ n', n = n' + 1 := ⟨n - 1, by omega⟩
    obtain ⟨z1, z2, z3⟩ := m48_0 (h := h) w.1 r.2.2.2.1
    obtain ⟨h1, s1, k1, e1⟩ := r_passes (r.at w ms) w.1 z1 sx.2.1 sx.1 z2 z3
    obtain ⟨U1, hU1⟩ : ∃ U1, U1 = HR P np ng U := ⟨_, rfl⟩
    have hU1' : hrA P (P 3) np 1 ng false (-1) U = U1 := hU1.symm
    rw [hU1'] at k1
    have sx1 : sX U1 nf np := by rw [hU1]; exact sx.hr w.1
    have s2 : frH h1 (wrI h1 294 (41 * i + t) (U1 1 a)) := ⟨fun x k _ _ _ _ q => by rw [wrI_1, if_neg (fun z => q z.1)], rfl⟩
    have r1 := (r.fr s1.rh).fr s2
    have ms1 : MS (wrI h1 294 (41 * i + t) (U1 1 a)) 1 U1 np := k1.2.1.X hnp fun x k hk => by rw [wrI_1, if_neg (by unfold inH at hk; omega)]
    obtain ⟨h3, s3, r3, e3, v3, o3⟩ := ih (t + 1) n U1 _ (by omega) (by omega) (by omega) r1 ms1 sx1
    have o1 : ∀ k, h1.1 294 k = h.1 294 k := fun k => s1.t (by unfold inH; omega) (by omega) (by omega) (by omega)
    refine ⟨h3, (s1.rh.tr s2).tr s3, r3, ?_, fun r' q1 q2 => ?_, fun k q => by rw [o3 k (by omega), wrI_1, if_neg (by omega), o1 k]⟩
    · rw [← e3, g_X11_ask_L65, if_neg (show ¬ 40 < nI t from nI_nlt (a := 40) (by omega) (by decide)), show g_X11_passes 1 0 h = _ from e1, bnd_some, ix6_1, ldI_of (by omega) (by decide), (k1.2.1.1 a ha).1, ix, stI_of (by omega) (by decide)]
      simp only [vl, nI_1]
    · by_cases q : r' = t
      · subst q
        rw [o3 _ (by omega), wrI_at, show r' + 1 - r' = 0 + 1 by omega, hU1]
        rfl
      · rw [v3 r' (by omega) q2, show r' + 1 - t = (r' + 1 - (t + 1)) + 1 by omega, hU1]
        rfl
theorem r_as41 {P : TB} {nf np nl ng nN kb a f : Nat} {nb : Int32} {nT : TB} {c : Nat → Bool} (K : HH → Option (Int32 × HH)) (w : PW P nf np nl ng) (ha : a < np) (hf : f < nf) (c3 c4 : Int32) (T : Nat → TB) (hT : ∀ j, j < 19 → eqR (T j) (gB P a f j)) : ∀ (m i n : Nat) (h : HH), i + m = 19 → m < n → rH h P nf np nl ng a f nN nb nT kb c →
    ∃ h', frH h h' ∧ rH h' P nf np nl ng a f nN nb nT kb c ∧ g_X11_ask_L41 K (nI a) c3 c4 n (nI i) h = K h' ∧ (∀ j r, i ≤ j → j < 19 → 1 ≤ r → r < 41 → h'.1 294 (41 * j + r) = itA (HR P np ng) r (T j) 1 a) ∧ ∀ k, k < 41 * i → h'.1 294 k = h.1 294 k := by
  have hnp : np ≤ 6 := w.1.2.1
  obtain ⟨N, hN⟩ : ∃ N : Nat, N = 1024 := ⟨_, rfl⟩
  intro m
  induction m with
  | zero =>
    intro i n h hi hn r
    obtain ⟨n, rfl⟩ : ∃ n', n = n' + 1 := ⟨n - 1, by omega⟩
    obtain rfl : i = 19 := by omega
    exact ⟨h, frH_rf h, r, by rw [g_X11_ask_L41, if_neg (show ¬ nI 19 < 19 by decide)], fun j r h1 h2 => by omega, fun _ _ => rfl⟩
  | succ m ih =>
    intro i n h hi hn r
    obtain ⟨n, rfl⟩ : ∃ n', n = n' + 1 := ⟨n - 1, by omega⟩
    have hi19 : i < 19 := by omega
    obtain ⟨h1, e1, m1, s1, r1, o1⟩ := r_guess w ha hf (hT i hi19) r
    obtain ⟨h2, s2, r2, e2, v2, o2⟩ := r_as65 (fun (h15 : HH) => g_X11_ask_L41 K (nI a) c3 c4 n (nI (i + 1)) h15) w ha c3 c4 hi19 40 1 N (T i) h1 (by omega) (by omega) (by omega) r1 m1 ((hT i hi19).sX (gB_X w hi19) hnp)
    obtain ⟨h3, s3, r3, e3, v3, o3⟩ := ih (i + 1) n h2 (by omega) (by omega) r2
    refine ⟨h3, (s1.tr s2).tr s3, r3, ?_, fun j r' h1' h2' h3' h4' => ?_, fun k q => by rw [o3 k (by omega), o2 k (by omega), o1 k]⟩
    · rw [← e3, g_X11_ask_L41, ← hN, if_pos (show nI i < 19 from nI_lt (b := 19) hi19 (by decide))]
      simp only [pfI, vl, nI_1]
      rw [e1, bnd_some]
      exact e2
    · by_cases q : j = i
      · subst q
        rw [o3 _ (by omega), v2 r' h3' h4', show r' + 1 - 1 = r' by omega]
      · exact v3 j r' (by omega) h2' h3' h4'
theorem ak_L {b : Nat → Bool} {G : Nat → Nat → Nat} (hG : ∀ t j, j < 19 → G t j < 7) (KC : Int32 → Int32 → HH → Option (Int32 × HH)) (KM : Int32 → HH → Option (Int32 × HH)) (c3 c4 : Int32) : ∀ (m t n1 n2 β : Nat), t + m = 41 → m < n1 → m < n2 → 1 ≤ t → 1 ≤ β → β < 41 → ∃ β', 1 ≤ β' ∧ β' < 41 ∧
    (∀ h, (∀ j r, j < 19 → 1 ≤ r → r < 41 → h.1 (226 + 1 + 1 * j) r = nI (G r j)) → ∃ h', g_X10_ask_L68 KC c3 (nI (vB b 19)) n1 (nI β) (nI (moW b (G β) 19)) (nI t) h = KC (nI β') (nI (moW b (G β') 19)) h' ∧ (∀ x k, x ≠ 246 → h'.1 x k = h.1 x k) ∧ h'.2 = h.2) ∧
    ∀ h, (∀ j r, j < 19 → 1 ≤ r → r < 41 → h.1 294 (41 * j + r) = nI (G r j)) → g_X11_ask_L123 KM c4 (nI (vB b 19)) n2 (nI β) (nI t) h = KM (nI β') h := by
  intro m
  induction m with
  | zero =>
    intro t n1 n2 β ht h1 h2 ht1 b1 b2
    obtain ⟨n1, rfl⟩ : ∃ n', n1 = n' + 1 := ⟨n1 - 1, by omega⟩
    obtain ⟨n2, rfl⟩ : ∃ n', n2 = n' + 1 := ⟨n2 - 1, by omega⟩
    obtain rfl : t = 41 := by omega
    exact ⟨β, b1, b2, fun h e => ⟨h, by rw [g_X10_ask_L68, if_pos (show 40 < nI 41 by decide)], fun _ _ _ => rfl, rfl⟩, fun h e => by rw [g_X11_ask_L123, if_pos (show 40 < nI 41 by decide)]⟩
  | succ m ih =>
    intro t n1 n2 β ht h1 h2 ht1 b1 b2
    obtain ⟨n1, rfl⟩ : ∃ n', n1 = n' + 1 := ⟨n1 - 1, by omega⟩
    obtain ⟨n2, rfl⟩ : ∃ n', n2 = n' + 1 := ⟨n2 - 1, by omega⟩
    have t40 : ¬ 40 < nI t := nI_nlt (a := 40) (by omega) (by decide)
    have m1 := mo_19 b (G t) 19
    have m2 := mo_19 b (G β) 19
    obtain ⟨β', q1, q2, q3, q4⟩ := ih (t + 1) n1 n2 (if moW b (G t) 19 < moW b (G β) 19 then t else β) (by omega) (by omega) (by omega) (by omega) (by split <;> omega) (by split <;> omega)
    refine ⟨β', q1, q2, fun h e => ?_, fun h e => ?_⟩
    · obtain ⟨hA, eA, fA, gA⟩ := x_worst b (G t) (t := t) (by omega) (hG t) (h := h) (fun j hj => e j t hj ht1 (by omega))
      obtain ⟨hB, eB, fB', gB'⟩ := q3 hA (fun j r z1 z2 z3 => by rw [fA _ _ (by omega)]; exact e j r z1 z2 z3)
      refine ⟨hB, ?_, fun x k q => (fB' x k q).trans (fA x k q), gB'.trans gA⟩
      rw [← eB, g_X10_ask_L68, if_neg t40, eA, bnd_some]
      simp only [jn, vl, nI_1]
      by_cases q : moW b (G t) 19 < moW b (G β) 19
      · rw [if_pos (nI_lt q (by omega)), if_pos q]
      · rw [if_neg (nI_nlt (by omega) (by omega)), if_neg q]
    · rw [← q4 h e, g_X11_ask_L123, if_neg t40, r_worst b (G t) (by omega) (hG t) (fun j hj => e j t hj ht1 (by omega)), bnd_some, r_worst b (G β) (by omega) (hG β) (fun j hj => e j β hj b1 b2), bnd_some]
      simp only [jn, vl, nI_1]
      by_cases q : moW b (G t) 19 < moW b (G β) 19
      · rw [if_pos (nI_lt q (by omega)), if_pos q]
      · rw [if_neg (nI_nlt (by omega) (by omega)), if_neg q]
def flW (P : TB) (np ng : Nat) (T : Nat → TB) (a r j : Nat) : Nat := if j < 19 then (itA (HR P np ng) r (T j) 1 a).toNatClampNeg else 0
theorem flW_ok {P : TB} {nf np nl ng a f : Nat} (w : PW P nf np nl ng) (ha : a < np) (T : Nat → TB) (hT : ∀ j, j < 19 → eqR (T j) (gB P a f j)) (r j : Nat) (hj : j < 19) : flW P np ng T a r j < 7 ∧ itA (HR P np ng) r (T j) 1 a = nI (flW P np ng T a r j) := by
  have hnf : nf ≤ 6 := w.1.1
  have hnp : np ≤ 6 := w.1.2.1
  have sx := ((hT j hj).sX (gB_X w hj) hnp).it (P := P) (fo := P 3) (md := 1) w.1 (bare := false) (idle := -1) r
  obtain ⟨fl, q1, q2⟩ := sx.1 a ha
  have e : flW P np ng T a r j = fl := by
    unfold flW
    rw [if_pos hj]
    show (itA (hrA P (P 3) np 1 ng false (-1)) r (T j) 1 a).toNatClampNeg = fl
    rw [q2]; exact nI_clamp (by omega)
  rw [e]
  exact ⟨by omega, q2⟩
set_option maxRecDepth 100000 in
theorem c_ask (a0 a1 a2 : Int32) : Eqv (g_X10_ask a0 a1 a2) (g_X11_ask a0 a1 a2) := by
  refine Eqv_s fun P S nf np nl ng im pa nN nb nT tl tp fk fp w y h c => ?_
  have hnf : nf ≤ 6 := w.1.1.1
  have hnp : np ≤ 6 := w.1.1.2.1
  obtain ⟨w1, w2, w3, w4, w5⟩ := id w
  have no : (∀ h, RelC h P S im pa nN nb nT tl tp fk fp → g_X10_ask a0 a1 a2 h = some (-1, h)) → (∀ h, RelM h P S nf np nl ng im pa nN nb nT tl tp fk fp → g_X11_ask a0 a1 a2 h = some (-1, wrI h 255 0 0)) → ∃ (v : Int32) (h' : HH) (P' S' : TB) (nf' np' nl' ng' : Nat) (im' : Option TB) (pa' : List TB) (nN' : Nat) (nb' : Int32) (nT' : TB) (tl' : Nat) (tp' : Nat → Nat) (fk' fp' : Int32), fM h h' ∧ g_X10_ask a0 a1 a2 h = some (v, h') ∧ RelW P' S' nf' np' nl' ng' im' pa' nN' nb' nT' ∧ RelC h' P' S' im' pa' nN' nb' nT' tl' tp' fk' fp' ∧ (∀ h, RelM h P S nf np nl ng im pa nN nb nT tl tp fk fp → ∃ h', fC h h' ∧ g_X11_ask a0 a1 a2 h = some (v, h') ∧ RelM h' P' S' nf' np' nl' ng' im' pa' nN' nb' nT' tl' tp' fk' fp') := fun q1 q2 =>
    ⟨-1, h, P, S, nf, np, nl, ng, im, pa, nN, nb, nT, tl, tp, fk, fp, fM_rf h, q1 h c, w, c, fun h m => ⟨_, (scB_0 h).C, q2 h m, m.z hnp y.2.2.1⟩⟩
  by_cases hp : prs a0 np ∧ prs a1 nf
  rotate_left
  · refine no (fun h c => ?_) (fun h m => ?_)
    · unfold g_X10_ask
      by_cases pa : prs a0 np
      · have pf : ¬ prs a1 nf := fun q => hp ⟨pa, q⟩
        obtain ⟨k, hk, rfl⟩ := pa
        rw [xg_P1 c.1 w1 hk, xg_F0 c.1 w1 pf]
      · rw [xg_P0 c.1 w1 pa]
    · unfold g_X11_ask
      simp only [pfI]
      rw [rg_A0 (m.z hnp y.2.2.1).1.1 hnf hnp hp]
  obtain ⟨⟨a, ha, rfl⟩, f, hf, rfl⟩ := hp
  by_cases z0 : a2 < 0
  · exact no (fun h c => by unfold g_X10_ask; rw [xg_P1 c.1 w1 ha, xg_F1 c.1 w1 hf, if_pos z0]) (fun h m => by unfold g_X11_ask; simp only [pfI]; rw [rg_A1 (m.z hnp y.2.2.1).1.1 hnf hnp ha hf, if_pos z0])
  by_cases z1 : 1 < a2
  · exact no (fun h c => by unfold g_X10_ask; rw [xg_P1 c.1 w1 ha, xg_F1 c.1 w1 hf, if_neg z0, if_pos z1]) (fun h m => by unfold g_X11_ask; simp only [pfI]; rw [rg_A1 (m.z hnp y.2.2.1).1.1 hnf hnp ha hf, if_neg z0, if_pos z1])
  obtain ⟨kb, hk, hkb⟩ := kb_of w5
  obtain ⟨N, hN⟩ : ∃ N : Nat, N = 1024 := ⟨_, rfl⟩
  obtain ⟨h1, h2, T, e1, e2, s2, hT, fl⟩ := x_hadsC w1 w5 hkb hk ha hf c
  obtain ⟨b, hb⟩ : ∃ b : Nat → Bool, b = fun j => hsA P np ng nT (cnA nT kb) nN 40 1 (T j) := ⟨_, rfl⟩
  rw [← hb] at e2
  have hG : ∀ t j, j < 19 → flW P np ng T a t j < 7 := fun t j hj => (flW_ok w1 ha T hT t j hj).1
  obtain ⟨β, b1, b2, q3, q4⟩ := ak_L (b := b) hG (fun (z20 : Int32) (z21 : Int32) (h19 : HH) => if a2 = 0 then some (z20, h19) else some (z21, h19)) (fun (z29 : Int32) (h28 : HH) => if a2 = 0 then some (z29, h28) else bnd (g_X11_worstAt (nI (vB b 19)) z29 h28) fun r31 h30 => some (r31, h30)) a2 a2 39 2 N N 1 rfl (by omega) (by omega) (by omega) (by omega) (by omega)
  have rows : ∀ j r, j < 19 → 1 ≤ r → r < 41 → h2.1 (226 + 1 + 1 * j) r = nI (flW P np ng T a r j) := fun j r z1 z2 z3 => (fl j r z1 z2 z3).trans (flW_ok w1 ha T hT r j z1).2
  obtain ⟨h3, e3, f3, g3⟩ := x_worst b (flW P np ng T a 1) (t := 1) (by decide) (hG 1) (h := h2) (fun j hj => rows j 1 hj (by decide) (by decide))
  obtain ⟨h4, e4, f4, g4⟩ := q3 h3 (fun j r z1 z2 z3 => by rw [f3 _ _ (by omega)]; exact rows j r z1 z2 z3)
  have s4 : scA h h4 := s2.tr ⟨fun x k q => by rw [f4 x k (by omega), f3 x k (by omega)], fun j _ => by rw [g4, g3]⟩
  refine ⟨if a2 = 0 then nI β else nI (moW b (flW P np ng T a β) 19), h4, P, S, nf, np, nl, ng, im, pa, nN, nb, nT, tl, tp, fk, fp, s4.M, ?_, w, RelC.X c (fun a k u => s4.1 a k (by omega)) s4.2, fun h m => ?_⟩
  · unfold g_X10_ask
    rw [xg_P1 c.1 w1 ha, xg_F1 c.1 w1 hf, if_neg z0, if_neg z1, e1, bnd_some, e2, bnd_some, show g_X1_worst (nI (vB b 19)) 1 h2 = _ from e3, bnd_some, ← hN]
    refine Eq.trans e4 ?_
    by_cases q : a2 = 0
    · rw [if_pos q, if_pos q]
    · rw [if_neg q, if_neg q]
  · have mB := m.z hnp y.2.2.1
    obtain ⟨h5, e5, r5, f5⟩ := r_hadsM w1 w5 hkb hk ha hf T hT mB.1 mB.2.2.2.1
    rw [← hb] at e5
    have same : wrI (wrI h5 255 45 (-1)) 255 45 (nI a) = h5 := by
      have q45 := r5.2.1
      refine Prod.ext ?_ rfl
      funext x i
      rw [wrI_1, wrI_1]
      by_cases q : x = 255 ∧ i = 45
      · rw [if_pos q, q.1, q.2, q45]
      · rw [if_neg q, if_neg q]
    obtain ⟨h6, s6, r6, e6, v6, o6⟩ := r_as41 (fun (h17 : HH) => g_X11_ask_L123 (fun (z29 : Int32) (h28 : HH) => if a2 = 0 then some (z29, h28) else bnd (g_X11_worstAt (nI (vB b 19)) z29 h28) fun r31 h30 => some (r31, h30)) a2 (nI (vB b 19)) N (1 : Int32) (2 : Int32) (wrI h17 255 45 (-1))) w1 ha hf a2 (nI (vB b 19)) T hT 19 0 N h5 rfl (by omega) r5
    have sB : scB (wrI h 255 0 0) (wrI h6 255 45 (-1)) := ((f5.tr s6.M).tr (frM_w h6 (-1) (Or.inl rfl))).B (by rw [wrI_at]; exact mB.1.2.2.1.symm)
    have rows2 : ∀ j r, j < 19 → 1 ≤ r → r < 41 → (wrI h6 255 45 (-1)).1 294 (41 * j + r) = nI (flW P np ng T a r j) := fun j r z1 z2 z3 => by rw [wrI_1, if_neg (by omega), v6 j r (Nat.zero_le _) z1 z2 z3]; exact (flW_ok w1 ha T hT r j z1).2
    have e7 := q4 _ rows2
    refine ⟨wrI h6 255 45 (-1), (scB_0 h).C.tr sB.C, ?_, RelM.X mB hnp y.2.2.1 (fun a k u => sB.1 a k (Or.inr u))⟩
    unfold g_X11_ask
    simp only [pfI]
    rw [rg_A1 mB.1.1 hnf hnp ha hf, if_neg z0, if_neg z1, e5, bnd_some, same, ← hN]
    refine Eq.trans e6 (Eq.trans e7 ?_)
    by_cases q : a2 = 0
    · rw [if_pos q, if_pos q]
    · rw [if_neg q, if_neg q, r_worst b (flW P np ng T a β) b2 (hG β) (fun j hj => rows2 j β hj b1 b2), bnd_some]
