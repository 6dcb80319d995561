/-! the reference: the goings of an hour in their order; hours -/
/-- who stays idle as it tries -/
def idR (h : HH) (P : TB) (ng : Nat) (idle : Int32) : Prop := (h.1 255 48 = 2 ∧ h.1 255 49 = idle) ∨ (¬ h.1 255 48 = 2 ∧ ∀ g, g < ng → ¬ P 8 g = idle)
theorem idR.X {h h' : HH} {P : TB} {ng : Nat} {idle : Int32} (m : idR h P ng idle) (e1 : h'.1 255 48 = h.1 255 48) (e2 : h'.1 255 49 = h.1 255 49) : idR h' P ng idle := by unfold idR at m ⊢; rw [e1, e2]; exact m
theorem ldI_3 {β : Type} {h : HH} {a n : Nat} (hk : 3 < n) (hn : n < 2 ^ 31) (K : Int32 → Option β) : ldI h a n (3 : Int32) K = K (h.1 a 3) := ldI_of (k := 3) hk hn K
section RP
variable {P S : TB} {fo : Nat → Int32} {nf np nl ng s md : Nat} {h h' : HH}
theorem r_lay_in (c : mAt h s P S fo nf np nl ng) (w : gOk P nf np nl ng) {idle hour : Int32} (hi : idR h P ng idle) {g n : Nat} (hg : g < ng) (k : P 9 g = hour ∧ ¬ P 8 g = idle) :
    g_X11_laysOrder_L7 (nI s) hour (n + 1) (nI g) h = stI h 283 20 (nI g) (rkA P S g) fun h17 => g_X11_laysOrder_L116 (fun (z26 : Int32) (h25 : HH) => stI h25 284 20 z26 (nI g) fun h27 => g_X11_laysOrder_L7 (nI s) hour n (nI (g + 1)) (wrI h27 255 52 (h27.1 255 52 + (1 : Int32)))) (nI s) hour (nI g) 1024 (h17.1 255 52) h17 := by
  obtain ⟨m, q, mf, wl, hs, hnf, hnp⟩ := id c
  obtain ⟨g1, g2, g3⟩ := pg_ok w hg
  obtain ⟨m1, m2, m3, m4⟩ := m.2.2.2.2.2.2.2.2.1 g hg
  have h20 := w.2.2.2.1
  obtain ⟨N, hN⟩ : ∃ N : Nat, N = 1024 := ⟨_, rfl⟩
  rw [g_X11_laysOrder_L7, ← hN]
  delta gfI pfI jn vl
  dsimp only
  rw [ldI_3 (by decide) (by decide), m.2.2.2.1, if_pos (nI_lt hg (by omega)), ldI_of (by omega) (by decide), m3, if_pos k.1, nI_1]
  have main : (ldI h 266 40 (nI g) fun v12 => if v12 = 2 then stI h 283 20 (nI g) 0 fun h17 => g_X11_laysOrder_L116 (fun (z26 : Int32) (h25 : HH) => stI h25 284 20 z26 (nI g) fun h27 => g_X11_laysOrder_L7 (nI s) hour n (nI (g + 1)) (wrI h27 255 52 (h27.1 255 52 + (1 : Int32)))) (nI s) hour (nI g) N (h17.1 255 52) h17 else ldI h 266 40 (nI g) fun v30 => if v30 = 0 then ldI h 269 40 (nI g) fun v34 => ldI h 267 40 (nI g) fun v35 => ldI h 278 138 (6 * nI s + v35) fun v36 => if v34 < v36 then stI h 283 20 (nI g) 1 fun h17 => g_X11_laysOrder_L116 (fun (z26 : Int32) (h25 : HH) => stI h25 284 20 z26 (nI g) fun h27 => g_X11_laysOrder_L7 (nI s) hour n (nI (g + 1)) (wrI h27 255 52 (h27.1 255 52 + (1 : Int32)))) (nI s) hour (nI g) N (h17.1 255 52) h17 else stI h 283 20 (nI g) 2 fun h17 => g_X11_laysOrder_L116 (fun (z26 : Int32) (h25 : HH) => stI h25 284 20 z26 (nI g) fun h27 => g_X11_laysOrder_L7 (nI s) hour n (nI (g + 1)) (wrI h27 255 52 (h27.1 255 52 + (1 : Int32)))) (nI s) hour (nI g) N (h17.1 255 52) h17 else stI h 283 20 (nI g) 2 fun h17 => g_X11_laysOrder_L116 (fun (z26 : Int32) (h25 : HH) => stI h25 284 20 z26 (nI g) fun h27 => g_X11_laysOrder_L7 (nI s) hour n (nI (g + 1)) (wrI h27 255 52 (h27.1 255 52 + (1 : Int32)))) (nI s) hour (nI g) N (h17.1 255 52) h17) = stI h 283 20 (nI g) (rkA P S g) fun h17 => g_X11_laysOrder_L116 (fun (z26 : Int32) (h25 : HH) => stI h25 284 20 z26 (nI g) fun h27 => g_X11_laysOrder_L7 (nI s) hour n (nI (g + 1)) (wrI h27 255 52 (h27.1 255 52 + (1 : Int32)))) (nI s) hour (nI g) N (h17.1 255 52) h17 := by
    rw [ldI_of (by omega) (by decide), go_kind m hg]
    unfold rkA
    by_cases k1 : P 7 g = 24
    · rw [if_pos (show P 7 g - 22 = 2 by rw [k1]; decide), if_pos k1]
    · have n1 : ¬ P 7 g - 22 = 2 := fun e => k1 (by rw [← Int32.sub_add_cancel (P 7 g) 22, e]; decide)
      rw [if_neg n1, if_neg k1, ldI_of (by omega) (by decide), go_kind m hg]
      by_cases k2 : P 7 g = 22
      · rw [if_pos (show P 7 g - 22 = 0 by rw [k2]; decide), if_pos k2, ldI_of (by omega) (by decide), m4, ldI_of (by omega) (by decide), m2, g3, ix6, ldI_of (by omega) (by decide), (q.1 _ g2).1]
        by_cases k3 : P 10 g < S 1 (pg P g)
        · rw [if_pos k3, if_pos k3]
        · rw [if_neg k3, if_neg k3]
      · have n2 : ¬ P 7 g - 22 = 0 := fun e => k2 (by rw [← Int32.sub_add_cancel (P 7 g) 22, e]; decide)
        rw [if_neg n2, if_neg k2]
        by_cases k3 : P 10 g < S 1 (pg P g)
        · rw [if_pos k3]
        · rw [if_neg k3]
  rcases hi with ⟨h48, h49⟩ | ⟨h48, -⟩
  · rw [if_pos h48, ldI_of (by omega) (by decide), m2, h49, if_neg k.2]
    exact main
  · rw [if_neg h48]
    exact main
theorem r_lay_out (c : mAt h s P S fo nf np nl ng) (w : gOk P nf np nl ng) {idle hour : Int32} (hi : idR h P ng idle) {g n : Nat} (hg : g < ng) (k : ¬ (P 9 g = hour ∧ ¬ P 8 g = idle)) :
    g_X11_laysOrder_L7 (nI s) hour (n + 1) (nI g) h = g_X11_laysOrder_L7 (nI s) hour n (nI (g + 1)) h := by
  obtain ⟨m, q, mf, wl, hs, hnf, hnp⟩ := id c
  obtain ⟨m1, m2, m3, m4⟩ := m.2.2.2.2.2.2.2.2.1 g hg
  have h20 := w.2.2.2.1
  obtain ⟨N, hN⟩ : ∃ N : Nat, N = 1024 := ⟨_, rfl⟩
  rw [g_X11_laysOrder_L7, ← hN]
  delta gfI pfI jn vl
  dsimp only
  rw [ldI_3 (by decide) (by decide), m.2.2.2.1, if_pos (nI_lt hg (by omega)), ldI_of (by omega) (by decide), m3, nI_1]
  by_cases k1 : P 9 g = hour
  · have k2 : P 8 g = idle := by
      by_cases k2 : P 8 g = idle
      · exact k2
      · exact absurd ⟨k1, k2⟩ k
    rcases hi with ⟨h48, h49⟩ | ⟨h48, h49⟩
    · rw [if_pos k1, if_pos h48, ldI_of (by omega) (by decide), m2, h49, if_pos k2]
    · exact absurd k2 (h49 g hg)
  · rw [if_neg k1]
theorem tuO.X {h h' : HH} {P S : TB} {l : List Nat} (t : tuO h P S l) (e : ∀ k ∈ l, h'.1 283 k = h.1 283 k) : tuO h' P S l := fun y hy => (e y hy).trans (t y hy)
set_option maxRecDepth 100000 in
theorem r_lay_L (w : gOk P nf np nl ng) (hour idle : Int32) : ∀ (m g n : Nat) (h : HH), g + m = ng → m < n → mAt h s P S fo nf np nl ng → idR h P ng idle → h.1 255 52 = nI (ordA P S fo hour idle g).length → RW 284 h (ordA P S fo hour idle g) 0 → tuO h P S (ordA P S fo hour idle g) →
    ∃ h', scK h h' ∧ mAt h' s P S fo nf np nl ng ∧ g_X11_laysOrder_L7 (nI s) hour n (nI g) h = some ((), h') ∧ h'.1 255 52 = nI (ordA P S fo hour idle ng).length ∧ RW 284 h' (ordA P S fo hour idle ng) 0 := by
  intro m
  induction m with
  | zero =>
    intro g n h hg hn c hid hlen hR hT
    obtain ⟨n, rfl⟩ : ∃ n', n = n' + 1 := ⟨n - 1, by omega⟩
    have hgg : g = ng := by omega
    subst hgg
    refine ⟨h, scK_rf h, c, ?_, hlen, hR⟩
    have h20 := w.2.2.2.1
    rw [g_X11_laysOrder_L7, ldI_3 (by decide) (by decide), c.1.2.2.2.1, if_neg (nI_nlt (Nat.le_refl _) (by omega))]
  | succ m ih =>
    intro g n h hg hn c hid hlen hR hT
    obtain ⟨n, rfl⟩ : ∃ n', n = n' + 1 := ⟨n - 1, by omega⟩
    have h20 := w.2.2.2.1
    have hgn : g < ng := by omega
    by_cases k : P 9 g = hour ∧ ¬ P 8 g = idle
    · obtain ⟨ol, om⟩ := ordA_ok P S fo hour idle g
      rw [r_lay_in c w hid hgn k]
      obtain ⟨N, hN⟩ : ∃ N : Nat, N = 1024 := ⟨_, rfl⟩
      rw [← hN]
      have s0 : scK h (wrI h 283 g (rkA P S g)) := scK_w _ _ (Or.inl rfl)
      obtain ⟨h1, s', r', ⟨t1, t1'⟩, t2, t3, t4, t5, t6, t7⟩ := r_ins (fun (z26 : Int32) (h25 : HH) => stI h25 284 20 z26 (nI g) fun h27 => g_X11_laysOrder_L7 (nI s) hour n (nI (g + 1)) (wrI h27 255 52 (h27.1 255 52 + (1 : Int32)))) w (nI s) hour hgn (ordA P S fo hour idle g) N [] _ (c.K s0) om (wrI_at _ _ _ _) (hT.X fun y hy => by rw [wrI_1, if_neg (by have := om y hy; omega)]) (by simp; omega) (by omega) (RW_upd _ _ (fun j _ _ => by rw [wrI_1, if_neg (by omega)]) hR) trivial
      have hlen0 : (wrI h 283 g (rkA P S g)).1 255 52 = nI (ordA P S fo hour idle g).length := by rw [wrI_1, if_neg (by omega)]; exact hlen
      have hlen1 : h1.1 255 52 = nI (ordA P S fo hour idle g).length := (t1 255 52 (by omega)).trans hlen0
      have sX : scK (wrI h 283 g (rkA P S g)) h1 := ⟨fun a k _ _ u => t1 a k u, t1'⟩
      have hord : ordA P S fo hour idle (g + 1) = s' ++ g :: r' := by
        rw [ordA, if_pos k]; exact t3
      have hl2 : (ordA P S fo hour idle (g + 1)).length = (ordA P S fo hour idle g).length + 1 := by
        rw [ordA, if_pos k, insR_len]
      have sA : scK h1 (wrI h1 284 r'.length (nI g)) := scK_w _ _ (Or.inr (Or.inl rfl))
      have sB : scK (wrI h1 284 r'.length (nI g)) (wrI (wrI h1 284 r'.length (nI g)) 255 52 (nI ((ordA P S fo hour idle g).length + 1))) := scK_w _ _ (Or.inr (Or.inr ⟨rfl, rfl⟩))
      rw [stI_of (by omega) (by decide), hlen0, t7, stI_of (by omega) (by decide)]
      rw [show (wrI h1 284 r'.length (nI g)).1 255 52 = nI (ordA P S fo hour idle g).length by rw [wrI_1, if_neg (by omega)]; exact hlen1, nI_1]
      have t4' : RW 284 h1 s' (0 + (g :: r').length) := by
        rw [show 0 + (g :: r').length = r'.length + 1 by simp]
        exact t4
      have sC := ((s0.tr sX).tr sA).tr sB
      obtain ⟨h2, u1, u2, u3, u4, u5⟩ := ih (g + 1) n _ (by omega) (by omega) (c.K sC) (hid.X (sC.1 _ _ (by omega) (by omega) (by omega)) (sC.1 _ _ (by omega) (by omega) (by omega))) (by rw [wrI_at, hl2]) (by
        rw [hord, RW_app]
        refine ⟨?_, ?_, ?_⟩
        · refine RW_upd s' _ (fun j h1 _ => ?_) t4'
          rw [wrI_1, if_neg (by omega), wrI_1, if_neg (by simp at h1; omega)]
        · rw [wrI_1, if_neg (by omega), Nat.zero_add]; exact wrI_at _ _ _ _
        · refine RW_upd r' _ (fun j _ h2 => ?_) t5
          rw [wrI_1, if_neg (by omega), wrI_1, if_neg (by omega)]) (by
        intro y hy
        rw [wrI_1, if_neg (by omega), wrI_1, if_neg (by omega), t1 283 y (by omega), wrI_1]
        by_cases e : y = g
        · rw [if_pos ⟨rfl, e⟩, e]
        · rw [if_neg (fun q => e q.2)]
          rw [ordA, if_pos k] at hy
          rcases insR_mem _ _ _ _ hy with q | q
          · exact absurd q e
          · exact hT y q)
      exact ⟨h2, sC.tr u1, u2, u3, u4, u5⟩
    · have hord : ordA P S fo hour idle (g + 1) = ordA P S fo hour idle g := by rw [ordA, if_neg k]
      rw [r_lay_out c w hid hgn k]
      exact ih (g + 1) n h (by omega) (by omega) c hid (by rw [hord]; exact hlen) (by rw [hord]; exact hR) (by rw [hord]; exact hT)
theorem r_laysOrder (c : mAt h s P S fo nf np nl ng) (w : gOk P nf np nl ng) {idle : Int32} (hi : idR h P ng idle) (hour : Int32) :
    ∃ h', scK h h' ∧ mAt h' s P S fo nf np nl ng ∧ g_X11_laysOrder (nI s) hour h = some ((), h') ∧ h'.1 255 52 = nI (ordA P S fo hour idle ng).length ∧ RW 284 h' (ordA P S fo hour idle ng) 0 := by
  obtain ⟨N, hN⟩ : ∃ N : Nat, N = 1024 := ⟨_, rfl⟩
  have h20 := w.2.2.2.1
  have s0 : scK h (wrI h 255 52 0) := scK_w _ _ (Or.inr (Or.inr ⟨rfl, rfl⟩))
  obtain ⟨h1, s1, c1, e1, l1, r1⟩ := r_lay_L w hour idle ng 0 N _ (by omega) (by omega) (c.K s0) (hi.X (s0.1 _ _ (by omega) (by omega) (by omega)) (s0.1 _ _ (by omega) (by omega) (by omega))) (wrI_at _ _ _ _) trivial (fun y hy => by cases hy)
  refine ⟨h1, s0.tr s1, c1, ?_, l1, r1⟩
  unfold g_X11_laysOrder
  rw [← hN]
  exact e1
/-- a row that stays -/
theorem RW_H {h h' : HH} (e : scH s h h') (l : List Nat) (b : Nat) (r : RW 284 h l b) : RW 284 h' l b := RW_upd l b (fun j _ _ => e.1 284 j (by unfold inH; omega) (by omega)) r
set_option maxRecDepth 100000 in
theorem r_row (K : HH → Option (Unit × HH)) (w : gOk P nf np nl ng) {b : Int32} (bare : Bool) (l : List Nat) (hl : ∀ y ∈ l, y < ng) (hl20 : l.length ≤ 20) (S0 : TB) (hS0 : sOk S0 nf np) (hT0 : tOk S0) :
    ∀ (m n : Nat) (u t : List Nat) (h : HH), u.length = m → u ++ t = l → m < n → mAt h s P (rowA (actA P fo np md bare) t S0) fo nf np nl ng → mdR h b md → (h.1 255 48 = 3 ↔ bare = true) → h.1 255 52 = nI l.length → RW 284 h l 0 →
      ∃ h', scH s h h' ∧ mAt h' s P (rowA (actA P fo np md bare) l S0) fo nf np nl ng ∧ g_X11_passes_L13 K (nI s) b n (nI t.length) h = K h' := by
  intro m
  induction m with
  | zero =>
    intro n u t h hs hst hn c hm hb hlen hR
    obtain ⟨n, rfl⟩ : ∃ n', n = n' + 1 := ⟨n - 1, by omega⟩
    have : u = [] := List.eq_nil_of_length_eq_zero hs
    subst this
    have : t = l := hst
    subst this
    refine ⟨h, scH_rf s h, c, ?_⟩
    rw [g_X11_passes_L13]
    simp only [gfI]
    rw [hlen, if_neg (nI_nlt (Nat.le_refl _) (by omega))]
  | succ m ih =>
    intro n u t h hs hst hn c hm hb hlen hR
    obtain ⟨n, rfl⟩ : ∃ n', n = n' + 1 := ⟨n - 1, by omega⟩
    obtain ⟨s', x, rfl⟩ : ∃ s' x, u = s' ++ [x] := by
      have hne : u ≠ [] := fun e => by rw [e] at hs; cases hs
      exact ⟨u.dropLast, u.getLast hne, (List.dropLast_concat_getLast hne).symm⟩
    have hl' : s' ++ x :: t = l := by rw [← hst]; simp
    have hx : x < ng := hl x (by rw [← hl']; simp)
    have htl : t.length < l.length := by rw [← hl']; simp; omega
    have h20 := w.2.2.2.1
    have hRx : h.1 284 t.length = nI x := by
      have hR' := hR
      rw [← hl', RW_app] at hR'
      have := hR'.2.1
      simpa using this
    have ht : ∀ y ∈ t, y < ng := fun y hy => hl y (by rw [← hl']; simp [hy])
    obtain ⟨h1, s1, k1, e1⟩ := r_does c w hm (rowA_t t hT0) (rowA_ok w bare t S0 hS0 ht) hb hx
    have q1 : h1.1 255 48 = h.1 255 48 := s1.1 255 48 (by unfold inH; omega) (by omega)
    obtain ⟨h2, s2, c2, e2⟩ := ih n s' (x :: t) h1 (by simp at hs; omega) hl' (by omega) k1 (hm.mv q1) (by rw [q1]; exact hb) ((s1.1 255 52 (by unfold inH; omega) (by omega)).trans hlen) (RW_H s1 l 0 hR)
    refine ⟨h2, s1.tr s2, c2, ?_⟩
    rw [g_X11_passes_L13]
    simp only [gfI, vl, nI_1]
    rw [hlen, if_pos (nI_lt htl (by omega)), ldI_of (by omega) (by decide), hRx, e1, bnd_some]
    exact e2
set_option maxRecDepth 100000 in
theorem r_passes (c : mAt h s P S fo nf np nl ng) (w : gOk P nf np nl ng) {b : Int32} (hm : mdR h b md) (hT : tOk S) (hS : sOk S nf np) {bare : Bool} (hb : h.1 255 48 = 3 ↔ bare = true) {idle : Int32} (hi : idR h P ng idle) :
    ∃ h', scG s h h' ∧ mAt h' s P (hrA P fo np md ng bare idle S) fo nf np nl ng ∧ g_X11_passes (nI s) b h = some ((), h') := by
  obtain ⟨N, hN⟩ : ∃ N : Nat, N = 1024 := ⟨_, rfl⟩
  obtain ⟨m, q, mf, wl, hs, hnf, hnp⟩ := id c
  have h20 := w.2.2.2.1
  obtain ⟨h1, s1, c1, e1, l1, r1⟩ := r_laysOrder c w hi (S 0 5)
  obtain ⟨ol, om⟩ := ordA_ok P S fo (S 0 5) idle ng
  have q1 : h1.1 255 48 = h.1 255 48 := s1.1 255 48 (by omega) (by omega) (by omega)
  obtain ⟨h2, s2, c2, e2⟩ := r_row (fun (h9 : HH) => ldI h9 276 23 (nI s) fun v10 => stI h9 276 23 (nI s) (v10 + (1 : Int32)) fun h11 => some ((), h11)) w bare (ordA P S fo (S 0 5) idle ng) om (by omega) S hS hT (ordA P S fo (S 0 5) idle ng).length N (ordA P S fo (S 0 5) idle ng) [] h1 rfl (by simp) (by omega) c1 (hm.mv q1) (by rw [q1]; exact hb) l1 r1
  obtain ⟨v1, v2⟩ := c2.wh (rowA (actA P fo np md bare) (ordA P S fo (S 0 5) idle ng) S 0 5 + 1)
  refine ⟨_, ((s1.G s).tr s2.G).tr v1.G, v2, ?_⟩
  unfold g_X11_passes
  rw [← hN, ldI_of (by omega) (by decide), q.2.2.1, e1, bnd_some]
  refine Eq.trans e2 ?_
  show (ldI h2 276 23 (nI s) fun v10 => stI h2 276 23 (nI s) (v10 + (1 : Int32)) fun h11 => some ((), h11)) = _
  rw [ldI_of (by omega) (by decide), stI_of (by omega) (by decide), c2.2.1.2.2.1]
end RP
