/-! the reference: a ladder, an hour -/
/-- nothing but the house s, its own row, and what it works an E out with -/
def scG (s : Nat) (h h' : HH) : Prop := (∀ a k, ¬ inH s a k → ¬ (a = 255 ∧ (k = 35 ∨ k = 52)) → a ≠ 283 → a ≠ 284 → h'.1 a k = h.1 a k) ∧ (∀ a k, a ≠ 274 → a ≠ 275 → h'.2.1 a k = h.2.1 a k) ∧ h'.2.2 = h.2.2
theorem scG_rf (s : Nat) (h : HH) : scG s h h := ⟨fun _ _ _ _ _ _ => rfl, fun _ _ _ _ => rfl, rfl⟩
theorem scG.tr {s : Nat} {h1 h2 h3 : HH} (a : scG s h1 h2) (b : scG s h2 h3) : scG s h1 h3 := ⟨fun x k u v w y => (b.1 x k u v w y).trans (a.1 x k u v w y), fun x k u v => (b.2.1 x k u v).trans (a.2.1 x k u v), b.2.2.trans a.2.2⟩
theorem scH.G {s : Nat} {h h' : HH} (e : scH s h h') : scG s h h' := ⟨fun a k u v _ _ => e.1 a k u (fun q => v ⟨q.1, Or.inl q.2⟩), e.2.1, e.2.2⟩
/-- only its own row -/
def scK (h h' : HH) : Prop := (∀ a k, ¬ (a = 255 ∧ k = 52) → a ≠ 283 → a ≠ 284 → h'.1 a k = h.1 a k) ∧ h'.2 = h.2
theorem scK_rf (h : HH) : scK h h := ⟨fun _ _ _ _ _ => rfl, rfl⟩
theorem scK.tr {h1 h2 h3 : HH} (a : scK h1 h2) (b : scK h2 h3) : scK h1 h3 := ⟨fun x k u v w => (b.1 x k u v w).trans (a.1 x k u v w), b.2.trans a.2⟩
theorem scK.G {h h' : HH} (e : scK h h') (s : Nat) : scG s h h' := ⟨fun a k _ v w x => e.1 a k (fun q => v ⟨q.1, Or.inr q.2⟩) w x, fun a k _ _ => by rw [e.2], by rw [e.2]⟩
theorem scK_w (h : HH) {a k : Nat} (v : Int32) (ha : a = 283 ∨ a = 284 ∨ (a = 255 ∧ k = 52)) : scK h (wrI h a k v) := ⟨fun x i u1 u2 u3 => by rw [wrI_1, if_neg (by omega)], rfl⟩
theorem MP.X {h h' : HH} {P : TB} {nf np nl ng : Nat} (c : MP h P nf np nl ng) (s : ∀ a k, 257 ≤ a → a ≤ 273 → h'.1 a k = h.1 a k) : MP h' P nf np nl ng := by
  unfold MP at c ⊢
  simp only [s _ _ (show 257 ≤ 257 by decide) (by decide), s _ _ (show 257 ≤ 258 by decide) (by decide), s _ _ (show 257 ≤ 261 by decide) (by decide), s _ _ (show 257 ≤ 263 by decide) (by decide), s _ _ (show 257 ≤ 264 by decide) (by decide), s _ _ (show 257 ≤ 265 by decide) (by decide), s _ _ (show 257 ≤ 266 by decide) (by decide), s _ _ (show 257 ≤ 267 by decide) (by decide), s _ _ (show 257 ≤ 268 by decide) (by decide), s _ _ (show 257 ≤ 269 by decide) (by decide), s _ _ (show 257 ≤ 270 by decide) (by decide), s _ _ (show 257 ≤ 271 by decide) (by decide), s _ _ (show 257 ≤ 272 by decide) (by decide), s _ _ (show 257 ≤ 273 by decide) (by decide)]
  exact c
theorem MS.X {h h' : HH} {S : TB} {s np : Nat} (c : MS h s S np) (hnp : np ≤ 6) (e : ∀ a k, inH s a k → h'.1 a k = h.1 a k) : MS h' s S np := by
  obtain ⟨c1, c2, c3, c4⟩ := c
  refine ⟨fun a ha => ?_, fun k hk => ?_, ?_, ?_⟩
  · rw [e 278 _ (by unfold inH; omega), e 279 _ (by unfold inH; omega), e 280 _ (by unfold inH; omega), e 281 _ (by unfold inH; omega)]; exact c1 a ha
  · rw [e 282 _ (by unfold inH; omega)]; exact c2 k hk
  · rw [e 276 _ (by unfold inH; omega)]; exact c3
  · rw [e 277 _ (by unfold inH; omega)]; exact c4
theorem MF.X {h h' : HH} {fo : Nat → Int32} {np : Nat} (c : MF h fo np) (e1 : h'.1 255 48 = h.1 255 48) (e2 : ∀ k, h'.1 261 k = h.1 261 k) : MF h' fo np := by
  intro a ha
  rw [e1, e2]
  exact c a ha
section RO
variable {P S : TB} {fo : Nat → Int32} {nf np nl ng s md : Nat} {h h' : HH}
theorem mAt.K (c : mAt h s P S fo nf np nl ng) (e : scK h h') : mAt h' s P S fo nf np nl ng := by
  obtain ⟨m, k, mf, wl, hs, hnf, hnp⟩ := c
  exact ⟨m.X fun a k h1 h2 => e.1 a k (by omega) (by omega) (by omega), k.X hnp fun a k hi => e.1 a k (by unfold inH at hi; omega) (by unfold inH at hi; omega) (by unfold inH at hi; omega), mf.X (e.1 _ _ (by omega) (by omega) (by omega)) (fun k => e.1 _ _ (by omega) (by omega) (by omega)), wl, hs, hnf, hnp⟩
theorem r_ropes1 (c : mAt h s P S fo nf np nl ng) {a : Nat} (ha : a < np) : ∃ h', scH s h h' ∧ mAt h' s P (up S 3 a (S 3 a + 1)) fo nf np nl ng ∧ (ldI h 280 138 (nI (6 * s + a)) fun v12 => stI h 280 138 (nI (6 * s + a)) (v12 + (1 : Int32)) fun h13 => some ((), h13)) = some ((), h') := by
  obtain ⟨m, k, mf, wl, hs, hnf, hnp⟩ := id c
  obtain ⟨w1, w2⟩ := c.wp (o := 3) (by decide) (by decide) ha (S 3 a + 1)
  exact ⟨_, w1, w2, by rw [ldI_of (by omega) (by decide), stI_of (by omega) (by decide), (k.1 a ha).2.2.1]⟩
theorem r_ropes2 (c : mAt h s P S fo nf np nl ng) {a l : Nat} (ha : a < np) (hl : l < nl) (hnl : nl ≤ 6) (y : Int32) : ∃ h', scH s h h' ∧ mAt h' s P (up (up S 1 a y) 2 a (mnI 99999 (S 2 a + P 6 l))) fo nf np nl ng ∧ (stI h 278 138 (nI (6 * s + a)) y fun h21 => ldI h21 279 138 (nI (6 * s + a)) fun v22 => ldI h21 265 12 (nI l) fun v23 => stI h21 279 138 (nI (6 * s + a)) (mnI (99999 : Int32) (v22 + v23)) fun h24 => some ((), h24)) = some ((), h') := by
  obtain ⟨m, k, mf, wl, hs, hnf, hnp⟩ := id c
  obtain ⟨w1, w2⟩ := c.wp (o := 1) (by decide) (by decide) ha y
  obtain ⟨v1, v2⟩ := w2.wp (o := 2) (by decide) (by decide) ha (mnI 99999 (S 2 a + P 6 l))
  have e2 : (wrI h 278 (6 * s + a) y).1 279 (6 * s + a) = S 2 a := by
    rw [wrI_1, if_neg (by omega)]; exact (k.1 a ha).2.1
  have e3 : (wrI h 278 (6 * s + a) y).1 265 l = P 6 l := by
    rw [wrI_1, if_neg (by omega)]; exact (m.2.2.2.2.2.2.2.1 l hl).2.2
  refine ⟨_, w1.tr v1, v2, ?_⟩
  rw [stI_of (by omega) (by decide), ldI_of (by omega) (by decide), ldI_of (by omega) (by decide), e2, e3, stI_of (by omega) (by decide)]
theorem r_ropes (c : mAt h s P S fo nf np nl ng) {bare : Bool} (hb : h.1 255 48 = 3 ↔ bare = true) {a l : Nat} (ha : a < np) (hl : l < nl) (hnl : nl ≤ 6) : ∃ h', scH s h h' ∧ mAt h' s P (swA P bare a l S) fo nf np nl ng ∧ g_X11_ropes (nI s) (nI a) (nI l) h = some ((), h') := by
  obtain ⟨m, k, mf, wl, hs, hnf, hnp⟩ := id c
  obtain ⟨l1, l2, l3⟩ := m.2.2.2.2.2.2.2.1 l hl
  have stuck := r_ropes1 c ha
  have moved := r_ropes2 c ha hl hnl
  have n10 : ¬ (1 : Int32) = 0 := by decide
  have e00 : (0 : Int32) = 0 := rfl
  unfold g_X11_ropes swA
  delta gfI jn vl
  dsimp only
  rw [ix6, ldI_of (by omega) (by decide), ldI_of (by omega) (by decide), (k.1 a ha).1, l1]
  by_cases b3 : h.1 255 48 = 3
  · have hb1 : bare = true := hb.mp b3
    rw [if_pos (Or.inl hb1)]
    by_cases k1 : S 1 a = P 4 l
    · rw [if_pos k1, if_pos b3]; exact stuck
    · rw [if_neg k1, if_pos b3]; exact stuck
  · have hb1 : ¬ bare = true := fun e => b3 (hb.mpr e)
    by_cases k1 : S 1 a = P 4 l
    · rw [if_pos k1, if_neg b3, if_neg n10, if_neg n10, if_neg (show ¬ (bare = true ∨ (¬ S 1 a = P 4 l ∧ ¬ S 1 a = P 5 l)) by simp [hb1, k1]), if_pos k1, ldI_of (by omega) (by decide), l2]
      exact moved (P 5 l)
    · by_cases k2 : S 1 a = P 5 l
      · rw [if_neg (show ¬ (bare = true ∨ (¬ S 1 a = P 4 l ∧ ¬ S 1 a = P 5 l)) by simp [hb1, k2]), if_neg k1, if_neg k1, if_neg b3, if_pos e00, if_pos e00, ldI_of (by omega) (by decide), (k.1 a ha).1, ldI_of (by omega) (by decide), l2, if_pos k2, ldI_of (by omega) (by decide), l1]
        exact moved (P 4 l)
      · rw [if_pos (show (bare = true ∨ (¬ S 1 a = P 4 l ∧ ¬ S 1 a = P 5 l)) from Or.inr ⟨k1, k2⟩), if_neg k1, if_neg b3, if_pos e00, ldI_of (by omega) (by decide), (k.1 a ha).1, ldI_of (by omega) (by decide), l2, if_neg k2]
        exact stuck
theorem go_kind (m : MP h P nf np nl ng) {g : Nat} (hg : g < ng) : h.1 266 g = P 7 g - 22 := by
  rw [(m.2.2.2.2.2.2.2.2.1 g hg).1]
  exact (Int32.add_sub_cancel _ _).symm
theorem r_does (c : mAt h s P S fo nf np nl ng) (w : gOk P nf np nl ng) {b : Int32} (hm : mdR h b md) (ht : tOk S) (hS : sOk S nf np) {bare : Bool} (hb : h.1 255 48 = 3 ↔ bare = true) {g : Nat} (hg : g < ng) :
    ∃ h', scH s h h' ∧ mAt h' s P (actA P fo np md bare S g) fo nf np nl ng ∧ g_X11_does (nI s) (nI g) b h = some ((), h') := by
  obtain ⟨m, k, mf, wl, hs, hnf, hnp⟩ := id c
  obtain ⟨g1, g2, g3⟩ := pg_ok w hg
  obtain ⟨t1, t2, t3⟩ := tg_ok w hg
  obtain ⟨f1, f2⟩ := fl_ok hS w.1 g2
  obtain ⟨m1, m2, m3, m4⟩ := m.2.2.2.2.2.2.2.2.1 g hg
  have h20 := w.2.2.2.1
  unfold g_X11_does actA
  rw [ldI_of (by omega) (by decide), m2, g3, ldI_of (by omega) (by decide), go_kind m hg]
  by_cases k1 : P 7 g = 22
  · rw [if_pos (show P 7 g - 22 = 0 by rw [k1]; decide), if_pos k1, ldI_of (by omega) (by decide), m4, t1]
    obtain ⟨h1, s1, c1, e1⟩ := r_goesTo c hm ht g2 f1 f2 (t2 k1)
    rw [e1, bnd_some]
    exact ⟨h1, s1, c1, rfl⟩
  · have n1 : ¬ P 7 g - 22 = 0 := fun e => k1 (by rw [← Int32.sub_add_cancel (P 7 g) 22, e]; decide)
    rw [if_neg n1, if_neg k1, ldI_of (by omega) (by decide), go_kind m hg]
    by_cases k2 : P 7 g = 23
    · rw [if_pos (show P 7 g - 22 = 1 by rw [k2]; decide), if_pos k2, ldI_of (by omega) (by decide), m4, t1]
      obtain ⟨h1, s1, c1, e1⟩ := r_ropes c hb g2 (t3 k2) w.2.2.1
      rw [e1, bnd_some]
      exact ⟨h1, s1, c1, rfl⟩
    · have n2 : ¬ P 7 g - 22 = 1 := fun e => k2 (by rw [← Int32.sub_add_cancel (P 7 g) 22, e]; decide)
      obtain ⟨w1, w2⟩ := c.wp (o := 1) (by decide) (by decide) g2 0
      rw [if_neg n2, if_neg k2, ix6, stI_of (by omega) (by decide)]
      exact ⟨_, w1, w2, rfl⟩
/-- the rank that the reference keeps -/
def tuO (h : HH) (P S : TB) (l : List Nat) : Prop := ∀ y ∈ l, h.1 283 y = rkA P S y
theorem r_isAhead (c : mAt h s P S fo nf np nl ng) (w : gOk P nf np nl ng) {i j : Nat} (hij : j < i) (hi : i < ng) (t1 : h.1 283 i = rkA P S i) (t2 : h.1 283 j = rkA P S j) : g_X11_isAhead (nI i) (nI j) h = some (if cfA P S fo i j then 1 else 0, h) := by
  obtain ⟨m, k, mf, wl, hs, hnf, hnp⟩ := id c
  obtain ⟨g1, g2, g3⟩ := pg_ok w hi
  obtain ⟨k1, k2, k3⟩ := pg_ok w (g := j) (by omega)
  have h20 := w.2.2.2.1
  unfold g_X11_isAhead cfA
  rw [ldI_of (by omega) (by decide), ldI_of (by omega) (by decide), t1, t2]
  by_cases e : rkA P S i = rkA P S j
  · rw [if_pos e, if_pos e, ldI_of (by omega) (by decide), (m.2.2.2.2.2.2.2.2.1 i hi).2.1, g3, r_force mf hnp g2, bnd_some, ldI_of (by omega) (by decide), (m.2.2.2.2.2.2.2.2.1 j (by omega)).2.1, k3, r_force mf hnp k2, bnd_some]
    by_cases e2 : fo (pg P i) = fo (pg P j)
    · have e3 : ¬ fo (pg P j) < fo (pg P i) := by rw [e2]; exact fun q => Int32.lt_irrefl q
      rw [if_pos e2, if_neg (nI_nlt (by omega) (by omega))]
      simp [e3]
    · rw [if_neg e2]
      by_cases e3 : fo (pg P j) < fo (pg P i)
      · rw [if_pos e3]; simp [e3]
      · rw [if_neg e3]; simp [e3]
  · rw [if_neg e, if_neg e, ldI_of (by omega) (by decide), ldI_of (by omega) (by decide), t1, t2]
    by_cases e2 : rkA P S i < rkA P S j
    · rw [if_pos e2]; simp [e2]
    · rw [if_neg e2]; simp [e2]
theorem r_ins (K : Int32 → HH → Option (Unit × HH)) (w : gOk P nf np nl ng) (c1 c2 : Int32) {i : Nat} (hi : i < ng) : ∀ (r : List Nat) (n : Nat) (sh : List Nat) (h : HH), mAt h s P S fo nf np nl ng → (∀ y ∈ r, y < i) → h.1 283 i = rkA P S i → tuO h P S r → r.length + sh.length + 1 ≤ 20 → r.length < n → RW 284 h r 0 → RW 284 h sh (r.length + 1) →
    ∃ h' s' r', ((∀ a k, a ≠ 284 → h'.1 a k = h.1 a k) ∧ h'.2 = h.2) ∧ mAt h' s P S fo nf np nl ng ∧ insR (cfA P S fo) i r = s' ++ i :: r' ∧ RW 284 h' (sh ++ s') (r'.length + 1) ∧ RW 284 h' r' 0 ∧ r'.length ≤ r.length ∧ g_X11_laysOrder_L116 K c1 c2 (nI i) n (nI r.length) h = K (nI r'.length) h' := by
  intro r
  induction r with
  | nil =>
    intro n sh h c hr hti htr hl hn hR hS
    obtain ⟨n, rfl⟩ : ∃ n', n = n' + 1 := ⟨n - 1, by omega⟩
    refine ⟨h, [], [], ⟨fun _ _ _ => rfl, rfl⟩, c, rfl, by rw [List.append_nil]; exact hS, trivial, Nat.le_refl _, ?_⟩
    rw [g_X11_laysOrder_L116]
    rw [if_neg (by decide)]
  | cons x r ih =>
    intro n sh h c hr hti htr hl hn hR hS
    obtain ⟨n, rfl⟩ : ∃ n', n = n' + 1 := ⟨n - 1, by omega⟩
    have hx : x < i := hr x (by simp)
    have hlen : (x :: r).length = r.length + 1 := rfl
    rw [hlen] at hl hn hS ⊢
    have e1 : h.1 284 r.length = nI x := by have := hR.1; simpa using this
    have ex : nI (r.length + 1) + -1 = nI r.length := by
      rw [show nI (r.length + 1) + -1 = nI (r.length + 1) - 1 by rw [Int32.sub_eq_add_neg]]
      exact nI_pred _
    have prog : g_X11_laysOrder_L116 K c1 c2 (nI i) (n + 1) (nI (r.length + 1)) h = if cfA P S fo i x then g_X11_laysOrder_L116 K c1 c2 (nI i) n (nI r.length) (wrI h 284 (r.length + 1) (nI x)) else K (nI (r.length + 1)) h := by
      rw [g_X11_laysOrder_L116]
      simp only [vl]
      rw [if_pos (show (0 : Int32) < nI (r.length + 1) from nI_lt (a := 0) (by omega) (by omega)), nI_pred, ldI_of (by omega) (by decide), e1, r_isAhead c w hx hi hti (htr x (by simp)), bnd_some]
      cases cfA P S fo i x with
      | true => simp only [if_true, i10, if_false]; rw [ldI_of (by omega) (by decide), e1, stI_of (by omega) (by decide), ex]
      | false => simp only [Bool.false_eq_true, if_false, if_true]
    rw [prog]
    unfold insR
    cases cfA P S fo i x with
    | false =>
      simp only [Bool.false_eq_true, if_false]
      exact ⟨h, [], x :: r, ⟨fun _ _ _ => rfl, rfl⟩, c, rfl, by rw [List.append_nil]; exact hS, hR, Nat.le_refl _, rfl⟩
    | true =>
      simp only [if_true]
      have s1 : scK h (wrI h 284 (r.length + 1) (nI x)) := scK_w _ _ (Or.inr (Or.inl rfl))
      have hR' : RW 284 (wrI h 284 (r.length + 1) (nI x)) r 0 := RW_upd r 0 (fun j _ h2 => by rw [wrI_1, if_neg (by omega)]) hR.2
      have hS' : RW 284 (wrI h 284 (r.length + 1) (nI x)) (sh ++ [x]) (r.length + 1) := by
        rw [RW_app]
        refine ⟨RW_upd sh _ (fun j h1 _ => by rw [wrI_1, if_neg (by simp at h1; omega)]) hS, ?_, trivial⟩
        show (wrI h 284 (r.length + 1) (nI x)).1 284 (r.length + 1 + 0) = nI x
        exact wrI_at _ _ _ _
      obtain ⟨h', s', r', t1, t2, t3, t4, t5, t6, t7⟩ := ih n (sh ++ [x]) _ (c.K s1) (fun y hy => hr y (List.mem_cons_of_mem _ hy)) (by rw [wrI_1, if_neg (by omega)]; exact hti) (fun y hy => by rw [wrI_1, if_neg (by omega)]; exact htr y (List.mem_cons_of_mem _ hy)) (by simp; omega) (by omega) hR' hS'
      refine ⟨h', x :: s', r', ⟨fun a k ha => (t1.1 a k ha).trans (by rw [wrI_1, if_neg (by omega)]), t1.2⟩, t2, by rw [t3]; rfl, ?_, t5, by omega, t7⟩
      rw [show sh ++ x :: s' = (sh ++ [x]) ++ s' by simp]
      exact t4
end RO
