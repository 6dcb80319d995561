/-! the class: what an hour does -/
def tg (P : TB) (g : Nat) : Nat := (P 10 g).toNatClampNeg
def flN (S : TB) (a : Nat) : Nat := (S 1 a).toNatClampNeg
def actA (P : TB) (fo : Nat → Int32) (np md : Nat) (bare : Bool) (S : TB) (g : Nat) : TB :=
  if P 7 g = 22 then (wkA P fo np md (pg P g) (flN S (pg P g)) (tg P g) S).2 else if P 7 g = 23 then swA P bare (pg P g) (tg P g) S else up S 1 (pg P g) 0
def rowA (f : TB → Nat → TB) : List Nat → TB → TB
  | [], S => S
  | x :: t, S => f (rowA f t S) x
/-- an hour -/
def hrA (P : TB) (fo : Nat → Int32) (np md ng : Nat) (bare : Bool) (idle : Int32) (S : TB) : TB :=
  up (rowA (actA P fo np md bare) (ordA P S fo (S 0 5) idle ng) S) 0 5 (rowA (actA P fo np md bare) (ordA P S fo (S 0 5) idle ng) S 0 5 + 1)
/-- people are on floors -/
def sOk (S : TB) (nf np : Nat) : Prop := ∀ a, a < np → ∃ fl, fl ≤ nf ∧ S 1 a = nI fl
theorem riA_ot (P S : TB) (fo : Nat → Int32) (np md a f : Nat) (b : Nat) (hb : b ≠ a) : (riA P S fo np md a f).2 1 b = S 1 b := by
  unfold riA
  split
  · simp only
    rw [up_ne _ _ _ _ _ _ (by omega)]
  · split
    · simp only
      rw [up_ne _ _ _ _ _ _ (by omega), up_ne _ _ _ _ _ _ (by omega), up_ne _ _ _ _ _ _ (by omega)]
    · simp only
      rw [up_ne _ _ _ _ _ _ (by omega), up_ne _ _ _ _ _ _ (by omega), up_ne _ _ _ _ _ _ (by omega), up_ne _ _ _ _ _ _ (by omega)]
theorem riA_nf {P S : TB} {fo : Nat → Int32} {np md a f : Nat} (hf : S 1 a = nI f) (h : (riA P S fo np md a f).1 = false) : ∃ fl, fl ≤ f ∧ (riA P S fo np md a f).2 1 a = nI fl := by
  unfold riA at h ⊢
  split
  · exact ⟨f, Nat.le_refl _, by simp only; rw [up_ne _ _ _ _ _ _ (by omega)]; exact hf⟩
  · rename_i c
    rw [if_neg c] at h
    split
    · exact ⟨0, Nat.zero_le _, by simp only [up_at]; rfl⟩
    · rename_i c2; rw [if_neg c2] at h; cases h
theorem upA_ot (P : TB) (fo : Nat → Int32) (np md a : Nat) (b : Nat) (hb : b ≠ a) : ∀ (k f : Nat) (S : TB), (upA P fo np md a k f S).2 1 b = S 1 b
  | 0, _, _ => rfl
  | k + 1, f, S => by
    unfold upA
    split
    · rw [upA_ot P fo np md a b hb k]; exact riA_ot _ _ _ _ _ _ _ _ hb
    · exact riA_ot _ _ _ _ _ _ _ _ hb
theorem upA_fl (P : TB) (fo : Nat → Int32) (np md a : Nat) : ∀ (k f : Nat) (S : TB), S 1 a = nI f → ∃ fl, fl ≤ f + k ∧ (upA P fo np md a k f S).2 1 a = nI fl
  | 0, f, _, h => ⟨f, by omega, h⟩
  | k + 1, f, S, h => by
    unfold upA
    cases hb : (riA P S fo np md a f).1 with
    | true =>
      simp only [if_true]
      obtain ⟨fl, h1, h2⟩ := upA_fl P fo np md a k (f + 1) _ (riA_fl hb)
      exact ⟨fl, by omega, h2⟩
    | false =>
      simp only [Bool.false_eq_true, if_false]
      obtain ⟨fl, h1, h2⟩ := riA_nf h hb
      exact ⟨fl, by omega, h2⟩
theorem dnA_ot (a t b : Nat) (hb : b ≠ a) : ∀ (k : Nat) (S : TB), dnA a t k S 1 b = S 1 b
  | 0, _ => rfl
  | k + 1, S => by
    unfold dnA
    rw [dnA_ot a t b hb k, up_ne _ _ _ _ _ _ (by omega), up_ne _ _ _ _ _ _ (by omega)]
theorem wkA_ok {P S : TB} {fo : Nat → Int32} {np md nf a fl t : Nat} (hS : sOk S nf np) (hf : S 1 a = nI fl) (hfn : fl ≤ nf) (ht : t ≤ nf) : sOk (wkA P fo np md a fl t S).2 nf np := by
  intro b hb
  unfold wkA
  by_cases e : b = a
  · subst e
    split
    · exact ⟨t, ht, dnA_fl _ _ _ _ (Or.inl (by omega))⟩
    · obtain ⟨fl', h1, h2⟩ := upA_fl P fo np md b (t - fl) fl S hf
      exact ⟨fl', by omega, h2⟩
  · obtain ⟨fl', h1, h2⟩ := hS b hb
    refine ⟨fl', h1, ?_⟩
    split
    · exact (dnA_ot a t b e _ _).trans h2
    · exact (upA_ot P fo np md a b e _ _ _).trans h2
theorem tg_ok {P : TB} {nf np nl ng g : Nat} (w : gOk P nf np nl ng) (hg : g < ng) : P 10 g = nI (tg P g) ∧ (P 7 g = 22 → tg P g ≤ nf) ∧ (P 7 g = 23 → tg P g < nl) := by
  obtain ⟨-, -, -, t, h1, h2, h3, h4⟩ := w.2.2.2.2.2.2.1 g hg
  have : tg P g = t := by unfold tg; rw [h1]; exact nI_clamp (by omega)
  rw [this]
  exact ⟨h1, h2, h3⟩
theorem fl_ok {S : TB} {nf np a : Nat} (hS : sOk S nf np) (hn : nf ≤ 6) (ha : a < np) : S 1 a = nI (flN S a) ∧ flN S a ≤ nf := by
  obtain ⟨fl, h1, h2⟩ := hS a ha
  have : flN S a = fl := by unfold flN; rw [h2]; exact nI_clamp (by omega)
  rw [this]
  exact ⟨h2, h1⟩
theorem actA_ok {P S : TB} {fo : Nat → Int32} {nf np nl ng md : Nat} (w : gOk P nf np nl ng) (bare : Bool) (hS : sOk S nf np) {g : Nat} (hg : g < ng) : sOk (actA P fo np md bare S g) nf np := by
  obtain ⟨g1, g2, g3⟩ := pg_ok w hg
  obtain ⟨t1, t2, t3⟩ := tg_ok w hg
  obtain ⟨f1, f2⟩ := fl_ok hS w.1 g2
  unfold actA
  split
  · rename_i k; exact wkA_ok hS f1 f2 (t2 k)
  · split
    · rename_i k
      obtain ⟨i, j, hi, hj, e1, e2⟩ := w.2.2.2.2.2.2.2 (tg P g) (t3 k)
      intro b hb
      unfold swA
      split
      · obtain ⟨fl, h1, h2⟩ := hS b hb
        exact ⟨fl, h1, by rw [up_ne _ _ _ _ _ _ (by omega)]; exact h2⟩
      · rw [up_ne _ _ _ _ _ _ (by omega)]
        by_cases e : b = pg P g
        · subst e
          rw [up_at]
          split
          · exact ⟨j, hj, e2⟩
          · exact ⟨i, hi, e1⟩
        · obtain ⟨fl, h1, h2⟩ := hS b hb
          exact ⟨fl, h1, by rw [up_ne _ _ _ _ _ _ (by omega)]; exact h2⟩
    · intro b hb
      by_cases e : b = pg P g
      · subst e; exact ⟨0, Nat.zero_le _, by rw [up_at]; rfl⟩
      · obtain ⟨fl, h1, h2⟩ := hS b hb
        exact ⟨fl, h1, by rw [up_ne _ _ _ _ _ _ (by omega)]; exact h2⟩
theorem rowA_ok {P : TB} {fo : Nat → Int32} {nf np nl ng md : Nat} (w : gOk P nf np nl ng) (bare : Bool) : ∀ (l : List Nat) (S : TB), sOk S nf np → (∀ y ∈ l, y < ng) → sOk (rowA (actA P fo np md bare) l S) nf np
  | [], _, h, _ => h
  | x :: t, S, h, hl => actA_ok w bare (rowA_ok w bare t S h (fun y hy => hl y (List.mem_cons_of_mem _ hy))) (hl x (by simp))
section CH
variable {p q z np md nf nl ng : Nat} {P : TB} {fo : Nat → Int32}
theorem x_act {h : HH} {S : TB} (c : cAt h p q z P S fo np md) (w : gOk P nf np nl ng) (hS : sOk S nf np) {bare : Bool} (hb : h.1 193 8 = if bare then 1 else 0) {g : Nat} (hg : g < ng) (R : HH → Option (Unit × HH)) :
    ∃ h', scQ q h h' ∧ cAt h' p q z P (actA P fo np md bare S g) fo np md ∧ (if P 7 g = (22 : Int32) then (bnd (g_X0_walkTo (nI (pg P g)) (nI (tg P g)) h) fun r20 h19 => R h19) else (if P 7 g = (23 : Int32) then (bnd (g_X0_swing (nI (pg P g)) (nI (tg P g)) h) fun _ h21 => R h21) else (gfR h 3 fun p23 => ckH p23 (.inl 7) (stI h (p23 + 1) 6 (nI (pg P g)) (0 : Int32) fun h24 => R h24)))) = R h' := by
  obtain ⟨g1, g2, g3⟩ := pg_ok w hg
  obtain ⟨t1, t2, t3⟩ := tg_ok w hg
  obtain ⟨f1, f2⟩ := fl_ok hS w.1 g2
  unfold actA
  by_cases k : P 7 g = 22
  · rw [if_pos k, if_pos k]
    obtain ⟨h', s, c', e⟩ := x_walkTo c w.2.2.2.2.2.1 w.1 g1 f1 f2 (t2 k)
    exact ⟨h', s, c', by rw [e, bnd_some]⟩
  · rw [if_neg k, if_neg k]
    by_cases k3 : P 7 g = 23
    · rw [if_pos k3, if_pos k3]
      obtain ⟨h', s, c', e⟩ := x_swing c hb g1 (l := tg P g) (by have := w.2.2.1; have := t3 k3; omega)
      exact ⟨h', s, c', by rw [e, bnd_some]⟩
    · rw [if_neg k3, if_neg k3]
      obtain ⟨w1, w2⟩ := c.wr (o := 1) (pg P g) 0 (by decide)
      refine ⟨_, w1, w2, ?_⟩
      show (ckH (h.2.2 3) (.inl 7) (stI h ((h.2.2 3) + 1) 6 (nI (pg P g)) 0 fun h24 => R h24)) = _
      rw [c.2.1, ckH_of c.2.2.2.2.1, stI_of g1 (by decide)]
set_option maxRecDepth 100000 in
theorem x_row (K : HH → Option (Unit × HH)) (w : gOk P nf np nl ng) (bare : Bool) (l : List Nat) (hl : ∀ y ∈ l, y < ng) (hl20 : l.length ≤ 20) (S0 : TB) (hS0 : sOk S0 nf np) :
    ∀ (m n : Nat) (s t : List Nat) (h : HH), s.length = m → s ++ t = l → m < n → cAt h p q z P (rowA (actA P fo np md bare) t S0) fo np md → (h.1 193 8 = if bare then 1 else 0) → h.1 193 3 = nI l.length → RW 194 h l 0 →
      ∃ h', scQ q h h' ∧ cAt h' p q z P (rowA (actA P fo np md bare) l S0) fo np md ∧ g_X0_passOne_L13 K n (nI t.length) h = K h' := by
  intro m
  induction m with
  | zero =>
    intro n s t h hs hst hn c hb hlen hR
    obtain ⟨n, rfl⟩ : ∃ n', n = n' + 1 := ⟨n - 1, by omega⟩
    have : s = [] := List.eq_nil_of_length_eq_zero hs
    subst this
    have : t = l := hst
    subst this
    refine ⟨h, scQ_rf q h, c, ?_⟩
    rw [g_X0_passOne_L13]
    simp only [gfI]
    rw [hlen, if_neg (nI_nlt (Nat.le_refl _) (by omega))]
  | succ m ih =>
    intro n s t h hs hst hn c hb hlen hR
    obtain ⟨n, rfl⟩ : ∃ n', n = n' + 1 := ⟨n - 1, by omega⟩
    obtain ⟨s', x, rfl⟩ : ∃ s' x, s = s' ++ [x] := by
      have hne : s ≠ [] := fun e => by rw [e] at hs; cases hs
      exact ⟨s.dropLast, s.getLast hne, (List.dropLast_concat_getLast hne).symm⟩
    have hl' : s' ++ x :: t = l := by rw [← hst]; simp
    have hx : x < ng := hl x (by rw [← hl']; simp)
    have htl : t.length < l.length := by rw [← hl']; simp; omega
    have h20 := w.2.2.2.1
    have hRx : h.1 194 t.length = nI x := by
      have hR' := hR
      rw [← hl', RW_app] at hR'
      have := hR'.2.1
      simpa using this
    have ht : ∀ y ∈ t, y < ng := fun y hy => hl y (by rw [← hl']; simp [hy])
    obtain ⟨g1, g2, g3⟩ := pg_ok w hx
    obtain ⟨t1, t2, t3⟩ := tg_ok w hx
    have c7 := c.2.2.2.2.2.2.1
    obtain ⟨h1, s1, k1, e1⟩ := x_act c w (rowA_ok w bare t S0 hS0 ht) hb hx (fun h19 => g_X0_passOne_L13 K n (nI (t.length + 1)) h19)
    have c16 := c.2.2.2.2.2.2.2.2.2.2.2.2.2.2.2.1
    have prog : g_X0_passOne_L13 K (n + 1) (nI t.length) h = g_X0_passOne_L13 K n (nI (t.length + 1)) h1 := by
      refine Eq.trans ?_ e1
      rw [g_X0_passOne_L13]
      simp only [gfI, jn, vl, nI_1]
      rw [hlen, if_pos (nI_lt htl (by omega))]
      simp only [gfR]
      rw [c.1, ckH_of c.2.2.2.1, ldI_of (by omega) (by decide), hRx, ldI_of (by omega) (by decide), c7 8 x (by decide), g3, ckH_of c.2.2.2.1, ldI_of (by omega) (by decide), hRx, ldI_of (by omega) (by decide), c7 10 x (by decide), t1, ckH_of c.2.2.2.1, ldI_of (by omega) (by decide), hRx, ldI_of (by omega) (by decide), c7 7 x (by decide)]
    rw [prog]
    obtain ⟨h2, s2, k2, e2⟩ := ih n s' (x :: t) h1 (by simp at hs; omega) hl' (by omega) k1 (by rw [s1.1 193 8 (by omega)]; exact hb) (by rw [s1.1 193 3 (by omega)]; exact hlen) (RWs_mv (fun j => s1.1 194 j (by omega)) l 0 hR)
    exact ⟨h2, s1.tr s2, k2, e2⟩
set_option maxRecDepth 100000 in
theorem x_passOne {h : HH} {S : TB} (c : cAt h p q z P S fo np md) (w : gOk P nf np nl ng) (hS : sOk S nf np) {bare : Bool} (hb : h.1 193 8 = if bare then 1 else 0) {idle : Int32} (hid : h.1 193 7 = idle) :
    ∃ h', scF q h h' ∧ cAt h' p q z P (hrA P fo np md ng bare idle S) fo np md ∧ g_X0_passOne h = some ((), h') := by
  obtain ⟨h1, s1, k1, e1, n1, r1⟩ := x_lineUp w (S 0 5) idle c hid
  obtain ⟨ol, om⟩ := ordA_ok P S fo (S 0 5) idle ng
  have h20 := w.2.2.2.1
  obtain ⟨N, hN⟩ : ∃ N : Nat, N = 1024 := ⟨_, rfl⟩
  obtain ⟨h2, s2, k2, e2⟩ := x_row (fun (h25 : HH) => gfR h25 3 fun p26 => ckH p26 (.inl 7) (gfI h25 p26 5 fun v27 => pfI h25 p26 5 (v27 + (1 : Int32)) fun h28 => some ((), h28))) w bare (ordA P S fo (S 0 5) idle ng) om (by omega) S hS (ordA P S fo (S 0 5) idle ng).length N (ordA P S fo (S 0 5) idle ng) [] h1 rfl (by simp) (by omega) k1 (by rw [s1.1 193 8 (by omega) (by decide)]; exact hb) n1 r1
  obtain ⟨v1, v2⟩ := k2.wr (o := 0) 5 (rowA (actA P fo np md bare) (ordA P S fo (S 0 5) idle ng) S 0 5 + 1) (by decide)
  refine ⟨_, ((s1.F q).tr s2.F).tr v1.F, v2, ?_⟩
  have e5 : h.1 q 5 = S 0 5 := c.2.2.2.2.2.2.2.1 0 5 (by decide)
  have e6 : h2.1 q 5 = rowA (actA P fo np md bare) (ordA P S fo (S 0 5) idle ng) S 0 5 := k2.2.2.2.2.2.2.2.1 0 5 (by decide)
  unfold g_X0_passOne
  rw [← hN]
  show (ckH (h.2.2 3) (.inl 7) (bnd (g_X0_lineUp (h.1 (h.2.2 3) 5) h) fun _ h3 => g_X0_passOne_L13 _ N 0 h3)) = _
  rw [c.2.1, ckH_of c.2.2.2.2.1, e5, e1, bnd_some]
  refine Eq.trans e2 ?_
  show (ckH (h2.2.2 3) (.inl 7) (some ((), wrI h2 (h2.2.2 3) 5 (h2.1 (h2.2.2 3) 5 + 1)))) = _
  rw [k2.2.1, ckH_of k2.2.2.2.2.1, e6]
  rfl
end CH
