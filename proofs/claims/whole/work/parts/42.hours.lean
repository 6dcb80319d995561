/-! the class: so many hours -/
theorem up_up (S : TB) (o k : Nat) (v w : Int32) : up (up S o k v) o k w = up S o k w := by
  funext x i
  unfold up
  split <;> rfl
theorem riA_hr (P S : TB) (fo : Nat → Int32) (np md a f : Nat) : (riA P S fo np md a f).2 0 5 = S 0 5 := by
  unfold riA
  split
  · simp only
    rw [up_ne _ _ _ _ _ _ (by omega)]
  · split
    · simp only
      rw [up_ne _ _ _ _ _ _ (by omega), up_ne _ _ _ _ _ _ (by omega), up_ne _ _ _ _ _ _ (by omega)]
    · simp only
      rw [up_ne _ _ _ _ _ _ (by omega), up_ne _ _ _ _ _ _ (by omega), up_ne _ _ _ _ _ _ (by omega), up_ne _ _ _ _ _ _ (by omega)]
theorem upA_hr (P : TB) (fo : Nat → Int32) (np md a : Nat) : ∀ (k f : Nat) (S : TB), (upA P fo np md a k f S).2 0 5 = S 0 5
  | 0, _, _ => rfl
  | k + 1, f, S => by
    unfold upA
    split
    · rw [upA_hr P fo np md a k]; exact riA_hr _ _ _ _ _ _ _
    · exact riA_hr _ _ _ _ _ _ _
theorem dnA_hr (a t : Nat) : ∀ (k : Nat) (S : TB), dnA a t k S 0 5 = S 0 5
  | 0, _ => rfl
  | k + 1, S => by
    unfold dnA
    rw [dnA_hr a t k, up_ne _ _ _ _ _ _ (by omega), up_ne _ _ _ _ _ _ (by omega)]
theorem actA_hr (P : TB) (fo : Nat → Int32) (np md : Nat) (bare : Bool) (S : TB) (g : Nat) : actA P fo np md bare S g 0 5 = S 0 5 := by
  unfold actA wkA swA
  split
  · split
    · exact dnA_hr _ _ _ _
    · exact upA_hr _ _ _ _ _ _ _ _
  · split
    · split
      · rw [up_ne _ _ _ _ _ _ (by omega)]
      · rw [up_ne _ _ _ _ _ _ (by omega), up_ne _ _ _ _ _ _ (by omega)]
    · rw [up_ne _ _ _ _ _ _ (by omega)]
theorem rowA_hr (P : TB) (fo : Nat → Int32) (np md : Nat) (bare : Bool) : ∀ (l : List Nat) (S : TB), rowA (actA P fo np md bare) l S 0 5 = S 0 5
  | [], _ => rfl
  | x :: t, S => (actA_hr _ _ _ _ _ _ _).trans (rowA_hr P fo np md bare t S)
def itA (f : TB → TB) : Nat → TB → TB
  | 0, S => S
  | n + 1, S => itA f n (f S)
theorem itA_add (f : TB → TB) : ∀ (a b : Nat) (S : TB), itA f (a + b) S = itA f b (itA f a S)
  | 0, b, S => by rw [Nat.zero_add]; rfl
  | a + 1, b, S => by
    rw [show a + 1 + b = (a + b) + 1 by omega]
    exact itA_add f a b (f S)
theorem hrA_hr (P : TB) (fo : Nat → Int32) (np md ng : Nat) (bare : Bool) (idle : Int32) (S : TB) : hrA P fo np md ng bare idle S 0 5 = S 0 5 + 1 := by
  unfold hrA
  rw [up_at, rowA_hr]
theorem hrA_ok {P S : TB} {fo : Nat → Int32} {nf np nl ng md : Nat} (w : gOk P nf np nl ng) (bare : Bool) (idle : Int32) (hS : sOk S nf np) : sOk (hrA P fo np md ng bare idle S) nf np := by
  intro a ha
  obtain ⟨fl, h1, h2⟩ := rowA_ok w bare _ S hS (ordA_ok P S fo (S 0 5) idle ng).2 a ha
  exact ⟨fl, h1, by unfold hrA; rw [up_ne _ _ _ _ _ _ (by omega)]; exact h2⟩
theorem ordA_nil (P S : TB) (fo : Nat → Int32) (hour idle : Int32) : ∀ g, (∀ i, i < g → ¬ P 9 i = hour) → ordA P S fo hour idle g = []
  | 0, _ => rfl
  | g + 1, h => by
    unfold ordA
    rw [if_neg (fun e => h g (by omega) e.1)]
    exact ordA_nil P S fo hour idle g (fun i hi => h i (by omega))
theorem itA_idle {P : TB} {fo : Nat → Int32} {np md ng : Nat} {bare : Bool} {idle : Int32} : ∀ (k u : Nat) (S : TB), S 0 5 = nI u → (∀ j, j < k → ∀ i, i < ng → ¬ P 9 i = nI (u + j)) → itA (hrA P fo np md ng bare idle) k S = up S 0 5 (nI (u + k))
  | 0, u, S, hu, _ => by rw [Nat.add_zero, ← hu, up_self]; rfl
  | k + 1, u, S, hu, hn => by
    have e1 : hrA P fo np md ng bare idle S = up S 0 5 (nI (u + 1)) := by
      unfold hrA
      rw [ordA_nil P S fo (S 0 5) idle ng (fun i hi => by rw [hu]; exact hn 0 (by omega) i hi)]
      show up S 0 5 (S 0 5 + 1) = _
      rw [hu, nI_1]
    show itA _ k (hrA P fo np md ng bare idle S) = _
    rw [e1, itA_idle k (u + 1) _ (up_at _ _ _ _) (fun j hj i hi => by rw [show u + 1 + j = u + (j + 1) by omega]; exact hn (j + 1) (by omega) i hi), up_up]
    congr 2
    omega
/-- the first hour, this one or later, that has goings -/
def fhA (P : TB) (u : Int32) : Nat → Int32
  | 0 => -1
  | i + 1 => if P 9 i < u then fhA P u i else if fhA P u i = -1 ∨ P 9 i < fhA P u i then P 9 i else fhA P u i
theorem m1_ne (v : Nat) (h : v < 2 ^ 31) : ¬ nI v = -1 := fun e => nI_pos h (by rw [e]; decide)
theorem fhA_ok {P : TB} {nf np nl ng : Nat} (w : gOk P nf np nl ng) {u : Nat} (hu : u < 2 ^ 31) : ∀ i, i ≤ ng → (fhA P (nI u) i = -1 ∧ ∀ g, g < i → P 9 g < nI u) ∨ ∃ v, v < 100 ∧ u ≤ v ∧ fhA P (nI u) i = nI v ∧ (∀ g, g < i → P 9 g < nI u ∨ ¬ P 9 g < nI v)
  | 0, _ => Or.inl ⟨rfl, fun g hg => absurd hg (by omega)⟩
  | i + 1, hi => by
    obtain ⟨-, -, ⟨x, hx, ex⟩, -⟩ := w.2.2.2.2.2.2.1 i (by omega)
    unfold fhA
    rcases fhA_ok w hu i (by omega) with ⟨h1, h2⟩ | ⟨v, h1, h2, h3, h4⟩
    · by_cases k : P 9 i < nI u
      · rw [if_pos k]
        refine Or.inl ⟨h1, fun g hg => ?_⟩
        by_cases e : g = i
        · rw [e]; exact k
        · exact h2 g (by omega)
      · rw [if_neg k, if_pos (Or.inl h1), ex]
        refine Or.inr ⟨x, hx, ?_, rfl, fun g hg => ?_⟩
        · rw [ex] at k
          exact Nat.not_lt.mp (fun c => k (nI_lt c hu))
        · by_cases e : g = i
          · rw [e, ex]; exact Or.inr (nI_nlt (Nat.le_refl _) (by omega))
          · exact Or.inl (h2 g (by omega))
    · by_cases k : P 9 i < nI u
      · rw [if_pos k]
        refine Or.inr ⟨v, h1, h2, h3, fun g hg => ?_⟩
        by_cases e : g = i
        · rw [e]; exact Or.inl k
        · exact h4 g (by omega)
      · rw [if_neg k, h3]
        by_cases k2 : P 9 i < nI v
        · rw [if_pos (Or.inr k2), ex]
          refine Or.inr ⟨x, hx, ?_, rfl, fun g hg => ?_⟩
          · rw [ex] at k
            exact Nat.not_lt.mp (fun c => k (nI_lt c hu))
          · by_cases e : g = i
            · rw [e, ex]; exact Or.inr (nI_nlt (Nat.le_refl _) (by omega))
            · obtain ⟨-, -, ⟨y, hy, ey⟩, -⟩ := w.2.2.2.2.2.2.1 g (by omega)
              rcases h4 g (by omega) with h5 | h5
              · exact Or.inl h5
              · right
                rw [ex] at k2
                have hxv : x < v := Nat.not_le.mp (fun c => nI_nlt c (by omega) k2)
                rw [ey] at h5 ⊢
                have hvy : v ≤ y := Nat.not_lt.mp (fun c => h5 (nI_lt c (by omega)))
                exact nI_nlt (by omega) (by omega)
        · rw [if_neg (show ¬ (nI v = -1 ∨ P 9 i < nI v) by simp [m1_ne v (by omega), k2])]
          refine Or.inr ⟨v, h1, h2, rfl, fun g hg => ?_⟩
          by_cases e : g = i
          · rw [e]; exact Or.inr k2
          · exact h4 g (by omega)
section CF
variable {p q z np md nf nl ng : Nat} {P : TB} {fo : Nat → Int32}
theorem x_firstHour_L (hp : shL[p]? = some (.inl 5)) (w : gOk P nf np nl ng) (u : Int32) {h : HH} (c7 : CP h p P) : ∀ (m i n : Nat), i + m = ng → m < n → g_X5_firstHour_L4 p u n (fhA P u i) (nI i) h = some (fhA P u ng, h) := by
  have h20 := w.2.2.2.1
  have e9 : h.1 p 9 = nI ng := (c7 0 9 (by decide)).trans w.2.2.2.2.1
  intro m
  induction m with
  | zero =>
    intro i n hi hn
    obtain ⟨n, rfl⟩ : ∃ n', n = n' + 1 := ⟨n - 1, by omega⟩
    rw [g_X5_firstHour_L4]
    simp only [gfI]
    rw [e9, if_neg (nI_nlt (by omega) (by omega)), show i = ng by omega]
  | succ m ih =>
    intro i n hi hn
    obtain ⟨n, rfl⟩ : ∃ n', n = n' + 1 := ⟨n - 1, by omega⟩
    have h1 := ih (i + 1) n (by omega) (by omega)
    rw [g_X5_firstHour_L4]
    simp only [gfI, jn, vl, nI_1]
    rw [e9, if_pos (nI_lt (by omega) (by omega)), ldI_of (by omega) (by decide), c7 9 i (by decide)]
    have hfs : fhA P u (i + 1) = if P 9 i < u then fhA P u i else if fhA P u i = -1 ∨ P 9 i < fhA P u i then P 9 i else fhA P u i := rfl
    rw [hfs] at h1
    by_cases k : P 9 i < u
    · rw [if_pos k] at h1 ⊢; exact h1
    · rw [if_neg k] at h1 ⊢
      by_cases k1 : fhA P u i = -1
      · rw [if_pos (Or.inl k1)] at h1
        rw [if_pos k1, ldI_of (by omega) (by decide), c7 9 i (by decide)]
        exact h1
      · rw [if_neg k1, ldI_of (by omega) (by decide), c7 9 i (by decide)]
        by_cases k2 : P 9 i < fhA P u i
        · rw [if_pos (Or.inr k2)] at h1
          rw [if_pos k2, ldI_of (by omega) (by decide), c7 9 i (by decide)]
          exact h1
        · rw [if_neg (show ¬ (fhA P u i = -1 ∨ P 9 i < fhA P u i) by simp [k1, k2])] at h1
          rw [if_neg k2]
          exact h1
theorem x_firstHour (hp : shL[p]? = some (.inl 5)) (w : gOk P nf np nl ng) (u : Int32) {h : HH} (c7 : CP h p P) : g_X5_firstHour p u h = some (fhA P u ng, h) := by
  have h20 := w.2.2.2.1
  unfold g_X5_firstHour
  rw [ckH_of hp]
  exact x_firstHour_L hp w u c7 ng 0 1024 (by omega) (by omega)
set_option maxRecDepth 100000 in
theorem x_pass_L (w : gOk P nf np nl ng) {bare : Bool} {idle : Int32} {e : Nat} (he : e < 2 ^ 31) (K : HH → Option (Unit × HH)) : ∀ (k x n u : Nat) (S : TB) (h : HH), u + k = e → k ≤ x → x < 2 ^ 31 → x < n → S 0 5 = nI u → sOk S nf np → cAt h p q z P S fo np md → (h.1 193 8 = if bare then 1 else 0) → h.1 193 7 = idle → (∀ g T, cAt g p q z P T fo np md → K g = some ((), wrI g q 5 (nI e))) →
    ∃ h', scF q h h' ∧ cAt h' p q z P (itA (hrA P fo np md ng bare idle) k S) fo np md ∧ g_X0_pass_L12 K K (nI e) n (nI x) h = some ((), h') := by
  intro k
  induction k using Nat.strongRecOn with
  | ind k ih =>
  intro x n u S h huk hkx hx hxn hS5 hS c hb hid hK
  obtain ⟨n, rfl⟩ : ∃ n', n = n' + 1 := ⟨n - 1, by omega⟩
  have stop : (∀ j, j < k → ∀ i, i < ng → ¬ P 9 i = nI (u + j)) → ∃ h', scF q h h' ∧ cAt h' p q z P (itA (hrA P fo np md ng bare idle) k S) fo np md ∧ K h = some ((), h') := by
    intro hn
    obtain ⟨w1, w2⟩ := c.wr (o := 0) 5 (nI e) (by decide)
    refine ⟨_, w1.F, ?_, hK h S c⟩
    rw [itA_idle k u S hS5 hn, huk]
    exact w2
  rw [g_X0_pass_L12]
  by_cases x0 : x = 0
  · subst x0
    rw [if_neg (show ¬ (0 : Int32) < nI 0 by decide)]
    exact stop (fun j hj => absurd hj (by omega))
  rw [if_pos (show (0 : Int32) < nI x from nI_lt (a := 0) (by omega) hx)]
  have e5 : h.1 q 5 = nI u := (c.2.2.2.2.2.2.2.1 0 5 (by decide)).trans hS5
  simp only [gfR, gfI, pfI, vl]
  rw [c.1, ckH_of c.2.2.2.1, c.2.1, ckH_of c.2.2.2.2.1, e5, x_firstHour c.2.2.2.1 w (nI u) c.2.2.2.2.2.2.1, bnd_some]
  rcases fhA_ok w (u := u) (by omega) ng (Nat.le_refl _) with ⟨f1, f2⟩ | ⟨v, f1, f2, f3, f4⟩
  · rw [f1, if_pos rfl]
    refine stop (fun j hj i hi e9 => ?_)
    have := f2 i hi
    rw [e9] at this
    exact nI_nlt (by omega) (by omega) this
  · rw [f3, if_neg (m1_ne v (by omega))]
    by_cases ve : v < e
    · rw [if_pos (nI_lt ve he)]
      rw [show h.2.2 3 = q from c.2.1, ckH_of c.2.2.2.2.1]
      obtain ⟨w1, w2⟩ := c.wr (o := 0) 5 (nI v) (by decide)
      have hidle : itA (hrA P fo np md ng bare idle) (v - u) S = up S 0 5 (nI v) := by
        rw [itA_idle (v - u) u S hS5 (fun j hj i hi e9 => ?_)]
        · congr 2; omega
        · rcases f4 i hi with h5 | h5
          · rw [e9] at h5; exact nI_nlt (by omega) (by omega) h5
          · rw [e9] at h5; exact h5 (nI_lt (by omega) (by omega))
      have hS1 : sOk (up S 0 5 (nI v)) nf np := by
        intro a ha
        obtain ⟨fl, g1, g2⟩ := hS a ha
        exact ⟨fl, g1, by rw [up_ne _ _ _ _ _ _ (by omega)]; exact g2⟩
      have c16 := c.2.2.2.2.2.2.2.2.2.2.2.2.2.2.2.1
      obtain ⟨h2, s2, k2, e2⟩ := x_passOne w2 w hS1 (bare := bare) (by rw [w1.1 193 8 (by omega)]; exact hb) (idle := idle) (by rw [w1.1 193 7 (by omega)]; exact hid)
      have e2' : g_X0_passOne (wrI h q 5 (nI v)) = some ((), h2) := e2
      rw [e2', bnd_some]
      have ex : nI x + -1 = nI (x - 1) := by
        obtain ⟨y, rfl⟩ : ∃ y, x = y + 1 := ⟨x - 1, by omega⟩
        rw [show nI (y + 1) + -1 = nI (y + 1) - 1 by rw [Int32.sub_eq_add_neg]]
        exact nI_pred _
      rw [ex]
      obtain ⟨h3, s3, k3, e3⟩ := ih (e - (v + 1)) (by omega) (x - 1) n (v + 1) _ h2 (by omega) (by omega) (by omega) (by omega) (by rw [hrA_hr, up_at, nI_1]) (hrA_ok w bare idle hS1) k2 (by rw [s2.1 193 8 (by omega) (by omega) (by omega), w1.1 193 8 (by omega)]; exact hb) (by rw [s2.1 193 7 (by omega) (by omega) (by omega), w1.1 193 7 (by omega)]; exact hid) hK
      refine ⟨h3, (w1.F.tr s2).tr s3, ?_, e3⟩
      have ek : k = (v - u) + ((e - (v + 1)) + 1) := by omega
      rw [ek, itA_add, hidle]
      exact k3
    · rw [if_neg (nI_nlt (by omega) (by omega))]
      refine stop (fun j hj i hi e9 => ?_)
      rcases f4 i hi with h5 | h5
      · rw [e9] at h5; exact nI_nlt (by omega) (by omega) h5
      · rw [e9] at h5; exact h5 (nI_lt (by omega) (by omega))
set_option maxRecDepth 100000 in
theorem x_pass (w : gOk P nf np nl ng) {bare : Bool} {idle : Int32} {k u : Nat} {S : TB} {h : HH} (hk : k ≤ 1000) (hu : u ≤ 100000) (hS5 : S 0 5 = nI u) (hS : sOk S nf np) (c : cAt h p q z P S fo np md) (hb : h.1 193 8 = if bare then 1 else 0) (hid : h.1 193 7 = idle) :
    ∃ h', scF q h h' ∧ cAt h' p q z P (itA (hrA P fo np md ng bare idle) k S) fo np md ∧ g_X0_pass (nI k) h = some ((), h') := by
  obtain ⟨N, hN⟩ : ∃ N : Nat, N = 1024 := ⟨_, rfl⟩
  have e5 : h.1 q 5 = nI u := (c.2.2.2.2.2.2.2.1 0 5 (by decide)).trans hS5
  obtain ⟨h', s, c', e⟩ := x_pass_L w (bare := bare) (idle := idle) (e := u + k) (by omega) (fun (h14 : HH) => gfR h14 3 fun p15 => ckH p15 (.inl 7) (pfI h14 p15 5 (nI (u + k)) fun h16 => some ((), h16))) k k N u S h rfl (Nat.le_refl _) (by omega) (by omega) hS5 hS c hb hid (fun g T cg => by
    show (ckH (g.2.2 3) (.inl 7) (some ((), wrI g (g.2.2 3) 5 (nI (u + k))))) = _
    rw [cg.2.1, ckH_of cg.2.2.2.2.1])
  refine ⟨h', s, c', ?_⟩
  unfold g_X0_pass
  rw [← hN]
  show (ckH (h.2.2 3) (.inl 7) (vl (h.1 (h.2.2 3) 5 + nI k) fun v3 => _)) = _
  rw [c.2.1, ckH_of c.2.2.2.2.1, e5, nI_add]
  exact e
end CF
