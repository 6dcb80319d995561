/-! the class's course: what it asks of a plan and a state -/
/-- how many people are on a floor -/
def manyS (fl : Nat → Int32) (f : Int32) : Nat → Int32
  | 0 => 0
  | n + 1 => manyS fl f n + (if fl n = f then 1 else 0)
/-- the names' values over a plan at p, a state at q, forces at z -/
def nmS (h : HH) (p q z : Nat) (np a f : Nat) (k : Int32) : Int32 :=
  if k = 35 then h.1 (p + 1) f else if k = 36 then nI f else if k = 37 then h.1 z a else if k = 38 then h.1 (q + 2) a else if k = 40 then h.1 q 5 else manyS (h.1 (q + 1)) (nI f) np
/-- the course stands over a plan, a state, forces -/
def cOn (h : HH) (p q z np : Nat) : Prop := h.2.2 2 = p ∧ h.2.2 3 = q ∧ h.2.2 4 = z ∧ shL[p]? = some (.inl 5) ∧ shL[q]? = some (.inl 7) ∧ shL[z]? = some (.inr (0, 6, 0)) ∧ h.1 p 2 = nI np ∧ np ≤ 6
theorem cOn.mv {h h' : HH} {p q z np : Nat} (c : cOn h p q z np) (e1 : h'.1 = h.1) (e2 : h'.2.2 = h.2.2) : cOn h' p q z np := by
  unfold cOn at c ⊢
  rw [e1, e2]
  exact c
theorem x_nameOf_L {h : HH} {p q z np : Nat} (c : cOn h p q z np) (f : Int32) : ∀ (m i n : Nat), i + m = np → m < n → g_X0_nameOf_L83 f n (manyS (h.1 (q + 1)) f i) (nI i) h = some (manyS (h.1 (q + 1)) f np, h) := by
  obtain ⟨c1, c2, c3, c4, c5, c6, c7, c8⟩ := c
  intro m
  induction m with
  | zero =>
    intro i n hi hn
    obtain ⟨n, rfl⟩ : ∃ n', n = n' + 1 := ⟨n - 1, by omega⟩
    rw [g_X0_nameOf_L83]
    simp only [gfR, gfI, c1]
    rw [ckH_of c4, c7, if_neg (nI_nlt (by omega) (by omega))]
    have : i = np := by omega
    rw [this]
  | succ m ih =>
    intro i n hi hn
    obtain ⟨n, rfl⟩ : ∃ n', n = n' + 1 := ⟨n - 1, by omega⟩
    rw [g_X0_nameOf_L83]
    simp only [gfR, gfI, c1, c2]
    rw [ckH_of c4, c7, if_pos (nI_lt (by omega) (by omega)), ckH_of c5, ldI_of (by omega) (by decide)]
    simp only [jn, vl, nI_1]
    have h1 := ih (i + 1) n (by omega) (by omega)
    by_cases e : h.1 (q + 1) i = f
    · rw [if_pos e]
      have : manyS (h.1 (q + 1)) f (i + 1) = manyS (h.1 (q + 1)) f i + 1 := by rw [manyS, if_pos e]
      rw [← this]; exact h1
    · rw [if_neg e]
      have : manyS (h.1 (q + 1)) f (i + 1) = manyS (h.1 (q + 1)) f i + 0 := by rw [manyS, if_neg e]
      rw [← this]; exact h1
theorem x_nameOf {h : HH} {p q z np : Nat} (c : cOn h p q z np) {a f : Nat} (ha : a < 6) (hf : f < 6) {k : Int32} (hk : k = 35 ∨ k = 36 ∨ k = 37 ∨ k = 38 ∨ k = 39 ∨ k = 40) : g_X0_nameOf k (nI a) (nI f) h = some (nmS h p q z np a f k, h) := by
  obtain ⟨c1, c2, c3, c4, c5, c6, c7, c8⟩ := id c
  unfold g_X0_nameOf nmS
  simp only [gfR, gfI, c1, c2, c3]
  by_cases k1 : k = 35
  · rw [if_pos k1, if_pos k1, ckH_of c4, ldI_of hf (by decide)]
  rw [if_neg k1, if_neg k1]
  by_cases k2 : k = 36
  · rw [if_pos k2, if_pos k2]
  rw [if_neg k2, if_neg k2]
  by_cases k3 : k = 37
  · rw [if_pos k3, if_pos k3, ckH_of c6, ldI_of ha (by decide)]
  rw [if_neg k3, if_neg k3]
  by_cases k4 : k = 38
  · rw [if_pos k4, if_pos k4, ckH_of c5, ldI_of ha (by decide)]
  rw [if_neg k4, if_neg k4]
  by_cases k5 : k = 40
  · rw [if_pos k5, if_pos k5, ckH_of c5]
  rw [if_neg k5, if_neg k5]
  exact x_nameOf_L c (nI f) np 0 1024 (by omega) (by omega)
/-- a law's E of a person on a flight, so much less on the tally; eM: an ERROR, or no law -/
def lwS (h : HH) (p q z np r a f : Nat) (less : Int32) : Int64 := lawV (h.1 (p + 12)) (h.1 (p + 13)) (fun k => if k = 34 then h.1 (q + 5) (6 * a + f) - less else nmS h p q z np a f k) ((h.1 (p + 14) r).toNatClampNeg) ((h.1 (p + 15) r).toNatClampNeg)
/-- the laws of a plan are told well -/
def lawsOk (h : HH) (p : Nat) : Prop := ∀ r, r < 3 → ∃ s e : Nat, h.1 (p + 14) r = nI s ∧ h.1 (p + 15) r = nI e ∧ lawOk (h.1 (p + 12)) s e ∧ ∀ i, i < e → kOk (h.1 (p + 12) i)
theorem x_valueOf {h : HH} {p q z np : Nat} (c : cOn h p q z np) (w : lawsOk h p) {r a f : Nat} (hr : r < 3) (ha : a < 6) (hf : f < 6) (less : Int32) : ∃ h', sc0 h h' ∧ g_X0_valueOf (nI r) (nI a) (nI f) less h = some (lwS h p q z np r a f less, h') := by
  obtain ⟨c1, c2, c3, c4, c5, c6, c7, c8⟩ := id c
  obtain ⟨s, e, hs, he, ⟨ho1, ho2, ho3⟩, hk⟩ := w r hr
  unfold g_X0_valueOf
  simp only [gfR, c1, c2]
  rw [ckH_of c4, ckH_of c5, x_cell, bnd_some, ldI_of (by omega) (by decide)]
  simp only [vl]
  rw [ldI_of hr (by decide), hs]
  have e1 : (h.1 (p + 14) r).toNatClampNeg = s := by rw [hs]; exact nI_clamp (by omega)
  have e2 : (h.1 (p + 15) r).toNatClampNeg = e := by rw [he]; exact nI_clamp (by omega)
  unfold lwS
  rw [e1, e2]
  unfold lawV
  by_cases hse : s < e
  · obtain ⟨h', q1, q2⟩ := x_valueOf_L (fun (z45 : Int32) (h44 : HH) => if z45 = (1 : Int32) then (ldL h44 195 64 (0 : Int32) fun v46 => some (v46, h44)) else (some ((-9223372036854775808 : Int64), h44))) r hr (nI a) (nI f) (h.1 (q + 5) (6 * a + f) - less) p (h.1 (p + 12)) (h.1 (p + 13)) (nmS h p q z np a f) e ho2 h (fun _ _ => rfl) (fun _ _ => rfl) he hk
      (fun h' e1 e2 k hk => by
        have h3 := x_nameOf (c.mv e1 e2) ha hf hk
        rw [h3]
        unfold nmS
        rw [e1])
      (e - s) s 1024 [] h (by omega) (by omega) (Nat.zero_le _) (sc0_rf h) trivial trivial (ho3 hse)
    refine ⟨h', q1, ?_⟩
    cases hev : evS (h.1 (p + 12)) (h.1 (p + 13)) (fun k => if k = 34 then h.1 (q + 5) (6 * a + f) - less else nmS h p q z np a f k) (e - s) s [] with
    | none => rw [hev] at q2; exact q2
    | some st' =>
      rw [hev] at q2
      obtain ⟨t1, t2, t3, t4⟩ := q2
      obtain ⟨v, rfl⟩ : ∃ v, st' = [v] := by
        rcases st' with _ | ⟨v, _ | ⟨b, r⟩⟩
        · cases t4
        · exact ⟨v, rfl⟩
        · simp at t4
      have h5 : h'.2.1 195 0 = v := t2.1
      refine t1.trans ?_
      rw [t4, if_pos (by decide)]
      show (ldL h' 195 64 (nI 0) fun v46 => some (v46, h')) = some (v, h')
      rw [ldL_of (by decide) (by decide), h5]
  · have : e = s := by omega
    subst this
    refine ⟨h, sc0_rf h, ?_⟩
    rw [Nat.sub_self]
    simp only [evS]
    rw [g_X0_valueOf_L39, ldI_of hr (by decide), he, if_neg (nI_nlt (Nat.le_refl _) (by omega)), if_neg (by decide)]
/-- how steep a flight is for a person, so much less on the tally -/
def stS (h : HH) (p q z np a f : Nat) (less : Int32) : Int32 :=
  if lwS h p q z np 0 a f less = eM then h.1 (p + 1) f + h.1 (q + 5) (6 * a + f) - less
  else h.1 (p + 1) f + Int64.toInt32 (mxL (-99) (mnL 999 (lwS h p q z np 0 a f less)))
theorem x_steepOf {h : HH} {p q z np : Nat} (c : cOn h p q z np) (w : lawsOk h p) {a f : Nat} (ha : a < 6) (hf : f < 6) (less : Int32) : ∃ h', sc0 h h' ∧ g_X0_steepOf (nI a) (nI f) less h = some (stS h p q z np a f less, h') := by
  obtain ⟨h1, s1, e1⟩ := x_valueOf c w (r := 0) (by decide) ha hf less
  have e1 : g_X0_valueOf 0 (nI a) (nI f) less h = some (lwS h p q z np 0 a f less, h1) := e1
  have c' := c.mv s1.1 s1.2.2
  obtain ⟨c1, c2, c3, c4, c5, c6, c7, c8⟩ := c'
  refine ⟨h1, s1, ?_⟩
  unfold g_X0_steepOf stS
  rw [e1, bnd_some]
  simp only [gfR, c1, c2]
  by_cases k : lwS h p q z np 0 a f less = eM
  · rw [if_pos (by rw [lc_eq]; exact k), if_pos k, ckH_of c4, ldI_of hf (by decide), ckH_of c5, x_cell, bnd_some, ldI_of (by omega) (by decide), s1.1]
  · rw [if_neg (by rw [lc_eq]; exact k), if_neg k, ckH_of c4, ldI_of hf (by decide), s1.1]
theorem lwS_mv {h h' : HH} (e : h'.1 = h.1) (p q z np r a f : Nat) (less : Int32) : lwS h' p q z np r a f less = lwS h p q z np r a f less := by
  unfold lwS nmS
  rw [e]
theorem stS_mv {h h' : HH} (e : h'.1 = h.1) (p q z np a f : Nat) (less : Int32) : stS h' p q z np a f less = stS h p q z np a f less := by
  unfold stS
  rw [lwS_mv e, e]
theorem lawsOk.mv {h h' : HH} {p : Nat} (w : lawsOk h p) (e : h'.1 = h.1) : lawsOk h' p := by
  unfold lawsOk at w ⊢
  rw [e]
  exact w
