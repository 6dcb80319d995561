/-! the class: the order of an hour's goings -/
/-- the goings of a plan are told well -/
def gOk (P : TB) (nf np nl ng : Nat) : Prop := nf ≤ 6 ∧ np ≤ 6 ∧ nl ≤ 6 ∧ ng ≤ 20 ∧ P 0 9 = nI ng ∧ P 0 0 = nI nf ∧ (∀ g, g < ng → (P 7 g = 22 ∨ P 7 g = 23 ∨ P 7 g = 24) ∧ (∃ a, a < np ∧ P 8 g = nI a) ∧ (∃ u, u < 100 ∧ P 9 g = nI u) ∧ ∃ t, P 10 g = nI t ∧ (P 7 g = 22 → t ≤ nf) ∧ (P 7 g = 23 → t < nl) ∧ t ≤ 6) ∧ ∀ l, l < nl → ∃ i j, i ≤ nf ∧ j ≤ nf ∧ P 4 l = nI i ∧ P 5 l = nI j
def pg (P : TB) (g : Nat) : Nat := (P 8 g).toNatClampNeg
theorem pg_ok {P : TB} {nf np nl ng g : Nat} (w : gOk P nf np nl ng) (hg : g < ng) : pg P g < 6 ∧ pg P g < np ∧ P 8 g = nI (pg P g) := by
  obtain ⟨w1, w2, w3, w4, w5, w6, w7, w8⟩ := w
  obtain ⟨-, ⟨a, ha, e⟩, -⟩ := w7 g hg
  have : pg P g = a := by unfold pg; rw [e]; exact nI_clamp (by omega)
  rw [this]
  exact ⟨by omega, ha, e⟩
def rkA (P S : TB) (g : Nat) : Int32 := if P 7 g = 24 then 0 else if P 10 g < S 1 (pg P g) then (if P 7 g = 22 then 1 else 2) else 2
def cfA (P S : TB) (fo : Nat → Int32) (i j : Nat) : Bool := if rkA P S i = rkA P S j then decide (fo (pg P j) < fo (pg P i)) else decide (rkA P S i < rkA P S j)
/-- into a row (the last first) -/
def insR (cf : Nat → Nat → Bool) (i : Nat) : List Nat → List Nat
  | [] => [i]
  | x :: r => if cf i x then x :: insR cf i r else i :: x :: r
def ordA (P S : TB) (fo : Nat → Int32) (hour idle : Int32) : Nat → List Nat
  | 0 => []
  | g + 1 => if P 9 g = hour ∧ ¬ P 8 g = idle then insR (cfA P S fo) g (ordA P S fo hour idle g) else ordA P S fo hour idle g
/-- what stands in a row of ints -/
def RW (A : Nat) (h : HH) : List Nat → Nat → Prop
  | [], _ => True
  | x :: s, b => h.1 A (b + s.length) = nI x ∧ RW A h s b
theorem RW_upd {A : Nat} {h h' : HH} : ∀ (s : List Nat) (b : Nat), (∀ j, b ≤ j → j < b + s.length → h'.1 A j = h.1 A j) → RW A h s b → RW A h' s b
  | [], _, _, _ => trivial
  | x :: s, b, hq, hs => ⟨by rw [hq _ (by omega) (by simp)]; exact hs.1, RW_upd s b (fun j h1 h2 => hq j h1 (by simp; omega)) hs.2⟩
theorem RW_app {A : Nat} {h : HH} : ∀ (s t : List Nat) (b : Nat), RW A h (s ++ t) b ↔ RW A h s (b + t.length) ∧ RW A h t b
  | [], t, b => by simp [RW]
  | x :: s, t, b => by
    simp only [List.cons_append, RW, RW_app s t b, List.length_append]
    rw [show b + (s.length + t.length) = b + t.length + s.length by omega]
    exact ⟨fun ⟨h1, h2, h3⟩ => ⟨⟨h1, h2⟩, h3⟩, fun ⟨⟨h1, h2⟩, h3⟩ => ⟨h1, h2, h3⟩⟩
theorem insR_len (cf : Nat → Nat → Bool) (i : Nat) : ∀ r : List Nat, (insR cf i r).length = r.length + 1
  | [] => rfl
  | x :: r => by unfold insR; split; simp [insR_len cf i r]; simp
theorem insR_mem (cf : Nat → Nat → Bool) (i : Nat) : ∀ (r : List Nat) (y : Nat), y ∈ insR cf i r → y = i ∨ y ∈ r
  | [], y, h => by simpa [insR] using h
  | x :: r, y, h => by
    unfold insR at h
    split at h
    · rcases List.mem_cons.mp h with h | h
      · right; rw [h]; simp
      · rcases insR_mem cf i r y h with h | h
        · exact Or.inl h
        · exact Or.inr (List.mem_cons_of_mem _ h)
    · rcases List.mem_cons.mp h with h | h
      · exact Or.inl h
      · exact Or.inr h
theorem ordA_ok (P S : TB) (fo : Nat → Int32) (hour idle : Int32) : ∀ g, (ordA P S fo hour idle g).length ≤ g ∧ ∀ y ∈ ordA P S fo hour idle g, y < g
  | 0 => ⟨Nat.le_refl _, fun _ h => by cases h⟩
  | g + 1 => by
    obtain ⟨h1, h2⟩ := ordA_ok P S fo hour idle g
    unfold ordA
    split
    · refine ⟨by rw [insR_len]; omega, fun y hy => ?_⟩
      rcases insR_mem _ _ _ _ hy with h | h
      · omega
      · have := h2 y h; omega
    · exact ⟨by omega, fun y hy => by have := h2 y hy; omega⟩
section CO
variable {p q z np md nf nl ng : Nat} {P S : TB} {fo : Nat → Int32} {h : HH}
theorem x_rankOf (c : cAt h p q z P S fo np md) (w : gOk P nf np nl ng) {g : Nat} (hg : g < ng) : g_X0_rankOf (nI g) h = some (rkA P S g, h) := by
  obtain ⟨c1, c2, c3, c4, c5, c6, c7, c8, -⟩ := id c
  obtain ⟨g1, g2, g3⟩ := pg_ok w hg
  have h20 : g < 20 := by have := w.2.2.2.1; omega
  unfold g_X0_rankOf rkA
  simp only [gfR, jn]
  rw [c1, c2, ckH_of c4, ldI_of h20 (by decide), c7 7 g (by decide)]
  by_cases k : P 7 g = 24
  · rw [if_pos k, if_pos k]
  rw [if_neg k, if_neg k, ckH_of c4, ldI_of h20 (by decide), c7 10 g (by decide), ckH_of c5, ckH_of c4, ldI_of h20 (by decide), c7 8 g (by decide), g3, ldI_of g1 (by decide), c8 1 _ (by decide)]
  by_cases k2 : P 10 g < S 1 (pg P g)
  · by_cases k3 : P 7 g = 22 <;> simp only [k2, k3, if_true, i10, if_false]
  · by_cases k3 : P 7 g = 22 <;> simp only [k2, k3, if_true, if_false]
theorem x_comesFirst (c : cAt h p q z P S fo np md) (w : gOk P nf np nl ng) {i j : Nat} (hi : i < ng) (hj : j < ng) : g_X0_comesFirst (nI i) (nI j) h = some (if cfA P S fo i j then 1 else 0, h) := by
  obtain ⟨c1, c2, c3, c4, c5, c6, c7, c8, c9, -⟩ := id c
  obtain ⟨g1, g2, g3⟩ := pg_ok w hi
  obtain ⟨k1, k2, k3⟩ := pg_ok w hj
  have h20 := w.2.2.2.1
  unfold g_X0_comesFirst cfA
  rw [x_rankOf c w hi, bnd_some, x_rankOf c w hj, bnd_some]
  simp only [gfR]
  rw [c1, c3]
  by_cases e : rkA P S i = rkA P S j
  · rw [if_pos e, if_pos e, ckH_of c6, ckH_of c4, ldI_of (by omega) (by decide), c7 8 i (by decide), g3, ldI_of g1 (by decide), ckH_of c6, ckH_of c4, ldI_of (by omega) (by decide), c7 8 j (by decide), k3, ldI_of k1 (by decide), c9]
    by_cases e2 : fo (pg P j) < fo (pg P i)
    · rw [if_pos e2]; simp [e2]
    · rw [if_neg e2]; simp [e2]
  · rw [if_neg e, if_neg e]
    by_cases e2 : rkA P S i < rkA P S j
    · rw [if_pos e2]; simp [e2]
    · rw [if_neg e2]; simp [e2]
theorem RWs_mv {A : Nat} {h h' : HH} (e : ∀ j, h'.1 A j = h.1 A j) (s : List Nat) (b : Nat) (hs : RW A h s b) : RW A h' s b := RW_upd s b (fun j _ _ => e j) hs
/-- only the course's own row -/
def scR (h h' : HH) : Prop := (∀ a k, ¬ (a = 193 ∧ k = 3) → a ≠ 194 → h'.1 a k = h.1 a k) ∧ (∀ a k, a ≠ 195 → h'.2.1 a k = h.2.1 a k) ∧ h'.2.2 = h.2.2
theorem scR_rf (h : HH) : scR h h := ⟨fun _ _ _ _ => rfl, fun _ _ _ => rfl, rfl⟩
theorem scR.tr {h1 h2 h3 : HH} (a : scR h1 h2) (b : scR h2 h3) : scR h1 h3 := ⟨fun x k u v => (b.1 x k u v).trans (a.1 x k u v), fun x k u => (b.2.1 x k u).trans (a.2.1 x k u), b.2.2.trans a.2.2⟩
theorem scR.F {h h' : HH} (s : scR h h') (q : Nat) : scF q h h' := ⟨fun a k _ u v => s.1 a k u v, s.2.1, s.2.2⟩
theorem scR_w (h : HH) (k : Nat) (v : Int32) : scR h (wrI h 194 k v) := ⟨fun a i _ u => by rw [wrI_1, if_neg (by omega)], fun _ _ _ => rfl, rfl⟩
theorem scR_n (h : HH) (v : Int32) : scR h (wrI h 193 3 v) := ⟨fun a i u _ => by rw [wrI_1, if_neg u], fun _ _ _ => rfl, rfl⟩
theorem cAt.R (c : cAt h p q z P S fo np md) {h' : HH} (s : scR h h') (hq : q = 52 ∨ q = 196) : cAt h' p q z P S fo np md :=
  c.mvF (s.F q) (fun o k ho => by rw [s.1 _ _ (by omega) (by omega)]; exact c.2.2.2.2.2.2.2.1 o k ho)
theorem x_ins (K : Int32 → HH → Option (Unit × HH)) (w : gOk P nf np nl ng) (c1 : Int32) {i : Nat} (hi : i < ng) : ∀ (r : List Nat) (n : Nat) (sh : List Nat) (h : HH), cAt h p q z P S fo np md → (∀ y ∈ r, y < ng) → r.length + sh.length + 1 ≤ 20 → r.length < n → RW 194 h r 0 → RW 194 h sh (r.length + 1) →
    ∃ h' s' r', (scR h h' ∧ ∀ k, h'.1 193 k = h.1 193 k) ∧ cAt h' p q z P S fo np md ∧ insR (cfA P S fo) i r = s' ++ i :: r' ∧ RW 194 h' (sh ++ s') (r'.length + 1) ∧ RW 194 h' r' 0 ∧ r'.length ≤ r.length ∧ g_X0_lineUp_L58 K c1 (nI i) n (nI r.length) (nI r.length) h = K (nI r'.length) h' := by
  intro r
  induction r with
  | nil =>
    intro n sh h c hr hl hn hR hS
    obtain ⟨n, rfl⟩ : ∃ n', n = n' + 1 := ⟨n - 1, by omega⟩
    refine ⟨h, [], [], ⟨scR_rf h, fun _ => rfl⟩, c, rfl, by rw [List.append_nil]; exact hS, trivial, Nat.le_refl _, ?_⟩
    rw [g_X0_lineUp_L58, if_neg (by decide)]
  | cons x r ih =>
    intro n sh h c hr hl hn hR hS
    obtain ⟨n, rfl⟩ : ∃ n', n = n' + 1 := ⟨n - 1, by omega⟩
    have hx : x < ng := hr x (by simp)
    have hlen : (x :: r).length = r.length + 1 := rfl
    rw [hlen] at hl hn hS ⊢
    have e1 : h.1 194 r.length = nI x := by have := hR.1; simpa using this
    have ex : nI (r.length + 1) + -1 = nI r.length := by
      rw [show nI (r.length + 1) + -1 = nI (r.length + 1) - 1 by rw [Int32.sub_eq_add_neg]]
      exact nI_pred _
    have prog : g_X0_lineUp_L58 K c1 (nI i) (n + 1) (nI (r.length + 1)) (nI (r.length + 1)) h = if cfA P S fo i x then g_X0_lineUp_L58 K c1 (nI i) n (nI r.length) (nI r.length) (wrI h 194 (r.length + 1) (nI x)) else K (nI (r.length + 1)) h := by
      rw [g_X0_lineUp_L58]
      simp only [vl]
      rw [if_pos (show (0 : Int32) < nI (r.length + 1) from nI_lt (a := 0) (by omega) (by omega)), nI_pred, ldI_of (by omega) (by decide), e1, x_comesFirst c w hi hx, bnd_some]
      cases cfA P S fo i x with
      | true => simp only [if_true, i10, if_false]; rw [ldI_of (by omega) (by decide), e1, stI_of (by omega) (by decide), ex]
      | false => simp only [Bool.false_eq_true, if_false, if_true]
    rw [prog]
    unfold insR
    cases cfA P S fo i x with
    | false =>
      simp only [Bool.false_eq_true, if_false]
      refine ⟨h, [], x :: r, ⟨scR_rf h, fun _ => rfl⟩, c, rfl, by rw [List.append_nil]; exact hS, hR, Nat.le_refl _, rfl⟩
    | true =>
      simp only [if_true]
      have s1 : scR h (wrI h 194 (r.length + 1) (nI x)) := scR_w _ _ _
      have hR' : RW 194 (wrI h 194 (r.length + 1) (nI x)) r 0 := RW_upd r 0 (fun j _ h2 => by rw [wrI_1, if_neg (by omega)]) hR.2
      have hS' : RW 194 (wrI h 194 (r.length + 1) (nI x)) (sh ++ [x]) (r.length + 1) := by
        rw [RW_app]
        refine ⟨RW_upd sh _ (fun j h1 _ => by rw [wrI_1, if_neg (by simp at h1; omega)]) hS, ?_, trivial⟩
        show (wrI h 194 (r.length + 1) (nI x)).1 194 (r.length + 1 + 0) = nI x
        exact wrI_at _ _ _ _
      obtain ⟨h', s', r', t1, t2, t3, t4, t5, t6, t7⟩ := ih n (sh ++ [x]) _ (c.R s1 c.2.2.2.2.2.2.2.2.2.2.2.2.2.2.2.1) (fun y hy => hr y (List.mem_cons_of_mem _ hy)) (by simp; omega) (by omega) hR' hS'
      refine ⟨h', x :: s', r', ⟨s1.tr t1.1, fun k => (t1.2 k).trans (by rw [wrI_1, if_neg (by omega)])⟩, t2, by rw [t3]; rfl, ?_, t5, by omega, t7⟩
      rw [show sh ++ x :: s' = (sh ++ [x]) ++ s' by simp]
      exact t4
end CO
