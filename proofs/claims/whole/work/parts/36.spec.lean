/-! a plan and a state as tables (by cell and place); what a person does -/
abbrev TB : Type := Nat → Nat → Int32
def up (S : TB) (o k : Nat) (v : Int32) : TB := fun x i => if x = o ∧ i = k then v else S x i
theorem up_at (S : TB) (o k : Nat) (v : Int32) : up S o k v o k = v := by simp [up]
theorem up_ne (S : TB) (o k : Nat) (v : Int32) (x i : Nat) (h : ¬ (x = o ∧ i = k)) : up S o k v x i = S x i := if_neg h
/-- the class holds a plan at p, a state at q -/
def CP (h : HH) (p : Nat) (P : TB) : Prop := ∀ o k, o < 22 → h.1 (p + o) k = P o k
def CS (h : HH) (q : Nat) (S : TB) : Prop := ∀ o k, o < 6 → h.1 (q + o) k = S o k
def nmA (P S : TB) (fo : Nat → Int32) (np a f : Nat) (k : Int32) : Int32 :=
  if k = 35 then P 1 f else if k = 36 then nI f else if k = 37 then fo a else if k = 38 then S 2 a else if k = 40 then S 0 5 else manyS (S 1) (nI f) np
def lwA (P S : TB) (fo : Nat → Int32) (np r a f : Nat) (less : Int32) : Int64 := lawV (P 12) (P 13) (fun k => if k = 34 then S 5 (6 * a + f) - less else nmA P S fo np a f k) ((P 14 r).toNatClampNeg) ((P 15 r).toNatClampNeg)
def stA (P S : TB) (fo : Nat → Int32) (np a f : Nat) (less : Int32) : Int32 :=
  if lwA P S fo np 0 a f less = eM then P 1 f + S 5 (6 * a + f) - less else P 1 f + Int64.toInt32 (mxL (-99) (mnL 999 (lwA P S fo np 0 a f less)))
def lwOkA (P : TB) : Prop := ∀ r, r < 3 → ∃ s e : Nat, P 14 r = nI s ∧ P 15 r = nI e ∧ lawOk (P 12) s e ∧ ∀ i, i < e → kOk (P 12 i)
theorem lwS_A {h : HH} {p q z : Nat} {P S : TB} (hP : CP h p P) (hS : CS h q S) (np r a f : Nat) (less : Int32) : lwS h p q z np r a f less = lwA P S (h.1 z) np r a f less := by
  have e1 : ∀ o, o < 22 → h.1 (p + o) = P o := fun o ho => funext fun k => hP o k ho
  have e2 : ∀ o, o < 6 → h.1 (q + o) = S o := fun o ho => funext fun k => hS o k ho
  have e3 : h.1 q = S 0 := e2 0 (by decide)
  unfold lwS lwA nmS nmA
  rw [e1 12 (by decide), e1 13 (by decide), e1 14 (by decide), e1 15 (by decide), e1 1 (by decide), e2 5 (by decide), e2 2 (by decide), e2 1 (by decide), e3]
theorem stS_A {h : HH} {p q z : Nat} {P S : TB} (hP : CP h p P) (hS : CS h q S) (np a f : Nat) (less : Int32) : stS h p q z np a f less = stA P S (h.1 z) np a f less := by
  unfold stS stA
  rw [lwS_A hP hS, hP 1 f (by decide), hS 5 (6 * a + f) (by decide)]
theorem lawsOk_A {h : HH} {p : Nat} {P : TB} (hP : CP h p P) (w : lwOkA P) : lawsOk h p := by
  intro r hr
  obtain ⟨s, e, h1, h2, h3, h4⟩ := w r hr
  have e1 : h.1 (p + 12) = P 12 := funext fun k => hP 12 k (by decide)
  exact ⟨s, e, by rw [hP 14 r (by decide)]; exact h1, by rw [hP 15 r (by decide)]; exact h2, by rw [e1]; exact h3, by rw [e1]; exact h4⟩
/-- the next number, and what is told of it -/
def nxN (n : Int32) : Int32 := (n * 1103515245 + 12345) &&& 2147483647
/-- falls one? by number (0), by half (1), never (2); and the number behind it -/
def slA (md : Nat) (slip num : Int32) : Bool × Int32 :=
  if md = 2 ∨ slip = 0 then (false, num) else if slip = 100 then (true, num)
  else if md = 1 then (decide (¬ slip < 50), num)
  else (decide (nxN num / 65536 - nxN num / 65536 / 100 * 100 < slip), nxN num)
/-- one flight up -/
def riA (P S : TB) (fo : Nat → Int32) (np md a f : Nat) : Bool × TB :=
  if fo a < stA P S fo np a f 0 ∨ lwA P S fo np 2 a f 0 = 0 then (false, up S 3 a (S 3 a + 1))
  else if (slA md (P 0 15) (S 0 6)).1 then (false, up (up (up S 0 6 (slA md (P 0 15) (S 0 6)).2) 4 a (S 4 a + 1)) 1 a 0)
  else (true, up (up (up (up S 0 6 (slA md (P 0 15) (S 0 6)).2) 2 a (mnI 99999 (S 2 a + (if lwA P S fo np 1 a f 0 = eM then mxI 0 (stA P S fo np a f 0) else Int64.toInt32 (mxL 0 (mnL 99 (lwA P S fo np 1 a f 0))))))) 5 (6 * a + f) (adT (S 5 (6 * a + f)) 1)) 1 a (nI f + 1))
/-- nothing but the state at q, the class's stack and the course's own row -/
def scF (q : Nat) (h h' : HH) : Prop := (∀ a k, ¬ (q ≤ a ∧ a < q + 6) → ¬ (a = 193 ∧ k = 3) → a ≠ 194 → h'.1 a k = h.1 a k) ∧ (∀ a k, a ≠ 195 → h'.2.1 a k = h.2.1 a k) ∧ h'.2.2 = h.2.2
theorem scF_rf (q : Nat) (h : HH) : scF q h h := ⟨fun _ _ _ _ _ => rfl, fun _ _ _ => rfl, rfl⟩
theorem scF.tr {q : Nat} {h1 h2 h3 : HH} (a : scF q h1 h2) (b : scF q h2 h3) : scF q h1 h3 :=
  ⟨fun x k u v w => (b.1 x k u v w).trans (a.1 x k u v w), fun x k u => (b.2.1 x k u).trans (a.2.1 x k u), b.2.2.trans a.2.2⟩
/-- nothing but the state at q and the class's stack -/
def scQ (q : Nat) (h h' : HH) : Prop := (∀ a k, ¬ (q ≤ a ∧ a < q + 6) → h'.1 a k = h.1 a k) ∧ (∀ a k, a ≠ 195 → h'.2.1 a k = h.2.1 a k) ∧ h'.2.2 = h.2.2
theorem scQ_rf (q : Nat) (h : HH) : scQ q h h := ⟨fun _ _ _ => rfl, fun _ _ _ => rfl, rfl⟩
theorem scQ.tr {q : Nat} {h1 h2 h3 : HH} (a : scQ q h1 h2) (b : scQ q h2 h3) : scQ q h1 h3 :=
  ⟨fun x k u => (b.1 x k u).trans (a.1 x k u), fun x k u => (b.2.1 x k u).trans (a.2.1 x k u), b.2.2.trans a.2.2⟩
theorem scQ.F {q : Nat} {h h' : HH} (s : scQ q h h') : scF q h h' := ⟨fun a k u _ _ => s.1 a k u, s.2.1, s.2.2⟩
theorem scQ_0 {q : Nat} {h h' : HH} (s : sc0 h h') : scQ q h h' := ⟨fun a k _ => by rw [s.1], s.2.1, s.2.2⟩
theorem scQ_w {q : Nat} (h : HH) {o : Nat} (k : Nat) (v : Int32) (ho : o < 6) : scQ q h (wrI h (q + o) k v) :=
  ⟨fun a i u => by rw [wrI_1, if_neg (by omega)], fun _ _ _ => rfl, rfl⟩
theorem CS_0 {h h' : HH} {q : Nat} {S : TB} (c : CS h q S) (s : sc0 h h') : CS h' q S := fun o k ho => by rw [s.1]; exact c o k ho
theorem CS_w {h : HH} {q : Nat} {S : TB} (c : CS h q S) {o : Nat} (k : Nat) (v : Int32) (ho : o < 6) : CS (wrI h (q + o) k v) q (up S o k v) := by
  intro x i hx
  rw [wrI_1]
  unfold up
  by_cases e : x = o ∧ i = k
  · rw [if_pos e, if_pos ⟨by omega, e.2⟩]
  · rw [if_neg e, if_neg (by omega)]
    exact c x i hx
/-- the course stands over a plan and a state -/
def cAt (h : HH) (p q z : Nat) (P S : TB) (fo : Nat → Int32) (np md : Nat) : Prop := h.2.2 2 = p ∧ h.2.2 3 = q ∧ h.2.2 4 = z ∧ shL[p]? = some (.inl 5) ∧ shL[q]? = some (.inl 7) ∧ shL[z]? = some (.inr (0, 6, 0)) ∧ CP h p P ∧ CS h q S ∧ h.1 z = fo ∧ P 0 2 = nI np ∧ np ≤ 6 ∧ lwOkA P ∧ h.1 193 6 = nI md ∧ md ≤ 2 ∧ (p = 2 ∨ p = 30) ∧ (q = 52 ∨ q = 196) ∧ (z = p + 3 ∨ z = 224)
