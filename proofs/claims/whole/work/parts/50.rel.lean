/-! what class and reference hold: plan, state, past, notes, tape -/
/-- the same at all places that a state has -/
def eqR (T S : TB) : Prop := (∀ a, a < 6 → T 1 a = S 1 a ∧ T 2 a = S 2 a ∧ T 3 a = S 3 a ∧ T 4 a = S 4 a) ∧ (∀ k, k < 36 → T 5 k = S 5 k) ∧ T 0 5 = S 0 5 ∧ T 0 6 = S 0 6
def zG (S : TB) (np : Nat) : Prop := ∀ a, np ≤ a → a < 6 → S 1 a = 0 ∧ S 2 a = 0 ∧ S 3 a = 0 ∧ S 4 a = 0
def sG (S : TB) (nf np : Nat) : Prop := sOk S nf np ∧ tOk S ∧ zG S np ∧ ∃ u, u ≤ 9800 ∧ S 0 5 = nI u
theorem eqR_rf (S : TB) : eqR S S := ⟨fun _ _ => ⟨rfl, rfl, rfl, rfl⟩, fun _ _ => rfl, rfl, rfl⟩
theorem eqR.tr {A B C : TB} (a : eqR A B) (b : eqR B C) : eqR A C :=
  ⟨fun k hk => ⟨(a.1 k hk).1.trans (b.1 k hk).1, (a.1 k hk).2.1.trans (b.1 k hk).2.1, (a.1 k hk).2.2.1.trans (b.1 k hk).2.2.1, (a.1 k hk).2.2.2.trans (b.1 k hk).2.2.2⟩, fun k hk => (a.2.1 k hk).trans (b.2.1 k hk), a.2.2.1.trans b.2.2.1, a.2.2.2.trans b.2.2.2⟩
theorem eqR.sG {T S : TB} {nf np : Nat} (e : eqR T S) (w : sG S nf np) (hnp : np ≤ 6) : sG T nf np := by
  obtain ⟨w1, w2, w3, u, w4, w5⟩ := w
  refine ⟨fun a ha => ?_, fun j hj => ?_, fun a h1 h2 => ?_, u, w4, e.2.2.1.trans w5⟩
  · obtain ⟨fl, f1, f2⟩ := w1 a ha
    exact ⟨fl, f1, ((e.1 a (by omega)).1).trans f2⟩
  · rw [e.2.1 j hj]; exact w2 j hj
  · obtain ⟨e1, e2, e3, e4⟩ := e.1 a h2
    rw [e1, e2, e3, e4]; exact w3 a h1 h2
theorem MS.R {h : HH} {s np : Nat} {T S : TB} (m : MS h s S np) (e : eqR T S) (hnp : np ≤ 6) : MS h s T np := by
  obtain ⟨m1, m2, m3, m4⟩ := m
  refine ⟨fun a ha => ?_, fun k hk => ?_, m3.trans e.2.2.1.symm, m4.trans e.2.2.2.symm⟩
  · obtain ⟨e1, e2, e3, e4⟩ := e.1 a (by omega)
    rw [e1, e2, e3, e4]; exact m1 a ha
  · rw [e.2.1 k hk]; exact m2 k hk
/-- one row copied -/
def cpH (h : HH) (a b n : Nat) : HH := (fun x i => if x = b ∧ i < n then h.1 a i else h.1 x i, h.2)
theorem cpI_of {β : Type} (h : HH) (a b n : Nat) (K : HH → Option β) : cpI h a b n K = K (cpH h a b n) := rfl
theorem cp_y {h : HH} {a b n i : Nat} (hi : i < n) : (cpH h a b n).1 b i = h.1 a i := by
  show (if b = b ∧ i < n then h.1 a i else h.1 b i) = _
  rw [if_pos ⟨rfl, hi⟩]
theorem cp_n {h : HH} {a b n x i : Nat} (hx : x ≠ b) : (cpH h a b n).1 x i = h.1 x i := by
  show (if x = b ∧ i < n then h.1 a i else h.1 x i) = _
  rw [if_neg (fun e => hx e.1)]
def tk5 (q r : Nat) (h : HH) : HH := cpH (cpH (cpH (cpH (cpH h (r + 1) (q + 1) 6) (r + 2) (q + 2) 6) (r + 3) (q + 3) 6) (r + 4) (q + 4) 6) (r + 5) (q + 5) 36
def tk7 (q r : Nat) (h : HH) : HH := wrI (wrI (tk5 q r h) q 5 ((tk5 q r h).1 r 5)) q 6 ((wrI (tk5 q r h) q 5 ((tk5 q r h).1 r 5)).1 r 6)
theorem tk7_n (q r : Nat) (h : HH) (x i : Nat) (hx : x ≠ q) : (tk7 q r h).1 x i = (tk5 q r h).1 x i := by
  unfold tk7
  rw [wrI_1, if_neg (fun e => hx e.1), wrI_1, if_neg (fun e => hx e.1)]
theorem x_take {q r : Nat} (hq : shL[q]? = some (.inl 7)) (hr : shL[r]? = some (.inl 7)) (hd : q + 5 < r ∨ r + 5 < q) {h : HH} {S : TB} (c : CS h r S) :
    ∃ h' T, g_X7_take q r h = some ((), h') ∧ CS h' q T ∧ eqR T S ∧ (∀ a k, ¬ (q ≤ a ∧ a < q + 6) → h'.1 a k = h.1 a k) ∧ h'.2 = h.2 := by
  refine ⟨tk7 q r h, fun o i => (tk7 q r h).1 (q + o) i, by unfold g_X7_take; rw [ckH_of hq, ckH_of hr]; rfl, fun o i _ => rfl, ⟨fun a ha => ⟨?_, ?_, ?_, ?_⟩, fun i hi => ?_, ?_, ?_⟩, fun a i ha => ?_, rfl⟩
  · refine (tk7_n q r h _ _ (by omega)).trans ?_
    unfold tk5
    rw [cp_n (by omega), cp_n (by omega), cp_n (by omega), cp_n (by omega), cp_y ha]
    exact c 1 a (by decide)
  · refine (tk7_n q r h _ _ (by omega)).trans ?_
    unfold tk5
    rw [cp_n (by omega), cp_n (by omega), cp_n (by omega), cp_y ha, cp_n (by omega)]
    exact c 2 a (by decide)
  · refine (tk7_n q r h _ _ (by omega)).trans ?_
    unfold tk5
    rw [cp_n (by omega), cp_n (by omega), cp_y ha, cp_n (by omega), cp_n (by omega)]
    exact c 3 a (by decide)
  · refine (tk7_n q r h _ _ (by omega)).trans ?_
    unfold tk5
    rw [cp_n (by omega), cp_y ha, cp_n (by omega), cp_n (by omega), cp_n (by omega)]
    exact c 4 a (by decide)
  · refine (tk7_n q r h _ _ (by omega)).trans ?_
    unfold tk5
    rw [cp_y hi, cp_n (by omega), cp_n (by omega), cp_n (by omega), cp_n (by omega)]
    exact c 5 i (by decide)
  · refine Eq.trans (b := (tk5 q r h).1 r 5) ?_ ?_
    · show (wrI (wrI _ q 5 _) q 6 _).1 (q + 0) 5 = _
      rw [Nat.add_zero, wrI_1, if_neg (by omega), wrI_at]
    · unfold tk5
      rw [cp_n (by omega), cp_n (by omega), cp_n (by omega), cp_n (by omega), cp_n (by omega)]
      exact c 0 5 (by decide)
  · refine Eq.trans (b := (tk5 q r h).1 r 6) ?_ ?_
    · show (wrI (wrI _ q 5 _) q 6 _).1 (q + 0) 6 = _
      rw [Nat.add_zero, wrI_at, wrI_1, if_neg (by omega)]
    · unfold tk5
      rw [cp_n (by omega), cp_n (by omega), cp_n (by omega), cp_n (by omega), cp_n (by omega)]
      exact c 0 6 (by decide)
  · refine (tk7_n q r h _ _ (by omega)).trans ?_
    unfold tk5
    rw [cp_n (by omega), cp_n (by omega), cp_n (by omega), cp_n (by omega), cp_n (by omega)]
def tdA (P : TB) : TB := fun o k => P (16 + o) k
/-- a plan well told -/
def PW (P : TB) (nf np nl ng : Nat) : Prop := gOk P nf np nl ng ∧ lwOkA P ∧ P 0 2 = nI np ∧ P 0 5 = nI nl ∧ (∃ sl, sl ≤ 100 ∧ P 0 15 = nI sl) ∧ (∀ a, a < np → ∃ u, u ≤ 99 ∧ P 3 a = nI u) ∧ (∀ f, f < nf → ∃ u, u ≤ 20 ∧ P 1 f = nI u) ∧ (∀ l, l < nl → ∃ u, u ≤ 99 ∧ P 6 l = nI u) ∧ sG (tdA P) nf np ∧ (∀ a, a < 6 → P 18 a = 0 ∧ P 19 a = 0 ∧ P 20 a = 0) ∧ P 16 5 = 0 ∧ ∀ k, 6 * np ≤ k → k < 36 → P 21 k = 0
/-- what the class holds -/
def RC1 (h : HH) (P S : TB) : Prop := ∃ p, (p = 2 ∨ p = 30) ∧ h.2.2 0 = p ∧ h.2.2 1 = 32 - p ∧ CP h p P ∧ CS h 52 S ∧ ∀ a, a < 6 → h.1 224 a = 99
def RC2 (h : HH) (im : Option TB) : Prop := h.1 0 6 = (if im.isSome then 1 else 0) ∧ ∀ I, im = some I → CS h 58 I
def RC3 (h : HH) (pa : List TB) : Prop := ∃ nx, nx < 20 ∧ h.1 64 1 = nI nx ∧ h.1 64 2 = nI pa.length ∧ pa.length ≤ 20 ∧ ∀ i I, pa[i]? = some I → CS h (66 + 6 * ((nx + 19 - i) % 20)) I
def RC4 (h : HH) (nN : Nat) (nb : Int32) (nT : TB) : Prop := h.1 186 6 = nI nN ∧ h.1 186 7 = nb ∧ ∀ i, i < nN → h.1 191 i = nT 4 i ∧ h.1 187 i = (if nT 4 i = -1 then nT 0 i else 0) ∧ (nT 4 i = -1 → h.1 188 i = nT 1 i ∧ h.1 189 i = nT 2 i ∧ h.1 190 i = nT 3 i)
/-- a byte as the class keeps it -/
def byC (n : Nat) : Int32 := if n < 128 then nI n else nI n - 256
def RC5 (h : HH) (tl : Nat) (tp : Nat → Nat) : Prop := h.1 0 1 = nI tl ∧ tl ≤ 700 ∧ ∀ i, i < tl → tp i < 256 ∧ h.1 1 i = byC (tp i)
def RC6 (h : HH) (fk fp : Int32) : Prop := h.1 24 4 = fk ∧ (¬ fk = 0 → h.1 24 5 = fp) ∧ (fk = 0 → fp = -1)
/-- what the reference holds -/
def RM1 (h : HH) (P S : TB) (nf np nl ng : Nat) : Prop := MP h P nf np nl ng ∧ MS h 0 S np ∧ h.1 255 45 = -1 ∧ h.1 255 48 = 0 ∧ h.1 255 49 = -1 ∧ (∀ a, a < np → h.1 259 a = P 2 a ∧ h.1 260 a = P 17 a) ∧ (∀ k, k < 6 * np → h.1 262 k = P 21 k) ∧ h.1 257 5 = P 16 6 ∧ h.1 257 6 = P 11 2
def RM2 (h : HH) (np : Nat) (im : Option TB) : Prop := h.1 255 43 = (if im.isSome then 1 else 0) ∧ ∀ I, im = some I → MS h 2 I np
def RM3 (h : HH) (np : Nat) (pa : List TB) : Prop := h.1 255 44 = nI pa.length ∧ ∀ i I, pa[i]? = some I → MS h (2 + pa.length - i) I np
def RM4 (h : HH) (nN : Nat) (nb : Int32) (nT : TB) : Prop := h.1 255 56 = nI nN ∧ h.1 255 57 = nb ∧ ∀ i, i < nN → h.1 292 i = nT 4 i ∧ (nT 4 i = -1 → h.1 288 i = nT 0 i ∧ h.1 289 i = nT 1 i ∧ h.1 290 i = nT 2 i ∧ h.1 291 i = nT 3 i)
def RM5 (h : HH) (tl : Nat) (tp : Nat → Nat) : Prop := h.1 255 2 = nI tl ∧ ∀ i, i < tl → h.1 256 i = nI (tp i)
def RM6 (h : HH) (fk fp : Int32) : Prop := h.1 255 29 = fk ∧ h.1 255 30 = fp
/-- notes well noted -/
def NW (nf np nN : Nat) (nb : Int32) (nT : TB) : Prop := nN ≤ 24 ∧ (nb = -1 ∨ ∃ b, b ≤ nN ∧ nb = nI b) ∧ ∀ i, i < nN → (nT 4 i = -1 ∧ (∃ u, 1 ≤ u ∧ u ≤ 40 ∧ nT 0 i = nI u) ∧ (∃ a, a < np ∧ nT 1 i = nI a) ∧ (∃ f, f ≤ nf ∧ nT 2 i = nI f) ∧ (nT 3 i = 0 ∨ nT 3 i = 1)) ∨ ∃ j, j < i ∧ nT 4 i = nI j
/-- all that holds from call to call -/
def Rel (h : HH) : Prop := ∃ (P S : TB) (nf np nl ng : Nat) (im : Option TB) (pa : List TB) (nN : Nat) (nb : Int32) (nT : TB) (tl : Nat) (tp : Nat → Nat) (fk fp : Int32),
  (PW P nf np nl ng ∧ sG S nf np ∧ (∀ I, im = some I → sG I nf np) ∧ (∀ I ∈ pa, sG I nf np) ∧ NW nf np nN nb nT) ∧
  (RC1 h P S ∧ RC2 h im ∧ RC3 h pa ∧ RC4 h nN nb nT ∧ RC5 h tl tp ∧ RC6 h fk fp) ∧
  (RM1 h P S nf np nl ng ∧ RM2 h np im ∧ RM3 h np pa ∧ RM4 h nN nb nT ∧ RM5 h tl tp ∧ RM6 h fk fp)
theorem RC1.X {h h' : HH} {P S : TB} (c : RC1 h P S) (e : ∀ a k, (2 ≤ a ∧ a < 58 ∧ ¬ (24 ≤ a ∧ a < 30)) ∨ a = 224 → h'.1 a k = h.1 a k) (e2 : ∀ j, j < 2 → h'.2.2 j = h.2.2 j) : RC1 h' P S := by
  obtain ⟨p, hp, c1, c2, c3, c4, c5⟩ := c
  refine ⟨p, hp, (e2 0 (by decide)).trans c1, (e2 1 (by decide)).trans c2, fun o k ho => ?_, fun o k ho => ?_, fun a ha => ?_⟩
  · rw [e _ _ (by omega)]; exact c3 o k ho
  · rw [e _ _ (by omega)]; exact c4 o k ho
  · rw [e _ _ (by omega)]; exact c5 a ha
theorem RC2.X {h h' : HH} {im : Option TB} (c : RC2 h im) (e : ∀ a k, (a = 0 ∧ k = 6) ∨ (58 ≤ a ∧ a < 64) → h'.1 a k = h.1 a k) : RC2 h' im :=
  ⟨(e 0 6 (by omega)).trans c.1, fun I hI o k ho => (e _ _ (by omega)).trans (c.2 I hI o k ho)⟩
theorem RC3.X {h h' : HH} {pa : List TB} (c : RC3 h pa) (e : ∀ a k, (64 ≤ a ∧ a < 186) → h'.1 a k = h.1 a k) : RC3 h' pa := by
  obtain ⟨nx, c1, c2, c3, c4, c5⟩ := c
  refine ⟨nx, c1, (e 64 1 (by omega)).trans c2, (e 64 2 (by omega)).trans c3, c4, fun i I hI o k ho => ?_⟩
  have : (nx + 19 - i) % 20 < 20 := Nat.mod_lt _ (by decide)
  exact (e _ _ (by omega)).trans (c5 i I hI o k ho)
theorem RC4.X {h h' : HH} {nN : Nat} {nb : Int32} {nT : TB} (c : RC4 h nN nb nT) (e : ∀ a k, (186 ≤ a ∧ a < 192) → h'.1 a k = h.1 a k) : RC4 h' nN nb nT := by
  refine ⟨(e 186 6 (by omega)).trans c.1, (e 186 7 (by omega)).trans c.2.1, fun i hi => ?_⟩
  rw [e 191 _ (by omega), e 187 _ (by omega), e 188 _ (by omega), e 189 _ (by omega), e 190 _ (by omega)]
  exact c.2.2 i hi
theorem RC5.X {h h' : HH} {tl : Nat} {tp : Nat → Nat} (c : RC5 h tl tp) (e : ∀ a k, (a = 0 ∧ k = 1) ∨ a = 1 → h'.1 a k = h.1 a k) : RC5 h' tl tp :=
  ⟨(e 0 1 (by omega)).trans c.1, c.2.1, fun i hi => ⟨(c.2.2 i hi).1, (e 1 i (by omega)).trans (c.2.2 i hi).2⟩⟩
theorem RC6.X {h h' : HH} {fk fp : Int32} (c : RC6 h fk fp) (e : ∀ a k, (a = 24 ∧ (k = 4 ∨ k = 5)) → h'.1 a k = h.1 a k) : RC6 h' fk fp :=
  ⟨(e 24 4 (by omega)).trans c.1, fun hf => (e 24 5 (by omega)).trans (c.2.1 hf), c.2.2⟩
theorem RM1.X {h h' : HH} {P S : TB} {nf np nl ng : Nat} (c : RM1 h P S nf np nl ng) (hnp : np ≤ 6) (e : ∀ a k, (a = 255 ∧ (k = 45 ∨ k = 48 ∨ k = 49)) ∨ (257 ≤ a ∧ a ≤ 273) ∨ inH 0 a k → h'.1 a k = h.1 a k) : RM1 h' P S nf np nl ng := by
  obtain ⟨c1, c2, c3, c4, c5, c6, c7, c8, c9⟩ := c
  refine ⟨c1.X fun a k h1 h2 => e a k (by omega), c2.X hnp fun a k hi => e a k (Or.inr (Or.inr hi)), (e _ _ (by omega)).trans c3, (e _ _ (by omega)).trans c4, (e _ _ (by omega)).trans c5, fun a ha => ?_, fun k hk => (e _ _ (by omega)).trans (c7 k hk), (e _ _ (by omega)).trans c8, (e _ _ (by omega)).trans c9⟩
  rw [e 259 _ (by omega), e 260 _ (by omega)]
  exact c6 a ha
theorem RM2.X {h h' : HH} {np : Nat} {im : Option TB} (c : RM2 h np im) (hnp : np ≤ 6) (e : ∀ a k, (a = 255 ∧ k = 43) ∨ inH 2 a k → h'.1 a k = h.1 a k) : RM2 h' np im :=
  ⟨(e 255 43 (by omega)).trans c.1, fun I hI => (c.2 I hI).X hnp fun a k hi => e a k (Or.inr hi)⟩
theorem RM3.X {h h' : HH} {np : Nat} {pa : List TB} (c : RM3 h np pa) (hnp : np ≤ 6) (e : ∀ a k, (a = 255 ∧ k = 44) ∨ (∃ s, 3 ≤ s ∧ s < 23 ∧ inH s a k) → h'.1 a k = h.1 a k) (hl : pa.length ≤ 20) : RM3 h' np pa := by
  refine ⟨(e 255 44 (by omega)).trans c.1, fun i I hI => (c.2 i I hI).X hnp fun a k hi => e a k (Or.inr ⟨_, ?_, ?_, hi⟩)⟩
  · have := (List.getElem?_eq_some_iff.mp hI).1; omega
  · omega
theorem RM4.X {h h' : HH} {nN : Nat} {nb : Int32} {nT : TB} (c : RM4 h nN nb nT) (e : ∀ a k, (a = 255 ∧ (k = 56 ∨ k = 57)) ∨ (288 ≤ a ∧ a ≤ 292) → h'.1 a k = h.1 a k) : RM4 h' nN nb nT := by
  refine ⟨(e 255 56 (by omega)).trans c.1, (e 255 57 (by omega)).trans c.2.1, fun i hi => ?_⟩
  rw [e 292 _ (by omega), e 288 _ (by omega), e 289 _ (by omega), e 290 _ (by omega), e 291 _ (by omega)]
  exact c.2.2 i hi
theorem RM5.X {h h' : HH} {tl : Nat} {tp : Nat → Nat} (c : RM5 h tl tp) (e : ∀ a k, (a = 255 ∧ k = 2) ∨ a = 256 → h'.1 a k = h.1 a k) : RM5 h' tl tp :=
  ⟨(e 255 2 (by omega)).trans c.1, fun i hi => (e 256 i (by omega)).trans (c.2 i hi)⟩
theorem RM6.X {h h' : HH} {fk fp : Int32} (c : RM6 h fk fp) (e : ∀ a k, (a = 255 ∧ (k = 29 ∨ k = 30)) → h'.1 a k = h.1 a k) : RM6 h' fk fp :=
  ⟨(e 255 29 (by omega)).trans c.1, (e 255 30 (by omega)).trans c.2⟩
