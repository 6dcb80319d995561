/-! an E, by the reference: knots; the class's loop, step by step -/
def ER (T : TKD) (i o t : Nat) (O : List (Int32 × Int32)) (h : HH) : Prop := rA T i h ∧ (h.1 255 31 = nI o ∧ h.1 255 32 = nI t) ∧ h.1 257 13 = nI O.length ∧ ∀ j x, O[j]? = some x → coded x.1 x.2 (h.1 272 (64 + j)) (h.1 273 (64 + j))
/-- nothing but what an E changes in the reference -/
def eR (h h' : HH) : Prop := (∀ a k, ¬ (a = 255 ∧ ((23 ≤ k ∧ k ≤ 28) ∨ k = 31 ∨ k = 32)) → ¬ (a = 257 ∧ k = 13) → ¬ ((a = 272 ∨ a = 273) ∧ 64 ≤ k) → h'.1 a k = h.1 a k) ∧ h'.2 = h.2
theorem eR_rf (h : HH) : eR h h := ⟨fun _ _ _ _ _ => rfl, rfl⟩
theorem eR.tr {a b c : HH} (x : eR a b) (y : eR b c) : eR a c := ⟨fun i k q1 q2 q3 => (y.1 i k q1 q2 q3).trans (x.1 i k q1 q2 q3), y.2.trans x.2⟩
theorem eR_255 (h : HH) {k : Nat} (v : Int32) (h1 : (23 ≤ k ∧ k ≤ 28) ∨ k = 31 ∨ k = 32) : eR h (wrI h 255 k v) := ⟨fun a j q1 q2 q3 => by rw [wrI_1, if_neg (by omega)], rfl⟩
theorem tkS.e {h h' : HH} (t : tkS h h') : eR h h' := ⟨fun a k q1 q2 q3 => t.1 a k (by omega), t.2⟩
theorem ER.w {T : TKD} {i o t : Nat} {O : List (Int32 × Int32)} {h : HH} (c : ER T i o t O h) (hO : O.length < 64) {k u s v : Int32} (hc : coded k u s v) : ∃ h', g_X11_puts s v h = some ((), h') ∧ ER T i o t (O ++ [(k, u)]) h' ∧ eR h h' := by
  obtain ⟨c1, ⟨c2, c3⟩, c4, c5⟩ := c
  refine ⟨wrI (wrI (wrI h 272 (64 + O.length) s) 273 (64 + O.length) v) 257 13 (nI (O.length + 1)), ?_, ⟨c1.k (fun k _ _ => by rw [wrI_1, if_neg (by omega), wrI_1, if_neg (by omega), wrI_1, if_neg (by omega)]) (fun k => by rw [wrI_1, if_neg (by omega), wrI_1, if_neg (by omega), wrI_1, if_neg (by omega)]), ⟨by rw [wrI_1, if_neg (by omega), wrI_1, if_neg (by omega), wrI_1, if_neg (by omega)]; exact c2, by rw [wrI_1, if_neg (by omega), wrI_1, if_neg (by omega), wrI_1, if_neg (by omega)]; exact c3⟩, by rw [wrI_at, List.length_append]; rfl, fun j x hx => ?_⟩, fun a j q1 q2 q3 => by rw [wrI_1, if_neg (by omega), wrI_1, if_neg (by omega), wrI_1, if_neg (by omega)], rfl⟩
  · have fr : ∀ g : HH, g.1 257 13 = nI O.length → g_X11_fresher 6 g = some (nI O.length, g) := by
      intro g ge
      unfold g_X11_fresher
      rw [show (7 : Int32) + 6 = nI 13 from rfl, ldI_of (by decide) (by decide), ge]
    unfold g_X11_puts
    simp only [gfI]
    rw [c1.2.2.2.2, if_pos rfl, fr h c4, bnd_some, show (64 : Int32) = nI 64 from rfl, nI_add, stI_of (by omega) (by decide), fr _ (by rw [wrI_1, if_neg (by omega)]; exact c4), bnd_some, nI_add, stI_of (by omega) (by decide), fr _ (by rw [wrI_1, if_neg (by omega), wrI_1, if_neg (by omega)]; exact c4), bnd_some]
    unfold g_X11_reads
    rw [show (7 : Int32) + 6 = nI 13 from rfl, stI_of (by decide) (by decide), nI_1]
    rfl
  · by_cases q : j < O.length
    · rw [List.getElem?_append_left q] at hx
      rw [wrI_1, if_neg (by omega), wrI_1, if_neg (by omega), wrI_1, if_neg (by omega), wrI_1, if_neg (by omega), wrI_1, if_neg (by omega), wrI_1, if_neg (by omega)]
      exact c5 j x hx
    · have hj : j = O.length := by
        have := (List.getElem?_eq_some_iff.mp hx).1
        simp at this
        omega
      subst hj
      rw [List.getElem?_append_right (Nat.le_refl _), Nat.sub_self] at hx
      have hx' : (k, u) = x := Option.some.inj hx
      subst hx'
      rw [wrI_1, if_neg (by omega), wrI_1, if_neg (by omega), wrI_at, wrI_1, if_neg (by omega), wrI_at]
      exact hc
theorem r_puts_F {f : Int32} {q : Nat} {h : HH} (c : rF f q h) (s v : Int32) : g_X11_puts s v h = some ((), h) := by
  unfold g_X11_puts
  simp only [gfI]
  rw [if_neg c.n]
theorem r_knot {T : TKD} {i o t : Nat} {O : List (Int32 × Int32)} {h : HH} (c : ER T i o t O h) (ht : t < 64) : ∃ h', g_X11_knot h = some ((), h') ∧ ER T i o (t + 1) O h' ∧ eR h h' := by
  obtain ⟨c1, ⟨c2, c3⟩, c4, c5⟩ := c
  refine ⟨wrI h 255 32 (nI (t + 1)), ?_, ⟨c1.k (fun k _ _ => by rw [wrI_1, if_neg (by omega)]) (fun k => by rw [wrI_1, if_neg (by omega)]), ⟨by rw [wrI_1, if_neg (by omega)]; exact c2, wrI_at _ _ _ _⟩, by rw [wrI_1, if_neg (by omega)]; exact c4, fun j x hx => by rw [wrI_1, if_neg (by omega), wrI_1, if_neg (by omega)]; exact c5 j x hx⟩, eR_255 h _ (by omega)⟩
  unfold g_X11_knot
  simp only [gfI, pfI]
  rw [c1.2.2.2.2, if_pos rfl, c3, if_neg (show ¬ nI t = 64 from fun e => by have := (nI_eq (b := 64) (by omega) (by decide)).mp e; omega), nI_1]
theorem rF.e {T : TKD} {i : Nat} {h : HH} (c : rA T i h) (f : Int32) (hf : ¬ f = 0) : ∃ h', g_X11_wrong f h = some ((), h') ∧ rF f (tPl T i) h' ∧ eR h h' := by
  obtain ⟨h', f1, f2, f3, f4⟩ := r_wrong f c.2.2.2.2 hf c.2.2.1
  exact ⟨h', f1, f2, fun a k q1 q2 q3 => f4 a k (by omega), f3.2⟩
theorem r_knot64 {T : TKD} {i o : Nat} {O : List (Int32 × Int32)} {h : HH} (c : ER T i o 64 O h) : ∃ h', g_X11_knot h = some ((), h') ∧ rF 2 (tPl T i) h' ∧ eR h h' := by
  obtain ⟨h', f1, f2, f3⟩ := rF.e c.1 2 (by decide)
  refine ⟨h', ?_, f2, f3⟩
  unfold g_X11_knot
  simp only [gfI]
  rw [c.1.2.2.2.2, if_pos rfl, c.2.1.2, if_pos (show nI 64 = 64 from rfl), f1]
  rfl
theorem r_knot_F {f : Int32} {q : Nat} {h : HH} (c : rF f q h) : g_X11_knot h = some ((), h) := by
  unfold g_X11_knot
  simp only [gfI]
  rw [if_neg c.n]
theorem ER.n {T : TKD} (w : TKok T) {i o t : Nat} (hi : i < tL T) (hk : ¬ tK T i = 0) {O : List (Int32 × Int32)} {h : HH} (c : ER T i o t O h) : ∃ h', g_X11_goOn h = some ((), h') ∧ ER T (i + 1) o t O h' ∧ eR h h' := by
  obtain ⟨h', f1, f2, f3⟩ := r_goOn w hi hk c.1
  refine ⟨h', f1, ⟨f3, ⟨(f2.1 _ _ (by omega)).trans c.2.1.1, (f2.1 _ _ (by omega)).trans c.2.1.2⟩, (f2.1 _ _ (by omega)).trans c.2.2.1, fun j x hx => by rw [f2.1 272 _ (by omega), f2.1 273 _ (by omega)]; exact c.2.2.2 j x hx⟩, f2.e⟩
-- behind a fault the reference's E does nothing more
theorem rG_F {f : Int32} {q : Nat} {h : HH} (c : rF f q h) : ∀ n lv, lv ≤ 5 → 6 ≤ n + lv → rG n lv h = some ((), h) := by
  intro n
  induction n with
  | zero => intro lv h1 h2; omega
  | succ n ih =>
    intro lv h1 h2
    obtain ⟨N1, hN1⟩ : ∃ N1 : Nat, N1 + 1 = 1024 := ⟨1023, rfl⟩
    rcases (show lv = 0 ∨ lv = 1 ∨ lv = 2 ∨ lv = 3 ∨ lv = 4 ∨ lv = 5 by omega) with rfl | rfl | rfl | rfl | rfl | rfl
    · show g_X11_expression (rG n) h = _
      unfold g_X11_expression
      rw [ih 1 (by omega) (by omega), bnd_some, ← hN1, g_X11_expression_L4, r_isWord_F c, bnd_some, if_pos rfl]
    · show g_X11_conjunction (rG n) h = _
      unfold g_X11_conjunction
      rw [ih 2 (by omega) (by omega), bnd_some, ← hN1, g_X11_conjunction_L4, r_isWord_F c, bnd_some, if_pos rfl]
    · show g_X11_negation (rG n) h = _
      unfold g_X11_negation
      simp only [gfI]
      rw [r_isWord_F c, bnd_some, if_pos rfl, ih 3 (by omega) (by omega), bnd_some, if_neg c.n]
    · show g_X11_sum (rG n) h = _
      unfold g_X11_sum
      rw [ih 4 (by omega) (by omega), bnd_some, ← hN1, g_X11_sum_L4, r_isSign_F c, bnd_some]
      simp only [jn]
      rw [if_pos True.intro, r_isSign_F c, bnd_some, if_pos rfl]
    · show g_X11_product (rG n) h = _
      unfold g_X11_product
      rw [ih 5 (by omega) (by omega), bnd_some, ← hN1, g_X11_product_L4, r_isSign_F c, bnd_some]
      simp only [jn]
      rw [if_pos True.intro, r_isSign_F c, bnd_some, if_pos rfl]
    · show g_X11_primary (rG n) h = _
      unfold g_X11_primary
      simp only [gfI]
      rw [if_neg c.n]
/-- the end of the class's E -/
def kE : HH → Option (Unit × HH) := fun h56 =>
    gfI h56 24 10 fun v57 =>
    jn (fun  (h60 : HH) =>
      bnd (g_X6_release (1 : Int32) h60) fun _ h61 => 
      some ((), h61)) fun j58 =>
    if 0 < v57 then
      (bnd (g_X6_fail (1 : Int32) h56) fun _ h63 => 
      j58 h63)
    else
      (j58 h56)
def cl (N : Nat) (x1 : Int32) (x2 : Nat) (h : HH) : Option (Unit × HH) := g_X6_readE_L20 kE kE N x1 (nI x2) h
theorem kE_F {T : TKD} {p : Nat} {f : Int32} {q : Nat} {h : HH} (c : FE T p f q h) : ∃ h', kE h = some ((), h') ∧ FE T p f q h' ∧ eS p h h' := by
  obtain ⟨h', f1, f2, f3⟩ := x_rel_F c 1
  refine ⟨h', ?_, f2, f3⟩
  unfold kE
  simp only [gfI, jn]
  split
  · rw [x6_failF _ c.1.n, bnd_some, f1]; rfl
  · rw [f1]; rfl
theorem cl_F {T : TKD} {p : Nat} {f : Int32} {q : Nat} {h : HH} (c : FE T p f q h) {N : Nat} (hN : 0 < N) (x1 : Int32) (x2 : Nat) : ∃ h', cl N x1 x2 h = some ((), h') ∧ FE T p f q h' ∧ eS p h h' := by
  obtain ⟨h', f1, f2, f3⟩ := kE_F c
  obtain ⟨N, rfl⟩ : ∃ N', N = N' + 1 := ⟨N - 1, by omega⟩
  refine ⟨h', ?_, f2, f3⟩
  unfold cl
  rw [g_X6_readE_L20]
  simp only [gfI]
  split
  · rw [if_neg c.1.n]; exact f1
  · exact f1
/-- enough left for the class's loop -/
def FU (T : TKD) (i N x2 : Nat) : Prop := tL T ≤ i + x2 ∧ x2 < N ∧ x2 ≤ 701
theorem cl_1 {T : TKD} (w : TKok T) {p i o t : Nat} {W : List Int32} {O : List (Int32 × Int32)} {h : HH} (c : EC T p i o t W O h) (hi : i < tL T) {N x2 : Nat} (hf : FU T i N x2) :
    ∃ N' x', N = N' + 1 ∧ x2 = x' + 1 ∧ x' < N' ∧ cl N 1 x2 h = bnd (g_X6_readPart (tK T i) h) fun r42 h41 => if r42 = 0 then cl N' 1 x' h41 else cl N' 0 x' h41 := by
  obtain ⟨f1, f2, f3⟩ := hf
  obtain ⟨⟨c1, c2, c3, c4⟩, _⟩ := c
  obtain ⟨N, rfl⟩ : ∃ N', N = N' + 1 := ⟨N - 1, by omega⟩
  obtain ⟨x2, rfl⟩ : ∃ N', x2 = N' + 1 := ⟨x2 - 1, by omega⟩
  refine ⟨N, x2, rfl, rfl, by omega, ?_⟩
  unfold cl
  rw [g_X6_readE_L20, if_pos (show 0 < nI (x2 + 1) from nI_lt (a := 0) (by omega) (by omega))]
  simp only [gfI]
  rw [c3, if_pos rfl, x6_kind w c1 hi c4, bnd_some, x_str, bnd_some]
  simp only [jn, vl]
  rw [if_neg (show ¬ (1 : Int32) = 0 by decide), pk_m1]
theorem cl_0 {T : TKD} (w : TKok T) {p i o t : Nat} {W : List Int32} {O : List (Int32 × Int32)} {h : HH} (c : EC T p i o t W O h) (hi : i < tL T) {N x2 : Nat} (hf : FU T i N x2) :
    ∃ N' x', N = N' + 1 ∧ x2 = x' + 1 ∧ x' < N' ∧ cl N 0 x2 h = jn (fun  (h16 : HH) =>
            if nI (str (tK T i)) = 0 then
              (kE h16)
            else
              (if tK T i = (33 : Int32) then
                (kE h16)
              else
                (bnd (g_X6_release (nI (str (tK T i)) + (1 : Int32)) h16) fun _ h17 => 
                jn (fun  (h21 : HH) =>
                  bnd (g_X6_release (nI (str (tK T i))) h21) fun _ h22 => 
                  bnd (g_X6_takeKnot h22) fun _ h24 => 
                  bnd (g_X6_await (tK T i) h24) fun _ h26 => 
                  cl N' 1 x' h26) fun j19 =>
                if nI (str (tK T i)) = (4 : Int32) then
                  (bnd (g_X6_waitingStrength h17) fun r29 h28 => 
                  if r29 = (4 : Int32) then
                    (bnd (g_X6_fail (1 : Int32) h28) fun _ h30 => 
                    j19 h30)
                  else
                    (j19 h28))
                else
                  (j19 h17)))) fun j14 =>
          if tK T i = (6 : Int32) then
            (if 0 < nI o then
              (bnd (g_X6_release (1 : Int32) h) fun _ h33 => 
              gfI h33 24 9 fun v35 =>
              pfI h33 24 9 (v35 - (1 : Int32)) fun h36 =>
              gfI h36 24 10 fun v37 =>
              pfI h36 24 10 (v37 - (1 : Int32)) fun h38 =>
              bnd (g_X6_advance h38) fun _ h39 => 
              cl N' 0 x' h39)
            else
              (j14 h))
          else
            (j14 h) := by
  obtain ⟨f1, f2, f3⟩ := hf
  obtain ⟨⟨c1, c2, c3, c4⟩, _, ⟨c7, c8⟩, _⟩ := c
  obtain ⟨N, rfl⟩ : ∃ N', N = N' + 1 := ⟨N - 1, by omega⟩
  obtain ⟨x2, rfl⟩ : ∃ N', x2 = N' + 1 := ⟨x2 - 1, by omega⟩
  refine ⟨N, x2, rfl, rfl, by omega, ?_⟩
  unfold cl
  rw [g_X6_readE_L20, if_pos (show 0 < nI (x2 + 1) from nI_lt (a := 0) (by omega) (by omega))]
  simp only [gfI]
  rw [c3, if_pos rfl, x6_kind w c1 hi c4, bnd_some, x_str, bnd_some]
  simp only [jn, vl]
  rw [if_pos True.intro, c7, pk_m1]
