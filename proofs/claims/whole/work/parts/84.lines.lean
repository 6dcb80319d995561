/-! lines of a text: what both have told so far -/
theorem nI_and (a b : Nat) : nI a &&& nI b = nI (a &&& b) := by
  unfold nI
  apply Int32.toBitVec_inj.mp
  exact (BitVec.ofNat_and).symm
theorem sm_32 : ∀ w, w < 32 → ((nI w &&& 31).toBitVec.smod 32).toNat = w := by decide +kernel
theorem td_bit {b w : Nat} (hb : b < 2 ^ 20) (hw : w < 20) : (((nI b >>> (nI w &&& 31)) &&& (1 : Int32)) = 1) = (b.testBit w = true) := by
  rw [pk_shrN (by omega) _ w (sm_32 w (by omega)), pk_andN (Nat.lt_of_le_of_lt (Nat.div_le_self _ _) (by omega)) 1 (by decide)]
  rw [Nat.testBit_eq_decide_div_mod_eq]
  refine propext ⟨fun e => ?_, fun e => ?_⟩
  · have := (nI_eq (b := 1) (by have := Nat.mod_lt (b / 2 ^ w) (show 0 < 2 by decide); omega) (by decide)).mp e
    simpa using this
  · have e' : b / 2 ^ w % 2 = 1 := by simpa using e
    show nI (b / 2 ^ w % 2) = 1
    rw [e']; rfl
theorem td_set {b w : Nat} (hw : w < 20) : nI b ||| ((1 : Int32) <<< (nI w &&& 31)) = nI (b ||| 2 ^ w) := by
  have h1 : 2 ^ w ≤ 2 ^ 19 := Nat.pow_le_pow_right (by decide) (by omega)
  rw [show (1 : Int32) = nI 1 from rfl, pk_shlN (n := 1) _ w (sm_32 w (by omega)) (by omega), Nat.one_mul, nI_or]
theorem td_lt {b w : Nat} (hb : b < 2 ^ 20) (hw : w < 20) : b ||| 2 ^ w < 2 ^ 20 := Nat.or_lt_two_pow hb (Nat.pow_lt_pow_right (by decide) hw)
theorem td_or {b w : Nat} (u : Nat) : (b ||| 2 ^ w).testBit u = (b.testBit u || decide (w = u)) := by
  rw [Nat.testBit_or, Nat.testBit_two_pow]
theorem t254 : ∀ u, u < 8 → (254 : Nat).testBit u = decide (1 ≤ u) := by decide +kernel
theorem td_254 {b : Nat} (hb : b < 2 ^ 20) : (nI b &&& (254 : Int32) = 0) = (∀ u, 1 ≤ u → u ≤ 7 → b.testBit u = false) := by
  rw [show (254 : Int32) = nI 254 from rfl, nI_and]
  have hl : b &&& 254 ≤ 254 := Nat.and_le_right
  refine propext ⟨fun e u h1 h2 => ?_, fun h => ?_⟩
  · have e0 := (nI_eq (b := 0) (by omega) (by decide)).mp e
    have := congrArg (fun x => Nat.testBit x u) e0
    simp only [Nat.testBit_and, Nat.zero_testBit] at this
    rw [t254 u (by omega)] at this
    simpa [h1] using this
  · have : b &&& 254 = 0 := by
      apply Nat.eq_of_testBit_eq
      intro u
      rw [Nat.testBit_and, Nat.zero_testBit]
      by_cases q : u < 8
      · rw [t254 u q]
        by_cases q1 : 1 ≤ u
        · rw [h u q1 (by omega)]; rfl
        · simp [q1]
      · rw [Nat.testBit_lt_two_pow (x := 254) (i := u) (Nat.lt_of_lt_of_le (show 254 < 2 ^ 8 by decide) (Nat.pow_le_pow_right (by decide) (by omega)))]
        simp
    rw [this]; rfl
/-- flights, people, ladders, goings told so far -/
def PRL (p nf np nl ng : Nat) (hc hr : HH) : Prop :=
  ((hc.1 p 0 = nI nf ∧ hr.1 257 7 = nI nf ∧ nf ≤ 6) ∧ (hc.1 p 2 = nI np ∧ hr.1 257 8 = nI np ∧ np ≤ 6) ∧ (hc.1 p 5 = nI nl ∧ hr.1 257 9 = nI nl ∧ nl ≤ 6) ∧ (hc.1 p 9 = nI ng ∧ hr.1 257 10 = nI ng ∧ ng ≤ 20)) ∧
  ((∃ sl : Nat, sl ≤ 100 ∧ hc.1 p 15 = nI sl ∧ hr.1 257 11 = nI sl) ∧ hc.1 (p + 16) 6 = hr.1 257 12 ∧ hc.1 (p + 16) 5 = 0) ∧
  (∀ f, f < nf → ∃ u : Nat, u ≤ 20 ∧ hc.1 (p + 1) f = nI u ∧ hr.1 258 (6 + f) = nI u) ∧
  (∀ a, a < np → hr.1 259 (6 + a) = hc.1 (p + 2) a ∧ (∃ u : Nat, u ≤ 99 ∧ hc.1 (p + 3) a = nI u ∧ hr.1 261 (6 + a) = nI u) ∧ ∃ u : Nat, u ≤ nf ∧ hc.1 (p + 17) a = nI u ∧ hr.1 260 (6 + a) = nI u) ∧
  ((∀ a, a < 6 → hc.1 (p + 18) a = 0 ∧ hc.1 (p + 19) a = 0 ∧ hc.1 (p + 20) a = 0) ∧ ∀ a, np ≤ a → a < 6 → hc.1 (p + 17) a = 0) ∧
  ((∀ k, k < 6 * np → hc.1 (p + 21) k = hr.1 262 (36 + k) ∧ inB (hc.1 (p + 21) k)) ∧ ∀ k, 6 * np ≤ k → k < 36 → hc.1 (p + 21) k = 0) ∧
  (∀ l, l < nl → ∃ i j u : Nat, (i ≤ nf ∧ j ≤ nf ∧ u ≤ 99) ∧ (hc.1 (p + 4) l = nI i ∧ hr.1 263 (6 + l) = nI i) ∧ (hc.1 (p + 5) l = nI j ∧ hr.1 264 (6 + l) = nI j) ∧ hc.1 (p + 6) l = nI u ∧ hr.1 265 (6 + l) = nI u) ∧
  ∀ g, g < ng → ∃ how a u x : Nat, (how < 3 ∧ a < np ∧ u < 100 ∧ x ≤ 6 ∧ (how = 0 → x ≤ nf) ∧ (how = 1 → x < nl)) ∧ (hc.1 (p + 7) g = nI (22 + how) ∧ hr.1 266 (20 + g) = nI how) ∧ (hc.1 (p + 8) g = nI a ∧ hr.1 267 (20 + g) = nI a) ∧ (hc.1 (p + 9) g = nI u ∧ hr.1 268 (20 + g) = nI u) ∧ hc.1 (p + 10) g = nI x ∧ hr.1 269 (20 + g) = nI x
/-- laws told so far -/
def LWS (p t b : Nat) (O : List (Int32 × Int32)) (hc hr : HH) : Prop :=
  (hc.1 24 11 = nI t ∧ hr.1 255 32 = nI t ∧ hr.1 255 31 = nI 0 ∧ t ≤ 64 ∧ O.length ≤ t) ∧
  (hc.1 (p + 11) 2 = nI O.length ∧ hr.1 257 13 = nI O.length ∧ ∀ j x, O[j]? = some x → (hc.1 (p + 12) j = x.1 ∧ hc.1 (p + 13) j = x.2) ∧ coded x.1 x.2 (hr.1 272 (64 + j)) (hr.1 273 (64 + j)) ∧ kOk x.1) ∧
  ∀ r, r < 3 → ∃ s e : Nat, (hc.1 (p + 14) r = nI s ∧ hc.1 (p + 15) r = nI e) ∧ (hr.1 270 (3 + r) = nI s ∧ hr.1 271 (3 + r) = nI e) ∧ (s ≤ e ∧ e ≤ O.length) ∧ (s < e → dpS (hc.1 (p + 12)) (e - s) s 0 = some 1) ∧ (b.testBit (16 + r) = true ↔ s < e)
/-- which words were told so far -/
def FLG (b : Nat) (hc hr : HH) : Prop := b < 2 ^ 20 ∧ hr.1 255 20 = nI b ∧ (hc.1 24 6 = 0 ↔ ∀ u, 1 ≤ u → u ≤ 7 → b.testBit u = false) ∧ (hc.1 24 7 = 0 ↔ b.testBit 8 = false) ∧ (hc.1 24 8 = 0 ↔ b.testBit 9 = false)
theorem PRL.k {p nf np nl ng : Nat} {hc hr hc' hr' : HH} (h : PRL p nf np nl ng hc hr) (e1 : ∀ a k, p ≤ a → a < p + 22 → hc'.1 a k = hc.1 a k) (e2 : ∀ a k, 257 ≤ a → a ≤ 269 → hr'.1 a k = hr.1 a k) : PRL p nf np nl ng hc' hr' := by
  obtain ⟨⟨⟨a1, a2, a3⟩, ⟨a4, a5, a6⟩, ⟨a7, a8, a9⟩, a10, a11, a12⟩, ⟨⟨sl, b1, b2, b3⟩, b4, b5⟩, c, d, ⟨f1, f2⟩, ⟨g1, g2⟩, l, m⟩ := h
  refine ⟨⟨⟨(e1 _ _ (by omega) (by omega)).trans a1, (e2 _ _ (by omega) (by omega)).trans a2, a3⟩, ⟨(e1 _ _ (by omega) (by omega)).trans a4, (e2 _ _ (by omega) (by omega)).trans a5, a6⟩, ⟨(e1 _ _ (by omega) (by omega)).trans a7, (e2 _ _ (by omega) (by omega)).trans a8, a9⟩, (e1 _ _ (by omega) (by omega)).trans a10, (e2 _ _ (by omega) (by omega)).trans a11, a12⟩, ⟨⟨sl, b1, (e1 _ _ (by omega) (by omega)).trans b2, (e2 _ _ (by omega) (by omega)).trans b3⟩, by rw [e1 _ _ (by omega) (by omega), e2 _ _ (by omega) (by omega)]; exact b4, (e1 _ _ (by omega) (by omega)).trans b5⟩, fun f hf => ?_, fun a ha => ?_, ⟨fun a ha => ?_, fun a h1 h2 => (e1 _ _ (by omega) (by omega)).trans (f2 a h1 h2)⟩, ⟨fun k hk => ?_, fun k h1 h2 => (e1 _ _ (by omega) (by omega)).trans (g2 k h1 h2)⟩, fun x hx => ?_, fun g hg => ?_⟩
  · obtain ⟨u, u1, u2, u3⟩ := c f hf
    exact ⟨u, u1, (e1 _ _ (by omega) (by omega)).trans u2, (e2 _ _ (by omega) (by omega)).trans u3⟩
  · obtain ⟨d1, ⟨u, u1, u2, u3⟩, v, v1, v2, v3⟩ := d a ha
    exact ⟨by rw [e1 _ _ (by omega) (by omega), e2 _ _ (by omega) (by omega)]; exact d1, ⟨u, u1, (e1 _ _ (by omega) (by omega)).trans u2, (e2 _ _ (by omega) (by omega)).trans u3⟩, v, v1, (e1 _ _ (by omega) (by omega)).trans v2, (e2 _ _ (by omega) (by omega)).trans v3⟩
  · rw [e1 (p + 18) _ (by omega) (by omega), e1 (p + 19) _ (by omega) (by omega), e1 (p + 20) _ (by omega) (by omega)]; exact f1 a ha
  · rw [e1 _ _ (by omega) (by omega), e2 _ _ (by omega) (by omega)]; exact g1 k hk
  · obtain ⟨i, j, u, l1, ⟨l2, l3⟩, ⟨l4, l5⟩, l6, l7⟩ := l x hx
    exact ⟨i, j, u, l1, ⟨(e1 _ _ (by omega) (by omega)).trans l2, (e2 _ _ (by omega) (by omega)).trans l3⟩, ⟨(e1 _ _ (by omega) (by omega)).trans l4, (e2 _ _ (by omega) (by omega)).trans l5⟩, (e1 _ _ (by omega) (by omega)).trans l6, (e2 _ _ (by omega) (by omega)).trans l7⟩
  · obtain ⟨how, a, u, x, m1, ⟨m2, m3⟩, ⟨m4, m5⟩, ⟨m6, m7⟩, m8, m9⟩ := m g hg
    exact ⟨how, a, u, x, m1, ⟨(e1 _ _ (by omega) (by omega)).trans m2, (e2 _ _ (by omega) (by omega)).trans m3⟩, ⟨(e1 _ _ (by omega) (by omega)).trans m4, (e2 _ _ (by omega) (by omega)).trans m5⟩, ⟨(e1 _ _ (by omega) (by omega)).trans m6, (e2 _ _ (by omega) (by omega)).trans m7⟩, (e1 _ _ (by omega) (by omega)).trans m8, (e2 _ _ (by omega) (by omega)).trans m9⟩
theorem LWS.k {p t b b' : Nat} {O : List (Int32 × Int32)} {hc hr hc' hr' : HH} (h : LWS p t b O hc hr) (e1 : ∀ a k, (a = 24 ∧ k = 11) ∨ (p + 11 ≤ a ∧ a ≤ p + 15 ∧ (a = p + 11 → k = 2)) → hc'.1 a k = hc.1 a k) (e2 : ∀ a k, (a = 255 ∧ (k = 31 ∨ k = 32)) ∨ (a = 257 ∧ k = 13) ∨ (270 ≤ a ∧ a ≤ 273) → hr'.1 a k = hr.1 a k) (eb : ∀ r, r < 3 → b'.testBit (16 + r) = b.testBit (16 + r)) : LWS p t b' O hc' hr' := by
  obtain ⟨⟨a1, a2, a3, a4, a5⟩, ⟨b1, b2, b3⟩, c⟩ := h
  refine ⟨⟨(e1 _ _ (by omega)).trans a1, (e2 _ _ (by omega)).trans a2, (e2 _ _ (by omega)).trans a3, a4, a5⟩, ⟨(e1 _ _ (by omega)).trans b1, (e2 _ _ (by omega)).trans b2, fun j x hx => ?_⟩, fun r hr3 => ?_⟩
  · rw [e1 (p + 12) _ (by omega), e1 (p + 13) _ (by omega), e2 272 _ (by omega), e2 273 _ (by omega)]; exact b3 j x hx
  · obtain ⟨s, e, c1, c2, c3, c4, c5⟩ := c r hr3
    have e12 : hc'.1 (p + 12) = hc.1 (p + 12) := funext fun k => e1 _ _ (by omega)
    refine ⟨s, e, ?_, ?_, c3, by rw [e12]; exact c4, by rw [eb r hr3]; exact c5⟩
    · rw [e1 (p + 14) _ (by omega), e1 (p + 15) _ (by omega)]; exact c1
    · rw [e2 270 _ (by omega), e2 271 _ (by omega)]; exact c2
theorem FLG.k {b : Nat} {hc hr hc' hr' : HH} (h : FLG b hc hr) (e1 : ∀ k, 6 ≤ k → k ≤ 8 → hc'.1 24 k = hc.1 24 k) (e2 : hr'.1 255 20 = hr.1 255 20) : FLG b hc' hr' := by
  obtain ⟨f1, f2, f3, f4, f5⟩ := h
  refine ⟨f1, e2.trans f2, ?_, ?_, ?_⟩
  · rw [e1 6 (by omega) (by omega)]; exact f3
  · rw [e1 7 (by omega) (by omega)]; exact f4
  · rw [e1 8 (by omega) (by omega)]; exact f5
/-- both within a text, at token i -/
def LnS (T : TKD) (p i nf np nl ng t b : Nat) (O : List (Int32 × Int32)) (hc hr : HH) : Prop := At T i hc hr ∧ hc.2.2 1 = p ∧ PRL p nf np nl ng hc hr ∧ LWS p t b O hc hr ∧ FLG b hc hr
/-- how a line's word goes: a fault told by both; an E that ends where no line ends; or on -/
def LnO (T : TKD) (p i : Nat) (hc hr hc' hr' : HH) : Prop := sK p hc hc' ∧ sR hr hr' ∧ hr'.1 255 21 = hr.1 255 21 ∧ ((∃ f q, cF T f q hc' ∧ rF f q hr') ∨ (∃ j, rA T j hr' ∧ j < tL T ∧ ¬ tK T j = 4 ∧ cF T 1 (tPl T j) hc') ∨ ∃ j nf np nl ng t b O, i < j ∧ LnS T p j nf np nl ng t b O hc' hr')
/-- the end of a line, by the class -/
def tlC : HH → Option (Unit × HH) := fun (h8 : HH) =>
      gfI h8 24 4 fun v9 =>
      jn (fun  (h12 : HH) =>
        bnd (g_X6_advance h12) fun _ h13 => 
        some ((), h13)) fun j10 =>
      if v9 = 0 then
        (bnd (g_X6_kind h8) fun r16 h15 => 
        if r16 = (4 : Int32) then
          (j10 h15)
        else
          (bnd (g_X6_fail (1 : Int32) h15) fun _ h17 => 
          j10 h17))
      else
        (j10 h8)
/-- the end of a line, by the reference -/
def tlR : HH → Option (Unit × HH) := fun  (h25 : HH) =>
              gfI h25 255 27 fun v26 =>
              if v26 = 0 then
                (bnd (g_X11_isSign (59 : Int32) h25) fun r28 h27 => 
                jn (fun  (h31 : HH) =>
                  gfI h31 255 21 fun v32 =>
                  pfI h31 255 21 (v32 + (1 : Int32)) fun h33 =>
                  some ((), h33)) fun j29 =>
                if r28 = 0 then
                  (bnd (g_X11_wrong (1 : Int32) h27) fun _ h34 => 
                  j29 h34)
                else
                  (bnd (g_X11_token h27) fun _ h36 => 
                  j29 h36))
              else
                (some ((), h25))
theorem eR.R {h h' : HH} (e : eR h h') : sR h h' := ⟨fun a k q1 q2 q3 q4 q5 q6 q7 q8 => e.1 a k (by omega) (by omega) (by omega), e.2⟩
/-- a line told, by both -/
def LnD (T : TKD) (p i : Nat) (hc hr hc' hr' : HH) : Prop := sK p hc hc' ∧ sR hr hr' ∧ ((∃ f q, cF T f q hc' ∧ rF f q hr') ∨ ∃ j nf np nl ng t b O, i < j ∧ LnS T p j nf np nl ng t b O hc' hr' ∧ hr'.1 255 21 = hr.1 255 21 + 1)
theorem line_tl {T : TKD} (w : TKok T) {p i : Nat} (hp : pOk p) {hc hr hc' hr' : HH} (h : LnO T p i hc hr hc' hr') : ∃ hc'' hr'', tlC hc' = some ((), hc'') ∧ tlR hr' = some ((), hr'') ∧ LnD T p i hc hr hc'' hr'' := by
  obtain ⟨s1, s2, s3, hh⟩ := h
  have hp' : p + 22 ≤ 60 ∧ (p + 22 ≤ 24 ∨ 30 ≤ p) ∧ 2 ≤ p := by rcases hp with rfl | rfl <;> omega
  rcases hh with ⟨f, q, c, r⟩ | ⟨j, r, hj, k4, c⟩ | ⟨j, nf, np, nl, ng, t, b, O, hij, ⟨⟨⟨c1, c2, c3⟩, r, hj⟩, e1, hP, hL, hF⟩⟩
  · obtain ⟨h1, f1, f2, f3⟩ := x6_advF w c p
    refine ⟨h1, hr', ?_, ?_, s1.tr f3, s2, Or.inl ⟨f, q, f2, r⟩⟩
    · unfold tlC
      simp only [gfI, jn]
      rw [if_neg c.n, f1]
      rfl
    · unfold tlR
      simp only [gfI]
      rw [if_neg r.n]
  · obtain ⟨h1, f1, f2, f3⟩ := x6_advF w c p
    obtain ⟨r1, v1, v2, v3⟩ := rF.e r 1 (by decide)
    refine ⟨h1, wrI r1 255 21 (r1.1 255 21 + 1), ?_, ?_, s1.tr f3, (s2.tr v3.R).tr (sR_255 r1 _ (by omega) (by omega) (by omega) (by omega) (by omega)), Or.inl ⟨1, _, f2, v2.1, by rw [wrI_1, if_neg (by omega)]; exact v2.2.1, by rw [wrI_1, if_neg (by omega)]; exact v2.2.2⟩⟩
    · unfold tlC
      simp only [gfI, jn]
      rw [if_neg c.n, f1]
      rfl
    · unfold tlR
      simp only [gfI, pfI, jn]
      rw [r.2.2.2.2, if_pos rfl, show g_X11_isSign 59 hr' = _ from r_isSign r (q := (4, 59)) (by decide), bnd_some, if_neg k4, if_pos rfl, v1, bnd_some]
  · by_cases k4 : tK T j = 4
    · have hk0 : ¬ tK T j = 0 := by rw [k4]; decide
      obtain ⟨r1, v1, v2, v3⟩ := r_token w hj hk0 r
      refine ⟨wrI hc' 24 3 (nI (j + 1)), wrI r1 255 21 (r1.1 255 21 + 1), ?_, ?_, s1.tr (sK_24 p _ _ (by omega) (by omega)), (s2.tr v2.R).tr (sR_255 r1 _ (by omega) (by omega) (by omega) (by omega) (by omega)), Or.inr ⟨j + 1, nf, np, nl, ng, t, b, O, by omega, ⟨⟨⟨c1.k fun a k h1 h2 => by rw [wrI_1, if_neg (by omega)], wrI_at _ _ _ _, by rw [wrI_1, if_neg (by omega)]; exact c3⟩, v3.k (fun k _ _ => by rw [wrI_1, if_neg (by omega)]) (fun k => by rw [wrI_1, if_neg (by omega)]), tK_e w hj hk0⟩, e1, ?_, ?_, ?_⟩, ?_⟩⟩
      · unfold tlC
        simp only [gfI, jn]
        rw [c3, if_pos rfl, x6_kind w c1 hj c2, bnd_some, if_pos k4, x6_adv w c1 hj c2, bnd_some]
      · unfold tlR
        simp only [gfI, pfI, jn]
        rw [r.2.2.2.2, if_pos rfl, show g_X11_isSign 59 hr' = _ from r_isSign r (q := (4, 59)) (by decide), bnd_some, if_pos k4, if_neg (by decide), v1, bnd_some]
      · exact hP.k (fun a k h1 h2 => by rw [wrI_1, if_neg (by omega)]) fun a k h1 h2 => by rw [wrI_1, if_neg (by omega)]; exact v2.1 a k (by omega)
      · exact hL.k (fun a k z => by rw [wrI_1, if_neg (by omega)]) (fun a k z => by rw [wrI_1, if_neg (by omega)]; exact v2.1 a k (by omega)) fun _ _ => rfl
      · exact hF.k (fun k h1 h2 => by rw [wrI_1, if_neg (by omega)]) (by rw [wrI_1, if_neg (by omega)]; exact v2.1 _ _ (by omega))
      · rw [wrI_at, v2.1 _ _ (by omega), s3]
    · obtain ⟨h2, g1, g2, g3⟩ := x6_failT w c1 hj c2 1 c3 (by decide) p
      obtain ⟨h1, f1, f2, f3⟩ := x6_advF w g2 p
      obtain ⟨r1, v1, v2, v3⟩ := rF.e r 1 (by decide)
      refine ⟨h1, wrI r1 255 21 (r1.1 255 21 + 1), ?_, ?_, (s1.tr g3).tr f3, (s2.tr v3.R).tr (sR_255 r1 _ (by omega) (by omega) (by omega) (by omega) (by omega)), Or.inl ⟨1, _, f2, v2.1, by rw [wrI_1, if_neg (by omega)]; exact v2.2.1, by rw [wrI_1, if_neg (by omega)]; exact v2.2.2⟩⟩
      · unfold tlC
        simp only [gfI, jn]
        rw [c3, if_pos rfl, x6_kind w c1 hj c2, bnd_some, if_neg k4, g1, bnd_some, f1]
        rfl
      · unfold tlR
        simp only [gfI, pfI, jn]
        rw [r.2.2.2.2, if_pos rfl, show g_X11_isSign 59 hr' = _ from r_isSign r (q := (4, 59)) (by decide), bnd_some, if_neg k4, if_pos rfl, v1, bnd_some]
