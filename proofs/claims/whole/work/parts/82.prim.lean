/-! an E: numbers, names, brackets -/
theorem ER.tk {T : TKD} (w : TKok T) {i o t : Nat} (hi : i < tL T) (hk : ¬ tK T i = 0) {O : List (Int32 × Int32)} {h : HH} (c : ER T i o t O h) : ∃ h', g_X11_token h = some ((), h') ∧ ER T (i + 1) o t O h' ∧ eR h h' := by
  obtain ⟨h', f1, f2, f3⟩ := r_token w hi hk c.1
  exact ⟨h', f1, ⟨f3, ⟨(f2.1 _ _ (by omega)).trans c.2.1.1, (f2.1 _ _ (by omega)).trans c.2.1.2⟩, (f2.1 _ _ (by omega)).trans c.2.2.1, fun j x hx => by rw [f2.1 272 _ (by omega), f2.1 273 _ (by omega)]; exact c.2.2.2 j x hx⟩, f2.e⟩
theorem ER.o {T : TKD} {i o t : Nat} {O : List (Int32 × Int32)} {h : HH} (c : ER T i o t O h) (o' : Nat) : ER T i o' t O (wrI h 255 31 (nI o')) :=
  ⟨c.1.k (fun k _ _ => by rw [wrI_1, if_neg (by omega)]) (fun k => by rw [wrI_1, if_neg (by omega)]), ⟨wrI_at _ _ _ _, by rw [wrI_1, if_neg (by omega)]; exact c.2.1.2⟩, by rw [wrI_1, if_neg (by omega)]; exact c.2.2.1, fun j x hx => by rw [wrI_1, if_neg (by omega), wrI_1, if_neg (by omega)]; exact c.2.2.2 j x hx⟩
theorem DX_1 {x : Int32 × Int32} (h : x.1 = 2 ∨ ¬ x.1 < 34) : DX [x] := by
  intro d
  unfold dpl
  rw [if_pos h]
  rfl
theorem sW_17 : ∀ j, j < 24 → (17 ≤ j → sW j = j) ∧ (j < 17 → sW j < 17) := by decide +kernel
/-- one part more, by both -/
theorem E_one {T : TKD} (w : TKok T) {p : Nat} (hp : pOk p) {o i t : Nat} {W : List Int32} {O : List (Int32 × Int32)} {N x2 : Nat} {hc hr : HH} (a1 : FU T i N x2) (a2 : EC T p i o t W O hc) (a3 : ER T i o t O hr) (a4 : i < tL T) (b1 : o ≤ 8) (b2 : t ≤ 64) (b3 : O.length ≤ t) (b4 : W.length ≤ t + o) (hk0 : ¬ tK T i = 0)
    {u s v : Int32} (hk : (tK T i = 2 ∧ u = tV T i ∧ ¬ tV T i < 0 ∧ ¬ 9999 < tV T i) ∨ (¬ tK T i < 34 ∧ ¬ 40 < tK T i ∧ u = 0)) (hcd : coded (tK T i) u s v) (hok : kOk (tK T i)) :
    ∃ hr', (bnd (g_X11_knot hr) fun _ h12 => bnd (g_X11_puts s v h12) fun _ h22 => bnd (g_X11_goOn h22) fun _ h24 => some ((), h24)) = some ((), hr') ∧ OutE T p 5 o t W O (cl N 1 x2 hc) hc hr hr' := by
  by_cases t64 : t = 64
  · obtain ⟨r1, k1, k2, k3⟩ := r_knot64 (by rw [t64] at a3; exact a3)
    have a2' := a2
    rw [t64] at a2'
    -- 64 knots: nothing more
    obtain ⟨N', x', rfl, rfl, hx, e⟩ := cl_1 w a2 a4 a1
    refine ⟨r1, by rw [k1, bnd_some, r_puts_F k2, bnd_some, r_goOn_F k2, bnd_some], k3, Or.inl ?_⟩
    by_cases hO : O.length < 64
    · obtain ⟨_, g2⟩ := cl_part w hp a2 a4 a1 hO b2 (by omega) hk
      obtain ⟨c', j1, j2, j3⟩ := g2 t64
      exact ⟨_, _, c', j1, j2, k2, j3⟩
    · obtain ⟨h3, g1, g2, g3⟩ := x_knot64 w a4 (by omega) a2'
      obtain ⟨h5, j1, j2, j3⟩ := cl_F g2 (N := N') (by omega) 0 x'
      refine ⟨_, _, h5, ?_, j2, k2, g3.tr j3⟩
      obtain ⟨⟨c1, c2, c3, c4⟩, _⟩ := a2
      rw [e]
      unfold g_X6_readPart
      simp only [jn]
      rcases hk with ⟨q1, q2, q3, q4⟩ | ⟨q1, q2, q3⟩
      · have lk : g_X6_look 0 9999 hc = some (tV T i, hc) := by
          unfold g_X6_look
          simp only [gfI, jn]
          rw [c3, if_pos rfl, x6_kind w c1 a4 c4, bnd_some, if_pos q1, x6_value w c1 a4 c4, bnd_some, if_neg q3, x6_value w c1 a4 c4, bnd_some, if_neg q4, x6_value w c1 a4 c4, bnd_some]
        rw [q1]
        rw [if_neg (by decide), if_neg (by decide), if_pos rfl, if_neg (by decide), if_neg (by decide), lk, bnd_some, g1, bnd_some, x_emit_F g2.1, bnd_some, bnd_some, if_neg (by decide)]
        exact j1
      · have n5 : ¬ tK T i = 5 := fun z => q1 (by rw [z]; decide)
        have n33 : ¬ tK T i = 33 := fun z => q1 (by rw [z]; decide)
        have n2 : ¬ tK T i = 2 := fun z => q1 (by rw [z]; decide)
        rw [if_neg n5, if_neg n33, if_neg n2, if_pos True.intro, if_neg q1, if_neg q2, if_pos True.intro, g1, bnd_some, x_emit_F g2.1, bnd_some, bnd_some, if_neg (by decide)]
        exact j1
  · obtain ⟨g1, _⟩ := cl_part w hp a2 a4 a1 (by omega) b2 (by omega) hk
    obtain ⟨N1, x1, d1, j1, j2, j3, j4⟩ := g1 (by omega)
    obtain ⟨r1, k1, k2, k3⟩ := r_knot a3 (by omega)
    obtain ⟨r2, v1, v2, v3⟩ := k2.w (by omega) hcd
    obtain ⟨r3, k4, k5, k6⟩ := v2.n w a4 hk0
    refine ⟨r3, by rw [k1, bnd_some, v1, bnd_some, k4, bnd_some], (k3.tr v3).tr k6, Or.inr ⟨N1, x1, i + 1, [], O ++ [(tK T i, u)], [(tK T i, u)], d1, ⟨⟨j1, j2, tK_e w a4 hk0, j4⟩, ⟨j3, k5, by simp⟩, ⟨by show t + 1 ≤ 64; omega, fun k hk => (by cases hk), Nat.zero_le _⟩, DX_1 ?_, fun x hx => ?_⟩, ⟨fun z => by omega, fun z => by omega, fun z => by omega, fun z => by omega, fun z => by omega⟩⟩⟩
    · rcases hk with ⟨q1, _⟩ | ⟨q1, _⟩
      · exact Or.inl q1
      · exact Or.inr q1
    · rw [List.mem_singleton.mp hx]; exact hok
theorem E_prim {T : TKD} (w : TKok T) {p n0 : Nat} (hp : pOk p) (IH : MLE T p n0) {o i t : Nat} {W : List Int32} {O : List (Int32 × Int32)} {N x2 : Nat} {hc hr : HH} (h : PreE T p 5 o (n0 + 1) i t W O N x2 hc hr) :
    ∃ hr', rG (n0 + 1) 5 hr = some ((), hr') ∧ OutE T p 5 o t W O (cl N 1 x2 hc) hc hr hr' := by
  obtain ⟨⟨a1, a2, a3, a4⟩, ⟨b1, b2, b3, b4⟩, ⟨c1, c2⟩, d⟩ := h
  show ∃ hr', g_X11_primary (rG n0) hr = some ((), hr') ∧ _
  unfold g_X11_primary
  simp only [gfI, pfI, jn]
  rw [a3.1.2.2.2.2, if_pos rfl, show g_X11_isSign 40 hr = _ from r_isSign a3.1 (q := (5, 40)) (by decide), bnd_some]
  by_cases k5 : tK T i = 5
  · have hk0 : ¬ tK T i = 0 := by rw [k5]; decide
    obtain ⟨g1, g2⟩ := cl_open w hp a2 a4 a1 k5 b1 (by omega)
    rw [if_pos k5, if_neg (by decide), a3.2.1.1]
    by_cases o8 : o = 8
    · obtain ⟨c', j1, j2, j3⟩ := g2 o8
      obtain ⟨r1, k1, k2, k3⟩ := rF.e a3.1 2 (by decide)
      exact ⟨r1, by rw [if_pos (by rw [o8]; rfl), k1, bnd_some, if_neg k2.n], k3, Or.inl ⟨_, _, c', j1, j2, k2, j3⟩⟩
    · obtain ⟨N1, x1, d1, j1, j2, j3, j4⟩ := g1 (by omega) (by omega)
      obtain ⟨r1, k1, k2, k3⟩ := (a3.o (o + 1)).tk w a4 hk0
      have k3' : eR hr r1 := (eR_255 hr _ (by omega)).tr k3
      obtain ⟨r2, q1, q2, q3⟩ := IH 0 (o + 1) (i + 1) t (5 :: W) O N1 x1 d1 r1 (by omega) ⟨⟨j2, j3, k2, tK_e w a4 hk0⟩, ⟨by omega, b2, b3, by simp; omega⟩, ⟨by show str 5 < 1; decide, fun z => by omega⟩, by omega⟩
      rw [if_neg (show ¬ nI o = 8 from fun e => o8 ((nI_eq (b := 8) (by omega) (by decide)).mp e)), a3.1.2.2.2.2, if_pos rfl, nI_1, k1, bnd_some, q1, bnd_some]
      rcases q3 with ⟨f, q, e2, f1, f2, f3, f4⟩ | ⟨N2, x3, i2, P, O2, X, e2, ⟨⟨m1, m2, m3, m4⟩, ⟨m5, m6, m7⟩, ⟨m8, m9, m10⟩, m11, m12⟩, hst⟩
      · exact ⟨r2, by rw [if_neg f3.n, if_neg f3.n], k3'.tr q2, Or.inl ⟨f, q, e2, j1.trans f1, f2, f3, j4.tr f4⟩⟩
      · have hlen := congrArg List.length m7
        simp at hlen
        rw [if_pos m6.1.2.2.2.2, show g_X11_isSign 41 r2 = _ from r_isSign m6.1 (q := (6, 41)) (by decide), bnd_some]
        by_cases k6 : tK T i2 = 6
        · have hk0' : ¬ tK T i2 = 0 := by rw [k6]; decide
          obtain ⟨N4, x4, c4, u1, u2, u3, u4⟩ := cl_close w hp (by omega) m5 m3 m2 k6 m9 (by simp; omega) (by omega)
          obtain ⟨r3, v1, v2, v3⟩ := (m6.o o).tk w m3 hk0'
          rw [m7] at u3
          refine ⟨r3, ?_, ((k3'.tr q2).tr (eR_255 r2 _ (by omega))).tr v3, Or.inr ⟨N4, x4, i2 + 1, [], O ++ X, X, c4, ⟨⟨(j1.trans m1).trans u1, u2, tK_e w m3 hk0', (j4.tr m4).tr u4⟩, ⟨u3, v2, by simp⟩, ⟨m8, fun k hk => (by cases hk), Nat.zero_le _⟩, m11, m12⟩, ⟨fun z => by omega, fun z => by omega, fun z => by omega, fun z => by omega, fun z => by omega⟩⟩⟩
          rw [if_pos k6, if_neg (by decide), m6.1.2.2.2.2, if_pos rfl, m6.2.1.1, show nI (o + 1) - 1 = nI o from nI_pred o, v1, bnd_some]
        · obtain ⟨r3, v1, v2, v3⟩ := rF.e m6.1 1 (by decide)
          have cls : ∃ c', cl N2 0 x3 e2 = some ((), c') ∧ FE T p 1 (tPl T i2) c' ∧ eS p e2 c' := by
            obtain ⟨s1, s2, s3, s4, s5⟩ := hst
            have s6 := str_le (tK T i2)
            have hl : (P ++ 5 :: W).length ≤ 72 := by simp; omega
            rcases (show str (tK T i2) = 0 ∨ str (tK T i2) = 3 ∨ str (tK T i2) = 4 by
              have := s1 (by decide)
              have := s2 (by decide)
              have := s4 (by decide)
              have := s5 rfl
              omega) with z | z | z
            · obtain ⟨c', y1, y2, y3⟩ := kE_open w m5 (by omega) m3 hl
              exact ⟨c', by rw [cl_end w m5 (by omega) m3 m2 (fun y => k6 y.1) (Or.inl z)]; exact y1, y2, y3⟩
            · obtain ⟨c', y1, y2, y3⟩ := kE_open w m5 (by omega) m3 hl
              exact ⟨c', by rw [cl_end w m5 (by omega) m3 m2 (fun y => k6 y.1) (Or.inr (str_3.mp z))]; exact y1, y2, y3⟩
            · exact cl_cmp w hp m5 m3 m2 z (s3 (by decide) z) hl (by omega)
          obtain ⟨c', y1, y2, y3⟩ := cls
          refine ⟨r3, ?_, (k3'.tr q2).tr v3, Or.inl ⟨_, _, c', (j1.trans m1).trans y1, y2, v2, (j4.tr m4).tr y3⟩⟩
          rw [if_neg k6, if_pos rfl, v1, bnd_some, if_neg v2.n]
  · rw [if_neg k5, if_pos rfl]
    have hsv := a3.1.2.2.2.1
    have en := sv_num hsv
    by_cases k2 : tK T i = 2
    · have hs2 : hr.1 255 25 = 2 := by rw [en]; exact k2
      have hk0 : ¬ tK T i = 0 := by rw [k2]; decide
      obtain ⟨a, b, y1, y2, y3, y4, y5⟩ : ∃ a b : Nat, tV T i = nI a ∧ hr.1 255 26 = nI b ∧ (a = b ∨ (99999 < a ∧ 99999 < b)) ∧ a ≤ 1000000 ∧ b ≤ 1000000 := by
        rcases hsv with ⟨z, _⟩ | ⟨z, _⟩ | ⟨_, _, z⟩ | ⟨z, _⟩ | ⟨j, hj, z, _⟩ | ⟨q, hq, z, _⟩
        · exact absurd (z.symm.trans k2) (by decide)
        · exact absurd (z.symm.trans k2) (by decide)
        · exact z
        · exact absurd (z.symm.trans k2) (by decide)
        · have := (nI_eq (b := 2) (by have := w_lt hj; omega) (by decide)).mp (z.symm.trans k2)
          omega
        · exact absurd (z.symm.trans k2) (sg_2 q hq).2.2.1
      rw [if_pos hs2]
      by_cases big : 9999 < b
      · obtain ⟨c', u1, u2, u3⟩ := cl_big w a2 a4 a1 (by omega) k2 ⟨by rw [y1]; exact nI_pos (by omega), by rw [y1]; exact nI_lt (a := 9999) (by omega) (by omega)⟩
        obtain ⟨r1, v1, v2, v3⟩ := rF.e a3.1 2 (by decide)
        refine ⟨r1, ?_, v3, Or.inl ⟨_, _, c', u1, u2, v2, u3⟩⟩
        rw [if_neg (show ¬ (1 : Int32) = 0 by decide), y2, if_pos (show 9999 < nI b from nI_lt (a := 9999) big (by omega)), v1, bnd_some, r_knot_F v2, bnd_some]
        simp only [i10, if_false]
        rw [r_puts_F v2, bnd_some, r_goOn_F v2, bnd_some]
      · have hab : a = b := by omega
        obtain ⟨r1, u1, u2⟩ := E_one w hp a1 a2 a3 a4 b1 b2 b3 b4 hk0 (u := nI b) (s := 0) (v := nI b) (Or.inl ⟨k2, by rw [y1, hab], by rw [y1]; exact nI_pos (by omega), by rw [y1]; exact nI_nlt (a := 9999) (by omega) (by decide)⟩) (Or.inl ⟨k2, rfl, rfl⟩) (Or.inl k2)
        refine ⟨r1, ?_, u2⟩
        rw [if_neg (show ¬ (1 : Int32) = 0 by decide), y2, if_neg (show ¬ 9999 < nI b from nI_nlt (a := 9999) (by omega) (by decide))]
        simp only [i10, if_false]
        rw [← u1]
        by_cases t64 : t = 64
        · obtain ⟨h1, k1, k2', k3⟩ := r_knot64 (by rw [t64] at a3; exact a3)
          rw [k1, bnd_some, bnd_some, r_puts_F k2', r_puts_F k2']
        · obtain ⟨h1, k1, k2', k3⟩ := r_knot a3 (by omega)
          have e26 : h1.1 255 26 = nI b := by
            obtain ⟨_, hE⟩ := Option.some.inj (show some ((), h1) = some ((), wrI hr 255 32 (nI (t + 1))) by
              rw [← k1]
              unfold g_X11_knot
              simp only [gfI, pfI]
              rw [a3.1.2.2.2.2, if_pos rfl, a3.2.1.2, if_neg (show ¬ nI t = 64 from fun e => by have := (nI_eq (b := 64) (by omega) (by decide)).mp e; omega), nI_1]) |> fun e => (Prod.mk.inj e : () = () ∧ h1 = _)
            rw [hE, wrI_1, if_neg (by omega)]; exact y2
          rw [k1, bnd_some, bnd_some, e26]
    · have hs2 : ¬ hr.1 255 25 = 2 := by rw [en]; exact k2
      rw [if_neg hs2]
      simp only [if_true]
      have ew := sv_wrd hsv
      have fl : (tK T i < 34 ∨ 40 < tK T i) → ∀ hr', g_X11_wrong 1 hr = some ((), hr') → True := fun _ _ _ => trivial
      have bad : (tK T i < 34 ∨ 40 < tK T i) → ∃ r1 c', g_X11_wrong 1 hr = some ((), r1) ∧ rF 1 (tPl T i) r1 ∧ eR hr r1 ∧ cl N 1 x2 hc = some ((), c') ∧ FE T p 1 (tPl T i) c' ∧ eS p hc c' := by
        intro z
        obtain ⟨r1, v1, v2, v3⟩ := rF.e a3.1 1 (by decide)
        obtain ⟨c', u1, u2, u3⟩ := cl_none w a2 a4 a1 (by omega) k5 (c2 (by decide)) k2 z
        exact ⟨r1, c', v1, v2, v3, u1, u2, u3⟩
      by_cases wd : hr.1 255 25 = 0
      · have wd' := wd
        rw [ew] at wd'
        obtain ⟨j, hj, e1, e2⟩ := wd'
        rw [if_pos wd, e2]
        by_cases j17 : j < 17
        · have s17 := (sW_17 j hj).2 j17
          obtain ⟨r1, c', v1, v2, v3, u1, u2, u3⟩ := bad (Or.inl (by rw [e1]; exact nI_lt (b := 34) (by omega) (by decide)))
          refine ⟨r1, ?_, v3, Or.inl ⟨_, _, c', u1, u2, v2, u3⟩⟩
          rw [if_pos (show nI j < 17 from nI_lt (b := 17) j17 (by decide)), v1, bnd_some, r_knot_F v2, bnd_some]
          rw [r_puts_F v2, bnd_some, r_goOn_F v2, bnd_some]
        · have s17 := (sW_17 j hj).1 (by omega)
          rw [s17] at e1
          have hk0 : ¬ tK T i = 0 := by rw [e1]; exact nI_ne0 (by omega) (by omega)
          obtain ⟨r1, u1, u2⟩ := E_one w hp a1 a2 a3 a4 b1 b2 b3 b4 hk0 (u := 0) (s := 1) (v := nI (j - 17)) (Or.inr ⟨by rw [e1]; exact nI_nlt (b := 34) (by omega) (by omega), by rw [e1]; exact nI_nlt (a := 40) (by omega) (by decide), rfl⟩) (Or.inr (Or.inr (Or.inr ⟨j - 17, by omega, by rw [e1]; congr 1; omega, rfl, rfl⟩))) (by
            refine Or.inr (Or.inr (Or.inr ?_))
            rw [e1, show 17 + j = 34 + (j - 17) by omega]
            exact nI_34 (by omega))
          refine ⟨r1, ?_, u2⟩
          rw [if_neg (show ¬ nI j < 17 from nI_nlt (b := 17) (by omega) (by omega))]
          rw [← u1]
          by_cases t64 : t = 64
          · obtain ⟨h1, k1, k2', k3⟩ := r_knot64 (by rw [t64] at a3; exact a3)
            rw [k1, bnd_some, bnd_some, r_puts_F k2', r_puts_F k2']
          · have k1 : g_X11_knot hr = some ((), wrI hr 255 32 (nI (t + 1))) := by
              unfold g_X11_knot
              simp only [gfI, pfI]
              rw [a3.1.2.2.2.2, if_pos rfl, a3.2.1.2, if_neg (show ¬ nI t = 64 from fun e => by have := (nI_eq (b := 64) (by omega) (by decide)).mp e; omega), nI_1]
            rw [k1, bnd_some, bnd_some, wrI_1, if_neg (by omega), e2, show (17 : Int32) = nI 17 from rfl, pk_sub (by omega)]
      · obtain ⟨r1, c', v1, v2, v3, u1, u2, u3⟩ := bad (Or.inl (by
          rcases hsv with ⟨z, _⟩ | ⟨z, _⟩ | ⟨z, _⟩ | ⟨z, _⟩ | ⟨j, hj, _, z, _⟩ | ⟨q, hq, z, _⟩
          · rw [z]; decide
          · rw [z]; decide
          · rw [z]; decide
          · rw [z]; decide
          · exact absurd z wd
          · rw [z]; exact Int32.lt_of_le_of_lt (sg_2 q hq).2.2.2.2.2 (by decide)))
        refine ⟨r1, ?_, v3, Or.inl ⟨_, _, c', u1, u2, v2, u3⟩⟩
        rw [if_neg wd, v1, bnd_some, r_knot_F v2, bnd_some]
        rw [r_puts_F v2, bnd_some, r_goOn_F v2, bnd_some]
theorem MLE_all {T : TKD} (w : TKok T) {p : Nat} (hp : pOk p) : ∀ n, MLE T p n := by
  intro n
  induction n with
  | zero =>
    intro lv o i t W O N x2 hc hr hlv h
    obtain ⟨_, ⟨_, b2, _⟩, _, d⟩ := h
    omega
  | succ n ih =>
    intro lv o i t W O N x2 hc hr hlv h
    rcases (show lv = 0 ∨ lv = 1 ∨ lv = 2 ∨ lv = 3 ∨ lv = 4 ∨ lv = 5 by omega) with rfl | rfl | rfl | rfl | rfl | rfl
    · exact E_expr w hp ih h
    · exact E_conj w hp ih h
    · exact E_neg w hp ih h
    · exact E_sum w hp ih h
    · exact E_prod w hp ih h
    · exact E_prim w hp ih h
