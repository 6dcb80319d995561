/-! a number told: both look at it alike -/
theorem sv_n {k v s u : Int32} (h : sv k v s u) (hk : k = 2) : s = 2 ∧ ∃ a b : Nat, v = nI a ∧ u = nI b ∧ (a = b ∨ (99999 < a ∧ 99999 < b)) ∧ a ≤ 1000000 ∧ b ≤ 1000000 := by
  rcases h with ⟨z, _⟩ | ⟨z, _⟩ | ⟨_, y, z⟩ | ⟨z, _⟩ | ⟨j, hj, z, _⟩ | ⟨q, hq, z, _⟩
  · exact absurd (z.symm.trans hk) (by decide)
  · exact absurd (z.symm.trans hk) (by decide)
  · exact ⟨y, z⟩
  · exact absurd (z.symm.trans hk) (by decide)
  · have := (nI_eq (b := 2) (by have := w_lt hj; omega) (by decide)).mp (z.symm.trans hk)
    omega
  · exact absurd (z.symm.trans hk) (sg_2 q hq).2.2.1
/-- both stand at token i -/
def At (T : TKD) (i : Nat) (hc hr : HH) : Prop := (cT T hc ∧ hc.1 24 3 = nI i ∧ hc.1 24 4 = 0) ∧ rA T i hr ∧ i < tL T
theorem big_lt {a b : Nat} {lo : Int32} (hlo : lo ≤ 99999) (h : a = b ∨ (99999 < a ∧ 99999 < b)) (ha : a ≤ 1000000) (hb : b ≤ 1000000) : (nI a < lo ↔ nI b < lo) ∧ (lo < nI a ↔ lo < nI b) := by
  rcases h with rfl | ⟨h1, h2⟩
  · exact ⟨Iff.rfl, Iff.rfl⟩
  · have e1 : ∀ c, 99999 < c → c ≤ 1000000 → ¬ nI c < lo ∧ lo < nI c := fun c c1 c2 => by
      have l1 : lo < nI c := Int32.lt_of_le_of_lt hlo (nI_lt (a := 99999) c1 (by omega))
      exact ⟨fun z => Int32.lt_irrefl (Int32.lt_trans z l1), l1⟩
    exact ⟨⟨fun z => absurd z (e1 a h1 ha).1, fun z => absurd z (e1 b h2 hb).1⟩, ⟨fun _ => (e1 b h2 hb).2, fun _ => (e1 a h1 ha).2⟩⟩
theorem P_look {T : TKD} (w : TKok T) {i : Nat} {hc hr : HH} (at0 : At T i hc hr) {lo hi : Int32} (hlo : lo ≤ 99999) (hhi : hi ≤ 99999) (p : Nat) :
    (∃ v : Nat, v ≤ 99999 ∧ ¬ nI v < lo ∧ ¬ hi < nI v ∧ g_X6_look lo hi hc = some (nI v, hc) ∧ hr.1 255 25 = 2 ∧ hr.1 255 26 = nI v ∧ ¬ tK T i = 0 ∧ ∃ hr', g_X11_numeral lo hi hr = some (nI v, hr') ∧ tkS hr hr' ∧ rA T (i + 1) hr' ∧ i + 1 < tL T) ∨
    (∃ f hc' hr', ¬ f = 0 ∧ g_X6_look lo hi hc = some (lo, hc') ∧ cF T f (tPl T i) hc' ∧ sK p hc hc' ∧ hc'.2 = hc.2 ∧ g_X11_numeral lo hi hr = some (lo, hr') ∧ rF f (tPl T i) hr' ∧ eR hr hr' ∧ (hr.1 255 25 = 2 → hr.1 255 26 < lo ∨ hi < hr.1 255 26) ∧ ∀ a k, ¬ (a = 24 ∧ (k = 4 ∨ k = 5)) → hc'.1 a k = hc.1 a k) := by
  obtain ⟨⟨c1, c2, c3⟩, r, hil⟩ := at0
  have hsv := r.2.2.2.1
  have en := sv_num hsv
  have fl : ∀ f : Int32, ¬ f = 0 → ∃ hc' hr', g_X6_fail f hc = some ((), hc') ∧ cF T f (tPl T i) hc' ∧ sK p hc hc' ∧ hc'.2 = hc.2 ∧ g_X11_wrong f hr = some ((), hr') ∧ rF f (tPl T i) hr' ∧ eR hr hr' ∧ ∀ a k, ¬ (a = 24 ∧ (k = 4 ∨ k = 5)) → hc'.1 a k = hc.1 a k := by
    intro f hf
    obtain ⟨h2, g1, g2, g3⟩ := x6_failT w c1 hil c2 f c3 hf p
    have ge := x6_fail w c1 hil c2 f c3
    rw [g1] at ge
    have h2e : h2 = wrI (wrI hc 24 4 f) 24 5 (nI (tPl T i)) := congrArg Prod.snd (Option.some.inj ge)
    obtain ⟨r1, v1, v2, v3⟩ := rF.e r f hf
    exact ⟨h2, r1, g1, g2, g3, by rw [h2e]; rfl, v1, v2, v3, fun a k z => by rw [h2e, wrI_1, if_neg (by omega), wrI_1, if_neg (by omega)]⟩
  by_cases k2 : tK T i = 2
  · obtain ⟨s2, a, b, y1, y2, y3, y4, y5⟩ := sv_n hsv k2
    have hk0 : ¬ tK T i = 0 := by rw [k2]; decide
    have bl := (big_lt hlo y3 y4 y5).1
    have bh := (big_lt hhi y3 y4 y5).2
    by_cases o1 : nI b < lo ∨ hi < nI b
    · obtain ⟨hc', hr', f1, f2, f3, f4, f5, f6, f7, f8⟩ := fl 2 (by decide)
      refine Or.inr ⟨2, hc', hr', by decide, ?_, f2, f3, f4, ?_, f6, f7, fun _ => by rw [y2]; exact o1, f8⟩
      · unfold g_X6_look
        simp only [gfI, jn]
        rw [c3, if_pos rfl, x6_kind w c1 hil c2, bnd_some, if_pos k2, x6_value w c1 hil c2, bnd_some, y1]
        by_cases q : nI b < lo
        · rw [if_pos (bl.mpr q), f1, bnd_some]
        · rw [if_neg (fun z => q (bl.mp z)), x6_value w c1 hil c2, bnd_some, y1, if_pos (bh.mpr (o1.resolve_left q)), f1, bnd_some]
      · unfold g_X11_numeral
        simp only [gfI, jn]
        rw [r.2.2.2.2, if_pos rfl, if_pos s2, y2]
        have tl : (bnd (g_X11_wrong 2 hr) fun _ h14 => if h14.1 255 27 = 0 then (bnd (g_X11_token h14) fun _ h8 => some (h14.1 255 26, h8)) else some (lo, h14)) = some (lo, hr') := by
          rw [f5, bnd_some, if_neg f6.n]
        by_cases q : nI b < lo
        · rw [if_pos q]; exact tl
        · rw [if_neg q, if_pos (o1.resolve_left q)]; exact tl
    · have o2 : ¬ nI b < lo := fun z => o1 (Or.inl z)
      have o3 : ¬ hi < nI b := fun z => o1 (Or.inr z)
      have b5 : b ≤ 99999 := by
        apply Classical.byContradiction
        intro z
        exact o3 (Int32.lt_of_le_of_lt hhi (nI_lt (a := 99999) (by omega) (by omega)))
      have hab : a = b := by omega
      obtain ⟨r1, t1, t2, t3⟩ := r_token w hil hk0 r
      refine Or.inl ⟨b, b5, o2, o3, ?_, s2, y2, hk0, r1, ?_, t2, t3, tK_e w hil hk0⟩
      · unfold g_X6_look
        simp only [gfI, jn]
        rw [c3, if_pos rfl, x6_kind w c1 hil c2, bnd_some, if_pos k2, x6_value w c1 hil c2, bnd_some, y1, hab, if_neg o2, x6_value w c1 hil c2, bnd_some, y1, hab, if_neg o3, x6_value w c1 hil c2, bnd_some, y1, hab]
      · unfold g_X11_numeral
        simp only [gfI, jn]
        rw [r.2.2.2.2, if_pos rfl, if_pos s2, y2, if_neg o2, if_neg o3, if_pos rfl, t1, bnd_some]
  · have s2 : ¬ hr.1 255 25 = 2 := by rw [en]; exact k2
    obtain ⟨hc', hr', f1, f2, f3, f4, f5, f6, f7, f8⟩ := fl 1 (by decide)
    refine Or.inr ⟨1, hc', hr', by decide, ?_, f2, f3, f4, ?_, f6, f7, fun z => absurd z s2, f8⟩
    · unfold g_X6_look
      simp only [gfI, jn]
      rw [c3, if_pos rfl, x6_kind w c1 hil c2, bnd_some, if_neg k2, f1, bnd_some]
    · unfold g_X11_numeral
      simp only [gfI, jn]
      rw [r.2.2.2.2, if_pos rfl, if_neg s2, f5, bnd_some, if_neg f6.n]
/-- a number told, and the next token -/
theorem P_num {T : TKD} (w : TKok T) {i : Nat} {hc hr : HH} (at0 : At T i hc hr) {lo hi : Int32} (hlo : lo ≤ 99999) (hhi : hi ≤ 99999) (p : Nat) :
    (∃ (v : Nat) (hr' : HH), v ≤ 99999 ∧ ¬ nI v < lo ∧ ¬ hi < nI v ∧ g_X6_number lo hi hc = some (nI v, wrI hc 24 3 (nI (i + 1))) ∧ g_X11_numeral lo hi hr = some (nI v, hr') ∧ tkS hr hr' ∧ At T (i + 1) (wrI hc 24 3 (nI (i + 1))) hr') ∨
    (∃ f hc' hr', g_X6_number lo hi hc = some (lo, hc') ∧ cF T f (tPl T i) hc' ∧ sK p hc hc' ∧ g_X11_numeral lo hi hr = some (lo, hr') ∧ rF f (tPl T i) hr' ∧ eR hr hr') := by
  have a0 := at0
  obtain ⟨⟨c1, c2, c3⟩, r, hil⟩ := at0
  rcases P_look w a0 hlo hhi p with ⟨v, v1, v2, v3, v4, _, _, _, hr', v5, v6, v7, v8⟩ | ⟨f, hc', hr', f0, f1, f2, f3, _, f4, f5, f6, _⟩
  · refine Or.inl ⟨v, hr', v1, v2, v3, ?_, v5, v6, ⟨c1.k fun a k h1 h2 => by rw [wrI_1, if_neg (by omega)], wrI_at _ _ _ _, by rw [wrI_1, if_neg (by omega)]; exact c3⟩, v7, v8⟩
    unfold g_X6_number
    rw [v4, bnd_some, x6_adv w c1 hil c2, bnd_some]
  · obtain ⟨h2, g1, g2, g3⟩ := x6_advF w f2 p
    refine Or.inr ⟨f, h2, hr', ?_, g2, f3.tr g3, f4, f5, f6⟩
    unfold g_X6_number
    rw [f1, bnd_some, g1, bnd_some]
set_option maxRecDepth 100000 in
/-- the class's readE, the reference's expression -/
theorem P_E {T : TKD} (w : TKok T) {p i t : Nat} (hp : pOk p) {O : List (Int32 × Int32)} {hc hr : HH} (at0 : At T i hc hr) (e1 : hc.2.2 1 = p) (e2 : hc.1 24 11 = nI t) (e3 : hc.1 (p + 11) 2 = nI O.length) (e4 : ∀ j x, O[j]? = some x → hc.1 (p + 12) j = x.1 ∧ hc.1 (p + 13) j = x.2) (r1 : hr.1 255 31 = nI 0) (r2 : hr.1 255 32 = nI t) (r3 : hr.1 257 13 = nI O.length) (r4 : ∀ j x, O[j]? = some x → coded x.1 x.2 (hr.1 272 (64 + j)) (hr.1 273 (64 + j))) (ht : t ≤ 64) (hO : O.length ≤ t) :
    ∃ hc' hr', g_X6_readE hc = some ((), hc') ∧ rG 200 0 hr = some ((), hr') ∧ eS p hc hc' ∧ eR hr hr' ∧
      ((∃ f q, cF T f q hc' ∧ rF f q hr') ∨
       (∃ i' X, ER T i' 0 (t + X.length) (O ++ X) hr' ∧ i' < tL T ∧ t + X.length ≤ 64 ∧ DX X ∧ (∀ x ∈ X, kOk x.1) ∧ ¬ tK T i' = 4 ∧ cF T 1 (tPl T i') hc') ∨
       (∃ i' X, At T i' hc' hr' ∧ ER T i' 0 (t + X.length) (O ++ X) hr' ∧ EC T p i' 0 (t + X.length) [] (O ++ X) hc' ∧ t + X.length ≤ 64 ∧ DX X ∧ ∀ x ∈ X, kOk x.1)) := by
  obtain ⟨⟨c1, c2, c3⟩, r, hil⟩ := at0
  have hp' : p + 22 ≤ 60 ∧ (p + 13 < 24 ∨ 30 ≤ p) ∧ 2 ≤ p := by rcases hp with rfl | rfl <;> omega
  have hL := w.2.1
  obtain ⟨N1, hN1⟩ : ∃ N1 : Nat, N1 = 1024 := ⟨_, rfl⟩
  have cA : EC T p i 0 t [] O (wrI (wrI hc 24 9 0) 24 10 0) := ⟨⟨c1.k fun a j h1 h2 => by rw [wrI_1, if_neg (by omega), wrI_1, if_neg (by omega)], e1, by rw [wrI_1, if_neg (by omega), wrI_1, if_neg (by omega)]; exact c3, by rw [wrI_1, if_neg (by omega), wrI_1, if_neg (by omega)]; exact c2⟩, ⟨by rw [wrI_1, if_neg (by omega), wrI_at]; rfl, trivial⟩, ⟨wrI_at _ _ _ _, by rw [wrI_1, if_neg (by omega), wrI_1, if_neg (by omega)]; exact e2⟩, by rw [wrI_1, if_neg (by omega), wrI_1, if_neg (by omega)]; exact e3, fun j x hx => by rw [wrI_1, if_neg (by omega), wrI_1, if_neg (by omega), wrI_1, if_neg (by omega), wrI_1, if_neg (by omega)]; exact e4 j x hx⟩
  have sA : eS p hc (wrI (wrI hc 24 9 0) 24 10 0) := (eS_24 p hc _ (by omega)).tr (eS_24 p _ _ (by omega))
  have re : g_X6_readE hc = cl N1 1 (tL T) (wrI (wrI hc 24 9 0) 24 10 0) := by
    unfold g_X6_readE
    simp only [gfI, pfI]
    rw [cA.1.1.1, ← hN1]
    rfl
  obtain ⟨R0, hR0⟩ : ∃ R0 : Nat, R0 = 200 := ⟨_, rfl⟩
  rw [← hR0]
  obtain ⟨hr', q1, q2, q3⟩ := MLE_all w hp R0 0 0 i t [] O N1 (tL T) _ hr (by omega) ⟨⟨⟨by omega, by omega, by omega⟩, cA, ⟨r, ⟨r1, r2⟩, r3, r4⟩, hil⟩, ⟨by omega, ht, hO, Nat.zero_le _⟩, ⟨by decide, fun z => by omega⟩, by omega⟩
  rw [re]
  rcases q3 with ⟨f, q, c', f1, f2, f3, f4⟩ | ⟨N', x', i', P, O', X, c', ⟨⟨m1, m2, m3, m4⟩, ⟨m5, m6, m7⟩, ⟨m8, m9, m10⟩, m11, m12⟩, hst⟩
  · exact ⟨c', hr', f1, q1, sA.tr f4, q2, Or.inl ⟨f, q, f2.1, f3⟩⟩
  · have hlen := congrArg List.length m7
    simp at hlen
    obtain ⟨s1, s2, s3, s4, s5⟩ := hst
    have s6 := str_le (tK T i')
    by_cases z4 : str (tK T i') = 4
    · obtain ⟨c2', u1, u2, u3⟩ := cl_cmp w hp m5 m3 m2 z4 (s3 (by decide) z4) (by simp; omega) (by omega)
      refine ⟨c2', hr', m1.trans u1, q1, (sA.tr m4).tr u3, q2, Or.inr (Or.inl ⟨i', X, m6, m3, m8, m11, m12, fun z => ?_, u2.1⟩)⟩
      rw [z] at z4
      exact absurd z4 (by decide)
    · have hk : str (tK T i') = 0 ∨ tK T i' = 33 := by
        by_cases z0 : str (tK T i') = 0
        · exact Or.inl z0
        · refine Or.inr (str_3.mp ?_)
          have := s1 (by decide)
          have := s2 (by decide)
          have := s4 (by decide)
          have := s5 rfl
          omega
      have m9' : ∀ k ∈ P, 1 ≤ str k := m9
      obtain ⟨c2', u1, u2, u3⟩ := x_rel hp (l := 1) (by decide) (A := P) (B := []) (by decide) m5 m9' (by simp; omega) (by omega)
      rw [m7] at u2
      refine ⟨c2', hr', ?_, q1, (sA.tr m4).tr u3, q2, Or.inr (Or.inr ⟨i', X, ⟨⟨u2.1.1, u2.1.2.2.2, u2.1.2.2.1⟩, m6.1, m3⟩, m6, u2, m8, m11, m12⟩)⟩
      rw [m1, cl_end w m5 (by omega) m3 m2 (fun z => by omega) hk]
      unfold kE
      simp only [gfI, jn]
      rw [m5.2.2.1.1, if_neg (show ¬ 0 < nI 0 by decide), show (1 : Int32) = nI 1 from rfl, u1]
      rfl
