/-! an E: not, comparisons, parts -/
theorem str_3 {k : Int32} : str k = 3 ↔ k = 33 := by
  refine ⟨fun h => ?_, fun h => by rw [h]; decide⟩
  unfold str at h
  repeat' split at h
  all_goals first
    | omega
    | assumption
theorem sg_c : ∀ q, q ∈ sgL → (str q.1 = 4 → (q.2 = 60 ∨ q.2 = 62 ∨ q.2 = 61 ∨ ¬ q.2 < 256) ∧ q.2 = mk q.1) ∧ (¬ str q.1 = 4 → ¬ q.2 = 60 ∧ ¬ q.2 = 62 ∧ ¬ q.2 = 61 ∧ q.2 < 256) := by decide +kernel
theorem str_w : ∀ j, j < 24 → str (nI (17 + sW j)) ≤ 3 := by decide +kernel
theorem sv_cmp {k v s u : Int32} (h : sv k v s u) : (str k = 4 → s = 3 ∧ (u = 60 ∨ u = 62 ∨ u = 61 ∨ ¬ u < 256) ∧ u = mk k) ∧ (¬ str k = 4 → s = 3 → ¬ u = 60 ∧ ¬ u = 62 ∧ ¬ u = 61 ∧ u < 256) := by
  rcases h with ⟨rfl, rfl⟩ | ⟨rfl, rfl⟩ | ⟨rfl, rfl, _⟩ | ⟨rfl, rfl, _⟩ | ⟨j, hj, rfl, rfl, _⟩ | ⟨q, hq, rfl, rfl, rfl⟩
  · exact ⟨fun e => absurd e (by decide), fun _ e => absurd e (by decide)⟩
  · exact ⟨fun e => absurd e (by decide), fun _ e => absurd e (by decide)⟩
  · exact ⟨fun e => absurd e (by decide), fun _ e => absurd e (by decide)⟩
  · exact ⟨fun e => absurd e (by decide), fun _ e => absurd e (by decide)⟩
  · exact ⟨fun e => by have := str_w j hj; omega, fun _ e => absurd e (by decide)⟩
  · obtain ⟨a, b⟩ := sg_c q hq
    exact ⟨fun e => ⟨rfl, a e⟩, fun e _ => b e⟩
theorem DX_not {X2 : List (Int32 × Int32)} (h2 : DX X2) : DX (X2 ++ [(33, 0)]) := by
  intro d
  rw [dpl_app, h2]
  show dpl [(33, 0)] (d + 1) = _
  unfold dpl
  rw [if_neg (by decide), if_pos rfl, if_neg (by omega)]
  rfl
theorem cmpT_r {P : List Int32} (h : cmpT P) (k : Int32) : cmpT (P ++ [k]) := by
  obtain ⟨A, c, B, y1, y2, y3⟩ := h
  exact ⟨A, c, B ++ [k], by rw [y1]; simp, y2, y3⟩
theorem E_neg {T : TKD} (w : TKok T) {p n0 : Nat} (hp : pOk p) (IH : MLE T p n0) {o i t : Nat} {W : List Int32} {O : List (Int32 × Int32)} {N x2 : Nat} {hc hr : HH} (h : PreE T p 2 o (n0 + 1) i t W O N x2 hc hr) :
    ∃ hr', rG (n0 + 1) 2 hr = some ((), hr') ∧ OutE T p 2 o t W O (cl N 1 x2 hc) hc hr hr' := by
  obtain ⟨⟨a1, a2, a3, a4⟩, ⟨b1, b2, b3, b4⟩, ⟨c1, c2⟩, d⟩ := h
  have c1' : wst W < 4 := c1
  have hnw := r_isWord a3.1 (j := 16) (by decide)
  show ∃ hr', g_X11_negation (rG n0) hr = some ((), hr') ∧ _
  unfold g_X11_negation
  by_cases k33 : tK T i = 33
  · have hk0 : ¬ tK T i = 0 := by rw [k33]; decide
    rw [show (16 : Int32) = nI 16 from rfl, hnw, bnd_some, if_pos (show tK T i = nI (17 + sW 16) by rw [k33]; decide), if_neg (by decide)]
    obtain ⟨g1, g2⟩ := cl_not w hp a2 a4 a1 k33 c1' b2 (by omega)
    by_cases t64 : t = 64
    · obtain ⟨hc'', j1, j2, j3⟩ := g2 t64
      rw [t64] at a3
      obtain ⟨h1, k1, k2, k3⟩ := r_knot64 a3
      refine ⟨h1, ?_, k3, Or.inl ⟨_, _, hc'', j1, j2, k2, j3⟩⟩
      rw [k1, bnd_some, r_goOn_F k2, bnd_some, rG_F k2 n0 2 (by omega) (by omega), bnd_some, r_puts_F k2, bnd_some]
    · obtain ⟨N1, x1, d1, j1, j2, j3, j4⟩ := g1 (by omega) (by omega)
      obtain ⟨r1, k1, k2, k3⟩ := r_knot a3 (by omega)
      obtain ⟨r2, k4, k5, k6⟩ := k2.n w a4 hk0
      have hi1 := tK_e w a4 hk0
      obtain ⟨r3, q1, q2, q3⟩ := IH 2 o (i + 1) (t + 1) (33 :: W) O N1 x1 d1 r2 (by omega) ⟨⟨j2, j3, k5, hi1⟩, ⟨b1, by omega, by omega, by simp; omega⟩, ⟨by show str 33 < 4; decide, fun z => by omega⟩, by omega⟩
      rw [k1, bnd_some, k4, bnd_some, q1, bnd_some]
      rcases q3 with ⟨f, q, e2, f1, f2, f3, f4⟩ | ⟨N2, x3, i2, P2, O2, X2, e2, ⟨⟨e1, e3, e4, e5⟩, ⟨e6, e7, e8⟩, ⟨e9, e10, e11⟩, e12, e13⟩, e14⟩
      · exact ⟨r3, by rw [r_puts_F f3, bnd_some], (k3.tr k6).tr q2, Or.inl ⟨f, q, e2, j1.trans f1, f2, f3, j4.tr f4⟩⟩
      · have hl2 : (O ++ X2).length < 64 := by simp; omega
        obtain ⟨r4, v1, v2, v3⟩ := e7.w hl2 (k := 33) (u := 0) (s := 2) (v := 260) (Or.inr (Or.inr (Or.inl ⟨rfl, rfl, rfl⟩)))
        have et : t + 1 + X2.length = t + (X2 ++ [((33 : Int32), (0 : Int32))]).length := by simp; omega
        rw [et] at e6 e9 v2
        refine ⟨r4, by rw [v1, bnd_some], ((k3.tr k6).tr q2).tr v3, Or.inr ⟨N2, x3, i2, P2 ++ [33], O2, X2 ++ [(33, 0)], e2, ⟨⟨j1.trans e1, e3, e4, j4.tr e5⟩, ⟨by rw [show P2 ++ [33] ++ W = P2 ++ 33 :: W by simp]; exact e6, by rw [← List.append_assoc]; exact v2, by rw [List.map_append, ← List.append_assoc, e8]; simp⟩, ⟨e9, fun k hk => ?_, by simp; omega⟩, DX_not e12, fun x hx => ?_⟩, ?_⟩⟩
        · rcases List.mem_append.mp hk with hk | hk
          · exact e10 k hk
          · rw [List.mem_singleton.mp hk]; decide
        · rcases List.mem_append.mp hx with hx | hx
          · exact e13 x hx
          · rw [List.mem_singleton.mp hx]; exact Or.inr (Or.inr (Or.inl rfl))
        · obtain ⟨s1, s2, s3, s4, s5⟩ := e14
          exact ⟨s1, s2, fun z1 z2 => cmpT_r (s3 z1 z2) 33, s4, s5⟩
  · rw [show (16 : Int32) = nI 16 from rfl, hnw, bnd_some, if_neg (show ¬ tK T i = nI (17 + sW 16) from fun e => k33 (by rw [e]; decide)), if_pos rfl]
    obtain ⟨r1, q1, q2, q3⟩ := IH 3 o i t W O N x2 hc hr (by omega) ⟨⟨a1, a2, a3, a4⟩, ⟨b1, b2, b3, b4⟩, ⟨by show wst W < 5; omega, fun _ z => absurd z k33⟩, by omega⟩
    rw [q1, bnd_some]
    simp only [gfI, jn]
    rcases q3 with ⟨f, q, c', f1, f2, f3, f4⟩ | ⟨N', x', i', P, O', X, c', ⟨⟨m1, m2, m3, m4⟩, ⟨m5, m6, m7⟩, ⟨m8, m9, m10⟩, m11, m12⟩, hst⟩
    · exact ⟨r1, by rw [if_neg f3.n], q2, Or.inl ⟨f, q, c', f1, f2, f3, f4⟩⟩
    · have m9' : ∀ k ∈ P, 5 ≤ str k := m9
      have hlen := congrArg List.length m7
      simp at hlen
      obtain ⟨y1, y2⟩ := sv_cmp m6.1.2.2.2.1
      rw [if_pos m6.1.2.2.2.2]
      by_cases hs : str (tK T i') = 4
      · obtain ⟨z1, z2, z3⟩ := y1 hs
        have h33 : ¬ tK T i' = 33 := fun z => by
          have := str_3.mpr z
          omega
        have hk0 : ¬ tK T i' = 0 := str_0 (by omega)
        have hB : isB (tK T i') := str_B (by omega) h33
        obtain ⟨g1, g2⟩ := cl_op w hp m5 m3 m2 hs ⟨by decide, by decide⟩ h33 (fun k hk => by have := m9' k hk; omega) c1' (fun _ => m9') (by simp; omega) (by omega) m8
        rw [if_pos z1]
        have sel : ∀ X Y : Option (Unit × HH), (if r1.1 255 26 = 60 then X else if r1.1 255 26 = 62 then X else if r1.1 255 26 = 61 then X else if r1.1 255 26 < 256 then Y else X) = X := by
          intro X Y
          rcases z2 with z | z | z | z <;> simp [z]
        rw [sel, z3]
        by_cases t64 : t + X.length = 64
        · obtain ⟨hc'', j1, j2, j3⟩ := g2 t64
          rw [t64] at m6
          obtain ⟨h1, k1, k2, k3⟩ := r_knot64 m6
          refine ⟨h1, ?_, q2.tr k3, Or.inl ⟨_, _, hc'', m1.trans j1, j2, k2, m4.tr j3⟩⟩
          rw [k1, bnd_some, r_goOn_F k2, bnd_some, rG_F k2 n0 3 (by omega) (by omega), bnd_some, r_puts_F k2, bnd_some]
        · obtain ⟨N1, x1, d1, j1, j2, j3, j4⟩ := g1 (by omega) (by omega)
          rw [m7] at j3
          obtain ⟨r2, k1, k2, k3⟩ := r_knot m6 (by omega)
          obtain ⟨r3, k4, k5, k6⟩ := k2.n w m3 hk0
          have hi1 := tK_e w m3 hk0
          obtain ⟨r4, p1, p2, p3⟩ := IH 3 o (i' + 1) (t + X.length + 1) (tK T i' :: W) (O ++ X) N1 x1 d1 r3 (by omega) ⟨⟨j2, j3, k5, hi1⟩, ⟨b1, by omega, by simp; omega, by simp; omega⟩, ⟨by show str (tK T i') < 5; omega, fun _ _ => by show 4 ≤ str (tK T i'); omega⟩, by omega⟩
          rw [k1, bnd_some, k4, bnd_some, p1, bnd_some]
          rcases p3 with ⟨f, q, e2, f1, f2, f3, f4⟩ | ⟨N2, x3, i2, P2, O2, X2, e2, ⟨⟨e1, e3, e4, e5⟩, ⟨e6, e7, e8⟩, ⟨e9, e10, e11⟩, e12, e13⟩, e14⟩
          · exact ⟨r4, by rw [r_puts_F f3, bnd_some], ((q2.tr k3).tr k6).tr p2, Or.inl ⟨f, q, e2, (m1.trans j1).trans f1, f2, f3, (m4.tr j4).tr f4⟩⟩
          · have hl2 : (O ++ X ++ X2).length < 64 := by simp; omega
            obtain ⟨r5, v1, v2, v3⟩ := e7.w hl2 (k := tK T i') (u := 0) (s := 2) (v := mk (tK T i')) (Or.inr (Or.inl ⟨hB, rfl, rfl⟩))
            have et : t + X.length + 1 + X2.length = t + (X ++ X2 ++ [(tK T i', (0 : Int32))]).length := by simp; omega
            rw [et] at e6 e9 v2
            have e10' : ∀ k ∈ P2, 5 ≤ str k := e10
            refine ⟨r5, by rw [v1, bnd_some], (((q2.tr k3).tr k6).tr p2).tr v3, Or.inr ⟨N2, x3, i2, P2 ++ [tK T i'], O2, X ++ X2 ++ [(tK T i', 0)], e2, ⟨⟨(m1.trans j1).trans e1, e3, e4, (m4.tr j4).tr e5⟩, ⟨by rw [show P2 ++ [tK T i'] ++ W = P2 ++ tK T i' :: W by simp]; exact e6, by rw [show O ++ (X ++ X2 ++ [(tK T i', (0 : Int32))]) = O ++ X ++ X2 ++ [(tK T i', 0)] by simp]; exact v2, by rw [List.map_append, ← List.append_assoc, e8]; simp⟩, ⟨e9, fun k hk => ?_, by simp; omega⟩, DX_op m11 e12 hB, fun x hx => ?_⟩, ?_⟩⟩
            · show 3 ≤ str k
              rcases List.mem_append.mp hk with hk | hk
              · have := e10' k hk; omega
              · rw [List.mem_singleton.mp hk]; omega
            · rcases List.mem_append.mp hx with hx | hx
              · rcases List.mem_append.mp hx with hx | hx
                · exact m12 x hx
                · exact e13 x hx
              · rw [List.mem_singleton.mp hx]; exact Or.inr (Or.inl hB)
            · obtain ⟨s1, s2, s3, s4, s5⟩ := e14
              exact ⟨fun _ => s1 (by decide), fun _ => s2 (by decide), fun _ _ => ⟨P2, tK T i', [], rfl, e10', hs⟩, fun z => by omega, fun z => by omega⟩
      · refine ⟨r1, ?_, q2, Or.inr ⟨N', x', i', P, O', X, c', ⟨⟨m1, m2, m3, m4⟩, ⟨m5, m6, m7⟩, ⟨m8, fun k hk => by have := m9' k hk; show 3 ≤ str k; omega, m10⟩, m11, m12⟩, ?_⟩⟩
        · split
          · rename_i z1
            obtain ⟨z2, z3, z4, z5⟩ := y2 hs z1
            rw [if_neg z2, if_neg z3, if_neg z4, if_pos z5]
          · rfl
        · obtain ⟨s1, s2, s3, s4, s5⟩ := hst
          exact ⟨fun _ => s1 (by decide), fun _ => s2 (by decide), fun _ z => absurd z hs, fun z => by omega, fun z => by omega⟩
