/-! the reference's way through an E -/
def coded (k u s v : Int32) : Prop := (k = 2 ∧ s = 0 ∧ v = u) ∨ (isB k ∧ s = 2 ∧ v = mk k) ∨ (k = 33 ∧ s = 2 ∧ v = 260) ∨ ∃ j : Nat, j < 7 ∧ k = nI (34 + j) ∧ s = 1 ∧ v = nI j
theorem SR_I {A : Nat} {h : HH} {r : List Int64} (a k : Nat) (v : Int32) (hs : SR A h r) : SR A (wrI h a k v) r := SR_upd (h := h) (h' := wrI h a k v) (n := r.length) (fun _ _ => rfl) r (Nat.le_refl _) hs
theorem x_works1 {d : Nat} (hd : d + 1 ≤ 64) {h : HH} (hm : h.1 255 35 = nI (d + 1)) : g_X11_works 260 h = some (1, wrL h 275 d (bz (h.2.1 275 d = 0))) := by
  have e1 : nI (d + 1) - 1 = nI d := nI_pred d
  unfold g_X11_works
  simp only [gfI, jn]
  rw [hm, e1, ldL_of (by omega) (by decide), if_pos True.intro]
  by_cases c : h.2.1 275 d = 0
  · have ev : bz (h.2.1 275 d = 0) = 1 := by unfold bz; simp [c]
    rw [if_pos (by rw [lc_eq]; exact c), x_is 1 (by decide), bnd_some, stL_of (by omega) (by decide), ev]
    rfl
  · have ev : bz (h.2.1 275 d = 0) = 0 := by unfold bz; simp [c]
    rw [if_neg (by rw [lc_eq]; exact c), x_is 0 (by decide), bnd_some, stL_of (by omega) (by decide), ev]
    rfl
theorem nI_34 {j : Nat} (hj : j < 7) : nI (34 + j) = 34 ∨ nI (34 + j) = 35 ∨ nI (34 + j) = 36 ∨ nI (34 + j) = 37 ∨ nI (34 + j) = 38 ∨ nI (34 + j) = 39 ∨ nI (34 + j) = 40 := by
  rcases (show j = 0 ∨ j = 1 ∨ j = 2 ∨ j = 3 ∨ j = 4 ∨ j = 5 ∨ j = 6 by omega) with rfl | rfl | rfl | rfl | rfl | rfl | rfl <;> decide
theorem x_goes_L (c : Nat) (hc : c < 6) (kd nu : Nat → Int32) (env : Int32 → Int32) (e : Nat) (he : e ≤ 64) (g0 : HH) (hcd : ∀ i, i < e → coded (kd i) (nu i) (g0.1 272 i) (g0.1 273 i)) (hend : g0.1 271 c = nI e) (henv : ∀ j, j < 7 → g0.2.1 274 j = (env (nI (34 + j))).toInt64) :
    ∀ (m i n : Nat) (st : List Int64) (h : HH), i + m = e → m < n → st.length ≤ i → sc11 g0 h → h.1 255 35 = nI st.length → SR 275 h st → aO st → dpS kd m i st.length = some 1 →
      ∃ h', sc11 g0 h' ∧ (match evS kd nu env m i st with
        | none => g_X11_goes_L12 (nI c) n (nI i) h = some (0, h')
        | some st' => g_X11_goes_L12 (nI c) n (nI i) h = some (1, h') ∧ SR 275 h' st' ∧ aO st' ∧ st'.length = 1) := by
  intro m
  induction m with
  | zero =>
    intro i n st h hi hn hl hs hw hSR ha hd
    obtain ⟨n, rfl⟩ : ∃ n', n = n' + 1 := ⟨n - 1, by omega⟩
    refine ⟨h, hs, ?_⟩
    have hd1 : st.length = 1 := by simpa [dpS] using hd
    refine ⟨?_, hSR, ha, hd1⟩
    rw [g_X11_goes_L12, ldI_of hc (by decide), hs.1 271 c (by omega), hend, if_neg (nI_nlt (by omega) (by omega))]
  | succ m ih =>
    intro i n st h hi hn hl hs hw hSR ha hd
    obtain ⟨n, rfl⟩ : ∃ n', n = n' + 1 := ⟨n - 1, by omega⟩
    have hdl := dpS_le kd _ _ _ hd
    have hi64 : i < e := by omega
    have hcc := hcd i hi64
    have f2 : h.1 272 i = g0.1 272 i := hs.1 272 i (by omega)
    have f3 : h.1 273 i = g0.1 273 i := hs.1 273 i (by omega)
    have op : ∀ R, (g_X11_goes_L12 (nI c) (n + 1) (nI i) h = R) = (_ = R) := fun R => by rw [g_X11_goes_L12, ldI_of hc (by decide), hs.1 271 c (by omega), hend, if_pos (nI_lt (by omega) (by omega)), ldI_of (by omega) (by decide), f2]
    unfold dpS at hd
    unfold evS evStep
    rcases hcc with ⟨hk, hsr, hv⟩ | ⟨hk, hsr, hv⟩ | ⟨hk, hsr, hv⟩ | ⟨j, hj, hk, hsr, hv⟩
    · have prog : g_X11_goes_L12 (nI c) (n + 1) (nI i) h = g_X11_goes_L12 (nI c) n (nI (i + 1)) (wrI (wrL h 275 st.length (nu i).toInt64) 255 35 (nI (st.length + 1))) := by
        rw [op, hsr]
        simp only [jn, vl, gfI, pfI]
        rw [if_neg (by decide), ldI_of (by omega) (by decide), f2, hsr, if_pos rfl, ldI_of (by omega) (by decide), f3, hv, hw, stL_of (by omega) (by decide), wrL_1, hw, nI_1, nI_1]
      rw [prog]
      simp only [hk, if_true]
      have hd' : dpS kd m (i + 1) (st.length + 1) = some 1 := by simpa [hk] using hd
      exact ih (i + 1) n ((nu i).toInt64 :: st) (wrI (wrL h 275 st.length (nu i).toInt64) 255 35 (nI (st.length + 1))) (by omega) (by omega) (by simp; omega) ((hs.tr (sc11_L _ _ _)).tr (sc11_I _ _)) (by rw [wrI_1]; simp) (SR_I _ _ _ (SR_push (A := 275) (h := h) _ hSR)) ⟨okV_i _, ha⟩ (by simpa using hd')
    · obtain ⟨q1, q2, q3⟩ := isB_lt hk
      simp only [q1, q2, q3, not_true_eq_false, or_self, if_false] at hd
      have h2 : ¬ st.length < 2 := fun c => by rw [if_pos c] at hd; cases hd
      rw [if_neg h2] at hd
      obtain ⟨b, a, r', rfl⟩ : ∃ b a r', st = b :: a :: r' := by
        rcases st with _ | ⟨b, _ | ⟨a, r'⟩⟩
        · exact absurd (Nat.zero_lt_succ 1) h2
        · exact absurd (Nat.lt_succ_self 1) h2
        · exact ⟨b, a, r', rfl⟩
      have hl2 : r'.length + 2 ≤ i := hl
      have hd' : dpS kd m (i + 1) (r'.length + 1) = some 1 := hd
      have hb : h.2.1 275 (r'.length + 1) = b := hSR.1
      have haa : h.2.1 275 r'.length = a := hSR.2.1
      obtain ⟨h', w1, w2, w3⟩ := x_works (kd i) hk (d := r'.length) (by omega) (h := h) hw (by rw [haa]; exact ha.2.1) (by rw [hb]; exact ha.1)
      rw [haa, hb] at w1 w3
      have prog : g_X11_goes_L12 (nI c) (n + 1) (nI i) h = if jS (kd i) a b = eM then some (0, h') else g_X11_goes_L12 (nI c) n (nI (i + 1)) h' := by
        rw [op, hsr]
        simp only [jn, vl, gfI, pfI]
        rw [if_pos True.intro, ldI_of (by omega) (by decide), f3, hv, w1, bnd_some]
        by_cases hj : jS (kd i) a b = eM
        · rw [if_pos hj, if_pos hj, if_pos rfl]
        · rw [if_neg hj, if_neg hj, if_neg (by decide), nI_1]
      rw [prog]
      simp only [q1, q2, q3, if_false, not_true_eq_false]
      by_cases hj : jS (kd i) a b = eM
      · exact ⟨h', hs.tr w2, by simp only [hj, if_true]⟩
      · obtain ⟨y1, y2, y3⟩ := w3 hj
        simp only [hj, if_false]
        exact ih (i + 1) n (jS (kd i) a b :: r') h' (by omega) (by omega) (by simp; omega) (hs.tr w2) y1 ⟨y2, SR_upd (n := r'.length) y3 r' (Nat.le_refl _) hSR.2.2⟩ ⟨(jS_ok _ ha.2.1 ha.1).resolve_left hj, ha.2.2⟩ (by simpa using hd')
    · have q1 : kd i < 34 := by rw [hk]; decide
      have q3 : ¬ kd i = 2 := by rw [hk]; decide
      simp only [q1, q3, not_true_eq_false, or_self, if_false] at hd
      rw [if_pos hk] at hd
      have h1 : ¬ st.length = 0 := fun c => by rw [if_pos c] at hd; cases hd
      rw [if_neg h1] at hd
      obtain ⟨a, r', rfl⟩ : ∃ a r', st = a :: r' := by
        rcases st with _ | ⟨a, r'⟩
        · exact absurd rfl h1
        · exact ⟨a, r', rfl⟩
      have hl2 : r'.length + 1 ≤ i := hl
      have hd' : dpS kd m (i + 1) (r'.length + 1) = some 1 := hd
      have haa : h.2.1 275 r'.length = a := hSR.1
      have i332 : ((33 : Int32) = 2) = False := eq_false (by decide)
      have i3334 : ((33 : Int32) < 34) = True := eq_true (by decide)
      have w1 := x_works1 (d := r'.length) (by omega) (h := h) hw
      rw [haa] at w1
      have prog : g_X11_goes_L12 (nI c) (n + 1) (nI i) h = g_X11_goes_L12 (nI c) n (nI (i + 1)) (wrL h 275 r'.length (bz (a = 0))) := by
        rw [op, hsr]
        simp only [jn, vl, gfI, pfI]
        rw [if_pos True.intro, ldI_of (by omega) (by decide), f3, hv, w1, bnd_some, if_neg (by decide), nI_1]
      rw [prog]
      simp only [hk, i332, i3334, if_false, if_true, not_true_eq_false]
      exact ih (i + 1) n (bz (a = 0) :: r') (wrL h 275 r'.length (bz (a = 0))) (by omega) (by omega) (by simp; omega) (hs.tr (sc11_L _ _ _)) hw (SR_push _ hSR.2) ⟨bz_ok _, ha.2⟩ (by simpa using hd')
    · obtain ⟨q1, q2, q3⟩ := isN_ge (k := kd i) (by rw [hk]; exact nI_34 hj)
      have hen : h.2.1 274 j = (env (kd i)).toInt64 := by rw [hs.2.1 274 j (by decide), henv j hj, hk]
      have prog : g_X11_goes_L12 (nI c) (n + 1) (nI i) h = g_X11_goes_L12 (nI c) n (nI (i + 1)) (wrI (wrL h 275 st.length (env (kd i)).toInt64) 255 35 (nI (st.length + 1))) := by
        rw [op, hsr]
        simp only [jn, vl, gfI, pfI]
        rw [if_neg (by decide), ldI_of (by omega) (by decide), f2, hsr, if_neg (by decide), ldI_of (by omega) (by decide), f3, hv, ldL_of hj (by decide), hen, hw, stL_of (by omega) (by decide), wrL_1, hw, nI_1, nI_1]
      rw [prog]
      simp only [q1, q3, if_false, not_false_eq_true, if_true]
      have hd' : dpS kd m (i + 1) (st.length + 1) = some 1 := by simpa [q1] using hd
      exact ih (i + 1) n ((env (kd i)).toInt64 :: st) (wrI (wrL h 275 st.length (env (kd i)).toInt64) 255 35 (nI (st.length + 1))) (by omega) (by omega) (by simp; omega) ((hs.tr (sc11_L _ _ _)).tr (sc11_I _ _)) (by rw [wrI_1]; simp) (SR_I _ _ _ (SR_push (A := 275) (h := h) _ hSR)) ⟨okV_i _, ha⟩ (by simpa using hd')
theorem x_goes (c : Nat) (hc : c < 6) (kd nu : Nat → Int32) (env : Int32 → Int32) (s e : Nat) (hse : s < e) (he : e ≤ 64) (h : HH) (hcd : ∀ i, i < e → coded (kd i) (nu i) (h.1 272 i) (h.1 273 i)) (hst : h.1 270 c = nI s) (hend : h.1 271 c = nI e) (henv : ∀ j, j < 7 → h.2.1 274 j = (env (nI (34 + j))).toInt64) (hd : dpS kd (e - s) s 0 = some 1) :
    ∃ h', sc11 h h' ∧ g_X11_goes (nI c) h = some (if lawV kd nu env s e = eM then 0 else 1, h') ∧ (lawV kd nu env s e ≠ eM → h'.2.1 275 0 = lawV kd nu env s e) := by
  obtain ⟨h', q1, q2⟩ := x_goes_L c hc kd nu env e he (wrI h 255 35 0) hcd hend henv (e - s) s 1024 [] (wrI h 255 35 0) (by omega) (by omega) (Nat.zero_le _) (sc11_rf _) (by rw [wrI_1]; simp; rfl) trivial trivial hd
  have hg : g_X11_goes (nI c) h = g_X11_goes_L12 (nI c) 1024 (nI s) (wrI h 255 35 0) := by
    unfold g_X11_goes
    simp only [pfI]
    rw [ldI_of hc (by decide)]
    show g_X11_goes_L12 (nI c) 1024 (h.1 270 c) (wrI h 255 35 0) = _
    rw [hst]
  refine ⟨h', (sc11_I _ _).tr q1, ?_⟩
  rw [hg]
  unfold lawV
  cases hev : evS kd nu env (e - s) s [] with
  | none => rw [hev] at q2; exact ⟨by rw [q2]; rfl, fun q => absurd rfl q⟩
  | some st' =>
    rw [hev] at q2
    obtain ⟨t1, t2, t3, t4⟩ := q2
    obtain ⟨v, rfl⟩ : ∃ v, st' = [v] := by
      rcases st' with _ | ⟨v, _ | ⟨b, r⟩⟩
      · cases t4
      · exact ⟨v, rfl⟩
      · simp at t4
    have hv : v ≠ eM := okV_ne t3.1
    refine ⟨?_, fun _ => t2.1⟩
    rw [if_neg hv]
    exact t1
