/-! an E, told behind its parts: what it comes to, by the class and by the reference -/
def evStep (k nu : Int32) (env : Int32 → Int32) (st : List Int64) : Option (List Int64) :=
  if k = 2 then some (nu.toInt64 :: st) else if ¬ k < 34 then some ((env k).toInt64 :: st)
  else if k = 33 then (match st with | a :: r => some (bz (a = 0) :: r) | [] => none)
  else (match st with | b :: a :: r => if jS k a b = eM then none else some (jS k a b :: r) | _ => none)
def evS (kd nu : Nat → Int32) (env : Int32 → Int32) : Nat → Nat → List Int64 → Option (List Int64)
  | 0, _, st => some st
  | n + 1, i, st => match evStep (kd i) (nu i) env st with
    | none => none
    | some st' => evS kd nu env n (i + 1) st'
def dpS (kd : Nat → Int32) : Nat → Nat → Nat → Option Nat
  | 0, _, d => some d
  | n + 1, i, d => if kd i = 2 ∨ ¬ kd i < 34 then dpS kd n (i + 1) (d + 1) else if kd i = 33 then (if d = 0 then none else dpS kd n (i + 1) d) else if d < 2 then none else dpS kd n (i + 1) (d - 1)
theorem dpS_le (kd : Nat → Int32) : ∀ (n i d : Nat), dpS kd n i d = some 1 → d ≤ n + 1
  | 0, _, d, h => by
    have : d = 1 := by simpa [dpS] using h
    omega
  | n + 1, i, d, h => by
    unfold dpS at h
    split at h
    · have := dpS_le kd n _ _ h; omega
    · split at h
      · split at h
        · cases h
        · have := dpS_le kd n _ _ h; omega
      · split at h
        · cases h
        · have := dpS_le kd n _ _ h; omega
/-- what stands on a stack of longs (the top first) -/
def SR (A : Nat) (h : HH) : List Int64 → Prop
  | [] => True
  | v :: r => h.2.1 A r.length = v ∧ SR A h r
theorem SR_upd {A : Nat} {h h' : HH} {n : Nat} (hq : ∀ j, j < n → h'.2.1 A j = h.2.1 A j) : ∀ (r : List Int64), r.length ≤ n → SR A h r → SR A h' r
  | [], _, _ => trivial
  | v :: r, hl, hs => ⟨by rw [hq _ (by simp at hl; omega)]; exact hs.1, SR_upd hq r (by simp at hl; omega) hs.2⟩
theorem SR_push {A : Nat} {h : HH} {r : List Int64} (v : Int64) (hs : SR A h r) : SR A (wrL h A r.length v) (v :: r) :=
  ⟨by rw [wrL_2]; simp, SR_upd (n := r.length) (fun j hj => by rw [wrL_2, if_neg (by omega)]) r (Nat.le_refl _) hs⟩
def aO : List Int64 → Prop
  | [] => True
  | v :: r => okV v ∧ aO r
theorem okV_i (x : Int32) : okV x.toInt64 := by
  unfold okV
  rw [Int32.toInt_toInt64]
  have h1 := Int32.toInt_lt x
  have h2 := Int32.le_toInt x
  omega
/-- nothing but the class's stack -/
def sc0 (h h' : HH) : Prop := h'.1 = h.1 ∧ (∀ a k, a ≠ 195 → h'.2.1 a k = h.2.1 a k) ∧ h'.2.2 = h.2.2
theorem sc0_rf (h : HH) : sc0 h h := ⟨rfl, fun _ _ _ => rfl, rfl⟩
theorem sc0.tr {h1 h2 h3 : HH} (a : sc0 h1 h2) (b : sc0 h2 h3) : sc0 h1 h3 := ⟨b.1.trans a.1, fun x k hx => (b.2.1 x k hx).trans (a.2.1 x k hx), b.2.2.trans a.2.2⟩
theorem sc0_L (h : HH) (j : Nat) (v : Int64) : sc0 h (wrL h 195 j v) := ⟨rfl, fun a k ha => by rw [wrL_2, if_neg (fun q => ha q.1)], rfl⟩
def kOk (k : Int32) : Prop := k = 2 ∨ isB k ∨ k = 33 ∨ (k = 34 ∨ k = 35 ∨ k = 36 ∨ k = 37 ∨ k = 38 ∨ k = 39 ∨ k = 40)
theorem isB_lt {k : Int32} (h : isB k) : k < 34 ∧ ¬ k = 33 ∧ ¬ k = 2 := by
  rcases h with rfl | rfl | rfl | rfl | rfl | rfl | rfl | rfl | rfl | rfl | rfl | rfl <;> decide
theorem isN_ge {k : Int32} (h : k = 34 ∨ k = 35 ∨ k = 36 ∨ k = 37 ∨ k = 38 ∨ k = 39 ∨ k = 40) : ¬ k < 34 ∧ ¬ k = 33 ∧ ¬ k = 2 := by
  rcases h with rfl | rfl | rfl | rfl | rfl | rfl | rfl <;> decide
theorem i20 : ((2 : Int32) = 0) = False := eq_false (by decide)
theorem i21 : ((2 : Int32) = 1) = False := eq_false (by decide)
theorem i10 : ((1 : Int32) = 0) = False := eq_false (by decide)
theorem x_valueOf_L (K : Int32 → HH → Option (Int64 × HH)) (r : Nat) (hr : r < 3) (c2 c3 c6 : Int32) (p : Nat) (kd nu : Nat → Int32) (nm : Int32 → Int32) (e : Nat) (he : e ≤ 64) (g0 : HH) (hkd : ∀ i, i < e → g0.1 (p + 12) i = kd i) (hnu : ∀ i, i < e → g0.1 (p + 13) i = nu i) (hend : g0.1 (p + 15) r = nI e) (hok : ∀ i, i < e → kOk (kd i))
    (hnm : ∀ h', h'.1 = g0.1 → h'.2.2 = g0.2.2 → ∀ k, (k = 35 ∨ k = 36 ∨ k = 37 ∨ k = 38 ∨ k = 39 ∨ k = 40) → g_X0_nameOf k c2 c3 h' = some (nm k, h')) :
    ∀ (m i n : Nat) (st : List Int64) (h : HH), i + m = e → m < n → st.length ≤ i → sc0 g0 h → SR 195 h st → aO st → dpS kd m i st.length = some 1 →
      ∃ h', sc0 g0 h' ∧ (match evS kd nu (fun k => if k = 34 then c6 else nm k) m i st with
        | none => g_X0_valueOf_L39 K (nI r) c2 c3 p c6 n (nI st.length) (nI i) h = some (eM, h')
        | some st' => g_X0_valueOf_L39 K (nI r) c2 c3 p c6 n (nI st.length) (nI i) h = K (nI st'.length) h' ∧ SR 195 h' st' ∧ aO st' ∧ st'.length = 1) := by
  intro m
  induction m with
  | zero =>
    intro i n st h hi hn hl hs hSR ha hd
    obtain ⟨n, rfl⟩ : ∃ n', n = n' + 1 := ⟨n - 1, by omega⟩
    refine ⟨h, hs, ?_⟩
    have hd1 : st.length = 1 := by simpa [dpS] using hd
    refine ⟨?_, hSR, ha, hd1⟩
    rw [g_X0_valueOf_L39, ldI_of hr (by decide), hs.1, hend, if_neg (nI_nlt (by omega) (by omega))]
  | succ m ih =>
    intro i n st h hi hn hl hs hSR ha hd
    obtain ⟨n, rfl⟩ : ∃ n', n = n' + 1 := ⟨n - 1, by omega⟩
    have hdl := dpS_le kd _ _ _ hd
    have hi64 : i < e := by omega
    have hke := hkd i hi64
    have hkk := hok i hi64
    have step : ∀ (v : Int64) (r' : List Int64), v ≠ eM → r'.length ≤ i → (ldL (wrL h 195 r'.length v) 195 64 (nI r'.length) fun v18 => if (lg_cmp v18 (-9223372036854775808 : Int64)) = 0 then some ((-9223372036854775808 : Int64), wrL h 195 r'.length v) else g_X0_valueOf_L39 K (nI r) c2 c3 p c6 n (nI r'.length + 1) (nI i + 1) (wrL h 195 r'.length v)) = g_X0_valueOf_L39 K (nI r) c2 c3 p c6 n (nI (v :: r').length) (nI (i + 1)) (wrL h 195 r'.length v) := by
      intro v r' hv hl'
      have e1 : (wrL h 195 r'.length v).2.1 195 r'.length = v := by rw [wrL_2]; simp
      rw [ldL_of (by omega) (by decide), e1, if_neg (by rw [lc_eq]; exact hv), nI_1, nI_1]
      rfl
    have b1 : ∀ j : Nat, j ≤ 63 → ¬ nI j < 0 := fun j hj => nI_pos (by omega)
    have b2 : ∀ j : Nat, j ≤ 62 → nI j + 1 < 64 := fun j hj => by rw [nI_1]; exact nI_lt (b := 64) (by omega) (by decide)
    have st0 : ∀ x7 : Int32, g_X0_valueOf_L39 K (nI r) c2 c3 p c6 (n + 1) x7 (nI i) h = g_X0_valueOf_L39 K (nI r) c2 c3 p c6 (n + 1) x7 (nI i) h := fun _ => rfl
    have op : ∀ x7 : Int32, ∀ R, (g_X0_valueOf_L39 K (nI r) c2 c3 p c6 (n + 1) x7 (nI i) h = R) = (_ = R) := fun x7 R => by rw [g_X0_valueOf_L39, ldI_of hr (by decide), hs.1, hend, if_pos (nI_lt (by omega) (by omega)), ldI_of (by omega) (by decide), hs.1, hke]
    unfold dpS at hd
    unfold evS evStep
    rcases hkk with hk | hk | hk | hk
    · -- a number
      have prog : g_X0_valueOf_L39 K (nI r) c2 c3 p c6 (n + 1) (nI st.length) (nI i) h = g_X0_valueOf_L39 K (nI r) c2 c3 p c6 n (nI (st.length + 1)) (nI (i + 1)) (wrL h 195 st.length (nu i).toInt64) := by
        rw [op]
        simp only [jn, vl, hk, if_true, Int32.sub_zero, b1 st.length (by omega), if_false, b2 st.length (by omega)]
        rw [ldI_of (by omega) (by decide), hs.1, hnu i hi64, stL_of (by omega) (by decide), step _ st (okV_ne (okV_i _)) hl]
        rfl
      rw [prog]
      simp only [hk, if_true]
      have hd' : dpS kd m (i + 1) (st.length + 1) = some 1 := by simpa [hk] using hd
      exact ih (i + 1) n ((nu i).toInt64 :: st) (wrL h 195 st.length (nu i).toInt64) (by omega) (by omega) (by simp; omega) (hs.tr (sc0_L _ _ _)) (SR_push _ hSR) ⟨okV_i _, ha⟩ (by simpa using hd')
    · -- a sign between two
      obtain ⟨q1, q2, q3⟩ := isB_lt hk
      simp only [q1, q2, q3, not_true_eq_false, or_self, if_false] at hd
      have h2 : ¬ st.length < 2 := fun c => by rw [if_pos c] at hd; cases hd
      rw [if_neg h2] at hd
      obtain ⟨b, a, r', rfl⟩ : ∃ b a r', st = b :: a :: r' := by
        rcases st with _ | ⟨b, _ | ⟨a, r'⟩⟩
        · exact absurd (Nat.zero_lt_succ 1) h2
        · exact absurd (Nat.lt_succ_self 1) h2
        · exact ⟨b, a, r', rfl⟩
      have hlen : (b :: a :: r').length = r'.length + 2 := rfl
      have hl2 : r'.length + 2 ≤ i := hl
      have hd' : dpS kd m (i + 1) (r'.length + 1) = some 1 := hd
      rw [hlen] at hdl ⊢
      have hb : h.2.1 195 (r'.length + 1) = b := hSR.1
      have haa : h.2.1 195 r'.length = a := hSR.2.1
      have e2 : nI (r'.length + 2) - 2 = nI r'.length := nI_sub r'.length 2
      have prog : g_X0_valueOf_L39 K (nI r) c2 c3 p c6 (n + 1) (nI (r'.length + 2)) (nI i) h = if jS (kd i) a b = eM then some (eM, wrL h 195 r'.length (jS (kd i) a b)) else g_X0_valueOf_L39 K (nI r) c2 c3 p c6 n (nI (r'.length + 1)) (nI (i + 1)) (wrL h 195 r'.length (jS (kd i) a b)) := by
        rw [op]
        simp only [jn, vl, q1, q2, q3, if_true, if_false, e2, b1 r'.length (by omega), b2 r'.length (by omega), i20, i21]
        rw [ldL_of (by omega) (by decide), haa, nI_1, ldL_of (by omega) (by decide), hb, x_joined _ ha.2.1 ha.1, bnd_some, stL_of (by omega) (by decide)]
        by_cases hj : jS (kd i) a b = eM
        · have e1 : (wrL h 195 r'.length (jS (kd i) a b)).2.1 195 r'.length = jS (kd i) a b := by rw [wrL_2]; simp
          rw [ldL_of (by omega) (by decide), e1, if_pos (by rw [lc_eq]; exact hj), if_pos hj]
        · have hst := step (jS (kd i) a b) r' hj (by omega)
          rw [nI_1] at hst
          rw [hst, if_neg hj]
          rfl
      rw [prog]
      simp only [q1, q2, q3, if_false, not_true_eq_false]
      by_cases hj : jS (kd i) a b = eM
      · exact ⟨wrL h 195 r'.length (jS (kd i) a b), hs.tr (sc0_L _ _ _), by simp only [hj, if_true]⟩
      · simp only [hj, if_false]
        exact ih (i + 1) n (jS (kd i) a b :: r') (wrL h 195 r'.length (jS (kd i) a b)) (by omega) (by omega) (by simp; omega) (hs.tr (sc0_L _ _ _)) (SR_push _ hSR.2.2) ⟨(jS_ok _ ha.2.1 ha.1).resolve_left hj, ha.2.2⟩ (by simpa using hd')
    · -- not
      have q1 : kd i < 34 := by rw [hk]; decide
      have q3 : ¬ kd i = 2 := by rw [hk]; decide
      simp only [q1, q3, not_true_eq_false, or_self, if_false] at hd
      rw [if_pos hk] at hd
      have h1 : ¬ st.length = 0 := fun c => by rw [if_pos c] at hd; cases hd
      rw [if_neg h1] at hd
      obtain ⟨a, r', rfl⟩ : ∃ a r', st = a :: r' := by
        rcases st with _ | ⟨a, r'⟩
        · exact absurd rfl h1
        · exact ⟨a, r', rfl⟩
      have hlen : (a :: r').length = r'.length + 1 := rfl
      have hl2 : r'.length + 1 ≤ i := hl
      have hd' : dpS kd m (i + 1) (r'.length + 1) = some 1 := hd
      rw [hlen] at hdl ⊢
      have haa : h.2.1 195 r'.length = a := hSR.1
      have e2 : nI (r'.length + 1) - 1 = nI r'.length := nI_pred r'.length
      have i332 : ((33 : Int32) = 2) = False := eq_false (by decide)
      have i3334 : ((33 : Int32) < 34) = True := eq_true (by decide)
      have prog : g_X0_valueOf_L39 K (nI r) c2 c3 p c6 (n + 1) (nI (r'.length + 1)) (nI i) h = g_X0_valueOf_L39 K (nI r) c2 c3 p c6 n (nI (r'.length + 1)) (nI (i + 1)) (wrL h 195 r'.length (bz (a = 0))) := by
        rw [op]
        simp only [jn, vl, hk, i332, i3334, if_true, if_false, e2, b1 r'.length (by omega), b2 r'.length (by omega), i10]
        rw [ldL_of (by omega) (by decide), haa]
        by_cases c : a = 0
        · have ev : bz (a = 0) = 1 := by unfold bz; simp [c]
          rw [if_pos (by rw [lc_eq]; exact c), stL_of (by omega) (by decide), ev, step 1 r' (okV_ne okV_1) (by omega)]
          rfl
        · have ev : bz (a = 0) = 0 := by unfold bz; simp [c]
          rw [if_neg (by rw [lc_eq]; exact c), stL_of (by omega) (by decide), ev, step 0 r' (okV_ne okV_0) (by omega)]
          rfl
      rw [prog]
      simp only [hk, i332, i3334, if_false, if_true, not_true_eq_false]
      exact ih (i + 1) n (bz (a = 0) :: r') (wrL h 195 r'.length (bz (a = 0))) (by omega) (by omega) (by simp; omega) (hs.tr (sc0_L _ _ _)) (SR_push _ hSR.2) ⟨bz_ok _, ha.2⟩ (by simpa using hd')
    · -- a name
      obtain ⟨q1, q2, q3⟩ := isN_ge hk
      have prog : g_X0_valueOf_L39 K (nI r) c2 c3 p c6 (n + 1) (nI st.length) (nI i) h = g_X0_valueOf_L39 K (nI r) c2 c3 p c6 n (nI (st.length + 1)) (nI (i + 1)) (wrL h 195 st.length (if kd i = 34 then c6 else nm (kd i)).toInt64) := by
        rw [op]
        simp only [jn, vl, q1, q2, q3, if_true, Int32.sub_zero, b1 st.length (by omega), if_false, b2 st.length (by omega)]
        by_cases k34 : kd i = 34
        · rw [if_pos k34, if_pos k34, stL_of (by omega) (by decide), step _ st (okV_ne (okV_i _)) hl]
          rfl
        · rw [if_neg k34, if_neg k34, hnm h hs.1 hs.2.2 _ (hk.resolve_left k34), bnd_some, stL_of (by omega) (by decide), step _ st (okV_ne (okV_i _)) hl]
          rfl
      rw [prog]
      simp only [q1, q3, if_false, not_false_eq_true, if_true]
      have hd' : dpS kd m (i + 1) (st.length + 1) = some 1 := by simpa [q1] using hd
      exact ih (i + 1) n ((if kd i = 34 then c6 else nm (kd i)).toInt64 :: st) (wrL h 195 st.length (if kd i = 34 then c6 else nm (kd i)).toInt64) (by omega) (by omega) (by simp; omega) (hs.tr (sc0_L _ _ _)) (SR_push _ hSR) ⟨okV_i _, ha⟩ (by simpa using hd')
/-- what a law's E comes to; eM: an ERROR -/
def lawV (kd nu : Nat → Int32) (env : Int32 → Int32) (s e : Nat) : Int64 := match evS kd nu env (e - s) s [] with
  | some (v :: _) => v
  | _ => eM
/-- a law's E stands from s on up to e, or there is none -/
def lawOk (kd : Nat → Int32) (s e : Nat) : Prop := s ≤ e ∧ e ≤ 64 ∧ (s < e → dpS kd (e - s) s 0 = some 1)
