/-! an E, side by side -/
def dpl : List (Int32 × Int32) → Nat → Option Nat
  | [], d => some d
  | x :: r, d => if x.1 = 2 ∨ ¬ x.1 < 34 then dpl r (d + 1) else if x.1 = 33 then (if d = 0 then none else dpl r d) else if d < 2 then none else dpl r (d - 1)
theorem dpl_app : ∀ (X Y : List (Int32 × Int32)) (d : Nat), dpl (X ++ Y) d = (dpl X d).bind (dpl Y)
  | [], Y, d => rfl
  | x :: r, Y, d => by
    show dpl (x :: (r ++ Y)) d = _
    unfold dpl
    split
    · exact dpl_app r Y _
    · split
      · split
        · rfl
        · exact dpl_app r Y _
      · split
        · rfl
        · exact dpl_app r Y _
/-- one value more -/
def DX (X : List (Int32 × Int32)) : Prop := ∀ d, dpl X d = some (d + 1)
def lim (lv : Nat) : Nat := if lv = 0 then 1 else if lv = 1 then 2 else if lv = 2 then 4 else if lv = 3 then 5 else if lv = 4 then 6 else 7
def slv (lv : Nat) : Nat := if lv = 0 then 1 else if lv = 1 then 2 else if lv = 2 then 3 else if lv = 3 then 5 else if lv = 4 then 6 else 7
def stp (T : TKD) (lv i : Nat) (P : List Int32) : Prop := (lv ≤ 4 → ¬ str (tK T i) = 6) ∧ (lv ≤ 3 → ¬ str (tK T i) = 5) ∧ (lv ≤ 2 → str (tK T i) = 4 → cmpT P) ∧ (lv ≤ 1 → ¬ str (tK T i) = 2) ∧ (lv = 0 → ¬ str (tK T i) = 1)
def PreE (T : TKD) (p lv o n i t : Nat) (W : List Int32) (O : List (Int32 × Int32)) (N x2 : Nat) (hc hr : HH) : Prop := (FU T i N x2 ∧ EC T p i o t W O hc ∧ ER T i o t O hr ∧ i < tL T) ∧ (o ≤ 8 ∧ t ≤ 64 ∧ O.length ≤ t ∧ W.length ≤ t + o) ∧ (wst W < lim lv ∧ (3 ≤ lv → tK T i = 33 → 4 ≤ wst W)) ∧ 7 * (8 - o) + (65 - t) + (6 - lv) ≤ n
def StE (T : TKD) (p o t : Nat) (W : List Int32) (O : List (Int32 × Int32)) (start : Option (Unit × HH)) (hc : HH) (sl N x i : Nat) (P : List Int32) (O' X : List (Int32 × Int32)) (hc' hr' : HH) : Prop :=
  (start = cl N 0 x hc' ∧ FU T i N x ∧ i < tL T ∧ eS p hc hc') ∧ (EC T p i o (t + X.length) (P ++ W) O' hc' ∧ ER T i o (t + X.length) (O ++ X) hr' ∧ (O' ++ P.map fun k => (k, 0)) = O ++ X) ∧ (t + X.length ≤ 64 ∧ (∀ k ∈ P, sl ≤ str k) ∧ P.length ≤ X.length) ∧ DX X ∧ ∀ x ∈ X, kOk x.1
def OutE (T : TKD) (p lv o t : Nat) (W : List Int32) (O : List (Int32 × Int32)) (start : Option (Unit × HH)) (hc hr hr' : HH) : Prop :=
  eR hr hr' ∧ ((∃ f q hc', start = some ((), hc') ∧ FE T p f q hc' ∧ rF f q hr' ∧ eS p hc hc') ∨ ∃ N x i P O' X hc', StE T p o t W O start hc (slv lv) N x i P O' X hc' hr' ∧ stp T lv i P)
def MLE (T : TKD) (p n : Nat) : Prop := ∀ lv o i t W O N x2 hc hr, lv ≤ 5 → PreE T p lv o n i t W O N x2 hc hr → ∃ hr', rG n lv hr = some ((), hr') ∧ OutE T p lv o t W O (cl N 1 x2 hc) hc hr hr'
theorem str_1 {k : Int32} : str k = 1 ↔ k = 32 := by
  unfold str
  refine ⟨fun h => ?_, fun h => if_pos h⟩
  split at h
  · assumption
  · repeat' split at h
    all_goals omega
theorem str_2 {k : Int32} : str k = 2 ↔ k = 31 := by
  refine ⟨fun h => ?_, fun h => by rw [h]; decide⟩
  unfold str at h
  split at h
  · omega
  · split at h
    · assumption
    · repeat' split at h
      all_goals omega
theorem str_5 {k : Int32} : str k = 5 ↔ k = 13 ∨ k = 14 := by
  refine ⟨fun h => ?_, fun h => by rcases h with rfl | rfl <;> decide⟩
  unfold str at h
  repeat' split at h
  all_goals first
    | omega
    | (left; assumption)
    | (right; assumption)
theorem str_6 {k : Int32} : str k = 6 ↔ k = 15 ∨ k = 16 := by
  refine ⟨fun h => ?_, fun h => by rcases h with rfl | rfl <;> decide⟩
  unfold str at h
  repeat' split at h
  all_goals first
    | omega
    | (left; assumption)
    | (right; assumption)
theorem str_0 {k : Int32} (h : ¬ str k = 0) : ¬ k = 0 := fun e => h (by rw [e]; decide)
theorem str_B {k : Int32} (h0 : ¬ str k = 0) (h3 : ¬ k = 33) : isB k := by
  unfold str at h0
  unfold isB
  by_cases a1 : k = 32
  · simp [a1]
  by_cases a2 : k = 31
  · simp [a2]
  rw [if_neg a1, if_neg a2, if_neg h3] at h0
  by_cases a4 : k < 7 ∨ 12 < k
  · rw [if_pos a4] at h0
    by_cases b1 : k = 13
    · simp [b1]
    by_cases b2 : k = 14
    · simp [b2]
    by_cases b3 : k = 15
    · simp [b3]
    by_cases b4 : k = 16
    · simp [b4]
    rw [if_neg b1, if_neg b2, if_neg b3, if_neg b4] at h0
    exact absurd rfl h0
  · have a5 : ¬ k < 7 := fun z => a4 (Or.inl z)
    have a6 : ¬ 12 < k := fun z => a4 (Or.inr z)
    obtain ⟨j, hj, rfl⟩ := nI_of (x := k) (fun z => a5 (Int32.lt_trans z (by decide)))
    have b1 : ¬ j < 7 := fun z => a5 (nI_lt (b := 7) z (by decide))
    have b2 : ¬ 12 < j := fun z => a6 (nI_lt (a := 12) z (by omega))
    rcases (show j = 7 ∨ j = 8 ∨ j = 9 ∨ j = 10 ∨ j = 11 ∨ j = 12 by omega) with rfl | rfl | rfl | rfl | rfl | rfl <;> decide
theorem DX_op {X X2 : List (Int32 × Int32)} (h1 : DX X) (h2 : DX X2) {k : Int32} (hk : isB k) : DX (X ++ X2 ++ [(k, 0)]) := by
  intro d
  obtain ⟨q1, q2, q3⟩ := isB_lt hk
  rw [dpl_app, dpl_app, h1]
  show (dpl X2 (d + 1)).bind _ = _
  rw [h2]
  show dpl [(k, 0)] (d + 1 + 1) = _
  unfold dpl
  rw [if_neg (fun z => z.elim q3 (fun z => z q1)), if_neg q2, if_neg (by omega)]
  rfl
theorem loopE {T : TKD} (w : TKok T) {p : Nat} (hp : pOk p) {lv n0 : Nat} (hlv : lv = 0 ∨ lv = 1 ∨ lv = 3 ∨ lv = 4) (G : Nat → HH → Option (Unit × HH))
    (hstop : ∀ n i hr, rA T i hr → ¬ str (tK T i) = slv lv → G (n + 1) hr = some ((), hr))
    (hgo : ∀ n i hr, rA T i hr → str (tK T i) = slv lv → G (n + 1) hr = bnd (g_X11_knot hr) fun _ h1 => bnd (g_X11_goOn h1) fun _ h2 => bnd (rG n0 (lv + 1) h2) fun _ h3 => bnd (g_X11_puts 2 (mk (tK T i)) h3) fun _ h4 => G n h4)
    (hF : ∀ n f q hr, rF f q hr → G (n + 1) hr = some ((), hr)) (IH : MLE T p n0) {o t : Nat} {W : List Int32} {O : List (Int32 × Int32)} (start : Option (Unit × HH)) (hc hr : HH)
    (ho : o ≤ 8) (hO : O.length ≤ t) (hWl : W.length ≤ t + o) (hW : wst W < lim lv) (hn : 7 * (8 - o) + (65 - t) + (6 - lv) ≤ n0 + 1) :
    ∀ m nG N x i P O' X hc' hr', 64 - (t + X.length) ≤ m → m + 2 ≤ nG → eR hr hr' → StE T p o t W O start hc (slv lv) N x i P O' X hc' hr' → stp T (lv + 1) i P →
      ∃ hr'', G nG hr' = some ((), hr'') ∧ OutE T p lv o t W O start hc hr hr'' := by
  have hls : lim lv = slv lv ∧ 1 ≤ slv lv ∧ slv lv ≤ 6 ∧ slv lv ≠ 4 ∧ slv lv ≠ 3 ∧ slv lv < lim (lv + 1) ∧ (3 ≤ lv + 1 → 4 ≤ slv lv) ∧ slv lv ≤ slv (lv + 1) := by
    rcases hlv with rfl | rfl | rfl | rfl <;> decide
  obtain ⟨l1, l2, l3, l4, l5, l6, l7, l8⟩ := hls
  intro m
  induction m with
  | zero =>
    intro nG N x i P O' X hc' hr' hm hnG er ⟨⟨a1, a2, a3, a4⟩, ⟨a5, a6, a7⟩, ⟨a8, a9, a10⟩, a11, a12⟩ hst
    obtain ⟨nG, rfl⟩ : ∃ n', nG = n' + 1 + 1 := ⟨nG - 2, by omega⟩
    by_cases hs : str (tK T i) = slv lv
    · have hlen := congrArg List.length a7
      simp at hlen
      have h33 : ¬ tK T i = 33 := fun z => by rw [z] at hs; exact l5 hs.symm
      have t64 : t + X.length = 64 := by omega
      obtain ⟨_, g2⟩ := cl_op w hp a5 a3 a2 hs ⟨l2, l3⟩ h33 a9 (by omega) (fun z => absurd z l4) (by simp; omega) (by omega) (by omega)
      obtain ⟨hc'', j1, j2, j3⟩ := g2 t64
      rw [t64] at a6
      obtain ⟨h1, k1, k2, k3⟩ := r_knot64 a6
      refine ⟨h1, ?_, er.tr k3, Or.inl ⟨_, _, hc'', a1.trans j1, j2, k2, a4.tr j3⟩⟩
      rw [hgo (nG + 1) i hr' a6.1 hs, k1, bnd_some, r_goOn_F k2, bnd_some, rG_F k2 n0 (lv + 1) (by omega) (by omega), bnd_some, r_puts_F k2, bnd_some]
      exact hF _ _ _ _ k2
    · refine ⟨hr', hstop _ i _ a6.1 hs, er, Or.inr ⟨N, x, i, P, O', X, hc', ⟨⟨a1, a2, a3, a4⟩, ⟨a5, a6, a7⟩, ⟨a8, a9, a10⟩, a11, a12⟩, ?_⟩⟩
      obtain ⟨s1, s2, s3, s4, s5⟩ := hst
      rcases hlv with rfl | rfl | rfl | rfl
      · exact ⟨fun _ => s1 (by decide), fun _ => s2 (by decide), fun _ => s3 (by decide), fun _ => s4 (by decide), fun _ => hs⟩
      · exact ⟨fun _ => s1 (by decide), fun _ => s2 (by decide), fun _ => s3 (by decide), fun _ => hs, fun z => by omega⟩
      · exact ⟨fun _ => s1 (by decide), fun _ => hs, fun z => by omega, fun z => by omega, fun z => by omega⟩
      · exact ⟨fun _ => hs, fun z => by omega, fun z => by omega, fun z => by omega, fun z => by omega⟩
  | succ m ih =>
    intro nG N x i P O' X hc' hr' hm hnG er ⟨⟨a1, a2, a3, a4⟩, ⟨a5, a6, a7⟩, ⟨a8, a9, a10⟩, a11, a12⟩ hst
    obtain ⟨nG, rfl⟩ : ∃ n', nG = n' + 1 + 1 := ⟨nG - 2, by omega⟩
    by_cases hs : str (tK T i) = slv lv
    · have hlen := congrArg List.length a7
      simp at hlen
      have h33 : ¬ tK T i = 33 := fun z => by rw [z] at hs; exact l5 hs.symm
      have hk0 : ¬ tK T i = 0 := str_0 (by omega)
      have hB : isB (tK T i) := str_B (by omega) h33
      obtain ⟨g1, g2⟩ := cl_op w hp a5 a3 a2 hs ⟨l2, l3⟩ h33 a9 (by omega) (fun z => absurd z l4) (by simp; omega) (by omega) (by omega)
      by_cases t64 : t + X.length = 64
      · obtain ⟨hc'', j1, j2, j3⟩ := g2 t64
        rw [t64] at a6
        obtain ⟨h1, k1, k2, k3⟩ := r_knot64 a6
        refine ⟨h1, ?_, er.tr k3, Or.inl ⟨_, _, hc'', a1.trans j1, j2, k2, a4.tr j3⟩⟩
        rw [hgo (nG + 1) i hr' a6.1 hs, k1, bnd_some, r_goOn_F k2, bnd_some, rG_F k2 n0 (lv + 1) (by omega) (by omega), bnd_some, r_puts_F k2, bnd_some]
        exact hF _ _ _ _ k2
      · obtain ⟨N1, x1, c1, j1, j2, j3, j4⟩ := g1 (by omega) (by omega)
        rw [a7] at j3
        obtain ⟨r1, k1, k2, k3⟩ := r_knot a6 (by omega)
        obtain ⟨r2, k4, k5, k6⟩ := k2.n w a3 hk0
        have hi1 := tK_e w a3 hk0
        obtain ⟨r3, q1, q2, q3⟩ := IH (lv + 1) o (i + 1) (t + X.length + 1) (tK T i :: W) (O ++ X) N1 x1 c1 r2 (by omega) ⟨⟨j2, j3, k5, hi1⟩, ⟨ho, by omega, by simp; omega, by simp; omega⟩, ⟨by show str (tK T i) < _; omega, fun z _ => by show 4 ≤ str (tK T i); have := l7 z; omega⟩, by omega⟩
        have go : ∀ v, G (nG + 1 + 1) hr' = v ↔ (bnd (g_X11_puts 2 (mk (tK T i)) r3) fun _ h4 => G (nG + 1) h4) = v := fun v => by
          rw [hgo (nG + 1) i hr' a6.1 hs, k1, bnd_some, k4, bnd_some, q1, bnd_some]
        rcases q3 with ⟨f, q, c2, f1, f2, f3, f4⟩ | ⟨N2, x2, i2, P2, O2, X2, c2, ⟨⟨b1, b2, b3, b4⟩, ⟨b5, b6, b7⟩, ⟨b8, b9, b10⟩, b11, b12⟩, b13⟩
        · refine ⟨r3, (go _).mpr ?_, ((er.tr k3).tr k6).tr q2, Or.inl ⟨f, q, c2, (a1.trans j1).trans f1, f2, f3, (a4.tr j4).tr f4⟩⟩
          rw [r_puts_F f3, bnd_some]
          exact hF _ _ _ _ f3
        · have hl2 : (O ++ X ++ X2).length < 64 := by simp; omega
          obtain ⟨r4, v1, v2, v3⟩ := b6.w hl2 (k := tK T i) (u := 0) (s := 2) (v := mk (tK T i)) (Or.inr (Or.inl ⟨hB, rfl, rfl⟩))
          have et : t + X.length + 1 + X2.length = t + (X ++ X2 ++ [(tK T i, (0 : Int32))]).length := by simp; omega
          rw [et] at b5 b8 v2
          obtain ⟨r5, u1, u2⟩ := ih (nG + 1) N2 x2 i2 (P2 ++ [tK T i]) O2 (X ++ X2 ++ [(tK T i, 0)]) c2 r4 (by simp; omega) (by omega) ((((er.tr k3).tr k6).tr q2).tr v3) ⟨⟨(a1.trans j1).trans b1, b2, b3, (a4.tr j4).tr b4⟩, ⟨by rw [show P2 ++ [tK T i] ++ W = P2 ++ tK T i :: W by simp]; exact b5, by rw [show O ++ (X ++ X2 ++ [(tK T i, (0 : Int32))]) = O ++ X ++ X2 ++ [(tK T i, 0)] by simp]; exact v2, by rw [List.map_append, ← List.append_assoc, b7]; simp⟩, ⟨b8, fun k hk => by
              rcases List.mem_append.mp hk with hk | hk
              · have := b9 k hk; omega
              · rw [List.mem_singleton.mp hk]; omega, by simp; omega⟩, DX_op a11 b11 hB, fun x hx => by
              rcases List.mem_append.mp hx with hx | hx
              · rcases List.mem_append.mp hx with hx | hx
                · exact a12 x hx
                · exact b12 x hx
              · rw [List.mem_singleton.mp hx]; exact Or.inr (Or.inl hB)⟩ (by
              obtain ⟨s1, s2, s3, s4, s5⟩ := b13
              refine ⟨s1, s2, fun z1 z2 => ?_, s4, s5⟩
              obtain ⟨A, c, B, y1, y2, y3⟩ := s3 z1 z2
              exact ⟨A, c, B ++ [tK T i], by rw [y1]; simp, y2, y3⟩)
          exact ⟨r5, (go _).mpr (by rw [v1, bnd_some]; exact u1), u2⟩
    · refine ⟨hr', hstop _ i _ a6.1 hs, er, Or.inr ⟨N, x, i, P, O', X, hc', ⟨⟨a1, a2, a3, a4⟩, ⟨a5, a6, a7⟩, ⟨a8, a9, a10⟩, a11, a12⟩, ?_⟩⟩
      obtain ⟨s1, s2, s3, s4, s5⟩ := hst
      rcases hlv with rfl | rfl | rfl | rfl
      · exact ⟨fun _ => s1 (by decide), fun _ => s2 (by decide), fun _ => s3 (by decide), fun _ => s4 (by decide), fun _ => hs⟩
      · exact ⟨fun _ => s1 (by decide), fun _ => s2 (by decide), fun _ => s3 (by decide), fun _ => hs, fun z => by omega⟩
      · exact ⟨fun _ => s1 (by decide), fun _ => hs, fun z => by omega, fun z => by omega, fun z => by omega⟩
      · exact ⟨fun _ => hs, fun z => by omega, fun z => by omega, fun z => by omega, fun z => by omega⟩
