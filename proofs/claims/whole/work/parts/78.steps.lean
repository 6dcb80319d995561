/-! an E: the class's steps -/
theorem x_rel2 {T : TKD} {p i o t : Nat} (hp : pOk p) {s : Nat} (hs : 1 ≤ s ∧ s ≤ 6) {P W : List Int32} {O : List (Int32 × Int32)} {h : HH} (c : EC T p i o t (P ++ W) O h) (hP : ∀ k ∈ P, s ≤ str k) (hW : wst W < s) (h72 : (P ++ W).length ≤ 72) (h64 : O.length + P.length ≤ 64) :
    ∃ h1 h2 B, g_X6_release (nI s + 1) h = some ((), h1) ∧ g_X6_waitingStrength h1 = some (nI (wst (B ++ W)), h1) ∧ (∃ A, P = A ++ B) ∧ wst (B ++ W) < s + 1 ∧ g_X6_release (nI s) h1 = some ((), h2) ∧ EC T p i o t W (O ++ P.map fun k => (k, 0)) h2 ∧ eS p h h2 := by
  obtain ⟨A, B, e1, e2, e3⟩ := w_split (s + 1) (by omega) P
  subst e1
  have hB : wst (B ++ W) < s + 1 := by
    cases B with
    | nil => rw [List.nil_append]; omega
    | cons v r => exact e3
  have hl : (A ++ B ++ W).length = A.length + B.length + W.length := by simp; omega
  have hl2 : (A ++ B).length = A.length + B.length := by simp
  rw [hl] at h72
  rw [hl2] at h64
  rw [List.append_assoc] at c
  obtain ⟨h1, f1, f2, f3⟩ := x_rel hp (l := s + 1) (by omega) hB c e2 (by simp; omega) (by omega)
  obtain ⟨h2, g1, g2, g3⟩ := x_rel hp (l := s) (by omega) hW f2 (fun k hk => hP k (List.mem_append_right _ hk)) (by simp; omega) (by simp; omega)
  refine ⟨h1, h2, B, by rw [nI_1]; exact f1, x_wst f2 (by simp; omega), ⟨A, rfl⟩, hB, g1, ?_, f3.tr g3⟩
  rw [List.map_append, ← List.append_assoc]
  exact g2
theorem cl_op {T : TKD} (w : TKok T) {p i o t : Nat} (hp : pOk p) {P W : List Int32} {O : List (Int32 × Int32)} {h : HH} (c : EC T p i o t (P ++ W) O h) (hi : i < tL T) {N x2 : Nat} (hf : FU T i N x2) {s : Nat} (hs : str (tK T i) = s) (hs1 : 1 ≤ s ∧ s ≤ 6) (h33 : ¬ tK T i = 33) (hP : ∀ k ∈ P, s ≤ str k) (hW : wst W < s) (h4 : s = 4 → ∀ k ∈ P, 5 ≤ str k) (h72 : (P ++ W).length ≤ 72) (h64 : O.length + P.length ≤ 64) (ht : t ≤ 64) :
    (t < 64 → W.length < 72 → ∃ N' x' h', cl N 0 x2 h = cl N' 1 x' h' ∧ FU T (i + 1) N' x' ∧ EC T p (i + 1) o (t + 1) (tK T i :: W) (O ++ P.map fun k => (k, 0)) h' ∧ eS p h h') ∧
    (t = 64 → ∃ h', cl N 0 x2 h = some ((), h') ∧ FE T p 2 (tPl T i) h' ∧ eS p h h') := by
  obtain ⟨N', x', rfl, rfl, hx, e⟩ := cl_0 w c hi hf
  obtain ⟨h1, h2, B, f1, f2, ⟨A, f3⟩, f4, f5, f6, f7⟩ := x_rel2 hp hs1 c hP hW h72 h64
  have k6 : ¬ tK T i = 6 := fun z => by
    rw [z] at hs
    have : str 6 = 0 := by decide
    omega
  have n4 : s = 4 → ¬ nI (wst (B ++ W)) = 4 := by
    intro z e4
    have := str_le
    have := (nI_eq (b := 4) (by omega) (by decide)).mp e4
    cases B with
    | nil => rw [List.nil_append] at this; omega
    | cons v r =>
      have h5 := h4 z v (by rw [f3]; exact List.mem_append_right _ (List.mem_cons_self ..))
      have h6 : wst (v :: r ++ W) = str v := rfl
      omega
  have main : cl (N' + 1) 0 (x' + 1) h = bnd (g_X6_takeKnot h2) fun _ h24 => bnd (g_X6_await (tK T i) h24) fun _ h26 => cl N' 1 x' h26 := by
    rw [e, hs]
    simp only [jn]
    rw [if_neg k6, if_neg (nI_ne0 (by omega) (by omega)), if_neg h33, f1, bnd_some]
    by_cases z : s = 4
    · rw [if_pos (by rw [z]; rfl), f2, bnd_some, if_neg (n4 z), f5, bnd_some]
    · rw [if_neg (show ¬ nI s = 4 from fun e4 => z ((nI_eq (b := 4) (by omega) (by decide)).mp e4)), f5, bnd_some]
  obtain ⟨u1, u2, u3⟩ := hf
  refine ⟨fun t64 hl => ?_, fun t64 => ?_⟩
  · obtain ⟨h3, g1, g2, g3⟩ := x_knot w hp hi f6 t64
    obtain ⟨h4', j1, j2, j3⟩ := x_await hp g2 hl (tK T i)
    exact ⟨N', x', h4', by rw [main, g1, bnd_some, j1, bnd_some], ⟨by omega, hx, by omega⟩, j2, (f7.tr g3).tr j3⟩
  · subst t64
    have hlW : W.length ≤ 72 := by simp at h72; omega
    obtain ⟨h3, g1, g2, g3⟩ := x_knot64 w hi hlW f6
    obtain ⟨h5, j1, j2, j3⟩ := cl_F g2 (N := N') (by omega) 1 x'
    exact ⟨h5, by rw [main, g1, bnd_some, x_await_F g2.1, bnd_some]; exact j1, j2, (f7.tr g3).tr j3⟩
/-- a comparison stands open -/
def cmpT (P : List Int32) : Prop := ∃ A c B, P = A ++ c :: B ∧ (∀ k ∈ A, 5 ≤ str k) ∧ str c = 4
theorem cl_cmp {T : TKD} (w : TKok T) {p i o t : Nat} (hp : pOk p) {P W : List Int32} {O : List (Int32 × Int32)} {h : HH} (c : EC T p i o t (P ++ W) O h) (hi : i < tL T) {N x2 : Nat} (hf : FU T i N x2) (hs : str (tK T i) = 4) (hP : cmpT P) (h72 : (P ++ W).length ≤ 72) (h64 : O.length + P.length ≤ 64) :
    ∃ h', cl N 0 x2 h = some ((), h') ∧ FE T p 1 (tPl T i) h' ∧ eS p h h' := by
  obtain ⟨N', x', rfl, rfl, hx, e⟩ := cl_0 w c hi hf
  obtain ⟨A, v, B, rfl, hA, hv⟩ := hP
  have k6 : ¬ tK T i = 6 := fun z => by
    rw [z] at hs
    have : str 6 = 0 := by decide
    omega
  have h33 : ¬ tK T i = 33 := fun z => by
    rw [z] at hs
    have : str 33 = 3 := by decide
    omega
  have hl : (A ++ v :: B ++ W).length = A.length + B.length + W.length + 1 := by simp; omega
  rw [hl] at h72
  rw [List.append_assoc] at c
  obtain ⟨h1, f1, f2, f3⟩ := x_rel hp (l := 5) (by decide) (B := v :: B ++ W) (show str v < 5 by omega) c hA (by simp; omega) (by simp at h64; omega)
  have f2' := f2
  obtain ⟨⟨c1, c2, c3, c4⟩, ⟨c5, c6⟩, _⟩ := f2'
  obtain ⟨h2, g1, g2, g3⟩ := x6_failT w c1 hi c4 1 c3 (by decide) p
  have ge := x6_fail w c1 hi c4 1 c3
  rw [g1] at ge
  have h2e : h2 = wrI (wrI h1 24 4 1) 24 5 (nI (tPl T i)) := congrArg Prod.snd (Option.some.inj ge)
  have fe : FE T p 1 (tPl T i) h2 := ⟨g2, by rw [h2e]; exact c2, _, (by simp; omega : (v :: B ++ W).length ≤ 72), by rw [h2e, wrI_1, if_neg (by omega), wrI_1, if_neg (by omega)]; exact c5⟩
  have e12 : eS p h1 h2 := by rw [h2e]; exact (eS_24 p h1 _ (by omega)).tr (eS_24 p _ _ (by omega))
  obtain ⟨h3, i1, i2, i3⟩ := x_rel_F fe (nI 4)
  obtain ⟨h4, j1, j2, j3⟩ := x_knot_F w i2
  obtain ⟨h5, l1, l2, l3⟩ := cl_F j2 (N := N') (by omega) 1 x'
  refine ⟨h5, ?_, l2, (((f3.tr e12).tr i3).tr j3).tr l3⟩
  rw [e, hs]
  simp only [jn]
  rw [if_neg k6, if_neg (show ¬ nI 4 = 0 by decide), if_neg h33, show nI 4 + 1 = nI 5 from rfl, f1, bnd_some, if_pos (show nI 4 = 4 from rfl), x_wst f2 (by simp; omega), bnd_some, if_pos (show nI (wst (v :: B ++ W)) = 4 by show nI (str v) = 4; rw [hv]; rfl), g1, bnd_some, i1, bnd_some, j1, bnd_some, x_await_F j2.1, bnd_some]
  exact l1
/-- a bracket closed -/
theorem cl_close {T : TKD} (w : TKok T) {p i o t : Nat} (hp : pOk p) (ho : o < 9) {P W : List Int32} {O : List (Int32 × Int32)} {h : HH} (c : EC T p i (o + 1) t (P ++ 5 :: W) O h) (hi : i < tL T) {N x2 : Nat} (hf : FU T i N x2) (hk : tK T i = 6) (hP : ∀ k ∈ P, 1 ≤ str k) (h72 : (P ++ 5 :: W).length ≤ 72) (h64 : O.length + P.length ≤ 64) :
    ∃ N' x' h', cl N 0 x2 h = cl N' 0 x' h' ∧ FU T (i + 1) N' x' ∧ EC T p (i + 1) o t W (O ++ P.map fun k => (k, 0)) h' ∧ eS p h h' := by
  obtain ⟨N', x', rfl, rfl, hx, e⟩ := cl_0 w c hi hf
  obtain ⟨h1, f1, f2, f3⟩ := x_rel hp (l := 1) (by decide) (B := 5 :: W) (show str 5 < 1 by decide) c hP h72 h64
  obtain ⟨⟨c1, c2, c3, c4⟩, ⟨c5, c6⟩, ⟨c7, c8⟩, c9, c10⟩ := f2
  have hp' : p + 22 ≤ 60 ∧ (p + 13 < 24 ∨ 30 ≤ p) ∧ 2 ≤ p := by rcases hp with rfl | rfl <;> omega
  have c5' : h1.1 24 9 = nI (W.length + 1) := c5
  obtain ⟨u1, u2, u3⟩ := hf
  refine ⟨N', x', wrI (wrI (wrI h1 24 9 (nI W.length)) 24 10 (nI o)) 24 3 (nI (i + 1)), ?_, ⟨by omega, hx, by omega⟩, ⟨⟨c1.k fun a j q1 q2 => by rw [wrI_1, if_neg (by omega), wrI_1, if_neg (by omega), wrI_1, if_neg (by omega)], c2, by rw [wrI_1, if_neg (by omega), wrI_1, if_neg (by omega), wrI_1, if_neg (by omega)]; exact c3, wrI_at _ _ _ _⟩, ⟨by rw [wrI_1, if_neg (by omega), wrI_1, if_neg (by omega), wrI_at], c6.2.k (Nat.le_refl _) fun j _ => by rw [wrI_1, if_neg (by omega), wrI_1, if_neg (by omega), wrI_1, if_neg (by omega)]⟩, ⟨by rw [wrI_1, if_neg (by omega), wrI_at], by rw [wrI_1, if_neg (by omega), wrI_1, if_neg (by omega), wrI_1, if_neg (by omega)]; exact c8⟩, by rw [wrI_1, if_neg (by omega), wrI_1, if_neg (by omega), wrI_1, if_neg (by omega)]; exact c9, fun j x hx => by rw [wrI_1, if_neg (by omega), wrI_1, if_neg (by omega), wrI_1, if_neg (by omega), wrI_1, if_neg (by omega), wrI_1, if_neg (by omega), wrI_1, if_neg (by omega)]; exact c10 j x hx⟩, ((f3.tr (eS_24 p _ _ (by omega))).tr (eS_24 p _ _ (by omega))).tr (eS_go p (by have := w.2.1; omega) (by rw [wrI_1, if_neg (by omega), wrI_1, if_neg (by omega)]; exact c4))⟩
  rw [e]
  simp only [gfI, pfI, jn]
  rw [if_pos hk, if_pos (show 0 < nI (o + 1) from nI_lt (a := 0) (by omega) (by omega)), show (1 : Int32) = nI 1 from rfl, f1, bnd_some]
  rw [c5', show nI (W.length + 1) - nI 1 = nI W.length from nI_pred _, wrI_1 h1 24 9 _ 24 10, if_neg (by omega), c7, show nI (o + 1) - nI 1 = nI o from nI_pred _, x6_adv w (i := i) (c1.k fun a j q1 q2 => by rw [wrI_1, if_neg (by omega), wrI_1, if_neg (by omega)]) hi (by rw [wrI_1, if_neg (by omega), wrI_1, if_neg (by omega)]; exact c4), bnd_some]
/-- the E ends here -/
theorem cl_end {T : TKD} (w : TKok T) {p i o t : Nat} {W : List Int32} {O : List (Int32 × Int32)} {h : HH} (c : EC T p i o t W O h) (ho : o < 9) (hi : i < tL T) {N x2 : Nat} (hf : FU T i N x2) (h6 : ¬ (tK T i = 6 ∧ 0 < o)) (hk : str (tK T i) = 0 ∨ tK T i = 33) : cl N 0 x2 h = kE h := by
  obtain ⟨N', x', rfl, rfl, hx, e⟩ := cl_0 w c hi hf
  rw [e]
  simp only [jn]
  have body : ∀ X : Option (Unit × HH), (if nI (str (tK T i)) = 0 then kE h else if tK T i = 33 then kE h else X) = kE h := by
    intro X
    rcases hk with z | z
    · rw [if_pos (by rw [z]; rfl)]
    · by_cases y : nI (str (tK T i)) = 0
      · rw [if_pos y]
      · rw [if_neg y, if_pos z]
  by_cases q : tK T i = 6
  · have o0 : o = 0 := by
      have z : ¬ 0 < o := fun z => h6 ⟨q, z⟩
      omega
    rw [if_pos q, if_neg (show ¬ 0 < nI o from nI_nlt (a := 0) (by omega) (by decide))]; exact body _
  · rw [if_neg q]; exact body _
/-- within brackets the E can't end: a fault -/
theorem kE_open {T : TKD} (w : TKok T) {p i o t : Nat} {W : List Int32} {O : List (Int32 × Int32)} {h : HH} (c : EC T p i (o + 1) t W O h) (ho : o < 9) (hi : i < tL T) (h72 : W.length ≤ 72) : ∃ h', kE h = some ((), h') ∧ FE T p 1 (tPl T i) h' ∧ eS p h h' := by
  obtain ⟨⟨c1, c2, c3, c4⟩, ⟨c5, c6⟩, ⟨c7, c8⟩, c9, c10⟩ := c
  obtain ⟨h2, g1, g2, g3⟩ := x6_failT w c1 hi c4 1 c3 (by decide) p
  have ge := x6_fail w c1 hi c4 1 c3
  rw [g1] at ge
  have h2e : h2 = wrI (wrI h 24 4 1) 24 5 (nI (tPl T i)) := congrArg Prod.snd (Option.some.inj ge)
  have fe : FE T p 1 (tPl T i) h2 := ⟨g2, by rw [h2e]; exact c2, _, h72, by rw [h2e, wrI_1, if_neg (by omega), wrI_1, if_neg (by omega)]; exact c5⟩
  have e12 : eS p h h2 := by rw [h2e]; exact (eS_24 p h _ (by omega)).tr (eS_24 p _ _ (by omega))
  obtain ⟨h3, i1, i2, i3⟩ := x_rel_F fe 1
  refine ⟨h3, ?_, i2, e12.tr i3⟩
  unfold kE
  simp only [gfI, jn]
  rw [c7, if_pos (show 0 < nI (o + 1) from nI_lt (a := 0) (by omega) (by omega)), g1, bnd_some, i1]
  rfl
/-- a fault told where a part is wanted -/
theorem cl_fail {T : TKD} (w : TKok T) {p i o t : Nat} {W : List Int32} {O : List (Int32 × Int32)} {h : HH} (c : EC T p i o t W O h) (hi : i < tL T) (h72 : W.length ≤ 72) {N : Nat} (hN : 0 < N) (x1 : Int32) (x' : Nat) (f : Int32) (hf : ¬ f = 0) : ∃ h1 h', g_X6_fail f h = some ((), h1) ∧ FE T p f (tPl T i) h1 ∧ eS p h h1 ∧ cl N x1 x' h1 = some ((), h') ∧ FE T p f (tPl T i) h' ∧ eS p h h' := by
  obtain ⟨⟨c1, c2, c3, c4⟩, ⟨c5, c6⟩, ⟨c7, c8⟩, c9, c10⟩ := c
  obtain ⟨h2, g1, g2, g3⟩ := x6_failT w c1 hi c4 f c3 hf p
  have ge := x6_fail w c1 hi c4 f c3
  rw [g1] at ge
  have h2e : h2 = wrI (wrI h 24 4 f) 24 5 (nI (tPl T i)) := congrArg Prod.snd (Option.some.inj ge)
  have fe : FE T p f (tPl T i) h2 := ⟨g2, by rw [h2e]; exact c2, _, h72, by rw [h2e, wrI_1, if_neg (by omega), wrI_1, if_neg (by omega)]; exact c5⟩
  have e12 : eS p h h2 := by rw [h2e]; exact (eS_24 p h _ (by omega)).tr (eS_24 p _ _ (by omega))
  obtain ⟨h3, i1, i2, i3⟩ := cl_F fe hN x1 x'
  exact ⟨h2, h3, g1, fe, e12, i1, i2, e12.tr i3⟩
/-- a bracket opened -/
theorem cl_open {T : TKD} (w : TKok T) {p i o t : Nat} (hp : pOk p) {W : List Int32} {O : List (Int32 × Int32)} {h : HH} (c : EC T p i o t W O h) (hi : i < tL T) {N x2 : Nat} (hf : FU T i N x2) (hk : tK T i = 5) (ho : o ≤ 8) (h72 : W.length ≤ 72) :
    (o < 8 → W.length < 72 → ∃ N' x' h', cl N 1 x2 h = cl N' 1 x' h' ∧ FU T (i + 1) N' x' ∧ EC T p (i + 1) (o + 1) t (5 :: W) O h' ∧ eS p h h') ∧
    (o = 8 → ∃ h', cl N 1 x2 h = some ((), h') ∧ FE T p 2 (tPl T i) h' ∧ eS p h h') := by
  obtain ⟨N', x', rfl, rfl, hx, e⟩ := cl_1 w c hi hf
  obtain ⟨u1, u2, u3⟩ := hf
  refine ⟨fun o8 hl => ?_, fun o8 => ?_⟩
  · have cc := c
    obtain ⟨⟨c1, c2, c3, c4⟩, ⟨c5, c6⟩, ⟨c7, c8⟩, c9, c10⟩ := cc
    have hp' : p + 22 ≤ 60 ∧ (p + 13 < 24 ∨ 30 ≤ p) ∧ 2 ≤ p := by rcases hp with rfl | rfl <;> omega
    have cA : EC T p i (o + 1) t W O (wrI h 24 10 (nI (o + 1))) := ⟨⟨c1.k fun a j h1 h2 => by rw [wrI_1, if_neg (by omega)], c2, by rw [wrI_1, if_neg (by omega)]; exact c3, by rw [wrI_1, if_neg (by omega)]; exact c4⟩, ⟨by rw [wrI_1, if_neg (by omega)]; exact c5, c6.k (Nat.le_refl _) fun j _ => by rw [wrI_1, if_neg (by omega)]⟩, ⟨wrI_at _ _ _ _, by rw [wrI_1, if_neg (by omega)]; exact c8⟩, by rw [wrI_1, if_neg (by omega)]; exact c9, fun j x hx => by rw [wrI_1, if_neg (by omega), wrI_1, if_neg (by omega)]; exact c10 j x hx⟩
    obtain ⟨h1, f1, f2, f3⟩ := x_await hp cA hl 5
    obtain ⟨⟨d1, d2, d3, d4⟩, ⟨d5, d6⟩, ⟨d7, d8⟩, d9, d10⟩ := f2
    refine ⟨N', x', wrI h1 24 3 (nI (i + 1)), ?_, ⟨by omega, hx, by omega⟩, ⟨⟨d1.k fun a j h1 h2 => by rw [wrI_1, if_neg (by omega)], d2, by rw [wrI_1, if_neg (by omega)]; exact d3, wrI_at _ _ _ _⟩, ⟨by rw [wrI_1, if_neg (by omega)]; exact d5, d6.k (Nat.le_refl _) fun j _ => by rw [wrI_1, if_neg (by omega)]⟩, ⟨by rw [wrI_1, if_neg (by omega)]; exact d7, by rw [wrI_1, if_neg (by omega)]; exact d8⟩, by rw [wrI_1, if_neg (by omega)]; exact d9, fun j x hx => by rw [wrI_1, if_neg (by omega), wrI_1, if_neg (by omega)]; exact d10 j x hx⟩, ((eS_24 p h _ (by omega)).tr f3).tr (eS_go p (by have := w.2.1; omega) d4)⟩
    rw [e, hk]
    unfold g_X6_readPart
    simp only [gfI, pfI]
    rw [if_pos True.intro, c7, if_pos (show nI o < 8 from nI_lt (b := 8) o8 (by decide)), nI_1, f1, bnd_some, x6_adv w d1 hi d4, bnd_some, bnd_some, if_pos rfl]
  · subst o8
    obtain ⟨h1, h', f1, f2, f3, f4, f5, f6⟩ := cl_fail w c hi h72 (N := N') (by omega) 1 x' 2 (by decide)
    refine ⟨h', ?_, f5, f6⟩
    rw [e, hk]
    unfold g_X6_readPart
    simp only [gfI]
    rw [if_pos True.intro, c.2.2.1.1, if_neg (show ¬ nI 8 < 8 by decide), f1, bnd_some, bnd_some, if_pos rfl]
    exact f4
/-- a not -/
theorem cl_not {T : TKD} (w : TKok T) {p i o t : Nat} (hp : pOk p) {W : List Int32} {O : List (Int32 × Int32)} {h : HH} (c : EC T p i o t W O h) (hi : i < tL T) {N x2 : Nat} (hf : FU T i N x2) (hk : tK T i = 33) (hW : wst W < 4) (ht : t ≤ 64) (h72 : W.length ≤ 72) :
    (t < 64 → W.length < 72 → ∃ N' x' h', cl N 1 x2 h = cl N' 1 x' h' ∧ FU T (i + 1) N' x' ∧ EC T p (i + 1) o (t + 1) (33 :: W) O h' ∧ eS p h h') ∧
    (t = 64 → ∃ h', cl N 1 x2 h = some ((), h') ∧ FE T p 2 (tPl T i) h' ∧ eS p h h') := by
  obtain ⟨N', x', rfl, rfl, hx, e⟩ := cl_1 w c hi hf
  obtain ⟨u1, u2, u3⟩ := hf
  have op : ∀ h1, g_X6_takeKnot h = some ((), h1) → cl (N' + 1) 1 (x' + 1) h = bnd (g_X6_await 33 h1) fun _ h2 => cl N' 1 x' h2 := by
    intro h1 e1
    rw [e, hk]
    unfold g_X6_readPart
    simp only [jn]
    rw [if_neg (by decide), if_pos True.intro, x_wst c h72, bnd_some, if_pos (show nI (wst W) < 4 from nI_lt (b := 4) hW (by decide)), e1, bnd_some]
    cases g_X6_await 33 h1 with
    | none => rfl
    | some x => obtain ⟨a, b⟩ := x; rw [bnd_some, bnd_some, bnd_some, if_pos rfl]
  refine ⟨fun t64 hl => ?_, fun t64 => ?_⟩
  · obtain ⟨h3, g1, g2, g3⟩ := x_knot w hp hi c t64
    obtain ⟨h4', j1, j2, j3⟩ := x_await hp g2 hl 33
    exact ⟨N', x', h4', by rw [op h3 g1, j1, bnd_some], ⟨by omega, hx, by omega⟩, j2, g3.tr j3⟩
  · subst t64
    obtain ⟨h3, g1, g2, g3⟩ := x_knot64 w hi h72 c
    obtain ⟨h5, j1, j2, j3⟩ := cl_F g2 (N := N') (by omega) 1 x'
    exact ⟨h5, by rw [op h3 g1, x_await_F g2.1, bnd_some]; exact j1, j2, g3.tr j3⟩
/-- a number, a name -/
theorem cl_part {T : TKD} (w : TKok T) {p i o t : Nat} (hp : pOk p) {W : List Int32} {O : List (Int32 × Int32)} {h : HH} (c : EC T p i o t W O h) (hi : i < tL T) {N x2 : Nat} (hf : FU T i N x2) (hO : O.length < 64) (ht : t ≤ 64) (h72 : W.length ≤ 72) {u : Int32} (hk : (tK T i = 2 ∧ u = tV T i ∧ ¬ tV T i < 0 ∧ ¬ 9999 < tV T i) ∨ (¬ tK T i < 34 ∧ ¬ 40 < tK T i ∧ u = 0)) :
    (t < 64 → ∃ N' x' h', cl N 1 x2 h = cl N' 0 x' h' ∧ FU T (i + 1) N' x' ∧ EC T p (i + 1) o (t + 1) W (O ++ [(tK T i, u)]) h' ∧ eS p h h') ∧
    (t = 64 → ∃ h', cl N 1 x2 h = some ((), h') ∧ FE T p 2 (tPl T i) h' ∧ eS p h h') := by
  obtain ⟨N', x', rfl, rfl, hx, e⟩ := cl_1 w c hi hf
  obtain ⟨u1, u2, u3⟩ := hf
  have cc := c
  obtain ⟨⟨c1, c2, c3, c4⟩, _⟩ := cc
  have op : ∀ h1 h2, g_X6_takeKnot h = some ((), h1) → g_X6_emit (tK T i) u h1 = some ((), h2) → cl (N' + 1) 1 (x' + 1) h = cl N' 0 x' h2 := by
    intro h1 h2 e1 e2
    rw [e]
    unfold g_X6_readPart
    simp only [jn]
    rcases hk with ⟨k1, k2, k3, k4⟩ | ⟨k1, k2, k3⟩
    · have lk : g_X6_look 0 9999 h = some (tV T i, h) := by
        unfold g_X6_look
        simp only [gfI, jn]
        rw [c3, if_pos rfl, x6_kind w c1 hi c4, bnd_some, if_pos k1, x6_value w c1 hi c4, bnd_some, if_neg k3, x6_value w c1 hi c4, bnd_some, if_neg k4, x6_value w c1 hi c4, bnd_some]
      rw [k1] at e2 ⊢
      rw [if_neg (by decide), if_neg (by decide), if_pos rfl, if_neg (by decide), if_neg (by decide), lk, bnd_some, e1, bnd_some, ← k2, e2, bnd_some, bnd_some, if_neg (by decide)]
    · have n5 : ¬ tK T i = 5 := fun z => k1 (by rw [z]; decide)
      have n33 : ¬ tK T i = 33 := fun z => k1 (by rw [z]; decide)
      have n2 : ¬ tK T i = 2 := fun z => k1 (by rw [z]; decide)
      rw [k3] at e2
      rw [if_neg n5, if_neg n33, if_neg n2, if_pos True.intro, if_neg k1, if_neg k2, if_pos True.intro, e1, bnd_some, e2, bnd_some, bnd_some, if_neg (by decide)]
  refine ⟨fun t64 => ?_, fun t64 => ?_⟩
  · obtain ⟨h3, g1, g2, g3⟩ := x_knot w hp hi c t64
    obtain ⟨h4, j1, j2, j3⟩ := x_emit hp g2 hO (tK T i) u
    exact ⟨N', x', h4, op h3 h4 g1 j1, ⟨by omega, hx, by omega⟩, j2, g3.tr j3⟩
  · subst t64
    obtain ⟨h3, g1, g2, g3⟩ := x_knot64 w hi h72 c
    obtain ⟨h5, j1, j2, j3⟩ := cl_F g2 (N := N') (by omega) 0 x'
    exact ⟨h5, by rw [op h3 h3 g1 (x_emit_F g2.1 _ _)]; exact j1, j2, g3.tr j3⟩
/-- none of these -/
theorem cl_none {T : TKD} (w : TKok T) {p i o t : Nat} {W : List Int32} {O : List (Int32 × Int32)} {h : HH} (c : EC T p i o t W O h) (hi : i < tL T) {N x2 : Nat} (hf : FU T i N x2) (h72 : W.length ≤ 72) (n5 : ¬ tK T i = 5) (n33 : tK T i = 33 → 4 ≤ wst W) (n2 : ¬ tK T i = 2) (n34 : tK T i < 34 ∨ 40 < tK T i) :
    ∃ h', cl N 1 x2 h = some ((), h') ∧ FE T p 1 (tPl T i) h' ∧ eS p h h' := by
  obtain ⟨N', x', rfl, rfl, hx, e⟩ := cl_1 w c hi hf
  obtain ⟨h1, h', f1, f2, f3, f4, f5, f6⟩ := cl_fail w c hi h72 (N := N') (by omega) 1 x' 1 (by decide)
  refine ⟨h', ?_, f5, f6⟩
  rw [e]
  unfold g_X6_readPart
  simp only [jn, n2, if_false, if_true]
  rw [if_neg n5]
  have nn : ∀ X : Option (Int32 × HH), (if tK T i < 34 then bnd (g_X6_fail 1 h) fun _ h33 => some ((0 : Int32), h33) else if 40 < tK T i then bnd (g_X6_fail 1 h) fun _ h33 => some ((0 : Int32), h33) else X) = some ((0 : Int32), h1) := by
    intro X
    rw [f1, bnd_some]
    rcases n34 with z | z
    · rw [if_pos z]
    · split
      · rfl
      · rfl
  by_cases q : tK T i = 33
  · have w6 := str_le
    have hwb : wst W ≤ 6 := by
      cases W with
      | nil => exact Nat.zero_le _
      | cons v r => exact w6 v
    rw [if_pos q, x_wst c h72, bnd_some, if_neg (show ¬ nI (wst W) < 4 from nI_nlt (b := 4) (n33 q) (by omega)), nn, bnd_some, if_pos rfl]
    exact f4
  · rw [if_neg q, nn, bnd_some, if_pos rfl]
    exact f4
/-- a number too large -/
theorem cl_big {T : TKD} (w : TKok T) {p i o t : Nat} {W : List Int32} {O : List (Int32 × Int32)} {h : HH} (c : EC T p i o t W O h) (hi : i < tL T) {N x2 : Nat} (hf : FU T i N x2) (h72 : W.length ≤ 72) (hk : tK T i = 2) (hv : ¬ tV T i < 0 ∧ 9999 < tV T i) :
    ∃ h', cl N 1 x2 h = some ((), h') ∧ FE T p 2 (tPl T i) h' ∧ eS p h h' := by
  obtain ⟨N', x', rfl, rfl, hx, e⟩ := cl_1 w c hi hf
  have cc := c
  obtain ⟨⟨c1, c2, c3, c4⟩, _⟩ := cc
  obtain ⟨h1, _, f1, f2, f3, _, _, _⟩ := cl_fail w c hi h72 (N := N') (by omega) 1 x' 2 (by decide)
  obtain ⟨h2, g1, g2, g3⟩ := x_knot_F w f2
  obtain ⟨h', j1, j2, j3⟩ := cl_F g2 (N := N') (by omega) 0 x'
  refine ⟨h', ?_, j2, (f3.tr g3).tr j3⟩
  have lk : g_X6_look 0 9999 h = some (0, h1) := by
    unfold g_X6_look
    simp only [gfI, jn]
    rw [c3, if_pos rfl, x6_kind w c1 hi c4, bnd_some, if_pos hk, x6_value w c1 hi c4, bnd_some, if_neg hv.1, x6_value w c1 hi c4, bnd_some, if_pos hv.2, f1, bnd_some]
  rw [e, hk]
  unfold g_X6_readPart
  simp only [jn]
  rw [if_neg (by decide), if_neg (by decide), if_pos True.intro, if_neg (by decide), if_neg (by decide), lk, bnd_some, g1, bnd_some, x_emit_F g2.1, bnd_some, bnd_some, if_neg (by decide)]
  exact j1
