/-! an E: the signs that wait, the knots put -/
def str (k : Int32) : Nat := if k = 32 then 1 else if k = 31 then 2 else if k = 33 then 3 else if k < 7 ∨ 12 < k then (if k = 13 then 5 else if k = 14 then 5 else if k = 15 then 6 else if k = 16 then 6 else 0) else 4
theorem str_le (k : Int32) : str k ≤ 6 := by
  unfold str
  repeat' split
  all_goals omega
theorem x_str (k : Int32) (h : HH) : g_X6_strength k h = some (nI (str k), h) := by
  unfold g_X6_strength str
  simp only [jn]
  by_cases a1 : k = 32
  · rw [if_pos a1, if_pos a1]; rfl
  rw [if_neg a1, if_neg a1]
  by_cases a2 : k = 31
  · rw [if_pos a2, if_pos a2]; rfl
  rw [if_neg a2, if_neg a2]
  by_cases a3 : k = 33
  · rw [if_pos a3, if_pos a3]; rfl
  rw [if_neg a3, if_neg a3]
  have t : (if k = 13 then some ((5 : Int32), h) else if k = 14 then some (5, h) else if k = 15 then some (6, h) else if k = 16 then some (6, h) else some (0, h)) = some (nI (if k = 13 then 5 else if k = 14 then 5 else if k = 15 then 6 else if k = 16 then 6 else 0), h) := by
    by_cases b1 : k = 13
    · rw [if_pos b1, if_pos b1]; rfl
    rw [if_neg b1, if_neg b1]
    by_cases b2 : k = 14
    · rw [if_pos b2, if_pos b2]; rfl
    rw [if_neg b2, if_neg b2]
    by_cases b3 : k = 15
    · rw [if_pos b3, if_pos b3]; rfl
    rw [if_neg b3, if_neg b3]
    by_cases b4 : k = 16
    · rw [if_pos b4, if_pos b4]; rfl
    rw [if_neg b4, if_neg b4]; rfl
  by_cases a4 : k < 7
  · rw [if_pos a4, if_pos (Or.inl a4)]; exact t
  rw [if_neg a4]
  by_cases a5 : 12 < k
  · rw [if_pos a5, if_pos (Or.inr a5)]; exact t
  rw [if_neg a5, if_neg (fun z => z.elim a4 a5)]; rfl
/-- the signs that wait, the last one first -/
def WS (h : HH) : List Int32 → Prop
  | [] => True
  | v :: r => h.1 29 r.length = v ∧ WS h r
def wst : List Int32 → Nat
  | [] => 0
  | k :: _ => str k
theorem WS.k {h h' : HH} : ∀ {W : List Int32} {m : Nat}, WS h W → W.length ≤ m → (∀ j, j < m → h'.1 29 j = h.1 29 j) → WS h' W
  | [], _, _, _, _ => trivial
  | v :: r, m, w, hl, e => ⟨(e _ (by simp at hl; omega)).trans w.1, WS.k (W := r) (m := m) w.2 (by simp at hl; omega) e⟩
theorem WS.a {h : HH} : ∀ {A B : List Int32}, WS h (A ++ B) → WS h B
  | [], _, w => w
  | _ :: r, _, w => WS.a (A := r) w.2
/-- the class within an E -/
def EC (T : TKD) (p i o t : Nat) (W : List Int32) (O : List (Int32 × Int32)) (h : HH) : Prop := (cT T h ∧ h.2.2 1 = p ∧ h.1 24 4 = 0 ∧ h.1 24 3 = nI i) ∧ (h.1 24 9 = nI W.length ∧ WS h W) ∧ (h.1 24 10 = nI o ∧ h.1 24 11 = nI t) ∧ h.1 (p + 11) 2 = nI O.length ∧ ∀ j x, O[j]? = some x → h.1 (p + 12) j = x.1 ∧ h.1 (p + 13) j = x.2
/-- nothing but what an E changes in the class -/
def eS (p : Nat) (h h' : HH) : Prop := (∀ a k, ¬ (a = 24 ∧ ((3 ≤ k ∧ k ≤ 5) ∨ (9 ≤ k ∧ k ≤ 11))) → a ≠ 29 → ¬ (a = p + 11 ∧ k = 2) → a ≠ p + 12 → a ≠ p + 13 → h'.1 a k = h.1 a k) ∧ h'.2 = h.2 ∧ ∀ i : Nat, i ≤ 701 → h.1 24 3 = nI i → ∃ j : Nat, i ≤ j ∧ j ≤ 701 ∧ h'.1 24 3 = nI j
theorem eS_rf (p : Nat) (h : HH) : eS p h h := ⟨fun _ _ _ _ _ _ _ => rfl, rfl, fun i hi e => ⟨i, Nat.le_refl _, hi, e⟩⟩
theorem eS.tr {p : Nat} {a b c : HH} (x : eS p a b) (y : eS p b c) : eS p a c := ⟨fun i k q1 q2 q3 q4 q5 => (y.1 i k q1 q2 q3 q4 q5).trans (x.1 i k q1 q2 q3 q4 q5), y.2.1.trans x.2.1, fun i hi e => by
  obtain ⟨j, j1, j2, j3⟩ := x.2.2 i hi e
  obtain ⟨l, l1, l2, l3⟩ := y.2.2 j j2 j3
  exact ⟨l, by omega, l2, l3⟩⟩
theorem eS_24 (p : Nat) (h : HH) {k : Nat} (v : Int32) (h1 : (4 ≤ k ∧ k ≤ 5) ∨ (9 ≤ k ∧ k ≤ 11)) : eS p h (wrI h 24 k v) := ⟨fun a j q _ _ _ _ => by rw [wrI_1, if_neg (by omega)], rfl, fun i hi e => ⟨i, Nat.le_refl _, hi, by rw [wrI_1, if_neg (by omega)]; exact e⟩⟩
theorem eS_go (p : Nat) {h : HH} {i : Nat} (hi : i < 701) (e : h.1 24 3 = nI i) : eS p h (wrI h 24 3 (nI (i + 1))) := ⟨fun a j q _ _ _ _ => by rw [wrI_1, if_neg (by omega)], rfl, fun l hl el => ⟨i + 1, by have := (nI_eq (by omega) (by omega)).mp (e.symm.trans el); omega, by omega, wrI_at _ _ _ _⟩⟩
theorem eS_29 (p : Nat) (h : HH) (k : Nat) (v : Int32) : eS p h (wrI h 29 k v) := ⟨fun a j _ q _ _ _ => by rw [wrI_1, if_neg (by omega)], rfl, fun i hi e => ⟨i, Nat.le_refl _, hi, by rw [wrI_1, if_neg (by omega)]; exact e⟩⟩
theorem eS.K {p : Nat} {h h' : HH} (s : eS p h h') : sK p h h' := ⟨fun a k q1 q2 q3 => s.1 a k (by omega) q2 (by omega) (by omega) (by omega), by rw [s.2.1]⟩
def pOk (p : Nat) : Prop := p = 2 ∨ p = 30
theorem pOk.s (p : Nat) (hp : pOk p) : shL[p + 11]? = some (.inl 2) := by
  rcases hp with rfl | rfl
  · exact sh_13
  · exact sh_41
theorem pOk.s0 (p : Nat) (hp : pOk p) : shL[p]? = some (.inl 5) := by
  rcases hp with rfl | rfl
  · exact sh_2
  · exact sh_30
theorem x_emit {T : TKD} {p i o t : Nat} (hp : pOk p) {W : List Int32} {O : List (Int32 × Int32)} {h : HH} (c : EC T p i o t W O h) (hO : O.length < 64) (k u : Int32) :
    ∃ h', g_X6_emit k u h = some ((), h') ∧ EC T p i o t W (O ++ [(k, u)]) h' ∧ eS p h h' := by
  obtain ⟨⟨c1, c2, c3, c4⟩, ⟨c5, c6⟩, ⟨c7, c8⟩, c9, c10⟩ := c
  have hp' : p + 22 ≤ 60 ∧ (p + 13 < 24 ∨ 30 ≤ p) ∧ 2 ≤ p := by rcases hp with rfl | rfl <;> omega
  refine ⟨wrI (wrI (wrI h (p + 12) O.length k) (p + 13) O.length u) (p + 11) 2 (nI (O.length + 1)), ?_, ⟨⟨c1.k fun a j h1 h2 => by rw [wrI_1, if_neg (by omega), wrI_1, if_neg (by omega), wrI_1, if_neg (by omega)], c2, ?_, ?_⟩, ⟨?_, ?_⟩, ⟨?_, ?_⟩, ?_, ?_⟩, fun a j q1 q2 q3 q4 q5 => by rw [wrI_1, if_neg (by omega), wrI_1, if_neg (by omega), wrI_1, if_neg (by omega)], rfl, fun l hl el => ⟨l, Nat.le_refl _, hl, by rw [wrI_1, if_neg (by omega), wrI_1, if_neg (by omega), wrI_1, if_neg (by omega)]; exact el⟩⟩
  · unfold g_X6_emit
    simp only [gfI, gfR]
    rw [c3, if_pos rfl, c2, ckH_of (pOk.s0 p hp)]
    unfold g_X2_put
    simp only [gfI, pfI]
    rw [ckH_of (pOk.s p hp), c9, if_pos (show nI O.length < 64 from nI_lt (b := 64) hO (by decide)), stI_of hO (by decide), wrI_1 h, if_neg (by omega), c9, stI_of hO (by decide), wrI_1 _ (p + 11 + 2), if_neg (by omega), wrI_1 h, if_neg (by omega), c9, nI_1]
    rfl
  · rw [wrI_1, if_neg (by omega), wrI_1, if_neg (by omega), wrI_1, if_neg (by omega)]; exact c3
  · rw [wrI_1, if_neg (by omega), wrI_1, if_neg (by omega), wrI_1, if_neg (by omega)]; exact c4
  · rw [wrI_1, if_neg (by omega), wrI_1, if_neg (by omega), wrI_1, if_neg (by omega)]; exact c5
  · exact c6.k (Nat.le_refl _) fun j _ => by rw [wrI_1, if_neg (by omega), wrI_1, if_neg (by omega), wrI_1, if_neg (by omega)]
  · rw [wrI_1, if_neg (by omega), wrI_1, if_neg (by omega), wrI_1, if_neg (by omega)]; exact c7
  · rw [wrI_1, if_neg (by omega), wrI_1, if_neg (by omega), wrI_1, if_neg (by omega)]; exact c8
  · rw [wrI_at, List.length_append]; rfl
  · intro j x hx
    by_cases q : j < O.length
    · rw [List.getElem?_append_left q] at hx
      obtain ⟨a1, a2⟩ := c10 j x hx
      rw [wrI_1, if_neg (by omega), wrI_1, if_neg (by omega), wrI_1, if_neg (by omega), wrI_1, if_neg (by omega), wrI_1, if_neg (by omega), wrI_1, if_neg (by omega)]
      exact ⟨a1, a2⟩
    · have hj : j = O.length := by
        have := (List.getElem?_eq_some_iff.mp hx).1
        simp at this
        omega
      subst hj
      rw [List.getElem?_append_right (Nat.le_refl _), Nat.sub_self] at hx
      have hx' : (k, u) = x := Option.some.inj hx
      subst hx'
      rw [wrI_1, if_neg (by omega), wrI_1, if_neg (by omega), wrI_at, wrI_1, if_neg (by omega), wrI_at]
      exact ⟨rfl, rfl⟩
theorem x_wst {T : TKD} {p i o t : Nat} {W : List Int32} {O : List (Int32 × Int32)} {h : HH} (c : EC T p i o t W O h) (hW : W.length ≤ 72) : g_X6_waitingStrength h = some (nI (wst W), h) := by
  obtain ⟨_, ⟨c5, c6⟩, _⟩ := c
  unfold g_X6_waitingStrength
  simp only [gfI]
  rw [c5]
  cases W with
  | nil => rw [if_neg (show ¬ 0 < nI ([] : List Int32).length by decide)]; rfl
  | cons v r =>
    have hl : (v :: r).length = r.length + 1 := rfl
    rw [hl] at hW ⊢
    rw [if_pos (show 0 < nI (r.length + 1) from nI_lt (a := 0) (by omega) (by omega)), nI_pred, ldI_of (by omega) (by decide), c6.1, x_str, bnd_some]
    rfl
theorem x_rel_L {T : TKD} {p i o t : Nat} (hp : pOk p) {l : Nat} (hl : l ≤ 8) {B : List Int32} (hB : wst B < l) : ∀ (A : List Int32) (N : Nat) (O : List (Int32 × Int32)) (h : HH), EC T p i o t (A ++ B) O h → (∀ k ∈ A, l ≤ str k) → (A ++ B).length < N → (A ++ B).length ≤ 72 → O.length + A.length ≤ 64 →
    ∃ h', g_X6_release_L5 (nI l) N (nI (A ++ B).length) h = some ((), h') ∧ EC T p i o t B (O ++ A.map fun k => (k, 0)) h' ∧ eS p h h' := by
  intro A
  induction A with
  | nil =>
    intro N O h c hA hN h72 h64
    obtain ⟨N, rfl⟩ : ∃ N', N = N' + 1 := ⟨N - 1, by omega⟩
    refine ⟨h, ?_, by rw [List.map_nil, List.append_nil]; exact c, eS_rf p h⟩
    rw [g_X6_release_L5]
    rw [List.nil_append] at *
    by_cases q : B.length = 0
    · rw [q, if_neg (show ¬ 0 < nI 0 by decide)]
    · have := str_le
      rw [if_pos (show 0 < nI B.length from nI_lt (a := 0) (by omega) (by omega)), x_wst c h72, bnd_some, if_pos (nI_lt hB (by omega))]
  | cons v r ih =>
    intro N O h c hA hN h72 h64
    obtain ⟨N, rfl⟩ : ∃ N', N = N' + 1 := ⟨N - 1, by omega⟩
    have hl' : (v :: r ++ B).length = (r ++ B).length + 1 := rfl
    have hl2 : (v :: r).length = r.length + 1 := rfl
    rw [hl'] at hN h72
    rw [hl2] at h64
    have hv := hA v (List.mem_cons_self ..)
    have hw : wst (v :: r ++ B) = str v := rfl
    have hs6 := str_le v
    have hwc := x_wst c (by rw [hl']; exact h72)
    obtain ⟨⟨c1, c2, c3, c4⟩, ⟨c5, c6⟩, ⟨c7, c8⟩, c9, c10⟩ := c
    have c6' : h.1 29 (r ++ B).length = v ∧ WS h (r ++ B) := c6
    have hp' : p + 22 ≤ 60 ∧ (p + 13 < 24 ∨ 30 ≤ p) ∧ 2 ≤ p := by rcases hp with rfl | rfl <;> omega
    have cA : EC T p i o t (r ++ B) O (wrI h 24 9 (nI (r ++ B).length)) := ⟨⟨c1.k fun a j h1 h2 => by rw [wrI_1, if_neg (by omega)], c2, by rw [wrI_1, if_neg (by omega)]; exact c3, by rw [wrI_1, if_neg (by omega)]; exact c4⟩, ⟨wrI_at _ _ _ _, c6'.2.k (Nat.le_refl _) fun j _ => by rw [wrI_1, if_neg (by omega)]⟩, ⟨by rw [wrI_1, if_neg (by omega)]; exact c7, by rw [wrI_1, if_neg (by omega)]; exact c8⟩, by rw [wrI_1, if_neg (by omega)]; exact c9, fun j x hx => by rw [wrI_1, if_neg (by omega), wrI_1, if_neg (by omega)]; exact c10 j x hx⟩
    obtain ⟨h1, f1, f2, f3⟩ := x_emit hp cA (by omega) v 0
    obtain ⟨h2, g1, g2, g3⟩ := ih N (O ++ [(v, 0)]) h1 f2 (fun k hk => hA k (List.mem_cons_of_mem _ hk)) (by omega) (by omega) (by simp; omega)
    refine ⟨h2, ?_, by rw [List.map_cons, ← List.append_cons] at *; exact g2, ((eS_24 p h _ (by omega)).tr f3).tr g3⟩
    rw [g_X6_release_L5, hl', if_pos (show 0 < nI ((r ++ B).length + 1) from nI_lt (a := 0) (by omega) (by omega)), hwc, bnd_some, hw, if_neg (nI_nlt hv (by omega))]
    simp only [gfI, pfI, vl]
    rw [c5, hl', nI_pred, wrI_at, ldI_of (by omega) (by decide), wrI_1, if_neg (by omega), c6'.1, f1, bnd_some, pk_m1]
    exact g1
theorem x_rel {T : TKD} {p i o t : Nat} (hp : pOk p) {l : Nat} (hl : l ≤ 8) {A B : List Int32} (hB : wst B < l) {O : List (Int32 × Int32)} {h : HH} (c : EC T p i o t (A ++ B) O h) (hA : ∀ k ∈ A, l ≤ str k) (h72 : (A ++ B).length ≤ 72) (h64 : O.length + A.length ≤ 64) :
    ∃ h', g_X6_release (nI l) h = some ((), h') ∧ EC T p i o t B (O ++ A.map fun k => (k, 0)) h' ∧ eS p h h' := by
  obtain ⟨h', f1, f2, f3⟩ := x_rel_L hp hl hB A 1024 O h c hA (by omega) h72 h64
  refine ⟨h', ?_, f2, f3⟩
  unfold g_X6_release
  simp only [gfI]
  rw [c.2.1.1]
  exact f1
/-- what is let go, what stays -/
theorem w_split (l : Nat) (hl : 1 ≤ l) : ∀ W : List Int32, ∃ A B, W = A ++ B ∧ (∀ k ∈ A, l ≤ str k) ∧ wst B < l
  | [] => ⟨[], [], rfl, fun k hk => (by cases hk), hl⟩
  | v :: r => by
    by_cases q : l ≤ str v
    · obtain ⟨A, B, h1, h2, h3⟩ := w_split l hl r
      exact ⟨v :: A, B, by rw [h1]; rfl, fun k hk => by
        rcases List.mem_cons.mp hk with rfl | hk
        · exact q
        · exact h2 k hk, h3⟩
    · exact ⟨[], v :: r, rfl, fun k hk => (by cases hk), by show str v < l; omega⟩
/-- the class within an E, behind a fault -/
def FE (T : TKD) (p : Nat) (f : Int32) (q : Nat) (h : HH) : Prop := cF T f q h ∧ h.2.2 1 = p ∧ ∃ w, w ≤ 72 ∧ h.1 24 9 = nI w
theorem FE.k {T : TKD} {p : Nat} {f : Int32} {q : Nat} {h h' : HH} (c : FE T p f q h) (e : ∀ a k, (a = 24 ∧ ((3 ≤ k ∧ k ≤ 5) ∨ k = 9)) ∨ (25 ≤ a ∧ a ≤ 28) → h'.1 a k = h.1 a k) (e2 : h'.2 = h.2) : FE T p f q h' :=
  ⟨c.1.k fun a k z => e a k (by omega), by rw [e2]; exact c.2.1, by obtain ⟨w, w1, w2⟩ := c.2.2; exact ⟨w, w1, (e _ _ (by omega)).trans w2⟩⟩
theorem x_emit_F {f : Int32} {q : Nat} {T : TKD} {h : HH} (c : cF T f q h) (k u : Int32) : g_X6_emit k u h = some ((), h) := by
  unfold g_X6_emit
  simp only [gfI]
  rw [if_neg c.n]
theorem x_await_F {f : Int32} {q : Nat} {T : TKD} {h : HH} (c : cF T f q h) (k : Int32) : g_X6_await k h = some ((), h) := by
  unfold g_X6_await
  simp only [gfI]
  rw [if_neg c.n]
theorem x_rel_FL {T : TKD} {p : Nat} {f : Int32} {q : Nat} (l : Int32) : ∀ (w N : Nat) (h : HH), cF T f q h → h.2.2 1 = p → h.1 24 9 = nI w → w ≤ 72 → w < N → ∃ h', g_X6_release_L5 l N (nI w) h = some ((), h') ∧ FE T p f q h' ∧ eS p h h' := by
  intro w
  induction w with
  | zero =>
    intro N h c e2 e hw hN
    obtain ⟨N, rfl⟩ : ∃ N', N = N' + 1 := ⟨N - 1, by omega⟩
    exact ⟨h, by rw [g_X6_release_L5, if_neg (show ¬ 0 < nI 0 by decide)], ⟨c, e2, 0, by omega, e⟩, eS_rf p h⟩
  | succ w ih =>
    intro N h c e2 e hw hN
    obtain ⟨N, rfl⟩ : ∃ N', N = N' + 1 := ⟨N - 1, by omega⟩
    have ws : g_X6_waitingStrength h = some (nI (str (h.1 29 w)), h) := by
      unfold g_X6_waitingStrength
      simp only [gfI]
      rw [e, if_pos (show 0 < nI (w + 1) from nI_lt (a := 0) (by omega) (by omega)), nI_pred, ldI_of (by omega) (by decide), x_str, bnd_some]
    have c' : cF T f q (wrI h 24 9 (nI w)) := c.k fun a k z => by rw [wrI_1, if_neg (by omega)]
    rw [g_X6_release_L5, if_pos (show 0 < nI (w + 1) from nI_lt (a := 0) (by omega) (by omega)), ws, bnd_some]
    by_cases z : nI (str (h.1 29 w)) < l
    · exact ⟨h, by rw [if_pos z], ⟨c, e2, w + 1, hw, e⟩, eS_rf p h⟩
    · obtain ⟨h', f1, f2, f3⟩ := ih N (wrI h 24 9 (nI w)) c' e2 (wrI_at _ _ _ _) (by omega) (by omega)
      refine ⟨h', ?_, f2, (eS_24 p h _ (by omega)).tr f3⟩
      rw [if_neg z]
      simp only [gfI, pfI, vl]
      rw [e, nI_pred, wrI_at, ldI_of (by omega) (by decide), x_emit_F c', bnd_some, pk_m1]
      exact f1
theorem x_rel_F {T : TKD} {p : Nat} {f : Int32} {q : Nat} {h : HH} (c : FE T p f q h) (l : Int32) : ∃ h', g_X6_release l h = some ((), h') ∧ FE T p f q h' ∧ eS p h h' := by
  obtain ⟨c1, c2, w, w1, w2⟩ := c
  obtain ⟨h', f1, f2, f3⟩ := x_rel_FL (p := p) l w 1024 h c1 c2 w2 w1 (by omega)
  refine ⟨h', ?_, f2, f3⟩
  unfold g_X6_release
  simp only [gfI]
  rw [w2]
  exact f1
theorem x_knot {T : TKD} (w : TKok T) {p i o t : Nat} (hp : pOk p) (hi : i < tL T) {W : List Int32} {O : List (Int32 × Int32)} {h : HH} (c : EC T p i o t W O h) (ht : t < 64) : ∃ h', g_X6_takeKnot h = some ((), h') ∧ EC T p (i + 1) o (t + 1) W O h' ∧ eS p h h' := by
  obtain ⟨⟨c1, c2, c3, c4⟩, ⟨c5, c6⟩, ⟨c7, c8⟩, c9, c10⟩ := c
  have hp' : p + 22 ≤ 60 ∧ (p + 13 < 24 ∨ 30 ≤ p) ∧ 2 ≤ p := by rcases hp with rfl | rfl <;> omega
  refine ⟨wrI (wrI h 24 11 (nI (t + 1))) 24 3 (nI (i + 1)), ?_, ⟨⟨c1.k fun a j h1 h2 => by rw [wrI_1, if_neg (by omega), wrI_1, if_neg (by omega)], c2, by rw [wrI_1, if_neg (by omega), wrI_1, if_neg (by omega)]; exact c3, wrI_at _ _ _ _⟩, ⟨by rw [wrI_1, if_neg (by omega), wrI_1, if_neg (by omega)]; exact c5, c6.k (Nat.le_refl _) fun j _ => by rw [wrI_1, if_neg (by omega), wrI_1, if_neg (by omega)]⟩, ⟨by rw [wrI_1, if_neg (by omega), wrI_1, if_neg (by omega)]; exact c7, by rw [wrI_1, if_neg (by omega), wrI_at]⟩, by rw [wrI_1, if_neg (by omega), wrI_1, if_neg (by omega)]; exact c9, fun j x hx => by rw [wrI_1, if_neg (by omega), wrI_1, if_neg (by omega), wrI_1, if_neg (by omega), wrI_1, if_neg (by omega)]; exact c10 j x hx⟩, (eS_24 p h _ (by omega)).tr (eS_go p (by have := w.2.1; omega) (by rw [wrI_1, if_neg (by omega)]; exact c4))⟩
  unfold g_X6_takeKnot
  simp only [gfI, pfI, jn]
  rw [c8, if_pos (show nI t < 64 from nI_lt (b := 64) ht (by decide)), nI_1, x6_adv w (c1.k fun a j h1 h2 => by rw [wrI_1, if_neg (by omega)]) hi (by rw [wrI_1, if_neg (by omega)]; exact c4), bnd_some]
theorem x_knot64 {T : TKD} (w : TKok T) {p i o : Nat} (hi : i < tL T) {W : List Int32} (hW : W.length ≤ 72) {O : List (Int32 × Int32)} {h : HH} (c : EC T p i o 64 W O h) : ∃ h', g_X6_takeKnot h = some ((), h') ∧ FE T p 2 (tPl T i) h' ∧ eS p h h' := by
  obtain ⟨⟨c1, c2, c3, c4⟩, ⟨c5, c6⟩, ⟨c7, c8⟩, c9, c10⟩ := c
  have f := x6_fail w c1 hi c4 2 c3
  refine ⟨wrI (wrI (wrI (wrI h 24 4 2) 24 5 (nI (tPl T i))) 24 11 (h.1 24 11 + 1)) 24 3 (nI (i + 1)), ?_, ⟨⟨c1.k fun a j h1 h2 => by rw [wrI_1, if_neg (by omega), wrI_1, if_neg (by omega), wrI_1, if_neg (by omega), wrI_1, if_neg (by omega)], by decide, by rw [wrI_1, if_neg (by omega), wrI_1, if_neg (by omega), wrI_1, if_neg (by omega), wrI_at], by rw [wrI_1, if_neg (by omega), wrI_1, if_neg (by omega), wrI_at], i + 1, by omega, wrI_at _ _ _ _⟩, c2, W.length, hW, by rw [wrI_1, if_neg (by omega), wrI_1, if_neg (by omega), wrI_1, if_neg (by omega), wrI_1, if_neg (by omega)]; exact c5⟩, (((eS_24 p h _ (by omega)).tr (eS_24 p _ _ (by omega))).tr (eS_24 p _ _ (by omega))).tr (eS_go p (by have := w.2.1; omega) (by rw [wrI_1, if_neg (by omega), wrI_1, if_neg (by omega), wrI_1, if_neg (by omega)]; exact c4))⟩
  unfold g_X6_takeKnot
  simp only [gfI, pfI, jn]
  rw [c8, if_neg (show ¬ nI 64 < 64 by decide), f, bnd_some, x6_adv w (i := i) (c1.k fun a j h1 h2 => by rw [wrI_1, if_neg (by omega), wrI_1, if_neg (by omega), wrI_1, if_neg (by omega)]) hi (by rw [wrI_1, if_neg (by omega), wrI_1, if_neg (by omega), wrI_1, if_neg (by omega)]; exact c4), bnd_some, wrI_1 _ 24 5 _ 24 11, if_neg (by omega), wrI_1 _ 24 4 _ 24 11, if_neg (by omega), c8]
theorem x_knot_F {T : TKD} (w : TKok T) {p : Nat} {f : Int32} {q : Nat} {h : HH} (c : FE T p f q h) : ∃ h', g_X6_takeKnot h = some ((), h') ∧ FE T p f q h' ∧ eS p h h' := by
  obtain ⟨c1, c2, w0, w1, w2⟩ := c
  have cc : cF T f q (wrI h 24 11 (h.1 24 11 + 1)) := c1.k fun a k z => by rw [wrI_1, if_neg (by omega)]
  have body : ∃ h', g_X6_advance (wrI h 24 11 (h.1 24 11 + 1)) = some ((), h') ∧ FE T p f q h' ∧ eS p h h' := by
    have := w.2.1
    obtain ⟨d1, d2, d3, d4, i, d5, d6⟩ := cc
    by_cases z : i < tL T
    · exact ⟨_, x6_adv w d1 z d6, ⟨⟨d1.k fun a k h1 h2 => by rw [wrI_1, if_neg (by omega)], d2, by rw [wrI_1, if_neg (by omega)]; exact d3, by rw [wrI_1, if_neg (by omega)]; exact d4, i + 1, by omega, wrI_at _ _ _ _⟩, c2, w0, w1, by rw [wrI_1, if_neg (by omega), wrI_1, if_neg (by omega)]; exact w2⟩, (eS_24 p h _ (by omega)).tr (eS_go p (by omega) d6)⟩
    · refine ⟨wrI h 24 11 (h.1 24 11 + 1), ?_, ⟨⟨d1, d2, d3, d4, i, d5, d6⟩, c2, w0, w1, by rw [wrI_1, if_neg (by omega)]; exact w2⟩, eS_24 p h _ (by omega)⟩
      unfold g_X6_advance
      simp only [gfI]
      rw [d6, d1.1, if_neg (nI_nlt (by omega) (by omega))]
  obtain ⟨h', b1, b2, b3⟩ := body
  refine ⟨h', ?_, b2, b3⟩
  unfold g_X6_takeKnot
  simp only [gfI, pfI, jn]
  split
  · rw [b1]; rfl
  · rw [x6_failF _ c1.n, bnd_some, b1]; rfl
theorem x_await {T : TKD} {p i o t : Nat} (hp : pOk p) {W : List Int32} {O : List (Int32 × Int32)} {h : HH} (c : EC T p i o t W O h) (hW : W.length < 72) (k : Int32) : ∃ h', g_X6_await k h = some ((), h') ∧ EC T p i o t (k :: W) O h' ∧ eS p h h' := by
  obtain ⟨⟨c1, c2, c3, c4⟩, ⟨c5, c6⟩, ⟨c7, c8⟩, c9, c10⟩ := c
  have hp' : p + 22 ≤ 60 ∧ (p + 13 < 24 ∨ 30 ≤ p) ∧ 2 ≤ p := by rcases hp with rfl | rfl <;> omega
  refine ⟨wrI (wrI h 29 W.length k) 24 9 (nI (W.length + 1)), ?_, ⟨⟨c1.k fun a j h1 h2 => by rw [wrI_1, if_neg (by omega), wrI_1, if_neg (by omega)], c2, by rw [wrI_1, if_neg (by omega), wrI_1, if_neg (by omega)]; exact c3, by rw [wrI_1, if_neg (by omega), wrI_1, if_neg (by omega)]; exact c4⟩, ⟨wrI_at _ _ _ _, by rw [wrI_1, if_neg (by omega), wrI_at], c6.k (Nat.le_refl _) fun j hj => by rw [wrI_1, if_neg (by omega), wrI_1, if_neg (by omega)]⟩, ⟨by rw [wrI_1, if_neg (by omega), wrI_1, if_neg (by omega)]; exact c7, by rw [wrI_1, if_neg (by omega), wrI_1, if_neg (by omega)]; exact c8⟩, by rw [wrI_1, if_neg (by omega), wrI_1, if_neg (by omega)]; exact c9, fun j x hx => by rw [wrI_1, if_neg (by omega), wrI_1, if_neg (by omega), wrI_1, if_neg (by omega), wrI_1, if_neg (by omega)]; exact c10 j x hx⟩, (eS_29 p h _ _).tr (eS_24 p _ _ (by omega))⟩
  unfold g_X6_await
  simp only [gfI, pfI]
  rw [c3, if_pos rfl, c5, if_pos (show nI W.length < 72 from nI_lt (b := 72) hW (by decide)), stI_of hW (by decide), wrI_1 h 29, if_neg (by omega), c5, nI_1]
