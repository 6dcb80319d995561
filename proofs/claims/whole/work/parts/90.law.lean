/-! a line that tells a law -/
theorem dpS_dpl (kd : Nat → Int32) : ∀ (X : List (Int32 × Int32)) (s d : Nat), (∀ j x, X[j]? = some x → kd (s + j) = x.1) → dpS kd X.length s d = dpl X d
  | [], s, d, _ => rfl
  | x :: r, s, d, h => by
    have h0 : kd s = x.1 := h 0 x rfl
    have ih := fun d' => dpS_dpl kd r (s + 1) d' fun j y hy => by
      rw [show s + 1 + j = s + (j + 1) by omega]
      exact h (j + 1) y hy
    show dpS kd (r.length + 1) s d = _
    unfold dpS dpl
    rw [h0, ih, ih, ih]
theorem sg_n : ∀ q, q ∈ sgL → q.1 = nI (q.1).toNatClampNeg ∧ (q.1).toNatClampNeg ≤ 16 := by decide +kernel
/-- every kind is a small number -/
theorem kd_nat {k v s u : Int32} (h : sv k v s u) : ∃ m : Nat, m ≤ 40 ∧ k = nI m ∧ ((∃ q, q < 3 ∧ m = 28 + q) ↔ (s = 0 ∧ ∃ q, q < 3 ∧ u = nI (11 + q))) ∧ ∀ q, q < 3 → m = 28 + q → u = nI (11 + q) := by
  rcases h with ⟨rfl, rfl⟩ | ⟨rfl, rfl⟩ | ⟨rfl, rfl, _⟩ | ⟨rfl, rfl, _⟩ | ⟨j, hj, rfl, rfl, rfl⟩ | ⟨q, hq, rfl, rfl, rfl⟩
  · exact ⟨0, by omega, rfl, ⟨fun ⟨q, _, z⟩ => by omega, fun z => absurd z.1 (by decide)⟩, fun q _ z => by omega⟩
  · exact ⟨1, by omega, rfl, ⟨fun ⟨q, _, z⟩ => by omega, fun z => absurd z.1 (by decide)⟩, fun q _ z => by omega⟩
  · exact ⟨2, by omega, rfl, ⟨fun ⟨q, _, z⟩ => by omega, fun z => absurd z.1 (by decide)⟩, fun q _ z => by omega⟩
  · exact ⟨3, by omega, rfl, ⟨fun ⟨q, _, z⟩ => by omega, fun z => absurd z.1 (by decide)⟩, fun q _ z => by omega⟩
  · have hw := w_lt hj
    have key : ∀ q, q < 3 → (17 + sW j = 28 + q ↔ j = 11 + q) := by
      intro q hq
      have e2 := (sW_f j hj).2.1
      constructor
      · intro z
        have : sW j = 11 + q := by omega
        have hs : sW (11 + q) = 11 + q := by unfold sW; rw [if_neg (by omega), if_neg (by omega)]
        rw [this, hs] at e2
        omega
      · intro z
        have hs : sW j = j := by unfold sW; rw [if_neg (by omega), if_neg (by omega)]
        omega
    refine ⟨17 + sW j, by omega, rfl, ⟨fun ⟨q, h1, h2⟩ => ⟨rfl, q, h1, by rw [(key q h1).mp h2]⟩, fun ⟨_, q, h1, h2⟩ => ⟨q, h1, (key q h1).mpr ((nI_eq (by omega) (by omega)).mp h2)⟩⟩, fun q h1 h2 => by rw [(key q h1).mp h2]⟩
  · obtain ⟨q1, q2⟩ := sg_n q hq
    exact ⟨_, by omega, q1, ⟨fun ⟨x, _, z⟩ => by omega, fun z => absurd z.1 (by decide)⟩, fun x _ z => by omega⟩
/-- readLaw, where no law's word stands -/
theorem law_bad {T : TKD} (w : TKok T) {h : HH} (c : cT T h) {i m : Nat} (hi : i + 1 < tL T) (e : h.1 24 3 = nI i) (e0 : h.1 24 4 = 0) (hm : m ≤ 40) (hk : tK T (i + 1) = nI m) (hn : ¬ ∃ q, q < 3 ∧ m = 28 + q) (p : Nat) : ∃ h', g_X6_readLaw h = some ((), h') ∧ cF T 1 (tPl T (i + 1)) h' ∧ sK p h h' := by
  have c1 : cT T (wrI h 24 3 (nI (i + 1))) := c.k fun a k h1 h2 => by rw [wrI_1, if_neg (by omega)]
  obtain ⟨h1, f1, f2, f3⟩ := x6_failT w c1 hi (wrI_at _ _ _ _) 1 (by rw [wrI_1, if_neg (by omega)]; exact e0) (by decide) p
  refine ⟨h1, ?_, f2, (sK_24 p h _ (by omega) (by omega)).tr f3⟩
  unfold g_X6_readLaw
  rw [x6_adv w c (by omega) e, bnd_some, x6_kind w c1 hi (wrI_at _ _ _ _), bnd_some, hk]
  simp only [vl, jn]
  rw [show (28 : Int32) = nI 28 from rfl]
  by_cases z : m < 28
  · rw [if_pos (pk_sneg (by decide) z), f1, bnd_some]
  · rw [pk_sub (by omega), if_neg (nI_pos (by omega)), if_neg (show ¬ nI (m - 28) < 3 from nI_nlt (b := 3) (by
      apply Classical.byContradiction
      intro y
      exact hn ⟨m - 28, by omega, by omega⟩) (by omega)), f1, bnd_some]
/-- readLaw, where the law was told already -/
theorem law_had {T : TKD} (w : TKok T) {p : Nat} (hp : pOk p) {h : HH} (c : cT T h) (e1 : h.2.2 1 = p) {i q s e : Nat} (hi : i + 1 < tL T) (e3 : h.1 24 3 = nI i) (e0 : h.1 24 4 = 0) (hq : q < 3) (hk : tK T (i + 1) = nI (28 + q)) (hs : h.1 (p + 14) q = nI s) (he : h.1 (p + 15) q = nI e) (h64 : e ≤ 64) (hlt : s < e) : ∃ h', g_X6_readLaw h = some ((), h') ∧ cF T 3 (tPl T (i + 1)) h' ∧ sK p h h' := by
  have hp' : p + 22 ≤ 60 ∧ (p + 22 ≤ 24 ∨ 30 ≤ p) ∧ 2 ≤ p := by rcases hp with rfl | rfl <;> omega
  have c1 : cT T (wrI h 24 3 (nI (i + 1))) := c.k fun a k h1 h2 => by rw [wrI_1, if_neg (by omega)]
  obtain ⟨h1, f1, f2, f3⟩ := x6_failT w c1 hi (wrI_at _ _ _ _) 3 (by rw [wrI_1, if_neg (by omega)]; exact e0) (by decide) p
  refine ⟨h1, ?_, f2, (sK_24 p h _ (by omega) (by omega)).tr f3⟩
  have hl : g_X2_hasLaw (p + 11) (nI q) (wrI h 24 3 (nI (i + 1))) = some (1, wrI h 24 3 (nI (i + 1))) := by
    unfold g_X2_hasLaw
    rw [ckH_of (pOk.s p hp), ldI_of hq (by decide), ldI_of hq (by decide), show (wrI h 24 3 (nI (i + 1))).1 (p + 11 + 4) q = nI e by rw [wrI_1, if_neg (by omega)]; exact he, show (wrI h 24 3 (nI (i + 1))).1 (p + 11 + 3) q = nI s by rw [wrI_1, if_neg (by omega)]; exact hs, if_pos (nI_lt hlt (by omega))]
  unfold g_X6_readLaw
  rw [x6_adv w c (by omega) e3, bnd_some, x6_kind w c1 hi (wrI_at _ _ _ _), bnd_some, hk]
  simp only [vl, jn, gfR]
  rw [show (28 : Int32) = nI 28 from rfl, pk_sub (by omega), show 28 + q - 28 = q by omega, if_neg (nI_pos (by omega)), if_pos (show nI q < 3 from nI_lt (b := 3) hq (by decide)), show (wrI h 24 3 (nI (i + 1))).2.2 1 = p from e1, ckH_of (pOk.s0 p hp), hl, bnd_some, if_neg (by decide), f1, bnd_some]
/-- readLaw, where the law's E begins -/
theorem law_go {T : TKD} (w : TKok T) {p : Nat} (hp : pOk p) {h : HH} (c : cT T h) (e1 : h.2.2 1 = p) {i q s e : Nat} (hi : i + 1 < tL T) (e3 : h.1 24 3 = nI i) (hq : q < 3) (hk : tK T (i + 1) = nI (28 + q)) (hs : h.1 (p + 14) q = nI s) (he : h.1 (p + 15) q = nI e) (h64 : s ≤ 64) (hlt : ¬ s < e) :
    g_X6_readLaw h = bnd (g_X6_readE (wrI (wrI (wrI h 24 3 (nI (i + 1))) 24 3 (nI (i + 1 + 1))) (p + 14) q (h.1 (p + 11) 2))) fun _ h20 => gfR h20 1 fun p22 => ckH p22 (.inl 5) (stI h20 (p22 + 15) 3 (nI q) (h20.1 (p22 + 11) 2) fun h25 => some ((), h25)) := by
  have hp' : p + 22 ≤ 60 ∧ (p + 22 ≤ 24 ∨ 30 ≤ p) ∧ 2 ≤ p := by rcases hp with rfl | rfl <;> omega
  have c1 : cT T (wrI h 24 3 (nI (i + 1))) := c.k fun a k h1 h2 => by rw [wrI_1, if_neg (by omega)]
  have hl : g_X2_hasLaw (p + 11) (nI q) (wrI h 24 3 (nI (i + 1))) = some (0, wrI h 24 3 (nI (i + 1))) := by
    unfold g_X2_hasLaw
    rw [ckH_of (pOk.s p hp), ldI_of hq (by decide), ldI_of hq (by decide), show (wrI h 24 3 (nI (i + 1))).1 (p + 11 + 4) q = nI e by rw [wrI_1, if_neg (by omega)]; exact he, show (wrI h 24 3 (nI (i + 1))).1 (p + 11 + 3) q = nI s by rw [wrI_1, if_neg (by omega)]; exact hs, if_neg (nI_nlt (by omega) (by omega))]
  unfold g_X6_readLaw
  rw [x6_adv w c (by omega) e3, bnd_some, x6_kind w c1 hi (wrI_at _ _ _ _), bnd_some, hk]
  simp only [vl, jn, gfR, gfI]
  rw [show (28 : Int32) = nI 28 from rfl, pk_sub (by omega), show 28 + q - 28 = q by omega, if_neg (nI_pos (by omega)), if_pos (show nI q < 3 from nI_lt (b := 3) hq (by decide)), show (wrI h 24 3 (nI (i + 1))).2.2 1 = p from e1, ckH_of (pOk.s0 p hp), hl, bnd_some, if_pos rfl, x6_adv w c1 hi (wrI_at _ _ _ _), bnd_some, show (wrI (wrI h 24 3 (nI (i + 1))) 24 3 (nI (i + 1 + 1))).2.2 1 = p from e1, ckH_of (pOk.s0 p hp), ckH_of (pOk.s0 p hp), stI_of hq (by decide), wrI_1 _ 24 3 _ (p + 11) 2, if_neg (by omega), wrI_1 _ 24 3 _ (p + 11) 2, if_neg (by omega)]
  congr 1
  funext _ h20
  show (ckH (h20.2.2 1) (.inl 5) (ckH (h20.2.2 1) (.inl 5) (stI h20 (h20.2.2 1 + 15) 3 (nI q) (h20.1 (h20.2.2 1 + 11) 2) fun h25 => some ((), h25)))) = _
  unfold ckH
  split <;> rfl
theorem frl6 (h : HH) : g_X11_fresher 6 h = some (h.1 257 13, h) := fr_of (w := 6) (by decide)
/-- lawLine, where no law's word stands -/
theorem rlaw_bad {T : TKD} {j : Nat} {h : HH} (r : rA T j h) (hn : ¬ (h.1 255 25 = 0 ∧ ∃ q, q < 3 ∧ h.1 255 26 = nI (11 + q))) (hv : h.1 255 25 = 0 → ∃ m : Nat, m ≤ 40 ∧ h.1 255 26 = nI m) : ∃ h', g_X11_lawLine h = some ((), h') ∧ rF 1 (tPl T j) h' ∧ eR h h' := by
  obtain ⟨r1, v1, v2, v3⟩ := rF.e r 1 (by decide)
  refine ⟨r1, ?_, v2, v3⟩
  unfold g_X11_lawLine
  simp only [gfI, jn, vl]
  by_cases z : h.1 255 25 = 0
  · obtain ⟨m, m1, m2⟩ := hv z
    rw [if_pos z, m2]
    by_cases y : m < 11
    · rw [if_pos (show nI m < 11 from nI_lt (b := 11) y (by decide)), v1, bnd_some, if_neg v2.n, if_neg v2.n]
    · rw [if_neg (show ¬ nI m < 11 from nI_nlt (b := 11) (by omega) (by omega)), if_pos (show 13 < nI m from nI_lt (a := 13) (by
        apply Classical.byContradiction
        intro x
        exact hn ⟨z, m - 11, by omega, by rw [m2]; congr 1; omega⟩) (by omega)), v1, bnd_some, if_neg v2.n, if_neg v2.n]
  · rw [if_neg z, v1, bnd_some, if_neg v2.n, if_neg v2.n]
/-- lawLine, where a law's word stands -/
theorem rlaw_word {T : TKD} {j q b : Nat} {h : HH} (r : rA T j h) (hs : h.1 255 25 = 0) (hq : q < 3) (hv : h.1 255 26 = nI (11 + q)) (hb : h.1 255 20 = nI b) (hb1 : b < 2 ^ 20) :
    g_X11_lawLine h = if b.testBit (16 + q) = true then (bnd (g_X11_wrong (3 : Int32) h) fun _ h10 => if h10.1 255 27 = 0 then (pfI h10 255 20 (h10.1 255 20 ||| ((1 : Int32) <<< (nI (16 + q) &&& 31))) fun h13 => bnd (g_X11_token h13) fun _ h14 => bnd (g_X11_fresher (6 : Int32) h14) fun r17 h16 => stI h16 270 6 (nI (3 + q)) r17 fun h18 => bnd (rG 200 0 h18) fun _ h19 => bnd (g_X11_fresher (6 : Int32) h19) fun r22 h21 => stI h21 271 6 (nI (3 + q)) r22 fun h23 => some ((), h23)) else some ((), h10)) else (pfI h 255 20 (nI (b ||| 2 ^ (16 + q))) fun h13 => bnd (g_X11_token h13) fun _ h14 => bnd (g_X11_fresher (6 : Int32) h14) fun r17 h16 => stI h16 270 6 (nI (3 + q)) r17 fun h18 => bnd (rG 200 0 h18) fun _ h19 => bnd (g_X11_fresher (6 : Int32) h19) fun r22 h21 => stI h21 271 6 (nI (3 + q)) r22 fun h23 => some ((), h23)) := by
  obtain ⟨R0, hR0⟩ : ∃ R0 : Nat, R0 = 200 := ⟨_, rfl⟩
  unfold g_X11_lawLine
  rw [← hR0]
  simp only [gfI, jn, vl]
  have tb := td_bit hb1 (w := 16 + q) (by omega)
  rw [if_pos hs, hv, if_neg (show ¬ nI (11 + q) < 11 from nI_nlt (b := 11) (by omega) (by omega)), if_neg (show ¬ 13 < nI (11 + q) from nI_nlt (a := 13) (by omega) (by decide)), r.2.2.2.2, if_pos rfl, show nI (11 + q) - 11 = nI q from by rw [show (11 : Int32) = nI 11 from rfl, pk_sub (by omega)]; congr 1; omega, show (16 : Int32) + nI q = nI (16 + q) from nI_add 16 q, show (3 : Int32) + nI q = nI (3 + q) from nI_add 3 q, hb]
  by_cases z : b.testBit (16 + q) = true
  · rw [if_pos (by rw [tb]; exact z), if_pos z]
  · rw [if_neg (by rw [tb]; exact z), if_neg z, if_pos rfl, td_set (by omega)]
