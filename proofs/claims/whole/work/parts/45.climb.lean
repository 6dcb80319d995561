/-! the reference: how steep, who climbs -/
def mAt (h : HH) (s : Nat) (P S : TB) (fo : Nat → Int32) (nf np nl ng : Nat) : Prop := MP h P nf np nl ng ∧ MS h s S np ∧ MF h fo np ∧ lwOkA P ∧ s < 23 ∧ nf ≤ 6 ∧ np ≤ 6
section RS
variable {h h' : HH} {P S : TB} {fo : Nat → Int32} {nf np nl ng s : Nat}
theorem mAt.mv (c : mAt h s P S fo nf np nl ng) (e : scM h h') : mAt h' s P S fo nf np nl ng := ⟨c.1.M e.n, c.2.1.M e.n, c.2.2.1.M e, c.2.2.2⟩
theorem i32_as (a b c : Int32) : a + b - c = a + (b - c) := by rw [Int32.sub_eq_add_neg, Int32.sub_eq_add_neg, Int32.add_assoc]
theorem ldL_0 {β : Type} {h : HH} {a n : Nat} (hk : 0 < n) (hn : n < 2 ^ 31) (K : Int64 → Option β) : ldL h a n (0 : Int32) K = K (h.2.1 a 0) := ldL_of (k := 0) hk hn K
theorem r_within (c : mAt h s P S fo nf np nl ng) {r a f : Nat} (hr : r < 3) (lo mo plain less : Int32) (h0 : h.2.1 274 0 = (S 5 (6 * a + f) - less).toInt64) (hn : ∀ j, 1 ≤ j → j < 7 → h.2.1 274 j = (nmA P S fo np a f (nI (34 + j))).toInt64) :
    ∃ h', scM h h' ∧ g_X11_within (nI r) lo mo plain h = some (if lwA P S fo np r a f less = eM then plain else Int64.toInt32 (mxL lo.toInt64 (mnL mo.toInt64 (lwA P S fo np r a f less))), h') := by
  obtain ⟨q1, q2, q3⟩ := r_goes c.1 c.2.2.2.1 hr less h0 hn
  unfold g_X11_within
  rw [q1, bnd_some]
  by_cases k : (P 14 r).toNatClampNeg < (P 15 r).toNatClampNeg
  · obtain ⟨h1, s1, e1, v1⟩ := q3 k
    rw [if_pos k, if_neg (by decide), e1, bnd_some]
    refine ⟨h1, s1.M, ?_⟩
    by_cases k2 : lwA P S fo np r a f less = eM
    · rw [if_pos k2, if_pos k2, if_pos rfl]
    · rw [if_neg k2, if_neg k2, if_neg (by decide), ldL_0 (by decide) (by decide), v1 k2]
  · rw [if_neg k, if_pos rfl, if_pos (q2 k)]
    exact ⟨h, scM_rf h, rfl⟩
theorem r_steepWith (c : mAt h s P S fo nf np nl ng) {a f : Nat} (ha : a < np) (hf : f < nf) (less : Int32) : ∃ h', scM h h' ∧ mAt h' s P S fo nf np nl ng ∧ g_X11_steepWith (nI s) (nI a) (nI f) (S 5 (6 * a + f) - less) h = some (stA P S fo np a f less, h') := by
  obtain ⟨m, k, mf, wl, hs, hnf, hnp⟩ := id c
  obtain ⟨h1, s1, e1, z1, z2⟩ := r_calls m k mf hs hnf hnp ha hf
  unfold g_X11_steepWith
  rw [e1, bnd_some, stL_0 (by decide) (by decide), ldI_of (by omega) (by decide), wrL_1, (c.mv s1).1.2.2.2.2.2.1 f hf]
  have s2 := s1.tr (scM_L h1 0 (S 5 (6 * a + f) - less).toInt64)
  obtain ⟨h3, s3, e3⟩ := r_within (c.mv s2) (r := 0) (a := a) (f := f) (by decide) (-99) 999 (S 5 (6 * a + f) - less) less (wrL_s _ _ _) (fun j j1 j7 => by rw [wrL_o _ _ _ _ (by omega)]; exact z2 j j1 j7)
  have e3' : g_X11_within 0 (-99) 999 (S 5 (6 * a + f) - less) (wrL h1 274 0 (S 5 (6 * a + f) - less).toInt64) = _ := e3
  rw [e3', bnd_some]
  refine ⟨h3, s2.tr s3, c.mv (s2.tr s3), ?_⟩
  unfold stA
  by_cases k2 : lwA P S fo np 0 a f less = eM
  · rw [if_pos k2, if_pos k2, i32_as]
  · rw [if_neg k2, if_neg k2]
    rfl
theorem r_steepOf (c : mAt h s P S fo nf np nl ng) {a f : Nat} (ha : a < np) (hf : f < nf) : ∃ h', scM h h' ∧ mAt h' s P S fo nf np nl ng ∧ g_X11_steepOf (nI s) (nI a) (nI f) h = some (stA P S fo np a f 0, h') := by
  obtain ⟨m, k, mf, wl, hs, hnf, hnp⟩ := id c
  obtain ⟨h1, s1, c1, e1⟩ := r_steepWith c ha hf 0
  rw [Int32.sub_zero] at e1
  refine ⟨h1, s1, c1, ?_⟩
  unfold g_X11_steepOf
  rw [r_tally k hs (by omega) (by omega), bnd_some, e1, bnd_some]
theorem r_canClimb (c : mAt h s P S fo nf np nl ng) {a f : Nat} (ha : a < np) (hf : f < nf) : ∃ h', scM h h' ∧ mAt h' s P S fo nf np nl ng ∧ g_X11_canClimb (nI s) (nI a) (nI f) h = some (if fo a < stA P S fo np a f 0 ∨ lwA P S fo np 2 a f 0 = 0 then 0 else 1, h') := by
  obtain ⟨h1, s1, c1, e1⟩ := r_steepOf c ha hf
  unfold g_X11_canClimb
  rw [e1, bnd_some, r_force c1.2.2.1 c1.2.2.2.2.2.2 ha, bnd_some]
  by_cases k : fo a < stA P S fo np a f 0
  · have d1 : fo a < stA P S fo np a f 0 ∨ lwA P S fo np 2 a f 0 = 0 := Or.inl k
    rw [if_pos k, if_pos d1]
    exact ⟨h1, s1, c1, rfl⟩
  rw [if_neg k]
  obtain ⟨m, k1, mf, wl, hs, hnf, hnp⟩ := id c1
  obtain ⟨h2, s2, e2, z1, z2⟩ := r_calls m k1 mf hs hnf hnp ha hf
  have c2 := c1.mv s2
  obtain ⟨q1, q2, q3⟩ := r_goes (h := h2) (a := a) (f := f) (S := S) (fo := fo) c2.1 wl (r := 2) (by decide) 0 (by rw [Int32.sub_zero]; exact z1) z2
  have q1' : g_X11_hasLaw 2 h2 = _ := q1
  rw [e2, bnd_some, q1', bnd_some]
  by_cases kl : (P 14 2).toNatClampNeg < (P 15 2).toNatClampNeg
  · obtain ⟨h3, s3, e3, v3⟩ := q3 kl
    have e3' : g_X11_goes 2 h2 = _ := e3
    rw [if_pos kl, if_neg (by decide), e3', bnd_some]
    refine ⟨h3, (s1.tr s2).tr s3.M, c2.mv s3.M, ?_⟩
    by_cases k2 : lwA P S fo np 2 a f 0 = eM
    · have d1 : ¬ (fo a < stA P S fo np a f 0 ∨ lwA P S fo np 2 a f 0 = 0) := by rw [k2]; simp [k]
      rw [if_pos k2, if_pos rfl, if_neg d1]
    · rw [if_neg k2, if_neg (by decide), ldL_0 (by decide) (by decide), v3 k2]
      by_cases k3 : lwA P S fo np 2 a f 0 = 0
      · have d1 : fo a < stA P S fo np a f 0 ∨ lwA P S fo np 2 a f 0 = 0 := Or.inr k3
        rw [if_pos (by rw [lc_eq]; exact k3), if_pos d1]
      · have d1 : ¬ (fo a < stA P S fo np a f 0 ∨ lwA P S fo np 2 a f 0 = 0) := by simp [k, k3]
        rw [if_neg (show ¬ lg_cmp (lwA P S fo np 2 a f 0) 0 = 0 by rw [lc_eq]; exact k3), if_neg d1]
  · have d1 : ¬ (fo a < stA P S fo np a f 0 ∨ lwA P S fo np 2 a f 0 = 0) := by rw [q2 kl]; simp [k]
    rw [if_neg kl, if_pos rfl, if_neg d1]
    exact ⟨h2, s1.tr s2, c2, rfl⟩
end RS
