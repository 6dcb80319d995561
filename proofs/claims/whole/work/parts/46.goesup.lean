/-! the reference: one flight up -/
def inH (s a k : Nat) : Prop := ((a = 276 ∨ a = 277) ∧ k = s) ∨ ((278 ≤ a ∧ a ≤ 281) ∧ 6 * s ≤ k ∧ k < 6 * s + 6) ∨ (a = 282 ∧ 36 * s ≤ k ∧ k < 36 * s + 36)
/-- nothing but the house s, and what the reference works an E out with -/
def scH (s : Nat) (h h' : HH) : Prop := (∀ a k, ¬ inH s a k → ¬ (a = 255 ∧ k = 35) → h'.1 a k = h.1 a k) ∧ (∀ a k, a ≠ 274 → a ≠ 275 → h'.2.1 a k = h.2.1 a k) ∧ h'.2.2 = h.2.2
theorem scH_rf (s : Nat) (h : HH) : scH s h h := ⟨fun _ _ _ _ => rfl, fun _ _ _ _ => rfl, rfl⟩
theorem scH.tr {s : Nat} {h1 h2 h3 : HH} (a : scH s h1 h2) (b : scH s h2 h3) : scH s h1 h3 := ⟨fun x k u v => (b.1 x k u v).trans (a.1 x k u v), fun x k u v => (b.2.1 x k u v).trans (a.2.1 x k u v), b.2.2.trans a.2.2⟩
theorem scM.H {s : Nat} {h h' : HH} (e : scM h h') : scH s h h' := ⟨fun a k _ u => e.1 a k u, e.2.1, e.2.2⟩
theorem scH_w {s : Nat} (h : HH) {a k : Nat} (v : Int32) (hi : inH s a k) : scH s h (wrI h a k v) := ⟨fun x i u _ => by rw [wrI_1, if_neg (fun e => u (by rw [e.1, e.2]; exact hi))], fun _ _ _ _ => rfl, rfl⟩
section RU
variable {h h' : HH} {P S : TB} {fo : Nat → Int32} {nf np nl ng s : Nat}
theorem MP_w (m : MP h P nf np nl ng) {A : Nat} (k : Nat) (v : Int32) (hA : 276 ≤ A) : MP (wrI h A k v) P nf np nl ng := by
  have e : ∀ a i, a < 276 → (wrI h A k v).1 a i = h.1 a i := fun a i ha => by rw [wrI_1, if_neg (by omega)]
  unfold MP at m ⊢
  simp only [e _ _ (show 257 < 276 by decide), e _ _ (show 258 < 276 by decide), e _ _ (show 261 < 276 by decide), e _ _ (show 263 < 276 by decide), e _ _ (show 264 < 276 by decide), e _ _ (show 265 < 276 by decide), e _ _ (show 266 < 276 by decide), e _ _ (show 267 < 276 by decide), e _ _ (show 268 < 276 by decide), e _ _ (show 269 < 276 by decide), e _ _ (show 270 < 276 by decide), e _ _ (show 271 < 276 by decide), e _ _ (show 272 < 276 by decide), e _ _ (show 273 < 276 by decide)]
  exact m
theorem MF_w (m : MF h fo np) {A : Nat} (k : Nat) (v : Int32) (hA : 276 ≤ A) : MF (wrI h A k v) fo np := by
  intro a ha
  have e1 : (wrI h A k v).1 255 48 = h.1 255 48 := by rw [wrI_1, if_neg (by omega)]
  have e2 : (wrI h A k v).1 261 a = h.1 261 a := by rw [wrI_1, if_neg (by omega)]
  rw [e1, e2]
  exact m a ha
/-- a person's place (1 floor, 2 tired, 3 stuck, 4 fell) -/
theorem mAt.wp (c : mAt h s P S fo nf np nl ng) {o a : Nat} (h1 : 1 ≤ o) (h4 : o ≤ 4) (ha : a < np) (v : Int32) : scH s h (wrI h (277 + o) (6 * s + a) v) ∧ mAt (wrI h (277 + o) (6 * s + a) v) s P (up S o a v) fo nf np nl ng := by
  obtain ⟨m, k, mf, wl, hs, hnf, hnp⟩ := c
  refine ⟨scH_w h v (Or.inr (Or.inl ⟨by omega, by omega, by omega⟩)), MP_w m _ v (by omega), ⟨fun b hb => ?_, fun j hj => ?_, ?_, ?_⟩, MF_w mf _ v (by omega), wl, hs, hnf, hnp⟩
  · obtain ⟨k1, k2, k3, k4⟩ := k.1 b hb
    have key : ∀ o', 1 ≤ o' → o' ≤ 4 → h.1 (277 + o') (6 * s + b) = S o' b → (wrI h (277 + o) (6 * s + a) v).1 (277 + o') (6 * s + b) = up S o a v o' b := by
      intro o' _ _ e
      rw [wrI_1]
      unfold up
      by_cases q : o' = o ∧ b = a
      · rw [if_pos ⟨by omega, by omega⟩, if_pos q]
      · rw [if_neg (by omega), if_neg q]; exact e
    exact ⟨key 1 (by decide) (by decide) k1, key 2 (by decide) (by decide) k2, key 3 (by decide) (by decide) k3, key 4 (by decide) (by decide) k4⟩
  · rw [wrI_1, if_neg (by omega), up_ne _ _ _ _ _ _ (by omega)]; exact k.2.1 j hj
  · rw [wrI_1, if_neg (by omega), up_ne _ _ _ _ _ _ (by omega)]; exact k.2.2.1
  · rw [wrI_1, if_neg (by omega), up_ne _ _ _ _ _ _ (by omega)]; exact k.2.2.2
theorem mAt.wt (c : mAt h s P S fo nf np nl ng) {j : Nat} (hj : j < 36) (v : Int32) : scH s h (wrI h 282 (36 * s + j) v) ∧ mAt (wrI h 282 (36 * s + j) v) s P (up S 5 j v) fo nf np nl ng := by
  obtain ⟨m, k, mf, wl, hs, hnf, hnp⟩ := c
  refine ⟨scH_w h v (Or.inr (Or.inr ⟨rfl, by omega, by omega⟩)), MP_w m _ v (by omega), ⟨fun b hb => ?_, fun i hi => ?_, ?_, ?_⟩, MF_w mf _ v (by omega), wl, hs, hnf, hnp⟩
  · obtain ⟨k1, k2, k3, k4⟩ := k.1 b hb
    refine ⟨?_, ?_, ?_, ?_⟩ <;> rw [wrI_1, if_neg (by omega), up_ne _ _ _ _ _ _ (by omega)] <;> assumption
  · rw [wrI_1]
    unfold up
    by_cases q : i = j
    · rw [if_pos ⟨rfl, by omega⟩, if_pos ⟨rfl, q⟩]
    · rw [if_neg (by omega), if_neg (by omega)]; exact k.2.1 i hi
  · rw [wrI_1, if_neg (by omega), up_ne _ _ _ _ _ _ (by omega)]; exact k.2.2.1
  · rw [wrI_1, if_neg (by omega), up_ne _ _ _ _ _ _ (by omega)]; exact k.2.2.2
theorem mAt.wn (c : mAt h s P S fo nf np nl ng) (v : Int32) : scH s h (wrI h 277 s v) ∧ mAt (wrI h 277 s v) s P (up S 0 6 v) fo nf np nl ng := by
  obtain ⟨m, k, mf, wl, hs, hnf, hnp⟩ := c
  refine ⟨scH_w h v (Or.inl ⟨Or.inr rfl, rfl⟩), MP_w m _ v (by omega), ⟨fun b hb => ?_, fun i hi => ?_, ?_, ?_⟩, MF_w mf _ v (by omega), wl, hs, hnf, hnp⟩
  · obtain ⟨k1, k2, k3, k4⟩ := k.1 b hb
    refine ⟨?_, ?_, ?_, ?_⟩ <;> rw [wrI_1, if_neg (by omega), up_ne _ _ _ _ _ _ (by omega)] <;> assumption
  · rw [wrI_1, if_neg (by omega), up_ne _ _ _ _ _ _ (by omega)]; exact k.2.1 i hi
  · rw [wrI_1, if_neg (by omega), up_ne _ _ _ _ _ _ (by omega)]; exact k.2.2.1
  · rw [wrI_at, up_at]
theorem mAt.wh (c : mAt h s P S fo nf np nl ng) (v : Int32) : scH s h (wrI h 276 s v) ∧ mAt (wrI h 276 s v) s P (up S 0 5 v) fo nf np nl ng := by
  obtain ⟨m, k, mf, wl, hs, hnf, hnp⟩ := c
  refine ⟨scH_w h v (Or.inl ⟨Or.inl rfl, rfl⟩), MP_w m _ v (by omega), ⟨fun b hb => ?_, fun i hi => ?_, ?_, ?_⟩, MF_w mf _ v (by omega), wl, hs, hnf, hnp⟩
  · obtain ⟨k1, k2, k3, k4⟩ := k.1 b hb
    refine ⟨?_, ?_, ?_, ?_⟩ <;> rw [wrI_1, if_neg (by omega), up_ne _ _ _ _ _ _ (by omega)] <;> assumption
  · rw [wrI_1, if_neg (by omega), up_ne _ _ _ _ _ _ (by omega)]; exact k.2.1 i hi
  · rw [wrI_at, up_at]
  · rw [wrI_1, if_neg (by omega), up_ne _ _ _ _ _ _ (by omega)]; exact k.2.2.2
/-- how one falls: by number (0), by half (1), never (2) -/
def mdR (h : HH) (by_ : Int32) (md : Nat) : Prop := (md = 2 ∧ h.1 255 48 = 5) ∨ (¬ h.1 255 48 = 5 ∧ ((md = 0 ∧ by_ = 1) ∨ (md = 1 ∧ by_ = 0)))
theorem ldI_4 {β : Type} {h : HH} {a n : Nat} (hk : 4 < n) (hn : n < 2 ^ 31) (K : Int32 → Option β) : ldI h a n (4 : Int32) K = K (h.1 a 4) := ldI_of (k := 4) hk hn K
theorem nx_j (n : Int32) : ∃ j : Nat, j < 2 ^ 31 ∧ nxN n = nI j := pk_andE _ 31 (by decide)
theorem r_doesFall (c : mAt h s P S fo nf np nl ng) {b : Int32} {md : Nat} (hm : mdR h b md) : ∃ h', scH s h h' ∧ mAt h' s P (up S 0 6 (slA md (P 0 15) (S 0 6)).2) fo nf np nl ng ∧ g_X11_doesFall (nI s) b h = some (if (slA md (P 0 15) (S 0 6)).1 then 1 else 0, h') := by
  obtain ⟨m, k, mf, wl, hs, hnf, hnp⟩ := id c
  have e4 : h.1 257 4 = P 0 15 := m.2.2.2.2.1
  have e7 : h.1 277 s = S 0 6 := k.2.2.2
  have stay : ∃ h', scH s h h' ∧ mAt h' s P (up S 0 6 (S 0 6)) fo nf np nl ng ∧ h' = h := ⟨h, scH_rf s h, by rw [up_self]; exact c, rfl⟩
  unfold g_X11_doesFall slA
  simp only [gfI, jn]
  rcases hm with ⟨rfl, h5⟩ | ⟨h5, hm⟩
  · refine ⟨h, scH_rf s h, ?_, ?_⟩
    · rw [if_pos (Or.inl rfl), up_self]; exact c
    · rw [if_pos h5, if_pos (Or.inl rfl)]; rfl
  rw [if_neg h5, ldI_4 (by decide) (by decide), e4]
  rcases hm with ⟨rfl, rfl⟩ | ⟨rfl, rfl⟩
  · rw [if_neg (show ¬ (1 : Int32) = 0 by decide)]
    by_cases s0 : P 0 15 = 0
    · refine ⟨h, scH_rf s h, ?_, ?_⟩
      · rw [if_pos (Or.inr s0), up_self]; exact c
      · rw [if_pos s0, if_pos (Or.inr s0), s0]; rfl
    have d0 : ¬ ((0 : Nat) = 2 ∨ P 0 15 = 0) := by simp [s0]
    rw [if_neg s0, if_neg d0]
    by_cases s1 : P 0 15 = 100
    · refine ⟨h, scH_rf s h, ?_, ?_⟩
      · rw [if_pos s1, up_self]; exact c
      · rw [if_pos s1, if_pos s1, s1]; rfl
    rw [if_neg s1, if_neg s1, if_neg (show ¬ (0 : Nat) = 1 by decide)]
    obtain ⟨w1, w2⟩ := c.wn (nxN (S 0 6))
    refine ⟨_, w1, w2, ?_⟩
    obtain ⟨j, hj, ej⟩ := nx_j (S 0 6)
    have esh : nxN (S 0 6) >>> ((16 : Int32) &&& 31) = nxN (S 0 6) / 65536 := by
      rw [ej, pk_shrN hj _ 16 (by decide), show (65536 : Int32) = nI 65536 from rfl, pk_div hj (by decide) (by decide)]
    rw [ldI_of (by omega) (by decide), e7, stI_of (by omega) (by decide), ldI_of (by omega) (by decide), wrI_at]
    rw [show ((S 0 6 * (1103515245 : Int32)) + (12345 : Int32)) &&& (2147483647 : Int32) = nxN (S 0 6) from rfl, esh, rmI_of (by decide)]
    by_cases k5 : nxN (S 0 6) / 65536 - nxN (S 0 6) / 65536 / 100 * 100 < P 0 15
    · rw [if_pos k5]; simp [k5]
    · rw [if_neg k5]; simp [k5]
  · rw [if_pos rfl]
    by_cases s0 : P 0 15 = 0
    · refine ⟨h, scH_rf s h, ?_, ?_⟩
      · rw [if_pos (Or.inr s0), up_self]; exact c
      · rw [if_pos (Or.inr s0), s0]; rfl
    have d0 : ¬ ((1 : Nat) = 2 ∨ P 0 15 = 0) := by simp [s0]
    rw [if_neg d0]
    by_cases s1 : P 0 15 = 100
    · refine ⟨h, scH_rf s h, ?_, ?_⟩
      · rw [if_pos s1, up_self]; exact c
      · rw [if_pos s1, s1]; rfl
    rw [if_neg s1, if_pos rfl]
    refine ⟨h, scH_rf s h, by rw [up_self]; exact c, ?_⟩
    by_cases s5 : P 0 15 < 50
    · rw [if_pos s5]; simp [s5]
    · rw [if_neg s5]; simp [s5]
theorem mdR.mv {b : Int32} {md : Nat} (m : mdR h b md) (e : h'.1 255 48 = h.1 255 48) : mdR h' b md := by unfold mdR at m ⊢; rw [e]; exact m
theorem r_goesUp (c : mAt h s P S fo nf np nl ng) {b : Int32} {md : Nat} (hm : mdR h b md) {a f : Nat} (ha : a < np) (hf : f < nf) (hfl : S 1 a = nI f) (hta : adT (S 5 (6 * a + f)) 1 = mnI 999 (S 5 (6 * a + f) + 1)) :
    ∃ h', scH s h h' ∧ mAt h' s P (riA P S fo np md a f).2 fo nf np nl ng ∧ g_X11_goesUp (nI s) (nI a) b h = some (if (riA P S fo np md a f).1 then 1 else 0, h') := by
  obtain ⟨m, k, mf, wl, hs, hnf, hnp⟩ := id c
  obtain ⟨h1, s1, c1, e1⟩ := r_canClimb c ha hf
  unfold g_X11_goesUp riA
  simp only [vl]
  rw [ix6, ldI_of (by omega) (by decide), (k.1 a ha).1, hfl, ix36, e1, bnd_some]
  by_cases d1 : fo a < stA P S fo np a f 0 ∨ lwA P S fo np 2 a f 0 = 0
  · obtain ⟨w1, w2⟩ := c1.wp (o := 3) (by decide) (by decide) ha (S 3 a + 1)
    refine ⟨_, s1.H.tr w1, by rw [if_pos d1]; exact w2, ?_⟩
    rw [if_pos d1, if_pos d1, if_pos rfl, ldI_of (by omega) (by decide), (c1.2.1.1 a ha).2.2.1, stI_of (by omega) (by decide)]
    rfl
  rw [if_neg d1, if_neg d1, if_neg (show ¬ (1 : Int32) = 0 by decide)]
  obtain ⟨h2, s2, c2, e2⟩ := r_doesFall c1 (hm.mv (s1.1 255 48 (by omega)))
  rw [e2, bnd_some]
  have s12 := s1.H.tr s2
  generalize slA md (P 0 15) (S 0 6) = sl at c2 e2 ⊢
  obtain ⟨fl, nu⟩ := sl
  have c2 : mAt h2 s P (up S 0 6 nu) fo nf np nl ng := c2
  have n46 : ∀ o i, o ≠ 0 → up S 0 6 nu o i = S o i := fun o i ho => up_ne _ _ _ _ _ _ (fun e => ho e.1)
  cases fl with
  | true =>
    simp only [if_true, i10, if_false]
    obtain ⟨w1, w2⟩ := c2.wp (o := 4) (by decide) (by decide) ha (S 4 a + 1)
    obtain ⟨v1, v2⟩ := w2.wp (o := 1) (by decide) (by decide) ha 0
    refine ⟨_, (s12.tr w1).tr v1, v2, ?_⟩
    rw [ldI_of (by omega) (by decide), (c2.2.1.1 a ha).2.2.2, n46 4 a (by decide), stI_of (by omega) (by decide), stI_of (by omega) (by decide)]
    rfl
  | false =>
    simp only [Bool.false_eq_true, if_false, if_true]
    have f1 : up S 0 6 nu 1 = S 1 := funext fun i => n46 1 i (by decide)
    have el : ∀ r, lwA P (up S 0 6 nu) fo np r a f 0 = lwA P S fo np r a f 0 := by
      intro r
      unfold lwA nmA
      rw [f1, n46 5 _ (by decide), n46 2 _ (by decide), up_ne S 0 6 nu 0 5 (by decide)]
    have es : stA P (up S 0 6 nu) fo np a f 0 = stA P S fo np a f 0 := by
      unfold stA
      rw [el 0, n46 5 _ (by decide)]
    obtain ⟨h3, s3, c3, e3⟩ := r_steepOf c2 ha hf
    rw [es] at e3
    obtain ⟨m3, k3, mf3, -, -, -, -⟩ := id c3
    obtain ⟨h4, s4, e4, z1, z2⟩ := r_calls m3 k3 mf3 hs hnf hnp ha hf
    have c4 := c3.mv s4
    obtain ⟨h5, s5, e5⟩ := r_within c4 (r := 1) (a := a) (f := f) (by decide) 0 99 (mxI 0 (stA P S fo np a f 0)) 0 (by rw [Int32.sub_zero]; exact z1) z2
    rw [el 1] at e5
    have e5' : g_X11_within 1 0 99 (mxI 0 (stA P S fo np a f 0)) h4 = _ := e5
    have c5 := c4.mv s5
    rw [e3, bnd_some, e4, bnd_some, ldI_of (by omega) (by decide), (c4.2.1.1 a ha).2.1, n46 2 a (by decide), e5', bnd_some]
    generalize hy : (if lwA P S fo np 1 a f 0 = eM then mxI 0 (stA P S fo np a f 0) else Int64.toInt32 (mxL (Int32.toInt64 0) (mnL (Int32.toInt64 99) (lwA P S fo np 1 a f 0)))) = y
    have hy2 : (if lwA P S fo np 1 a f 0 = eM then mxI 0 (stA P S fo np a f 0) else Int64.toInt32 (mxL 0 (mnL 99 (lwA P S fo np 1 a f 0)))) = y := hy
    rw [hy2]
    obtain ⟨w1, w2⟩ := c5.wp (o := 2) (by decide) (by decide) ha (mnI 99999 (S 2 a + y))
    obtain ⟨v1, v2⟩ := w2.wt (j := 6 * a + f) (by omega) (adT (S 5 (6 * a + f)) 1)
    obtain ⟨u1, u2⟩ := v2.wp (o := 1) (by decide) (by decide) ha (nI f + 1)
    refine ⟨_, (((((s12.tr s3.H).tr s4.H).tr s5.H).tr w1).tr v1).tr u1, u2, ?_⟩
    have e6 : (wrI h5 279 (6 * s + a) (mnI 99999 (S 2 a + y))).1 282 (36 * s + (6 * a + f)) = S 5 (6 * a + f) := by
      rw [wrI_1, if_neg (by omega), c5.2.1.2.1 _ (by omega), n46 5 _ (by decide)]
    have e7 : (wrI (wrI h5 279 (6 * s + a) (mnI 99999 (S 2 a + y))) 282 (36 * s + (6 * a + f)) (adT (S 5 (6 * a + f)) 1)).1 278 (6 * s + a) = nI f := by
      rw [wrI_1, if_neg (by omega), wrI_1, if_neg (by omega), (c5.2.1.1 a ha).1, n46 1 a (by decide), hfl]
    rw [stI_of (by omega) (by decide), ldI_of (by omega) (by decide), e6, ← hta, stI_of (by omega) (by decide), ldI_of (by omega) (by decide), e7, stI_of (by omega) (by decide)]
end RU
