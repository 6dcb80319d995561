/-! tallies within their bounds -/
def inB (x : Int32) : Prop := (-99 : Int32) ≤ x ∧ x ≤ 999
def tOk (S : TB) : Prop := ∀ j, j < 36 → inB (S 5 j)
theorem tB_int {x : Int32} : inB x ↔ -99 ≤ x.toInt ∧ x.toInt ≤ 999 := by
  unfold inB
  rw [Int32.le_iff_toInt_le, Int32.le_iff_toInt_le]
  exact Iff.rfl
theorem i32_add {a b : Int32} (h1 : -2147483648 ≤ a.toInt + b.toInt) (h2 : a.toInt + b.toInt < 2147483648) : (a + b).toInt = a.toInt + b.toInt := by
  rw [Int32.toInt_add]
  exact Int.bmod_eq_of_le (by omega) (by omega)
theorem mx_int (x y : Int32) : (mxI x y).toInt = max x.toInt y.toInt := by
  unfold mxI
  split
  · rename_i h; rw [Int32.lt_iff_toInt_lt] at h; omega
  · rename_i h; rw [Int32.lt_iff_toInt_lt] at h; omega
theorem mn_int (x y : Int32) : (mnI x y).toInt = min x.toInt y.toInt := by
  unfold mnI
  split
  · rename_i h; rw [Int32.lt_iff_toInt_lt] at h; omega
  · rename_i h; rw [Int32.lt_iff_toInt_lt] at h; omega
theorem i999 : (999 : Int32).toInt = 999 := by decide
theorem im99 : (-99 : Int32).toInt = -99 := by decide
theorem im1 : (-1 : Int32).toInt = -1 := by decide
theorem i1 : (1 : Int32).toInt = 1 := by decide
theorem adT_up {x : Int32} (h : inB x) : adT x 1 = mnI 999 (x + 1) := by
  rw [tB_int] at h
  apply Int32.toInt_inj.mp
  have e := i32_add (a := x) (b := 1) (by rw [i1]; omega) (by rw [i1]; omega)
  rw [i1] at e
  unfold adT
  rw [mx_int, mn_int, e, i999, im99]
  omega
theorem adT_dn {x : Int32} (h : inB x) : adT x (-1) = mxI (-99) (x - 1) := by
  rw [tB_int] at h
  apply Int32.toInt_inj.mp
  have e := i32_add (a := x) (b := -1) (by rw [im1]; omega) (by rw [im1]; omega)
  rw [im1] at e
  unfold adT
  rw [Int32.sub_eq_add_neg, mx_int, mx_int, mn_int, e, i999, im99]
  omega
theorem adT_B (x m : Int32) : inB (adT x m) := by
  rw [tB_int]
  unfold adT
  rw [mx_int, mn_int, i999, im99]
  omega
theorem tOk_o {S : TB} (h : tOk S) {o : Nat} (k : Nat) (v : Int32) (ho : o ≠ 5) : tOk (up S o k v) := fun j hj => by
  rw [up_ne _ _ _ _ _ _ (fun e => ho e.1.symm)]; exact h j hj
theorem tOk_t {S : TB} (h : tOk S) (k : Nat) {v : Int32} (hv : inB v) : tOk (up S 5 k v) := fun j hj => by
  unfold up
  split
  · exact hv
  · exact h j hj
theorem riA_t {P S : TB} {fo : Nat → Int32} {np md a f : Nat} (h : tOk S) : tOk (riA P S fo np md a f).2 := by
  unfold riA
  split
  · exact tOk_o h _ _ (by decide)
  · split
    · exact tOk_o (tOk_o (tOk_o h _ _ (by decide)) _ _ (by decide)) _ _ (by decide)
    · exact tOk_o (tOk_t (tOk_o (tOk_o h _ _ (by decide)) _ _ (by decide)) _ (adT_B _ _)) _ _ (by decide)
theorem upA_t {P : TB} {fo : Nat → Int32} {np md a : Nat} : ∀ (k f : Nat) {S : TB}, tOk S → tOk (upA P fo np md a k f S).2
  | 0, _, _, h => h
  | k + 1, f, S, h => by
    unfold upA
    split
    · exact upA_t k _ (riA_t h)
    · exact riA_t h
theorem dnA_t {a t : Nat} : ∀ (k : Nat) {S : TB}, tOk S → tOk (dnA a t k S)
  | 0, _, h => h
  | k + 1, S, h => by
    unfold dnA
    exact dnA_t k (tOk_t (tOk_o h _ _ (by decide)) _ (adT_B _ _))
theorem wkA_t {P S : TB} {fo : Nat → Int32} {np md a fl t : Nat} (h : tOk S) : tOk (wkA P fo np md a fl t S).2 := by
  unfold wkA
  split
  · exact dnA_t _ h
  · exact upA_t _ _ h
theorem swA_t {P S : TB} {bare : Bool} {a l : Nat} (h : tOk S) : tOk (swA P bare a l S) := by
  unfold swA
  split
  · exact tOk_o h _ _ (by decide)
  · exact tOk_o (tOk_o h _ _ (by decide)) _ _ (by decide)
theorem actA_t {P S : TB} {fo : Nat → Int32} {np md : Nat} {bare : Bool} {g : Nat} (h : tOk S) : tOk (actA P fo np md bare S g) := by
  unfold actA
  split
  · exact wkA_t h
  · split
    · exact swA_t h
    · exact tOk_o h _ _ (by decide)
theorem rowA_t {P : TB} {fo : Nat → Int32} {np md : Nat} {bare : Bool} : ∀ (l : List Nat) {S : TB}, tOk S → tOk (rowA (actA P fo np md bare) l S)
  | [], _, h => h
  | _ :: t, _, h => actA_t (rowA_t t h)
theorem hrA_t {P S : TB} {fo : Nat → Int32} {np md ng : Nat} {bare : Bool} {idle : Int32} (h : tOk S) : tOk (hrA P fo np md ng bare idle S) := by
  unfold hrA
  exact tOk_o (rowA_t _ h) _ _ (by decide)
theorem itA_t {f : TB → TB} (hf : ∀ S, tOk S → tOk (f S)) : ∀ (n : Nat) {S : TB}, tOk S → tOk (itA f n S)
  | 0, _, h => h
  | n + 1, S, h => itA_t hf n (hf S h)
/-! the reference: by foot -/
section RG
variable {P S : TB} {fo : Nat → Int32} {nf np nl ng s md : Nat}
theorem r_down (K : HH → Option (Unit × HH)) (b : Int32) {a t : Nat} (ha : a < np) : ∀ (k n : Nat) (S : TB) (h : HH), mAt h s P S fo nf np nl ng → tOk S → S 1 a = nI (t + k) → t + k ≤ nf → k < n → ∃ h', scH s h h' ∧ mAt h' s P (dnA a t k S) fo nf np nl ng ∧ g_X11_goesTo_L8 K (nI s) (nI a) (nI t) b (nI (6 * s + a)) n h = K h' := by
  intro k
  induction k with
  | zero =>
    intro n S h c ht hf hl hn
    obtain ⟨n, rfl⟩ : ∃ n', n = n' + 1 := ⟨n - 1, by omega⟩
    obtain ⟨m, k, mf, wl, hs, hnf, hnp⟩ := id c
    refine ⟨h, scH_rf s h, c, ?_⟩
    rw [Nat.add_zero] at hf hl
    rw [g_X11_goesTo_L8, ldI_of (by omega) (by decide), (k.1 a ha).1, hf, if_neg (nI_nlt (Nat.le_refl _) (by omega))]
  | succ k ih =>
    intro n S h c ht hf hl hn
    obtain ⟨n, rfl⟩ : ∃ n', n = n' + 1 := ⟨n - 1, by omega⟩
    obtain ⟨m, q, mf, wl, hs, hnf, hnp⟩ := id c
    obtain ⟨w1, w2⟩ := c.wp (o := 1) (by decide) (by decide) ha (nI (t + k))
    obtain ⟨v1, v2⟩ := w2.wt (j := 6 * a + (t + k)) (by omega) (adT (S 5 (6 * a + (t + k))) (-1))
    have e0 : h.1 278 (6 * s + a) = nI (t + k + 1) := ((q.1 a ha).1).trans hf
    have e5 : (wrI h 278 (6 * s + a) (nI (t + k))).1 282 (36 * s + (6 * a + (t + k))) = S 5 (6 * a + (t + k)) := by
      rw [wrI_1, if_neg (by omega), q.2.1 _ (by omega)]
    obtain ⟨h', s', c', e⟩ := ih n _ _ v2 (tOk_t (tOk_o ht _ _ (by decide)) _ (adT_B _ _)) (by rw [up_ne _ _ _ _ _ _ (by omega), up_at]) (by omega) (by omega)
    refine ⟨h', (w1.tr v1).tr s', c', ?_⟩
    rw [← e, g_X11_goesTo_L8]
    simp only [vl]
    rw [ldI_of (by omega) (by decide), e0, if_pos (nI_lt (by omega) (by omega)), ldI_of (by omega) (by decide), e0, nI_pred, stI_of (by omega) (by decide), ldI_of (by omega) (by decide), wrI_at, ix36, ldI_of (by omega) (by decide), e5, ← adT_dn (ht _ (by omega)), stI_of (by omega) (by decide)]
theorem r_up {b : Int32} {a t : Nat} (ha : a < np) : ∀ (k f n : Nat) (S : TB) (h : HH), mAt h s P S fo nf np nl ng → mdR h b md → tOk S → S 1 a = nI f → f + k = t → t ≤ nf → k + 1 < n → ∃ h', scH s h h' ∧ mAt h' s P (upA P fo np md a k f S).2 fo nf np nl ng ∧ g_X11_goesTo_L76 (nI s) (nI a) (nI t) b (nI (6 * s + a)) n 1 h = some ((), h') := by
  intro k
  induction k with
  | zero =>
    intro f n S h c hm ht hf hl hn hk
    obtain ⟨n, rfl⟩ : ∃ n', n = n' + 1 := ⟨n - 1, by omega⟩
    obtain ⟨m, k, mf, wl, hs, hnf, hnp⟩ := id c
    refine ⟨h, scH_rf s h, c, ?_⟩
    rw [g_X11_goesTo_L76, if_neg (show ¬ (1 : Int32) = 0 by decide), ldI_of (by omega) (by decide), (k.1 a ha).1, hf, if_neg (nI_nlt (by omega) (by omega))]
  | succ k ih =>
    intro f n S h c hm ht hf hl hn hk
    obtain ⟨n, rfl⟩ : ∃ n', n = n' + 1 := ⟨n - 1, by omega⟩
    obtain ⟨m, q, mf, wl, hs, hnf, hnp⟩ := id c
    obtain ⟨h1, s1, c1, e1⟩ := r_goesUp c hm ha (f := f) (by omega) hf (adT_up (ht _ (by omega)))
    rw [g_X11_goesTo_L76, if_neg (show ¬ (1 : Int32) = 0 by decide), ldI_of (by omega) (by decide), (q.1 a ha).1, hf, if_pos (nI_lt (by omega) (by omega)), e1, bnd_some]
    unfold upA
    cases hb : (riA P S fo np md a f).1 with
    | true =>
      simp only [if_true]
      obtain ⟨h', s', c', e⟩ := ih (f + 1) n _ _ c1 (hm.mv (s1.1 255 48 (by unfold inH; omega) (by omega))) (riA_t ht) (riA_fl hb) (by omega) hn (by omega)
      exact ⟨h', s1.tr s', c', e⟩
    | false =>
      simp only [Bool.false_eq_true, if_false]
      obtain ⟨n, rfl⟩ : ∃ n', n = n' + 1 := ⟨n - 1, by omega⟩
      refine ⟨h1, s1, c1, ?_⟩
      rw [g_X11_goesTo_L76, if_pos rfl]
theorem r_goesTo {h : HH} (c : mAt h s P S fo nf np nl ng) {b : Int32} (hm : mdR h b md) (ht : tOk S) {a fl t : Nat} (ha : a < np) (hfl : S 1 a = nI fl) (hf : fl ≤ nf) (htt : t ≤ nf) :
    ∃ h', scH s h h' ∧ mAt h' s P (wkA P fo np md a fl t S).2 fo nf np nl ng ∧ g_X11_goesTo (nI s) (nI a) (nI t) b h = some ((), h') := by
  obtain ⟨N, hN⟩ : ∃ N : Nat, N = 1024 := ⟨_, rfl⟩
  obtain ⟨m, q, mf, wl, hs, hnf, hnp⟩ := id c
  unfold g_X11_goesTo
  simp only [vl]
  rw [← hN, ix6]
  unfold wkA
  by_cases hd : t < fl
  · rw [if_pos hd]
    obtain ⟨h1, s1, c1, e1⟩ := r_down (fun (h9 : HH) => g_X11_goesTo_L76 (nI s) (nI a) (nI t) b (nI (6 * s + a)) N 1 h9) b ha (t := t) (fl - t) N S h c ht (by rw [hfl]; congr 1; omega) (by omega) (by omega)
    obtain ⟨h2, s2, c2, e2⟩ := r_up (md := md) ha 0 t N _ h1 c1 (hm.mv (s1.1 255 48 (by unfold inH; omega) (by omega))) (dnA_t _ ht) (dnA_fl a t _ _ (Or.inl (by omega))) (t := t) rfl htt (by omega)
    exact ⟨h2, s1.tr s2, c2, e1.trans e2⟩
  · rw [if_neg hd]
    obtain ⟨N, rfl⟩ : ∃ n', N = n' + 1 := ⟨N - 1, by omega⟩
    rw [g_X11_goesTo_L8, ldI_of (by omega) (by decide), (q.1 a ha).1, hfl, if_neg (nI_nlt (by omega) (by omega))]
    exact r_up (md := md) ha (t - fl) fl (N + 1) S h c hm ht hfl (by omega) htt (by omega)
end RG
