/-! the words of a text: letters as one number, the words of the language -/
theorem nI_or (a b : Nat) : nI a ||| nI b = nI (a ||| b) := by
  unfold nI
  apply Int32.toBitVec_inj.mp
  exact (BitVec.ofNat_or).symm
theorem or_st (A d k : Nat) (hd : d < 32) : (2 ^ (k + 5) * A) ||| (d * 2 ^ k) = 2 ^ k * (A * 32 + d) := by
  have e : 2 ^ (k + 5) = 2 ^ k * 32 := Nat.pow_add 2 k 5
  have hp : 0 < 2 ^ k := Nat.two_pow_pos k
  rw [← Nat.two_pow_add_eq_or_of_lt (i := k + 5) (b := d * 2 ^ k) (by rw [e, Nat.mul_comm]; exact Nat.mul_lt_mul_of_pos_left hd hp) A, e, Nat.mul_add, Nat.mul_assoc, Nat.mul_comm 32 A, Nat.mul_comm d]
/-- six letters at most, as one number (the first k of them) -/
def dgT (tp : Nat → Nat) (i l k : Nat) : Nat := if k < l then tp (i + k) - 96 else 0
def qf (f : Nat → Nat) : Nat → Nat
  | 0 => 0
  | k + 1 => qf f k * 32 + f k
theorem qf_lt (f : Nat → Nat) : ∀ k, (∀ j, j < k → f j < 32) → qf f k < 2 ^ (5 * k)
  | 0, _ => Nat.one_pos
  | k + 1, h => by
    have h1 := qf_lt f k fun j hj => h j (by omega)
    have h2 := h k (by omega)
    have e : 2 ^ (5 * (k + 1)) = 2 ^ (5 * k) * 32 := Nat.pow_add 2 (5 * k) 5
    rw [e]
    unfold qf
    omega
theorem qf_eq (f g : Nat → Nat) : ∀ k, (∀ j, j < k → f j < 32) → (∀ j, j < k → g j < 32) → (qf f k = qf g k ↔ ∀ j, j < k → f j = g j)
  | 0, _, _ => ⟨fun _ j hj => by omega, fun _ => rfl⟩
  | k + 1, h1, h2 => by
    have ih := qf_eq f g k (fun j hj => h1 j (by omega)) (fun j hj => h2 j (by omega))
    have a := h1 k (by omega)
    have b := h2 k (by omega)
    unfold qf
    refine ⟨fun e j hj => ?_, fun e => ?_⟩
    · by_cases q : j = k
      · rw [q]; omega
      · exact ih.mp (by omega) j (by omega)
    · rw [ih.mpr fun j hj => e j (by omega), e k (by omega)]
theorem dg_lt {tp : Nat → Nat} {n i l : Nat} (r : runP lcr tp n i l) (k : Nat) : dgT tp i l k < 32 := by
  unfold dgT
  split
  · have := r.2.1 (i + k) (by omega) (by omega)
    unfold lcr at this
    omega
  · omega
theorem qf_up (f : Nat → Nat) (l : Nat) (h : ∀ k, l ≤ k → f k = 0) : ∀ r, qf f (l + r) = 2 ^ (5 * r) * qf f l
  | 0 => by rw [Nat.mul_zero, Nat.pow_zero, Nat.one_mul]; rfl
  | r + 1 => by
    show qf f (l + r) * 32 + f (l + r) = _
    rw [h (l + r) (by omega), qf_up f l h r, Nat.add_zero, show 2 ^ (5 * (r + 1)) = 2 ^ (5 * r) * 32 from Nat.pow_add 2 (5 * r) 5, Nat.mul_assoc, Nat.mul_assoc, Nat.mul_comm 32]
/-- the class's letters, j of them read -/
def acW (f : Nat → Nat) (j : Nat) : Nat := if j ≤ 6 then 2 ^ (5 * (6 - j)) * qf f j else qf f 6
theorem x_let1 {d j : Nat} (hd : d < 32) (hj : j < 6) : nI d <<< (((5 : Int32) * ((5 : Int32) - nI j)) &&& 31) = nI (d * 2 ^ (5 * (5 - j))) := by
  have hb : d * 2 ^ (5 * (5 - j)) < 2 ^ 32 := by
    have : 2 ^ (5 * (5 - j)) ≤ 2 ^ 25 := Nat.pow_le_pow_right (by decide) (by omega)
    have h2 : d * 2 ^ (5 * (5 - j)) ≤ 31 * 2 ^ 25 := Nat.mul_le_mul (by omega) this
    exact Nat.lt_of_le_of_lt h2 (by decide)
  refine pk_shlN _ (5 * (5 - j)) ?_ hb
  rcases (show j = 0 ∨ j = 1 ∨ j = 2 ∨ j = 3 ∨ j = 4 ∨ j = 5 by omega) with rfl | rfl | rfl | rfl | rfl | rfl <;> decide
theorem x_cutWord_L (K : Int32 → Int32 → HH → Option (Int32 × HH)) {tp : Nat → Nat} {n i l : Nat} {h : HH} (hb : bC tp n h) (hr : runP lcr tp n i l) : ∀ m j N, j + m = l → m < N →
    g_X8_cutWord_L6 K (nI i) (nI n) N (nI (acW (dgT tp i l) j)) (nI (i + j)) h = K (nI (acW (dgT tp i l) l)) (nI (i + l)) h := by
  obtain ⟨hb0, hb1⟩ := hb
  obtain ⟨r1, r2, r3⟩ := hr
  intro m
  induction m with
  | zero =>
    intro j N hj hN
    obtain ⟨N, rfl⟩ : ∃ N', N = N' + 1 := ⟨N - 1, by omega⟩
    obtain rfl : j = l := by omega
    rw [g_X8_cutWord_L6]
    by_cases q : i + j < n
    · rw [if_pos (nI_lt q (by omega)), ldI_of (by omega) (by decide), (hb1 _ q).2, byC_let (hb1 _ q).1, bnd_some, if_neg (r3 q), if_pos rfl]
    · rw [if_neg (nI_nlt (by omega) (by omega))]
  | succ m ih =>
    intro j N hj hN
    obtain ⟨N, rfl⟩ : ∃ N', N = N' + 1 := ⟨N - 1, by omega⟩
    have q : i + j < n := by omega
    have lq := r2 (i + j) (by omega) (by omega)
    have l2 := lq
    unfold lcr at l2
    have hd : dgT tp i l j = tp (i + j) - 96 := if_pos (by omega)
    rw [g_X8_cutWord_L6, if_pos (nI_lt q (by omega)), ldI_of (by omega) (by decide), (hb1 _ q).2, byC_let (hb1 _ q).1, bnd_some, if_pos lq, if_neg (by decide)]
    simp only [jn, vl]
    rw [show nI (i + j) - nI i = nI j by rw [Nat.add_comm i j]; exact nI_sub j i, nI_1]
    by_cases q6 : j < 6
    · rw [if_pos (show nI j < 6 from nI_lt (b := 6) q6 (by decide)), ldI_of (by omega) (by decide), (hb1 _ q).2, byC_nI (by omega), show (97 : Int32) = nI 97 from rfl, pk_sub (by omega), nI_1, show tp (i + j) - 97 + 1 = tp (i + j) - 96 by omega, x_let1 (by omega) q6, nI_or]
      rw [← ih (j + 1) N (by omega) (by omega)]
      congr 2
      unfold acW
      rw [if_pos (by omega), if_pos (by omega), show 5 * (6 - j) = 5 * (5 - j) + 5 by omega, or_st _ _ _ (by omega), show 6 - (j + 1) = 5 - j by omega]
      show _ = _ * (qf (dgT tp i l) j * 32 + dgT tp i l j)
      rw [hd]
    · rw [if_neg (show ¬ nI j < 6 from nI_nlt (b := 6) (by omega) (by omega))]
      rw [← ih (j + 1) N (by omega) (by omega)]
      congr 2
      unfold acW
      by_cases e6 : j = 6
      · subst e6
        rw [if_pos (by omega), if_neg (by omega), Nat.sub_self, Nat.mul_zero, Nat.pow_zero, Nat.one_mul]
      · rw [if_neg (by omega), if_neg (by omega)]
/-- the signs of the class's words, of the reference's -/
def cS (x : Nat) : Nat := ((bytS.getD 0 []).getD x 0).toNatClampNeg
def rS (x : Nat) : Nat := ((bytS.getD 3 []).getD x 0).toNatClampNeg
theorem cS_f : ∀ x, x < 144 → (bytS.getD 0 []).getD x 0 = nI (cS x) ∧ (cS x = 32 ∨ (97 ≤ cS x ∧ cS x ≤ 122)) := by decide +kernel
theorem rS_f : ∀ x, x < 123 → (bytS.getD 3 []).getD x 0 = nI (rS x) ∧ (rS x = 32 ∨ (97 ≤ rS x ∧ rS x ≤ 122)) := by decide +kernel
def wDg (c j : Nat) : Nat := cS (6 * c + j) - 96
theorem wDg_f : ∀ c, c < 24 → ∀ j, j < 6 → wDg c j < 32 := by decide +kernel
def rP (w : Nat) : Nat := [0, 7, 14, 18, 22, 29, 32, 37, 42, 47, 52, 56, 62, 67, 72, 75, 79, 83, 89, 95, 101, 107, 113, 118, 123].getD w 123
def rL (w : Nat) : Nat := rP (w + 1) - rP w - 1
theorem rP_f : ∀ w, w < 24 → rP w + rL w < 123 ∧ rS (rP w + rL w) = 32 ∧ rP (w + 1) = rP w + rL w + 1 ∧ 1 ≤ rL w ∧ rL w ≤ 6 ∧ ∀ j, j < rL w → 97 ≤ rS (rP w + j) ∧ rS (rP w + j) ≤ 122 := by decide +kernel
/-- the reference's word among the class's -/
def sW (w : Nat) : Nat := if w = 14 then 15 else if w = 15 then 14 else w
theorem sW_f : ∀ w, w < 24 → sW w < 24 ∧ sW (sW w) = w ∧ ∀ j, j < 6 → wDg (sW w) j = if j < rL w then rS (rP w + j) - 96 else 0 := by decide +kernel
theorem chS0 {β : Type} {x : Nat} (hx : x < 144) (K : Int32 → Option β) : chS 0 (nI x) K = K (nI (cS x)) := by
  show ckI (nI x) 144 (K ((bytS.getD 0 []).getD (nI x).toNatClampNeg 0)) = _
  rw [ckI_of hx (by decide), nI_clamp (by omega), (cS_f x hx).1]
theorem chS3 {β : Type} {x : Nat} (hx : x < 123) (K : Int32 → Option β) : chS 3 (nI x) K = K (nI (rS x)) := by
  show ckI (nI x) 123 (K ((bytS.getD 3 []).getD (nI x).toNatClampNeg 0)) = _
  rw [ckI_of hx (by decide), nI_clamp (by omega), (rS_f x hx).1]
theorem x_let {c : Nat} (h : c < 128) (g : HH) : g_X8_isLetter (nI c) g = some (if lcr c then 1 else 0, g) := by
  rw [← byC_nI h]; exact byC_let (by omega) g
theorem nI_sh5 {v d : Nat} (hv : v < 2 ^ 25) (hd : d < 32) : (nI v <<< ((5 : Int32) &&& 31)) ||| nI d = nI (v * 32 + d) := by
  rw [pk_shlN _ 5 (by decide) (by omega), nI_or]
  have := or_st v d 0 hd
  simp only [Nat.pow_zero, Nat.mul_one, Nat.one_mul, Nat.zero_add] at this
  rw [show v * 2 ^ 5 = 2 ^ 5 * v from Nat.mul_comm _ _, this]
  congr 1
  omega
theorem x_kindOf_L18 (K : Int32 → HH → Option (Int32 × HH)) (c0 : Int32) {c : Nat} (hc : c < 24) (h : HH) : ∀ m j N, j + m = 6 → m < N → g_X8_kindOf_L18 K c0 (nI c) N (nI (qf (wDg c) j)) (nI j) h = K (nI (qf (wDg c) 6)) h := by
  intro m
  induction m with
  | zero =>
    intro j N hj hN
    obtain ⟨N, rfl⟩ : ∃ N', N = N' + 1 := ⟨N - 1, by omega⟩
    obtain rfl : j = 6 := by omega
    rw [g_X8_kindOf_L18, if_neg (by decide)]
  | succ m ih =>
    intro j N hj hN
    obtain ⟨N, rfl⟩ : ∃ N', N = N' + 1 := ⟨N - 1, by omega⟩
    have hx : c * 6 + j < 144 := by omega
    have hcs := (cS_f _ hx).2
    have hdl := wDg_f c hc j (by omega)
    have hv : qf (wDg c) j < 2 ^ 25 := Nat.lt_of_lt_of_le (qf_lt _ j fun k hk => wDg_f c hc k (by omega)) (Nat.pow_le_pow_right (by decide) (by omega))
    rw [g_X8_kindOf_L18, if_pos (show nI j < 6 from nI_lt (b := 6) (by omega) (by decide)), show (6 : Int32) = nI 6 from rfl, nI_mul, nI_add, chS0 hx, x_let (by omega), bnd_some]
    simp only [jn, vl]
    rw [nI_1, ← ih (j + 1) N (by omega) (by omega)]
    have e : wDg c j = cS (c * 6 + j) - 96 := by unfold wDg; rw [Nat.mul_comm]
    show _ = g_X8_kindOf_L18 K c0 (nI c) N (nI (qf (wDg c) j * 32 + wDg c j)) (nI (j + 1)) h
    rw [← nI_sh5 hv hdl, e]
    rcases hcs with q | q
    · rw [if_neg (show ¬ lcr (cS (c * 6 + j)) by unfold lcr; omega), if_pos rfl, q]; rfl
    · rw [if_pos q, if_neg (by decide), show (97 : Int32) = nI 97 from rfl, pk_sub (by omega), nI_1, show cS (c * 6 + j) - 97 + 1 = cS (c * 6 + j) - 96 by omega]
theorem x_kindOf_L2 (x : Nat) (hx : x < 2 ^ 30) (h : HH) : ∀ m c N, c + m = 24 → m < N → (∀ k, k < c → qf (wDg k) 6 ≠ x) →
    (∃ k, k < 24 ∧ qf (wDg k) 6 = x ∧ g_X8_kindOf_L2 (nI x) N (nI c) h = some (nI (17 + k), h)) ∨ ((∀ k, k < 24 → qf (wDg k) 6 ≠ x) ∧ g_X8_kindOf_L2 (nI x) N (nI c) h = some (3, h)) := by
  intro m
  induction m with
  | zero =>
    intro c N hc hN hk
    obtain ⟨N, rfl⟩ : ∃ N', N = N' + 1 := ⟨N - 1, by omega⟩
    obtain rfl : c = 24 := by omega
    exact Or.inr ⟨hk, by rw [g_X8_kindOf_L2, if_neg (by decide)]⟩
  | succ m ih =>
    intro c N hc hN hk
    obtain ⟨N, rfl⟩ : ∃ N', N = N' + 1 := ⟨N - 1, by omega⟩
    have hl : qf (wDg c) 6 < 2 ^ 30 := qf_lt _ 6 fun j hj => wDg_f c (by omega) j hj
    rw [g_X8_kindOf_L2, if_pos (show nI c * 6 < 144 by rw [show (6 : Int32) = nI 6 from rfl, nI_mul]; exact nI_lt (b := 144) (by omega) (by decide))]
    obtain ⟨N1, hN1⟩ : ∃ N1 : Nat, N1 = 1024 := ⟨_, rfl⟩
    rw [← hN1]
    rw [show (0 : Int32) = nI 0 from rfl, show nI 0 = nI (qf (wDg c) 0) from rfl, show g_X8_kindOf_L18 _ (nI x) (nI c) N1 (nI (qf (wDg c) 0)) (nI (qf (wDg c) 0)) h = _ from x_kindOf_L18 _ (nI x) (c := c) (by omega) h 6 0 N1 (by omega) (by omega)]
    by_cases q : qf (wDg c) 6 = x
    · exact Or.inl ⟨c, by omega, q, by rw [if_pos (by rw [q]), show (17 : Int32) = nI 17 from rfl, nI_add]⟩
    · rw [if_neg (fun e => q ((nI_eq (by omega) (by omega)).mp e))]
      simp only [vl]
      rw [nI_1]
      exact ih (c + 1) N (by omega) (by omega) fun k hk2 => by
        by_cases e : k = c
        · rw [e]; exact q
        · exact hk k (by omega)
theorem dg_k {tp : Nat → Nat} {n i l : Nat} (r : runP lcr tp n i l) (hl : l ≤ 6) {w : Nat} (hw : w < 24) : qf (wDg (sW w)) 6 = qf (dgT tp i l) 6 ↔ rL w = l ∧ ∀ j, j < l → tp (i + j) = rS (rP w + j) := by
  obtain ⟨s1, s2, s3⟩ := sW_f w hw
  obtain ⟨p1, p2, p3, p4, p5, p6⟩ := rP_f w hw
  have lt : ∀ j, j < l → 97 ≤ tp (i + j) ∧ tp (i + j) ≤ 122 := fun j hj => r.2.1 (i + j) (by omega) (by omega)
  rw [qf_eq _ _ 6 (fun j hj => wDg_f _ s1 j hj) (fun j _ => dg_lt r j)]
  constructor
  · intro e
    have hd : ∀ j, j < 6 → (if j < rL w then rS (rP w + j) - 96 else 0) = if j < l then tp (i + j) - 96 else 0 := fun j hj => (s3 j hj).symm.trans (e j hj)
    have el : rL w = l := by
      rcases Nat.lt_trichotomy (rL w) l with q | q | q
      · have := hd (rL w) (by omega)
        rw [if_neg (by omega), if_pos q] at this
        have := lt _ q
        omega
      · exact q
      · have := hd l (by omega)
        rw [if_pos q, if_neg (by omega)] at this
        have := p6 _ q
        omega
    refine ⟨el, fun j hj => ?_⟩
    have := hd j (by omega)
    rw [if_pos (by omega), if_pos hj] at this
    have a := lt j hj
    have b := p6 j (by omega)
    omega
  · intro ⟨e1, e2⟩ j hj
    rw [s3 j hj]
    unfold dgT
    by_cases q : j < l
    · rw [if_pos (by omega), if_pos q, e2 j q]
    · rw [if_neg (by omega), if_neg q]
/-- how far the text goes along with a word -/
theorem r_word_L15 (K : Int32 → HH → Option (Int32 × HH)) (c1 : Int32) {tp : Nat → Nat} {n i l : Nat} {h : HH} (hb : bR tp n h) (hr : runP lcr tp n i l) (e1 : h.1 255 24 = nI i) (e2 : h.1 255 23 = nI (i + l)) {w : Nat} (hw : w < 24) :
    ∀ m z N, z + m = rL w → m < N → z ≤ l → (∀ j, j < z → tp (i + j) = rS (rP w + j)) →
      ∃ z', z' ≤ rL w ∧ z' ≤ l ∧ g_X11_word_L15 K c1 (nI (rP w)) N (nI z) h = K (nI z') h ∧ ((z' = rL w ∧ z' = l) ↔ (rL w = l ∧ ∀ j, j < l → tp (i + j) = rS (rP w + j))) := by
  obtain ⟨p1, p2, p3, p4, p5, p6⟩ := rP_f w hw
  intro m
  induction m with
  | zero =>
    intro z N hz hN hzl hm
    obtain ⟨N, rfl⟩ : ∃ N', N = N' + 1 := ⟨N - 1, by omega⟩
    obtain rfl : z = rL w := by omega
    refine ⟨rL w, Nat.le_refl _, hzl, ?_, fun q => ⟨q.2, fun j hj => hm j (by omega)⟩, fun q => ⟨rfl, q.1⟩⟩
    rw [g_X11_word_L15, nI_add, chS3 (by omega), p2, if_pos (show nI 32 = 32 from rfl)]
  | succ m ih =>
    intro z N hz hN hzl hm
    obtain ⟨N, rfl⟩ : ∃ N', N = N' + 1 := ⟨N - 1, by omega⟩
    have lz := p6 z (by omega)
    rw [g_X11_word_L15, nI_add, chS3 (by omega), if_neg (fun e => by have := (nI_eq (b := 32) (by omega) (by decide)).mp e; omega)]
    simp only [gfI]
    rw [e1, e2, nI_add]
    have r1 := hr.1
    have b0 := hb.1
    by_cases q : z < l
    · rw [if_pos (nI_lt (by omega) (by omega)), ldI_of (by omega) (by decide), (hb.2.2 (i + z) (by omega)).2, chS3 (by omega)]
      by_cases t : tp (i + z) = rS (rP w + z)
      · rw [if_pos (by rw [t])]
        simp only [vl]
        rw [nI_1]
        exact ih (z + 1) N (by omega) (by omega) (by omega) fun j hj => by
          by_cases e : j = z
          · rw [e]; exact t
          · exact hm j (by omega)
      · have c1 := hr.2.1 (i + z) (by omega) (by omega)
        unfold lcr at c1
        rw [if_neg (fun e => t ((nI_eq (by omega) (by omega)).mp e))]
        exact ⟨z, by omega, hzl, rfl, fun q2 => absurd q2.1 (by omega), fun q2 => absurd (q2.2 z q) t⟩
    · rw [if_neg (nI_nlt (by omega) (by omega))]
      exact ⟨z, by omega, hzl, rfl, fun q2 => absurd q2.1 (by omega), fun q2 => by omega⟩
theorem r_word_L97 (K : Int32 → HH → Option (Int32 × HH)) (c1 : Int32) {w : Nat} (hw : w < 24) (h : HH) : ∀ m z N, z + m = rL w → m < N → g_X11_word_L97 K c1 N (nI (rP w + z)) h = K (nI (rP w + rL w)) h := by
  obtain ⟨p1, p2, p3, p4, p5, p6⟩ := rP_f w hw
  intro m
  induction m with
  | zero =>
    intro z N hz hN
    obtain ⟨N, rfl⟩ : ∃ N', N = N' + 1 := ⟨N - 1, by omega⟩
    obtain rfl : z = rL w := by omega
    rw [g_X11_word_L97, chS3 (by omega), p2, if_pos (show nI 32 = 32 from rfl)]
  | succ m ih =>
    intro z N hz hN
    obtain ⟨N, rfl⟩ : ∃ N', N = N' + 1 := ⟨N - 1, by omega⟩
    have lz := p6 z (by omega)
    rw [g_X11_word_L97, chS3 (by omega), if_neg (fun e => by have := (nI_eq (b := 32) (by omega) (by decide)).mp e; omega)]
    simp only [vl]
    rw [nI_1]
    exact ih (z + 1) N (by omega) (by omega)
/-- the reference's word: it is one of the language's, or none -/
theorem r_word_L {tp : Nat → Nat} {n i l : Nat} {h : HH} (hb : bR tp n h) (hr : runP lcr tp n i l) (e1 : h.1 255 24 = nI i) (e2 : h.1 255 23 = nI (i + l)) :
    ∀ m w N, w + m = 24 → m < N → (∀ k, k < w → ¬ (rL k = l ∧ ∀ j, j < l → tp (i + j) = rS (rP k + j))) →
      (∃ k, k < 24 ∧ (rL k = l ∧ ∀ j, j < l → tp (i + j) = rS (rP k + j)) ∧ g_X11_word_L4 N (nI w) (nI (rP w)) h = some (nI k, h)) ∨ ((∀ k, k < 24 → ¬ (rL k = l ∧ ∀ j, j < l → tp (i + j) = rS (rP k + j))) ∧ g_X11_word_L4 N (nI w) (nI (rP w)) h = some (-1, h)) := by
  have r1 := hr.1
  have b0 := hb.1
  intro m
  induction m with
  | zero =>
    intro w N hw hN hk
    obtain ⟨N, rfl⟩ : ∃ N', N = N' + 1 := ⟨N - 1, by omega⟩
    obtain rfl : w = 24 := by omega
    exact Or.inr ⟨hk, by rw [g_X11_word_L4, if_neg (by decide)]⟩
  | succ m ih =>
    intro w N hw hN hk
    obtain ⟨N, rfl⟩ : ∃ N', N = N' + 1 := ⟨N - 1, by omega⟩
    obtain ⟨p1, p2, p3, p4, p5, p6⟩ := rP_f w (by omega)
    obtain ⟨N1, hN1⟩ : ∃ N1 : Nat, N1 = 1024 := ⟨_, rfl⟩
    rw [g_X11_word_L4, if_pos (show nI (rP w) < 123 from nI_lt (b := 123) (by omega) (by decide)), ← hN1]
    obtain ⟨z, z1, z2, z3, z4⟩ := r_word_L15 (fun (z9 : Int32) (h8 : HH) =>
        chS 3 (nI (rP w) + z9) fun v10 =>
        jn (fun  (h13 : HH) =>
          g_X11_word_L97 (fun (z17 : Int32) (h16 : HH) =>
            vl (z17 + (1 : Int32)) fun v18 =>
            vl (nI w + (1 : Int32)) fun v19 =>
            g_X11_word_L4  N v19 v18 h16) (nI w) N1 (nI (rP w)) h13) fun j11 =>
        if v10 = (32 : Int32) then
          (gfI h8 255 24 fun v20 =>
          gfI h8 255 23 fun v21 =>
          if (v20 + z9) = v21 then
            (some (nI w, h8))
          else
            (j11 h8))
        else
          (j11 h8)) (nI w) hb hr e1 e2 (w := w) (by omega) (rL w) 0 N1 (by omega) (by omega) (by omega) (fun j hj => by omega)
    rw [show (0 : Int32) = nI 0 from rfl, z3, nI_add, chS3 (by omega)]
    simp only [jn, gfI, vl]
    have go : ¬ (rL w = l ∧ ∀ j, j < l → tp (i + j) = rS (rP w + j)) → g_X11_word_L97 (fun (z17 : Int32) (h16 : HH) => g_X11_word_L4 N (nI w + 1) (z17 + 1) h16) (nI w) N1 (nI (rP w)) h = g_X11_word_L4 N (nI (w + 1)) (nI (rP (w + 1))) h := by
      intro _
      rw [show nI (rP w) = nI (rP w + 0) from rfl, r_word_L97 _ _ (w := w) (by omega) h (rL w) 0 N1 (by omega) (by omega), nI_1, nI_1, p3]
    have nx := fun hn : ¬ (rL w = l ∧ ∀ j, j < l → tp (i + j) = rS (rP w + j)) => ih (w + 1) N (by omega) (by omega) fun k hk2 => by
      by_cases e : k = w
      · rw [e]; exact hn
      · exact hk k (by omega)
    by_cases M : rL w = l ∧ ∀ j, j < l → tp (i + j) = rS (rP w + j)
    · obtain ⟨y1, y2⟩ := z4.mpr M
      refine Or.inl ⟨w, by omega, M, ?_⟩
      rw [y1, p2, if_pos (show nI 32 = 32 from rfl), e1, e2, nI_add, if_pos (by congr 1; omega)]
    · have g := go M
      have nM := nx M
      by_cases q : z = rL w
      · rw [q, p2, if_pos (show nI 32 = 32 from rfl), e1, e2, nI_add, if_neg (fun e => M (z4.mp ⟨q, by have := (nI_eq (by omega) (by omega)).mp e; omega⟩)), g]
        exact nM
      · have lz := p6 z (by omega)
        rw [if_neg (fun e => by have := (nI_eq (b := 32) (by omega) (by decide)).mp e; omega), g]
        exact nM
/-- the reference's number of a name -/
theorem r_name_L {tp : Nat → Nat} {n i l : Nat} (hr : runP lcr tp n i l) : ∀ m k N (h : HH), k + m = 6 → m < N → bR tp n h → h.1 255 24 = nI i → h.1 255 23 = nI (i + l) → h.1 255 26 = nI (qf (dgT tp i l) k) →
    ∃ h', g_X11_name_L7 N (nI k) h = some ((), h') ∧ h'.1 255 26 = nI (qf (dgT tp i l) 6) ∧ (∀ a j, ¬ (a = 255 ∧ j = 26) → h'.1 a j = h.1 a j) ∧ h'.2 = h.2 := by
  have r1 := hr.1
  intro m
  induction m with
  | zero =>
    intro k N h hk hN hb e1 e2 e3
    obtain ⟨N, rfl⟩ : ∃ N', N = N' + 1 := ⟨N - 1, by omega⟩
    obtain rfl : k = 6 := by omega
    exact ⟨h, by rw [g_X11_name_L7, if_neg (by decide)], e3, fun _ _ _ => rfl, rfl⟩
  | succ m ih =>
    intro k N h hk hN hb e1 e2 e3
    obtain ⟨N, rfl⟩ : ∃ N', N = N' + 1 := ⟨N - 1, by omega⟩
    have b0 := hb.1
    have hv : qf (dgT tp i l) k < 2 ^ 25 := Nat.lt_of_lt_of_le (qf_lt _ k fun j _ => dg_lt hr j) (Nat.pow_le_pow_right (by decide) (by omega))
    have s1 : tkS h (wrI h 255 26 (nI (qf (dgT tp i l) (k + 1)))) := tkS_w h _ (by omega) (by omega)
    obtain ⟨h', f1, f2, f3, f4⟩ := ih (k + 1) N (wrI h 255 26 (nI (qf (dgT tp i l) (k + 1)))) (by omega) (by omega) (hb.k s1) (by rw [wrI_1, if_neg (by omega)]; exact e1) (by rw [wrI_1, if_neg (by omega)]; exact e2) (wrI_at _ _ _ _)
    refine ⟨h', ?_, f2, fun a j q => (f3 a j q).trans (by rw [wrI_1, if_neg q]), f4⟩
    rw [← f1, g_X11_name_L7, if_pos (show nI k < 6 from nI_lt (b := 6) (by omega) (by decide))]
    simp only [gfI, pfI, jn, vl]
    rw [e1, e2, e3, nI_add, nI_1]
    show _ = g_X11_name_L7 N (nI (k + 1)) (wrI h 255 26 (nI (qf (dgT tp i l) k * 32 + dgT tp i l k)))
    rw [← nI_sh5 hv (dg_lt hr k)]
    unfold dgT
    by_cases q : k < l
    · have c1 := hr.2.1 (i + k) (by omega) (by omega)
      unfold lcr at c1
      rw [if_pos (nI_lt (by omega) (by omega)), ldI_of (by omega) (by decide), (hb.2.2 (i + k) (by omega)).2, if_pos q, show (97 : Int32) = nI 97 from rfl, pk_sub (by omega), nI_1, show tp (i + k) - 97 + 1 = tp (i + k) - 96 by omega]
    · rw [if_neg (nI_nlt (by omega) (by omega)), if_neg q]
      rfl
