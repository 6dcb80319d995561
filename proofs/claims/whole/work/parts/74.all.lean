/-! all tokens of a text cut -/
/-- tokens from t on, up to L: where the reference begins, where each stands, what it is -/
def TQ (tp : Nat → Nat) (n : Nat) (h : HH) (t L : Nat) (st PL : Nat → Nat) : Prop := ∀ j, t ≤ j → j < L → NT tp n (st j) (PL j) (st (j + 1)) (h.1 26 j) (h.1 28 j) ∧ h.1 27 j = nI (PL j) ∧ st (j + 1) ≤ n ∧ PL j ≤ n
theorem bC.k {tp : Nat → Nat} {n : Nat} {h h' : HH} (b : bC tp n h) (e : ∀ k, h'.1 1 k = h.1 1 k) : bC tp n h' := ⟨b.1, fun i hi => ⟨(b.2 i hi).1, (e i).trans (b.2 i hi).2⟩⟩
theorem pt_o (k : Int32) (i : Nat) (v : Int32) (t : Nat) (h : HH) (a j : Nat) (h1 : ¬ ((26 ≤ a ∧ a ≤ 28) ∧ t = j)) (h2 : ¬ (a = 25 ∧ j = 3)) : (ptH k i v t h).1 a j = h.1 a j := by
  unfold ptH
  rw [wrI_1, if_neg (by omega), wrI_1, if_neg (by omega), wrI_1, if_neg (by omega), wrI_1, if_neg (by omega)]
theorem pt_26 (k : Int32) (i : Nat) (v : Int32) (t : Nat) (h : HH) : (ptH k i v t h).1 26 t = k := by
  unfold ptH
  rw [wrI_1, if_neg (by omega), wrI_1, if_neg (by omega), wrI_1, if_neg (by omega), wrI_at]
theorem pt_27 (k : Int32) (i : Nat) (v : Int32) (t : Nat) (h : HH) : (ptH k i v t h).1 27 t = nI i := by
  unfold ptH
  rw [wrI_1, if_neg (by omega), wrI_1, if_neg (by omega), wrI_at]
theorem pt_28 (k : Int32) (i : Nat) (v : Int32) (t : Nat) (h : HH) : (ptH k i v t h).1 28 t = v := by
  unfold ptH
  rw [wrI_1, if_neg (by omega), wrI_at]
theorem pt_3 (k : Int32) (i : Nat) (v : Int32) (t : Nat) (h : HH) : (ptH k i v t h).1 25 3 = nI (t + 1) := wrI_at _ _ _ _
def cutK (n : Nat) : HH → Option (Unit × HH) := fun h22 => bnd (g_X8_put (0 : Int32) (nI n) (0 : Int32) h22) fun _ h23 => some ((), h23)
theorem x_cut_L {tp : Nat → Nat} {n : Nat} : ∀ d i t s N left (h : HH), n - i ≤ d → bC tp n h → h.1 25 3 = nI t → t ≤ i → i ≤ n → s ≤ i → (∀ j, s ≤ j → j < i → spc (tp j)) → n - i ≤ left → left ≤ n → left < N →
    ∃ h' L st PL, g_X8_cut_L10 (cutK n) (nI n) N (nI i) (nI left) h = some ((), h') ∧ t < L ∧ L ≤ 701 ∧ h'.1 25 3 = nI L ∧ st t = s ∧ TQ tp n h' t L st PL ∧ h'.1 26 (L - 1) = 0 ∧ (∀ j, t ≤ j → j < L - 1 → ¬ h'.1 26 j = 0) ∧ (∀ a k, ¬ ((26 ≤ a ∧ a ≤ 28) ∧ t ≤ k) → ¬ (a = 25 ∧ k = 3) → h'.1 a k = h.1 a k) ∧ h'.2 = h.2 := by
  intro d
  induction d with
  | zero =>
    intro i t s N left h hd hb e ht hi hs hsp hl1 hl2 hN
    obtain ⟨N, rfl⟩ : ∃ N', N = N' + 1 := ⟨N - 1, by omega⟩
    have b0 := hb.1
    obtain rfl : i = n := by omega
    refine ⟨ptH 0 i 0 t h, t + 1, fun j => if j = t then s else i, fun _ => i, ?_, by omega, by omega, pt_3 _ _ _ _ _, if_pos rfl, ?_, pt_26 _ _ _ _ _, fun j j1 j2 => by omega, fun a k q1 q2 => pt_o _ _ _ _ _ _ _ (by omega) q2, rfl⟩
    · have put : cutK i h = some ((), ptH 0 i 0 t h) := by
        unfold cutK
        rw [x_putT _ _ _ (by omega) e]; rfl
      rw [g_X8_cut_L10, if_neg (show ¬ nI i < nI i from nI_nlt (Nat.le_refl _) (by omega))]
      split <;> exact put
    · intro j j1 j2
      obtain rfl : j = t := by omega
      rw [pt_26, pt_27, pt_28]
      dsimp only
      rw [if_pos rfl, if_neg (by omega)]
      exact ⟨NT_of hs (Nat.le_refl _) hsp (fun z => by omega) fun g gb ge => r_tEnd 0 g gb ge, rfl, Nat.le_refl _, Nat.le_refl _⟩
  | succ d ih =>
    intro i t s N left h hd hb e ht hi hs hsp hl1 hl2 hN
    by_cases hin : i = n
    · subst hin
      have b0 := hb.1
      obtain ⟨N, rfl⟩ : ∃ N', N = N' + 1 := ⟨N - 1, by omega⟩
      refine ⟨ptH 0 i 0 t h, t + 1, fun j => if j = t then s else i, fun _ => i, ?_, by omega, by omega, pt_3 _ _ _ _ _, if_pos rfl, ?_, pt_26 _ _ _ _ _, fun j j1 j2 => by omega, fun a k q1 q2 => pt_o _ _ _ _ _ _ _ (by omega) q2, rfl⟩
      · have put : cutK i h = some ((), ptH 0 i 0 t h) := by
          unfold cutK
          rw [x_putT _ _ _ (by omega) e]; rfl
        rw [g_X8_cut_L10, if_neg (show ¬ nI i < nI i from nI_nlt (Nat.le_refl _) (by omega))]
        split <;> exact put
      · intro j j1 j2
        obtain rfl : j = t := by omega
        rw [pt_26, pt_27, pt_28]
        dsimp only
        rw [if_pos rfl, if_neg (by omega)]
        exact ⟨NT_of hs (Nat.le_refl _) hsp (fun z => by omega) fun g gb ge => r_tEnd 0 g gb ge, rfl, Nat.le_refl _, Nat.le_refl _⟩
    obtain ⟨N, rfl⟩ : ∃ N', N = N' + 1 := ⟨N - 1, by omega⟩
    obtain ⟨left, rfl⟩ : ∃ l', left = l' + 1 := ⟨left - 1, by omega⟩
    have b0 := hb.1
    have q : i < n := by omega
    have c0 := (hb.2 i q).1
    have hby := (hb.2 i q).2
    have op : ∀ R, (g_X8_cut_L10 (cutK n) (nI n) (N + 1) (nI i) (nI (left + 1)) h = R) = (_ = R) := fun R => by
      rw [g_X8_cut_L10, if_pos (show 0 < nI (left + 1) from nI_lt (a := 0) (by omega) (by omega)), if_pos (nI_lt q (by omega)), ldI_of (by omega) (by decide), hby]
    -- a token
    have tok : ∀ (k v : Int32) (l : Nat), 1 ≤ l → i + l ≤ n → ¬ k = 0 → ¬ spc (tp i) → (∀ g, bR tp n g → g.1 255 23 = nI i → ∃ h', tkR g = some ((), h') ∧ tkS g h' ∧ h'.1 255 23 = nI (i + l) ∧ h'.1 255 24 = nI i ∧ sv k v (h'.1 255 25) (h'.1 255 26)) →
        ∃ h' L st PL, g_X8_cut_L10 (cutK n) (nI n) N (nI (i + l)) (nI left) (ptH k i v t h) = some ((), h') ∧ t < L ∧ L ≤ 701 ∧ h'.1 25 3 = nI L ∧ st t = s ∧ TQ tp n h' t L st PL ∧ h'.1 26 (L - 1) = 0 ∧ (∀ j, t ≤ j → j < L - 1 → ¬ h'.1 26 j = 0) ∧ (∀ a k, ¬ ((26 ≤ a ∧ a ≤ 28) ∧ t ≤ k) → ¬ (a = 25 ∧ k = 3) → h'.1 a k = h.1 a k) ∧ h'.2 = h.2 := by
      intro k v l l1 l2 hk hsc hg
      obtain ⟨h', L, st, PL, f1, f2, f3, f4, f5, f6, f7, f8, f9, f10⟩ := ih (i + l) (t + 1) (i + l) N left (ptH k i v t h) (by omega) (hb.k fun j => pt_o _ _ _ _ _ _ _ (by omega) (by omega)) (pt_3 _ _ _ _ _) (by omega) l2 (Nat.le_refl _) (fun j j1 j2 => by omega) (by omega) (by omega) (by omega)
      refine ⟨h', L, fun j => if j = t then s else st j, fun j => if j = t then i else PL j, f1, by omega, f3, f4, if_pos rfl, fun j j1 j2 => ?_, f7, fun j j1 j2 => ?_, fun a k q1 q2 => (f9 a k (by omega) q2).trans (pt_o _ _ _ _ _ _ _ (by omega) q2), f10⟩
      · dsimp only
        by_cases z : j = t
        · subst z
          rw [if_pos rfl, if_pos rfl, if_neg (by omega), f5, f9 26 j (by omega) (by omega), f9 27 j (by omega) (by omega), f9 28 j (by omega) (by omega), pt_26, pt_27, pt_28]
          exact ⟨NT_of hs hi hsp (fun _ => hsc) hg, rfl, l2, hi⟩
        · rw [if_neg z, if_neg z, if_neg (by omega)]
          exact f6 j (by omega) j2
      · by_cases z : j = t
        · subst z
          rw [f9 26 j (by omega) (by omega), pt_26]; exact hk
        · exact f8 j (by omega) j2
    by_cases sp : spc (tp i)
    · obtain ⟨h', L, st, PL, f1, f2⟩ := ih (i + 1) t s N left h (by omega) hb e (by omega) (by omega) (by omega) (fun j j1 j2 => by
        by_cases z : j = i
        · rw [z]; exact sp
        · exact hsp j j1 (by omega)) (by omega) (by omega) (by omega)
      refine ⟨h', L, st, PL, ?_, f2⟩
      rw [op, ← f1]
      simp only [jn, vl]
      rw [nI_1, pk_m1]
      rcases sp with z | z
      · rw [if_pos (by rw [z]; rfl)]
      · rw [if_neg (by rw [z]; decide), if_pos (by rw [z]; rfl)]
    have n10 : ¬ byC (tp i) = 10 := fun z => sp (Or.inl ((byC_eq (k := 10) c0 (by decide)).mp z))
    have n32 : ¬ byC (tp i) = 32 := fun z => sp (Or.inr ((byC_eq (k := 32) c0 (by decide)).mp z))
    by_cases dd : dgt (tp i)
    · obtain ⟨m, hr⟩ := run_ex dgt tp n (n - i) i (by omega)
      obtain ⟨m, rfl⟩ : ∃ m', m = m' + 1 := ⟨m - 1, by
        have : m ≠ 0 := fun z => by subst z; exact hr.z.2 q dd
        omega⟩
      obtain ⟨h', L, st, PL, f1, f2⟩ := tok 2 (nI (nvC tp (m + 1) i 0)) (m + 1) (by omega) hr.1 (by decide) sp fun g gb ge => r_tNum hr g gb ge
      refine ⟨h', L, st, PL, ?_, f2⟩
      rw [op, ← f1]
      simp only [jn, vl]
      rw [pk_m1, if_neg n10, if_neg n32, byC_dig c0, bnd_some, if_pos dd, if_neg (by decide), x_tNum hr hb (by omega) e, bnd_some]
    by_cases ll : lcr (tp i)
    · obtain ⟨m, hr⟩ := run_ex lcr tp n (n - i) i (by omega)
      obtain ⟨m, rfl⟩ : ∃ m', m = m' + 1 := ⟨m - 1, by
        have : m ≠ 0 := fun z => by subst z; exact hr.z.2 q ll
        omega⟩
      obtain ⟨k, v, w1, w3, w2⟩ := x_tWord hr hb (t := t) (by omega) e
      obtain ⟨h', L, st, PL, f1, f2⟩ := tok k v (m + 1) (by omega) hr.1 w3 sp w2
      refine ⟨h', L, st, PL, ?_, f2⟩
      rw [op, ← f1]
      simp only [jn, vl]
      rw [pk_m1, if_neg n10, if_neg n32, byC_dig c0, bnd_some, if_neg dd, if_pos rfl, byC_let c0, bnd_some, if_pos ll, if_neg (by decide), w1, bnd_some]
    · obtain ⟨k, l, l1, l2, w1, w3, w2⟩ := x_tSign q sp dd ll hb (t := t) (by omega) e
      obtain ⟨h', L, st, PL, f1, f2⟩ := tok k 0 l l1 l2 w3 sp w2
      refine ⟨h', L, st, PL, ?_, f2⟩
      rw [op, ← f1]
      simp only [jn, vl]
      rw [pk_m1, if_neg n10, if_neg n32, byC_dig c0, bnd_some, if_neg dd, if_pos rfl, byC_let c0, bnd_some, if_neg ll, if_pos rfl, w1, bnd_some]
theorem x_cut {tp : Nat → Nat} {n : Nat} {h : HH} (hb : bC tp n h) :
    ∃ h' L st PL, g_X8_cut (nI n) h = some ((), h') ∧ 0 < L ∧ L ≤ 701 ∧ h'.1 25 3 = nI L ∧ st 0 = 0 ∧ TQ tp n h' 0 L st PL ∧ h'.1 26 (L - 1) = 0 ∧ (∀ j, j < L - 1 → ¬ h'.1 26 j = 0) ∧ (∀ a k, ¬ (26 ≤ a ∧ a ≤ 28) → ¬ (a = 25 ∧ k = 3) → h'.1 a k = h.1 a k) ∧ h'.2 = h.2 := by
  obtain ⟨N1, hN1⟩ : ∃ N1 : Nat, N1 = 1024 := ⟨_, rfl⟩
  have b0 := hb.1
  obtain ⟨h', L, st, PL, f1, f2, f3, f4, f5, f6, f7, f8, f9, f10⟩ := x_cut_L (tp := tp) (n := n) n 0 0 0 N1 n (wrI h 25 3 0) (by omega) (hb.k fun k => by rw [wrI_1, if_neg (by omega)]) (wrI_at _ _ _ _) (Nat.le_refl _) (by omega) (Nat.le_refl _) (fun j j1 j2 => by omega) (by omega) (Nat.le_refl _) (by omega)
  refine ⟨h', L, st, PL, ?_, f2, f3, f4, f5, f6, f7, fun j hj => f8 j (by omega) hj, fun a k q1 q2 => (f9 a k (fun z => q1 z.1) q2).trans (by rw [wrI_1, if_neg q2]), f10⟩
  unfold g_X8_cut
  simp only [pfI]
  rw [← hN1]
  exact f1
