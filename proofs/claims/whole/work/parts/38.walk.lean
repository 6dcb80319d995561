/-! the class: a way by foot -/
def dnA (a t : Nat) : Nat → TB → TB
  | 0, S => S
  | k + 1, S => dnA a t k (up (up S 1 a (nI (t + k))) 5 (6 * a + (t + k)) (adT (S 5 (6 * a + (t + k))) (-1)))
def upA (P : TB) (fo : Nat → Int32) (np md a : Nat) : Nat → Nat → TB → Bool × TB
  | 0, _, S => (true, S)
  | k + 1, f, S => if (riA P S fo np md a f).1 then upA P fo np md a k (f + 1) (riA P S fo np md a f).2 else (false, (riA P S fo np md a f).2)
/-- by foot from the floor fl to the floor t -/
def wkA (P : TB) (fo : Nat → Int32) (np md a fl t : Nat) (S : TB) : Bool × TB := if t < fl then (true, dnA a t (fl - t) S) else upA P fo np md a (t - fl) fl S
theorem riA_fl {P S : TB} {fo : Nat → Int32} {np md a f : Nat} (h : (riA P S fo np md a f).1 = true) : (riA P S fo np md a f).2 1 a = nI (f + 1) := by
  unfold riA at h ⊢
  split
  · rename_i c; rw [if_pos c] at h; cases h
  · rename_i c
    rw [if_neg c] at h
    split
    · rename_i c2; rw [if_pos c2] at h; cases h
    · simp only [up_at, nI_1]
theorem nI_1' (a : Nat) : nI a - 1 = nI a - 1 := rfl
section CW
variable {p q z np md : Nat} {P : TB} {fo : Nat → Int32}
theorem x_down (K : HH → Option (Int32 × HH)) {a t : Nat} (ha : a < 6) : ∀ (k n x : Nat) (S : TB) (h : HH), cAt h p q z P S fo np md → S 1 a = nI (t + k) → t + k ≤ 6 → k ≤ x → x ≤ 6 → k < n → ∃ h', scQ q h h' ∧ cAt h' p q z P (dnA a t k S) fo np md ∧ g_X0_walkTo_L8 K (nI a) (nI t) n (nI x) h = K h' := by
  intro k
  induction k with
  | zero =>
    intro n x S h c hf hl hx hx6 hn
    obtain ⟨n, rfl⟩ : ∃ n', n = n' + 1 := ⟨n - 1, by omega⟩
    refine ⟨h, scQ_rf q h, c, ?_⟩
    rw [g_X0_walkTo_L8]
    by_cases x0 : (0 : Int32) < nI x
    · simp only [gfR]
      have e1 : h.1 (q + 1) a = nI t := (c.2.2.2.2.2.2.2.1 1 a (by decide)).trans hf
      rw [if_pos x0, c.2.1, ckH_of c.2.2.2.2.1, ldI_of ha (by decide), e1, if_neg (nI_nlt (Nat.le_refl _) (by omega))]
    · rw [if_neg x0]
  | succ k ih =>
    intro n x S h c hf hl hx hx6 hn
    obtain ⟨n, rfl⟩ : ∃ n', n = n' + 1 := ⟨n - 1, by omega⟩
    obtain ⟨x, rfl⟩ : ∃ x', x = x' + 1 := ⟨x - 1, by omega⟩
    have k7 := c.2.2.2.2.1
    have e1 : h.1 (q + 1) a = nI (t + k + 1) := (c.2.2.2.2.2.2.2.1 1 a (by decide)).trans hf
    obtain ⟨w1, w2⟩ := c.wr (o := 1) a (nI (t + k)) (by decide)
    obtain ⟨v1, v2⟩ := w2.wr (o := 5) (6 * a + (t + k)) (adT (S 5 (6 * a + (t + k))) (-1)) (by decide)
    have e5 : (wrI h (q + 1) a (nI (t + k))).1 (q + 5) (6 * a + (t + k)) = S 5 (6 * a + (t + k)) := by
      rw [w2.2.2.2.2.2.2.2.1 5 _ (by decide), up_ne _ _ _ _ _ _ (by omega)]
    have ex : nI (x + 1) + -1 = nI x := by
      rw [show nI (x + 1) + -1 = nI (x + 1) - 1 by rw [Int32.sub_eq_add_neg]]
      exact nI_pred x
    have prog : g_X0_walkTo_L8 K (nI a) (nI t) (n + 1) (nI (x + 1)) h = g_X0_walkTo_L8 K (nI a) (nI t) n (nI x) (wrI (wrI h (q + 1) a (nI (t + k))) (q + 5) (6 * a + (t + k)) (adT (S 5 (6 * a + (t + k))) (-1))) := by
      rw [g_X0_walkTo_L8]
      simp only [gfR, vl]
      rw [if_pos (show (0 : Int32) < nI (x + 1) from nI_lt (a := 0) (by omega) (by omega)), c.2.1, ckH_of k7, ldI_of ha (by decide), e1, if_pos (nI_lt (by omega) (by omega)), ckH_of k7, ldI_of ha (by decide), e1, nI_pred, stI_of ha (by decide), w2.2.1, ckH_of k7, ckH_of k7, ldI_of ha (by decide), wrI_at, x_cell, bnd_some, x_addTally k7 (by omega), e5, bnd_some, ex]
    obtain ⟨h', s, c', e⟩ := ih n x _ _ v2 (by rw [up_ne _ _ _ _ _ _ (by omega), up_at]) (by omega) (by omega) (by omega) (by omega)
    exact ⟨h', (w1.tr v1).tr s, c', prog.trans e⟩
theorem x_up {a t : Nat} (ha : a < 6) : ∀ (k f n x : Nat) (S : TB) (h : HH), cAt h p q z P S fo np md → S 1 a = nI f → f + k = t → t ≤ 6 → k ≤ x → x ≤ 6 → k < n → ∃ h', scQ q h h' ∧ cAt h' p q z P (upA P fo np md a k f S).2 fo np md ∧ g_X0_walkTo_L73 (nI a) (nI t) n (nI x) h = some (if (upA P fo np md a k f S).1 then 1 else 0, h') := by
  intro k
  induction k with
  | zero =>
    intro f n x S h c hf hl ht hx hx6 hn
    obtain ⟨n, rfl⟩ : ∃ n', n = n' + 1 := ⟨n - 1, by omega⟩
    refine ⟨h, scQ_rf q h, c, ?_⟩
    rw [g_X0_walkTo_L73]
    by_cases x0 : (0 : Int32) < nI x
    · simp only [gfR]
      have e1 : h.1 (q + 1) a = nI f := (c.2.2.2.2.2.2.2.1 1 a (by decide)).trans hf
      rw [if_pos x0, c.2.1, ckH_of c.2.2.2.2.1, ldI_of ha (by decide), e1, if_neg (nI_nlt (by omega) (by omega))]
      rfl
    · rw [if_neg x0]
      rfl
  | succ k ih =>
    intro f n x S h c hf hl ht hx hx6 hn
    obtain ⟨n, rfl⟩ : ∃ n', n = n' + 1 := ⟨n - 1, by omega⟩
    obtain ⟨x, rfl⟩ : ∃ x', x = x' + 1 := ⟨x - 1, by omega⟩
    have k7 := c.2.2.2.2.1
    have e1 : h.1 (q + 1) a = nI f := (c.2.2.2.2.2.2.2.1 1 a (by decide)).trans hf
    have ex : nI (x + 1) + -1 = nI x := by
      rw [show nI (x + 1) + -1 = nI (x + 1) - 1 by rw [Int32.sub_eq_add_neg]]
      exact nI_pred x
    obtain ⟨h1, s1, c1, r1⟩ := x_rise c ha (f := f) (by omega)
    have prog : g_X0_walkTo_L73 (nI a) (nI t) (n + 1) (nI (x + 1)) h = if (riA P S fo np md a f).1 then g_X0_walkTo_L73 (nI a) (nI t) n (nI x) h1 else some (0, h1) := by
      rw [g_X0_walkTo_L73]
      simp only [gfR, vl]
      rw [if_pos (show (0 : Int32) < nI (x + 1) from nI_lt (a := 0) (by omega) (by omega)), c.2.1, ckH_of k7, ldI_of ha (by decide), e1, if_pos (nI_lt (by omega) (by omega)), ckH_of k7, ldI_of ha (by decide), e1, r1, bnd_some, ex]
      cases (riA P S fo np md a f).1 with
      | true => simp only [if_true, i10, if_false]
      | false => simp only [Bool.false_eq_true, if_false, if_true]
    rw [prog]
    unfold upA
    cases hb : (riA P S fo np md a f).1 with
    | true =>
      simp only [if_true]
      obtain ⟨h', s, c', e⟩ := ih (f + 1) n x _ _ c1 (riA_fl hb) (by omega) ht (by omega) (by omega) (by omega)
      exact ⟨h', s1.tr s, c', e⟩
    | false =>
      simp only [Bool.false_eq_true, if_false]
      exact ⟨h1, s1, c1, rfl⟩
theorem dnA_fl (a t : Nat) : ∀ (k : Nat) (S : TB), (0 < k ∨ S 1 a = nI t) → dnA a t k S 1 a = nI t
  | 0, S, h => by rcases h with h | h; exact absurd h (by decide); exact h
  | k + 1, S, _ => by
    unfold dnA
    refine dnA_fl a t k _ ?_
    by_cases hk : 0 < k
    · exact Or.inl hk
    · right
      have : k = 0 := by omega
      subst this
      rw [up_ne _ _ _ _ _ _ (by omega), up_at]
      rfl
theorem x_down0 (K : HH → Option (Int32 × HH)) {a t fl x n : Nat} {S : TB} {h : HH} (ha : a < 6) (c : cAt h p q z P S fo np md) (hf : S 1 a = nI fl) (hl : fl ≤ t) (ht : t ≤ 6) (hn : 0 < n) : g_X0_walkTo_L8 K (nI a) (nI t) n (nI x) h = K h := by
  obtain ⟨n, rfl⟩ : ∃ n', n = n' + 1 := ⟨n - 1, by omega⟩
  rw [g_X0_walkTo_L8]
  by_cases x0 : (0 : Int32) < nI x
  · simp only [gfR]
    have e1 : h.1 (q + 1) a = nI fl := (c.2.2.2.2.2.2.2.1 1 a (by decide)).trans hf
    rw [if_pos x0, c.2.1, ckH_of c.2.2.2.2.1, ldI_of ha (by decide), e1, if_neg (nI_nlt hl (by omega))]
  · rw [if_neg x0]
theorem x_walkTo {h : HH} {S : TB} {nf : Nat} (c : cAt h p q z P S fo np md) (hnf : P 0 0 = nI nf) (hn6 : nf ≤ 6) {a fl t : Nat} (ha : a < 6) (hfl : S 1 a = nI fl) (hf6 : fl ≤ nf) (ht : t ≤ nf) : ∃ h', scQ q h h' ∧ cAt h' p q z P (wkA P fo np md a fl t S).2 fo np md ∧ g_X0_walkTo (nI a) (nI t) h = some (if (wkA P fo np md a fl t S).1 then 1 else 0, h') := by
  have e0 : ∀ g T, cAt g p q z P T fo np md → g.1 p 0 = nI nf := fun g T cg => (cg.2.2.2.2.2.2.1 0 0 (by decide)).trans hnf
  have hK : ∀ g T, cAt g p q z P T fo np md → ∀ N, (gfR g 2 fun p17 => ckH p17 (.inl 5) (gfI g p17 0 fun v18 => g_X0_walkTo_L73 (nI a) (nI t) N v18 g)) = g_X0_walkTo_L73 (nI a) (nI t) N (nI nf) g := by
    intro g T cg N
    simp only [gfR, gfI]
    rw [cg.1, ckH_of cg.2.2.2.1, e0 g T cg]
  have hO : g_X0_walkTo (nI a) (nI t) h = g_X0_walkTo_L8 (fun (h16 : HH) => gfR h16 2 fun p17 => ckH p17 (.inl 5) (gfI h16 p17 0 fun v18 => g_X0_walkTo_L73 (nI a) (nI t) 1024 v18 h16)) (nI a) (nI t) 1024 (nI nf) h := by
    unfold g_X0_walkTo
    show (ckH (h.2.2 2) (.inl 5) (g_X0_walkTo_L8 _ (nI a) (nI t) 1024 (h.1 (h.2.2 2) 0) h)) = _
    rw [c.1, ckH_of c.2.2.2.1, e0 h S c]
  rw [hO]
  generalize hN : (1024 : Nat) = N
  unfold wkA
  by_cases hd : t < fl
  · obtain ⟨h1, s1, c1, r1⟩ := x_down (fun (h16 : HH) => gfR h16 2 fun p17 => ckH p17 (.inl 5) (gfI h16 p17 0 fun v18 => g_X0_walkTo_L73 (nI a) (nI t) N v18 h16)) ha (t := t) (fl - t) N nf S h c (by rw [hfl]; congr 1; omega) (by omega) (by omega) hn6 (by omega)
    obtain ⟨h2, s2, c2, r2⟩ := x_up ha (t := t) 0 t N nf _ h1 c1 (dnA_fl a t _ _ (Or.inl (by omega))) rfl (by omega) (Nat.zero_le _) hn6 (by omega)
    refine ⟨h2, s1.tr s2, by rw [if_pos hd]; exact c2, ?_⟩
    rw [r1, hK h1 _ c1, r2, if_pos hd]
    rfl
  · rw [x_down0 _ ha c hfl (by omega) (by omega) (by omega), hK h S c, if_neg hd]
    exact x_up ha (t := t) (t - fl) fl N nf S h c hfl (by omega) (by omega) (by omega) hn6 (by omega)
end CW
