/-! guesses: where one would be by each -/
theorem cAt.fq {h h' : HH} {p q z np md : Nat} {P S : TB} {fo : Nat → Int32} (c : cAt h p q z P S fo np md) (e : ∀ a k, a ≤ 224 → h'.1 a k = h.1 a k) (e2 : h'.2.2 = h.2.2) : cAt h' p q z P S fo np md := by
  obtain ⟨c1, c2, c3, c4, c5, c6, c7, c8, c9, c10, c11, c12, c13, c14, c15, c16, c17⟩ := c
  refine ⟨by rw [e2]; exact c1, by rw [e2]; exact c2, by rw [e2]; exact c3, c4, c5, c6, fun o k ho => (e _ _ (by omega)).trans (c7 o k ho), fun o k ho => (e _ _ (by omega)).trans (c8 o k ho), ?_, c10, c11, c12, (e _ _ (by omega)).trans c13, c14, c15, c16, c17⟩
  rw [← c9]
  exact funext fun k => e _ _ (by omega)
theorem sh_fl : ∀ i, i < 19 → shL[226 + 1 + 1 * i]? = some (.inr (0, 41, 0)) := by decide +kernel
def HR (P : TB) (np ng : Nat) : TB → TB := hrA P (P 3) np 1 ng false (-1)
def hsA (P : TB) (np ng : Nat) (nT : TB) (c : Nat → Bool) (nN : Nat) : Nat → Nat → TB → Bool
  | 0, _, _ => true
  | m + 1, t, U => hoA nT c t (HR P np ng U) nN 0 && hsA P np ng nT c nN m (t + 1) (HR P np ng U)
def gB (P : TB) (a f i : Nat) : TB := up (tdA P) 5 (6 * a + f) (nI i - 9)
def fB (b : Nat → Bool) : Nat → Nat → Int32 → Int32
  | 0, _, x => x
  | m + 1, i, x => fB b m (i + 1) (if b i then x ||| ((1 : Int32) <<< (nI i &&& 31)) else x)
theorem fB_vB (b : Nat → Bool) : ∀ m i, i + m ≤ 19 → fB b m i (nI (vB b i)) = nI (vB b (i + m))
  | 0, _, _ => rfl
  | m + 1, i, h => by
    have e : (if b i then nI (vB b i) ||| ((1 : Int32) <<< (nI i &&& 31)) else nI (vB b i)) = nI (vB b (i + 1)) := by
      show _ = nI (if b i then vB b i ||| 2 ^ i else vB b i)
      rw [shl_1 (by omega), or_nI]
      split <;> rfl
    unfold fB
    rw [e, fB_vB b m (i + 1) (by omega), show i + 1 + m = i + (m + 1) by omega]
theorem fB_eq {b b' : Nat → Bool} : ∀ m i x, (∀ j, i ≤ j → j < i + m → b j = b' j) → fB b m i x = fB b' m i x
  | 0, _, _, _ => rfl
  | m + 1, i, x, h => by
    unfold fB
    rw [h i (Nat.le_refl _) (by omega)]
    exact fB_eq m (i + 1) _ fun j h1 h2 => h j (by omega) (by omega)
theorem eqR_up {T S : TB} (e : eqR T S) (c : Nat) (v : Int32) : eqR (up T 5 c v) (up S 5 c v) := by
  obtain ⟨e1, e2, e3, e4⟩ := e
  refine ⟨fun a ha => ?_, fun k hk => ?_, ?_, ?_⟩
  · rw [up_ne _ _ _ _ _ _ (by omega), up_ne _ _ _ _ _ _ (by omega), up_ne _ _ _ _ _ _ (by omega), up_ne _ _ _ _ _ _ (by omega), up_ne _ _ _ _ _ _ (by omega), up_ne _ _ _ _ _ _ (by omega), up_ne _ _ _ _ _ _ (by omega), up_ne _ _ _ _ _ _ (by omega)]
    exact e1 a ha
  · unfold up
    by_cases q : k = c
    · rw [if_pos ⟨rfl, q⟩, if_pos ⟨rfl, q⟩]
    · rw [if_neg (fun z => q z.2), if_neg (fun z => q z.2)]; exact e2 k hk
  · rw [up_ne _ _ _ _ _ _ (by omega), up_ne _ _ _ _ _ _ (by omega)]; exact e3
  · rw [up_ne _ _ _ _ _ _ (by omega), up_ne _ _ _ _ _ _ (by omega)]; exact e4
theorem gB_X {P : TB} {nf np nl ng a f i : Nat} (w : PW P nf np nl ng) (hi : i < 19) : sX (gB P a f i) nf np := by
  obtain ⟨s1, s2, s3, s4⟩ := w.2.2.2.2.2.2.2.2.1
  have key : ∀ j, j < 19 → inB (nI j - 9) := by unfold inB; decide +kernel
  refine ⟨fun b hb => ?_, tOk_t s2 _ (key i hi), zG_up s3 _ (Or.inr (Or.inr rfl))⟩
  obtain ⟨fl, q1, q2⟩ := s1 b hb
  exact ⟨fl, q1, by unfold gB; rw [up_ne _ _ _ _ _ _ (by omega)]; exact q2⟩
section GU
variable {P : TB} {p nf np nl ng nN a f : Nat} {nb : Int32} {nT : TB} {c : Nat → Bool}
theorem x_po (K : Int32 → HH → Option (Int32 × HH)) (w : PW P nf np nl ng) (wn : NW nf np nN nb nT) (c4 c5 : Int32) (ha : a < np) {i : Nat} (hi : i < 19) : ∀ (m t n : Nat) (b : Bool) (U : TB) (h : HH), t + m = 41 → 1 ≤ t → m < n → cAt h p 196 (p + 3) P U (P 3) np 1 → h.1 193 7 = -1 → h.1 193 8 = 0 → sX U nf np → RC4 h nN nb nT → (∀ x, x < 24 → h.1 192 x = b01 (c x)) →
    ∃ h' U', g_X1_possible_L54 K (nI a) c4 c5 (nI i) 196 n (b01 b) (nI t) h = K (b01 (b && hsA P np ng nT c nN m t U)) h' ∧ cAt h' p 196 (p + 3) P U' (P 3) np 1 ∧ (∀ r, t ≤ r → r < 41 → h'.1 (226 + 1 + 1 * i) r = itA (HR P np ng) (r + 1 - t) U 1 a) ∧ (∀ x k, ¬ (196 ≤ x ∧ x < 202) → ¬ (x = 193 ∧ k = 3) → x ≠ 194 → ¬ (x = 226 + 1 + 1 * i ∧ t ≤ k) → h'.1 x k = h.1 x k) ∧ h'.2.2 = h.2.2 := by
  have hnp : np ≤ 6 := w.1.2.1
  intro m
  induction m with
  | zero =>
    intro t n b U h ht ht1 hn k k7 k8 sx rc e
    obtain ⟨n, rfl⟩ : ∃ n', n = n' + 1 := ⟨n - 1, by omega⟩
    obtain rfl : t = 41 := by omega
    refine ⟨h, U, ?_, k, fun r h1 h2 => by omega, fun _ _ _ _ _ _ => rfl, rfl⟩
    rw [g_X1_possible_L54, if_pos (show 40 < nI 41 by decide)]
    unfold hsA
    rw [Bool.and_true]
  | succ m ih =>
    intro t n b U h ht ht1 hn k k7 k8 sx rc e
    obtain ⟨n, rfl⟩ : ∃ n', n = n' + 1 := ⟨n - 1, by omega⟩
    obtain ⟨h1, s1, k1, e1⟩ := x_passOne k w.1 sx.1 (bare := false) (by rw [k8]; rfl) k7
    obtain ⟨U1, hU1⟩ : ∃ U1, U1 = HR P np ng U := ⟨_, rfl⟩
    have hU1' : hrA P (P 3) np 1 ng false (-1) U = U1 := hU1.symm
    rw [hU1'] at k1
    obtain ⟨h2, eh2⟩ : ∃ h2, h2 = wrI h1 (226 + 1 + 1 * i) t (U1 1 a) := ⟨_, rfl⟩
    have f2 : ∀ x k, ¬ (196 ≤ x ∧ x < 202) → ¬ (x = 193 ∧ k = 3) → x ≠ 194 → ¬ (x = 226 + 1 + 1 * i ∧ k = t) → h2.1 x k = h.1 x k := fun x k q1 q2 q3 q4 => by rw [eh2, wrI_1, if_neg q4]; exact s1.1 x k (by omega) q2 q3
    have k2 : cAt h2 p 196 (p + 3) P U1 (P 3) np 1 := k1.fq (fun x k q => by rw [eh2, wrI_1, if_neg (by omega)]) (by rw [eh2]; rfl)
    have rc2 : RC4 h2 nN nb nT := rc.X fun x k q => f2 x k (by omega) (by omega) (by omega) (by omega)
    have e2 : ∀ x, x < 24 → h2.1 192 x = b01 (c x) := fun x hx => (f2 192 x (by omega) (by omega) (by omega) (by omega)).trans (e x hx)
    have hold := x_hold wn hnp c ht1 (by omega) rc2 e2 k2.2.2.2.2.2.2.2.1
    have sx1 : sX U1 nf np := by rw [hU1]; exact sx.hr w.1
    obtain ⟨h3, U', e3, k3, r3, f3, g3⟩ := ih (t + 1) n (b && hoA nT c t U1 nN 0) U1 h2 (by omega) (by omega) (by omega) k2 ((f2 193 7 (by omega) (by omega) (by omega) (by omega)).trans k7) ((f2 193 8 (by omega) (by omega) (by omega) (by omega)).trans k8) sx1 rc2 e2
    refine ⟨h3, U', ?_, k3, fun r h1 h2' => ?_, fun x k q1 q2 q3 q4 => by rw [f3 x k q1 q2 q3 (by omega), f2 x k q1 q2 q3 (by omega)], by rw [g3, eh2]; exact s1.2.2⟩
    · have eb : (b && hsA P np ng nT c nN (m + 1) t U) = (b && hoA nT c t U1 nN 0 && hsA P np ng nT c nN m (t + 1) U1) := by
        rw [hU1, Bool.and_assoc]; rfl
      rw [eb]
      refine Eq.trans ?_ e3
      rw [g_X1_possible_L54, if_neg (show ¬ 40 < nI t from nI_nlt (a := 40) (by omega) (by decide)), e1, bnd_some, ldR_of hi (by decide), ckH_of (sh_fl i hi), ldI_of (by omega) (by decide), k1.2.2.2.2.2.2.2.1 1 a (by decide), stI_of (by omega) (by decide), ← eh2]
      simp only [jn, vl, nI_1]
      cases b with
      | false =>
        rw [if_pos (show b01 false = 0 from rfl), Bool.false_and]
        rfl
      | true =>
        rw [if_neg (show ¬ b01 true = 0 by decide), hold, bnd_some, Bool.true_and]
        cases hoA nT c t U1 nN 0 with
        | false => rw [if_pos (show b01 false = 0 from rfl)]; rfl
        | true => rw [if_neg (show ¬ b01 true = 0 by decide)]; rfl
    · by_cases q : r = t
      · subst q
        rw [f3 _ _ (by omega) (by omega) (by omega) (by omega), eh2, wrI_at, show r + 1 - r = 0 + 1 by omega, hU1]
        rfl
      · rw [r3 r (by omega) h2', show r + 1 - t = (r + 1 - (t + 1)) + 1 by omega, hU1]
        rfl
theorem x_ps (w : PW P nf np nl ng) (wn : NW nf np nN nb nT) (ha : a < np) (hf : f < nf) : ∀ (m i n : Nat) (x : Int32) (U : TB) (h : HH), i + m = 19 → m < n → cAt h p 196 (p + 3) P U (P 3) np 1 → h.1 193 7 = -1 → h.1 193 8 = 0 → RC4 h nN nb nT → (∀ x, x < 24 → h.1 192 x = b01 (c x)) →
    ∃ (T : Nat → TB) (h' : HH), (∀ j, i ≤ j → j < 19 → eqR (T j) (gB P a f j)) ∧ g_X1_possible_L6 (nI a) (nI f) n x (nI i) h = some (fB (fun j => hsA P np ng nT c nN 40 1 (T j)) m i x, h') ∧ (∀ j r, i ≤ j → j < 19 → 1 ≤ r → r < 41 → h'.1 (226 + 1 + 1 * j) r = itA (HR P np ng) r (T j) 1 a) ∧ (∀ x k, ¬ (196 ≤ x ∧ x < 202) → ¬ (x = 193 ∧ k = 3) → x ≠ 194 → ¬ (227 + i ≤ x ∧ x < 246) → h'.1 x k = h.1 x k) ∧ h'.2.2 = h.2.2 := by
  have hnf : nf ≤ 6 := w.1.1
  have hnp : np ≤ 6 := w.1.2.1
  obtain ⟨N, hN⟩ : ∃ N : Nat, N = 1024 := ⟨_, rfl⟩
  intro m
  induction m with
  | zero =>
    intro i n x U h hi hn k k7 k8 rc e
    obtain ⟨n, rfl⟩ : ∃ n', n = n' + 1 := ⟨n - 1, by omega⟩
    obtain rfl : i = 19 := by omega
    exact ⟨fun _ => U, h, fun j h1 h2 => by omega, by rw [g_X1_possible_L6, if_neg (show ¬ nI 19 < 19 by decide)]; rfl, fun j r h1 h2 => by omega, fun _ _ _ _ _ _ => rfl, rfl⟩
  | succ m ih =>
    intro i n x U h hi hn k k7 k8 rc e
    obtain ⟨n, rfl⟩ : ∃ n', n = n' + 1 := ⟨n - 1, by omega⟩
    have hi19 : i < 19 := by omega
    have hp : p = 2 ∨ p = 30 := k.2.2.2.2.2.2.2.2.2.2.2.2.2.2.1
    have sp16 : shL[p + 16]? = some (.inl 7) := by rcases hp with rfl | rfl; exact sh_18; exact sh_46
    have cp := k.2.2.2.2.2.2.1
    have ctd : CS h (p + 16) (tdA P) := fun o x ho => by rw [Nat.add_assoc]; exact cp (16 + o) x (by omega)
    obtain ⟨h1, T0, e1, k1, q1, f1, g1⟩ := x_take (q := 196) (r := p + 16) sh_196 sp16 (by omega) ctd
    obtain ⟨h2, eh2⟩ : ∃ h2, h2 = wrI h1 (196 + 5) (6 * a + f) (nI i - 9) := ⟨_, rfl⟩
    have cs2 : CS h2 196 (up T0 5 (6 * a + f) (nI i - 9)) := by rw [eh2]; exact CS_w k1 _ _ (by decide)
    have f2 : ∀ x k, ¬ (196 ≤ x ∧ x < 202) → h2.1 x k = h.1 x k := fun x k q => by rw [eh2, wrI_1, if_neg (by omega)]; exact f1 x k (by omega)
    have k2 : cAt h2 p 196 (p + 3) P (up T0 5 (6 * a + f) (nI i - 9)) (P 3) np 1 := k.mvF ⟨fun x k q _ _ => f2 x k (by omega), fun x k _ => by rw [eh2, wrI_2, g1], by rw [eh2, wrI_2, g1]⟩ cs2
    have qT : eqR (up T0 5 (6 * a + f) (nI i - 9)) (gB P a f i) := eqR_up q1 _ _
    obtain ⟨h3, U3, e3, k3, r3, f3, g3⟩ := x_po (c := c) (fun (z24 : Int32) (h23 : HH) => if z24 = 0 then g_X1_possible_L6 (nI a) (nI f) n x (nI (i + 1)) h23 else g_X1_possible_L6 (nI a) (nI f) n (x ||| ((1 : Int32) <<< (nI i &&& 31))) (nI (i + 1)) h23) w wn (nI f) x ha hi19 40 1 N true _ h2 (by omega) (by omega) (by omega) k2 ((f2 193 7 (by omega)).trans k7) ((f2 193 8 (by omega)).trans k8) (qT.sX (gB_X w hi19) hnp) (rc.X fun x k q => f2 x k (by omega)) (fun x hx => (f2 192 x (by omega)).trans (e x hx))
    rw [Bool.true_and] at e3
    have fr3 : ∀ x k, ¬ (196 ≤ x ∧ x < 202) → ¬ (x = 193 ∧ k = 3) → x ≠ 194 → x ≠ 226 + 1 + 1 * i → h3.1 x k = h.1 x k := fun x k z1 z2 z3 z4 => by rw [f3 x k z1 z2 z3 (fun z => z4 z.1), f2 x k z1]
    obtain ⟨T, h4, t4, e4, r4, f4, g4⟩ := ih (i + 1) n (if hsA P np ng nT c nN 40 1 (up T0 5 (6 * a + f) (nI i - 9)) then x ||| ((1 : Int32) <<< (nI i &&& 31)) else x) U3 h3 (by omega) (by omega) k3 ((fr3 193 7 (by omega) (by omega) (by omega) (by omega)).trans k7) ((fr3 193 8 (by omega) (by omega) (by omega) (by omega)).trans k8) (rc.X fun x k q => fr3 x k (by omega) (by omega) (by omega) (by omega)) (fun x hx => (fr3 192 x (by omega) (by omega) (by omega) (by omega)).trans (e x hx))
    obtain ⟨TT, tt1, tt2⟩ : ∃ TT : Nat → TB, TT i = up T0 5 (6 * a + f) (nI i - 9) ∧ ∀ j, j ≠ i → TT j = T j := ⟨fun j => if j = i then up T0 5 (6 * a + f) (nI i - 9) else T j, if_pos rfl, fun j q => if_neg q⟩
    refine ⟨TT, h4, fun j h1 h2 => ?_, ?_, fun j r h1 h2 h3' h4' => ?_, fun x k z1 z2 z3 z4 => by rw [f4 x k z1 z2 z3 (by omega), fr3 x k z1 z2 z3 (by omega)], by rw [g4, g3, eh2, wrI_2, g1]⟩
    · by_cases q : j = i
      · rw [q, tt1]; exact qT
      · rw [tt2 j q]; exact t4 j (by omega) h2
    · unfold fB
      rw [tt1, fB_eq (b' := fun j => hsA P np ng nT c nN 40 1 (T j)) m (i + 1) _ (fun j h1 h2 => by rw [tt2 j (by omega)]), ← e4, g_X1_possible_L6, ← hN, if_pos (show nI i < 19 from nI_lt (b := 19) hi19 (by decide))]
      simp only [gfR, jn, vl, nI_1]
      rw [k.2.1, ckH_of sh_196, k.1, ckH_of k.2.2.2.1, e1, bnd_some, x_cell, bnd_some, stI_of (by omega) (by decide), ← eh2]
      refine Eq.trans e3 ?_
      cases hsA P np ng nT c nN 40 1 (up T0 5 (6 * a + f) (nI i - 9)) with
      | false => rw [if_pos (show b01 false = 0 from rfl)]; rfl
      | true => rw [if_neg (show ¬ b01 true = 0 by decide)]; rfl
    · by_cases q : j = i
      · subst q
        rw [tt1, f4 _ _ (by omega) (by omega) (by omega) (by omega), r3 r h3' h4', show r + 1 - 1 = r by omega]
      · rw [tt2 j q]; exact r4 j r (by omega) h2 h3' h4'
/-! the reference's guesses -/
def rH (h : HH) (P : TB) (nf np nl ng a f nN : Nat) (nb : Int32) (nT : TB) (kb : Nat) (c : Nat → Bool) : Prop := MP h P nf np nl ng ∧ h.1 255 45 = nI a ∧ h.1 255 46 = nI f ∧ h.1 255 48 = 0 ∧ (∀ x, x < np → h.1 260 x = P 17 x) ∧ (∀ k, k < 6 * np → h.1 262 k = P 21 k) ∧ h.1 257 5 = P 16 6 ∧ RM4 h nN nb nT ∧ ∀ x, x < kb → h.1 293 x = b01 (!c x)
def frH (h h' : HH) : Prop := (∀ x k, ¬ inH 1 x k → ¬ (x = 255 ∧ (k = 35 ∨ k = 52 ∨ k = 47)) → x ≠ 283 → x ≠ 284 → x ≠ 294 → h'.1 x k = h.1 x k) ∧ h'.2.2 = h.2.2
theorem frH_rf (h : HH) : frH h h := ⟨fun _ _ _ _ _ _ _ => rfl, rfl⟩
theorem frH.tr {a b c : HH} (s : frH a b) (t : frH b c) : frH a c := ⟨fun x k q1 q2 q3 q4 q5 => (t.1 x k q1 q2 q3 q4 q5).trans (s.1 x k q1 q2 q3 q4 q5), t.2.trans s.2⟩
theorem scG.rh {h h' : HH} (s : scG 1 h h') : frH h h' := ⟨fun x k q1 q2 q3 q4 _ => s.1 x k q1 (by omega) q3 q4, s.2.2⟩
variable {kb : Nat}
theorem rH.fr {h h' : HH} (r : rH h P nf np nl ng a f nN nb nT kb c) (s : frH h h') : rH h' P nf np nl ng a f nN nb nT kb c := by
  obtain ⟨r1, r2, r3, r4, r5, r6, r7, r8, r9⟩ := r
  have e : ∀ x k, ¬ (276 ≤ x ∧ x ≤ 284) → x ≠ 294 → ¬ (x = 255 ∧ (k = 35 ∨ k = 52 ∨ k = 47)) → h'.1 x k = h.1 x k := fun x k q1 q2 q3 => s.1 x k (by unfold inH; omega) q3 (by omega) (by omega) q2
  exact ⟨r1.X fun x k q1 q2 => e x k (by omega) (by omega) (by omega), (e _ _ (by omega) (by omega) (by omega)).trans r2, (e _ _ (by omega) (by omega) (by omega)).trans r3, (e _ _ (by omega) (by omega) (by omega)).trans r4, fun x hx => (e _ _ (by omega) (by omega) (by omega)).trans (r5 x hx), fun k hk => (e _ _ (by omega) (by omega) (by omega)).trans (r6 k hk), (e _ _ (by omega) (by omega) (by omega)).trans r7, r8.X fun x k q => e x k (by omega) (by omega) (by omega), fun x hx => (e _ _ (by omega) (by omega) (by omega)).trans (r9 x hx)⟩
theorem rH.at {h : HH} {U : TB} (r : rH h P nf np nl ng a f nN nb nT kb c) (w : PW P nf np nl ng) (m : MS h 1 U np) : mAt h 1 P U (P 3) nf np nl ng := ⟨r.1, m, fun x hx => by rw [r.2.2.2.1, if_neg (by decide)]; exact r.1.2.2.2.2.2.2.1 x hx, w.2.1, by decide, w.1.1, w.1.2.1⟩
theorem r_fits_L (w : PW P nf np nl ng) (wn : NW nf np nN nb nT) (hkb : (if nb = -1 then nI nN else nb) = nI kb) (hk : kb ≤ nN) (hc : ∀ x, kb ≤ x → c x = false) {e : Nat} (he : e ≤ 40) : ∀ (m t n : Nat) (U : TB) (h : HH), t + m = e + 1 → m < n → rH h P nf np nl ng a f nN nb nT kb c → MS h 1 U np → sX U nf np → ∃ h', frH h h' ∧ g_X11_fitsHad_L7 (nI e) n (nI t) h = some (b01 (hsA P np ng nT c nN m t U), h') := by
  have hnp : np ≤ 6 := w.1.2.1
  intro m
  induction m with
  | zero =>
    intro t n U h ht hn r ms sx
    obtain ⟨n, rfl⟩ : ∃ n', n = n' + 1 := ⟨n - 1, by omega⟩
    refine ⟨h, frH_rf h, ?_⟩
    rw [g_X11_fitsHad_L7, if_pos (nI_lt (by omega) (by omega))]
    rfl
  | succ m ih =>
    intro t n U h ht hn r ms sx
    obtain ⟨n, rfl⟩ : ∃ n', n = n' + 1 := ⟨n - 1, by omega⟩
    obtain ⟨z1, z2, z3⟩ := m48_0 (h := h) w.1 r.2.2.2.1
    obtain ⟨h1, s1, k1, e1⟩ := r_passes (r.at w ms) w.1 z1 sx.2.1 sx.1 z2 z3
    have r1 := r.fr s1.rh
    have so := r_isSo (t := t) wn hnp hkb hk c r1.2.2.2.2.2.2.2.1 r1.2.2.2.2.2.2.2.2 k1.2.1
    rw [← hoA_kb hk hc] at so
    rw [g_X11_fitsHad_L7, if_neg (nI_nlt (by omega) (by omega)), show g_X11_passes 1 0 h = _ from e1, bnd_some, so, bnd_some]
    unfold hsA
    show ∃ h', frH h h' ∧ _ = some (b01 (hoA nT c t (hrA P (P 3) np 1 ng false (-1) U) nN 0 && _), h')
    cases hoA nT c t (hrA P (P 3) np 1 ng false (-1) U) nN 0 with
    | false => exact ⟨h1, s1.rh, by rw [if_pos (show b01 false = 0 from rfl)]; rfl⟩
    | true =>
      obtain ⟨h2, s2, e2⟩ := ih (t + 1) n _ h1 (by omega) (by omega) r1 k1.2.1 (sx.hr w.1)
      refine ⟨h2, s1.rh.tr s2, ?_⟩
      rw [if_neg (show ¬ b01 true = 0 by decide), Bool.true_and]
      simp only [vl, nI_1]
      exact e2
theorem r_guess (w : PW P nf np nl ng) (ha : a < np) (hf : f < nf) {i : Nat} {T : TB} (q : eqR T (gB P a f i)) {h : HH} (r : rH h P nf np nl ng a f nN nb nT kb c) : ∃ h', g_X11_starts 1 (wrI h 255 47 (nI i - 9)) = some ((), h') ∧ MS h' 1 T np ∧ frH h h' ∧ rH h' P nf np nl ng a f nN nb nT kb c ∧ ∀ k, h'.1 294 k = h.1 294 k := by
  have hnf : nf ≤ 6 := w.1.1
  have hnp : np ≤ 6 := w.1.2.1
  obtain ⟨r1, r2, r3, r4, r5, r6, r7, r8, r9⟩ := id r
  have td := w.2.2.2.2.2.2.2.2
  have fr : ∀ x k, ¬ (x = 255 ∧ k = 47) → (wrI h 255 47 (nI i - 9)).1 x k = h.1 x k := fun x k q => by rw [wrI_1, if_neg q]
  obtain ⟨h1, e1, m1, f1, g1⟩ := r_starts (s := 1) (T := gB P a f i) (np := np) (h := wrI h 255 47 (nI i - 9)) (by decide) hnp ((fr _ _ (by omega)).trans r1.2.1) ((fr _ _ (by omega)).trans r2) ((fr _ _ (by omega)).trans r3) (wrI_at _ _ _ _) (fun p' f' hp' hf' => by
    unfold gB
    by_cases z : p' < np
    · rw [if_pos z, fr 262 _ (by omega), r6 _ (by omega)]
      by_cases z2 : p' = a
      · rw [if_pos (by rw [z2])]
        by_cases z3 : f' = f
        · rw [if_pos (by rw [z3]), z2, z3, up_at]
        · rw [if_neg (fun y => z3 ((nI_eq (by omega) (by omega)).mp y)), up_ne _ _ _ _ _ _ (by omega)]; rfl
      · rw [if_neg (fun y => z2 ((nI_eq (by omega) (by omega)).mp y)), up_ne _ _ _ _ _ _ (by omega)]; rfl
    · rw [if_neg z, up_ne _ _ _ _ _ _ (by omega)]
      exact (td.2.2.2 (6 * p' + f') (by omega) (by omega)).symm) (fun x hx => by
    unfold gB
    rw [fr 260 _ (by omega), up_ne _ _ _ _ _ _ (by omega), up_ne _ _ _ _ _ _ (by omega), up_ne _ _ _ _ _ _ (by omega), up_ne _ _ _ _ _ _ (by omega)]
    exact ⟨r5 x hx, td.2.1 x (by omega)⟩) (by
    unfold gB
    rw [fr 257 _ (by omega), up_ne _ _ _ _ _ _ (by omega), up_ne _ _ _ _ _ _ (by omega)]
    exact ⟨td.2.2.1, r7⟩)
  have s : frH h h1 := ⟨fun x k q1 q2 q3 q4 q5 => (f1 x k q1).trans (fr x k (by omega)), by rw [g1]; rfl⟩
  exact ⟨h1, e1, m1.R q hnp, s, r.fr s, fun k => (f1 294 k (by unfold inH; omega)).trans (fr 294 k (by omega))⟩
theorem r_hads_L (K : Int32 → HH → Option (Int32 × HH)) (w : PW P nf np nl ng) (wn : NW nf np nN nb nT) (hkb : (if nb = -1 then nI nN else nb) = nI kb) (hk : kb ≤ nN) (hc : ∀ x, kb ≤ x → c x = false) {e : Nat} (he : e ≤ 40) (ha : a < np) (hf : f < nf) (T : Nat → TB) (hT : ∀ j, j < 19 → eqR (T j) (gB P a f j)) : ∀ (m i n : Nat) (x : Int32) (h : HH), i + m = 19 → m < n → rH h P nf np nl ng a f nN nb nT kb c → ∃ h', frH h h' ∧ rH h' P nf np nl ng a f nN nb nT kb c ∧ g_X11_hadsOf_L148 K (nI e) n x (nI i) h = K (fB (fun j => hsA P np ng nT c nN e 1 (T j)) m i x) h' := by
  have hnp : np ≤ 6 := w.1.2.1
  obtain ⟨N, hN⟩ : ∃ N : Nat, N = 1024 := ⟨_, rfl⟩
  intro m
  induction m with
  | zero =>
    intro i n x h hi hn r
    obtain ⟨n, rfl⟩ : ∃ n', n = n' + 1 := ⟨n - 1, by omega⟩
    obtain rfl : i = 19 := by omega
    exact ⟨h, frH_rf h, r, by rw [g_X11_hadsOf_L148, if_neg (show ¬ nI 19 < 19 by decide)]; rfl⟩
  | succ m ih =>
    intro i n x h hi hn r
    obtain ⟨n, rfl⟩ : ∃ n', n = n' + 1 := ⟨n - 1, by omega⟩
    have hi19 : i < 19 := by omega
    obtain ⟨h1, e1, m1, s1, r1, -⟩ := r_guess w ha hf (hT i hi19) r
    obtain ⟨h2, s2, e2⟩ := r_fits_L w wn hkb hk hc he e 1 N _ h1 (by omega) (by omega) r1 m1 ((hT i hi19).sX (gB_X w hi19) hnp)
    obtain ⟨h3, s3, r3, e3⟩ := ih (i + 1) n (if hsA P np ng nT c nN e 1 (T i) then x ||| ((1 : Int32) <<< (nI i &&& 31)) else x) h2 (by omega) (by omega) (r1.fr s2)
    refine ⟨h3, (s1.tr s2).tr s3, r3, ?_⟩
    unfold fB
    refine Eq.trans ?_ e3
    rw [g_X11_hadsOf_L148, if_pos (show nI i < 19 from nI_lt (b := 19) hi19 (by decide))]
    simp only [pfI, jn, vl, nI_1]
    have ft : g_X11_fitsHad (nI e) (wrI h 255 47 (nI i - 9)) = some (b01 (hsA P np ng nT c nN e 1 (T i)), h2) := by
      unfold g_X11_fitsHad
      rw [e1, bnd_some, ← hN]
      exact e2
    rw [ft, bnd_some]
    cases hsA P np ng nT c nN e 1 (T i) with
    | false => rw [if_pos (show b01 false = 0 from rfl), Int32.or_zero]; rfl
    | true => rw [if_neg (show ¬ b01 true = 0 by decide)]; rfl
theorem hsA_end {e : Nat} (hl : ∀ t, e < t → t ≤ 40 → ∀ U, hoA nT c t U nN 0 = true) : ∀ (m r t : Nat) (U : TB), e < t + m → t + (m + r) ≤ 41 → hsA P np ng nT c nN (m + r) t U = hsA P np ng nT c nN m t U
  | 0, 0, _, _, _, _ => rfl
  | 0, r + 1, t, U, h, hb => by
    have ih := hsA_end hl 0 r (t + 1) (HR P np ng U) (by omega) (by omega)
    rw [Nat.zero_add] at ih ⊢
    unfold hsA
    rw [hl t (by omega) (by omega), Bool.true_and, ih]
    rfl
  | m + 1, r, t, U, h, hb => by
    rw [show m + 1 + r = (m + r) + 1 by omega]
    unfold hsA
    rw [hsA_end hl m r (t + 1) _ (by omega) (by omega)]
end GU
