/-! sure -/
def cpA (a : Nat) : Nat → Nat
  | 0 => 1
  | i + 1 => if i = 0 then 1 else if a % (i + 1) = 0 ∧ 100 % (i + 1) = 0 then i + 1 else cpA a i
def ec : Nat → Nat → Nat → Option Nat
  | 0, _, _ => none
  | n + 1, x, y => if y = 0 then some x else ec n y (x % y)
def sureOk (sl n : Nat) : Bool := match ec 1024 ((100 - sl) ^ n) (100 ^ n) with
  | some g => decide (0 < g) && decide (g < 2 ^ 63) && decide ((100 - sl) ^ n < 2 ^ 63) && decide (100 ^ n < 2 ^ 63) && decide ((100 - sl) ^ n / g = ((100 - sl) / cpA (100 - sl) 100) ^ n) && decide (100 ^ n / g = (100 / cpA (100 - sl) 100) ^ n) && decide (0 < cpA (100 - sl) 100) && decide (cpA (100 - sl) 100 ≤ 100)
  | none => false
set_option maxRecDepth 100000 in
theorem sure_all : ∀ sl, sl < 101 → ∀ n, n < 7 → sureOk sl n = true := by decide +kernel
theorem x_common_L {a : Nat} (ha : a ≤ 100) : ∀ (i n : Nat) (h : HH), i ≤ 100 → i < n → g_X10_commonPart_L2 (nI a) (nI 100) n (nI i) h = some (nI (cpA a i), h) := by
  intro i
  induction i with
  | zero =>
    intro n h hi hn
    obtain ⟨n, rfl⟩ : ∃ n', n = n' + 1 := ⟨n - 1, by omega⟩
    rw [g_X10_commonPart_L2, if_neg (show ¬ 1 < nI 0 by decide)]
    rfl
  | succ i ih =>
    intro n h hi hn
    obtain ⟨n, rfl⟩ : ∃ n', n = n' + 1 := ⟨n - 1, by omega⟩
    rw [g_X10_commonPart_L2, cpA]
    by_cases i0 : i = 0
    · subst i0
      rw [if_neg (show ¬ 1 < nI (0 + 1) by decide), if_pos rfl]
      rfl
    · have nz : ¬ nI (i + 1) = 0 := nI_ne0 (by omega) (by omega)
      rw [if_pos (show 1 < nI (i + 1) from nI_lt (a := 1) (by omega) (by omega)), if_neg i0]
      simp only [jn, vl]
      rw [rmI_of nz, rmI_of nz, pk_rem (by omega) (by omega) (by omega), pk_rem (by omega) (by omega) (by omega), pk_m1]
      have z : ∀ x : Nat, x < 2 ^ 31 → ((nI x = 0) ↔ x = 0) := fun x hx => by
        constructor
        · intro e; exact Decidable.byContradiction fun q => nI_ne0 (by omega) hx e
        · intro e; rw [e]; rfl
      have r1 : a % (i + 1) < 2 ^ 31 := by have := Nat.mod_lt a (show 0 < i + 1 by omega); omega
      have r2 : 100 % (i + 1) < 2 ^ 31 := by have := Nat.mod_lt 100 (show 0 < i + 1 by omega); omega
      by_cases q1 : a % (i + 1) = 0
      · rw [if_pos ((z _ r1).mpr q1)]
        by_cases q2 : 100 % (i + 1) = 0
        · rw [if_pos ((z _ r2).mpr q2), if_pos ⟨q1, q2⟩]
        · rw [if_neg (fun e => q2 ((z _ r2).mp e)), if_neg (fun e => q2 e.2)]
          exact ih n h (by omega) (by omega)
      · rw [if_neg (fun e => q1 ((z _ r1).mp e)), if_neg (fun e => q1 e.1)]
        exact ih n h (by omega) (by omega)
theorem x_pow_L (k b : Nat) (hk : k < 2 ^ 31) : ∀ (m i n : Nat) (h : HH), i + m = k → m < n → g_X10_sure_L69 (nI k) (lN b) n (lN (b ^ i)) (nI i) h = some (lN (b ^ k), h) := by
  intro m
  induction m with
  | zero =>
    intro i n h hi hn
    obtain ⟨n, rfl⟩ : ∃ n', n = n' + 1 := ⟨n - 1, by omega⟩
    rw [g_X10_sure_L69, if_neg (nI_nlt (by omega) (by omega)), show i = k by omega]
  | succ m ih =>
    intro i n h hi hn
    obtain ⟨n, rfl⟩ : ∃ n', n = n' + 1 := ⟨n - 1, by omega⟩
    rw [g_X10_sure_L69, if_pos (nI_lt (by omega) (by omega))]
    simp only [vl, nI_1, lN_mul]
    rw [show b ^ i * b = b ^ (i + 1) from rfl]
    exact ih (i + 1) n h (by omega) (by omega)
theorem r_pow_L (K : Int64 → Int64 → HH → Option (Int64 × HH)) (k sl : Nat) (hk : k < 2 ^ 31) (hs : sl ≤ 100) (c2 : Int32) {h : HH} (e : h.1 257 4 = nI sl) : ∀ (m i n : Nat), i + m = k → m < n → g_X11_sure_L36 K (nI k) c2 n (lN ((100 - sl) ^ i)) (lN (100 ^ i)) (nI i) h = K (lN ((100 - sl) ^ k)) (lN (100 ^ k)) h := by
  intro m
  induction m with
  | zero =>
    intro i n hi hn
    obtain ⟨n, rfl⟩ : ∃ n', n = n' + 1 := ⟨n - 1, by omega⟩
    rw [g_X11_sure_L36, if_neg (nI_nlt (by omega) (by omega)), show i = k by omega]
  | succ m ih =>
    intro i n hi hn
    obtain ⟨n, rfl⟩ : ∃ n', n = n' + 1 := ⟨n - 1, by omega⟩
    rw [g_X11_sure_L36, if_pos (nI_lt (by omega) (by omega)), ldI_4 (by decide) (by decide), e, nI_l (by omega), show (100 : Int64) = lN 100 from rfl, lN_sub hs]
    simp only [vl, nI_1, lN_mul]
    rw [show (100 - sl) ^ i * (100 - sl) = (100 - sl) ^ (i + 1) from rfl, show 100 ^ i * 100 = 100 ^ (i + 1) from rfl]
    exact ih (i + 1) n (by omega) (by omega)
theorem r_ec (K : Int64 → HH → Option (Int64 × HH)) (c2 : Int32) (c3 c5 : Int64) (h : HH) : ∀ (n x y g : Nat), x < 2 ^ 63 → y < 2 ^ 63 → ec n x y = some g → g_X11_sure_L77 K c2 c3 c5 n (lN x) (lN y) h = K (lN g) h := by
  intro n
  induction n with
  | zero => intro x y g _ _ e; cases e
  | succ n ih =>
    intro x y g hx hy e
    unfold ec at e
    rw [g_X11_sure_L77]
    have z : (lg_cmp (lN y) 0 = 0) ↔ y = 0 := by
      rw [lc_eq, show (0 : Int64) = lN 0 from rfl]
      exact pk_lEQ hy (by decide)
    by_cases q : y = 0
    · rw [if_pos q] at e
      rw [if_pos (z.mpr q)]
      cases e; rfl
    · rw [if_neg q] at e
      rw [if_neg (fun w => q (z.mp w))]
      unfold rmL
      have nz : ¬ lN y = 0 := fun w => q (z.mp (by rw [lc_eq]; exact w))
      rw [if_neg nz, pk_lRem hx (by omega) hy]
      exact ih y (x % y) g hy (by have := Nat.mod_lt x (show 0 < y by omega); omega) e
theorem c_sure (a0 a1 : Int32) : Eqv (g_X10_sure a0 a1) (g_X11_sure a0 a1) := by
  refine Eqv_q fun P S nf np nl ng w s => ?_
  have hnp : np ≤ 6 := w.1.2.1
  obtain ⟨sl, sl1, sl2⟩ := w.2.2.2.2.1
  by_cases z0 : a0 < 0
  · exact ⟨-1, fun h c => ⟨h, scA_rf h, by unfold g_X10_sure; rw [if_pos z0]⟩, fun h m => ⟨_, scB_0 h, by unfold g_X11_sure; simp only [pfI]; rw [if_pos z0]⟩⟩
  by_cases z6 : 6 < a0
  · exact ⟨-1, fun h c => ⟨h, scA_rf h, by unfold g_X10_sure; rw [if_neg z0, if_pos z6]⟩, fun h m => ⟨_, scB_0 h, by unfold g_X11_sure; simp only [pfI]; rw [if_neg z0, if_pos z6]⟩⟩
  by_cases y0 : a1 < 0
  · exact ⟨-1, fun h c => ⟨h, scA_rf h, by unfold g_X10_sure; rw [if_neg z0, if_neg z6, if_pos y0]⟩, fun h m => ⟨_, scB_0 h, by unfold g_X11_sure; simp only [pfI]; rw [if_neg z0, if_neg z6, if_pos y0]⟩⟩
  by_cases y1 : 1 < a1
  · exact ⟨-1, fun h c => ⟨h, scA_rf h, by unfold g_X10_sure; rw [if_neg z0, if_neg z6, if_neg y0, if_pos y1]⟩, fun h m => ⟨_, scB_0 h, by unfold g_X11_sure; simp only [pfI]; rw [if_neg z0, if_neg z6, if_neg y0, if_pos y1]⟩⟩
  obtain ⟨n, hn, rfl⟩ := nI_of z0
  have n6 : n ≤ 6 := Nat.not_lt.mp fun q => z6 (nI_lt (a := 6) q hn)
  have ok := sure_all sl (by omega) n (by omega)
  unfold sureOk at ok
  obtain ⟨N, hN⟩ : ∃ N : Nat, N = 1024 := ⟨_, rfl⟩
  rw [← hN] at ok
  cases he : ec N ((100 - sl) ^ n) (100 ^ n) with
  | none => rw [he] at ok; cases ok
  | some g =>
    rw [he] at ok
    simp only [Bool.and_eq_true, decide_eq_true_eq] at ok
    obtain ⟨⟨⟨⟨⟨⟨⟨o1, o2⟩, o3⟩, o4⟩, o5⟩, o6⟩, o7⟩, o8⟩ := ok
    have gz : ¬ lN g = 0 := fun e => by
      have := (pk_lEQ (b := 0) o2 (by decide)).mp e
      omega
    have cz : ¬ nI (cpA (100 - sl) 100) = 0 := nI_ne0 o7 (by omega)
    refine ⟨if a1 = 0 then lN (((100 - sl) / cpA (100 - sl) 100) ^ n) else lN ((100 / cpA (100 - sl) 100) ^ n), fun h c => ⟨h, scA_rf h, ?_⟩, fun h m => ⟨_, scB_0 h, ?_⟩⟩
    · obtain ⟨p, hp, p0, sp, cp⟩ := c.p
      have e15 : h.1 p 15 = nI sl := (cp 0 15 (by decide)).trans sl2
      have cc : g_X10_commonPart (nI (100 - sl)) 100 h = some (nI (cpA (100 - sl) 100), h) := by
        unfold g_X10_commonPart
        rw [← hN]
        exact x_common_L (by omega) 100 N h (Nat.le_refl _) (by omega)
      have e100 : (100 : Int32) - nI sl = nI (100 - sl) := pk_sub (a := 100) sl1
      have lp : ∀ b : Nat, g_X10_sure_L69 (nI n) (lN b) N 1 0 h = some (lN (b ^ n), h) := fun b => x_pow_L n b hn n 0 N h (by omega) (by omega)
      unfold g_X10_sure
      simp only [gfR, gfI, jn, vl]
      rw [if_neg z0, if_neg z6, if_neg y0, if_neg y1, p0, ckH_of sp, e15, e100, cc, bnd_some, ← hN]
      by_cases q : a1 = 0
      · rw [if_pos q, if_pos q, p0, ckH_of sp, e15, e100, dvI_of cz, pk_div (by omega) o7 (by omega), nI_l (by have := Nat.div_le_self (100 - sl) (cpA (100 - sl) 100); omega), lp]
      · rw [if_neg q, if_neg q, dvI_of cz, show (100 : Int32) = nI 100 from rfl, pk_div (by omega) o7 (by omega), nI_l (by have := Nat.div_le_self 100 (cpA (100 - sl) 100); omega), lp]
    · have m1 := m.B hnp (scB_0 h)
      have e4 : (wrI h 255 0 0).1 257 4 = nI sl := m1.1.2.2.2.2.1.trans sl2
      unfold g_X11_sure
      simp only [pfI]
      rw [if_neg z0, if_neg z6, if_neg y0, if_neg y1, ← hN]
      refine (r_pow_L _ n sl hn sl1 a1 e4 n 0 N (by omega) (by omega)).trans ?_
      refine (r_ec _ a1 _ _ _ N _ _ g o3 o4 he).trans ?_
      by_cases q : a1 = 0
      · rw [if_pos q, if_pos q, dvL_of gz, pk_lDiv o3 o1 o2, o5]
      · rw [if_neg q, if_neg q, dvL_of gz, pk_lDiv o4 o1 o2, o6]
/-! notes -/
def ntA (nT : TB) (n : Nat) (x0 x1 x2 x3 x4 : Int32) : TB := fun o i => if i = n then (if o = 0 then x0 else if o = 1 then x1 else if o = 2 then x2 else if o = 3 then x3 else x4) else nT o i
theorem ntA_n (nT : TB) (n : Nat) (x0 x1 x2 x3 x4 : Int32) {o i : Nat} (h : i ≠ n) : ntA nT n x0 x1 x2 x3 x4 o i = nT o i := if_neg h
theorem ntA_y (nT : TB) (n : Nat) (x0 x1 x2 x3 x4 : Int32) : ntA nT n x0 x1 x2 x3 x4 0 n = x0 ∧ ntA nT n x0 x1 x2 x3 x4 1 n = x1 ∧ ntA nT n x0 x1 x2 x3 x4 2 n = x2 ∧ ntA nT n x0 x1 x2 x3 x4 3 n = x3 ∧ ntA nT n x0 x1 x2 x3 x4 4 n = x4 := by
  unfold ntA
  simp
theorem NW_add {nf np nN : Nat} {nb : Int32} {nT : TB} (w : NW nf np nN nb nT) (h24 : nN < 24) {x0 x1 x2 x3 x4 : Int32} (hx : (x4 = -1 ∧ (∃ u, 1 ≤ u ∧ u ≤ 40 ∧ x0 = nI u) ∧ (∃ a, a < np ∧ x1 = nI a) ∧ (∃ f, f ≤ nf ∧ x2 = nI f) ∧ (x3 = 0 ∨ x3 = 1)) ∨ ∃ j, j < nN ∧ x4 = nI j) : NW nf np (nN + 1) nb (ntA nT nN x0 x1 x2 x3 x4) := by
  obtain ⟨w1, w2, w3⟩ := w
  refine ⟨by omega, ?_, fun i hi => ?_⟩
  · rcases w2 with q | ⟨b, b1, b2⟩
    · exact Or.inl q
    · exact Or.inr ⟨b, by omega, b2⟩
  · by_cases e : i = nN
    · subst e
      obtain ⟨y0, y1, y2, y3, y4⟩ := ntA_y nT i x0 x1 x2 x3 x4
      rw [y0, y1, y2, y3, y4]
      exact hx
    · rw [ntA_n _ _ _ _ _ _ _ e, ntA_n _ _ _ _ _ _ _ e, ntA_n _ _ _ _ _ _ _ e, ntA_n _ _ _ _ _ _ _ e, ntA_n _ _ _ _ _ _ _ e]
      exact w3 i (by omega)
theorem nar_b {x : Int32} (h : x = 0 ∨ x = 1) : vp_nar .boolean x = x := by rcases h with rfl | rfl <;> rfl
theorem c_note (a0 a1 a2 a3 : Int32) (h3 : a3 = 0 ∨ a3 = 1) : Eqv (g_X10_note a0 a1 a2 a3) (g_X11_note a0 a1 a2 a3) := by
  refine Eqv_s fun P S nf np nl ng im pa nN nb nT tl tp fk fp w y h c => ?_
  have hnf : nf ≤ 6 := w.1.1.1
  have hnp : np ≤ 6 := w.1.1.2.1
  obtain ⟨w1, w2, w3, w4, w5⟩ := id w
  have no : (∀ h, RelC h P S im pa nN nb nT tl tp fk fp → g_X10_note a0 a1 a2 a3 h = some (-1, h)) → (∀ h, RelM h P S nf np nl ng im pa nN nb nT tl tp fk fp → g_X11_note a0 a1 a2 a3 h = some (-1, wrI h 255 0 0)) → ∃ (v : Int32) (h' : HH) (P' S' : TB) (nf' np' nl' ng' : Nat) (im' : Option TB) (pa' : List TB) (nN' : Nat) (nb' : Int32) (nT' : TB) (tl' : Nat) (tp' : Nat → Nat) (fk' fp' : Int32), fM h h' ∧ g_X10_note a0 a1 a2 a3 h = some (v, h') ∧ RelW P' S' nf' np' nl' ng' im' pa' nN' nb' nT' ∧ RelC h' P' S' im' pa' nN' nb' nT' tl' tp' fk' fp' ∧ (∀ h, RelM h P S nf np nl ng im pa nN nb nT tl tp fk fp → ∃ h', fC h h' ∧ g_X11_note a0 a1 a2 a3 h = some (v, h') ∧ RelM h' P' S' nf' np' nl' ng' im' pa' nN' nb' nT' tl' tp' fk' fp') := fun q1 q2 =>
    ⟨-1, h, P, S, nf, np, nl, ng, im, pa, nN, nb, nT, tl, tp, fk, fp, fM_rf h, q1 h c, w, c, fun h m => ⟨_, (scB_0 h).C, q2 h m, m.z hnp y.2.2.1⟩⟩
  by_cases z1 : a0 < 1
  · exact no (fun h c => by unfold g_X10_note; rw [if_pos z1]) (fun h m => by unfold g_X11_note; simp only [pfI]; rw [if_pos z1])
  by_cases z40 : 40 < a0
  · exact no (fun h c => by unfold g_X10_note; rw [if_neg z1, if_pos z40]) (fun h m => by unfold g_X11_note; simp only [pfI]; rw [if_neg z1, if_pos z40])
  by_cases pa1 : prs a1 np
  rotate_left
  · exact no (fun h c => by unfold g_X10_note; rw [if_neg z1, if_neg z40, xg_P0 c.1 w1 pa1]) (fun h m => by unfold g_X11_note; simp only [pfI]; rw [if_neg z1, if_neg z40, rg_P0 (m.z hnp y.2.2.1).1.1 pa1])
  obtain ⟨a, ha, rfl⟩ := pa1
  by_cases pf : prs a2 (nf + 1)
  rotate_left
  · exact no (fun h c => by unfold g_X10_note; rw [if_neg z1, if_neg z40, xg_P1 c.1 w1 ha, xg_L0 c.1 w1 pf]) (fun h m => by unfold g_X11_note; simp only [pfI]; rw [if_neg z1, if_neg z40, rg_P1 (m.z hnp y.2.2.1).1.1 hnp ha, rg_L0 (m.z hnp y.2.2.1).1.1 hnf pf])
  obtain ⟨f, hf, rfl⟩ := pf
  have n0 : ¬ a0 < 0 := fun q => z1 (by
    rw [Int32.lt_iff_toInt_lt] at q ⊢
    have e0 : (0 : Int32).toInt = 0 := by decide
    rw [e0] at q
    rw [i1]; omega)
  obtain ⟨u, hu, rfl⟩ := nI_of n0
  have u40 : u ≤ 40 := Nat.not_lt.mp fun q => z40 (nI_lt (a := 40) q hu)
  have u1 : 1 ≤ u := Nat.not_lt.mp fun q => z1 (nI_lt (b := 1) q (by decide))
  obtain ⟨v1, v2, v3⟩ := id w5
  by_cases h24 : nN = 24
  · refine no (fun h c => ?_) (fun h m => ?_)
    · unfold g_X10_note g_X3_add
      simp only [gfI]
      rw [if_neg z1, if_neg z40, xg_P1 c.1 w1 ha, xg_L1 c.1 w1 hf, c.2.2.2.1.1, if_neg (show ¬ nI nN < 24 by rw [h24]; decide), bnd_some]
    · have mB := m.z hnp y.2.2.1
      unfold g_X11_note
      simp only [pfI, gfI]
      rw [if_neg z1, if_neg z40, rg_P1 mB.1.1 hnp ha, rg_L1 mB.1.1 hnf hf, mB.2.2.2.1.1, if_pos (show nI nN = 24 by rw [h24]; rfl)]
  have hlt : nN < 24 := by omega
  obtain ⟨c1, c2, c3, c4, c5, c6⟩ := id c
  have hA : ∃ hA, hA = wrI (wrI (wrI (wrI (wrI (wrI h 187 nN (nI u)) 188 nN (nI a)) 189 nN (nI f)) 190 nN a3) 191 nN (-1)) 186 6 (nI (nN + 1)) := ⟨_, rfl⟩
  obtain ⟨hA, eA⟩ := hA
  have fr : ∀ x k, ¬ (187 ≤ x ∧ x ≤ 191 ∧ k = nN) → ¬ (x = 186 ∧ k = 6) → hA.1 x k = h.1 x k := fun x k q1 q2 => by
    rw [eA, wrI_1, if_neg q2, wrI_1, if_neg (by omega), wrI_1, if_neg (by omega), wrI_1, if_neg (by omega), wrI_1, if_neg (by omega), wrI_1, if_neg (by omega)]
  have n4 : (ntA nT nN (nI u) (nI a) (nI f) a3 (-1)) 4 nN = -1 := (ntA_y _ _ _ _ _ _ _).2.2.2.2
  refine ⟨nI nN, hA, P, S, nf, np, nl, ng, im, pa, nN + 1, nb, ntA nT nN (nI u) (nI a) (nI f) a3 (-1), tl, tp, fk, fp, fun x k q => fr x k (by omega) (by omega), ?_, ⟨w1, w2, w3, w4, NW_add w5 hlt (Or.inl ⟨rfl, ⟨u, u1, u40, rfl⟩, ⟨a, ha, rfl⟩, ⟨f, by omega, rfl⟩, h3⟩)⟩, ⟨c1.X (fun x k q => fr x k (by omega) (by omega)) (fun j _ => by rw [eA]; rfl), c2.X fun x k q => fr x k (by omega) (by omega), c3.X fun x k q => fr x k (by omega) (by omega), ⟨by rw [eA, wrI_at], (fr 186 7 (by omega) (by omega)).trans c4.2.1, fun i hi => ?_⟩, c5.X fun x k q => fr x k (by omega) (by omega), c6.X fun x k q => fr x k (by omega) (by omega)⟩, fun h m => ?_⟩
  · unfold g_X10_note g_X3_add
    simp only [gfI, pfI]
    rw [if_neg z1, if_neg z40, xg_P1 c.1 w1 ha, xg_L1 c.1 w1 hf, c4.1, if_pos (show nI nN < 24 from nI_lt (b := 24) hlt (by decide)), stI_of hlt (by decide)]
    have g6 : ∀ (g : HH) (x k : Nat) (v : Int32), x ≠ 186 → g.1 186 6 = nI nN → (wrI g x k v).1 186 6 = nI nN := fun g x k v q e => by rw [wrI_1, if_neg (fun z => q z.1.symm)]; exact e
    have s1 := g6 h 187 nN (nI u) (by decide) c4.1
    have s2 := g6 _ 188 nN (nI a) (by decide) s1
    have s3 := g6 _ 189 nN (nI f) (by decide) s2
    have s4 := g6 _ 190 nN a3 (by decide) s3
    have s5 := g6 _ 191 nN (-1) (by decide) s4
    rw [s1, stI_of hlt (by decide), s2, stI_of hlt (by decide), s3, nar_b h3, stI_of hlt (by decide), s4, stI_of hlt (by decide), s5, nI_1, ← eA]
    rw [show hA.1 186 6 = nI (nN + 1) by rw [eA, wrI_at], nI_pred, bnd_some]
  · by_cases e : i = nN
    · subst e
      obtain ⟨y0, y1, y2, y3, y4⟩ := ntA_y nT i (nI u) (nI a) (nI f) a3 (-1)
      rw [y0, y1, y2, y3, y4, eA]
      simp [wrI_1]
    · rw [ntA_n _ _ _ _ _ _ _ e, ntA_n _ _ _ _ _ _ _ e, ntA_n _ _ _ _ _ _ _ e, ntA_n _ _ _ _ _ _ _ e, ntA_n _ _ _ _ _ _ _ e, fr 191 i (by omega) (by omega), fr 187 i (by omega) (by omega), fr 188 i (by omega) (by omega), fr 189 i (by omega) (by omega), fr 190 i (by omega) (by omega)]
      exact c4.2.2 i (by omega)
  · have mB := m.z hnp y.2.2.1
    obtain ⟨m1, m2, m3, m4, m5, m6⟩ := id mB
    obtain ⟨hM, eM'⟩ : ∃ hM, hM = wrI (wrI (wrI (wrI (wrI (wrI (wrI h 255 0 0) 288 nN (nI u)) 289 nN (nI a)) 290 nN (nI f)) 291 nN a3) 292 nN (-1)) 255 56 (nI (nN + 1)) := ⟨_, rfl⟩
    have fr : ∀ x k, ¬ (288 ≤ x ∧ x ≤ 292 ∧ k = nN) → ¬ (x = 255 ∧ k = 56) → hM.1 x k = (wrI h 255 0 0).1 x k := fun x k q1 q2 => by
      rw [eM', wrI_1, if_neg q2, wrI_1, if_neg (by omega), wrI_1, if_neg (by omega), wrI_1, if_neg (by omega), wrI_1, if_neg (by omega), wrI_1, if_neg (by omega)]
    refine ⟨hM, (scB_0 h).C.tr ⟨fun x k q => fr x k (by omega) (by omega), fun j _ => by rw [eM']; rfl⟩, ?_, m1.X hnp fun x k q => fr x k ?_ ?_, m2.X hnp fun x k q => fr x k ?_ ?_, m3.X hnp (fun x k q => fr x k ?_ ?_) y.2.2.1, ⟨by rw [eM', wrI_at], (fr 255 57 (by omega) (by omega)).trans m4.2.1, fun i hi => ?_⟩, m5.X fun x k q => fr x k (by omega) (by omega), m6.X fun x k q => fr x k (by omega) (by omega)⟩
    · unfold g_X11_note
      simp only [gfI, pfI]
      rw [if_neg z1, if_neg z40, rg_P1 m1.1 hnp ha, rg_L1 m1.1 hnf hf, m4.1, if_neg (show ¬ nI nN = (24 : Int32) from fun q => h24 ((nI_eq (b := 24) (by omega) (by decide)).mp q)), stI_of hlt (by decide)]
      have g6 : ∀ (g : HH) (x k : Nat) (v : Int32), x ≠ 255 → g.1 255 56 = nI nN → (wrI g x k v).1 255 56 = nI nN := fun g x k v q e => by rw [wrI_1, if_neg (fun z => q z.1.symm)]; exact e
      have s1 := g6 (wrI h 255 0 0) 288 nN (nI u) (by decide) m4.1
      have s2 := g6 _ 289 nN (nI a) (by decide) s1
      have s3 := g6 _ 290 nN (nI f) (by decide) s2
      have s4 := g6 _ 291 nN a3 (by decide) s3
      have s5 := g6 _ 292 nN (-1) (by decide) s4
      rw [s1, stI_of hlt (by decide), s2, stI_of hlt (by decide), s3, nar_b h3, stI_of hlt (by decide), s4, stI_of hlt (by decide), s5, nI_1, ← eM']
      rw [show hM.1 255 56 = nI (nN + 1) by rw [eM', wrI_at], nI_pred]
    · rcases q with q | q | q
      · omega
      · omega
      · unfold inH at q; omega
    · rcases q with q | q | q
      · omega
      · omega
      · unfold inH at q; omega
    · rcases q with q | q
      · omega
      · unfold inH at q; omega
    · rcases q with q | q
      · omega
      · unfold inH at q; omega
    · rcases q with q | ⟨_, _, _, q⟩
      · omega
      · unfold inH at q; omega
    · rcases q with q | ⟨_, _, _, q⟩
      · omega
      · unfold inH at q; omega
    · by_cases e : i = nN
      · subst e
        obtain ⟨y0, y1, y2, y3, y4⟩ := ntA_y nT i (nI u) (nI a) (nI f) a3 (-1)
        rw [y0, y1, y2, y3, y4, eM']
        simp [wrI_1]
      · rw [ntA_n _ _ _ _ _ _ _ e, ntA_n _ _ _ _ _ _ _ e, ntA_n _ _ _ _ _ _ _ e, ntA_n _ _ _ _ _ _ _ e, ntA_n _ _ _ _ _ _ _ e, fr 288 i (by omega) (by omega), fr 289 i (by omega) (by omega), fr 290 i (by omega) (by omega), fr 291 i (by omega) (by omega), fr 292 i (by omega) (by omega)]
        exact m4.2.2 i (by omega)
theorem c_strike (a0 : Int32) : Eqv (g_X10_strike a0) (g_X11_strike a0) := by
  refine Eqv_s fun P S nf np nl ng im pa nN nb nT tl tp fk fp w y h c => ?_
  have hnp : np ≤ 6 := w.1.1.2.1
  obtain ⟨w1, w2, w3, w4, w5⟩ := id w
  have no : (∀ h, RelC h P S im pa nN nb nT tl tp fk fp → g_X10_strike a0 h = some (-1, h)) → (∀ h, RelM h P S nf np nl ng im pa nN nb nT tl tp fk fp → g_X11_strike a0 h = some (-1, wrI h 255 0 0)) → ∃ (v : Int32) (h' : HH) (P' S' : TB) (nf' np' nl' ng' : Nat) (im' : Option TB) (pa' : List TB) (nN' : Nat) (nb' : Int32) (nT' : TB) (tl' : Nat) (tp' : Nat → Nat) (fk' fp' : Int32), fM h h' ∧ g_X10_strike a0 h = some (v, h') ∧ RelW P' S' nf' np' nl' ng' im' pa' nN' nb' nT' ∧ RelC h' P' S' im' pa' nN' nb' nT' tl' tp' fk' fp' ∧ (∀ h, RelM h P S nf np nl ng im pa nN nb nT tl tp fk fp → ∃ h', fC h h' ∧ g_X11_strike a0 h = some (v, h') ∧ RelM h' P' S' nf' np' nl' ng' im' pa' nN' nb' nT' tl' tp' fk' fp') := fun q1 q2 =>
    ⟨-1, h, P, S, nf, np, nl, ng, im, pa, nN, nb, nT, tl, tp, fk, fp, fM_rf h, q1 h c, w, c, fun h m => ⟨_, (scB_0 h).C, q2 h m, m.z hnp y.2.2.1⟩⟩
  obtain ⟨v1, v2, v3⟩ := id w5
  by_cases z0 : a0 < 0
  · exact no (fun h c => by unfold g_X10_strike g_X3_addStrike; rw [if_pos z0, bnd_some]) (fun h m => by unfold g_X11_strike; simp only [pfI]; rw [if_pos z0])
  obtain ⟨j, hj, rfl⟩ := nI_of z0
  by_cases jn' : j < nN
  rotate_left
  · exact no (fun h c => by unfold g_X10_strike g_X3_addStrike; simp only [gfI]; rw [if_neg z0, c.2.2.2.1.1, if_neg (nI_nlt (by omega) (by omega)), bnd_some]) (fun h m => by
      have mB := m.z hnp y.2.2.1
      unfold g_X11_strike; simp only [pfI, gfI]; rw [if_neg z0, mB.2.2.2.1.1, if_neg (nI_nlt (by omega) (by omega))])
  have jlt : nI j < nI nN := nI_lt jn' (by omega)
  by_cases h24 : nN = 24
  · refine no (fun h c => ?_) (fun h m => ?_)
    · unfold g_X10_strike g_X3_addStrike
      simp only [gfI]
      rw [if_neg z0, c.2.2.2.1.1, if_pos jlt, if_neg (show ¬ nI nN < 24 by rw [h24]; decide), bnd_some]
    · have mB := m.z hnp y.2.2.1
      unfold g_X11_strike
      simp only [pfI, gfI]
      rw [if_neg z0, mB.2.2.2.1.1, if_pos jlt, if_pos (show nI nN = 24 by rw [h24]; rfl)]
  have hlt : nN < 24 := by omega
  obtain ⟨c1, c2, c3, c4, c5, c6⟩ := id c
  have hA : ∃ hA, hA = wrI (wrI (wrI h 187 nN 0) 191 nN (nI j)) 186 6 (nI (nN + 1)) := ⟨_, rfl⟩
  obtain ⟨hA, eA⟩ := hA
  have fr : ∀ x k, ¬ (187 ≤ x ∧ x ≤ 191 ∧ k = nN) → ¬ (x = 186 ∧ k = 6) → hA.1 x k = h.1 x k := fun x k q1 q2 => by
    rw [eA, wrI_1, if_neg q2, wrI_1, if_neg (by omega), wrI_1, if_neg (by omega)]
  have jm : ¬ nI j = -1 := m1_ne j hj
  refine ⟨nI nN, hA, P, S, nf, np, nl, ng, im, pa, nN + 1, nb, ntA nT nN 0 0 0 0 (nI j), tl, tp, fk, fp, fun x k q => fr x k (by omega) (by omega), ?_, ⟨w1, w2, w3, w4, NW_add w5 hlt (Or.inr ⟨j, jn', rfl⟩)⟩, ⟨c1.X (fun x k q => fr x k (by omega) (by omega)) (fun j _ => by rw [eA]; rfl), c2.X fun x k q => fr x k (by omega) (by omega), c3.X fun x k q => fr x k (by omega) (by omega), ⟨by rw [eA, wrI_at], (fr 186 7 (by omega) (by omega)).trans c4.2.1, fun i hi => ?_⟩, c5.X fun x k q => fr x k (by omega) (by omega), c6.X fun x k q => fr x k (by omega) (by omega)⟩, fun h m => ?_⟩
  · unfold g_X10_strike g_X3_addStrike
    simp only [gfI, pfI]
    rw [if_neg z0, c4.1, if_pos jlt, if_pos (show nI nN < 24 from nI_lt (b := 24) hlt (by decide)), stI_of hlt (by decide)]
    have g6 : ∀ (g : HH) (x k : Nat) (v : Int32), x ≠ 186 → g.1 186 6 = nI nN → (wrI g x k v).1 186 6 = nI nN := fun g x k v q e => by rw [wrI_1, if_neg (fun z => q z.1.symm)]; exact e
    have s1 := g6 h 187 nN 0 (by decide) c4.1
    have s2 := g6 _ 191 nN (nI j) (by decide) s1
    rw [s1, stI_of hlt (by decide), s2, nI_1, ← eA]
    rw [show hA.1 186 6 = nI (nN + 1) by rw [eA, wrI_at], nI_pred, bnd_some]
  · by_cases e : i = nN
    · subst e
      obtain ⟨y0, y1, y2, y3, y4⟩ := ntA_y nT i 0 0 0 0 (nI j)
      rw [y0, y1, y2, y3, y4, eA, if_neg jm]
      refine ⟨by simp [wrI_1], by simp [wrI_1], fun q => absurd q jm⟩
    · rw [ntA_n _ _ _ _ _ _ _ e, ntA_n _ _ _ _ _ _ _ e, ntA_n _ _ _ _ _ _ _ e, ntA_n _ _ _ _ _ _ _ e, ntA_n _ _ _ _ _ _ _ e, fr 191 i (by omega) (by omega), fr 187 i (by omega) (by omega), fr 188 i (by omega) (by omega), fr 189 i (by omega) (by omega), fr 190 i (by omega) (by omega)]
      exact c4.2.2 i (by omega)
  · have mB := m.z hnp y.2.2.1
    obtain ⟨m1, m2, m3, m4, m5, m6⟩ := id mB
    obtain ⟨hM, eM'⟩ : ∃ hM, hM = wrI (wrI (wrI h 255 0 0) 292 nN (nI j)) 255 56 (nI (nN + 1)) := ⟨_, rfl⟩
    have fr : ∀ x k, ¬ (288 ≤ x ∧ x ≤ 292 ∧ k = nN) → ¬ (x = 255 ∧ k = 56) → hM.1 x k = (wrI h 255 0 0).1 x k := fun x k q1 q2 => by
      rw [eM', wrI_1, if_neg q2, wrI_1, if_neg (by omega)]
    refine ⟨hM, (scB_0 h).C.tr ⟨fun x k q => fr x k (by omega) (by omega), fun j _ => by rw [eM']; rfl⟩, ?_, m1.X hnp fun x k q => fr x k ?_ ?_, m2.X hnp fun x k q => fr x k ?_ ?_, m3.X hnp (fun x k q => fr x k ?_ ?_) y.2.2.1, ⟨by rw [eM', wrI_at], (fr 255 57 (by omega) (by omega)).trans m4.2.1, fun i hi => ?_⟩, m5.X fun x k q => fr x k (by omega) (by omega), m6.X fun x k q => fr x k (by omega) (by omega)⟩
    · unfold g_X11_strike
      simp only [gfI, pfI]
      rw [if_neg z0, m4.1, if_pos jlt, if_neg (show ¬ nI nN = (24 : Int32) from fun q => h24 ((nI_eq (b := 24) (by omega) (by decide)).mp q)), stI_of hlt (by decide)]
      have g6 : ∀ (g : HH) (x k : Nat) (v : Int32), x ≠ 255 → g.1 255 56 = nI nN → (wrI g x k v).1 255 56 = nI nN := fun g x k v q e => by rw [wrI_1, if_neg (fun z => q z.1.symm)]; exact e
      have s1 := g6 (wrI h 255 0 0) 292 nN (nI j) (by decide) m4.1
      rw [s1, nI_1, ← eM']
      rw [show hM.1 255 56 = nI (nN + 1) by rw [eM', wrI_at], nI_pred]
    · rcases q with q | q | q
      · omega
      · omega
      · unfold inH at q; omega
    · rcases q with q | q | q
      · omega
      · omega
      · unfold inH at q; omega
    · rcases q with q | q
      · omega
      · unfold inH at q; omega
    · rcases q with q | q
      · omega
      · unfold inH at q; omega
    · rcases q with q | ⟨_, _, _, q⟩
      · omega
      · unfold inH at q; omega
    · rcases q with q | ⟨_, _, _, q⟩
      · omega
      · unfold inH at q; omega
    · by_cases e : i = nN
      · subst e
        obtain ⟨y0, y1, y2, y3, y4⟩ := ntA_y nT i 0 0 0 0 (nI j)
        rw [y0, y1, y2, y3, y4, eM']
        exact ⟨by simp [wrI_1], fun q => absurd q jm⟩
      · rw [ntA_n _ _ _ _ _ _ _ e, ntA_n _ _ _ _ _ _ _ e, ntA_n _ _ _ _ _ _ _ e, ntA_n _ _ _ _ _ _ _ e, ntA_n _ _ _ _ _ _ _ e, fr 288 i (by omega) (by omega), fr 289 i (by omega) (by omega), fr 290 i (by omega) (by omega), fr 291 i (by omega) (by omega), fr 292 i (by omega) (by omega)]
        exact m4.2.2 i (by omega)
theorem c_known (a0 : Int32) : Eqv (g_X10_known a0) (g_X11_known a0) := by
  refine Eqv_u fun P S nf np nl ng im pa nN nb nT tl tp fk fp w y => ?_
  have hnp : np ≤ 6 := w.1.1.2.1
  obtain ⟨w1, w2, w3, w4, w5⟩ := id w
  obtain ⟨v1, v2, v3⟩ := id w5
  by_cases z0 : a0 < -1
  · refine ⟨0, P, S, nf, np, nl, ng, im, pa, nN, nb, nT, tl, tp, fk, fp, w, fun h c => ⟨h, fM_rf h, ?_, c⟩, fun h m => ⟨_, (scB_0 h).C, ?_, m.z hnp y.2.2.1⟩⟩
    · unfold g_X10_known; rw [if_pos z0]
    · unfold g_X11_known; simp only [pfI]; rw [if_pos z0]
  by_cases z1 : nI nN < a0
  · refine ⟨0, P, S, nf, np, nl, ng, im, pa, nN, nb, nT, tl, tp, fk, fp, w, fun h c => ⟨h, fM_rf h, ?_, c⟩, fun h m => ⟨_, (scB_0 h).C, ?_, m.z hnp y.2.2.1⟩⟩
    · unfold g_X10_known; simp only [gfI]; rw [if_neg z0, c.2.2.2.1.1, if_pos z1]
    · have mB := m.z hnp y.2.2.1
      unfold g_X11_known; simp only [pfI, gfI]; rw [if_neg z0, mB.2.2.2.1.1, if_pos z1]
  have hb : a0 = -1 ∨ ∃ b, b ≤ nN ∧ a0 = nI b := by
    by_cases q : a0 < 0
    · left
      apply Int32.toInt_inj.mp
      rw [Int32.lt_iff_toInt_lt] at q z0
      have e0 : (0 : Int32).toInt = 0 := by decide
      rw [e0] at q
      rw [im1] at z0 ⊢
      omega
    · right
      obtain ⟨b, hb, rfl⟩ := nI_of q
      exact ⟨b, Nat.not_lt.mp fun z => z1 (nI_lt z hb), rfl⟩
  refine ⟨1, P, S, nf, np, nl, ng, im, pa, nN, a0, nT, tl, tp, fk, fp, ⟨w1, w2, w3, w4, v1, hb, v3⟩, fun h c => ?_, fun h m => ?_⟩
  · obtain ⟨c1, c2, c3, c4, c5, c6⟩ := id c
    have fr : ∀ x k, ¬ (x = 186 ∧ k = 7) → (wrI h 186 7 a0).1 x k = h.1 x k := fun x k q => by rw [wrI_1, if_neg q]
    refine ⟨wrI h 186 7 a0, fun x k q => fr x k (by omega), ?_, c1.X (fun x k q => fr x k (by omega)) (fun j _ => rfl), c2.X fun x k q => fr x k (by omega), c3.X fun x k q => fr x k (by omega), ⟨(fr 186 6 (by omega)).trans c4.1, wrI_at _ _ _ _, fun i hi => ?_⟩, c5.X fun x k q => fr x k (by omega), c6.X fun x k q => fr x k (by omega)⟩
    · unfold g_X10_known; simp only [gfI, pfI]; rw [if_neg z0, c4.1, if_neg z1]
    · rw [fr 191 _ (by omega), fr 187 _ (by omega), fr 188 _ (by omega), fr 189 _ (by omega), fr 190 _ (by omega)]
      exact c4.2.2 i hi
  · have mB := m.z hnp y.2.2.1
    obtain ⟨m1, m2, m3, m4, m5, m6⟩ := id mB
    have fr : ∀ x k, ¬ (x = 255 ∧ k = 57) → (wrI (wrI h 255 0 0) 255 57 a0).1 x k = (wrI h 255 0 0).1 x k := fun x k q => by rw [wrI_1, if_neg q]
    refine ⟨wrI (wrI h 255 0 0) 255 57 a0, (scB_0 h).C.tr ⟨fun x k q => fr x k (by omega), fun j _ => rfl⟩, ?_, m1.X hnp fun x k q => fr x k ?_, m2.X hnp fun x k q => fr x k ?_, m3.X hnp (fun x k q => fr x k ?_) y.2.2.1, ⟨(fr 255 56 (by omega)).trans m4.1, wrI_at _ _ _ _, fun i hi => ?_⟩, m5.X fun x k q => fr x k (by omega), m6.X fun x k q => fr x k (by omega)⟩
    · unfold g_X11_known; simp only [gfI, pfI]; rw [if_neg z0, m4.1, if_neg z1]
    · rcases q with q | q | q
      · omega
      · omega
      · unfold inH at q; omega
    · rcases q with q | q
      · omega
      · unfold inH at q; omega
    · rcases q with q | ⟨_, _, _, q⟩
      · omega
      · unfold inH at q; omega
    · rw [fr 288 _ (by omega), fr 289 _ (by omega), fr 290 _ (by omega), fr 291 _ (by omega), fr 292 _ (by omega)]
      exact m4.2.2 i hi
