/-! bits of a set -/
theorem or_nI (a b : Nat) : nI a ||| nI b = nI (a ||| b) := by
  apply Int32.toBitVec_inj.1
  show BitVec.ofNat 32 a ||| BitVec.ofNat 32 b = BitVec.ofNat 32 (a ||| b)
  apply BitVec.eq_of_getLsbD_eq
  intro i hi
  simp [hi]
def vB (b : Nat → Bool) : Nat → Nat
  | 0 => 0
  | i + 1 => if b i then vB b i ||| 2 ^ i else vB b i
theorem vB_lt (b : Nat → Bool) : ∀ i, vB b i < 2 ^ i
  | 0 => by show 0 < 2 ^ 0; decide
  | i + 1 => by
    have := vB_lt b i
    have e : 2 ^ (i + 1) = 2 * 2 ^ i := by rw [Nat.pow_succ, Nat.mul_comm]
    unfold vB
    split
    · exact Nat.or_lt_two_pow (by omega) (by omega)
    · omega
theorem vB_bit (b : Nat → Bool) : ∀ i j, j < i → (vB b i).testBit j = b j
  | 0, j, h => absurd h (Nat.not_lt_zero _)
  | i + 1, j, h => by
    have hlt := vB_lt b i
    unfold vB
    by_cases e : j = i
    · subst e
      have h0 : (vB b j).testBit j = false := Nat.testBit_lt_two_pow hlt
      cases hb : b j with
      | true => simp [Nat.testBit_or, Nat.testBit_two_pow_self]
      | false => simp [h0]
    · have ih := vB_bit b i j (by omega)
      split
      · rw [Nat.testBit_or, ih, Nat.testBit_two_pow_of_ne (fun z => e z.symm), Bool.or_false]
      · exact ih
theorem vB_eq {b b' : Nat → Bool} : ∀ i, (∀ j, j < i → b j = b' j) → vB b i = vB b' i
  | 0, _ => rfl
  | i + 1, h => by
    unfold vB
    rw [vB_eq i fun j hj => h j (by omega), h i (by omega)]
theorem shl_1 {i : Nat} (hi : i < 19) : (1 : Int32) <<< (nI i &&& 31) = nI (2 ^ i) := by
  have key : ∀ j, j < 19 → (1 : Int32) <<< (nI j &&& 31) = nI (2 ^ j) := by decide +kernel
  exact key i hi
theorem bt_19 (b : Nat → Bool) {i : Nat} (hi : i < 19) : (nI (vB b 19) >>> (nI i &&& 31)) &&& (1 : Int32) = if b i then 1 else 0 := by
  have hlt := vB_lt b 19
  have key : ∀ j, j < 19 → ((nI j &&& 31 : Int32).toBitVec.smod 32).toNat = j := by decide +kernel
  rw [pk_shrN (by omega) _ i (key i hi), pk_andN (by have := Nat.div_le_self (vB b 19) (2 ^ i); omega) 1 (by decide)]
  have := vB_bit b 19 i hi
  rw [Nat.testBit_eq_decide_div_mod_eq] at this
  cases hb : b i with
  | true => rw [hb] at this; have := of_decide_eq_true this; rw [this]; rfl
  | false =>
    rw [hb] at this
    have := of_decide_eq_false this
    have h2 : vB b 19 / 2 ^ i % 2 = 0 := by omega
    rw [h2]; rfl
/-! which notes count -/
def wgA (nT : TB) : Nat → (Nat → Bool) → (Nat → Bool)
  | 0, c => c
  | i + 1, c => wgA nT i (if c i = true ∧ ¬ nT 4 i = -1 then (fun x => if x = (nT 4 i).toNatClampNeg then false else c x) else c)
def cnA (nT : TB) (kb : Nat) : Nat → Bool := wgA nT kb (fun i => decide (i < kb))
theorem wgA_f (nT : TB) : ∀ (i : Nat) (c : Nat → Bool) (x : Nat), c x = false → wgA nT i c x = false
  | 0, _, _, h => h
  | i + 1, c, x, h => by
    unfold wgA
    refine wgA_f nT i _ x ?_
    split
    · show (if x = _ then false else c x) = false
      split
      · rfl
      · exact h
    · exact h
theorem cnA_f (nT : TB) (kb : Nat) {x : Nat} (h : kb ≤ x) : cnA nT kb x = false := wgA_f nT kb _ x (decide_eq_false (by omega))
/-- what is known by how many -/
theorem kb_of {nf np nN : Nat} {nb : Int32} {nT : TB} (w : NW nf np nN nb nT) : ∃ kb, kb ≤ nN ∧ (if nb = -1 then nI nN else nb) = nI kb := by
  obtain ⟨w1, w2, w3⟩ := w
  rcases w2 with rfl | ⟨b, hb, rfl⟩
  · exact ⟨nN, Nat.le_refl _, by rw [if_pos rfl]⟩
  · exact ⟨b, hb, by rw [if_neg (m1_ne b (by omega))]⟩
theorem note_4 {nf np nN : Nat} {nb : Int32} {nT : TB} (w : NW nf np nN nb nT) {i : Nat} (hi : i < nN) (h : ¬ nT 4 i = -1) : nT 4 i = nI (nT 4 i).toNatClampNeg ∧ (nT 4 i).toNatClampNeg < i := by
  have h24 := w.1
  rcases w.2.2 i hi with ⟨q, _⟩ | ⟨j, hj, e⟩
  · exact absurd q h
  · rw [e, nI_clamp (by omega)]; exact ⟨rfl, hj⟩
theorem b01_b (b : Bool) : b01 b = 0 ∨ b01 b = 1 := by cases b <;> simp [b01]
theorem b01_0 (b : Bool) : (b01 b = 0) ↔ b = false := by cases b <;> simp [b01]
section WG
variable {nf np nN kb : Nat} {nb : Int32} {nT : TB}
theorem x_wg1 (K : HH → Option (Unit × HH)) (hkb : (if nb = -1 then nI nN else nb) = nI kb) (hk24 : kb ≤ 24) : ∀ (m i n : Nat) (h : HH), i + m = 24 → m < n → RC4 h nN nb nT → (∀ x, x < i → h.1 192 x = b01 (decide (x < kb))) →
    ∃ h', g_X3_weigh_L2 K n (nI i) h = K h' ∧ (∀ x, x < 24 → h'.1 192 x = b01 (decide (x < kb))) ∧ (∀ a k, a ≠ 192 → h'.1 a k = h.1 a k) ∧ h'.2 = h.2 := by
  intro m
  induction m with
  | zero =>
    intro i n h hi hn c e
    obtain ⟨n, rfl⟩ : ∃ n', n = n' + 1 := ⟨n - 1, by omega⟩
    obtain rfl : i = 24 := by omega
    exact ⟨h, by rw [g_X3_weigh_L2, if_neg (show ¬ nI 24 < 24 by decide)], e, fun _ _ _ => rfl, rfl⟩
  | succ m ih =>
    intro i n h hi hn c e
    obtain ⟨n, rfl⟩ : ∃ n', n = n' + 1 := ⟨n - 1, by omega⟩
    obtain ⟨h', e1, e2, e3, e4⟩ := ih (i + 1) n (wrI h 192 i (b01 (decide (i < kb)))) (by omega) (by omega) (c.X fun a k q => by rw [wrI_1, if_neg (by omega)]) (fun x hx => by
      rw [wrI_1]
      by_cases q : x = i
      · rw [if_pos ⟨rfl, q⟩, q]
      · rw [if_neg (fun z => q z.2)]; exact e x (by omega))
    refine ⟨h', ?_, e2, fun a k q => (e3 a k q).trans (by rw [wrI_1, if_neg (fun z => q z.1)]), e4⟩
    rw [← e1, g_X3_weigh_L2, if_pos (show nI i < 24 from nI_lt (b := 24) (by omega) (by decide)), known_nN c, bnd_some, hkb]
    simp only [jn, vl, nI_1]
    by_cases q : i < kb
    · rw [if_pos (nI_lt q (by omega)), nar_b (Or.inr rfl), stI_of (by omega) (by decide), decide_eq_true q]
      rfl
    · rw [if_neg (nI_nlt (by omega) (by omega)), nar_b (Or.inl rfl), stI_of (by omega) (by decide), decide_eq_false q]
      rfl
theorem sub1 (i : Nat) : nI (i + 1) - 1 + -1 = nI i - 1 := by rw [nI_pred, Int32.sub_eq_add_neg]
theorem x_wg2 (w : NW nf np nN nb nT) : ∀ (i n : Nat) (c : Nat → Bool) (h : HH), i ≤ nN → i < n → RC4 h nN nb nT → (∀ x, x < 24 → h.1 192 x = b01 (c x)) →
    ∃ h', g_X3_weigh_L40 n (nI i - 1) h = some ((), h') ∧ (∀ x, x < 24 → h'.1 192 x = b01 (wgA nT i c x)) ∧ (∀ a k, a ≠ 192 → h'.1 a k = h.1 a k) ∧ h'.2 = h.2 := by
  have h24 := w.1
  intro i
  induction i with
  | zero =>
    intro n c h hi hn rc e
    obtain ⟨n, rfl⟩ : ∃ n', n = n' + 1 := ⟨n - 1, by omega⟩
    exact ⟨h, by rw [g_X3_weigh_L40, if_pos (show nI 0 - 1 < 0 by decide)], e, fun _ _ _ => rfl, rfl⟩
  | succ i ih =>
    intro n c h hi hn rc e
    obtain ⟨n, rfl⟩ : ∃ n', n = n' + 1 := ⟨n - 1, by omega⟩
    have r1 : h.1 191 i = nT 4 i := (rc.2.2 i (by omega)).1
    unfold wgA
    rw [g_X3_weigh_L40]
    simp only [jn, vl]
    rw [sub1, nI_pred, if_neg (nI_pos (by omega)), ldI_of (by omega) (by decide), e i (by omega)]
    cases hc : c i with
    | false =>
      rw [if_pos (show b01 false = 0 from rfl), if_neg (show ¬ (false = true ∧ ¬ nT 4 i = -1) by simp)]
      exact ih n c h (by omega) (by omega) rc e
    | true =>
      rw [if_neg (show ¬ b01 true = 0 by decide), ldI_of (by omega) (by decide), r1]
      by_cases q : nT 4 i = -1
      · rw [if_pos q, if_neg (fun z => z.2 q)]
        exact ih n c h (by omega) (by omega) rc e
      · obtain ⟨q1, q2⟩ := note_4 w (i := i) (by omega) q
        rw [if_neg q, if_pos ⟨rfl, q⟩, ldI_of (by omega) (by decide), r1, q1, nar_b (Or.inl rfl), stI_of (by omega) (by decide), ← q1]
        obtain ⟨h', e1, e2, e3, e4⟩ := ih n (fun x => if x = (nT 4 i).toNatClampNeg then false else c x) (wrI h 192 (nT 4 i).toNatClampNeg 0) (by omega) (by omega) (rc.X fun a k q => by rw [wrI_1, if_neg (by omega)]) (fun x hx => by
          rw [wrI_1]
          by_cases z : x = (nT 4 i).toNatClampNeg
          · rw [if_pos ⟨rfl, z⟩]; show 0 = b01 (if x = _ then false else c x); rw [if_pos z]; rfl
          · rw [if_neg (fun y => z y.2)]; show _ = b01 (if x = _ then false else c x); rw [if_neg z]; exact e x hx)
        exact ⟨h', e1, e2, fun a k q => (e3 a k q).trans (by rw [wrI_1, if_neg (fun z => q z.1)]), e4⟩
theorem x_weigh (w : NW nf np nN nb nT) (hkb : (if nb = -1 then nI nN else nb) = nI kb) (hk : kb ≤ nN) {h : HH} (rc : RC4 h nN nb nT) : ∃ h', g_X3_weigh h = some ((), h') ∧ (∀ x, x < 24 → h'.1 192 x = b01 (cnA nT kb x)) ∧ (∀ a k, a ≠ 192 → h'.1 a k = h.1 a k) ∧ h'.2 = h.2 := by
  have h24 := w.1
  obtain ⟨N, hN⟩ : ∃ N : Nat, N = 1024 := ⟨_, rfl⟩
  obtain ⟨h1, e1, f1, g1, k1⟩ := x_wg1 (nT := nT) (fun (h9 : HH) => bnd (g_X3_knownBy h9) fun r11 h10 => vl ((r11 - (1 : Int32))) fun v12 => g_X3_weigh_L40 N v12 h10) hkb (by omega) 24 0 N h rfl (by omega) rc (fun x hx => absurd hx (by omega))
  have rc1 := rc.X (h' := h1) (fun a k q => g1 a k (by omega))
  obtain ⟨h2, e2, f2, g2, k2⟩ := x_wg2 w kb N _ h1 hk (by omega) rc1 f1
  refine ⟨h2, ?_, f2, fun a k q => (g2 a k q).trans (g1 a k q), k2.trans k1⟩
  unfold g_X3_weigh
  rw [← hN]
  refine Eq.trans e1 ?_
  rw [known_nN rc1, bnd_some, hkb]
  exact e2
/-! the reference's -/
theorem r_wg1 (K : HH → Option (Int32 × HH)) (c1 c2 : Int32) (hkb : (if nb = -1 then nI nN else nb) = nI kb) (hk24 : kb ≤ 24) : ∀ (m i n : Nat) (h : HH), i + m = kb → m < n → RM4 h nN nb nT → (∀ x, x < i → h.1 293 x = 0) →
    ∃ h', g_X11_hadsOf_L5 K c1 c2 n (nI i) h = K h' ∧ (∀ x, x < kb → h'.1 293 x = 0) ∧ (∀ a k, a ≠ 293 → h'.1 a k = h.1 a k) ∧ h'.2 = h.2 := by
  intro m
  induction m with
  | zero =>
    intro i n h hi hn c e
    obtain ⟨n, rfl⟩ : ∃ n', n = n' + 1 := ⟨n - 1, by omega⟩
    refine ⟨h, ?_, fun x hx => e x (by omega), fun _ _ _ => rfl, rfl⟩
    rw [g_X11_hadsOf_L5, r_known_nN c, bnd_some, hkb, if_neg (nI_nlt (by omega) (by omega))]
  | succ m ih =>
    intro i n h hi hn c e
    obtain ⟨n, rfl⟩ : ∃ n', n = n' + 1 := ⟨n - 1, by omega⟩
    obtain ⟨h', e1, e2, e3, e4⟩ := ih (i + 1) n (wrI h 293 i 0) (by omega) (by omega) (c.X fun a k q => by rw [wrI_1, if_neg (by omega)]) (fun x hx => by
      rw [wrI_1]
      by_cases q : x = i
      · rw [if_pos ⟨rfl, q⟩]
      · rw [if_neg (fun z => q z.2)]; exact e x (by omega))
    refine ⟨h', ?_, e2, fun a k q => (e3 a k q).trans (by rw [wrI_1, if_neg (fun z => q z.1)]), e4⟩
    rw [← e1, g_X11_hadsOf_L5, r_known_nN c, bnd_some, hkb, if_pos (nI_lt (by omega) (by omega)), nar_b (Or.inl rfl), stI_of (by omega) (by decide)]
    simp only [vl, nI_1]
theorem r_wg2 (K : HH → Option (Int32 × HH)) (c1 c2 : Int32) (w : NW nf np nN nb nT) (hk : kb ≤ nN) : ∀ (i n : Nat) (c : Nat → Bool) (h : HH), i ≤ kb → i < n → RM4 h nN nb nT → (∀ x, x < kb → h.1 293 x = b01 (!c x)) →
    ∃ h', g_X11_hadsOf_L36 K c1 c2 n (nI i - 1) h = K h' ∧ (∀ x, x < kb → h'.1 293 x = b01 (!wgA nT i c x)) ∧ (∀ a k, a ≠ 293 → h'.1 a k = h.1 a k) ∧ h'.2 = h.2 := by
  have h24 := w.1
  intro i
  induction i with
  | zero =>
    intro n c h hi hn rc e
    obtain ⟨n, rfl⟩ : ∃ n', n = n' + 1 := ⟨n - 1, by omega⟩
    exact ⟨h, by rw [g_X11_hadsOf_L36, if_pos (show nI 0 - 1 < 0 by decide)], e, fun _ _ _ => rfl, rfl⟩
  | succ i ih =>
    intro n c h hi hn rc e
    obtain ⟨n, rfl⟩ : ∃ n', n = n' + 1 := ⟨n - 1, by omega⟩
    have r1 : h.1 292 i = nT 4 i := (rc.2.2 i (by omega)).1
    unfold wgA
    rw [g_X11_hadsOf_L36]
    simp only [jn, vl]
    rw [sub1, nI_pred, if_neg (nI_pos (by omega)), ldI_of (by omega) (by decide), e i (by omega)]
    cases hc : c i with
    | false =>
      rw [if_neg (show ¬ b01 (!false) = 0 by decide), if_neg (show ¬ (false = true ∧ ¬ nT 4 i = -1) by simp)]
      exact ih n c h (by omega) (by omega) rc e
    | true =>
      rw [if_pos (show b01 (!true) = 0 from rfl), ldI_of (by omega) (by decide), r1]
      by_cases q : nT 4 i = -1
      · rw [if_pos q, if_neg (fun z => z.2 q)]
        exact ih n c h (by omega) (by omega) rc e
      · obtain ⟨q1, q2⟩ := note_4 w (i := i) (by omega) q
        rw [if_neg q, if_pos ⟨rfl, q⟩, ldI_of (by omega) (by decide), r1, q1, nar_b (Or.inr rfl), stI_of (by omega) (by decide), ← q1]
        obtain ⟨h', e1, e2, e3, e4⟩ := ih n (fun x => if x = (nT 4 i).toNatClampNeg then false else c x) (wrI h 293 (nT 4 i).toNatClampNeg 1) (by omega) (by omega) (rc.X fun a k q => by rw [wrI_1, if_neg (by omega)]) (fun x hx => by
          rw [wrI_1]
          by_cases z : x = (nT 4 i).toNatClampNeg
          · rw [if_pos ⟨rfl, z⟩]; show 1 = b01 (!(if x = _ then false else c x)); rw [if_pos z]; rfl
          · rw [if_neg (fun y => z y.2)]; show _ = b01 (!(if x = _ then false else c x)); rw [if_neg z]; exact e x hx)
        exact ⟨h', e1, e2, fun a k q => (e3 a k q).trans (by rw [wrI_1, if_neg (fun z => q z.1)]), e4⟩
/-- the last hour that is asked for -/
def enA (nT : TB) (c : Nat → Bool) : Nat → Nat
  | 0 => 0
  | i + 1 => if c i = true ∧ nT 4 i = -1 then max (enA nT c i) (nT 0 i).toNatClampNeg else enA nT c i
theorem note_0 (w : NW nf np nN nb nT) {i : Nat} (hi : i < nN) (h : nT 4 i = -1) : ∃ u a f, 1 ≤ u ∧ u ≤ 40 ∧ nT 0 i = nI u ∧ a < np ∧ nT 1 i = nI a ∧ f ≤ nf ∧ nT 2 i = nI f ∧ (nT 3 i = 0 ∨ nT 3 i = 1) := by
  rcases w.2.2 i hi with ⟨_, ⟨u, u1, u2, u3⟩, ⟨a, a1, a2⟩, ⟨f, f1, f2⟩, q⟩ | ⟨j, hj, e⟩
  · exact ⟨u, a, f, u1, u2, u3, a1, a2, f1, f2, q⟩
  · rw [h] at e; exact absurd e.symm (m1_ne j (by have := w.1; omega))
theorem enA_le (w : NW nf np nN nb nT) (c : Nat → Bool) : ∀ i, i ≤ nN → enA nT c i ≤ 40
  | 0, _ => Nat.zero_le _
  | i + 1, hi => by
    have := enA_le w c i (by omega)
    unfold enA
    split
    · rename_i q
      obtain ⟨u, a, f, u1, u2, u3, -⟩ := note_0 w (i := i) (by omega) q.2
      rw [u3, nI_clamp (by omega)]; omega
    · exact this
theorem enA_ge (c : Nat → Bool) : ∀ i j, j < i → c j = true → nT 4 j = -1 → (nT 0 j).toNatClampNeg ≤ enA nT c i
  | 0, j, h, _, _ => absurd h (Nat.not_lt_zero _)
  | i + 1, j, h, h1, h2 => by
    unfold enA
    by_cases e : j = i
    · subst e; rw [if_pos ⟨h1, h2⟩]; omega
    · have := enA_ge c i j (by omega) h1 h2
      split <;> omega
theorem mx_nI {a b : Nat} (ha : a < 2 ^ 31) (hb : b < 2 ^ 31) : mxI (nI a) (nI b) = nI (max a b) := by
  apply Int32.toInt_inj.mp
  rw [mx_int, nI_toInt ha, nI_toInt hb, nI_toInt (by omega)]
  omega
theorem r_wg3 (K : Int32 → HH → Option (Int32 × HH)) (c1 c2 : Int32) (w : NW nf np nN nb nT) (hkb : (if nb = -1 then nI nN else nb) = nI kb) (hk : kb ≤ nN) (c : Nat → Bool) {h : HH} (rc : RM4 h nN nb nT) (e : ∀ x, x < kb → h.1 293 x = b01 (!c x)) : ∀ (m i n : Nat), i + m = kb → m < n → g_X11_hadsOf_L84 K c1 c2 n (nI (enA nT c i)) (nI i) h = K (nI (enA nT c kb)) h := by
  have h24 := w.1
  intro m
  induction m with
  | zero =>
    intro i n hi hn
    obtain ⟨n, rfl⟩ : ∃ n', n = n' + 1 := ⟨n - 1, by omega⟩
    rw [g_X11_hadsOf_L84, r_known_nN rc, bnd_some, hkb, if_neg (nI_nlt (by omega) (by omega)), show i = kb by omega]
  | succ m ih =>
    intro i n hi hn
    obtain ⟨n, rfl⟩ : ∃ n', n = n' + 1 := ⟨n - 1, by omega⟩
    have h1 := ih (i + 1) n (by omega) (by omega)
    have r4 := rc.2.2 i (by omega)
    rw [g_X11_hadsOf_L84, r_known_nN rc, bnd_some, hkb, if_pos (nI_lt (by omega) (by omega)), ldI_of (by omega) (by decide), e i (by omega)]
    simp only [jn, vl, nI_1]
    have eS : enA nT c (i + 1) = if c i = true ∧ nT 4 i = -1 then max (enA nT c i) (nT 0 i).toNatClampNeg else enA nT c i := rfl
    rw [eS] at h1
    cases hc : c i with
    | false =>
      rw [if_neg (show ¬ (c i = true ∧ nT 4 i = -1) by rw [hc]; simp)] at h1
      rw [if_neg (show ¬ b01 (!false) = 0 by decide)]
      exact h1
    | true =>
      rw [if_pos (show b01 (!true) = 0 from rfl), ldI_of (by omega) (by decide), r4.1]
      by_cases q : nT 4 i = -1
      · rw [if_pos ⟨hc, q⟩] at h1
        obtain ⟨u, a, f, u1, u2, u3, -⟩ := note_0 w (i := i) (by omega) q
        have le := enA_le w c i (by omega)
        rw [if_pos q, ldI_of (by omega) (by decide), (r4.2 q).1, u3, mx_nI (by omega) (by omega)]
        rw [u3, nI_clamp (by omega)] at h1
        exact h1
      · rw [if_neg (fun z => q z.2)] at h1
        rw [if_neg q]
        exact h1
/-! whether the notes of an hour hold -/
def okN (nT : TB) (c : Nat → Bool) (t : Nat) (U : TB) (i : Nat) : Bool := if c i = true ∧ nT 4 i = -1 ∧ nT 0 i = nI t then decide ((if U 1 (nT 1 i).toNatClampNeg = nT 2 i then (1 : Int32) else 0) = nT 3 i) else true
def hoA (nT : TB) (c : Nat → Bool) (t : Nat) (U : TB) : Nat → Nat → Bool
  | 0, _ => true
  | m + 1, i => okN nT c t U i && hoA nT c t U m (i + 1)
theorem hoA_tr {c : Nat → Bool} {t : Nat} {U : TB} : ∀ (m i : Nat), (∀ j, i ≤ j → j < i + m → okN nT c t U j = true) → hoA nT c t U m i = true
  | 0, _, _ => rfl
  | m + 1, i, h => by
    unfold hoA
    rw [h i (Nat.le_refl _) (by omega), hoA_tr m (i + 1) fun j h1 h2 => h j (by omega) (by omega)]
    rfl
theorem hoA_add {c : Nat → Bool} {t : Nat} {U : TB} : ∀ (m r i : Nat), hoA nT c t U (m + r) i = (hoA nT c t U m i && hoA nT c t U r (i + m))
  | 0, r, i => by rw [Nat.zero_add]; rfl
  | m + 1, r, i => by
    rw [show m + 1 + r = (m + r) + 1 by omega]
    show (okN nT c t U i && hoA nT c t U (m + r) (i + 1)) = (okN nT c t U i && hoA nT c t U m (i + 1) && hoA nT c t U r (i + (m + 1)))
    rw [hoA_add m r (i + 1), Bool.and_assoc, show i + 1 + m = i + (m + 1) by omega]
theorem hoA_kb {c : Nat → Bool} {t : Nat} {U : TB} (hk : kb ≤ nN) (hc : ∀ x, kb ≤ x → c x = false) : hoA nT c t U nN 0 = hoA nT c t U kb 0 := by
  have e := hoA_add (nT := nT) (c := c) (t := t) (U := U) kb (nN - kb) 0
  rw [show kb + (nN - kb) = nN by omega] at e
  rw [e, hoA_tr (nN - kb) (0 + kb) (fun j h1 _ => by unfold okN; rw [if_neg (by rw [hc j (by omega)]; simp)]), Bool.and_true]
theorem x_hold_L (w : NW nf np nN nb nT) (hnp : np ≤ 6) (c : Nat → Bool) {t : Nat} (ht : 1 ≤ t) (ht2 : t ≤ 40) {h : HH} {U : TB} (rc : RC4 h nN nb nT) (e : ∀ x, x < 24 → h.1 192 x = b01 (c x)) (cs : CS h 196 U) : ∀ (m i n : Nat), i + m = nN → m < n → g_X3_hold_L2 (nI t) 196 n (nI i) h = some (b01 (hoA nT c t U m i), h) := by
  have h24 := w.1
  intro m
  induction m with
  | zero =>
    intro i n hi hn
    obtain ⟨n, rfl⟩ : ∃ n', n = n' + 1 := ⟨n - 1, by omega⟩
    rw [g_X3_hold_L2]
    simp only [gfI]
    rw [rc.1, if_neg (nI_nlt (by omega) (by omega))]
    rfl
  | succ m ih =>
    intro i n hi hn
    obtain ⟨n, rfl⟩ : ∃ n', n = n' + 1 := ⟨n - 1, by omega⟩
    have h1 := ih (i + 1) n (by omega) (by omega)
    obtain ⟨r1, r2, r3⟩ := rc.2.2 i (by omega)
    have d10 : ¬ (1 : Int32) = 0 := by decide
    rw [g_X3_hold_L2]
    simp only [gfI, jn, vl, nI_1]
    rw [rc.1, if_pos (nI_lt (by omega) (by omega)), ldI_of (by omega) (by decide), e i (by omega)]
    unfold hoA okN
    cases hc : c i with
    | false =>
      rw [if_pos (show b01 false = 0 from rfl), if_pos True.intro, if_neg (by simp), Bool.true_and]
      exact h1
    | true =>
      rw [if_neg (show ¬ b01 true = 0 by decide), ldI_of (by omega) (by decide), r2]
      by_cases q : nT 4 i = -1
      · obtain ⟨u, a, f, u1, u2, u3, a1, a2, f1, f2, q3⟩ := note_0 w (i := i) (by omega) q
        obtain ⟨s1, s2, s3⟩ := r3 q
        rw [if_pos q]
        by_cases q0 : nT 0 i = nI t
        · rw [if_pos q0, if_neg d10, if_pos ⟨rfl, q, q0⟩, ldI_of (by omega) (by decide), s1, a2, ldI_of (by omega) (by decide), cs 1 a (by decide), ldI_of (by omega) (by decide), s2, nI_clamp (by omega)]
          by_cases q4 : U 1 a = nT 2 i
          · rw [if_pos q4, if_pos q4, ldI_of (by omega) (by decide), s3]
            by_cases q5 : 1 = nT 3 i
            · rw [if_pos q5, decide_eq_true q5, Bool.true_and]; exact h1
            · rw [if_neg q5, decide_eq_false q5, Bool.false_and]; rfl
          · rw [if_neg q4, if_neg q4, ldI_of (by omega) (by decide), s3]
            by_cases q5 : 0 = nT 3 i
            · rw [if_pos q5, decide_eq_true q5, Bool.true_and]; exact h1
            · rw [if_neg q5, decide_eq_false q5, Bool.false_and]; rfl
        · rw [if_neg q0, if_pos True.intro, if_neg (fun z => q0 z.2.2), Bool.true_and]
          exact h1
      · have t0 : ¬ (0 : Int32) = nI t := fun z => nI_ne0 (n := t) (by omega) (by omega) z.symm
        rw [if_neg q, if_neg t0, if_pos True.intro, if_neg (fun z => q z.2.1), Bool.true_and]
        exact h1
theorem x_hold (w : NW nf np nN nb nT) (hnp : np ≤ 6) (c : Nat → Bool) {t : Nat} (ht : 1 ≤ t) (ht2 : t ≤ 40) {h : HH} {U : TB} (rc : RC4 h nN nb nT) (e : ∀ x, x < 24 → h.1 192 x = b01 (c x)) (cs : CS h 196 U) : g_X3_hold (nI t) 196 h = some (b01 (hoA nT c t U nN 0), h) := by
  have h24 := w.1
  obtain ⟨N, hN⟩ : ∃ N : Nat, N = 1024 := ⟨_, rfl⟩
  unfold g_X3_hold
  rw [ckH_of sh_196, ← hN]
  exact x_hold_L w hnp c ht ht2 rc e cs nN 0 N (by omega) (by omega)
theorem r_isSo_L (w : NW nf np nN nb nT) (hnp : np ≤ 6) (hkb : (if nb = -1 then nI nN else nb) = nI kb) (hk : kb ≤ nN) (c : Nat → Bool) {t : Nat} {h : HH} {U : TB} (rc : RM4 h nN nb nT) (e : ∀ x, x < kb → h.1 293 x = b01 (!c x)) (ms : MS h 1 U np) : ∀ (m i n : Nat), i + m = kb → m < n → g_X11_isSo_L2 (nI t) n (nI i) h = some (b01 (hoA nT c t U m i), h) := by
  have h24 := w.1
  intro m
  induction m with
  | zero =>
    intro i n hi hn
    obtain ⟨n, rfl⟩ : ∃ n', n = n' + 1 := ⟨n - 1, by omega⟩
    rw [g_X11_isSo_L2, r_known_nN rc, bnd_some, hkb, if_neg (nI_nlt (by omega) (by omega))]
    rfl
  | succ m ih =>
    intro i n hi hn
    obtain ⟨n, rfl⟩ : ∃ n', n = n' + 1 := ⟨n - 1, by omega⟩
    have h1 := ih (i + 1) n (by omega) (by omega)
    obtain ⟨r1, r3⟩ := rc.2.2 i (by omega)
    rw [g_X11_isSo_L2, r_known_nN rc, bnd_some, hkb, if_pos (nI_lt (by omega) (by omega)), ldI_of (by omega) (by decide), e i (by omega)]
    simp only [jn, vl, nI_1]
    unfold hoA okN
    cases hc : c i with
    | false =>
      rw [if_neg (show ¬ b01 (!false) = 0 by decide), if_neg (by simp), Bool.true_and]
      exact h1
    | true =>
      rw [if_pos (show b01 (!true) = 0 from rfl), ldI_of (by omega) (by decide), r1]
      by_cases q : nT 4 i = -1
      · obtain ⟨u, a, f, u1, u2, u3, a1, a2, f1, f2, q3⟩ := note_0 w (i := i) (by omega) q
        obtain ⟨s0, s1, s2, s3⟩ := r3 q
        rw [if_pos q, ldI_of (by omega) (by decide), s0]
        by_cases q0 : nT 0 i = nI t
        · rw [if_pos q0, if_pos ⟨rfl, q, q0⟩, ldI_of (by omega) (by decide), s1, a2, ix6_1, ldI_of (by omega) (by decide), (ms.1 a a1).1, ldI_of (by omega) (by decide), s2, nI_clamp (by omega)]
          by_cases q4 : U 1 a = nT 2 i
          · rw [if_pos q4, if_pos q4, ldI_of (by omega) (by decide), s3]
            by_cases q5 : 1 = nT 3 i
            · rw [if_pos q5, decide_eq_true q5, Bool.true_and]; exact h1
            · rw [if_neg q5, decide_eq_false q5, Bool.false_and]; rfl
          · rw [if_neg q4, if_neg q4, ldI_of (by omega) (by decide), s3]
            by_cases q5 : 0 = nT 3 i
            · rw [if_pos q5, decide_eq_true q5, Bool.true_and]; exact h1
            · rw [if_neg q5, decide_eq_false q5, Bool.false_and]; rfl
        · rw [if_neg q0, if_neg (fun z => q0 z.2.2), Bool.true_and]
          exact h1
      · rw [if_neg q, if_neg (fun z => q z.2.1), Bool.true_and]
        exact h1
theorem r_isSo (w : NW nf np nN nb nT) (hnp : np ≤ 6) (hkb : (if nb = -1 then nI nN else nb) = nI kb) (hk : kb ≤ nN) (c : Nat → Bool) {t : Nat} {h : HH} {U : TB} (rc : RM4 h nN nb nT) (e : ∀ x, x < kb → h.1 293 x = b01 (!c x)) (ms : MS h 1 U np) : g_X11_isSo (nI t) h = some (b01 (hoA nT c t U kb 0), h) := by
  have h24 := w.1
  obtain ⟨N, hN⟩ : ∃ N : Nat, N = 1024 := ⟨_, rfl⟩
  unfold g_X11_isSo
  rw [← hN]
  exact r_isSo_L w hnp hkb hk c rc e ms kb 0 N (by omega) (by omega)
end WG
