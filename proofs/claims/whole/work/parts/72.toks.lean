/-! the tokens of a text: the class cuts them all, the reference one by one -/
def sgL : List (Int32 × Int32) := [(4, 59), (5, 40), (6, 41), (7, 60), (8, 256), (9, 61), (10, 257), (11, 258), (12, 62), (13, 43), (14, 45), (15, 42), (16, 47)]
/-- the class's kind and value, the reference's sort and value -/
def sv (k v s w : Int32) : Prop := (k = 0 ∧ s = 4) ∨ (k = 1 ∧ s = 5) ∨ (k = 2 ∧ s = 2 ∧ ∃ a b : Nat, v = nI a ∧ w = nI b ∧ (a = b ∨ (99999 < a ∧ 99999 < b)) ∧ a ≤ 1000000 ∧ b ≤ 1000000) ∨ (k = 3 ∧ s = 1 ∧ w = v) ∨ (∃ j, j < 24 ∧ k = nI (17 + sW j) ∧ s = 0 ∧ w = nI j) ∨ ∃ q, q ∈ sgL ∧ k = q.1 ∧ s = 3 ∧ w = q.2
def ptH (k : Int32) (i : Nat) (v : Int32) (t : Nat) (h : HH) : HH := wrI (wrI (wrI (wrI h 26 t k) 27 t (nI i)) 28 t v) 25 3 (nI (t + 1))
theorem x_putT (k : Int32) (i : Nat) (v : Int32) {t : Nat} (ht : t < 701) {h : HH} (e : h.1 25 3 = nI t) : g_X8_put k (nI i) v h = some ((), ptH k i v t h) := by
  unfold g_X8_put
  simp only [gfI, pfI]
  rw [e, if_pos (show nI t < 701 from nI_lt (b := 701) ht (by decide)), stI_of ht (by decide), wrI_1 h 26, if_neg (by omega), e, stI_of ht (by decide), wrI_1 _ 27, if_neg (by omega), wrI_1 h 26, if_neg (by omega), e, stI_of ht (by decide), wrI_1 _ 28, if_neg (by omega), wrI_1 _ 27, if_neg (by omega), wrI_1 h 26, if_neg (by omega), e, nI_1]
  rfl
theorem qf6 {tp : Nat → Nat} {i l : Nat} (hl : l ≤ 6) : acW (dgT tp i l) l = qf (dgT tp i l) 6 := by
  unfold acW
  rw [if_pos hl]
  have := qf_up (dgT tp i l) l (fun k hk => if_neg (by omega)) (6 - l)
  rw [show l + (6 - l) = 6 by omega] at this
  exact this.symm
theorem wDg_i : ∀ a, a < 24 → ∀ b, b < 24 → qf (wDg a) 6 = qf (wDg b) 6 → a = b := by decide +kernel
/-- what the reference's next token is, from s on -/
def NT (tp : Nat → Nat) (n s p e : Nat) (k v : Int32) : Prop := ∀ h, bR tp n h → h.1 255 23 = nI s → ∃ h', g_X11_token h = some ((), h') ∧ tkS h h' ∧ h'.1 255 23 = nI e ∧ h'.1 255 24 = nI p ∧ sv k v (h'.1 255 25) (h'.1 255 26)
/-- what the reference does behind the spaces -/
def tkR (h10 : HH) : Option (Unit × HH) :=
    gfI h10 255 23 fun v11 =>
    pfI h10 255 24 v11 fun h12 =>
    bnd (g_X11_here h12) fun r14 h13 => 
    if r14 = (-1 : Int32) then
      (pfI h13 255 25 (4 : Int32) fun h15 =>
      some ((), h15))
    else
      (bnd (g_X11_isSmall r14 h13) fun r17 h16 => 
      if r17 = 0 then
        (bnd (g_X11_isDigit r14 h16) fun r19 h18 => 
        if r19 = 0 then
          (bnd (g_X11_sign r14 h18) fun _ h20 => 
          some ((), h20))
        else
          (pfI h18 255 25 (2 : Int32) fun h22 =>
          pfI h22 255 26 (0 : Int32) fun h23 =>
          g_X11_token_L162  1024 h23))
      else
        (g_X11_token_L64 (fun  (h46 : HH) =>
          bnd (g_X11_word h46) fun r48 h47 => 
          pfI h47 255 26 r48 fun h49 =>
          gfI h49 255 26 fun v50 =>
          jn (fun (y54 : Int32) (h53 : HH) =>
            pfI h53 255 25 y54 fun h55 =>
            gfI h55 255 25 fun v56 =>
            if v56 = (1 : Int32) then
              (bnd (g_X11_name h55) fun _ h57 => 
              some ((), h57))
            else
              (some ((), h55))) fun j51 =>
          if v50 = (-1 : Int32) then
            (gfI h49 255 23 fun v59 =>
            gfI h49 255 24 fun v60 =>
            if (6 : Int32) < (v59 - v60) then
              (j51 (5 : Int32) h49)
            else
              (j51 (1 : Int32) h49))
          else
            (j51 (0 : Int32) h49)) 1024 h16))
theorem token_eq (h : HH) : g_X11_token h = g_X11_token_L0 tkR 1024 h := rfl
abbrev spc (c : Nat) : Prop := c = 10 ∨ c = 32
theorem r_skip_L (K : HH → Option (Unit × HH)) {tp : Nat → Nat} {n : Nat} : ∀ m i N (h : HH), bR tp n h → runP spc tp n i m → m < N → h.1 255 23 = nI i →
    ∃ h', g_X11_token_L0 K N h = K h' ∧ tkS h h' ∧ h'.1 255 23 = nI (i + m) := by
  intro m
  induction m with
  | zero =>
    intro i N h hb r hN e1
    obtain ⟨N, rfl⟩ : ∃ N', N = N' + 1 := ⟨N - 1, by omega⟩
    refine ⟨h, ?_, tkS_rf h, e1⟩
    obtain ⟨r1, r3⟩ := r.z
    have b0 := hb.1
    rw [g_X11_token_L0, r_here hb r1 e1, bnd_some]
    simp only [jn]
    by_cases q : i < n
    · have c := r3 q
      have b1 := (hb.2.2 i q).1
      unfold spc at c
      rw [if_pos q, if_neg (fun e => by have := (nI_eq (b := 10) (by omega) (by decide)).mp e; omega), r_here hb r1 e1, bnd_some, if_pos q, if_neg (fun e => by have := (nI_eq (b := 32) (by omega) (by decide)).mp e; omega)]
    · rw [if_neg q, if_neg (by decide), r_here hb r1 e1, bnd_some, if_neg q, if_neg (by decide)]
  | succ m ih =>
    intro i N h hb r hN e1
    obtain ⟨N, rfl⟩ : ∃ N', N = N' + 1 := ⟨N - 1, by omega⟩
    obtain ⟨q, dq, r'⟩ := r.t
    have s1 : tkS h (wrI h 255 23 (nI (i + 1))) := tkS_w h _ (by omega) (by omega)
    obtain ⟨h', f1, f2, f3⟩ := ih (i + 1) N _ (hb.k s1) r' (by omega) (wrI_at _ _ _ _)
    refine ⟨h', ?_, s1.tr f2, by rw [f3]; congr 1; omega⟩
    rw [← f1, g_X11_token_L0, r_here hb (by omega) e1, bnd_some, if_pos q]
    simp only [jn, gfI, pfI]
    rw [e1, nI_1]
    rcases dq with d | d
    · rw [if_pos (by rw [d]; rfl)]
    · rw [if_neg (by rw [d]; decide), r_here hb (by omega) e1, bnd_some, if_pos q, if_pos (by rw [d]; rfl), e1, nI_1]
/-- a token behind spaces -/
theorem NT_of {tp : Nat → Nat} {n s p e : Nat} {k v : Int32} (r : s ≤ p) (hp : p ≤ n) (hs : ∀ j, s ≤ j → j < p → spc (tp j)) (he : p < n → ¬ spc (tp p))
    (t : ∀ h, bR tp n h → h.1 255 23 = nI p → ∃ h', tkR h = some ((), h') ∧ tkS h h' ∧ h'.1 255 23 = nI e ∧ h'.1 255 24 = nI p ∧ sv k v (h'.1 255 25) (h'.1 255 26)) : NT tp n s p e k v := by
  intro h hb e1
  have b0 := hb.1
  obtain ⟨h1, f1, f2, f3⟩ := r_skip_L tkR (tp := tp) (n := n) (p - s) s 1024 h hb ⟨by omega, fun j j1 j2 => hs j j1 (by omega), by rw [show s + (p - s) = p by omega]; exact he⟩ (by omega) e1
  obtain ⟨h2, g1, g2, g3⟩ := t h1 (hb.k f2) (by rw [f3]; congr 1; omega)
  exact ⟨h2, by rw [token_eq, f1]; exact g1, f2.tr g2, g3⟩
-- a number
theorem x_tNum {tp : Nat → Nat} {n i m : Nat} (hr : runP dgt tp n i m) {h : HH} (hb : bC tp n h) {t : Nat} (ht : t < 701) (e : h.1 25 3 = nI t) : g_X8_cutNumber (nI i) (nI n) h = some (nI (i + m), ptH 2 i (nI (nvC tp m i 0)) t h) := by
  obtain ⟨N1, hN1⟩ : ∃ N1 : Nat, N1 = 1024 := ⟨_, rfl⟩
  have := hb.1
  have := hr.1
  unfold g_X8_cutNumber
  rw [← hN1, show (0 : Int32) = nI 0 from rfl, x_cutNum_L _ _ hb m i N1 0 hr (by omega) (by omega), x_putT _ _ _ ht e]
  rfl
theorem r_tNum {tp : Nat → Nat} {n i m : Nat} (hr : runP dgt tp n i (m + 1)) (h : HH) (hb : bR tp n h) (e : h.1 255 23 = nI i) :
    ∃ h', tkR h = some ((), h') ∧ tkS h h' ∧ h'.1 255 23 = nI (i + (m + 1)) ∧ h'.1 255 24 = nI i ∧ sv 2 (nI (nvC tp (m + 1) i 0)) (h'.1 255 25) (h'.1 255 26) := by
  obtain ⟨N1, hN1⟩ : ∃ N1 : Nat, N1 = 1024 := ⟨_, rfl⟩
  have b0 := hb.1
  have r1 := hr.1
  obtain ⟨q, dq, _⟩ := hr.t
  have d := dq
  unfold dgt at d
  have s0 : tkS h (wrI h 255 24 (nI i)) := tkS_w h _ (by omega) (by omega)
  have s1 : tkS h (wrI (wrI (wrI h 255 24 (nI i)) 255 25 2) 255 26 (nI 0)) := (s0.tr (tkS_w _ _ (by omega) (by omega))).tr (tkS_w _ _ (by omega) (by omega))
  obtain ⟨h', f1, f2, f3, f4, f5, f6⟩ := r_num_L (tp := tp) (n := n) (m + 1) i N1 0 _ (hb.k s1) hr (by omega) (by omega) (by rw [wrI_1, if_neg (by omega), wrI_1, if_neg (by omega), wrI_1, if_neg (by omega)]; exact e) (wrI_at _ _ _ _)
  obtain ⟨n1, n2, n3⟩ := nv_rel tp (m + 1) i 0 0 (Or.inl rfl) (by omega) (by omega) hr.2.1
  refine ⟨h', ?_, s1.tr f2, f3, f5.trans (by rw [wrI_1, if_neg (by omega), wrI_1, if_neg (by omega), wrI_at]), Or.inr (Or.inr (Or.inl ⟨rfl, f6.trans (by rw [wrI_1, if_neg (by omega), wrI_at]), _, _, rfl, f4, n1, n2, n3⟩))⟩
  unfold tkR
  simp only [gfI, pfI]
  rw [e, r_here (hb.k s0) (i := i) (by omega) (by rw [wrI_1, if_neg (by omega)]; exact e), bnd_some, if_pos q, if_neg (fun c => absurd (nI_pos (n := tp i) (by omega)) (by rw [c]; decide)), r_sma (by omega), bnd_some, if_neg (show ¬ lcr (tp i) by unfold lcr; omega), if_pos rfl, r_dig (by omega), bnd_some, if_pos dq, if_neg (by decide), ← hN1]
  exact f1
-- the end
theorem r_tEnd {tp : Nat → Nat} {n : Nat} (v : Int32) (h : HH) (hb : bR tp n h) (e : h.1 255 23 = nI n) :
    ∃ h', tkR h = some ((), h') ∧ tkS h h' ∧ h'.1 255 23 = nI n ∧ h'.1 255 24 = nI n ∧ sv 0 v (h'.1 255 25) (h'.1 255 26) := by
  have s0 : tkS h (wrI h 255 24 (nI n)) := tkS_w h _ (by omega) (by omega)
  refine ⟨wrI (wrI h 255 24 (nI n)) 255 25 4, ?_, s0.tr (tkS_w _ _ (by omega) (by omega)), by rw [wrI_1, if_neg (by omega), wrI_1, if_neg (by omega)]; exact e, by rw [wrI_1, if_neg (by omega), wrI_at], Or.inl ⟨rfl, wrI_at _ _ _ _⟩⟩
  unfold tkR
  simp only [gfI, pfI]
  rw [e, r_here (hb.k s0) (i := n) (by omega) (by rw [wrI_1, if_neg (by omega)]; exact e), bnd_some, if_neg (Nat.lt_irrefl n), if_pos rfl]
-- a word
theorem x_tWord {tp : Nat → Nat} {n i m : Nat} (hr : runP lcr tp n i (m + 1)) {h : HH} (hb : bC tp n h) {t : Nat} (ht : t < 701) (e : h.1 25 3 = nI t) :
    ∃ k v, g_X8_cutWord (nI i) (nI n) h = some (nI (i + (m + 1)), ptH k i v t h) ∧ (¬ k = 0) ∧ ∀ g, bR tp n g → g.1 255 23 = nI i → ∃ h', tkR g = some ((), h') ∧ tkS g h' ∧ h'.1 255 23 = nI (i + (m + 1)) ∧ h'.1 255 24 = nI i ∧ sv k v (h'.1 255 25) (h'.1 255 26) := by
  obtain ⟨N1, hN1⟩ : ∃ N1 : Nat, N1 = 1024 := ⟨_, rfl⟩
  have b0 := hb.1
  have r1 := hr.1
  obtain ⟨q, dq, _⟩ := hr.t
  have d := dq
  unfold lcr at d
  have eC : ∀ k, (if (6 : Int32) < nI (i + (m + 1)) - nI i then some ((1 : Int32), h) else g_X8_kindOf (nI (acW (dgT tp i (m + 1)) (m + 1))) h) = some (k, h) → g_X8_cutWord (nI i) (nI n) h = some (nI (i + (m + 1)), ptH k i (nI (acW (dgT tp i (m + 1)) (m + 1))) t h) := by
    intro k hk
    unfold g_X8_cutWord
    have := x_cutWord_L (fun (z12 : Int32) (z13 : Int32) (h11 : HH) =>
    jn (fun (y17 : Int32) (h16 : HH) =>
      bnd (g_X8_put y17 (nI i) z12 h16) fun _ h18 => 
      some (z13, h18)) fun j14 =>
    if (6 : Int32) < (z13 - nI i) then
      (j14 (1 : Int32) h11)
    else
      (bnd (g_X8_kindOf z12 h11) fun r21 h20 => 
      j14 r21 h20)) hb hr (m + 1) 0 N1 (by omega) (by omega)
    rw [← hN1]
    refine Eq.trans this ?_
    simp only [jn]
    by_cases c : (6 : Int32) < nI (i + (m + 1)) - nI i
    · rw [if_pos c] at hk
      rw [if_pos c]
      have hk1 : k = 1 := by
        have := Option.some.inj hk
        exact (congrArg Prod.fst this).symm
      rw [hk1, x_putT _ _ _ ht e]
      rfl
    · rw [if_neg c] at hk
      rw [if_neg c, hk, bnd_some, x_putT _ _ _ ht e]
      rfl
  have eR : ∀ g, bR tp n g → g.1 255 23 = nI i → ∃ h1, tkS g h1 ∧ h1.1 255 23 = nI (i + (m + 1)) ∧ h1.1 255 24 = nI i ∧ tkR g = bnd (g_X11_word_L4 N1 (nI 0) (nI (rP 0)) h1) fun r48 h47 =>
          pfI h47 255 26 r48 fun h49 =>
          gfI h49 255 26 fun v50 =>
          jn (fun (y54 : Int32) (h53 : HH) =>
            pfI h53 255 25 y54 fun h55 =>
            gfI h55 255 25 fun v56 =>
            if v56 = (1 : Int32) then
              (bnd (g_X11_name h55) fun _ h57 => 
              some ((), h57))
            else
              (some ((), h55))) fun j51 =>
          if v50 = (-1 : Int32) then
            (gfI h49 255 23 fun v59 =>
            gfI h49 255 24 fun v60 =>
            if (6 : Int32) < (v59 - v60) then
              (j51 (5 : Int32) h49)
            else
              (j51 (1 : Int32) h49))
          else
            (j51 (0 : Int32) h49) := by
    intro g gb ge
    have s0 : tkS g (wrI g 255 24 (nI i)) := tkS_w g _ (by omega) (by omega)
    obtain ⟨h1, f1, f2, f3, f4⟩ := r_let_L (fun  (h46 : HH) =>
          bnd (g_X11_word h46) fun r48 h47 => 
          pfI h47 255 26 r48 fun h49 =>
          gfI h49 255 26 fun v50 =>
          jn (fun (y54 : Int32) (h53 : HH) =>
            pfI h53 255 25 y54 fun h55 =>
            gfI h55 255 25 fun v56 =>
            if v56 = (1 : Int32) then
              (bnd (g_X11_name h55) fun _ h57 => 
              some ((), h57))
            else
              (some ((), h55))) fun j51 =>
          if v50 = (-1 : Int32) then
            (gfI h49 255 23 fun v59 =>
            gfI h49 255 24 fun v60 =>
            if (6 : Int32) < (v59 - v60) then
              (j51 (5 : Int32) h49)
            else
              (j51 (1 : Int32) h49))
          else
            (j51 (0 : Int32) h49)) (m + 1) i N1 _ (gb.k s0) hr (by omega) (by rw [wrI_1, if_neg (by omega)]; exact ge)
    refine ⟨h1, s0.tr f2, f3, f4.trans (wrI_at _ _ _ _), ?_⟩
    unfold tkR
    simp only [gfI, pfI] at f1 ⊢
    rw [ge, r_here (gb.k s0) (i := i) (by omega) (by rw [wrI_1, if_neg (by omega)]; exact ge), bnd_some, if_pos q, if_neg (fun c => absurd (nI_pos (n := tp i) (by omega)) (by rw [c]; decide)), r_sma (by omega), bnd_some, if_pos dq, if_neg (by decide), ← hN1]
    refine f1.trans ?_
    unfold g_X11_word
    rw [← hN1]
    rfl
  have eD : nI (i + (m + 1)) - nI i = nI (m + 1) := by rw [Nat.add_comm i]; exact nI_sub _ _
  by_cases h6 : 6 < m + 1
  · refine ⟨1, _, eC 1 (if_pos (by rw [eD]; exact nI_lt (a := 6) h6 (by omega))), by decide, fun g gb ge => ?_⟩
    obtain ⟨h1, f1, f2, f3, f4⟩ := eR g gb ge
    have nw : ∀ k, k < 24 → ¬ (rL k = m + 1 ∧ ∀ j, j < m + 1 → tp (i + j) = rS (rP k + j)) := fun k hk z => by
      have := (rP_f k hk).2.2.2.2.1
      omega
    rcases r_word_L (gb.k f1) hr f3 f2 24 0 N1 (by omega) (by omega) (fun k hk => by omega) with ⟨k, k1, k2, _⟩ | ⟨_, w2⟩
    · exact absurd k2 (nw k k1)
    · refine ⟨wrI (wrI h1 255 26 (-1)) 255 25 5, ?_, (f1.tr (tkS_w _ _ (by omega) (by omega))).tr (tkS_w _ _ (by omega) (by omega)), by rw [wrI_1, if_neg (by omega), wrI_1, if_neg (by omega)]; exact f2, by rw [wrI_1, if_neg (by omega), wrI_1, if_neg (by omega)]; exact f3, Or.inr (Or.inl ⟨rfl, wrI_at _ _ _ _⟩)⟩
      rw [f4, w2, bnd_some]
      simp only [gfI, pfI, jn, wrI_at, if_true]
      rw [show (wrI h1 255 26 (-1)).1 255 23 = nI (i + (m + 1)) by rw [wrI_1, if_neg (by omega)]; exact f2, show (wrI h1 255 26 (-1)).1 255 24 = nI i by rw [wrI_1, if_neg (by omega)]; exact f3, eD, if_pos (show 6 < nI (m + 1) from nI_lt (a := 6) h6 (by omega)), if_neg (by decide)]
  · have l6 : m + 1 ≤ 6 := by omega
    have hx : qf (dgT tp i (m + 1)) 6 < 2 ^ 30 := qf_lt _ 6 fun j _ => dg_lt hr j
    have cn : ¬ (6 : Int32) < nI (i + (m + 1)) - nI i := by rw [eD]; exact nI_nlt (a := 6) l6 (by decide)
    rcases x_kindOf_L2 _ hx h 24 0 N1 (by omega) (by omega) (fun k hk => by omega) with ⟨k, k1, k2, k3⟩ | ⟨k2, k3⟩
    · refine ⟨nI (17 + k), _, eC _ (by rw [if_neg cn, qf6 l6]; unfold g_X8_kindOf; rw [← hN1]; exact k3), nI_ne0 (by omega) (by omega), fun g gb ge => ?_⟩
      obtain ⟨h1, f1, f2, f3, f4⟩ := eR g gb ge
      obtain ⟨w1, w2, _⟩ := sW_f k k1
      have Mk := (dg_k hr l6 w1).mp (by rw [w2]; exact k2)
      rcases r_word_L (gb.k f1) hr f3 f2 24 0 N1 (by omega) (by omega) (fun k hk => by omega) with ⟨k', k'1, k'2, w⟩ | ⟨w', _⟩
      · have ek : sW k' = k := wDg_i _ (sW_f k' k'1).1 _ k1 (((dg_k hr l6 k'1).mpr k'2).trans k2.symm)
        refine ⟨wrI (wrI h1 255 26 (nI k')) 255 25 0, ?_, (f1.tr (tkS_w _ _ (by omega) (by omega))).tr (tkS_w _ _ (by omega) (by omega)), by rw [wrI_1, if_neg (by omega), wrI_1, if_neg (by omega)]; exact f2, by rw [wrI_1, if_neg (by omega), wrI_1, if_neg (by omega)]; exact f3, Or.inr (Or.inr (Or.inr (Or.inr (Or.inl ⟨k', k'1, by rw [ek], wrI_at _ _ _ _, by rw [wrI_1, if_neg (by omega), wrI_at]⟩))))⟩
        rw [f4, w, bnd_some]
        simp only [gfI, pfI, jn, wrI_at]
        rw [if_neg (fun c => absurd (nI_pos (n := k') (by omega)) (by rw [c]; decide)), if_neg (by decide)]
      · exact absurd Mk (w' _ w1)
    · refine ⟨3, _, eC _ (by rw [if_neg cn, qf6 l6]; unfold g_X8_kindOf; rw [← hN1]; exact k3), by decide, fun g gb ge => ?_⟩
      obtain ⟨h1, f1, f2, f3, f4⟩ := eR g gb ge
      rcases r_word_L (gb.k f1) hr f3 f2 24 0 N1 (by omega) (by omega) (fun k hk => by omega) with ⟨k', k'1, k'2, w⟩ | ⟨_, w⟩
      · exact absurd ((dg_k hr l6 k'1).mpr k'2) (k2 _ (sW_f k' k'1).1)
      · have s1 : tkS g (wrI (wrI h1 255 26 (-1)) 255 25 1) := (f1.tr (tkS_w _ _ (by omega) (by omega))).tr (tkS_w _ _ (by omega) (by omega))
        have s2 : tkS g (wrI (wrI (wrI h1 255 26 (-1)) 255 25 1) 255 26 (nI 0)) := s1.tr (tkS_w _ _ (by omega) (by omega))
        obtain ⟨h2, g1, g2, g3, g4⟩ := r_name_L hr 6 0 N1 (wrI (wrI (wrI h1 255 26 (-1)) 255 25 1) 255 26 (nI 0)) (by omega) (by omega) (gb.k s2) (by rw [wrI_1, if_neg (by omega), wrI_1, if_neg (by omega), wrI_1, if_neg (by omega)]; exact f3) (by rw [wrI_1, if_neg (by omega), wrI_1, if_neg (by omega), wrI_1, if_neg (by omega)]; exact f2) (wrI_at _ _ _ _)
        refine ⟨h2, ?_, s2.tr ⟨fun a j z => g3 a j (by omega), g4⟩, ?_, ?_, Or.inr (Or.inr (Or.inr (Or.inl ⟨rfl, ?_, by rw [g2, qf6 l6]⟩)))⟩
        · rw [f4, w, bnd_some]
          simp only [gfI, pfI, jn, wrI_at, if_true]
          rw [show (wrI h1 255 26 (-1)).1 255 23 = nI (i + (m + 1)) by rw [wrI_1, if_neg (by omega)]; exact f2, show (wrI h1 255 26 (-1)).1 255 24 = nI i by rw [wrI_1, if_neg (by omega)]; exact f3, eD, if_neg (show ¬ 6 < nI (m + 1) from nI_nlt (a := 6) l6 (by decide))]
          unfold g_X11_name
          simp only [pfI]
          rw [← hN1]
          exact (congrArg (fun x => bnd x _) g1).trans rfl
        · rw [g3 _ _ (by omega), wrI_1, if_neg (by omega), wrI_1, if_neg (by omega), wrI_1, if_neg (by omega)]; exact f2
        · rw [g3 _ _ (by omega), wrI_1, if_neg (by omega), wrI_1, if_neg (by omega), wrI_1, if_neg (by omega)]; exact f3
        · rw [g3 _ _ (by omega), wrI_1, if_neg (by omega), wrI_at]
