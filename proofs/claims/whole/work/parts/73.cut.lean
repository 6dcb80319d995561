/-! signs; all the tokens -/
def dk (c b : Nat) : Nat := if c = 60 ∧ b = 61 then 8 else if c = 60 ∧ b = 62 then 10 else if c = 62 ∧ b = 61 then 11 else 1
def sk (c : Nat) : Nat := if c = 40 then 5 else if c = 41 then 6 else if c = 42 then 15 else if c = 43 then 13 else if c = 45 then 14 else if c = 47 then 16 else if c = 59 then 4 else if c = 60 then 7 else if c = 61 then 9 else if c = 62 then 12 else 1
def dv (c b : Nat) : Nat := if c = 60 ∧ b = 61 then 256 else if c = 60 ∧ b = 62 then 257 else if c = 62 ∧ b = 61 then 258 else c
theorem x_dk {c b : Nat} (hc : c < 256) (hb : b < 256) (h : HH) : g_X8_doubleKind (byC c) (byC b) h = some (nI (dk c b), h) := by
  have e1 : (byC c = 60) = (c = 60) := propext (byC_eq (k := 60) hc (by decide))
  have e2 : (byC c = 62) = (c = 62) := propext (byC_eq (k := 62) hc (by decide))
  have e3 : (byC b = 61) = (b = 61) := propext (byC_eq (k := 61) hb (by decide))
  have e4 : (byC b = 62) = (b = 62) := propext (byC_eq (k := 62) hb (by decide))
  unfold g_X8_doubleKind dk
  simp only [jn, e1, e2, e3, e4]
  by_cases a1 : c = 60
  · have a2 : ¬ c = 62 := by omega
    by_cases a3 : b = 61
    · have a4 : ¬ b = 62 := by omega
      simp only [a1, a3, and_self, if_true]; rfl
    · by_cases a4 : b = 62
      · simp only [a1, a3, a4, and_self, if_true, if_false, and_false]; rfl
      · simp only [a1, a2, a3, a4, if_true, if_false, and_false, false_and]; rfl
  · by_cases a2 : c = 62
    · by_cases a3 : b = 61
      · simp only [a1, a2, a3, and_self, if_true, if_false, false_and]; rfl
      · simp only [a1, a2, a3, if_true, if_false, and_false, false_and]; rfl
    · simp only [a1, a2, if_false, false_and]; rfl
theorem x_sk {c : Nat} (hc : c < 256) (h : HH) : g_X8_singleKind (byC c) h = some (nI (sk c), h) := by
  unfold g_X8_singleKind sk
  have e : ∀ k, k < 128 → (byC c = nI k) = (c = k) := fun k hk => propext (byC_eq hc hk)
  simp only [show (byC c = (40 : Int32)) = (c = 40) from e 40 (by decide), show (byC c = (41 : Int32)) = (c = 41) from e 41 (by decide), show (byC c = (42 : Int32)) = (c = 42) from e 42 (by decide), show (byC c = (43 : Int32)) = (c = 43) from e 43 (by decide), show (byC c = (45 : Int32)) = (c = 45) from e 45 (by decide), show (byC c = (47 : Int32)) = (c = 47) from e 47 (by decide), show (byC c = (59 : Int32)) = (c = 59) from e 59 (by decide), show (byC c = (60 : Int32)) = (c = 60) from e 60 (by decide), show (byC c = (61 : Int32)) = (c = 61) from e 61 (by decide), show (byC c = (62 : Int32)) = (c = 62) from e 62 (by decide)]
  by_cases a1 : c = 40
  · rw [if_pos a1, if_pos a1]; rfl
  rw [if_neg a1, if_neg a1]
  by_cases a2 : c = 41
  · rw [if_pos a2, if_pos a2]; rfl
  rw [if_neg a2, if_neg a2]
  by_cases a3 : c = 42
  · rw [if_pos a3, if_pos a3]; rfl
  rw [if_neg a3, if_neg a3]
  by_cases a4 : c = 43
  · rw [if_pos a4, if_pos a4]; rfl
  rw [if_neg a4, if_neg a4]
  by_cases a5 : c = 45
  · rw [if_pos a5, if_pos a5]; rfl
  rw [if_neg a5, if_neg a5]
  by_cases a6 : c = 47
  · rw [if_pos a6, if_pos a6]; rfl
  rw [if_neg a6, if_neg a6]
  by_cases a7 : c = 59
  · rw [if_pos a7, if_pos a7]; rfl
  rw [if_neg a7, if_neg a7]
  by_cases a8 : c = 60
  · rw [if_pos a8, if_pos a8]; rfl
  rw [if_neg a8, if_neg a8]
  by_cases a9 : c = 61
  · rw [if_pos a9, if_pos a9]; rfl
  rw [if_neg a9, if_neg a9]
  by_cases a10 : c = 62
  · rw [if_pos a10, if_pos a10]; rfl
  rw [if_neg a10, if_neg a10]; rfl
def bhd (tp : Nat → Nat) (n i : Nat) : Nat := if i + 1 < n then tp (i + 1) else 0
theorem x_cutSign {tp : Nat → Nat} {n i : Nat} (hi : i < n) {h : HH} (hb : bC tp n h) {t : Nat} (ht : t < 701) (e : h.1 25 3 = nI t) :
    g_X8_cutSign (nI i) (nI n) h = if dk (tp i) (bhd tp n i) = 1 then some (nI (i + 1), ptH (nI (sk (tp i))) i 0 t h) else some (nI (i + 2), ptH (nI (dk (tp i) (bhd tp n i))) i 0 t h) := by
  obtain ⟨b0, b1⟩ := hb
  have c0 := (b1 i hi).1
  have hd : dk (tp i) (bhd tp n i) < 20 := by unfold dk; split <;> (try omega); split <;> (try omega); split <;> omega
  have body : ∀ y : Int32, y = byC (bhd tp n i) → bhd tp n i < 256 → (ldI h 1 700 (nI i) fun v5 =>
    bnd (g_X8_doubleKind v5 y h) fun r7 h6 => 
    if r7 = (1 : Int32) then
      (ldI h6 1 700 (nI i) fun v8 =>
      bnd (g_X8_singleKind v8 h6) fun r10 h9 => 
      bnd (g_X8_put r10 (nI i) (0 : Int32) h9) fun _ h11 => 
      some (nI (i + 1), h11))
    else
      (bnd (g_X8_put r7 (nI i) (0 : Int32) h6) fun _ h13 => 
      some ((nI i + (2 : Int32)), h13))) = if dk (tp i) (bhd tp n i) = 1 then some (nI (i + 1), ptH (nI (sk (tp i))) i 0 t h) else some (nI (i + 2), ptH (nI (dk (tp i) (bhd tp n i))) i 0 t h) := by
    intro y hy hy2
    rw [ldI_of (by omega) (by decide), (b1 i hi).2, hy, x_dk c0 hy2, bnd_some]
    by_cases q : dk (tp i) (bhd tp n i) = 1
    · rw [if_pos (by rw [q]; rfl), ldI_of (by omega) (by decide), (b1 i hi).2, x_sk c0, bnd_some, x_putT _ _ _ ht e, bnd_some, if_pos q]
    · rw [if_neg (show ¬ nI (dk (tp i) (bhd tp n i)) = 1 from fun z => q ((nI_eq (b := 1) (by omega) (by decide)).mp z)), x_putT _ _ _ ht e, bnd_some, if_neg q, show nI i + 2 = nI (i + 2) from nI_add i 2]
  unfold g_X8_cutSign
  simp only [jn]
  rw [nI_1]
  by_cases q : i + 1 < n
  · rw [if_pos (nI_lt q (by omega)), ldI_of (by omega) (by decide)]
    exact body (h.1 1 (i + 1)) (by rw [(b1 _ q).2]; unfold bhd; rw [if_pos q]) (by unfold bhd; rw [if_pos q]; exact (b1 _ q).1)
  · rw [if_neg (nI_nlt (by omega) (by omega))]
    exact body 0 (by unfold bhd; rw [if_neg q]; rfl) (by unfold bhd; rw [if_neg q]; decide)
theorem r_sign {tp : Nat → Nat} {n i : Nat} (hi : i < n) {h : HH} (hb : bR tp n h) (e : h.1 255 23 = nI i) :
    ∃ h', g_X11_sign (nI (tp i)) h = some ((), h') ∧ tkS h h' ∧ h'.1 255 23 = nI (if dv (tp i) (bhd tp n i) < 256 then i + 1 else i + 2) ∧ h'.1 255 24 = h.1 255 24 ∧ h'.1 255 25 = (if sk (tp i) = 1 then 5 else 3) ∧ h'.1 255 26 = nI (dv (tp i) (bhd tp n i)) := by
  have b0 := hb.1
  have c0 := (hb.2.2 i hi).1
  have hh : ∀ g, tkS h g → g.1 255 23 = nI (i + 1) → ∃ x : Int32, g_X11_here g = some (x, g) ∧ ((x = 61) = (bhd tp n i = 61)) ∧ ((x = 62) = (bhd tp n i = 62)) := by
    intro g hg ge
    have := r_here (hb.k hg) (i := i + 1) (by omega) ge
    unfold bhd
    by_cases q : i + 1 < n
    · rw [if_pos q] at this
      have c1 := (hb.2.2 _ q).1
      exact ⟨_, this, by rw [if_pos q]; exact propext (nI_eq (b := 61) (by omega) (by decide)), by rw [if_pos q]; exact propext (nI_eq (b := 62) (by omega) (by decide))⟩
    · rw [if_neg q] at this
      exact ⟨_, this, by rw [if_neg q]; simp, by rw [if_neg q]; simp⟩
  have e1 : (nI (tp i) = 60) = (tp i = 60) := propext (nI_eq (b := 60) (by omega) (by decide))
  have e2 : (nI (tp i) = 62) = (tp i = 62) := propext (nI_eq (b := 62) (by omega) (by decide))
  have last : ∀ (g : HH) (v : Nat), tkS h g → g.1 255 23 = nI (i + 1) → g.1 255 24 = h.1 255 24 → g.1 255 25 = (if sk (tp i) = 1 then 5 else 3) → g.1 255 26 = nI v → v < 300 →
      ∃ h', (gfI g 255 26 fun v18 => if v18 < (256 : Int32) then some ((), g) else gfI g 255 23 fun v19 => pfI g 255 23 (v19 + (1 : Int32)) fun h20 => some ((), h20)) = some ((), h') ∧ tkS h h' ∧ h'.1 255 23 = nI (if v < 256 then i + 1 else i + 2) ∧ h'.1 255 24 = h.1 255 24 ∧ h'.1 255 25 = (if sk (tp i) = 1 then 5 else 3) ∧ h'.1 255 26 = nI v := by
    intro g v g1 g2 g3 g4 g5 hv
    simp only [gfI, pfI]
    rw [g5, g2, nI_1]
    by_cases q : v < 256
    · exact ⟨g, by rw [if_pos (show nI v < 256 from nI_lt (b := 256) q (by decide))], g1, by rw [if_pos q]; exact g2, g3, g4, g5⟩
    · exact ⟨_, by rw [if_neg (show ¬ nI v < 256 from nI_nlt (b := 256) (by omega) (by omega))], g1.tr (tkS_w g _ (by omega) (by omega)), by rw [if_neg q, wrI_at], by rw [wrI_1, if_neg (by omega)]; exact g3, by rw [wrI_1, if_neg (by omega)]; exact g4, by rw [wrI_1, if_neg (by omega)]; exact g5⟩
  have body : ∀ y6 : Int32, y6 = (if sk (tp i) = 1 then 5 else 3) → ∃ h', (jn (fun  (h11 : HH) =>
      jn (fun  (h14 : HH) =>
        jn (fun  (h17 : HH) =>
          gfI h17 255 26 fun v18 =>
          if v18 < (256 : Int32) then
            (some ((), h17))
          else
            (gfI h17 255 23 fun v19 =>
            pfI h17 255 23 (v19 + (1 : Int32)) fun h20 =>
            some ((), h20))) fun j15 =>
        if nI (tp i) = (62 : Int32) then
          (bnd (g_X11_here h14) fun r22 h21 => 
          if r22 = (61 : Int32) then
            (pfI h21 255 26 (258 : Int32) fun h23 =>
            j15 h23)
          else
            (j15 h21))
        else
          (j15 h14)) fun j12 =>
      if nI (tp i) = (60 : Int32) then
        (bnd (g_X11_here h11) fun r25 h24 => 
        if r25 = (62 : Int32) then
          (pfI h24 255 26 (257 : Int32) fun h26 =>
          j12 h26)
        else
          (j12 h24))
      else
        (j12 h11)) fun j9 =>
    if nI (tp i) = (60 : Int32) then
      (bnd (g_X11_here (wrI (wrI (wrI h 255 23 (nI (i + 1))) 255 25 y6) 255 26 (nI (tp i)))) fun r28 h27 => 
      if r28 = (61 : Int32) then
        (pfI h27 255 26 (256 : Int32) fun h29 =>
        j9 h29)
      else
        (j9 h27))
    else
      (j9 (wrI (wrI (wrI h 255 23 (nI (i + 1))) 255 25 y6) 255 26 (nI (tp i))))) = some ((), h') ∧ tkS h h' ∧ h'.1 255 23 = nI (if dv (tp i) (bhd tp n i) < 256 then i + 1 else i + 2) ∧ h'.1 255 24 = h.1 255 24 ∧ h'.1 255 25 = (if sk (tp i) = 1 then 5 else 3) ∧ h'.1 255 26 = nI (dv (tp i) (bhd tp n i)) := by
    intro y6 hy
    have sA : ∀ v, tkS h (wrI (wrI (wrI h 255 23 (nI (i + 1))) 255 25 y6) 255 26 v) := fun v => ((tkS_w h _ (by omega) (by omega)).tr (tkS_w _ _ (by omega) (by omega))).tr (tkS_w _ _ (by omega) (by omega))
    have a23 : ∀ v, (wrI (wrI (wrI h 255 23 (nI (i + 1))) 255 25 y6) 255 26 v).1 255 23 = nI (i + 1) := fun v => by rw [wrI_1, if_neg (by omega), wrI_1, if_neg (by omega), wrI_at]
    have a24 : ∀ v, (wrI (wrI (wrI h 255 23 (nI (i + 1))) 255 25 y6) 255 26 v).1 255 24 = h.1 255 24 := fun v => by rw [wrI_1, if_neg (by omega), wrI_1, if_neg (by omega), wrI_1, if_neg (by omega)]
    have a25 : ∀ v, (wrI (wrI (wrI h 255 23 (nI (i + 1))) 255 25 y6) 255 26 v).1 255 25 = (if sk (tp i) = 1 then 5 else 3) := fun v => by rw [wrI_1, if_neg (by omega), wrI_at]; exact hy
    obtain ⟨x, x1, x2, x3⟩ := hh _ (sA (nI (tp i))) (a23 _)
    have ww : ∀ v, wrI (wrI (wrI (wrI h 255 23 (nI (i + 1))) 255 25 y6) 255 26 (nI (tp i))) 255 26 v = wrI (wrI (wrI h 255 23 (nI (i + 1))) 255 25 y6) 255 26 v := fun v => by
      refine Prod.ext (funext fun a => funext fun k => ?_) rfl
      rw [wrI_1, wrI_1 _ 255 26 v, wrI_1 _ 255 26]
      split <;> rfl
    simp only [jn, pfI, e1, e2]
    unfold dv
    by_cases q60 : tp i = 60
    · have q62 : ¬ tp i = 62 := by omega
      simp only [if_pos q60, if_neg q62, x1, bnd_some, x2]
      by_cases b61 : bhd tp n i = 61
      · have b62 : ¬ bhd tp n i = 62 := by omega
        simp only [if_pos b61, ww]
        obtain ⟨z, z1, z2, z3⟩ := hh _ (sA 256) (a23 _)
        simp only [z1, bnd_some, z3, if_neg b62]
        rw [if_pos (⟨q60, b61⟩ : tp i = 60 ∧ bhd tp n i = 61)]
        exact last _ 256 (sA _) (a23 _) (a24 _) (a25 _) (wrI_at _ _ _ _) (by decide)
      · simp only [if_neg b61, x1, bnd_some, x3]
        rw [if_neg (fun q : tp i = 60 ∧ bhd tp n i = 61 => b61 q.2)]
        by_cases b62 : bhd tp n i = 62
        · simp only [if_pos b62, ww]
          rw [if_pos (⟨q60, b62⟩ : tp i = 60 ∧ bhd tp n i = 62)]
          exact last _ 257 (sA _) (a23 _) (a24 _) (a25 _) (wrI_at _ _ _ _) (by decide)
        · simp only [if_neg b62]
          rw [if_neg (fun q : tp i = 60 ∧ bhd tp n i = 62 => b62 q.2), if_neg (fun q : tp i = 62 ∧ bhd tp n i = 61 => q62 q.1)]
          exact last _ (tp i) (sA _) (a23 _) (a24 _) (a25 _) (wrI_at _ _ _ _) (by omega)
    · simp only [if_neg q60]
      rw [if_neg (fun q : tp i = 60 ∧ bhd tp n i = 61 => q60 q.1), if_neg (fun q : tp i = 60 ∧ bhd tp n i = 62 => q60 q.1)]
      by_cases q62 : tp i = 62
      · simp only [if_pos q62, x1, bnd_some, x2]
        by_cases b61 : bhd tp n i = 61
        · simp only [if_pos b61, ww]
          rw [if_pos (⟨q62, b61⟩ : tp i = 62 ∧ bhd tp n i = 61)]
          exact last _ 258 (sA _) (a23 _) (a24 _) (a25 _) (wrI_at _ _ _ _) (by decide)
        · simp only [if_neg b61]
          rw [if_neg (fun q : tp i = 62 ∧ bhd tp n i = 61 => b61 q.2)]
          exact last _ (tp i) (sA _) (a23 _) (a24 _) (a25 _) (wrI_at _ _ _ _) (by omega)
      · simp only [if_neg q62]
        rw [if_neg (fun q : tp i = 62 ∧ bhd tp n i = 61 => q62 q.1)]
        exact last _ (tp i) (sA _) (a23 _) (a24 _) (a25 _) (wrI_at _ _ _ _) (by omega)
  have b3 := body 3
  have b5 := body 5
  unfold g_X11_sign
  simp only [gfI, pfI, jn] at b3 b5 ⊢
  rw [e, nI_1]
  have ee : ∀ k, k < 256 → (nI (tp i) = nI k) = (tp i = k) := fun k hk => propext (nI_eq (by omega) (by omega))
  unfold sk at b3 b5 ⊢
  by_cases a1 : tp i = 59
  · rw [if_pos (show nI (tp i) = 59 by rw [a1]; rfl)]; exact b3 (by rw [a1]; rfl)
  rw [if_neg (show ¬ nI (tp i) = 59 from fun z => a1 ((ee 59 (by decide)).mp z))]
  by_cases a2 : tp i = 40
  · rw [if_pos (show nI (tp i) = 40 by rw [a2]; rfl)]; exact b3 (by rw [a2]; rfl)
  rw [if_neg (show ¬ nI (tp i) = 40 from fun z => a2 ((ee 40 (by decide)).mp z))]
  by_cases a3 : tp i = 41
  · rw [if_pos (show nI (tp i) = 41 by rw [a3]; rfl)]; exact b3 (by rw [a3]; rfl)
  rw [if_neg (show ¬ nI (tp i) = 41 from fun z => a3 ((ee 41 (by decide)).mp z))]
  by_cases a4 : tp i = 43
  · rw [if_pos (show nI (tp i) = 43 by rw [a4]; rfl)]; exact b3 (by rw [a4]; rfl)
  rw [if_neg (show ¬ nI (tp i) = 43 from fun z => a4 ((ee 43 (by decide)).mp z))]
  by_cases a5 : tp i = 45
  · rw [if_pos (show nI (tp i) = 45 by rw [a5]; rfl)]; exact b3 (by rw [a5]; rfl)
  rw [if_neg (show ¬ nI (tp i) = 45 from fun z => a5 ((ee 45 (by decide)).mp z))]
  by_cases a6 : tp i = 42
  · rw [if_pos (show nI (tp i) = 42 by rw [a6]; rfl)]; exact b3 (by rw [a6]; rfl)
  rw [if_neg (show ¬ nI (tp i) = 42 from fun z => a6 ((ee 42 (by decide)).mp z))]
  by_cases a7 : tp i = 47
  · rw [if_pos (show nI (tp i) = 47 by rw [a7]; rfl)]; exact b3 (by rw [a7]; rfl)
  rw [if_neg (show ¬ nI (tp i) = 47 from fun z => a7 ((ee 47 (by decide)).mp z))]
  by_cases a8 : tp i = 60
  · rw [if_pos (show nI (tp i) = 60 by rw [a8]; rfl)]; exact b3 (by rw [a8]; rfl)
  rw [if_neg (show ¬ nI (tp i) = 60 from fun z => a8 ((ee 60 (by decide)).mp z))]
  by_cases a9 : tp i = 61
  · rw [if_pos (show nI (tp i) = 61 by rw [a9]; rfl)]; exact b3 (by rw [a9]; rfl)
  rw [if_neg (show ¬ nI (tp i) = 61 from fun z => a9 ((ee 61 (by decide)).mp z))]
  by_cases a10 : tp i = 62
  · rw [if_pos (show nI (tp i) = 62 by rw [a10]; rfl)]; exact b3 (by rw [a10]; rfl)
  rw [if_neg (show ¬ nI (tp i) = 62 from fun z => a10 ((ee 62 (by decide)).mp z))]
  exact b5 (by simp only [a1, a2, a3, a4, a5, a6, a7, a8, a9, a10, if_false, if_true])
theorem sv_s2 {c b : Nat} (v : Int32) (h : ¬ dk c b = 1) : sv (nI (dk c b)) v 3 (nI (dv c b)) := by
  refine Or.inr (Or.inr (Or.inr (Or.inr (Or.inr ?_))))
  unfold dk dv at *
  by_cases a : c = 60 ∧ b = 61
  · rw [if_pos a, if_pos a]; exact ⟨(8, 256), by decide, rfl, rfl, rfl⟩
  rw [if_neg a, if_neg a] at *
  by_cases a2 : c = 60 ∧ b = 62
  · rw [if_pos a2, if_pos a2]; exact ⟨(10, 257), by decide, rfl, rfl, rfl⟩
  rw [if_neg a2, if_neg a2] at *
  by_cases a3 : c = 62 ∧ b = 61
  · rw [if_pos a3, if_pos a3]; exact ⟨(11, 258), by decide, rfl, rfl, rfl⟩
  rw [if_neg a3] at h
  exact absurd rfl h
theorem sv_s1 {c b : Nat} (v : Int32) (h : dk c b = 1) : sv (nI (sk c)) v (if sk c = 1 then 5 else 3) (nI (dv c b)) ∧ dv c b = c := by
  have e : dv c b = c := by
    unfold dk at h
    unfold dv
    split at h
    · cases h
    · rw [if_neg (by assumption)]
      split at h
      · cases h
      · rw [if_neg (by assumption)]
        split at h
        · cases h
        · rw [if_neg (by assumption)]
  refine ⟨?_, e⟩
  rw [e]
  by_cases q : sk c = 1
  · rw [q]; exact Or.inr (Or.inl ⟨rfl, rfl⟩)
  · rw [if_neg q]
    refine Or.inr (Or.inr (Or.inr (Or.inr (Or.inr ?_))))
    unfold sk at *
    by_cases a1 : c = 40
    · subst a1; exact ⟨(5, 40), by decide, rfl, rfl, rfl⟩
    by_cases a2 : c = 41
    · subst a2; exact ⟨(6, 41), by decide, rfl, rfl, rfl⟩
    by_cases a3 : c = 42
    · subst a3; exact ⟨(15, 42), by decide, rfl, rfl, rfl⟩
    by_cases a4 : c = 43
    · subst a4; exact ⟨(13, 43), by decide, rfl, rfl, rfl⟩
    by_cases a5 : c = 45
    · subst a5; exact ⟨(14, 45), by decide, rfl, rfl, rfl⟩
    by_cases a6 : c = 47
    · subst a6; exact ⟨(16, 47), by decide, rfl, rfl, rfl⟩
    by_cases a7 : c = 59
    · subst a7; exact ⟨(4, 59), by decide, rfl, rfl, rfl⟩
    by_cases a8 : c = 60
    · subst a8; exact ⟨(7, 60), by decide, rfl, rfl, rfl⟩
    by_cases a9 : c = 61
    · subst a9; exact ⟨(9, 61), by decide, rfl, rfl, rfl⟩
    by_cases a10 : c = 62
    · subst a10; exact ⟨(12, 62), by decide, rfl, rfl, rfl⟩
    exact absurd (by simp only [a1, a2, a3, a4, a5, a6, a7, a8, a9, a10, if_false]) q
/-- one token cut -/
theorem x_tSign {tp : Nat → Nat} {n i : Nat} (hi : i < n) (n1 : ¬ spc (tp i)) (n2 : ¬ dgt (tp i)) (n3 : ¬ lcr (tp i)) {h : HH} (hb : bC tp n h) {t : Nat} (ht : t < 701) (e : h.1 25 3 = nI t) :
    ∃ k l, 1 ≤ l ∧ i + l ≤ n ∧ g_X8_cutSign (nI i) (nI n) h = some (nI (i + l), ptH k i 0 t h) ∧ (¬ k = 0) ∧ ∀ g, bR tp n g → g.1 255 23 = nI i → ∃ h', tkR g = some ((), h') ∧ tkS g h' ∧ h'.1 255 23 = nI (i + l) ∧ h'.1 255 24 = nI i ∧ sv k 0 (h'.1 255 25) (h'.1 255 26) := by
  have b0 := hb.1
  have c0 := (hb.2 i hi).1
  have go : ∀ g, bR tp n g → g.1 255 23 = nI i → ∃ h', tkR g = some ((), h') ∧ tkS g h' ∧ h'.1 255 23 = nI (if dv (tp i) (bhd tp n i) < 256 then i + 1 else i + 2) ∧ h'.1 255 24 = nI i ∧ h'.1 255 25 = (if sk (tp i) = 1 then 5 else 3) ∧ h'.1 255 26 = nI (dv (tp i) (bhd tp n i)) := by
    intro g gb ge
    have s0 : tkS g (wrI g 255 24 (nI i)) := tkS_w g _ (by omega) (by omega)
    have e23 : (wrI g 255 24 (nI i)).1 255 23 = nI i := by rw [wrI_1, if_neg (by omega)]; exact ge
    obtain ⟨h', f1, f2, f3, f4, f5, f6⟩ := r_sign hi (gb.k s0) e23
    refine ⟨h', ?_, s0.tr f2, f3, f4.trans (wrI_at _ _ _ _), f5, f6⟩
    unfold tkR
    simp only [gfI, pfI]
    rw [ge, r_here (gb.k s0) (i := i) (by omega) e23, bnd_some, if_pos hi, if_neg (fun c => absurd (nI_pos (n := tp i) (by omega)) (by rw [c]; decide)), r_sma c0, bnd_some, if_neg n3, if_pos rfl, r_dig c0, bnd_some, if_neg n2, if_pos rfl, f1]
    rfl
  have cs := x_cutSign hi hb ht e
  by_cases q : dk (tp i) (bhd tp n i) = 1
  · rw [if_pos q] at cs
    obtain ⟨s1, s2⟩ := sv_s1 0 q
    have sl : 1 ≤ sk (tp i) ∧ sk (tp i) < 20 := by
      unfold sk
      repeat' split
      all_goals omega
    refine ⟨_, 1, by omega, by omega, cs, nI_ne0 (by omega) (by omega), fun g gb ge => ?_⟩
    obtain ⟨h', f1, f2, f3, f4, f5, f6⟩ := go g gb ge
    rw [s2, if_pos c0] at f3
    exact ⟨h', f1, f2, f3, f4, by rw [f5, f6]; exact s1⟩
  · rw [if_neg q] at cs
    have hq : (tp i = 60 ∨ tp i = 62) ∧ ¬ bhd tp n i = 0 ∧ 1 ≤ dk (tp i) (bhd tp n i) ∧ dk (tp i) (bhd tp n i) < 20 ∧ ¬ dv (tp i) (bhd tp n i) < 256 := by
      unfold dk at q ⊢
      unfold dv
      by_cases a : tp i = 60 ∧ bhd tp n i = 61
      · rw [if_pos a, if_pos a]; omega
      rw [if_neg a] at q
      rw [if_neg a, if_neg a]
      by_cases a2 : tp i = 60 ∧ bhd tp n i = 62
      · rw [if_pos a2, if_pos a2]; omega
      rw [if_neg a2] at q
      rw [if_neg a2, if_neg a2]
      by_cases a3 : tp i = 62 ∧ bhd tp n i = 61
      · rw [if_pos a3, if_pos a3]; omega
      rw [if_neg a3] at q
      exact absurd rfl q
    obtain ⟨q1, q2, q3, q4, q5⟩ := hq
    have hl : i + 1 < n := by
      apply Classical.byContradiction
      intro z
      exact q2 (by unfold bhd; rw [if_neg z])
    refine ⟨_, 2, by omega, by omega, cs, nI_ne0 (by omega) (by omega), fun g gb ge => ?_⟩
    obtain ⟨h', f1, f2, f3, f4, f5, f6⟩ := go g gb ge
    rw [if_neg q5] at f3
    refine ⟨h', f1, f2, f3, f4, ?_⟩
    rw [f5, f6, if_neg (by rcases q1 with q1 | q1 <;> rw [q1] <;> decide)]
    exact sv_s2 0 q
