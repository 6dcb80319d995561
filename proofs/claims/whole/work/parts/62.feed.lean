/-! bytes -/
theorem ti_cond (x : Int32) : x.toBitVec.toNat < 4294967296 ∧ x.toInt = if 2 * x.toBitVec.toNat < 4294967296 then (x.toBitVec.toNat : Int) else (x.toBitVec.toNat : Int) - 4294967296 := by
  refine ⟨x.toBitVec.isLt, ?_⟩
  have := BitVec.toInt_eq_toNat_cond x.toBitVec
  exact this
/-- a byte of a number (0 the highest) -/
def byN (c : Int32) (p : Nat) : Nat := c.toBitVec.toNat / 2 ^ (24 - 8 * p) % 256
theorem byN_lt (c : Int32) (p : Nat) : byN c p < 256 := Nat.mod_lt _ (by decide)
theorem r_byte (c : Int32) {j : Nat} (hj : j < 4) : (c >>> (((24 : Int32) - ((8 : Int32) * nI j)) &&& 31)) &&& (255 : Int32) = nI (byN c j) := by
  rw [pk_and _ 8 (by decide)]
  congr 1
  obtain ⟨c1, c2⟩ := ti_cond c
  obtain ⟨y1, y2⟩ := ti_cond (c >>> (((24 : Int32) - ((8 : Int32) * nI j)) &&& 31))
  unfold byN
  rcases (show j = 0 ∨ j = 1 ∨ j = 2 ∨ j = 3 by omega) with rfl | rfl | rfl | rfl
  · have e := pk_shr c (((24 : Int32) - ((8 : Int32) * nI 0)) &&& 31) 24 (by decide)
    rw [Int.shiftRight_eq_div_pow] at e
    generalize (c >>> (((24 : Int32) - ((8 : Int32) * nI 0)) &&& 31)) = y at *
    have e' : y.toInt = c.toInt / 16777216 := e
    show y.toBitVec.toNat % 256 = c.toBitVec.toNat / 16777216 % 256
    split at c2 <;> split at y2 <;> omega
  · have e := pk_shr c (((24 : Int32) - ((8 : Int32) * nI 1)) &&& 31) 16 (by decide)
    rw [Int.shiftRight_eq_div_pow] at e
    generalize (c >>> (((24 : Int32) - ((8 : Int32) * nI 1)) &&& 31)) = y at *
    have e' : y.toInt = c.toInt / 65536 := e
    show y.toBitVec.toNat % 256 = c.toBitVec.toNat / 65536 % 256
    split at c2 <;> split at y2 <;> omega
  · have e := pk_shr c (((24 : Int32) - ((8 : Int32) * nI 2)) &&& 31) 8 (by decide)
    rw [Int.shiftRight_eq_div_pow] at e
    generalize (c >>> (((24 : Int32) - ((8 : Int32) * nI 2)) &&& 31)) = y at *
    have e' : y.toInt = c.toInt / 256 := e
    show y.toBitVec.toNat % 256 = c.toBitVec.toNat / 256 % 256
    split at c2 <;> split at y2 <;> omega
  · have e := pk_shr c (((24 : Int32) - ((8 : Int32) * nI 3)) &&& 31) 0 (by decide)
    rw [Int.shiftRight_eq_div_pow] at e
    generalize (c >>> (((24 : Int32) - ((8 : Int32) * nI 3)) &&& 31)) = y at *
    have e' : y.toInt = c.toInt / 1 := e
    show y.toBitVec.toNat % 256 = c.toBitVec.toNat / 1 % 256
    split at c2 <;> split at y2 <;> omega
theorem byC_int {n : Nat} (h : n < 256) : (byC n).toInt = if n < 128 then (n : Int) else (n : Int) - 256 := by
  unfold byC
  split
  · exact nI_toInt (by omega)
  · rw [show (256 : Int32) = nI 256 from rfl]
    exact pk_sub_toInt (by omega) (by decide)
theorem x_byte (x : Int32) (n : Nat) (hn : x.toBitVec.toNat % 256 = n) : vp_nar .byte (Int8.toInt32 (Int32.toInt8 x)) = byC n := by
  rw [pk_vb]
  apply Int32.toInt_inj.mp
  rw [byC_int (by have := Nat.mod_lt x.toBitVec.toNat (show 0 < 256 by decide); omega), Int8.toInt_toInt32, Int32.toInt_toInt8]
  obtain ⟨c1, c2⟩ := ti_cond x
  have e : ((2 ^ 8 : Nat) : Int) = 256 := by decide
  rw [Int.bmod_def, e]
  split at c2 <;> split <;> split <;> omega
theorem x_byteS (c s : Int32) (j k : Nat) (hs : ((s.toUInt32 &&& Int32.toUInt32 31).toBitVec % 32).toNat = k) (hk : k = 24 - 8 * j) : vp_nar .byte (Int8.toInt32 (Int32.toInt8 (((c).toUInt32 >>> ((s).toUInt32 &&& Int32.toUInt32 31)).toInt32))) = byC (byN c j) := by
  refine x_byte _ _ ?_
  rw [pk_ushr c s k hs, hk]
  rfl
theorem x_put1 (c : Int32) {t : Nat} (ht : t < 700) {h : HH} (e : h.1 0 1 = nI t) (x y : Int32) (j : Nat) (hx : ¬ x < 0) (hb : vp_nar .byte (Int8.toInt32 (Int32.toInt8 (((c).toUInt32 >>> ((x).toUInt32 &&& Int32.toUInt32 31)).toInt32))) = byC (byN c j)) (hy : x + -8 = y) (n : Nat) : g_X10_putBytes_L3 c (n + 1) x h = g_X10_putBytes_L3 c n y (wrI (wrI h 1 t (byC (byN c j))) 0 1 (nI (t + 1))) := by
  rw [g_X10_putBytes_L3]
  simp only [gfI, pfI, vl]
  rw [if_neg hx, e, if_pos (show nI t < 700 from nI_lt (b := 700) ht (by decide)), stI_of ht (by decide), hb, show (wrI h 1 t (byC (byN c j))).1 0 1 = nI t by rw [wrI_1, if_neg (by omega)]; exact e, nI_1, hy]
theorem x_putBytes (c : Int32) {t : Nat} (ht : t + 4 ≤ 700) {h : HH} (e : h.1 0 1 = nI t) : ∃ h', g_X10_putBytes c h = some ((), h') ∧ h'.1 0 1 = nI (t + 4) ∧ (∀ p, p < 4 → h'.1 1 (t + p) = byC (byN c p)) ∧ (∀ a k, ¬ (a = 0 ∧ k = 1) → ¬ (a = 1 ∧ t ≤ k ∧ k < t + 4) → h'.1 a k = h.1 a k) ∧ h'.2 = h.2 := by
  obtain ⟨N, hN⟩ : ∃ N : Nat, N + 5 = 1024 := ⟨1019, rfl⟩
  refine ⟨wrI (wrI (wrI (wrI (wrI (wrI (wrI (wrI h 1 t (byC (byN c 0))) 0 1 (nI (t + 1))) 1 (t + 1) (byC (byN c 1))) 0 1 (nI (t + 2))) 1 (t + 2) (byC (byN c 2))) 0 1 (nI (t + 3))) 1 (t + 3) (byC (byN c 3))) 0 1 (nI (t + 4)), ?_, wrI_at _ _ _ _, fun p hp => ?_, fun a k q1 q2 => ?_, rfl⟩
  · unfold g_X10_putBytes
    rw [← hN, x_put1 c (by omega) e 24 16 0 (by decide) (x_byteS c 24 0 24 (by decide) rfl) (by decide), x_put1 c (t := t + 1) (by omega) (wrI_at _ _ _ _) 16 8 1 (by decide) (x_byteS c 16 1 16 (by decide) rfl) (by decide), x_put1 c (t := t + 2) (by omega) (wrI_at _ _ _ _) 8 0 2 (by decide) (x_byteS c 8 2 8 (by decide) rfl) (by decide), x_put1 c (t := t + 3) (by omega) (wrI_at _ _ _ _) 0 (-8) 3 (by decide) (x_byteS c 0 3 0 (by decide) rfl) (by decide), g_X10_putBytes_L3, if_pos (by decide)]
  · rcases (show p = 0 ∨ p = 1 ∨ p = 2 ∨ p = 3 by omega) with rfl | rfl | rfl | rfl <;> simp [wrI_1]
  · rw [wrI_1, if_neg (by omega), wrI_1, if_neg (by omega), wrI_1, if_neg (by omega), wrI_1, if_neg (by omega), wrI_1, if_neg (by omega), wrI_1, if_neg (by omega), wrI_1, if_neg (by omega), wrI_1, if_neg (by omega)]
/-- which number a byte is of -/
def fdN (a b c d e : Int32) (j : Nat) : Int32 := if j < 4 then a else if j < 8 then b else if j < 12 then c else if j < 16 then d else e
theorem r_feed_L (K : HH → Option (Int32 × HH)) (a b c d e : Int32) {t : Nat} (ht : t + 20 ≤ 700) (h0 : HH) (e2 : h0.1 255 2 = nI t) : ∀ (m i n : Nat) (h : HH), i + m = 20 → m < n → (∀ k, k < i → h.1 256 (t + k) = nI (byN (fdN a b c d e k) (k % 4))) → (∀ x k, ¬ (x = 256 ∧ t ≤ k ∧ k < t + i) → h.1 x k = h0.1 x k) → h.2 = h0.2 →
    ∃ h', g_X11_feed_L20 K a b c d e n (nI i) h = K h' ∧ (∀ k, k < 20 → h'.1 256 (t + k) = nI (byN (fdN a b c d e k) (k % 4))) ∧ (∀ x k, ¬ (x = 256 ∧ t ≤ k ∧ k < t + 20) → h'.1 x k = h0.1 x k) ∧ h'.2 = h0.2 := by
  intro m
  induction m with
  | zero =>
    intro i n h hi hn e1 e3 e4
    obtain ⟨n, rfl⟩ : ∃ n', n = n' + 1 := ⟨n - 1, by omega⟩
    obtain rfl : i = 20 := by omega
    exact ⟨h, by rw [g_X11_feed_L20, if_neg (show ¬ nI 20 < 20 by decide)], e1, e3, e4⟩
  | succ m ih =>
    intro i n h hi hn e1 e3 e4
    obtain ⟨n, rfl⟩ : ∃ n', n = n' + 1 := ⟨n - 1, by omega⟩
    obtain ⟨h', f1, f2, f3, f4⟩ := ih (i + 1) n (wrI h 256 (t + i) (nI (byN (fdN a b c d e i) (i % 4)))) (by omega) (by omega) (fun k hk => by
      rw [wrI_1]
      by_cases q : k = i
      · rw [if_pos ⟨rfl, by omega⟩, q]
      · rw [if_neg (by omega)]; exact e1 k (by omega)) (fun x k q => by rw [wrI_1, if_neg (by omega)]; exact e3 x k (by omega)) e4
    refine ⟨h', ?_, f2, f3, f4⟩
    have body : ∀ y : Int32, (gfI h 255 2 fun v7 => rmI (nI i) (4 : Int32) fun v8 => stI h 256 700 (v7 + nI i) ((y >>> (((24 : Int32) - ((8 : Int32) * v8)) &&& 31)) &&& (255 : Int32)) fun h9 => vl (nI i + (1 : Int32)) fun v10 => g_X11_feed_L20 K a b c d e n v10 h9) = g_X11_feed_L20 K a b c d e n (nI (i + 1)) (wrI h 256 (t + i) (nI (byN y (i % 4)))) := by
      intro y
      simp only [gfI, vl, nI_1]
      rw [rmI_of (by decide), show (4 : Int32) = nI 4 from rfl, pk_rem (by omega) (by decide) (by decide), e3 255 2 (by omega), e2, nI_add, stI_of (by omega) (by decide), r_byte y (Nat.mod_lt i (by decide))]
    rw [← f1, g_X11_feed_L20, if_pos (show nI i < 20 from nI_lt (b := 20) (by omega) (by decide))]
    simp only [jn]
    unfold fdN
    by_cases q4 : i < 4
    · rw [if_pos (show nI i < 4 from nI_lt (b := 4) q4 (by decide)), if_pos q4]; exact body a
    · rw [if_neg (show ¬ nI i < 4 from nI_nlt (b := 4) (by omega) (by omega)), if_neg q4]
      by_cases q8 : i < 8
      · rw [if_pos (show nI i < 8 from nI_lt (b := 8) q8 (by decide)), if_pos q8]; exact body b
      · rw [if_neg (show ¬ nI i < 8 from nI_nlt (b := 8) (by omega) (by omega)), if_neg q8]
        by_cases q12 : i < 12
        · rw [if_pos (show nI i < 12 from nI_lt (b := 12) q12 (by decide)), if_pos q12]; exact body c
        · rw [if_neg (show ¬ nI i < 12 from nI_nlt (b := 12) (by omega) (by omega)), if_neg q12]
          by_cases q16 : i < 16
          · rw [if_pos (show nI i < 16 from nI_lt (b := 16) q16 (by decide)), if_pos q16]; exact body d
          · rw [if_neg (show ¬ nI i < 16 from nI_nlt (b := 16) (by omega) (by omega)), if_neg q16]; exact body e
theorem c_feed (a b c d e : Int32) : Eqv (g_X10_feed a b c d e) (g_X11_feed a b c d e) := by
  refine Eqv_u fun P S nf np nl ng im pa nN nb nT tl tp fk fp w y => ?_
  have hnp : np ≤ 6 := w.1.1.2.1
  have y0 : tl ≤ 700 := y.1
  by_cases h680 : tl ≤ 680
  rotate_left
  · refine ⟨-1, P, S, nf, np, nl, ng, im, pa, nN, nb, nT, tl, tp, fk, fp, w, fun h c => ⟨h, fM_rf h, ?_, c⟩, fun h m => ⟨_, (scB_0 h).C, ?_, m.z hnp y.2.2.1⟩⟩
    · unfold g_X10_feed
      simp only [gfI]
      rw [c.2.2.2.2.1.1, if_pos (show 700 < nI tl + 20 by rw [show nI tl + 20 = nI (tl + 20) from nI_add tl 20]; exact nI_lt (a := 700) (by omega) (by omega))]
    · have mB := m.z hnp y.2.2.1
      unfold g_X11_feed
      simp only [gfI, pfI]
      rw [mB.2.2.2.2.1.1, if_pos (show 680 < nI tl from nI_lt (a := 680) (by omega) (by omega))]
  obtain ⟨tp', htp⟩ : ∃ tp' : Nat → Nat, tp' = fun k => if k < tl then tp k else byN (fdN a b c d e (k - tl)) ((k - tl) % 4) := ⟨_, rfl⟩
  refine ⟨nI (tl + 20), P, S, nf, np, nl, ng, im, pa, nN, nb, nT, tl + 20, tp', fk, fp, w, fun h k => ?_, fun h m => ?_⟩
  · obtain ⟨c1, c2, c3, c4, c5, c6⟩ := id k
    obtain ⟨h1, e1, n1, b1, f1, g1⟩ := x_putBytes a (t := tl) (by omega) c5.1
    obtain ⟨h2, e2, n2, b2, f2, g2⟩ := x_putBytes b (t := tl + 4) (by omega) n1
    obtain ⟨h3, e3, n3, b3, f3, g3⟩ := x_putBytes c (t := tl + 4 + 4) (by omega) n2
    obtain ⟨h4, e4, n4, b4, f4, g4⟩ := x_putBytes d (t := tl + 4 + 4 + 4) (by omega) n3
    obtain ⟨h5, e5, n5, b5, f5, g5⟩ := x_putBytes e (t := tl + 4 + 4 + 4 + 4) (by omega) n4
    have fr : ∀ x k, ¬ (x = 0 ∧ k = 1) → ¬ (x = 1 ∧ tl ≤ k) → h5.1 x k = h.1 x k := fun x k q1 q2 => by
      rw [f5 x k q1 (by omega), f4 x k q1 (by omega), f3 x k q1 (by omega), f2 x k q1 (by omega), f1 x k q1 (by omega)]
    refine ⟨h5, fun x k q => fr x k (by omega) (by omega), ?_, c1.X (fun x k q => fr x k (by omega) (by omega)) (fun j _ => by rw [g5, g4, g3, g2, g1]), c2.X fun x k q => fr x k (by omega) (by omega), c3.X fun x k q => fr x k (by omega) (by omega), c4.X fun x k q => fr x k (by omega) (by omega), ⟨n5, by omega, fun i hi => ?_⟩, c6.X fun x k q => fr x k (by omega) (by omega)⟩
    · unfold g_X10_feed
      simp only [gfI]
      rw [c5.1, if_neg (show ¬ 700 < nI tl + 20 by rw [show nI tl + 20 = nI (tl + 20) from nI_add tl 20]; exact nI_nlt (a := 700) (by omega) (by omega)), e1, bnd_some, e2, bnd_some, e3, bnd_some, e4, bnd_some, e5, bnd_some, n5]
    · rw [htp]
      dsimp only
      by_cases q : i < tl
      · rw [if_pos q, fr 1 i (by omega) (by omega)]
        exact c5.2.2 i q
      · rw [if_neg q]
        refine ⟨byN_lt _ _, ?_⟩
        obtain ⟨j, hj, rfl⟩ : ∃ j, j < 20 ∧ i = tl + j := ⟨i - tl, by omega, by omega⟩
        rw [show tl + j - tl = j by omega]
        unfold fdN
        by_cases q4 : j < 4
        · rw [if_pos q4, f5 _ _ (by omega) (by omega), f4 _ _ (by omega) (by omega), f3 _ _ (by omega) (by omega), f2 _ _ (by omega) (by omega), b1 j q4, Nat.mod_eq_of_lt q4]
        · rw [if_neg q4]
          by_cases q8 : j < 8
          · rw [if_pos q8, f5 _ _ (by omega) (by omega), f4 _ _ (by omega) (by omega), f3 _ _ (by omega) (by omega), show tl + j = tl + 4 + (j - 4) by omega, b2 (j - 4) (by omega), show j % 4 = j - 4 by omega]
          · rw [if_neg q8]
            by_cases q12 : j < 12
            · rw [if_pos q12, f5 _ _ (by omega) (by omega), f4 _ _ (by omega) (by omega), show tl + j = tl + 4 + 4 + (j - 8) by omega, b3 (j - 8) (by omega), show j % 4 = j - 8 by omega]
            · rw [if_neg q12]
              by_cases q16 : j < 16
              · rw [if_pos q16, f5 _ _ (by omega) (by omega), show tl + j = tl + 4 + 4 + 4 + (j - 12) by omega, b4 (j - 12) (by omega), show j % 4 = j - 12 by omega]
              · rw [if_neg q16, show tl + j = tl + 4 + 4 + 4 + 4 + (j - 16) by omega, b5 (j - 16) (by omega), show j % 4 = j - 16 by omega]
  · have mB := m.z hnp y.2.2.1
    obtain ⟨m1, m2, m3, m4, m5, m6⟩ := id mB
    obtain ⟨N, hN⟩ : ∃ N : Nat, N = 1024 := ⟨_, rfl⟩
    obtain ⟨h1, e1, b1, f1, g1⟩ := r_feed_L (fun (h11 : HH) => some ((wrI h11 255 2 (h11.1 255 2 + 20)).1 255 2, wrI h11 255 2 (h11.1 255 2 + 20))) a b c d e (t := tl) (by omega) (wrI h 255 0 0) m5.1 20 0 N _ rfl (by omega) (fun k hk => absurd hk (by omega)) (fun _ _ _ => rfl) rfl
    have n2 : h1.1 255 2 + 20 = nI (tl + 20) := by rw [f1 255 2 (by omega), m5.1]; exact nI_add tl 20
    rw [n2, wrI_at] at e1
    have fr : ∀ x k, ¬ (x = 255 ∧ k = 2) → ¬ (x = 256 ∧ tl ≤ k) → (wrI h1 255 2 (nI (tl + 20))).1 x k = (wrI h 255 0 0).1 x k := fun x k q1 q2 => by
      rw [wrI_1, if_neg q1, f1 x k (by omega)]
    refine ⟨wrI h1 255 2 (nI (tl + 20)), (scB_0 h).C.tr ⟨fun x k q => fr x k (by omega) (by omega), fun j _ => by rw [wrI_2, g1]⟩, ?_, m1.X hnp fun x k q => fr x k ?_ ?_, m2.X hnp fun x k q => fr x k ?_ ?_, m3.X hnp (fun x k q => fr x k ?_ ?_) y.2.2.1, m4.X fun x k q => fr x k (by omega) (by omega), ⟨wrI_at _ _ _ _, fun i hi => ?_⟩, m6.X fun x k q => fr x k (by omega) (by omega)⟩
    · unfold g_X11_feed
      simp only [gfI, pfI]
      rw [m5.1, if_neg (show ¬ 680 < nI tl from nI_nlt (a := 680) h680 (by decide)), ← hN]
      exact e1
    · rcases q with q | q | q
      · omega
      · omega
      · unfold inH at q; omega
    · rcases q with q | q | q
      · omega
      · omega
      · unfold inH at q; omega
    · rcases q with q | q
      · omega
      · unfold inH at q; omega
    · rcases q with q | q
      · omega
      · unfold inH at q; omega
    · rcases q with q | ⟨_, _, _, q⟩
      · omega
      · unfold inH at q; omega
    · rcases q with q | ⟨_, _, _, q⟩
      · omega
      · unfold inH at q; omega
    · rw [htp]
      dsimp only
      by_cases q : i < tl
      · rw [if_pos q, fr 256 i (by omega) (by omega)]
        exact m5.2 i q
      · rw [if_neg q]
        obtain ⟨j, hj, rfl⟩ : ∃ j, j < 20 ∧ i = tl + j := ⟨i - tl, by omega, by omega⟩
        rw [show tl + j - tl = j by omega, wrI_1, if_neg (by omega), b1 j hj]
