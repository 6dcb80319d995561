/-! the class: an hour -/
section CP
variable {p q z np md nf nl ng : Nat} {P S : TB} {fo : Nat → Int32}
set_option maxRecDepth 100000 in
theorem x_lineUp_L (w : gOk P nf np nl ng) (hour idle : Int32) : ∀ (m g n : Nat) (h : HH), g + m = ng → m < n → cAt h p q z P S fo np md → h.1 193 7 = idle → h.1 193 3 = nI (ordA P S fo hour idle g).length → RW 194 h (ordA P S fo hour idle g) 0 →
    ∃ h', scR h h' ∧ cAt h' p q z P S fo np md ∧ g_X0_lineUp_L7 hour n (nI g) h = some ((), h') ∧ h'.1 193 3 = nI (ordA P S fo hour idle ng).length ∧ RW 194 h' (ordA P S fo hour idle ng) 0 := by
  intro m
  induction m with
  | zero =>
    intro g n h hg hn c hid hlen hR
    obtain ⟨n, rfl⟩ : ∃ n', n = n' + 1 := ⟨n - 1, by omega⟩
    have hgg : g = ng := by omega
    subst hgg
    refine ⟨h, scR_rf h, c, ?_, hlen, hR⟩
    rw [g_X0_lineUp_L7]
    simp only [gfR, gfI]
    have h20 := w.2.2.2.1
    have e9 : h.1 p 9 = nI g := (c.2.2.2.2.2.2.1 0 9 (by decide)).trans w.2.2.2.2.1
    rw [c.1, ckH_of c.2.2.2.1, e9, if_neg (nI_nlt (Nat.le_refl _) (by omega))]
  | succ m ih =>
    intro g n h hg hn c hid hlen hR
    obtain ⟨n, rfl⟩ : ∃ n', n = n' + 1 := ⟨n - 1, by omega⟩
    have h20 := w.2.2.2.1
    have hgn : g < ng := by omega
    obtain ⟨g1, g2, g3⟩ := pg_ok w hgn
    have c7 := c.2.2.2.2.2.2.1
    have e9 : h.1 p 9 = nI ng := (c7 0 9 (by decide)).trans w.2.2.2.2.1
    have c16 := c.2.2.2.2.2.2.2.2.2.2.2.2.2.2.2.1
    by_cases k : P 9 g = hour ∧ ¬ P 8 g = idle
    · obtain ⟨ol, om⟩ := ordA_ok P S fo hour idle g
      obtain ⟨N, hN⟩ : ∃ N : Nat, N = 1024 := ⟨_, rfl⟩
      obtain ⟨h1, s', r', ⟨t1, t1'⟩, t2, t3, t4, t5, t6, t7⟩ := x_ins (p := p) (q := q) (z := z) (md := md) (fun (z23 : Int32) (h22 : HH) => stI h22 194 20 z23 (nI g) fun h24 => g_X0_lineUp_L7 hour n (nI (g + 1)) (wrI h24 193 3 (h24.1 193 3 + (1 : Int32)))) w hour hgn (ordA P S fo hour idle g) N [] h c (fun y hy => by have := om y hy; omega) (by simp; omega) (by omega) hR trivial
      have hlen1 : h1.1 193 3 = nI (ordA P S fo hour idle g).length := (t1' 3).trans hlen
      have e7 : h1.1 193 7 = idle := (t1' 7).trans hid
      have hord : ordA P S fo hour idle (g + 1) = s' ++ g :: r' := by
        rw [ordA, if_pos k]; exact t3
      have hl2 : (ordA P S fo hour idle (g + 1)).length = (ordA P S fo hour idle g).length + 1 := by
        rw [ordA, if_pos k, insR_len]
      have sA : scR h1 (wrI h1 194 r'.length (nI g)) := scR_w _ _ _
      have sB : scR (wrI h1 194 r'.length (nI g)) (wrI (wrI h1 194 r'.length (nI g)) 193 3 (nI ((ordA P S fo hour idle g).length + 1))) := scR_n _ _
      have prog : g_X0_lineUp_L7 hour (n + 1) (nI g) h = g_X0_lineUp_L7 hour n (nI (g + 1)) (wrI (wrI h1 194 r'.length (nI g)) 193 3 (nI ((ordA P S fo hour idle g).length + 1))) := by
        rw [g_X0_lineUp_L7, ← hN]
        simp only [gfR, gfI, jn, vl, pfI]
        rw [c.1, ckH_of c.2.2.2.1, e9, if_pos (nI_lt (by omega) (by omega)), ckH_of c.2.2.2.1, ldI_of (by omega) (by decide), c7 9 g (by decide), nI_1, if_pos k.1, ckH_of c.2.2.2.1, ldI_of (by omega) (by decide), c7 8 g (by decide), hid, if_neg k.2, hlen, t7, stI_of (by omega) (by decide)]
        rw [show (wrI h1 194 r'.length (nI g)).1 193 3 = nI (ordA P S fo hour idle g).length by rw [wrI_1, if_neg (by omega)]; exact hlen1, nI_1]
      rw [prog]
      have t4' : RW 194 h1 s' (0 + (g :: r').length) := by
        rw [show 0 + (g :: r').length = r'.length + 1 by simp]
        exact t4
      obtain ⟨h2, u1, u2, u3, u4, u5⟩ := ih (g + 1) n _ (by omega) (by omega) ((t2.R sA c16).R sB c16) (by rw [wrI_1, if_neg (by omega), wrI_1, if_neg (by omega)]; exact e7) (by rw [wrI_at, hl2]) (by
        rw [hord, RW_app]
        refine ⟨?_, ?_, ?_⟩
        · refine RW_upd s' _ (fun j h1 _ => ?_) t4'
          rw [wrI_1, if_neg (by omega), wrI_1, if_neg (by simp at h1; omega)]
        · rw [wrI_1, if_neg (by omega), Nat.zero_add]; exact wrI_at _ _ _ _
        · refine RW_upd r' _ (fun j _ h2 => ?_) t5
          rw [wrI_1, if_neg (by omega), wrI_1, if_neg (by omega)])
      exact ⟨h2, ((t1.tr sA).tr sB).tr u1, u2, u3, u4, u5⟩
    · obtain ⟨N, hN⟩ : ∃ N : Nat, N = 1024 := ⟨_, rfl⟩
      have hord : ordA P S fo hour idle (g + 1) = ordA P S fo hour idle g := by rw [ordA, if_neg k]
      have prog : g_X0_lineUp_L7 hour (n + 1) (nI g) h = g_X0_lineUp_L7 hour n (nI (g + 1)) h := by
        rw [g_X0_lineUp_L7, ← hN]
        simp only [gfR, gfI, jn, vl, pfI]
        rw [c.1, ckH_of c.2.2.2.1, e9, if_pos (nI_lt (by omega) (by omega)), ckH_of c.2.2.2.1, ldI_of (by omega) (by decide), c7 9 g (by decide), nI_1]
        by_cases k1 : P 9 g = hour
        · have k2 : P 8 g = idle := by
            by_cases k2 : P 8 g = idle
            · exact k2
            · exact absurd ⟨k1, k2⟩ k
          rw [if_pos k1, ckH_of c.2.2.2.1, ldI_of (by omega) (by decide), c7 8 g (by decide), hid, if_pos k2]
        · rw [if_neg k1]
      rw [prog]
      exact ih (g + 1) n h (by omega) (by omega) c hid (by rw [hord]; exact hlen) (by rw [hord]; exact hR)
theorem x_lineUp (w : gOk P nf np nl ng) (hour idle : Int32) {h : HH} (c : cAt h p q z P S fo np md) (hid : h.1 193 7 = idle) :
    ∃ h', scR h h' ∧ cAt h' p q z P S fo np md ∧ g_X0_lineUp hour h = some ((), h') ∧ h'.1 193 3 = nI (ordA P S fo hour idle ng).length ∧ RW 194 h' (ordA P S fo hour idle ng) 0 := by
  have h20 := w.2.2.2.1
  have s0 : scR h (wrI h 193 3 0) := scR_n _ _
  obtain ⟨h', u1, u2, u3, u4, u5⟩ := x_lineUp_L w hour idle ng 0 1024 (wrI h 193 3 0) (by omega) (by omega) (c.R s0 c.2.2.2.2.2.2.2.2.2.2.2.2.2.2.2.1) (by rw [wrI_1, if_neg (by omega)]; exact hid) (by rw [wrI_at]; rfl) trivial
  exact ⟨h', s0.tr u1, u2, u3, u4, u5⟩
/-- a ladder -/
def swA (P : TB) (bare : Bool) (a l : Nat) (S : TB) : TB :=
  if bare = true ∨ (¬ S 1 a = P 4 l ∧ ¬ S 1 a = P 5 l) then up S 3 a (S 3 a + 1)
  else up (up S 1 a (if S 1 a = P 4 l then P 5 l else P 4 l)) 2 a (mnI 99999 (S 2 a + P 6 l))
theorem x_swing {h : HH} (c : cAt h p q z P S fo np md) {bare : Bool} (hb : h.1 193 8 = if bare then 1 else 0) {a l : Nat} (ha : a < 6) (hl : l < 6) : ∃ h', scQ q h h' ∧ cAt h' p q z P (swA P bare a l S) fo np md ∧ g_X0_swing (nI a) (nI l) h = some ((), h') := by
  obtain ⟨c1, c2, c3, c4, c5, c6, c7, c8, -⟩ := id c
  unfold g_X0_swing swA
  simp only [gfR, gfI, jn]
  rw [c1, c2, ckH_of c4, ldI_of hl (by decide), c7 4 l (by decide), ckH_of c4, ldI_of hl (by decide), c7 5 l (by decide), ckH_of c5, ldI_of ha (by decide), c8 1 a (by decide), hb]
  have stuck : ∃ h', scQ q h h' ∧ cAt h' p q z P (up S 3 a (S 3 a + 1)) fo np md ∧ (ckH q (.inl 7) (ldI h (q + 3) 6 (nI a) fun v12 => stI h (q + 3) 6 (nI a) (v12 + (1 : Int32)) fun h13 => some ((), h13))) = some ((), h') := by
    obtain ⟨w1, w2⟩ := c.wr (o := 3) a (S 3 a + 1) (by decide)
    exact ⟨_, w1, w2, by rw [ckH_of c5, ldI_of ha (by decide), stI_of ha (by decide), c8 3 a (by decide)]⟩
  have moved : ∀ y, ∃ h', scQ q h h' ∧ cAt h' p q z P (up (up S 1 a y) 2 a (mnI 99999 (S 2 a + P 6 l))) fo np md ∧ (stI h (q + 1) 6 (nI a) y fun h22 => ckH (h22.2.2 3) (.inl 7) (ckH (h22.2.2 2) (.inl 5) (ldI h22 ((h22.2.2 2) + 6) 6 (nI l) fun v25 => bnd (g_X7_addTired (h22.2.2 3) (nI a) v25 h22) fun _ h26 => some ((), h26)))) = some ((), h') := by
    intro y
    obtain ⟨w1, w2⟩ := c.wr (o := 1) a y (by decide)
    obtain ⟨v1, v2⟩ := w2.wr (o := 2) a (mnI 99999 (S 2 a + P 6 l)) (by decide)
    refine ⟨_, w1.tr v1, v2, ?_⟩
    rw [stI_of ha (by decide), w2.1, w2.2.1, ckH_of c5, ckH_of c4, ldI_of hl (by decide), w2.2.2.2.2.2.2.1 6 l (by decide), x_addTired c5 ha, w2.2.2.2.2.2.2.2.1 2 a (by decide), up_ne _ _ _ _ _ _ (by omega), bnd_some]
  cases bare with
  | true =>
    simp only [if_true, i10, if_false, true_or]
    exact stuck
  | false =>
    simp only [Bool.false_eq_true, if_false, if_true, false_or]
    by_cases k1 : S 1 a = P 4 l
    · simp only [k1, if_true, not_true_eq_false, false_and, if_false]
      rw [ckH_of c5]
      exact moved (P 5 l)
    · by_cases k2 : S 1 a = P 5 l
      · have k3 : ¬ P 5 l = P 4 l := fun e => k1 (k2.trans e)
        simp only [k2, k3, if_true, if_false, not_true_eq_false, and_false]
        rw [ckH_of c5]
        exact moved (P 4 l)
      · simp only [k1, k2, if_true, if_false, not_false_eq_true, and_self]
        exact stuck
end CP
