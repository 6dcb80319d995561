/-! the reference: over the same tables -/
/-- the reference holds a plan -/
def MP (h : HH) (P : TB) (nf np nl ng : Nat) : Prop := h.1 257 0 = nI nf ∧ h.1 257 1 = nI np ∧ h.1 257 2 = nI nl ∧ h.1 257 3 = nI ng ∧ h.1 257 4 = P 0 15 ∧ (∀ f, f < nf → h.1 258 f = P 1 f) ∧ (∀ a, a < np → h.1 261 a = P 3 a) ∧ (∀ l, l < nl → h.1 263 l = P 4 l ∧ h.1 264 l = P 5 l ∧ h.1 265 l = P 6 l) ∧ (∀ g, g < ng → P 7 g = h.1 266 g + 22 ∧ h.1 267 g = P 8 g ∧ h.1 268 g = P 9 g ∧ h.1 269 g = P 10 g) ∧ ∀ r, r < 3 → h.1 270 r = P 14 r ∧ h.1 271 r = P 15 r ∧ ∀ i, i < (P 15 r).toNatClampNeg → coded (P 12 i) (P 13 i) (h.1 272 i) (h.1 273 i)
/-- the reference's house s holds a state -/
def MS (h : HH) (s : Nat) (S : TB) (np : Nat) : Prop := (∀ a, a < np → h.1 278 (6 * s + a) = S 1 a ∧ h.1 279 (6 * s + a) = S 2 a ∧ h.1 280 (6 * s + a) = S 3 a ∧ h.1 281 (6 * s + a) = S 4 a) ∧ (∀ k, k < 36 → h.1 282 (36 * s + k) = S 5 k) ∧ h.1 276 s = S 0 5 ∧ h.1 277 s = S 0 6
/-- forces as it tries -/
def MF (h : HH) (fo : Nat → Int32) (np : Nat) : Prop := ∀ a, a < np → (if h.1 255 48 = 4 then 99 else h.1 261 a) = fo a
/-- only what the reference works an E out with -/
def scM (h h' : HH) : Prop := (∀ a k, ¬ (a = 255 ∧ k = 35) → h'.1 a k = h.1 a k) ∧ (∀ a k, a ≠ 274 → a ≠ 275 → h'.2.1 a k = h.2.1 a k) ∧ h'.2.2 = h.2.2
theorem scM_rf (h : HH) : scM h h := ⟨fun _ _ _ => rfl, fun _ _ _ _ => rfl, rfl⟩
theorem scM.tr {h1 h2 h3 : HH} (a : scM h1 h2) (b : scM h2 h3) : scM h1 h3 := ⟨fun x k u => (b.1 x k u).trans (a.1 x k u), fun x k u v => (b.2.1 x k u v).trans (a.2.1 x k u v), b.2.2.trans a.2.2⟩
theorem sc11.M {h h' : HH} (s : sc11 h h') : scM h h' := ⟨s.1, fun a k _ u => s.2.1 a k u, s.2.2⟩
theorem scM_L (h : HH) (j : Nat) (v : Int64) : scM h (wrL h 274 j v) := ⟨fun _ _ _ => rfl, fun a k u _ => by rw [wrL_2, if_neg (fun e => u e.1)], rfl⟩
theorem MP.M {h h' : HH} {P : TB} {nf np nl ng : Nat} (c : MP h P nf np nl ng) (s : ∀ a k, a ≠ 255 → h'.1 a k = h.1 a k) : MP h' P nf np nl ng := by
  unfold MP at c ⊢
  simp only [s _ _ (show 257 ≠ 255 by decide), s _ _ (show 258 ≠ 255 by decide), s _ _ (show 261 ≠ 255 by decide), s _ _ (show 263 ≠ 255 by decide), s _ _ (show 264 ≠ 255 by decide), s _ _ (show 265 ≠ 255 by decide), s _ _ (show 266 ≠ 255 by decide), s _ _ (show 267 ≠ 255 by decide), s _ _ (show 268 ≠ 255 by decide), s _ _ (show 269 ≠ 255 by decide), s _ _ (show 270 ≠ 255 by decide), s _ _ (show 271 ≠ 255 by decide), s _ _ (show 272 ≠ 255 by decide), s _ _ (show 273 ≠ 255 by decide)]
  exact c
theorem MS.M {h h' : HH} {S : TB} {s np : Nat} (c : MS h s S np) (e : ∀ a k, a ≠ 255 → h'.1 a k = h.1 a k) : MS h' s S np := by
  unfold MS at c ⊢
  simp only [e _ _ (show 276 ≠ 255 by decide), e _ _ (show 277 ≠ 255 by decide), e _ _ (show 278 ≠ 255 by decide), e _ _ (show 279 ≠ 255 by decide), e _ _ (show 280 ≠ 255 by decide), e _ _ (show 281 ≠ 255 by decide), e _ _ (show 282 ≠ 255 by decide)]
  exact c
theorem MF.M {h h' : HH} {fo : Nat → Int32} {np : Nat} (c : MF h fo np) (s : scM h h') : MF h' fo np := by
  intro a ha
  rw [s.1 255 48 (by omega), s.1 261 a (by omega)]
  exact c a ha
theorem scM.n {h h' : HH} (s : scM h h') : ∀ a k, a ≠ 255 → h'.1 a k = h.1 a k := fun a k ha => s.1 a k (fun e => ha e.1)
theorem ix6 (s a : Nat) : (6 : Int32) * nI s + nI a = nI (6 * s + a) := by rw [show (6 : Int32) = nI 6 from rfl, nI_mul, nI_add]
theorem ix36 (s a f : Nat) : (36 : Int32) * nI s + (6 : Int32) * nI a + nI f = nI (36 * s + (6 * a + f)) := by
  rw [show (36 : Int32) = nI 36 from rfl, show (6 : Int32) = nI 6 from rfl, nI_mul, nI_mul, nI_add, nI_add]
  congr 1
  omega
theorem stL_0 {β : Type} {h : HH} {a n : Nat} {v : Int64} (hk : 0 < n) (hn : n < 2 ^ 31) (K : HH → Option β) : stL h a n (0 : Int32) v K = K (wrL h a 0 v) := stL_of (k := 0) hk hn K
theorem stL_1 {β : Type} {h : HH} {a n : Nat} {v : Int64} (hk : 1 < n) (hn : n < 2 ^ 31) (K : HH → Option β) : stL h a n (1 : Int32) v K = K (wrL h a 1 v) := stL_of (k := 1) hk hn K
theorem stL_2 {β : Type} {h : HH} {a n : Nat} {v : Int64} (hk : 2 < n) (hn : n < 2 ^ 31) (K : HH → Option β) : stL h a n (2 : Int32) v K = K (wrL h a 2 v) := stL_of (k := 2) hk hn K
theorem stL_3 {β : Type} {h : HH} {a n : Nat} {v : Int64} (hk : 3 < n) (hn : n < 2 ^ 31) (K : HH → Option β) : stL h a n (3 : Int32) v K = K (wrL h a 3 v) := stL_of (k := 3) hk hn K
theorem stL_4 {β : Type} {h : HH} {a n : Nat} {v : Int64} (hk : 4 < n) (hn : n < 2 ^ 31) (K : HH → Option β) : stL h a n (4 : Int32) v K = K (wrL h a 4 v) := stL_of (k := 4) hk hn K
theorem stL_5 {β : Type} {h : HH} {a n : Nat} {v : Int64} (hk : 5 < n) (hn : n < 2 ^ 31) (K : HH → Option β) : stL h a n (5 : Int32) v K = K (wrL h a 5 v) := stL_of (k := 5) hk hn K
theorem stL_6 {β : Type} {h : HH} {a n : Nat} {v : Int64} (hk : 6 < n) (hn : n < 2 ^ 31) (K : HH → Option β) : stL h a n (6 : Int32) v K = K (wrL h a 6 v) := stL_of (k := 6) hk hn K
section RM
variable {h : HH} {P S : TB} {fo : Nat → Int32} {nf np nl ng s : Nat}
theorem r_many (m : MP h P nf np nl ng) (k : MS h s S np) (hs : s < 23) (hnp : np ≤ 6) (f : Int32) : ∀ (m' i n : Nat), i + m' = np → m' < n → g_X11_manyOn_L5 (nI s) f n (manyS (S 1) f i) (nI i) h = some (manyS (S 1) f np, h) := by
  intro m'
  induction m' with
  | zero =>
    intro i n hi hn
    obtain ⟨n, rfl⟩ : ∃ n', n = n' + 1 := ⟨n - 1, by omega⟩
    rw [g_X11_manyOn_L5]
    rw [show (1 : Int32) = nI 1 from rfl, ldI_of (by decide) (by decide), m.2.1, if_neg (nI_nlt (by omega) (by omega)), show i = np by omega]
  | succ m' ih =>
    intro i n hi hn
    obtain ⟨n, rfl⟩ : ∃ n', n = n' + 1 := ⟨n - 1, by omega⟩
    have h1 := ih (i + 1) n (by omega) (by omega)
    have hfs : manyS (S 1) f (i + 1) = manyS (S 1) f i + (if S 1 i = f then 1 else 0) := rfl
    rw [hfs] at h1
    rw [g_X11_manyOn_L5]
    rw [show ldI h 257 14 (1 : Int32) = ldI h 257 14 (nI 1) from rfl, ldI_of (by decide) (by decide), m.2.1, if_pos (nI_lt (by omega) (by omega)), ix6, ldI_of (by omega) (by decide), (k.1 i (by omega)).1]
    simp only [jn, vl, nI_1]
    by_cases e : S 1 i = f
    · rw [if_pos e] at h1 ⊢; exact h1
    · rw [if_neg e] at h1 ⊢; exact h1
theorem r_force (mf : MF h fo np) (hnp : np ≤ 6) {a : Nat} (ha : a < np) : g_X11_forceOf (nI a) h = some (fo a, h) := by
  have h1 := mf a ha
  unfold g_X11_forceOf
  simp only [gfI]
  by_cases e : h.1 255 48 = 4
  · rw [if_pos e] at h1 ⊢; rw [h1]
  · rw [if_neg e] at h1 ⊢; rw [ldI_of (by omega) (by decide), h1]
theorem r_tally (k : MS h s S np) (hs : s < 23) {a f : Nat} (ha : a < 6) (hf : f < 6) : g_X11_tallyAt (nI s) (nI a) (nI f) h = some (S 5 (6 * a + f), h) := by
  unfold g_X11_tallyAt
  rw [ix36, ldI_of (by omega) (by decide), k.2.1 _ (by omega)]
theorem wrL_o (h : HH) (j i : Nat) (v : Int64) (e : i ≠ j) : (wrL h 274 j v).2.1 274 i = h.2.1 274 i := by rw [wrL_2, if_neg (fun q => e q.2)]
theorem wrL_s (h : HH) (j : Nat) (v : Int64) : (wrL h 274 j v).2.1 274 j = v := by rw [wrL_2]; simp
theorem r_calls (m : MP h P nf np nl ng) (k : MS h s S np) (mf : MF h fo np) (hs : s < 23) (hnf : nf ≤ 6) (hnp : np ≤ 6) {a f : Nat} (ha : a < np) (hf : f < nf) :
    ∃ h', scM h h' ∧ g_X11_calls (nI s) (nI a) (nI f) h = some ((), h') ∧ (h'.2.1 274 0 = (S 5 (6 * a + f)).toInt64) ∧ ∀ j, 1 ≤ j → j < 7 → h'.2.1 274 j = (nmA P S fo np a f (nI (34 + j))).toInt64 := by
  obtain ⟨N, hN⟩ : ∃ N : Nat, N = 1024 := ⟨_, rfl⟩
  have em : ∀ g : HH, g.1 = h.1 → g_X11_manyOn (nI s) (nI f) g = some (manyS (S 1) (nI f) np, g) := by
    intro g hg
    unfold g_X11_manyOn
    rw [← hN]
    refine r_many (h := g) (P := P) (nf := nf) (nl := nl) (ng := ng) ?_ ?_ hs hnp (nI f) np 0 N (by omega) (by omega)
    · unfold MP at m ⊢; rw [hg]; exact m
    · unfold MS at k ⊢; rw [hg]; exact k
  have ef : ∀ g : HH, g.1 = h.1 → g_X11_forceOf (nI a) g = some (fo a, g) := by
    intro g hg
    refine r_force (h := g) ?_ hnp ha
    unfold MF at mf ⊢; rw [hg]; exact mf
  refine ⟨wrL (wrL (wrL (wrL (wrL (wrL (wrL h 274 0 (S 5 (6 * a + f)).toInt64) 274 1 (P 1 f).toInt64) 274 2 (nI f).toInt64) 274 3 (fo a).toInt64) 274 4 (S 2 a).toInt64) 274 5 (manyS (S 1) (nI f) np).toInt64) 274 6 (S 0 5).toInt64, ?_, ?_, ?_, ?_⟩
  · exact ((((((scM_L _ _ _).tr (scM_L _ _ _)).tr (scM_L _ _ _)).tr (scM_L _ _ _)).tr (scM_L _ _ _)).tr (scM_L _ _ _)).tr (scM_L _ _ _)
  · unfold g_X11_calls
    rw [r_tally k hs (by omega) (by omega), bnd_some, stL_0 (by decide) (by decide), ldI_of (by omega) (by decide), wrL_1, m.2.2.2.2.2.1 f hf, stL_1 (by decide) (by decide), stL_2 (by decide) (by decide), ef (wrL (wrL (wrL h 274 0 _) 274 1 _) 274 2 _) rfl, bnd_some, stL_3 (by decide) (by decide), ix6, ldI_of (by omega) (by decide), wrL_1, wrL_1, wrL_1, wrL_1, (k.1 a ha).2.1, stL_4 (by decide) (by decide), em (wrL (wrL (wrL (wrL (wrL h 274 0 _) 274 1 _) 274 2 _) 274 3 _) 274 4 _) rfl, bnd_some, stL_5 (by decide) (by decide), ldI_of (by omega) (by decide), wrL_1, wrL_1, wrL_1, wrL_1, wrL_1, wrL_1, k.2.2.1, stL_6 (by decide) (by decide)]
  · rw [wrL_o _ _ _ _ (by decide), wrL_o _ _ _ _ (by decide), wrL_o _ _ _ _ (by decide), wrL_o _ _ _ _ (by decide), wrL_o _ _ _ _ (by decide), wrL_o _ _ _ _ (by decide), wrL_s]
  · intro j h1 h7
    rcases (show j = 1 ∨ j = 2 ∨ j = 3 ∨ j = 4 ∨ j = 5 ∨ j = 6 by omega) with rfl | rfl | rfl | rfl | rfl | rfl
    · rw [wrL_o _ _ _ _ (by decide), wrL_o _ _ _ _ (by decide), wrL_o _ _ _ _ (by decide), wrL_o _ _ _ _ (by decide), wrL_o _ _ _ _ (by decide), wrL_s]
      unfold nmA; rw [if_pos (by decide)]
    · rw [wrL_o _ _ _ _ (by decide), wrL_o _ _ _ _ (by decide), wrL_o _ _ _ _ (by decide), wrL_o _ _ _ _ (by decide), wrL_s]
      unfold nmA; rw [if_neg (by decide), if_pos (by decide)]
    · rw [wrL_o _ _ _ _ (by decide), wrL_o _ _ _ _ (by decide), wrL_o _ _ _ _ (by decide), wrL_s]
      unfold nmA; rw [if_neg (by decide), if_neg (by decide), if_pos (by decide)]
    · rw [wrL_o _ _ _ _ (by decide), wrL_o _ _ _ _ (by decide), wrL_s]
      unfold nmA; rw [if_neg (by decide), if_neg (by decide), if_neg (by decide), if_pos (by decide)]
    · rw [wrL_o _ _ _ _ (by decide), wrL_s]
      unfold nmA; rw [if_neg (by decide), if_neg (by decide), if_neg (by decide), if_neg (by decide), if_neg (by decide)]
    · rw [wrL_s]
      unfold nmA; rw [if_neg (by decide), if_neg (by decide), if_neg (by decide), if_neg (by decide), if_pos (by decide)]
/-- a law of the reference's: r, with its names laid out -/
theorem r_goes (m : MP h P nf np nl ng) (wl : lwOkA P) {r a f : Nat} (hr : r < 3) (less : Int32) (h0 : h.2.1 274 0 = (S 5 (6 * a + f) - less).toInt64) (hn : ∀ j, 1 ≤ j → j < 7 → h.2.1 274 j = (nmA P S fo np a f (nI (34 + j))).toInt64) :
    g_X11_hasLaw (nI r) h = some (if (P 14 r).toNatClampNeg < (P 15 r).toNatClampNeg then 1 else 0, h) ∧ (¬ (P 14 r).toNatClampNeg < (P 15 r).toNatClampNeg → lwA P S fo np r a f less = eM) ∧ ((P 14 r).toNatClampNeg < (P 15 r).toNatClampNeg → ∃ h', sc11 h h' ∧ g_X11_goes (nI r) h = some (if lwA P S fo np r a f less = eM then 0 else 1, h') ∧ (lwA P S fo np r a f less ≠ eM → h'.2.1 275 0 = lwA P S fo np r a f less)) := by
  obtain ⟨s, e, hs, he, ⟨o1, o2, o3⟩, ok⟩ := wl r hr
  obtain ⟨m1, m2, m3⟩ := m.2.2.2.2.2.2.2.2.2 r hr
  have e1 : (P 14 r).toNatClampNeg = s := by rw [hs]; exact nI_clamp (by omega)
  have e2 : (P 15 r).toNatClampNeg = e := by rw [he]; exact nI_clamp (by omega)
  rw [e2] at m3
  unfold lwA
  rw [e1, e2]
  refine ⟨?_, fun hn => ?_, fun hlt => ?_⟩
  · unfold g_X11_hasLaw
    rw [ldI_of (by omega) (by decide), ldI_of (by omega) (by decide), m1, m2, hs, he]
    by_cases c : s < e
    · rw [if_pos (nI_lt c (by omega)), if_pos c]
    · rw [if_neg (nI_nlt (by omega) (by omega)), if_neg c]
  · have : e - s = 0 := by omega
    unfold lawV
    rw [this]
    rfl
  · exact x_goes r (by omega) (P 12) (P 13) (fun k => if k = 34 then S 5 (6 * a + f) - less else nmA P S fo np a f k) s e hlt o2 h m3 (m1.trans hs) (m2.trans he) (fun j hj => by
      by_cases j0 : j = 0
      · subst j0; rw [h0, if_pos (by decide)]
      · rw [hn j (by omega) hj, if_neg (fun q => j0 (by
          have := (nI_eq (a := 34 + j) (b := 34) (by omega) (by decide)).mp (q.trans (show (34 : Int32) = nI 34 from rfl))
          omega))]) (o3 hlt)
end RM
