/-! what is done by call: who stays as told, images of a state -/
theorem zG_up {S : TB} {np o a : Nat} (z : zG S np) (v : Int32) (h : a < np ∨ o = 0 ∨ o = 5) : zG (up S o a v) np := by
  intro b h1 h2
  obtain ⟨z1, z2, z3, z4⟩ := z b h1 h2
  have e : ∀ o', 1 ≤ o' → o' ≤ 4 → up S o a v o' b = S o' b := fun o' q1 q2 => up_ne _ _ _ _ _ _ (by omega)
  rw [e 1 (by decide) (by decide), e 2 (by decide) (by decide), e 3 (by decide) (by decide), e 4 (by decide) (by decide)]
  exact ⟨z1, z2, z3, z4⟩
theorem riA_z {P S : TB} {fo : Nat → Int32} {np md a f : Nat} (ha : a < np) (z : zG S np) : zG (riA P S fo np md a f).2 np := by
  unfold riA
  split
  · exact zG_up z _ (Or.inl ha)
  · split
    · exact zG_up (zG_up (zG_up z _ (Or.inr (Or.inl rfl))) _ (Or.inl ha)) _ (Or.inl ha)
    · exact zG_up (zG_up (zG_up (zG_up z _ (Or.inr (Or.inl rfl))) _ (Or.inl ha)) _ (Or.inr (Or.inr rfl))) _ (Or.inl ha)
theorem upA_z {P : TB} {fo : Nat → Int32} {np md a : Nat} (ha : a < np) : ∀ (k f : Nat) {S : TB}, zG S np → zG (upA P fo np md a k f S).2 np
  | 0, _, _, h => h
  | k + 1, f, S, h => by
    unfold upA
    split
    · exact upA_z ha k _ (riA_z ha h)
    · exact riA_z ha h
theorem dnA_z {np a t : Nat} (ha : a < np) : ∀ (k : Nat) {S : TB}, zG S np → zG (dnA a t k S) np
  | 0, _, h => h
  | k + 1, S, h => by
    unfold dnA
    exact dnA_z ha k (zG_up (zG_up h _ (Or.inl ha)) _ (Or.inr (Or.inr rfl)))
theorem wkA_z {P S : TB} {fo : Nat → Int32} {np md a fl t : Nat} (ha : a < np) (h : zG S np) : zG (wkA P fo np md a fl t S).2 np := by
  unfold wkA
  split
  · exact dnA_z ha _ h
  · exact upA_z ha _ _ h
theorem wkA_hr {P S : TB} {fo : Nat → Int32} {np md a fl t : Nat} : (wkA P fo np md a fl t S).2 0 5 = S 0 5 := by
  unfold wkA
  split
  · exact dnA_hr _ _ _ _
  · exact upA_hr _ _ _ _ _ _ _ _
theorem actA_z {P S : TB} {fo : Nat → Int32} {nf np nl ng md : Nat} (w : gOk P nf np nl ng) {bare : Bool} {g : Nat} (hg : g < ng) (h : zG S np) : zG (actA P fo np md bare S g) np := by
  obtain ⟨g1, g2, g3⟩ := pg_ok w hg
  unfold actA
  split
  · exact wkA_z g2 h
  · split
    · unfold swA
      split
      · exact zG_up h _ (Or.inl g2)
      · exact zG_up (zG_up h _ (Or.inl g2)) _ (Or.inl g2)
    · exact zG_up h _ (Or.inl g2)
theorem rowA_z {P : TB} {fo : Nat → Int32} {nf np nl ng md : Nat} (w : gOk P nf np nl ng) {bare : Bool} : ∀ (l : List Nat) {S : TB}, (∀ y ∈ l, y < ng) → zG S np → zG (rowA (actA P fo np md bare) l S) np
  | [], _, _, h => h
  | x :: t, _, hl, h => actA_z w (hl x (by simp)) (rowA_z w t (fun y hy => hl y (List.mem_cons_of_mem _ hy)) h)
theorem hrA_z {P S : TB} {fo : Nat → Int32} {nf np nl ng md : Nat} (w : gOk P nf np nl ng) {bare : Bool} {idle : Int32} (h : zG S np) : zG (hrA P fo np md ng bare idle S) np := by
  unfold hrA
  exact zG_up (rowA_z w _ (ordA_ok P S fo (S 0 5) idle ng).2 h) _ (Or.inr (Or.inl rfl))
/-- a state well kept, at any hour -/
def sX (S : TB) (nf np : Nat) : Prop := sOk S nf np ∧ tOk S ∧ zG S np
theorem sG.X {S : TB} {nf np : Nat} (s : sG S nf np) : sX S nf np := ⟨s.1, s.2.1, s.2.2.1⟩
theorem sX.hr {P S : TB} {fo : Nat → Int32} {nf np nl ng md : Nat} (w : gOk P nf np nl ng) {bare : Bool} {idle : Int32} (s : sX S nf np) : sX (hrA P fo np md ng bare idle S) nf np := ⟨hrA_ok w bare idle s.1, hrA_t s.2.1, hrA_z w s.2.2⟩
theorem sX.it {P : TB} {fo : Nat → Int32} {nf np nl ng md : Nat} (w : gOk P nf np nl ng) {bare : Bool} {idle : Int32} : ∀ (n : Nat) {S : TB}, sX S nf np → sX (itA (hrA P fo np md ng bare idle) n S) nf np
  | 0, _, s => s
  | n + 1, _, s => sX.it w n (s.hr w)
theorem itA_hr {P : TB} {fo : Nat → Int32} {np md ng : Nat} {bare : Bool} {idle : Int32} : ∀ (n u : Nat) {S : TB}, S 0 5 = nI u → itA (hrA P fo np md ng bare idle) n S 0 5 = nI (u + n)
  | 0, u, _, h => h
  | n + 1, u, S, h => by
    have e := itA_hr (P := P) (fo := fo) (np := np) (md := md) (ng := ng) (bare := bare) (idle := idle) n (u + 1) (S := hrA P fo np md ng bare idle S) (by rw [hrA_hr, h, nI_1])
    rw [show u + (n + 1) = u + 1 + n by omega]
    exact e
theorem sX.wk {P S : TB} {fo : Nat → Int32} {nf np md a fl t : Nat} (s : sX S nf np) (ha : a < np) (hf : S 1 a = nI fl) (hfn : fl ≤ nf) (ht : t ≤ nf) : sX (wkA P fo np md a fl t S).2 nf np := ⟨wkA_ok s.1 hf hfn ht, wkA_t s.2.1, wkA_z ha s.2.2⟩
theorem eqR.sX {T S : TB} {nf np : Nat} (e : eqR T S) (w : sX S nf np) (hnp : np ≤ 6) : sX T nf np := by
  obtain ⟨w1, w2, w3⟩ := w
  refine ⟨fun a ha => ?_, fun j hj => ?_, fun a h1 h2 => ?_⟩
  · obtain ⟨fl, f1, f2⟩ := w1 a ha
    exact ⟨fl, f1, ((e.1 a (by omega)).1).trans f2⟩
  · rw [e.2.1 j hj]; exact w2 j hj
  · obtain ⟨e1, e2, e3, e4⟩ := e.1 a h2
    rw [e1, e2, e3, e4]; exact w3 a h1 h2
theorem eqR.sy {T S : TB} (e : eqR T S) : eqR S T := ⟨fun a ha => ⟨(e.1 a ha).1.symm, (e.1 a ha).2.1.symm, (e.1 a ha).2.2.1.symm, (e.1 a ha).2.2.2.symm⟩, fun k hk => (e.2.1 k hk).symm, e.2.2.1.symm, e.2.2.2.symm⟩
/-! the reference copies a house -/
theorem inH_ne {s t a k : Nat} (h : inH s a k) (hst : s ≠ t) : ¬ inH t a k := by
  unfold inH at *
  omega
theorem ix36' (s a : Nat) : (36 : Int32) * nI s + nI a = nI (36 * s + a) := by rw [show (36 : Int32) = nI 36 from rfl, nI_mul, nI_add]
theorem r_cp6 (K : HH → Option (Unit × HH)) {t s : Nat} (ht : t < 23) (hs : s < 23) (hts : t ≠ s) (h0 : HH) : ∀ (m i n : Nat) (h : HH), i + m = 6 → m < n → (∀ o x, 278 ≤ o → o ≤ 281 → x < i → h.1 o (6 * t + x) = h0.1 o (6 * s + x)) → (∀ a k, ¬ (278 ≤ a ∧ a ≤ 281 ∧ 6 * t ≤ k ∧ k < 6 * t + i) → h.1 a k = h0.1 a k) → h.2 = h0.2 →
    ∃ h', g_X11_copies_L26 K (nI t) (nI s) n (nI i) h = K h' ∧ (∀ o x, 278 ≤ o → o ≤ 281 → x < 6 → h'.1 o (6 * t + x) = h0.1 o (6 * s + x)) ∧ (∀ a k, ¬ (278 ≤ a ∧ a ≤ 281 ∧ 6 * t ≤ k ∧ k < 6 * t + 6) → h'.1 a k = h0.1 a k) ∧ h'.2 = h0.2 := by
  intro m
  induction m with
  | zero =>
    intro i n h hi hn e1 e2 e3
    obtain ⟨n, rfl⟩ : ∃ n', n = n' + 1 := ⟨n - 1, by omega⟩
    obtain rfl : i = 6 := by omega
    exact ⟨h, by rw [g_X11_copies_L26, if_neg (show ¬ nI 6 < 6 by decide)], e1, e2, e3⟩
  | succ m ih =>
    intro i n h hi hn e1 e2 e3
    obtain ⟨n, rfl⟩ : ∃ n', n = n' + 1 := ⟨n - 1, by omega⟩
    have rd : ∀ o, 278 ≤ o → o ≤ 281 → h.1 o (6 * s + i) = h0.1 o (6 * s + i) := fun o q1 q2 => e2 _ _ (by omega)
    obtain ⟨h', e', f1, f2, f3⟩ := ih (i + 1) n (wrI (wrI (wrI (wrI h 278 (6 * t + i) (h0.1 278 (6 * s + i))) 279 (6 * t + i) (h0.1 279 (6 * s + i))) 280 (6 * t + i) (h0.1 280 (6 * s + i))) 281 (6 * t + i) (h0.1 281 (6 * s + i))) (by omega) (by omega)
      (fun o x q1 q2 q3 => by
        simp only [wrI_1]
        by_cases hx : x = i
        · subst hx
          rcases (show o = 278 ∨ o = 279 ∨ o = 280 ∨ o = 281 by omega) with rfl | rfl | rfl | rfl <;> simp
        · rw [if_neg (by omega), if_neg (by omega), if_neg (by omega), if_neg (by omega)]
          exact e1 o x q1 q2 (by omega))
      (fun a k q => by
        simp only [wrI_1]
        rw [if_neg (by omega), if_neg (by omega), if_neg (by omega), if_neg (by omega)]
        exact e2 a k (by omega)) e3
    refine ⟨h', ?_, f1, f2, f3⟩
    rw [← e', g_X11_copies_L26, if_pos (show nI i < 6 from nI_lt (b := 6) (by omega) (by decide))]
    simp only [vl, nI_1, ix6]
    rw [ldI_of (by omega) (by decide), rd 278 (by decide) (by decide), stI_of (by omega) (by decide), ldI_of (by omega) (by decide), wrI_1, if_neg (by omega), rd 279 (by decide) (by decide), stI_of (by omega) (by decide), ldI_of (by omega) (by decide), wrI_1, if_neg (by omega), wrI_1, if_neg (by omega), rd 280 (by decide) (by decide), stI_of (by omega) (by decide), ldI_of (by omega) (by decide), wrI_1, if_neg (by omega), wrI_1, if_neg (by omega), wrI_1, if_neg (by omega), rd 281 (by decide) (by decide), stI_of (by omega) (by decide)]
theorem r_cp36 {t s : Nat} (ht : t < 23) (hs : s < 23) (hts : t ≠ s) (h0 : HH) : ∀ (m i n : Nat) (h : HH), i + m = 36 → m < n → (∀ x, x < i → h.1 282 (36 * t + x) = h0.1 282 (36 * s + x)) → (∀ a k, ¬ (a = 282 ∧ 36 * t ≤ k ∧ k < 36 * t + i) → h.1 a k = h0.1 a k) → h.2 = h0.2 →
    ∃ h', g_X11_copies_L128 (nI t) (nI s) n (nI i) h = some ((), h') ∧ (∀ x, x < 36 → h'.1 282 (36 * t + x) = h0.1 282 (36 * s + x)) ∧ (∀ a k, ¬ (a = 282 ∧ 36 * t ≤ k ∧ k < 36 * t + 36) → h'.1 a k = h0.1 a k) ∧ h'.2 = h0.2 := by
  intro m
  induction m with
  | zero =>
    intro i n h hi hn e1 e2 e3
    obtain ⟨n, rfl⟩ : ∃ n', n = n' + 1 := ⟨n - 1, by omega⟩
    obtain rfl : i = 36 := by omega
    exact ⟨h, by rw [g_X11_copies_L128, if_neg (show ¬ nI 36 < 36 by decide)], e1, e2, e3⟩
  | succ m ih =>
    intro i n h hi hn e1 e2 e3
    obtain ⟨n, rfl⟩ : ∃ n', n = n' + 1 := ⟨n - 1, by omega⟩
    obtain ⟨h', e', f1, f2, f3⟩ := ih (i + 1) n (wrI h 282 (36 * t + i) (h0.1 282 (36 * s + i))) (by omega) (by omega)
      (fun x q3 => by
        rw [wrI_1]
        by_cases hx : x = i
        · rw [if_pos ⟨rfl, by omega⟩, hx]
        · rw [if_neg (by omega)]; exact e1 x (by omega))
      (fun a k q => by rw [wrI_1, if_neg (by omega)]; exact e2 a k (by omega)) e3
    refine ⟨h', ?_, f1, f2, f3⟩
    rw [← e', g_X11_copies_L128, if_pos (show nI i < 36 from nI_lt (b := 36) (by omega) (by decide))]
    simp only [vl, nI_1, ix36']
    rw [ldI_of (by omega) (by decide), e2 _ _ (by omega), stI_of (by omega) (by decide)]
theorem r_copies {t s np : Nat} {h : HH} {S : TB} (ht : t < 23) (hs : s < 23) (hts : t ≠ s) (hnp : np ≤ 6) (m : MS h s S np) : ∃ h', g_X11_copies (nI t) (nI s) h = some ((), h') ∧ MS h' t S np ∧ (∀ a k, ¬ inH t a k → h'.1 a k = h.1 a k) ∧ h'.2 = h.2 := by
  obtain ⟨N, hN⟩ : ∃ N : Nat, N = 1024 := ⟨_, rfl⟩
  obtain ⟨m1, m2, m3, m4⟩ := id m
  obtain ⟨hA, eA⟩ : ∃ hA, hA = wrI (wrI h 276 t (h.1 276 s)) 277 t (h.1 277 s) := ⟨_, rfl⟩
  have rA : ∀ a k, ¬ ((a = 276 ∨ a = 277) ∧ k = t) → hA.1 a k = h.1 a k := fun a k q => by rw [eA, wrI_1, if_neg (by omega), wrI_1, if_neg (by omega)]
  obtain ⟨hB, eB, b1, b2, b3⟩ := r_cp6 (fun h14 => g_X11_copies_L128 (nI t) (nI s) N 0 h14) ht hs hts hA 6 0 N hA rfl (by omega) (fun _ _ _ _ q => absurd q (Nat.not_lt_zero _)) (fun _ _ _ => rfl) rfl
  obtain ⟨hC, eC, c1, c2, c3⟩ := r_cp36 ht hs hts hB 36 0 N hB rfl (by omega) (fun _ q => absurd q (Nat.not_lt_zero _)) (fun _ _ _ => rfl) rfl
  have all : ∀ a k, ¬ inH t a k → hC.1 a k = h.1 a k := fun a k q => by
    unfold inH at q
    rw [c2 a k (by omega), b2 a k (by omega), rA a k (by omega)]
  refine ⟨hC, ?_, ⟨fun a ha => ?_, fun k hk => ?_, ?_, ?_⟩, all, by rw [c3, b3, eA]; rfl⟩
  · unfold g_X11_copies
    rw [← hN, ldI_of (by omega) (by decide), stI_of (by omega) (by decide), ldI_of (by omega) (by decide), wrI_1, if_neg (by omega), stI_of (by omega) (by decide), ← eA]
    exact eB.trans eC
  · obtain ⟨k1, k2, k3, k4⟩ := m1 a ha
    have key : ∀ o, 278 ≤ o → o ≤ 281 → hC.1 o (6 * t + a) = h.1 o (6 * s + a) := fun o q1 q2 => by
      rw [c2 _ _ (by omega), b1 o a q1 q2 (by omega), rA _ _ (by omega)]
    rw [key 278 (by decide) (by decide), key 279 (by decide) (by decide), key 280 (by decide) (by decide), key 281 (by decide) (by decide)]
    exact ⟨k1, k2, k3, k4⟩
  · rw [c1 k hk, b2 _ _ (by omega), rA _ _ (by omega)]; exact m2 k hk
  · rw [c2 _ _ (by omega), b2 _ _ (by omega), eA, wrI_1, if_neg (by omega), wrI_at]; exact m3
  · rw [c2 _ _ (by omega), b2 _ _ (by omega), eA, wrI_at]; exact m4
/-! the class's past -/
theorem sh_past : ∀ n, n < 20 → shL[65 + 1 + 6 * n]? = some (.inl 7) := by decide +kernel
theorem mnI_nI {a b : Nat} (ha : a < 2 ^ 31) (hb : b < 2 ^ 31) : mnI (nI a) (nI b) = nI (min a b) := by
  unfold mnI
  by_cases c : b < a
  · rw [if_pos (nI_lt c ha)]; congr 1; omega
  · rw [if_neg (nI_nlt (by omega) (by omega))]; congr 1; omega
theorem x_push {h : HH} {pa : List TB} {S : TB} (c : RC3 h pa) (cs : CS h 52 S) : ∃ h' T, g_X4_push 52 h = some ((), h') ∧ eqR T S ∧ RC3 h' (T :: pa.take 19) ∧ (∀ a k, ¬ (64 ≤ a ∧ a < 186) → h'.1 a k = h.1 a k) ∧ h'.2 = h.2 := by
  obtain ⟨nx, c1, c2, c3, c4, c5⟩ := c
  obtain ⟨h1, T, e1, k1, q1, f1, g1⟩ := x_take (q := 65 + 1 + 6 * nx) (r := 52) (sh_past nx c1) sh_52 (by omega) cs
  have e20 : ∀ n : Nat, n < 2 ^ 31 → nI n - nI n / 20 * 20 = nI (n % 20) := fun n hn => pk_rem (d := 20) hn (by decide) (by decide)
  have m20 : ∀ n : Nat, n < 2 ^ 31 → mnI (nI n) 20 = nI (min n 20) := fun n hn => mnI_nI (b := 20) hn (by decide)
  refine ⟨wrI (wrI h1 64 1 (nI ((nx + 1) % 20))) 64 2 (nI (min (pa.length + 1) 20)), T, ?_, q1, ⟨(nx + 1) % 20, Nat.mod_lt _ (by decide), ?_, ?_, ?_, fun i I hI o k ho => ?_⟩, fun a k ha => ?_, g1⟩
  · unfold g_X4_push
    simp only [gfI, pfI]
    rw [ckH_of sh_52, c2, ldR_of c1 (by decide), ckH_of (sh_past nx c1), e1, bnd_some, f1 64 1 (by omega), c2, nI_1, rmI_of (by decide), e20 _ (by omega), wrI_1, if_neg (by decide), f1 64 2 (by omega), c3, nI_1, m20 _ (by omega)]
  · rw [wrI_1, if_neg (by decide), wrI_at]
  · rw [wrI_at]
    congr 1
    simp [List.length_take]
    omega
  · simp [List.length_take]; omega
  · rw [wrI_1, if_neg (by have : ((nx + 1) % 20 + 19 - i) % 20 < 20 := Nat.mod_lt _ (by decide); omega), wrI_1, if_neg (by omega)]
    cases i with
    | zero =>
      have hT : T = I := by simpa using hI
      rw [show 66 + 6 * (((nx + 1) % 20 + 19 - 0) % 20) + o = 65 + 1 + 6 * nx + o by omega, ← hT]
      exact k1 o k ho
    | succ j =>
      have hI' : (pa.take 19)[j]? = some I := by simpa using hI
      rw [List.getElem?_take] at hI'
      by_cases hj : j < 19
      · rw [if_pos hj] at hI'
        rw [f1 _ _ (by omega), show 66 + 6 * (((nx + 1) % 20 + 19 - (j + 1)) % 20) + o = 66 + 6 * ((nx + 19 - j) % 20) + o by omega]
        exact c5 j I hI' o k ho
      · rw [if_neg hj] at hI'; cases hI'
  · rw [wrI_1, if_neg (by omega), wrI_1, if_neg (by omega)]
    exact f1 a k (by omega)
theorem x_pop {h : HH} {pa : List TB} {I : TB} (c : RC3 h (I :: pa)) : ∃ h' T, g_X4_pop 52 h = some (1, h') ∧ eqR T I ∧ CS h' 52 T ∧ RC3 h' pa ∧ (∀ a k, ¬ (a = 64 ∨ (52 ≤ a ∧ a < 58)) → h'.1 a k = h.1 a k) ∧ h'.2 = h.2 ∧ h'.1 64 2 = nI pa.length := by
  obtain ⟨nx, c1, c2, c3, c4, c5⟩ := c
  have e20 : ∀ n : Nat, n < 2 ^ 31 → nI n - nI n / 20 * 20 = nI (n % 20) := fun n hn => pk_rem (d := 20) hn (by decide) (by decide)
  have hl : (I :: pa).length = pa.length + 1 := rfl
  rw [hl] at c3 c4
  have hc : (nx + 19) % 20 < 20 := Nat.mod_lt _ (by decide)
  obtain ⟨hA, eA⟩ : ∃ hA, hA = wrI (wrI h 64 1 (nI ((nx + 19) % 20))) 64 2 (nI pa.length) := ⟨_, rfl⟩
  have fA : ∀ a k, a ≠ 64 → hA.1 a k = h.1 a k := fun a k q => by rw [eA, wrI_1, if_neg (fun z => q z.1), wrI_1, if_neg (fun z => q z.1)]
  have cI : CS hA (65 + 1 + 6 * ((nx + 19) % 20)) I := fun o k ho => by
    rw [fA _ _ (by omega)]
    have := c5 0 I rfl o k ho
    rw [Nat.sub_zero] at this
    rw [show 65 + 1 + 6 * ((nx + 19) % 20) + o = 66 + 6 * ((nx + 19) % 20) + o by omega]
    exact this
  obtain ⟨h1, T, e1, k1, q1, f1, g1⟩ := x_take (q := 52) (r := 65 + 1 + 6 * ((nx + 19) % 20)) sh_52 (sh_past _ hc) (by omega) cI
  have a1 : hA.1 64 1 = nI ((nx + 19) % 20) := by rw [eA, wrI_1, if_neg (by decide), wrI_at]
  have a2 : hA.1 64 2 = nI pa.length := by rw [eA, wrI_at]
  refine ⟨h1, T, ?_, q1, k1, ⟨(nx + 19) % 20, hc, (f1 _ _ (by omega)).trans a1, (f1 _ _ (by omega)).trans a2, by omega, fun i J hJ o k ho => ?_⟩, fun a k ha => ?_, by rw [g1, eA]; rfl, (f1 _ _ (by omega)).trans a2⟩
  · unfold g_X4_pop
    simp only [gfI, pfI]
    rw [ckH_of sh_52, c3, if_neg (nI_ne0 (by omega) (by omega)), c2, rmI_of (by decide), show nI nx + 20 - 1 = nI (nx + 19) by rw [show (20 : Int32) = nI 20 from rfl, nI_add]; exact nI_pred (nx + 19), e20 _ (by omega), show (wrI h 64 1 (nI ((nx + 19) % 20))).1 64 2 = nI (pa.length + 1) by rw [wrI_1, if_neg (by decide)]; exact c3, nI_pred, ← eA, a1, ldR_of hc (by decide), ckH_of (sh_past _ hc), e1, bnd_some]
  · rw [f1 _ _ (by omega), fA _ _ (by omega), show 66 + 6 * (((nx + 19) % 20 + 19 - i) % 20) + o = 66 + 6 * ((nx + 19 - (i + 1)) % 20) + o by
      have hi : i < pa.length := (List.getElem?_eq_some_iff.mp hJ).1
      omega]
    exact c5 (i + 1) J (by simpa using hJ) o k ho
  · rw [f1 _ _ (by omega), fA _ _ (by omega)]
/-! the reference keeps what is now -/
theorem r_keep_L (K : HH → Option (Unit × HH)) {np : Nat} (hnp : np ≤ 6) {pa : List TB} (hl : pa.length = 20) : ∀ (m k n : Nat) (h : HH), k + m = 20 → m < n → 1 ≤ k → (∀ i I, pa[i]? = some I → k + 2 ≤ 22 - i → MS h (22 - i) I np) → (∀ i I, pa[i]? = some I → i ≤ 18 → 21 - i < k + 2 → MS h (21 - i) I np) →
    ∃ h', g_X11_keepNow_L11 K n (nI k) h = K h' ∧ (∀ i I, pa[i]? = some I → i ≤ 18 → MS h' (21 - i) I np) ∧ (∀ a k, (∀ s, 3 ≤ s → s < 23 → ¬ inH s a k) → h'.1 a k = h.1 a k) ∧ h'.2 = h.2 := by
  intro m
  induction m with
  | zero =>
    intro k n h hk hn h1 eA eB
    obtain ⟨n, rfl⟩ : ∃ n', n = n' + 1 := ⟨n - 1, by omega⟩
    obtain rfl : k = 20 := by omega
    exact ⟨h, by rw [g_X11_keepNow_L11, if_neg (show ¬ nI 20 < 20 by decide)], fun i I hI hi => eB i I hI hi (by omega), fun _ _ _ => rfl, rfl⟩
  | succ m ih =>
    intro k n h hk hn h1 eA eB
    obtain ⟨n, rfl⟩ : ∃ n', n = n' + 1 := ⟨n - 1, by omega⟩
    obtain ⟨I0, hI0⟩ : ∃ I0, pa[19 - k]? = some I0 := ⟨_, List.getElem?_eq_getElem (by omega)⟩
    have ms : MS h (k + 3) I0 np := by
      have := eA (19 - k) I0 hI0 (by omega)
      rwa [show 22 - (19 - k) = k + 3 by omega] at this
    obtain ⟨h2, e2, m2, f2, g2⟩ := r_copies (t := k + 2) (s := k + 3) (by omega) (by omega) (by omega) hnp ms
    obtain ⟨h', e', b', f', g'⟩ := ih (k + 1) n h2 (by omega) (by omega) (by omega)
      (fun i I hI q => (eA i I hI (by omega)).X hnp fun a j hj => f2 a j (inH_ne hj (by omega)))
      (fun i I hI hi q => by
        by_cases e : 21 - i = k + 2
        · have : i = 19 - k := by omega
          rw [this, hI0] at hI
          cases hI
          rw [e]; exact m2
        · exact (eB i I hI hi (by omega)).X hnp fun a j hj => f2 a j (inH_ne hj (by omega)))
    refine ⟨h', ?_, b', fun a j q => (f' a j q).trans (f2 a j (q _ (by omega) (by omega))), g'.trans g2⟩
    rw [← e', g_X11_keepNow_L11, if_pos (show nI k < 20 from nI_lt (b := 20) (by omega) (by decide))]
    simp only [vl, nI_1]
    rw [show (3 : Int32) + nI k = nI (k + 3) by rw [show (3 : Int32) = nI 3 from rfl, nI_add, Nat.add_comm], show nI (k + 3) - 1 = nI (k + 2) from nI_pred (k + 2), e2, bnd_some]
theorem r_keepNow {h : HH} {np : Nat} {pa : List TB} {S T : TB} (hnp : np ≤ 6) (m3 : RM3 h np pa) (ms : MS h 0 S np) (hl : pa.length ≤ 20) (e : eqR T S) : ∃ h', g_X11_keepNow h = some ((), h') ∧ RM3 h' np (T :: pa.take 19) ∧ (∀ a k, ¬ (a = 255 ∧ k = 44) → (∀ s, 3 ≤ s → s < 23 → ¬ inH s a k) → h'.1 a k = h.1 a k) ∧ h'.2 = h.2 := by
  obtain ⟨N, hN⟩ : ∃ N : Nat, N = 1024 := ⟨_, rfl⟩
  -- the last step: a house behind those kept
  have fin : ∀ (hA : HH) (c : Nat) (qa : List TB), c < 20 → qa.length = c → hA.1 255 44 = nI c → (∀ i I, qa[i]? = some I → MS hA (2 + c - i) I np) → MS hA 0 S np → ∃ h', (bnd (g_X11_copies ((3 : Int32) + hA.1 255 44) (0 : Int32) hA) fun _ h6 => some ((), wrI h6 255 44 (h6.1 255 44 + (1 : Int32)))) = some ((), h') ∧ RM3 h' np (T :: qa) ∧ (∀ a k, ¬ (a = 255 ∧ k = 44) → (∀ s, 3 ≤ s → s < 23 → ¬ inH s a k) → h'.1 a k = hA.1 a k) ∧ h'.2 = hA.2 := by
    intro hA c qa hc hq h44 hms hm0
    obtain ⟨h2, e2, m2, f2, g2⟩ := r_copies (t := 3 + c) (s := 0) (by omega) (by decide) (by omega) hnp hm0
    have e2' : g_X11_copies (nI (3 + c)) 0 hA = _ := e2
    have n44 : h2.1 255 44 = nI c := (f2 255 44 (by unfold inH; omega)).trans h44
    have wr : ∀ a k, ¬ (a = 255 ∧ k = 44) → (wrI h2 255 44 (nI (c + 1))).1 a k = h2.1 a k := fun a k q => by rw [wrI_1, if_neg q]
    refine ⟨wrI h2 255 44 (nI (c + 1)), ?_, ⟨?_, fun i I hI => ?_⟩, fun a k q1 q2 => (wr a k q1).trans (f2 a k (q2 _ (by omega) (by omega))), g2⟩
    · rw [h44, show (3 : Int32) + nI c = nI (3 + c) from nI_add 3 c, e2', bnd_some, n44, nI_1]
    · rw [wrI_at]; simp [hq]
    · have hlen : (T :: qa).length = c + 1 := by simp [hq]
      rw [hlen]
      refine MS.X (h := h2) ?_ hnp fun a k hk => wr a k (by unfold inH at hk; omega)
      cases i with
      | zero =>
        have : T = I := by simpa using hI
        rw [← this, show 2 + (c + 1) - 0 = 3 + c by omega]
        exact m2.R e hnp
      | succ j =>
        have hI' : qa[j]? = some I := by simpa using hI
        have hj : j < c := by rw [← hq]; exact (List.getElem?_eq_some_iff.mp hI').1
        rw [show 2 + (c + 1) - (j + 1) = 2 + c - j by omega]
        exact (hms j I hI').X hnp fun a k hk => f2 a k (inH_ne hk (by omega))
  obtain ⟨m31, m32⟩ := m3
  unfold g_X11_keepNow
  simp only [gfI, pfI, jn]
  rw [m31]
  by_cases h20 : pa.length = 20
  · rw [if_pos (by rw [h20]; rfl), ← hN]
    obtain ⟨h1, e1, b1, f1, g1⟩ := r_keep_L (fun (h13 : HH) => bnd (g_X11_copies ((3 : Int32) + (wrI h13 255 44 (h13.1 255 44 - 1)).1 255 44) (0 : Int32) (wrI h13 255 44 (h13.1 255 44 - 1))) fun _ h6 => some ((), wrI h6 255 44 (h6.1 255 44 + (1 : Int32)))) hnp h20 19 1 N h rfl (by omega) (Nat.le_refl _)
      (fun i I hI _ => by have := m32 i I hI; rwa [h20, show 2 + 20 - i = 22 - i by omega] at this) (fun i I hI q1 q2 => by omega)
    have n44 : h1.1 255 44 = nI 20 := by rw [f1 255 44 (fun s _ _ => by unfold inH; omega), m31, h20]
    obtain ⟨h', e', m', f', g'⟩ := fin (wrI h1 255 44 (nI 19)) 19 (pa.take 19) (by decide) (by simp [List.length_take, h20]) (wrI_at _ _ _ _) (fun i I hI => by
        rw [List.getElem?_take] at hI
        by_cases hi : i < 19
        · rw [if_pos hi] at hI
          have := b1 i I hI (by omega)
          rw [show 2 + 19 - i = 21 - i by omega]
          exact this.X hnp fun a k hk => by rw [wrI_1, if_neg (by unfold inH at hk; omega)]
        · rw [if_neg hi] at hI; cases hI)
      ((ms.X (h' := h1) hnp fun a k hk => f1 a k fun s q1 q2 => inH_ne hk (by omega)).X hnp fun a k hk => by rw [wrI_1, if_neg (by unfold inH at hk; omega)])
    refine ⟨h', ?_, m', fun a k q1 q2 => (f' a k q1 q2).trans (by rw [wrI_1, if_neg q1]; exact f1 a k q2), g'.trans g1⟩
    refine Eq.trans e1 ?_
    have n19 : h1.1 255 44 - 1 = nI 19 := by rw [n44]; rfl
    rw [n19]
    exact e'
  · rw [if_neg (show ¬ nI pa.length = (20 : Int32) from fun q => h20 ((nI_eq (b := 20) (by omega) (by decide)).mp q))]
    have ht : pa.take 19 = pa := List.take_of_length_le (by omega)
    rw [ht]
    obtain ⟨h', e', m', f', g'⟩ := fin h pa.length pa (by omega) rfl m31 m32 ms
    refine ⟨h', ?_, m', f', g'⟩
    rw [m31] at e'
    exact e'
