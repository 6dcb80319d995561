/-! ways: class and reference go the same rounds -/
def okD (K : Nat) (d : Nat → Nat) : Prop := ∀ v, d v = 1099511627776 ∨ ∃ s m, d v = s * 1024 + m ∧ s ≤ 99 * m ∧ m ≤ K
theorem okD_le {K : Nat} {d : Nat → Nat} (h : okD K d) (hK : K ≤ 1000) (v : Nat) : d v ≤ 1099511627776 := by
  rcases h v with e | ⟨s, m, e, h1, h2⟩ <;> omega
theorem okD_r {K : Nat} {d : Nat → Nat} (h : okD K d) (hK : K + 1 ≤ 1000) (e : Eg) (hc : e.2.2 ≤ 99) : okD (K + 1) (rE d e) := by
  intro v
  unfold rE rlx
  split
  · rename_i q
    have h1 := okD_le h (by omega) e.2.1
    rcases h e.1 with z | ⟨s, m, z, h2, h3⟩
    · unfold wt at q; omega
    · exact Or.inr ⟨s + e.2.2, m + 1, by unfold wt; omega, by omega, by omega⟩
  · rcases h v with z | ⟨s, m, z, h2, h3⟩
    · exact Or.inl z
    · exact Or.inr ⟨s, m, z, h2, by omega⟩
theorem okD_f : ∀ (E : List Eg) {K : Nat} {d : Nat → Nat}, okD K d → (∀ e ∈ E, e.2.2 ≤ 99) → K + E.length ≤ 1000 → okD (K + E.length) (E.foldl rE d)
  | [], _, _, h, _, _ => h
  | e :: E, K, d, h, hc, hK => by
    have hl : (e :: E).length = E.length + 1 := rfl
    rw [hl] at hK ⊢
    have := okD_f E (okD_r h (by omega) e (hc e (by simp))) (fun x hx => hc x (List.mem_cons_of_mem _ hx)) (by omega)
    rw [show K + (E.length + 1) = K + 1 + E.length by omega]
    exact this
def wX (B : Nat) (h : HH) (d : Nat → Nat) (n : Nat) : Prop := ∀ v, v < n → (d v = 1099511627776 ∧ h.1 (B + 1) v = 2147483647) ∨ (d v < 1099511627776 ∧ h.1 (B + 1) v = nI (d v / 1024) ∧ h.1 (B + 2) v = nI (d v % 1024))
theorem wX.fr {B : Nat} {h h' : HH} {d : Nat → Nat} {n : Nat} (w : wX B h d n) (e1 : ∀ k, h'.1 (B + 1) k = h.1 (B + 1) k) (e2 : ∀ k, h'.1 (B + 2) k = h.1 (B + 2) k) : wX B h' d n := fun v hv => by
  rw [e1, e2]; exact w v hv
theorem x_move {B n K i j c : Nat} {h : HH} {d : Nat → Nat} (hB : shL[B]? = some (.inl 9)) (w : wX B h d n) (hn : n ≤ 7) (ok : okD K d) (hK : K ≤ 900) (hi : i < n) (hj : j < n) (hc : c ≤ 99) :
    ∃ h', g_X9_move B (nI i) (nI j) (nI c) h = some ((), h') ∧ wX B h' (rE d (i, j, c)) n ∧ (∀ a k, ¬ (a = B + 1 ∨ a = B + 2) → h'.1 a k = h.1 a k) ∧ h'.2 = h.2 := by
  have same : ¬ (d i + (c * 1024 + 1) < d j) → rE d (i, j, c) = d := fun q => by
    funext v
    unfold rE rlx
    rw [if_neg (fun z => q z.2)]
  have hj' := okD_le ok (by omega) j
  unfold g_X9_move
  rw [ckH_of hB, ldI_of (by omega) (by decide)]
  rcases w i hi with ⟨z, e⟩ | ⟨z, e, e2⟩
  · refine ⟨h, by rw [e, if_pos rfl], by rw [same (by omega)]; exact w, fun _ _ _ => rfl, rfl⟩
  obtain ⟨s, m, ds, s1, m1⟩ := (ok i).resolve_left (by omega)
  have q1 : d i / 1024 = s := by omega
  have q2 : d i % 1024 = m := by omega
  rw [q1] at e
  rw [q2] at e2
  rw [e, if_neg (show ¬ nI s = 2147483647 from fun q => by have := (nI_eq (b := 2147483647) (by omega) (by decide)).mp q; omega), ldI_of (by omega) (by decide), e]
  simp only [vl, jn]
  rw [nI_add, ldI_of (by omega) (by decide), e2, nI_1, ldI_of (by omega) (by decide)]
  have wr : d i + (c * 1024 + 1) < d j → ∃ h', (stI h (B + 1) 7 (nI j) (nI (s + c)) fun h10 => stI h10 (B + 2) 7 (nI j) (nI (m + 1)) fun h11 => some ((), h11)) = some ((), h') ∧ wX B h' (rE d (i, j, c)) n ∧ (∀ a k, ¬ (a = B + 1 ∨ a = B + 2) → h'.1 a k = h.1 a k) ∧ h'.2 = h.2 := by
    intro q
    refine ⟨wrI (wrI h (B + 1) j (nI (s + c))) (B + 2) j (nI (m + 1)), by rw [stI_of (by omega) (by decide), stI_of (by omega) (by decide)], fun v hv => ?_, fun a k z => by rw [wrI_1, if_neg (by omega), wrI_1, if_neg (by omega)], rfl⟩
    by_cases hvj : v = j
    · subst hvj
      have dv : rE d (i, v, c) v = d i + (c * 1024 + 1) := by unfold rE rlx; rw [if_pos ⟨rfl, q⟩]; rfl
      rw [dv]
      refine Or.inr ⟨by omega, ?_, ?_⟩
      · rw [wrI_1, if_neg (by omega), wrI_at]; congr 1; omega
      · rw [wrI_at]; congr 1; omega
    · have dv : rE d (i, j, c) v = d v := by unfold rE rlx; rw [if_neg (fun z => hvj z.1)]
      rw [dv, wrI_1, if_neg (by omega), wrI_1, if_neg (by omega), wrI_1, if_neg (by omega), wrI_1, if_neg (by omega)]
      exact w v hv
  have st : ¬ (d i + (c * 1024 + 1) < d j) → ∃ h', some ((), h) = some ((), h') ∧ wX B h' (rE d (i, j, c)) n ∧ (∀ a k, ¬ (a = B + 1 ∨ a = B + 2) → h'.1 a k = h.1 a k) ∧ h'.2 = h.2 := fun q => ⟨h, rfl, by rw [same q]; exact w, fun _ _ _ => rfl, rfl⟩
  rcases w j hj with ⟨y, f⟩ | ⟨y, f, f2⟩
  · rw [f, if_pos (show nI (s + c) < 2147483647 from nI_lt (b := 2147483647) (by omega) (by decide))]
    exact wr (by omega)
  obtain ⟨s', m', ds', s1', m1'⟩ := (ok j).resolve_left (by omega)
  have q1' : d j / 1024 = s' := by omega
  have q2' : d j % 1024 = m' := by omega
  rw [q1'] at f
  rw [q2'] at f2
  rw [f]
  by_cases k1 : s + c < s'
  · rw [if_pos (nI_lt k1 (by omega))]
    exact wr (by omega)
  · rw [if_neg (nI_nlt (by omega) (by omega)), ldI_of (by omega) (by decide), f]
    by_cases k2 : s + c = s'
    · rw [if_pos (by rw [k2]), ldI_of (by omega) (by decide), f2]
      by_cases k3 : m + 1 < m'
      · rw [if_pos (nI_lt k3 (by omega))]
        exact wr (by omega)
      · rw [if_neg (nI_nlt (by omega) (by omega))]
        exact st (by omega)
    · rw [if_neg (fun z => k2 ((nI_eq (by omega) (by omega)).mp z))]
      exact st (by omega)
def wM (hf : Nat) (h : HH) (d : Nat → Nat) (n : Nat) : Prop := ∀ v, v < n → (d v = 1099511627776 ∧ h.1 285 (7 * hf + v) = 999999) ∨ (d v < 1099511627776 ∧ h.1 285 (7 * hf + v) = nI (d v / 1024) ∧ h.1 286 (7 * hf + v) = nI (d v % 1024))
theorem wM.fr {B : Nat} {h h' : HH} {d : Nat → Nat} {n : Nat} (w : wM B h d n) (e : ∀ a k, (a = 285 ∨ a = 286) → 7 * B ≤ k → k < 7 * B + n → h'.1 a k = h.1 a k) : wM B h' d n := fun v hv => by
  rw [e 285 _ (Or.inl rfl) (by omega) (by omega), e 286 _ (Or.inr rfl) (by omega) (by omega)]; exact w v hv
theorem ix7 (s a : Nat) : (7 : Int32) * nI s + nI a = nI (7 * s + a) := by rw [show (7 : Int32) = nI 7 from rfl, nI_mul, nI_add]
theorem r_betters {B n K i j c : Nat} {h : HH} {d : Nat → Nat} (hB : B < 2) (w : wM B h d n) (hn : n ≤ 7) (ok : okD K d) (hK : K ≤ 900) (hi : i < n) (hj : j < n) (hc : c ≤ 99) :
    ∃ h', g_X11_betters (nI B) (nI i) (nI j) (nI c) h = some (if d i + wt (i, j, c) < d j then 1 else 0, h') ∧ wM B h' (rE d (i, j, c)) n ∧ (∀ a k, ¬ ((a = 285 ∨ a = 286) ∧ 7 * B ≤ k ∧ k < 7 * B + 7) → h'.1 a k = h.1 a k) ∧ h'.2 = h.2 := by
  have same : ¬ (d i + (c * 1024 + 1) < d j) → rE d (i, j, c) = d := fun q => by
    funext v
    unfold rE rlx
    rw [if_neg (fun z => q z.2)]
  have hj' := okD_le ok (by omega) j
  have ew : wt (i, j, c) = c * 1024 + 1 := rfl
  rw [ew]
  unfold g_X11_betters
  simp only [vl, jn]
  rw [ix7, ix7, ldI_of (by omega) (by decide)]
  have st : ¬ (d i + (c * 1024 + 1) < d j) → ∃ h', some ((0 : Int32), h) = some ((if d i + (c * 1024 + 1) < d j then 1 else 0), h') ∧ wM B h' (rE d (i, j, c)) n ∧ (∀ a k, ¬ ((a = 285 ∨ a = 286) ∧ 7 * B ≤ k ∧ k < 7 * B + 7) → h'.1 a k = h.1 a k) ∧ h'.2 = h.2 := fun q => ⟨h, by rw [if_neg q], by rw [same q]; exact w, fun _ _ _ => rfl, rfl⟩
  rcases w i hi with ⟨z, e⟩ | ⟨z, e, e2⟩
  · rw [e, if_pos rfl]
    exact st (by omega)
  obtain ⟨s, m, ds, s1, m1⟩ := (ok i).resolve_left (by omega)
  have q1 : d i / 1024 = s := by omega
  have q2 : d i % 1024 = m := by omega
  rw [q1] at e
  rw [q2] at e2
  rw [e, if_neg (show ¬ nI s = 999999 from fun q => by have := (nI_eq (b := 999999) (by omega) (by decide)).mp q; omega), ldI_of (by omega) (by decide), e, nI_add, ldI_of (by omega) (by decide)]
  have wr : d i + (c * 1024 + 1) < d j → ∃ h', (stI h 285 14 (nI (7 * B + j)) (nI (s + c)) fun h11 => ldI h11 286 14 (nI (7 * B + i)) fun v12 => stI h11 286 14 (nI (7 * B + j)) (v12 + (1 : Int32)) fun h13 => some ((1 : Int32), h13)) = some ((if d i + (c * 1024 + 1) < d j then 1 else 0), h') ∧ wM B h' (rE d (i, j, c)) n ∧ (∀ a k, ¬ ((a = 285 ∨ a = 286) ∧ 7 * B ≤ k ∧ k < 7 * B + 7) → h'.1 a k = h.1 a k) ∧ h'.2 = h.2 := by
    intro q
    refine ⟨wrI (wrI h 285 (7 * B + j) (nI (s + c))) 286 (7 * B + j) (nI (m + 1)), ?_, fun v hv => ?_, fun a k z => by rw [wrI_1, if_neg (by omega), wrI_1, if_neg (by omega)], rfl⟩
    · rw [if_pos q, stI_of (by omega) (by decide), ldI_of (by omega) (by decide), wrI_1, if_neg (by omega), e2, nI_1, stI_of (by omega) (by decide)]
    by_cases hvj : v = j
    · subst hvj
      have dv : rE d (i, v, c) v = d i + (c * 1024 + 1) := by unfold rE rlx; rw [if_pos ⟨rfl, q⟩]; rfl
      rw [dv]
      refine Or.inr ⟨by omega, ?_, ?_⟩
      · rw [wrI_1, if_neg (by omega), wrI_at]; congr 1; omega
      · rw [wrI_at]; congr 1; omega
    · have dv : rE d (i, j, c) v = d v := by unfold rE rlx; rw [if_neg (fun z => hvj z.1)]
      rw [dv, wrI_1, if_neg (by omega), wrI_1, if_neg (by omega), wrI_1, if_neg (by omega), wrI_1, if_neg (by omega)]
      exact w v hv
  rcases w j hj with ⟨y, f⟩ | ⟨y, f, f2⟩
  · rw [f, if_neg (show ¬ 999999 < nI (s + c) from nI_nlt (a := 999999) (by omega) (by decide)), ldI_of (by omega) (by decide), f, if_neg (show ¬ nI (s + c) = 999999 from fun q => by have := (nI_eq (b := 999999) (by omega) (by decide)).mp q; omega)]
    exact wr (by omega)
  obtain ⟨s', m', ds', s1', m1'⟩ := (ok j).resolve_left (by omega)
  have q1' : d j / 1024 = s' := by omega
  have q2' : d j % 1024 = m' := by omega
  rw [q1'] at f
  rw [q2'] at f2
  rw [f]
  by_cases k1 : s' < s + c
  · rw [if_pos (nI_lt k1 (by omega))]
    exact st (by omega)
  · rw [if_neg (nI_nlt (by omega) (by omega)), ldI_of (by omega) (by decide), f]
    by_cases k2 : s + c = s'
    · rw [if_pos (by rw [k2]), ldI_of (by omega) (by decide), e2, nI_1, ldI_of (by omega) (by decide), f2]
      by_cases k3 : m + 1 < m'
      · rw [if_pos (nI_lt k3 (by omega))]
        exact wr (by omega)
      · rw [if_neg (nI_nlt (by omega) (by omega))]
        exact st (by omega)
    · rw [if_neg (fun z => k2 ((nI_eq (by omega) (by omega)).mp z))]
      exact wr (by omega)
/-! all edges -/
def eF (up : Nat → Option Nat) (f : Nat) : List Eg := (match up f with | none => [] | some c => [(f, f + 1, c)]) ++ [(f + 1, f, 0)]
def eFs (up : Nat → Option Nat) : Nat → Nat → List Eg
  | 0, _ => []
  | m + 1, f => eF up f ++ eFs up m (f + 1)
def eL (P : TB) (l : Nat) : List Eg := [((P 4 l).toNatClampNeg, (P 5 l).toNatClampNeg, (P 6 l).toNatClampNeg), ((P 5 l).toNatClampNeg, (P 4 l).toNatClampNeg, (P 6 l).toNatClampNeg)]
def eLs (P : TB) : Nat → Nat → List Eg
  | 0, _ => []
  | m + 1, l => eL P l ++ eLs P m (l + 1)
def aE' (up : Nat → Option Nat) (P : TB) (nf nl : Nat) : List Eg := eFs up nf 0 ++ eLs P nl 0
theorem eF_ok {up : Nat → Option Nat} {f n : Nat} (hu : ∀ g c, up g = some c → c ≤ 99) (hf : f + 1 < n) : (eF up f).length ≤ 2 ∧ ∀ e ∈ eF up f, e.1 < n ∧ e.2.1 < n ∧ e.2.2 ≤ 99 := by
  unfold eF
  cases hc : up f with
  | none =>
    refine ⟨by simp, fun e he => ?_⟩
    simp only [List.nil_append, List.mem_singleton] at he
    subst he
    exact ⟨hf, by show f < n; omega, Nat.zero_le _⟩
  | some c =>
    refine ⟨by simp, fun e he => ?_⟩
    simp only [List.cons_append, List.nil_append, List.mem_cons, List.not_mem_nil, or_false] at he
    rcases he with rfl | rfl
    · exact ⟨by show f < n; omega, hf, hu f c hc⟩
    · exact ⟨hf, by show f < n; omega, Nat.zero_le _⟩
theorem eFs_ok {up : Nat → Option Nat} {n : Nat} (hu : ∀ g c, up g = some c → c ≤ 99) : ∀ (m f : Nat), f + m < n → (eFs up m f).length ≤ 2 * m ∧ ∀ e ∈ eFs up m f, e.1 < n ∧ e.2.1 < n ∧ e.2.2 ≤ 99
  | 0, _, _ => ⟨Nat.le_refl _, fun _ h => by cases h⟩
  | m + 1, f, h => by
    obtain ⟨h1, h2⟩ := eF_ok (f := f) (n := n) hu (by omega)
    obtain ⟨h3, h4⟩ := eFs_ok (n := n) hu m (f + 1) (by omega)
    unfold eFs
    refine ⟨by rw [List.length_append]; omega, fun e he => ?_⟩
    rcases List.mem_append.mp he with he | he
    · exact h2 e he
    · exact h4 e he
theorem ld_ok {P : TB} {nf np nl ng l : Nat} (w : PW P nf np nl ng) (hl : l < nl) : P 4 l = nI (P 4 l).toNatClampNeg ∧ P 5 l = nI (P 5 l).toNatClampNeg ∧ P 6 l = nI (P 6 l).toNatClampNeg ∧ (P 4 l).toNatClampNeg ≤ nf ∧ (P 5 l).toNatClampNeg ≤ nf ∧ (P 6 l).toNatClampNeg ≤ 99 := by
  have hnf := w.1.1
  obtain ⟨i, j, hi, hj, e1, e2⟩ := w.1.2.2.2.2.2.2.2 l hl
  obtain ⟨u, u1, u2⟩ := w.2.2.2.2.2.2.2.1 l hl
  have c1 : (P 4 l).toNatClampNeg = i := by rw [e1]; exact nI_clamp (by omega)
  have c2 : (P 5 l).toNatClampNeg = j := by rw [e2]; exact nI_clamp (by omega)
  have c3 : (P 6 l).toNatClampNeg = u := by rw [u2]; exact nI_clamp (by omega)
  rw [c1, c2, c3]
  exact ⟨e1, e2, u2, hi, hj, u1⟩
theorem eLs_ok {P : TB} {nf np nl ng : Nat} (w : PW P nf np nl ng) : ∀ (m l : Nat), l + m ≤ nl → (eLs P m l).length = 2 * m ∧ ∀ e ∈ eLs P m l, e.1 < nf + 1 ∧ e.2.1 < nf + 1 ∧ e.2.2 ≤ 99
  | 0, _, _ => ⟨rfl, fun _ h => by cases h⟩
  | m + 1, l, h => by
    obtain ⟨h3, h4⟩ := eLs_ok w m (l + 1) (by omega)
    obtain ⟨-, -, -, q4, q5, q6⟩ := ld_ok w (l := l) (by omega)
    unfold eLs
    refine ⟨by rw [List.length_append, h3]; show 2 + 2 * m = _; omega, fun e he => ?_⟩
    rcases List.mem_append.mp he with he | he
    · unfold eL at he
      simp only [List.mem_cons, List.not_mem_nil, or_false] at he
      rcases he with rfl | rfl
      · exact ⟨by show (P 4 l).toNatClampNeg < _; omega, by show (P 5 l).toNatClampNeg < _; omega, q6⟩
      · exact ⟨by show (P 5 l).toNatClampNeg < _; omega, by show (P 4 l).toNatClampNeg < _; omega, q6⟩
    · exact h4 e he
theorem aE_ok {P : TB} {nf np nl ng : Nat} (w : PW P nf np nl ng) {up : Nat → Option Nat} (hu : ∀ g c, up g = some c → c ≤ 99) : (aE' up P nf nl).length ≤ 24 ∧ ∀ e ∈ aE' up P nf nl, e.1 < nf + 1 ∧ e.2.1 < nf + 1 ∧ e.2.2 ≤ 99 := by
  have hnf := w.1.1
  have hnl := w.1.2.2.1
  obtain ⟨h1, h2⟩ := eFs_ok (n := nf + 1) hu nf 0 (by omega)
  obtain ⟨h3, h4⟩ := eLs_ok w nl 0 (by omega)
  unfold aE'
  refine ⟨by rw [List.length_append]; omega, fun e he => ?_⟩
  rcases List.mem_append.mp he with he | he
  · exact h2 e he
  · exact h4 e he
theorem okD_it {P : TB} {nf np nl ng : Nat} (w : PW P nf np nl ng) {up : Nat → Option Nat} (hu : ∀ g c, up g = some c → c ≤ 99) {d : Nat → Nat} (h : okD 0 d) : ∀ k, k ≤ 10 → okD (24 * k) (itR (aE' up P nf nl) k d)
  | 0, _ => h
  | k + 1, hk => by
    obtain ⟨a1, a2⟩ := aE_ok w hu
    have h1 := okD_it w hu h k (by omega)
    have h2 := okD_f (aE' up P nf nl) h1 (fun e he => (a2 e he).2.2) (by omega)
    intro v
    rcases h2 v with z | ⟨s, m, z, q1, q2⟩
    · exact Or.inl z
    · exact Or.inr ⟨s, m, z, q1, by omega⟩
/-- what a flight up costs -/
def upc (P S : TB) (fo : Nat → Int32) (np a f : Nat) : Option Nat := if fo a < stA P S fo np a f 0 ∨ lwA P S fo np 2 a f 0 = 0 then none else some (mxI 0 (stA P S fo np a f 0)).toNatClampNeg
def upV (o : Option Nat) : Int32 := match o with
  | none => -1
  | some c => nI c
theorem upc_ok {P S : TB} {fo : Nat → Int32} {np a f u : Nat} (hu : u ≤ 99) (hf : fo a = nI u) : upV (upc P S fo np a f) = (if fo a < stA P S fo np a f 0 ∨ lwA P S fo np 2 a f 0 = 0 then -1 else mxI 0 (stA P S fo np a f 0)) ∧ ∀ c, upc P S fo np a f = some c → c ≤ 99 := by
  unfold upc
  by_cases q : fo a < stA P S fo np a f 0 ∨ lwA P S fo np 2 a f 0 = 0
  · rw [if_pos q, if_pos q]
    exact ⟨rfl, fun c h => by cases h⟩
  · rw [if_neg q, if_neg q]
    have q1 : ¬ fo a < stA P S fo np a f 0 := fun z => q (Or.inl z)
    generalize stA P S fo np a f 0 = x at q1 ⊢
    rw [hf, Int32.lt_iff_toInt_lt, nI_toInt (by omega)] at q1
    have e := mx_int 0 x
    have e0 : (0 : Int32).toInt = 0 := by decide
    rw [e0] at e
    have n0 : ¬ mxI 0 x < 0 := fun z => by rw [Int32.lt_iff_toInt_lt, e0] at z; omega
    obtain ⟨c, hc, ec⟩ := nI_of n0
    rw [ec, nI_toInt (by omega)] at e
    rw [ec, nI_clamp hc]
    exact ⟨rfl, fun c' h => by cases h; omega⟩
theorem x_costUp {h : HH} {p q z np md : Nat} {P S : TB} {fo : Nat → Int32} (c : cAt h p q z P S fo np md) {a f : Nat} (ha : a < 6) (hf : f < 6) : ∃ h', scQ q h h' ∧ cAt h' p q z P S fo np md ∧ g_X0_costUp (nI a) (nI f) h = some (if fo a < stA P S fo np a f 0 ∨ lwA P S fo np 2 a f 0 = 0 then -1 else mxI 0 (stA P S fo np a f 0), h') := by
  obtain ⟨h1, s1, k1, e1⟩ := c.st ha hf 0
  have z1 : ∀ x, h1.1 z x = fo x := fun x => by rw [k1.2.2.2.2.2.2.2.2.1]
  unfold g_X0_costUp
  rw [show g_X0_steepOf (nI a) (nI f) 0 h = _ from e1, bnd_some]
  simp only [gfR]
  rw [k1.2.2.1, ckH_of k1.2.2.2.2.2.1, ldI_of ha (by decide), z1]
  by_cases t1 : fo a < stA P S fo np a f 0
  · exact ⟨h1, s1, k1, by rw [if_pos t1, if_pos (Or.inl t1)]⟩
  obtain ⟨h2, s2, k2, e2⟩ := k1.va (r := 2) (by decide) ha hf 0
  refine ⟨h2, s1.tr s2, k2, ?_⟩
  rw [if_neg t1, show g_X0_valueOf 2 (nI a) (nI f) 0 h1 = _ from e2, bnd_some]
  by_cases t2 : lwA P S fo np 2 a f 0 = 0
  · rw [if_pos (by rw [lc_eq]; exact t2), if_pos (Or.inr t2)]
  · rw [if_neg (show ¬ lg_cmp (lwA P S fo np 2 a f 0) 0 = 0 by rw [lc_eq]; exact t2), if_neg (by simp [t1, t2])]
/-! the class's rounds -/
section WX
variable {B p nf np nl ng : Nat} {P : TB} {up : Nat → Option Nat}
theorem x_rF (hB : shL[B]? = some (.inl 9)) (hnf : nf ≤ 6) (hu : ∀ g c, up g = some c → c ≤ 99) (K : HH → Option (Unit × HH)) (c4 : Int32) (hp : p < B) : ∀ (m f n k : Nat) (d : Nat → Nat) (h : HH), f + m = nf → m < n → wX B h d (nf + 1) → okD k d → k + 2 * m ≤ 900 → (∀ g, g < nf → h.1 (B + 3) g = upV (up g)) → h.1 p 0 = nI nf →
    ∃ h', g_X9_seek_L84 K B p c4 n (nI f) h = K h' ∧ wX B h' ((eFs up m f).foldl rE d) (nf + 1) ∧ (∀ a k, ¬ (a = B + 1 ∨ a = B + 2) → h'.1 a k = h.1 a k) ∧ h'.2 = h.2 := by
  intro m
  induction m with
  | zero =>
    intro f n k d h hf hn w ok hk hup hp0
    obtain ⟨n, rfl⟩ : ∃ n', n = n' + 1 := ⟨n - 1, by omega⟩
    refine ⟨h, ?_, w, fun _ _ _ => rfl, rfl⟩
    rw [g_X9_seek_L84]
    simp only [gfI]
    rw [hp0, if_neg (nI_nlt (by omega) (by omega))]
  | succ m ih =>
    intro f n k d h hf hn w ok hk hup hp0
    obtain ⟨n, rfl⟩ : ∃ n', n = n' + 1 := ⟨n - 1, by omega⟩
    -- the flight up
    obtain ⟨h1, d1, e1, w1, ok1, f1, g1, x1⟩ : ∃ (h1 : HH) (d1 : Nat → Nat), (∀ X : HH → Option (Unit × HH), (if upV (up f) = (-1 : Int32) then X h else ldI h (B + 3) 6 (nI f) fun v24 => bnd (g_X9_move B (nI f) (nI (f + 1)) v24 h) fun _ h25 => X h25) = X h1) ∧ wX B h1 d1 (nf + 1) ∧ okD (k + 1) d1 ∧ (∀ a k, ¬ (a = B + 1 ∨ a = B + 2) → h1.1 a k = h.1 a k) ∧ h1.2 = h.2 ∧ (eF up f).foldl rE d = rE d1 (f + 1, f, 0) := by
      unfold eF
      cases hc : up f with
      | none =>
        refine ⟨h, d, fun X => by rw [if_pos (show upV none = (-1 : Int32) from rfl)], w, fun v => ?_, fun _ _ _ => rfl, rfl, rfl⟩
        rcases ok v with z | ⟨s, m, z, q1, q2⟩
        · exact Or.inl z
        · exact Or.inr ⟨s, m, z, q1, by omega⟩
      | some c =>
        have hc9 := hu f c hc
        obtain ⟨h1, e1, w1, f1, g1⟩ := x_move hB w (by omega) ok (by omega) (i := f) (j := f + 1) (c := c) (by omega) (by omega) hc9
        refine ⟨h1, rE d (f, f + 1, c), fun X => ?_, w1, okD_r ok (by omega) (f, f + 1, c) hc9, f1, g1, rfl⟩
        rw [if_neg (show ¬ upV (some c) = (-1 : Int32) from m1_ne c (by omega)), ldI_of (by omega) (by decide), hup f (by omega), hc]
        show (bnd (g_X9_move B (nI f) (nI (f + 1)) (nI c) h) fun _ h25 => X h25) = X h1
        rw [e1, bnd_some]
    obtain ⟨h2, e2, w2, f2, g2⟩ := x_move hB w1 (by omega) ok1 (by omega) (i := f + 1) (j := f) (c := 0) (by omega) (by omega) (by decide)
    have ok2 := okD_r ok1 (by omega) (f + 1, f, 0) (Nat.zero_le _)
    obtain ⟨h3, e3, w3, f3, g3⟩ := ih (f + 1) n (k + 1 + 1) _ h2 (by omega) (by omega) w2 ok2 (by omega) (fun g hg => by rw [f2 _ _ (by omega), f1 _ _ (by omega)]; exact hup g hg) (by rw [f2 _ _ (by omega), f1 _ _ (by omega)]; exact hp0)
    refine ⟨h3, ?_, ?_, fun a k q => by rw [f3 a k q, f2 a k q, f1 a k q], by rw [g3, g2, g1]⟩
    · rw [← e3, g_X9_seek_L84]
      simp only [gfI, jn, vl, nI_1]
      rw [hp0, if_pos (nI_lt (by omega) (by omega)), ldI_of (by omega) (by decide), hup f (by omega)]
      refine (e1 (fun h20 => bnd (g_X9_move B (nI (f + 1)) (nI f) (0 : Int32) h20) fun _ h21 => g_X9_seek_L84 K B p c4 n (nI (f + 1)) h21)).trans ?_
      rw [show g_X9_move B (nI (f + 1)) (nI f) 0 h1 = _ from e2, bnd_some]
    · unfold eFs
      rw [List.foldl_append, x1]
      exact w3
theorem x_rL (hB : shL[B]? = some (.inl 9)) (hBb : p + 22 ≤ B) (w0 : PW P nf np nl ng) (K : HH → Option (Unit × HH)) (c4 : Int32) : ∀ (m l n k : Nat) (d : Nat → Nat) (h : HH), l + m = nl → m < n → wX B h d (nf + 1) → okD k d → k + 2 * m ≤ 900 → CP h p P →
    ∃ h', g_X9_seek_L141 K B p c4 n (nI l) h = K h' ∧ wX B h' ((eLs P m l).foldl rE d) (nf + 1) ∧ (∀ a k, ¬ (a = B + 1 ∨ a = B + 2) → h'.1 a k = h.1 a k) ∧ h'.2 = h.2 := by
  have hnf := w0.1.1
  have hnl := w0.1.2.2.1
  intro m
  induction m with
  | zero =>
    intro l n k d h hf hn w ok hk cp
    obtain ⟨n, rfl⟩ : ∃ n', n = n' + 1 := ⟨n - 1, by omega⟩
    refine ⟨h, ?_, w, fun _ _ _ => rfl, rfl⟩
    rw [g_X9_seek_L141]
    simp only [gfI]
    rw [show h.1 p 5 = nI nl from (cp 0 5 (by decide)).trans w0.2.2.2.1, if_neg (nI_nlt (by omega) (by omega))]
  | succ m ih =>
    intro l n k d h hf hn w ok hk cp
    obtain ⟨n, rfl⟩ : ∃ n', n = n' + 1 := ⟨n - 1, by omega⟩
    obtain ⟨q1, q2, q3, q4, q5, q6⟩ := ld_ok w0 (l := l) (by omega)
    obtain ⟨h1, e1, w1, f1, g1⟩ := x_move hB w (by omega) ok (by omega) (i := (P 4 l).toNatClampNeg) (j := (P 5 l).toNatClampNeg) (c := (P 6 l).toNatClampNeg) (by omega) (by omega) q6
    have ok1 := okD_r ok (by omega) ((P 4 l).toNatClampNeg, (P 5 l).toNatClampNeg, (P 6 l).toNatClampNeg) q6
    obtain ⟨h2, e2, w2, f2, g2⟩ := x_move hB w1 (by omega) ok1 (by omega) (i := (P 5 l).toNatClampNeg) (j := (P 4 l).toNatClampNeg) (c := (P 6 l).toNatClampNeg) (by omega) (by omega) q6
    have ok2 := okD_r ok1 (by omega) ((P 5 l).toNatClampNeg, (P 4 l).toNatClampNeg, (P 6 l).toNatClampNeg) q6
    rw [← q1, ← q2, ← q3] at e1 e2
    have cp1 : CP h1 p P := fun o x ho => by rw [f1 _ _ (by omega)]; exact cp o x ho
    have cp2 : CP h2 p P := fun o x ho => by rw [f2 _ _ (by omega)]; exact cp1 o x ho
    obtain ⟨h3, e3, w3, f3, g3⟩ := ih (l + 1) n (k + 1 + 1) _ h2 (by omega) (by omega) w2 ok2 (by omega) cp2
    refine ⟨h3, ?_, w3, fun a k q => by rw [f3 a k q, f2 a k q, f1 a k q], by rw [g3, g2, g1]⟩
    rw [← e3, g_X9_seek_L141]
    simp only [gfI, vl, nI_1]
    rw [show h.1 p 5 = nI nl from (cp 0 5 (by decide)).trans w0.2.2.2.1, if_pos (nI_lt (by omega) (by omega)), ldI_of (by omega) (by decide), cp 4 l (by decide), ldI_of (by omega) (by decide), cp 5 l (by decide), ldI_of (by omega) (by decide), cp 6 l (by decide), e1, bnd_some, ldI_of (by omega) (by decide), cp1 5 l (by decide), ldI_of (by omega) (by decide), cp1 4 l (by decide), ldI_of (by omega) (by decide), cp1 6 l (by decide), e2, bnd_some]
theorem x_rounds (hB : shL[B]? = some (.inl 9)) (hBb : p + 22 ≤ B) (w0 : PW P nf np nl ng) (hu : ∀ g c, up g = some c → c ≤ 99) (d0 : Nat → Nat) (ok0 : okD 0 d0) : ∀ (m k n : Nat) (h : HH), k + m = nf → m < n → wX B h (itR (aE' up P nf nl) k d0) (nf + 1) → (∀ g, g < nf → h.1 (B + 3) g = upV (up g)) → CP h p P →
    ∃ h', g_X9_seek_L72 B p n (nI k) h = some ((), h') ∧ wX B h' (itR (aE' up P nf nl) nf d0) (nf + 1) ∧ (∀ a k, ¬ (a = B + 1 ∨ a = B + 2) → h'.1 a k = h.1 a k) ∧ h'.2 = h.2 := by
  have hnf := w0.1.1
  have hnl := w0.1.2.2.1
  obtain ⟨N, hN⟩ : ∃ N : Nat, N = 1024 := ⟨_, rfl⟩
  intro m
  induction m with
  | zero =>
    intro k n h hk hn w hup cp
    obtain ⟨n, rfl⟩ : ∃ n', n = n' + 1 := ⟨n - 1, by omega⟩
    obtain rfl : k = nf := by omega
    refine ⟨h, ?_, w, fun _ _ _ => rfl, rfl⟩
    rw [g_X9_seek_L72]
    simp only [gfI]
    rw [show h.1 p 0 = nI k from (cp 0 0 (by decide)).trans w0.1.2.2.2.2.2.1, if_neg (nI_nlt (Nat.le_refl _) (by omega))]
  | succ m ih =>
    intro k n h hk hn w hup cp
    obtain ⟨n, rfl⟩ : ∃ n', n = n' + 1 := ⟨n - 1, by omega⟩
    have e0 : h.1 p 0 = nI nf := (cp 0 0 (by decide)).trans w0.1.2.2.2.2.2.1
    have okk := okD_it w0 hu ok0 k (by omega)
    obtain ⟨a1, a2⟩ := eFs_ok (n := nf + 1) hu nf 0 (by omega)
    obtain ⟨h1, e1, w1, f1, g1⟩ := x_rF hB hnf hu (fun (h27 : HH) => g_X9_seek_L141 (fun (h40 : HH) => g_X9_seek_L72 B p n (nI (k + 1)) h40) B p (nI k) N 0 h27) (nI k) (by omega) nf 0 N (24 * k) _ h (by omega) (by omega) w okk (by omega) hup e0
    have ok1 := okD_f (eFs up nf 0) okk (fun e he => (a2 e he).2.2) (by omega)
    have cp1 : CP h1 p P := fun o x ho => by rw [f1 _ _ (by omega)]; exact cp o x ho
    obtain ⟨h2, e2, w2, f2, g2⟩ := x_rL hB hBb w0 (fun (h40 : HH) => g_X9_seek_L72 B p n (nI (k + 1)) h40) (nI k) nl 0 N _ _ h1 (by omega) (by omega) w1 ok1 (by omega) cp1
    have cp2 : CP h2 p P := fun o x ho => by rw [f2 _ _ (by omega)]; exact cp1 o x ho
    rw [← List.foldl_append] at w2
    obtain ⟨h3, e3, w3, f3, g3⟩ := ih (k + 1) n h2 (by omega) (by omega) w2 (fun g hg => by rw [f2 _ _ (by omega), f1 _ _ (by omega)]; exact hup g hg) cp2
    refine ⟨h3, ?_, w3, fun a k q => by rw [f3 a k q, f2 a k q, f1 a k q], by rw [g3, g2, g1]⟩
    rw [← e3, g_X9_seek_L72, ← hN]
    simp only [gfI, vl, nI_1]
    rw [e0, if_pos (nI_lt (by omega) (by omega))]
    exact e1.trans e2
end WX
theorem cAt.fr {h h' : HH} {p q z np md : Nat} {P S : TB} {fo : Nat → Int32} (c : cAt h p q z P S fo np md) (e : ∀ a k, a < 247 → h'.1 a k = h.1 a k) (e2 : h'.2.2 = h.2.2) : cAt h' p q z P S fo np md := by
  obtain ⟨c1, c2, c3, c4, c5, c6, c7, c8, c9, c10, c11, c12, c13, c14, c15, c16, c17⟩ := c
  refine ⟨by rw [e2]; exact c1, by rw [e2]; exact c2, by rw [e2]; exact c3, c4, c5, c6, fun o k ho => (e _ _ (by omega)).trans (c7 o k ho), fun o k ho => (e _ _ (by omega)).trans (c8 o k ho), ?_, c10, c11, c12, (e _ _ (by omega)).trans c13, c14, c15, c16, c17⟩
  rw [← c9]
  exact funext fun k => e _ _ (by omega)
def d0A (fl : Nat) : Nat → Nat := fun v => if v = fl then 0 else 1099511627776
theorem d0_ok (fl : Nat) : okD 0 (d0A fl) := fun v => by
  unfold d0A
  split
  · exact Or.inr ⟨0, 0, rfl, Nat.zero_le _, Nat.le_refl _⟩
  · exact Or.inl rfl
theorem x_ups {B p z np nf nl ng u : Nat} {P S : TB} {fo : Nat → Int32} (hB : B = 247 ∨ B = 251) (w0 : PW P nf np nl ng) {a : Nat} (ha : a < np) (hu : u ≤ 99) (hfo : fo a = nI u) (K : HH → Option (Unit × HH)) : ∀ (m f n : Nat) (h : HH), f + m = nf → m < n → cAt h p 52 z P S fo np 2 → (∀ g, g < f → h.1 (B + 3) g = upV (upc P S fo np a g)) →
    ∃ h', g_X9_seek_L40 K B (nI a) p n (nI f) h = K h' ∧ cAt h' p 52 z P S fo np 2 ∧ (∀ g, g < nf → h'.1 (B + 3) g = upV (upc P S fo np a g)) ∧ (∀ x k, x ≠ B + 3 → h'.1 x k = h.1 x k) ∧ h'.2.2 = h.2.2 := by
  have hnf := w0.1.1
  have hnp := w0.1.2.1
  intro m
  induction m with
  | zero =>
    intro f n h hf hn c hup
    obtain ⟨n, rfl⟩ : ∃ n', n = n' + 1 := ⟨n - 1, by omega⟩
    obtain rfl : f = nf := by omega
    refine ⟨h, ?_, c, hup, fun _ _ _ => rfl, rfl⟩
    rw [g_X9_seek_L40]
    simp only [gfI]
    rw [show h.1 p 0 = nI f from (c.2.2.2.2.2.2.1 0 0 (by decide)).trans w0.1.2.2.2.2.2.1, if_neg (nI_nlt (Nat.le_refl _) (by omega))]
  | succ m ih =>
    intro f n h hf hn c hup
    obtain ⟨n, rfl⟩ : ∃ n', n = n' + 1 := ⟨n - 1, by omega⟩
    obtain ⟨h1, s1, k1, e1⟩ := x_costUp c (a := a) (f := f) (by omega) (by omega)
    rw [← (upc_ok (P := P) (S := S) (np := np) (f := f) hu hfo).1] at e1
    have fr1 := c.A s1 k1
    have c2 : cAt (wrI h1 (B + 3) f (upV (upc P S fo np a f))) p 52 z P S fo np 2 := k1.fr (fun a k q => by rw [wrI_1, if_neg (by omega)]) rfl
    obtain ⟨h3, e3, c3, u3, f3, g3⟩ := ih (f + 1) n _ (by omega) (by omega) c2 (fun g hg => by
      rw [wrI_1]
      by_cases q : g = f
      · rw [if_pos ⟨rfl, q⟩, q]
      · rw [if_neg (fun z => q z.2), fr1]; exact hup g (by omega))
    refine ⟨h3, ?_, c3, u3, fun x k q => by rw [f3 x k q, wrI_1, if_neg (fun z => q z.1), fr1], by rw [g3]; exact s1.2.2⟩
    rw [← e3, g_X9_seek_L40]
    simp only [gfI, vl, nI_1]
    rw [show h.1 p 0 = nI nf from (c.2.2.2.2.2.2.1 0 0 (by decide)).trans w0.1.2.2.2.2.2.1, if_pos (nI_lt (by omega) (by omega)), e1, bnd_some, stI_of (by omega) (by decide)]
theorem x_seek {B p np nf nl ng : Nat} {P S : TB} (hB : B = 247 ∨ B = 251) (w0 : PW P nf np nl ng) {h : HH} (c : cAt h p 52 (p + 3) P S (P 3) np 2) {a fl : Nat} (ha : a < np) (hfl : S 1 a = nI fl) (hf : fl ≤ nf) :
    ∃ h', g_X9_seek B (nI a) h = some ((), h') ∧ cAt h' p 52 (p + 3) P S (P 3) np 2 ∧ wX B h' (itR (aE' (upc P S (P 3) np a) P nf nl) nf (d0A fl)) (nf + 1) ∧ (∀ x k, ¬ (B + 1 ≤ x ∧ x ≤ B + 3) → h'.1 x k = h.1 x k) ∧ h'.2.2 = h.2.2 := by
  have hnf := w0.1.1
  have hnp := w0.1.2.1
  obtain ⟨u, u1, u2⟩ := w0.2.2.2.2.2.1 a ha
  have sB : shL[B]? = some (.inl 9) := by rcases hB with rfl | rfl; exact sh_247; exact sh_251
  have sB1 : shL[B + 1]? = some (.inr (0, 7, 0)) := by rcases hB with rfl | rfl; exact sh_248; exact sh_252
  have sB2 : shL[B + 2]? = some (.inr (0, 7, 0)) := by rcases hB with rfl | rfl; exact sh_249; exact sh_253
  have hp : p = 2 ∨ p = 30 := c.2.2.2.2.2.2.2.2.2.2.2.2.2.2.1
  obtain ⟨h1, e1, y1, f1, g1⟩ := x_fill sB1 (by decide) 2147483647 h
  obtain ⟨h2, e2, y2, f2, g2⟩ := x_fill sB2 (by decide) 0 h1
  have fr2 : ∀ x k, ¬ (B + 1 ≤ x ∧ x ≤ B + 3) → h2.1 x k = h.1 x k := fun x k q => by rw [f2 x k (by omega), f1 x k (by omega)]
  have c2 : cAt h2 p 52 (p + 3) P S (P 3) np 2 := c.fr (fun x k q => fr2 x k (by omega)) (by rw [g2, g1])
  obtain ⟨h3, eh3⟩ : ∃ h3, h3 = wrI h2 (B + 1) fl 0 := ⟨_, rfl⟩
  have fr3 : ∀ x k, ¬ (B + 1 ≤ x ∧ x ≤ B + 3) → h3.1 x k = h.1 x k := fun x k q => by rw [eh3, wrI_1, if_neg (by omega)]; exact fr2 x k q
  have c3 : cAt h3 p 52 (p + 3) P S (P 3) np 2 := c2.fr (fun x k q => by rw [eh3, wrI_1, if_neg (by omega)]) (by rw [eh3]; rfl)
  obtain ⟨N, hN⟩ : ∃ N : Nat, N = 1024 := ⟨_, rfl⟩
  obtain ⟨h4, e4, c4, u4, f4, g4⟩ := x_ups hB w0 ha u1 u2 (fun (h14 : HH) => g_X9_seek_L72 B p N (0 : Int32) h14) nf 0 N h3 (by omega) (by omega) c3 (fun g hg => absurd hg (by omega))
  have w4 : wX B h4 (itR (aE' (upc P S (P 3) np a) P nf nl) 0 (d0A fl)) (nf + 1) := fun v hv => by
    show (d0A fl v = 1099511627776 ∧ h4.1 (B + 1) v = 2147483647) ∨ (d0A fl v < 1099511627776 ∧ h4.1 (B + 1) v = nI (d0A fl v / 1024) ∧ h4.1 (B + 2) v = nI (d0A fl v % 1024))
    have z2 : h4.1 (B + 2) v = 0 := by
      rw [f4 _ _ (by omega), eh3, wrI_1, if_neg (by omega)]
      exact y2 v (by omega)
    have z1 : h4.1 (B + 1) v = (wrI h2 (B + 1) fl 0).1 (B + 1) v := by rw [f4 _ _ (by omega), eh3]
    by_cases q : v = fl
    · have dv : d0A fl v = 0 := if_pos q
      rw [dv, z1, z2, q, wrI_at]
      exact Or.inr ⟨by decide, rfl, rfl⟩
    · have dv : d0A fl v = 1099511627776 := if_neg q
      refine Or.inl ⟨dv, ?_⟩
      rw [z1, wrI_1, if_neg (fun z => q z.2), f2 _ _ (by omega)]
      exact y1 v (by omega)
  obtain ⟨h5, e5, w5, f5, g5⟩ := x_rounds sB (by omega) w0 (fun g cc hg => (upc_ok (f := g) u1 u2).2 cc hg) (d0A fl) (d0_ok fl) nf 0 N h4 (by omega) (by omega) w4 u4 c4.2.2.2.2.2.2.1
  refine ⟨h5, ?_, c4.fr (fun x k q => f5 x k (by omega)) (by rw [g5]), w5, fun x k q => by rw [f5 x k (by omega), f4 x k (by omega), fr3 x k q], by rw [g5, g4, eh3, wrI_2, g2, g1]⟩
  unfold g_X9_seek
  simp only [gfR]
  rw [ckH_of sB, c.1, ckH_of c.2.2.2.1, e1, bnd_some, e2, bnd_some, c2.2.1, ckH_of sh_52, ldI_of (by omega) (by decide), show h2.1 (52 + 1) a = nI fl from (c2.2.2.2.2.2.2.2.1 1 a (by decide)).trans hfl, stI_of (by omega) (by decide), ← eh3, ← hN]
  exact e4.trans e5
