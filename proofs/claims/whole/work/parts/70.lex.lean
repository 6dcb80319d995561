/-! the tokens of a text: runs of letters, of digits -/
abbrev lcr (c : Nat) : Prop := 97 ≤ c ∧ c ≤ 122
abbrev dgt (c : Nat) : Prop := 48 ≤ c ∧ c ≤ 57
/-- from i on m of one kind, then another one or the end -/
def runP (p : Nat → Prop) (tp : Nat → Nat) (n i m : Nat) : Prop := i + m ≤ n ∧ (∀ j, i ≤ j → j < i + m → p (tp j)) ∧ (i + m < n → ¬ p (tp (i + m)))
theorem run_ex (p : Nat → Prop) [DecidablePred p] (tp : Nat → Nat) (n : Nat) : ∀ d i, i + d = n → ∃ m, runP p tp n i m := by
  intro d
  induction d with
  | zero => intro i hi; exact ⟨0, by omega, fun j h1 h2 => by omega, fun h => by omega⟩
  | succ d ih =>
    intro i hi
    by_cases q : p (tp i)
    · obtain ⟨m, h1, h2, h3⟩ := ih (i + 1) (by omega)
      refine ⟨m + 1, by omega, fun j j1 j2 => ?_, fun z => ?_⟩
      · by_cases e : j = i
        · rw [e]; exact q
        · exact h2 j (by omega) (by omega)
      · rw [show i + (m + 1) = i + 1 + m by omega]; exact h3 (by omega)
    · exact ⟨0, by omega, fun j h1 h2 => by omega, fun _ => q⟩
theorem runP.t {p : Nat → Prop} {tp : Nat → Nat} {n i m : Nat} (r : runP p tp n i (m + 1)) : i < n ∧ p (tp i) ∧ runP p tp n (i + 1) m := by
  obtain ⟨h1, h2, h3⟩ := r
  refine ⟨by omega, h2 i (by omega) (by omega), by omega, fun j j1 j2 => h2 j (by omega) (by omega), fun z => ?_⟩
  rw [show i + 1 + m = i + (m + 1) by omega]; exact h3 (by omega)
theorem runP.z {p : Nat → Prop} {tp : Nat → Nat} {n i : Nat} (r : runP p tp n i 0) : i ≤ n ∧ (i < n → ¬ p (tp i)) := ⟨r.1, r.2.2⟩
theorem byC_nI {c : Nat} (h : c < 128) : byC c = nI c := if_pos h
theorem byC_neg {c : Nat} (h : ¬ c < 128) (h2 : c < 256) : byC c < 0 := by
  have e := byC_int h2
  rw [if_neg h] at e
  rw [Int32.lt_iff_toInt_lt, e]
  show (c : Int) - 256 < 0
  omega
theorem byC_eq {c k : Nat} (h : c < 256) (hk : k < 128) : byC c = nI k ↔ c = k := by
  by_cases q : c < 128
  · rw [byC_nI q]; exact nI_eq (by omega) (by omega)
  · refine ⟨fun e => ?_, fun e => by omega⟩
    have := byC_neg q h
    rw [e] at this
    exact absurd this (nI_pos (by omega))
theorem byC_dig {c : Nat} (h : c < 256) (g : HH) : g_X8_isDigit (byC c) g = some (if dgt c then 1 else 0, g) := by
  unfold g_X8_isDigit dgt
  by_cases q : c < 128
  · rw [byC_nI q]
    by_cases c1 : c < 48
    · rw [if_pos (show nI c < 48 from nI_lt (b := 48) c1 (by decide)), if_neg (by omega)]
    · rw [if_neg (show ¬ nI c < 48 from nI_nlt (b := 48) (by omega) (by omega))]
      by_cases c2 : 57 < c
      · rw [if_pos (show 57 < nI c from nI_lt (a := 57) c2 (by omega)), if_neg (by omega)]
      · rw [if_neg (show ¬ 57 < nI c from nI_nlt (a := 57) (by omega) (by decide)), if_pos (by omega)]
  · have e := byC_neg q h
    rw [if_pos (show byC c < 48 from Int32.lt_trans e (by decide)), if_neg (by omega)]
theorem byC_let {c : Nat} (h : c < 256) (g : HH) : g_X8_isLetter (byC c) g = some (if lcr c then 1 else 0, g) := by
  unfold g_X8_isLetter lcr
  by_cases q : c < 128
  · rw [byC_nI q]
    by_cases c1 : c < 97
    · rw [if_pos (show nI c < 97 from nI_lt (b := 97) c1 (by decide)), if_neg (by omega)]
    · rw [if_neg (show ¬ nI c < 97 from nI_nlt (b := 97) (by omega) (by omega))]
      by_cases c2 : 122 < c
      · rw [if_pos (show 122 < nI c from nI_lt (a := 122) c2 (by omega)), if_neg (by omega)]
      · rw [if_neg (show ¬ 122 < nI c from nI_nlt (a := 122) (by omega) (by decide)), if_pos (by omega)]
  · have e := byC_neg q h
    rw [if_pos (show byC c < 97 from Int32.lt_trans e (by decide)), if_neg (by omega)]
theorem r_dig {c : Nat} (h : c < 256) (g : HH) : g_X11_isDigit (nI c) g = some (if dgt c then 1 else 0, g) := by
  unfold g_X11_isDigit dgt
  by_cases c1 : c < 48
  · rw [if_pos (show nI c < 48 from nI_lt (b := 48) c1 (by decide)), if_neg (by omega)]
  · rw [if_neg (show ¬ nI c < 48 from nI_nlt (b := 48) (by omega) (by omega))]
    by_cases c2 : 57 < c
    · rw [if_pos (show 57 < nI c from nI_lt (a := 57) c2 (by omega)), if_neg (by omega)]
    · rw [if_neg (show ¬ 57 < nI c from nI_nlt (a := 57) (by omega) (by decide)), if_pos (by omega)]
theorem r_sma {c : Nat} (h : c < 256) (g : HH) : g_X11_isSmall (nI c) g = some (if lcr c then 1 else 0, g) := by
  unfold g_X11_isSmall lcr
  by_cases c1 : c < 97
  · rw [if_pos (show nI c < 97 from nI_lt (b := 97) c1 (by decide)), if_neg (by omega)]
  · rw [if_neg (show ¬ nI c < 97 from nI_nlt (b := 97) (by omega) (by omega))]
    by_cases c2 : 122 < c
    · rw [if_pos (show 122 < nI c from nI_lt (a := 122) c2 (by omega)), if_neg (by omega)]
    · rw [if_neg (show ¬ 122 < nI c from nI_nlt (a := 122) (by omega) (by decide)), if_pos (by omega)]
/-- the bytes, held by the class -/
def bC (tp : Nat → Nat) (n : Nat) (h : HH) : Prop := n ≤ 700 ∧ ∀ i, i < n → tp i < 256 ∧ h.1 1 i = byC (tp i)
/-- the bytes, held by the reference -/
def bR (tp : Nat → Nat) (n : Nat) (h : HH) : Prop := n ≤ 700 ∧ h.1 255 22 = nI n ∧ ∀ i, i < n → tp i < 256 ∧ h.1 256 i = nI (tp i)
def nvC (tp : Nat → Nat) : Nat → Nat → Nat → Nat
  | 0, _, v => v
  | m + 1, i, v => nvC tp m (i + 1) (min 1000000 (v * 10 + tp i - 48))
def nvR (tp : Nat → Nat) : Nat → Nat → Nat → Nat
  | 0, _, v => v
  | m + 1, i, v => nvR tp m (i + 1) (if 99999 < v then v else 10 * v + tp i - 48)
theorem nv_rel (tp : Nat → Nat) : ∀ m i v w, (v = w ∨ (99999 < v ∧ 99999 < w)) → v ≤ 1000000 → w ≤ 1000000 → (∀ j, i ≤ j → j < i + m → dgt (tp j)) →
    (nvC tp m i v = nvR tp m i w ∨ (99999 < nvC tp m i v ∧ 99999 < nvR tp m i w)) ∧ nvC tp m i v ≤ 1000000 ∧ nvR tp m i w ≤ 1000000 := by
  intro m
  induction m with
  | zero => intro i v w h1 h2 h3 _; exact ⟨h1, h2, h3⟩
  | succ m ih =>
    intro i v w h1 h2 h3 hd
    have d := hd i (by omega) (by omega)
    unfold dgt at d
    unfold nvC nvR
    refine ih (i + 1) _ _ ?_ (by omega) (by split <;> omega) (fun j j1 j2 => hd j (by omega) (by omega))
    split <;> omega
theorem x_cutNum_L (K : Int32 → Int32 → HH → Option (Int32 × HH)) (c2 : Int32) {tp : Nat → Nat} {n : Nat} {h : HH} (hb : bC tp n h) : ∀ m i N v, runP dgt tp n i m → m < N → v ≤ 1000000 →
    g_X8_cutNumber_L6 K c2 (nI n) N (nI v) (nI i) h = K (nI (nvC tp m i v)) (nI (i + m)) h := by
  obtain ⟨hb0, hb1⟩ := hb
  intro m
  induction m with
  | zero =>
    intro i N v r hN hv
    obtain ⟨N, rfl⟩ : ∃ N', N = N' + 1 := ⟨N - 1, by omega⟩
    rw [g_X8_cutNumber_L6]
    obtain ⟨r1, r3⟩ := r.z
    by_cases q : i < n
    · rw [if_pos (nI_lt q (by omega)), ldI_of (by omega) (by decide), (hb1 i q).2, byC_dig (hb1 i q).1, bnd_some, if_neg (r3 q), if_pos rfl]; rfl
    · rw [if_neg (nI_nlt (by omega) (by omega))]; rfl
  | succ m ih =>
    intro i N v r hN hv
    obtain ⟨N, rfl⟩ : ∃ N', N = N' + 1 := ⟨N - 1, by omega⟩
    rw [g_X8_cutNumber_L6]
    obtain ⟨q, dq, r'⟩ := r.t
    have d := dq
    unfold dgt at d
    rw [if_pos (nI_lt q (by omega)), ldI_of (by omega) (by decide), (hb1 i q).2, byC_dig (hb1 i q).1, bnd_some, if_pos dq, if_neg (by decide), ldI_of (by omega) (by decide), (hb1 i q).2, byC_nI (by omega)]
    simp only [vl]
    rw [show (10 : Int32) = nI 10 from rfl, nI_mul, nI_add, show (48 : Int32) = nI 48 from rfl, pk_sub (by omega), show (1000000 : Int32) = nI 1000000 from rfl, mnI_nI (by decide) (by omega), nI_1]
    rw [ih (i + 1) N _ r' (by omega) (by omega), show i + 1 + m = i + (m + 1) by omega]
    rfl
theorem r_here {tp : Nat → Nat} {n : Nat} {h : HH} (hb : bR tp n h) {i : Nat} (hi : i ≤ n) (e : h.1 255 23 = nI i) : g_X11_here h = some (if i < n then nI (tp i) else -1, h) := by
  obtain ⟨hb0, hb2, hb1⟩ := hb
  unfold g_X11_here
  simp only [gfI]
  rw [e, hb2]
  by_cases q : i < n
  · rw [if_pos (nI_lt q (by omega)), ldI_of (by omega) (by decide), (hb1 i q).2, if_pos q]
  · rw [if_neg (nI_nlt (by omega) (by omega)), if_neg q]
/-- nothing but where the reference reads -/
def tkS (h h' : HH) : Prop := (∀ a k, ¬ (a = 255 ∧ 23 ≤ k ∧ k ≤ 26) → h'.1 a k = h.1 a k) ∧ h'.2 = h.2
theorem tkS_rf (h : HH) : tkS h h := ⟨fun _ _ _ => rfl, rfl⟩
theorem tkS.tr {a b c : HH} (x : tkS a b) (y : tkS b c) : tkS a c := ⟨fun p k q => (y.1 p k q).trans (x.1 p k q), y.2.trans x.2⟩
theorem tkS_w (h : HH) {k : Nat} (v : Int32) (h1 : 23 ≤ k) (h2 : k ≤ 26) : tkS h (wrI h 255 k v) := ⟨fun a j q => by rw [wrI_1, if_neg (by omega)], rfl⟩
theorem bR.k {tp : Nat → Nat} {n : Nat} {h h' : HH} (b : bR tp n h) (s : tkS h h') : bR tp n h' := ⟨b.1, (s.1 _ _ (by omega)).trans b.2.1, fun i hi => ⟨(b.2.2 i hi).1, (s.1 _ _ (by omega)).trans (b.2.2 i hi).2⟩⟩
theorem r_dig_e {h : HH} : g_X11_isDigit (-1) h = some (0, h) := rfl
theorem r_sma_e {h : HH} : g_X11_isSmall (-1) h = some (0, h) := rfl
theorem r_num_L {tp : Nat → Nat} {n : Nat} : ∀ m i N v (h : HH), bR tp n h → runP dgt tp n i m → m < N → v ≤ 1000000 → h.1 255 23 = nI i → h.1 255 26 = nI v →
    ∃ h', g_X11_token_L162 N h = some ((), h') ∧ tkS h h' ∧ h'.1 255 23 = nI (i + m) ∧ h'.1 255 26 = nI (nvR tp m i v) ∧ h'.1 255 24 = h.1 255 24 ∧ h'.1 255 25 = h.1 255 25 := by
  intro m
  induction m with
  | zero =>
    intro i N v h hb r hN hv e1 e2
    obtain ⟨N, rfl⟩ : ∃ N', N = N' + 1 := ⟨N - 1, by omega⟩
    refine ⟨h, ?_, tkS_rf h, e1, e2, rfl, rfl⟩
    obtain ⟨r1, r3⟩ := r.z
    rw [g_X11_token_L162, r_here hb (by omega) e1, bnd_some]
    by_cases q : i < n
    · rw [if_pos q, r_dig (hb.2.2 i q).1, bnd_some, if_neg (r3 q), if_pos rfl]
    · rw [if_neg q, r_dig_e, bnd_some, if_pos rfl]
  | succ m ih =>
    intro i N v h hb r hN hv e1 e2
    obtain ⟨N, rfl⟩ : ∃ N', N = N' + 1 := ⟨N - 1, by omega⟩
    obtain ⟨q, dq, r'⟩ := r.t
    have d := dq
    unfold dgt at d
    have hbq := hb.2.2 i q
    have b0 := hb.1
    have s1 : tkS h (wrI (wrI h 255 26 (nI (if 99999 < v then v else 10 * v + tp i - 48))) 255 23 (nI (i + 1))) := (tkS_w h _ (by omega) (by omega)).tr (tkS_w _ _ (by omega) (by omega))
    obtain ⟨h', f1, f2, f3, f4, f5, f6⟩ := ih (i + 1) N (if 99999 < v then v else 10 * v + tp i - 48) _ (hb.k s1) r' (by omega) (by split <;> omega) (wrI_at _ _ _ _) (by rw [wrI_1, if_neg (by omega), wrI_at])
    refine ⟨h', ?_, s1.tr f2, by rw [f3]; congr 1; omega, f4, f5.trans (by rw [wrI_1, if_neg (by omega), wrI_1, if_neg (by omega)]), f6.trans (by rw [wrI_1, if_neg (by omega), wrI_1, if_neg (by omega)])⟩
    rw [g_X11_token_L162, r_here hb (by omega) e1, bnd_some, if_pos q, r_dig hbq.1, bnd_some, if_pos dq, if_neg (by decide)]
    simp only [gfI, pfI, jn]
    rw [e2, r_here hb (by omega) e1, if_pos q]
    by_cases c : 99999 < v
    · rw [if_pos (show 99999 < nI v from nI_lt (a := 99999) c (by omega))]
      rw [if_pos c] at f1
      rw [← f1, wrI_1 h 255 26 _ 255 23, if_neg (by omega), e1, nI_1]
    · rw [if_neg (show ¬ 99999 < nI v from nI_nlt (a := 99999) (by omega) (by decide)), bnd_some]
      rw [if_neg c] at f1
      rw [← f1, wrI_1 h 255 26 _ 255 23, if_neg (by omega), e1, nI_1, show (10 : Int32) = nI 10 from rfl, nI_mul, nI_add, show (48 : Int32) = nI 48 from rfl, pk_sub (by omega)]
theorem r_let_L (K : HH → Option (Unit × HH)) {tp : Nat → Nat} {n : Nat} : ∀ m i N (h : HH), bR tp n h → runP lcr tp n i m → m < N → h.1 255 23 = nI i →
    ∃ h', g_X11_token_L64 K N h = K h' ∧ tkS h h' ∧ h'.1 255 23 = nI (i + m) ∧ h'.1 255 24 = h.1 255 24 := by
  intro m
  induction m with
  | zero =>
    intro i N h hb r hN e1
    obtain ⟨N, rfl⟩ : ∃ N', N = N' + 1 := ⟨N - 1, by omega⟩
    refine ⟨h, ?_, tkS_rf h, e1, rfl⟩
    obtain ⟨r1, r3⟩ := r.z
    rw [g_X11_token_L64, r_here hb (by omega) e1, bnd_some]
    by_cases q : i < n
    · rw [if_pos q, r_sma (hb.2.2 i q).1, bnd_some, if_neg (r3 q), if_pos rfl]
    · rw [if_neg q, r_sma_e, bnd_some, if_pos rfl]
  | succ m ih =>
    intro i N h hb r hN e1
    obtain ⟨N, rfl⟩ : ∃ N', N = N' + 1 := ⟨N - 1, by omega⟩
    obtain ⟨q, dq, r'⟩ := r.t
    have hbq := hb.2.2 i q
    have s1 : tkS h (wrI h 255 23 (nI (i + 1))) := tkS_w h _ (by omega) (by omega)
    obtain ⟨h', f1, f2, f3, f4⟩ := ih (i + 1) N _ (hb.k s1) r' (by omega) (wrI_at _ _ _ _)
    refine ⟨h', ?_, s1.tr f2, by rw [f3]; congr 1; omega, f4.trans (by rw [wrI_1, if_neg (by omega)])⟩
    rw [g_X11_token_L64, r_here hb (by omega) e1, bnd_some, if_pos q, r_sma hbq.1, bnd_some, if_pos dq, if_neg (by decide)]
    simp only [gfI, pfI]
    rw [e1, nI_1]
    exact f1
