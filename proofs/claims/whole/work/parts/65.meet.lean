/-! the reference's ways; way, meet -/
def b01 (b : Bool) : Int32 := if b then 1 else 0
theorem b01_or (b : Bool) (q : Prop) [Decidable q] : b01 b ||| (if q then (1 : Int32) else 0) = b01 (b || decide q) := by
  by_cases k : q
  · rw [if_pos k, decide_eq_true k, Bool.or_true]; cases b <;> decide
  · rw [if_neg k, decide_eq_false k, Bool.or_false]; cases b <;> decide
def frW (B : Nat) (h h' : HH) : Prop := (∀ a k, ¬ ((a = 285 ∨ a = 286) ∧ 7 * B ≤ k ∧ k < 7 * B + 7) → h'.1 a k = h.1 a k) ∧ h'.2 = h.2
theorem frW_rf (B : Nat) (h : HH) : frW B h h := ⟨fun _ _ _ => rfl, rfl⟩
theorem frW.tr {B : Nat} {a b c : HH} (s : frW B a b) (t : frW B b c) : frW B a c := ⟨fun x k q => (t.1 x k q).trans (s.1 x k q), t.2.trans s.2⟩
section WM
variable {B nf np nl ng : Nat} {P : TB} {up : Nat → Option Nat}
theorem r_rF (hB : B < 2) (hnf : nf ≤ 6) (hu : ∀ g c, up g = some c → c ≤ 99) (K : Int32 → HH → Option (Unit × HH)) : ∀ (m f n k : Nat) (b : Bool) (d : Nat → Nat) (h : HH), f + m = nf → m < n → wM B h d (nf + 1) → okD k d → k + 2 * m ≤ 900 → (∀ g, g < nf → h.1 287 g = upV (up g)) → h.1 257 0 = nI nf →
    ∃ h', g_X11_laysWays_L117 K (nI B) n (b01 b) (nI f) h = K (b01 ((eFs up m f).foldl rnB (b, d)).1) h' ∧ wM B h' ((eFs up m f).foldl rE d) (nf + 1) ∧ frW B h h' := by
  intro m
  induction m with
  | zero =>
    intro f n k b d h hf hn w ok hk hup hp0
    obtain ⟨n, rfl⟩ : ∃ n', n = n' + 1 := ⟨n - 1, by omega⟩
    refine ⟨h, ?_, w, frW_rf B h⟩
    rw [g_X11_laysWays_L117, ldI_0 (by decide) (by decide), hp0, if_neg (nI_nlt (by omega) (by omega))]
    rfl
  | succ m ih =>
    intro f n k b d h hf hn w ok hk hup hp0
    obtain ⟨n, rfl⟩ : ∃ n', n = n' + 1 := ⟨n - 1, by omega⟩
    obtain ⟨h1, p1, e1, w1, ok1, f1, x1⟩ : ∃ (h1 : HH) (p1 : Bool × (Nat → Nat)), (∀ X : Int32 → HH → Option (Unit × HH), (if upV (up f) = (-1 : Int32) then X (b01 b) h else ldI h 287 6 (nI f) fun v29 => bnd (g_X11_betters (nI B) (nI f) (nI (f + 1)) v29 h) fun r31 h30 => X (b01 b ||| r31) h30) = X (b01 p1.1) h1) ∧ wM B h1 p1.2 (nf + 1) ∧ okD (k + 1) p1.2 ∧ frW B h h1 ∧ (eF up f).foldl rnB (b, d) = rnB p1 (f + 1, f, 0) := by
      unfold eF
      cases hc : up f with
      | none =>
        refine ⟨h, (b, d), fun X => by rw [if_pos (show upV none = (-1 : Int32) from rfl)], w, fun v => ?_, frW_rf B h, rfl⟩
        rcases ok v with z | ⟨s, m, z, q1, q2⟩
        · exact Or.inl z
        · exact Or.inr ⟨s, m, z, q1, by omega⟩
      | some c =>
        have hc9 := hu f c hc
        obtain ⟨h1, e1, w1, f1, g1⟩ := r_betters hB w (by omega) ok (by omega) (i := f) (j := f + 1) (c := c) (by omega) (by omega) hc9
        refine ⟨h1, rnB (b, d) (f, f + 1, c), fun X => ?_, w1, okD_r ok (by omega) (f, f + 1, c) hc9, ⟨f1, g1⟩, rfl⟩
        rw [if_neg (show ¬ upV (some c) = (-1 : Int32) from m1_ne c (by omega)), ldI_of (by omega) (by decide), hup f (by omega), hc]
        show (bnd (g_X11_betters (nI B) (nI f) (nI (f + 1)) (nI c) h) fun r31 h30 => X (b01 b ||| r31) h30) = X (b01 (rnB (b, d) (f, f + 1, c)).1) h1
        rw [e1, bnd_some, b01_or]
        rfl
    obtain ⟨h2, e2, w2, f2, g2⟩ := r_betters hB w1 (by omega) ok1 (by omega) (i := f + 1) (j := f) (c := 0) (by omega) (by omega) (by decide)
    have ok2 := okD_r ok1 (by omega) (f + 1, f, 0) (Nat.zero_le _)
    obtain ⟨h3, e3, w3, f3⟩ := ih (f + 1) n (k + 1 + 1) (rnB p1 (f + 1, f, 0)).1 _ h2 (by omega) (by omega) w2 ok2 (by omega) (fun g hg => by rw [f2 _ _ (by omega), f1.1 _ _ (by omega)]; exact hup g hg) (by rw [f2 _ _ (by omega), f1.1 _ _ (by omega)]; exact hp0)
    have e9 : (eFs up (m + 1) f).foldl rnB (b, d) = (eFs up m (f + 1)).foldl rnB (rnB p1 (f + 1, f, 0)) := by
      show (eF up f ++ eFs up m (f + 1)).foldl rnB (b, d) = _
      rw [List.foldl_append, x1]
    have e8 : (eFs up (m + 1) f).foldl rE d = (eFs up m (f + 1)).foldl rE (rE p1.2 (f + 1, f, 0)) := by
      have a := rnB_2 (eFs up (m + 1) f) (b, d)
      rw [e9, rnB_2] at a
      exact a.symm
    refine ⟨h3, ?_, by rw [e8]; exact w3, (f1.tr ⟨f2, g2⟩).tr f3⟩
    rw [e9]
    refine Eq.trans ?_ e3
    rw [g_X11_laysWays_L117, ldI_0 (by decide) (by decide), hp0, if_pos (nI_lt (by omega) (by omega)), ldI_of (by omega) (by decide), hup f (by omega)]
    simp only [jn, vl, nI_1]
    refine (e1 (fun u24 h23 => bnd (g_X11_betters (nI B) (nI (f + 1)) (nI f) (0 : Int32) h23) fun r26 h25 => g_X11_laysWays_L117 K (nI B) n (u24 ||| r26) (nI (f + 1)) h25)).trans ?_
    rw [show g_X11_betters (nI B) (nI (f + 1)) (nI f) 0 h1 = _ from e2, bnd_some, b01_or]
    rfl
theorem r_rL (hB : B < 2) (w0 : PW P nf np nl ng) (K : Int32 → HH → Option (Unit × HH)) : ∀ (m l n k : Nat) (b : Bool) (d : Nat → Nat) (h : HH), l + m = nl → m < n → wM B h d (nf + 1) → okD k d → k + 2 * m ≤ 900 → MP h P nf np nl ng →
    ∃ h', g_X11_laysWays_L184 K (nI B) n (b01 b) (nI l) h = K (b01 ((eLs P m l).foldl rnB (b, d)).1) h' ∧ wM B h' ((eLs P m l).foldl rE d) (nf + 1) ∧ frW B h h' := by
  have hnf := w0.1.1
  have hnl := w0.1.2.2.1
  intro m
  induction m with
  | zero =>
    intro l n k b d h hf hn w ok hk cp
    obtain ⟨n, rfl⟩ : ∃ n', n = n' + 1 := ⟨n - 1, by omega⟩
    refine ⟨h, ?_, w, frW_rf B h⟩
    rw [g_X11_laysWays_L184, ldI_2 (by decide) (by decide), cp.2.2.1, if_neg (nI_nlt (by omega) (by omega))]
    rfl
  | succ m ih =>
    intro l n k b d h hf hn w ok hk cp
    obtain ⟨n, rfl⟩ : ∃ n', n = n' + 1 := ⟨n - 1, by omega⟩
    obtain ⟨q1, q2, q3, q4, q5, q6⟩ := ld_ok w0 (l := l) (by omega)
    obtain ⟨h1, e1, w1, f1, g1⟩ := r_betters hB w (by omega) ok (by omega) (i := (P 4 l).toNatClampNeg) (j := (P 5 l).toNatClampNeg) (c := (P 6 l).toNatClampNeg) (by omega) (by omega) q6
    have ok1 := okD_r ok (by omega) ((P 4 l).toNatClampNeg, (P 5 l).toNatClampNeg, (P 6 l).toNatClampNeg) q6
    obtain ⟨h2, e2, w2, f2, g2⟩ := r_betters hB w1 (by omega) ok1 (by omega) (i := (P 5 l).toNatClampNeg) (j := (P 4 l).toNatClampNeg) (c := (P 6 l).toNatClampNeg) (by omega) (by omega) q6
    have ok2 := okD_r ok1 (by omega) ((P 5 l).toNatClampNeg, (P 4 l).toNatClampNeg, (P 6 l).toNatClampNeg) q6
    rw [← q1, ← q2, ← q3] at e1 e2
    have cp1 : MP h1 P nf np nl ng := cp.X fun a k z1 z2 => f1 a k (by omega)
    have cp2 : MP h2 P nf np nl ng := cp1.X fun a k z1 z2 => f2 a k (by omega)
    have ll : l < nl := by omega
    obtain ⟨l4, l5, l6⟩ := cp.2.2.2.2.2.2.2.1 l ll
    obtain ⟨m4, m5, m6⟩ := cp1.2.2.2.2.2.2.2.1 l ll
    have e9 : (eLs P (m + 1) l).foldl rnB (b, d) = (eLs P m (l + 1)).foldl rnB (rnB (rnB (b, d) ((P 4 l).toNatClampNeg, (P 5 l).toNatClampNeg, (P 6 l).toNatClampNeg)) ((P 5 l).toNatClampNeg, (P 4 l).toNatClampNeg, (P 6 l).toNatClampNeg)) := by
      show (eL P l ++ eLs P m (l + 1)).foldl rnB (b, d) = _
      rw [List.foldl_append]
      rfl
    obtain ⟨h3, e3, w3, f3⟩ := ih (l + 1) n (k + 1 + 1) (rnB (rnB (b, d) ((P 4 l).toNatClampNeg, (P 5 l).toNatClampNeg, (P 6 l).toNatClampNeg)) ((P 5 l).toNatClampNeg, (P 4 l).toNatClampNeg, (P 6 l).toNatClampNeg)).1 _ h2 (by omega) (by omega) w2 ok2 (by omega) cp2
    have fr1 : frW B h h1 := ⟨f1, g1⟩
    refine ⟨h3, ?_, w3, (fr1.tr ⟨f2, g2⟩).tr f3⟩
    rw [e9]
    refine Eq.trans ?_ e3
    rw [g_X11_laysWays_L184, ldI_2 (by decide) (by decide), cp.2.2.1, if_pos (nI_lt (by omega) (by omega)), ldI_of (by omega) (by decide), l4, ldI_of (by omega) (by decide), l5, ldI_of (by omega) (by decide), l6, e1, bnd_some]
    simp only [vl, nI_1]
    rw [ldI_of (by omega) (by decide), m5, ldI_of (by omega) (by decide), m4, ldI_of (by omega) (by decide), m6, e2, bnd_some, b01_or, b01_or]
    rfl
theorem r_rounds (hB : B < 2) (w0 : PW P nf np nl ng) (hu : ∀ g c, up g = some c → c ≤ 99) (d0 : Nat → Nat) (ok0 : okD 0 d0) (hfx : fxE (aE' up P nf nl) (itR (aE' up P nf nl) nf d0)) : ∀ (m k n : Nat) (h : HH), k + m = nf → m + 2 ≤ n → wM B h (itR (aE' up P nf nl) k d0) (nf + 1) → (∀ g, g < nf → h.1 287 g = upV (up g)) → MP h P nf np nl ng →
    ∃ h', g_X11_laysWays_L108 (nI B) n 1 h = some ((), h') ∧ wM B h' (itR (aE' up P nf nl) nf d0) (nf + 1) ∧ frW B h h' := by
  have hnf := w0.1.1
  have hnl := w0.1.2.2.1
  obtain ⟨N, hN⟩ : ∃ N : Nat, N = 1024 := ⟨_, rfl⟩
  intro m
  induction m with
  | zero =>
    intro k n h hk hn w hup cp
    obtain ⟨n, rfl⟩ : ∃ n', n = n' + 1 := ⟨n - 1, by omega⟩
    obtain rfl : k = nf := by omega
    have okk := okD_it w0 hu ok0 k (by omega)
    obtain ⟨a1, a2⟩ := eFs_ok (n := k + 1) hu k 0 (by omega)
    obtain ⟨h1, e1, w1, f1⟩ := r_rF hB hnf hu (fun (z34 : Int32) (h33 : HH) => g_X11_laysWays_L184 (fun (z50 : Int32) (h49 : HH) => g_X11_laysWays_L108 (nI B) n z50 h49) (nI B) N z34 (0 : Int32) h33) k 0 N (24 * k) false _ h (by omega) (by omega) w okk (by omega) hup cp.1
    have ok1 := okD_f (eFs up k 0) okk (fun e he => (a2 e he).2.2) (by omega)
    have cp1 : MP h1 P k np nl ng := cp.X fun a x z1 z2 => f1.1 a x (by omega)
    obtain ⟨h2, e2, w2, f2⟩ := r_rL hB w0 (fun (z50 : Int32) (h49 : HH) => g_X11_laysWays_L108 (nI B) n z50 h49) nl 0 N _ ((eFs up k 0).foldl rnB (false, itR (aE' up P k nl) k d0)).1 _ h1 (by omega) (by omega) w1 ok1 (by omega) cp1
    have hpair : ((eFs up k 0).foldl rnB (false, itR (aE' up P k nl) k d0)) = (((eFs up k 0).foldl rnB (false, itR (aE' up P k nl) k d0)).1, (eFs up k 0).foldl rE (itR (aE' up P k nl) k d0)) := Prod.ext rfl (rnB_2 _ _)
    rw [← hpair, ← List.foldl_append] at e2
    rw [← List.foldl_append] at w2
    have hflag : ((eFs up k 0 ++ eLs P nl 0).foldl rnB (false, itR (aE' up P k nl) k d0)).1 = false := rnB_fix _ _ hfx
    rw [hflag] at e2
    have hsame : (eFs up k 0 ++ eLs P nl 0).foldl rE (itR (aE' up P k nl) k d0) = itR (aE' up P k nl) k d0 := fo_fix _ _ hfx
    rw [hsame] at w2
    obtain ⟨n, rfl⟩ : ∃ n', n = n' + 1 := ⟨n - 1, by omega⟩
    refine ⟨h2, ?_, w2, f1.tr f2⟩
    rw [g_X11_laysWays_L108, ← hN, if_neg (by decide)]
    refine Eq.trans e1 (Eq.trans e2 ?_)
    rw [g_X11_laysWays_L108, if_pos (show b01 false = 0 from rfl)]
  | succ m ih =>
    intro k n h hk hn w hup cp
    obtain ⟨n, rfl⟩ : ∃ n', n = n' + 1 := ⟨n - 1, by omega⟩
    have okk := okD_it w0 hu ok0 k (by omega)
    obtain ⟨a1, a2⟩ := eFs_ok (n := nf + 1) hu nf 0 (by omega)
    obtain ⟨h1, e1, w1, f1⟩ := r_rF hB hnf hu (fun (z34 : Int32) (h33 : HH) => g_X11_laysWays_L184 (fun (z50 : Int32) (h49 : HH) => g_X11_laysWays_L108 (nI B) n z50 h49) (nI B) N z34 (0 : Int32) h33) nf 0 N (24 * k) false _ h (by omega) (by omega) w okk (by omega) hup cp.1
    have ok1 := okD_f (eFs up nf 0) okk (fun e he => (a2 e he).2.2) (by omega)
    have cp1 : MP h1 P nf np nl ng := cp.X fun a x z1 z2 => f1.1 a x (by omega)
    obtain ⟨h2, e2, w2, f2⟩ := r_rL hB w0 (fun (z50 : Int32) (h49 : HH) => g_X11_laysWays_L108 (nI B) n z50 h49) nl 0 N _ ((eFs up nf 0).foldl rnB (false, itR (aE' up P nf nl) k d0)).1 _ h1 (by omega) (by omega) w1 ok1 (by omega) cp1
    have hpair : ((eFs up nf 0).foldl rnB (false, itR (aE' up P nf nl) k d0)) = (((eFs up nf 0).foldl rnB (false, itR (aE' up P nf nl) k d0)).1, (eFs up nf 0).foldl rE (itR (aE' up P nf nl) k d0)) := Prod.ext rfl (rnB_2 _ _)
    rw [← hpair, ← List.foldl_append] at e2
    rw [← List.foldl_append] at w2
    have cp2 : MP h2 P nf np nl ng := cp1.X fun a x z1 z2 => f2.1 a x (by omega)
    cases hflag : ((eFs up nf 0 ++ eLs P nl 0).foldl rnB (false, itR (aE' up P nf nl) k d0)).1 with
    | true =>
      rw [hflag] at e2
      obtain ⟨h3, e3, w3, f3⟩ := ih (k + 1) n h2 (by omega) (by omega) w2 (fun g hg => by rw [f2.1 _ _ (by omega), f1.1 _ _ (by omega)]; exact hup g hg) cp2
      refine ⟨h3, ?_, w3, (f1.tr f2).tr f3⟩
      rw [g_X11_laysWays_L108, ← hN, if_neg (by decide)]
      exact Eq.trans e1 (Eq.trans e2 e3)
    | false =>
      rw [hflag] at e2
      have hfk : fxE (aE' up P nf nl) (itR (aE' up P nf nl) k d0) := rnB_f _ _ hflag
      have hsame : (eFs up nf 0 ++ eLs P nl 0).foldl rE (itR (aE' up P nf nl) k d0) = itR (aE' up P nf nl) k d0 := fo_fix _ _ hfk
      rw [hsame] at w2
      have hN2 := itR_fix hfk (nf - k)
      rw [show k + (nf - k) = nf by omega] at hN2
      obtain ⟨n, rfl⟩ : ∃ n', n = n' + 1 := ⟨n - 1, by omega⟩
      refine ⟨h2, ?_, by rw [hN2]; exact w2, f1.tr f2⟩
      rw [g_X11_laysWays_L108, ← hN, if_neg (by decide)]
      refine Eq.trans e1 (Eq.trans e2 ?_)
      rw [g_X11_laysWays_L108, if_pos (show b01 false = 0 from rfl)]
end WM
theorem r_wfill (K : HH → Option (Unit × HH)) {B : Nat} (hB : B < 2) (c2 : Int32) (h0 : HH) : ∀ (m i n : Nat) (h : HH), i + m = 7 → m < n → (∀ v, v < i → h.1 285 (7 * B + v) = 999999 ∧ h.1 286 (7 * B + v) = 0) → frW B h0 h →
    ∃ h', g_X11_laysWays_L2 K (nI B) c2 n (nI i) h = K h' ∧ (∀ v, v < 7 → h'.1 285 (7 * B + v) = 999999 ∧ h'.1 286 (7 * B + v) = 0) ∧ frW B h0 h' := by
  intro m
  induction m with
  | zero =>
    intro i n h hi hn e f
    obtain ⟨n, rfl⟩ : ∃ n', n = n' + 1 := ⟨n - 1, by omega⟩
    obtain rfl : i = 7 := by omega
    exact ⟨h, by rw [g_X11_laysWays_L2, if_neg (show ¬ nI 7 < 7 by decide)], e, f⟩
  | succ m ih =>
    intro i n h hi hn e f
    obtain ⟨n, rfl⟩ : ∃ n', n = n' + 1 := ⟨n - 1, by omega⟩
    obtain ⟨h', e', v', f'⟩ := ih (i + 1) n (wrI (wrI h 285 (7 * B + i) 999999) 286 (7 * B + i) 0) (by omega) (by omega) (fun v hv => by
      rw [wrI_1, wrI_1, wrI_1, wrI_1]
      by_cases q : v = i
      · subst q; simp
      · rw [if_neg (by omega), if_neg (by omega), if_neg (by omega), if_neg (by omega)]; exact e v (by omega)) ⟨fun a k q => by rw [wrI_1, if_neg (by omega), wrI_1, if_neg (by omega)]; exact f.1 a k q, f.2⟩
    refine ⟨h', ?_, v', f'⟩
    rw [← e', g_X11_laysWays_L2, if_pos (show nI i < 7 from nI_lt (b := 7) (by omega) (by decide))]
    simp only [vl, nI_1]
    rw [ix7, stI_of (by omega) (by decide), stI_of (by omega) (by decide)]
theorem frW.B {B : Nat} {h h' : HH} (f : frW B h h') : scB h h' := ⟨fun a k u => f.1 a k (by
  rcases u with u | u | u | ⟨s, _, _, u⟩ | u
  · omega
  · omega
  · omega
  · unfold inH at u; omega
  · omega), fun j _ => by rw [f.2]⟩
theorem scB_287 (h : HH) (k : Nat) (v : Int32) : scB h (wrI h 287 k v) := ⟨fun a i u => by
  rw [wrI_1, if_neg]
  rcases u with u | u | u | ⟨s, _, _, u⟩ | u
  · omega
  · omega
  · omega
  · unfold inH at u; omega
  · omega, fun _ _ => rfl⟩
theorem r_ups {np nf nl ng u : Nat} {P S : TB} (w0 : PW P nf np nl ng) {a : Nat} (ha : a < np) (hu : u ≤ 99) (hfo : P 3 a = nI u) (K : HH → Option (Unit × HH)) (c1 : Int32) : ∀ (m f n : Nat) (h : HH), f + m = nf → m < n → RM1 h P S nf np nl ng → (∀ g, g < f → h.1 287 g = upV (upc P S (P 3) np a g)) →
    ∃ h', g_X11_laysWays_L59 K c1 (nI a) n (nI f) h = K h' ∧ RM1 h' P S nf np nl ng ∧ (∀ g, g < nf → h'.1 287 g = upV (upc P S (P 3) np a g)) ∧ (∀ x k, x ≠ 287 → ¬ (x = 255 ∧ k = 35) → h'.1 x k = h.1 x k) ∧ scB h h' := by
  have hnf := w0.1.1
  have hnp := w0.1.2.1
  intro m
  induction m with
  | zero =>
    intro f n h hf hn c hup
    obtain ⟨n, rfl⟩ : ∃ n', n = n' + 1 := ⟨n - 1, by omega⟩
    obtain rfl : f = nf := by omega
    refine ⟨h, ?_, c, hup, fun _ _ _ _ => rfl, scB_rf h⟩
    rw [g_X11_laysWays_L59, ldI_0 (by decide) (by decide), c.1.1, if_neg (nI_nlt (Nat.le_refl _) (by omega))]
  | succ m ih =>
    intro f n h hf hn c hup
    obtain ⟨n, rfl⟩ : ∃ n', n = n' + 1 := ⟨n - 1, by omega⟩
    have hfn : f < nf := by omega
    obtain ⟨h1, s1, k1, e1⟩ := r_canClimb (c.at w0) ha hfn
    have c1' := c.B hnp s1.B
    have eu := (upc_ok (P := P) (S := S) (np := np) (f := f) hu hfo).1
    -- the cost laid down
    obtain ⟨h2, s2, e2⟩ : ∃ h2, scM h1 h2 ∧ ∀ X : Int32 → HH → Option (Unit × HH), (if (if P 3 a < stA P S (P 3) np a f 0 ∨ lwA P S (P 3) np 2 a f 0 = 0 then (0 : Int32) else 1) = 0 then X (-1 : Int32) h1 else bnd (g_X11_steepOf (0 : Int32) (nI a) (nI f) h1) fun r17 h16 => X (mxI (0 : Int32) r17) h16) = X (upV (upc P S (P 3) np a f)) h2 := by
      rw [eu]
      by_cases q : P 3 a < stA P S (P 3) np a f 0 ∨ lwA P S (P 3) np 2 a f 0 = 0
      · exact ⟨h1, scM_rf h1, fun X => by rw [if_pos q, if_pos rfl, if_pos q]⟩
      · obtain ⟨h2, s2, k2, e2⟩ := r_steepOf (c1'.at w0) ha hfn
        refine ⟨h2, s2, fun X => ?_⟩
        rw [if_neg q, if_neg (by decide), if_neg q, show g_X11_steepOf 0 (nI a) (nI f) h1 = _ from e2, bnd_some]
    have c2 := c1'.B hnp s2.B
    have c3 := c2.B hnp (scB_287 h2 f (upV (upc P S (P 3) np a f)))
    have f2 : ∀ x k, x ≠ 287 → ¬ (x = 255 ∧ k = 35) → (wrI h2 287 f (upV (upc P S (P 3) np a f))).1 x k = h.1 x k := fun x k q1 q2 => by rw [wrI_1, if_neg (fun z => q1 z.1), s2.1 x k q2, s1.1 x k q2]
    obtain ⟨h4, e4, c4, u4, f4, s4⟩ := ih (f + 1) n _ (by omega) (by omega) c3 (fun g hg => by
      rw [wrI_1]
      by_cases q : g = f
      · rw [if_pos ⟨rfl, q⟩, q]
      · rw [if_neg (fun z => q z.2), s2.1 _ _ (by omega), s1.1 _ _ (by omega)]; exact hup g (by omega))
    refine ⟨h4, ?_, c4, u4, fun x k q1 q2 => (f4 x k q1 q2).trans (f2 x k q1 q2), ((s1.B.tr s2.B).tr (scB_287 h2 f _)).tr s4⟩
    rw [← e4, g_X11_laysWays_L59, ldI_0 (by decide) (by decide), c.1.1, if_pos (nI_lt hfn (by omega)), show g_X11_canClimb 0 (nI a) (nI f) h = _ from e1, bnd_some]
    simp only [jn, vl, nI_1]
    refine (e2 (fun y13 h12 => stI h12 287 6 (nI f) y13 fun h14 => g_X11_laysWays_L59 K c1 (nI a) n (nI (f + 1)) h14)).trans ?_
    rw [stI_of (by omega) (by decide)]
theorem r_laysWays {B np nf nl ng : Nat} {P S : TB} (hB : B < 2) (w0 : PW P nf np nl ng) {h : HH} (c : RM1 h P S nf np nl ng) {a fl : Nat} (ha : a < np) (hfl : S 1 a = nI fl) (hf : fl ≤ nf) :
    ∃ h', g_X11_laysWays (nI B) (nI a) h = some ((), h') ∧ scB h h' ∧ wM B h' (itR (aE' (upc P S (P 3) np a) P nf nl) nf (d0A fl)) (nf + 1) ∧ ∀ x k, (x = 285 ∨ x = 286) → ¬ (7 * B ≤ k ∧ k < 7 * B + 7) → h'.1 x k = h.1 x k := by
  have hnf := w0.1.1
  have hnp := w0.1.2.1
  obtain ⟨u, u1, u2⟩ := w0.2.2.2.2.2.1 a ha
  have hu : ∀ g cc, upc P S (P 3) np a g = some cc → cc ≤ 99 := fun g cc hg => (upc_ok (f := g) u1 u2).2 cc hg
  obtain ⟨N, hN⟩ : ∃ N : Nat, N = 1024 := ⟨_, rfl⟩
  have hfx : fxE (aE' (upc P S (P 3) np a) P nf nl) (itR (aE' (upc P S (P 3) np a) P nf nl) nf (d0A fl)) := by
    have := rounds_fix (E := aE' (upc P S (P 3) np a) P nf nl) (n := nf + 1) (fun e he => ⟨((aE_ok w0 hu).2 e he).1, ((aE_ok w0 hu).2 e he).2.1⟩) (d0 := d0A fl) (s := fl) (by omega) (if_pos rfl)
    rwa [show nf + 1 - 1 = nf by omega] at this
  obtain ⟨h1, e1, y1, f1⟩ := r_wfill (fun (h4 : HH) => ldI h4 278 138 (nI a) fun v5 => stI h4 285 14 (((7 : Int32) * nI B) + v5) (0 : Int32) fun h6 => g_X11_laysWays_L59 (fun (h18 : HH) => g_X11_laysWays_L108 (nI B) N (1 : Int32) h18) (nI B) (nI a) N (0 : Int32) h6) hB (nI a) h 7 0 N h rfl (by omega) (fun v hv => absurd hv (by omega)) (frW_rf B h)
  have c1 := c.B hnp f1.B
  have sW : frW B h1 (wrI h1 285 (7 * B + fl) 0) := ⟨fun x k q => by rw [wrI_1, if_neg (by omega)], rfl⟩
  have c2 := c1.B hnp sW.B
  obtain ⟨h3, e3, c3, u3, f3, s3⟩ := r_ups (S := S) w0 ha u1 u2 (fun (h18 : HH) => g_X11_laysWays_L108 (nI B) N (1 : Int32) h18) (nI B) nf 0 N _ (by omega) (by omega) c2 (fun g hg => absurd hg (by omega))
  have w3 : wM B h3 (itR (aE' (upc P S (P 3) np a) P nf nl) 0 (d0A fl)) (nf + 1) := fun v hv => by
    show (d0A fl v = 1099511627776 ∧ h3.1 285 (7 * B + v) = 999999) ∨ (d0A fl v < 1099511627776 ∧ h3.1 285 (7 * B + v) = nI (d0A fl v / 1024) ∧ h3.1 286 (7 * B + v) = nI (d0A fl v % 1024))
    have z2 : h3.1 286 (7 * B + v) = 0 := by
      rw [f3 _ _ (by omega) (by omega), wrI_1, if_neg (by omega)]
      exact (y1 v (by omega)).2
    have z1 : h3.1 285 (7 * B + v) = (wrI h1 285 (7 * B + fl) 0).1 285 (7 * B + v) := f3 _ _ (by omega) (by omega)
    by_cases q : v = fl
    · have dv : d0A fl v = 0 := if_pos q
      rw [dv, z1, z2, q, wrI_at]
      exact Or.inr ⟨by decide, rfl, rfl⟩
    · have dv : d0A fl v = 1099511627776 := if_neg q
      refine Or.inl ⟨dv, ?_⟩
      rw [z1, wrI_1, if_neg (by omega)]
      exact (y1 v (by omega)).1
  obtain ⟨h4, e4, w4, f4⟩ := r_rounds hB w0 hu (d0A fl) (d0_ok fl) hfx nf 0 N h3 (by omega) (by omega) w3 u3 c3.1
  refine ⟨h4, ?_, ((f1.B.tr sW.B).tr s3).tr f4.B, w4, fun x k q1 q2 => ?_⟩
  · unfold g_X11_laysWays
    rw [← hN]
    refine Eq.trans e1 ?_
    rw [ldI_of (by omega) (by decide), (c1.2.1.f0 ha).1, hfl, ix7, stI_of (by omega) (by decide)]
    exact Eq.trans e3 e4
  · rw [f4.1 x k (by omega), f3 x k (by omega) (by omega), sW.1 x k (by omega), f1.1 x k (by omega)]
theorem way_fin {K : Nat} {d : Nat → Nat} (ok : okD K d) (hK : K ≤ 900) {v : Nat} (h : d v < 1099511627776) : d v / 1024 ≤ 99 * 900 ∧ d v % 1024 < 1024 := by
  obtain ⟨s, m, ds, s1, m1⟩ := (ok v).resolve_left (by omega)
  omega
theorem c_way (a0 a1 a2 : Int32) : Eqv (g_X10_way a0 a1 a2) (g_X11_way a0 a1 a2) := by
  refine Eqv_PL a0 a1 (-1) (fun a0 a1 h3 => if a2 < 0 then some ((-1 : Int32), h3) else if (1 : Int32) < a2 then some ((-1 : Int32), h3) else bnd (g_X10_lookAtNow h3) fun _ h5 => bnd (g_X9_seek 247 a0 h5) fun _ h7 => ldI h7 248 7 a1 fun v9 => if v9 = (2147483647 : Int32) then some ((-2 : Int32), h7) else if a2 = 0 then ldI h7 248 7 a1 fun v10 => some (v10, h7) else ldI h7 249 7 a1 fun v11 => some (v11, h7))
    (fun a0 a1 h4 => if a2 < 0 then some ((-1 : Int32), h4) else if (1 : Int32) < a2 then some ((-1 : Int32), h4) else bnd (g_X11_laysWays (0 : Int32) a0 h4) fun _ h6 => ldI h6 285 14 a1 fun v8 => if v8 = (999999 : Int32) then some ((-2 : Int32), h6) else if a2 = 0 then ldI h6 285 14 a1 fun v9 => some (v9, h6) else ldI h6 286 14 a1 fun v10 => some (v10, h6)) (fun _ => rfl) (fun _ => rfl) fun P S nf np nl ng a t w s ha ht => ?_
  have hnf : nf ≤ 6 := w.1.1
  have hnp : np ≤ 6 := w.1.2.1
  by_cases y0 : a2 < 0
  · exact ⟨-1, fun h c => ⟨h, scA_rf h, by rw [if_pos y0]⟩, fun h m => ⟨h, scB_rf h, by rw [if_pos y0]⟩⟩
  by_cases y1 : 1 < a2
  · exact ⟨-1, fun h c => ⟨h, scA_rf h, by rw [if_neg y0, if_pos y1]⟩, fun h m => ⟨h, scB_rf h, by rw [if_neg y0, if_pos y1]⟩⟩
  obtain ⟨fl, fl1, fl2⟩ := s.1 a ha
  obtain ⟨u, u1, u2⟩ := w.2.2.2.2.2.1 a ha
  have ok := okD_it w (up := upc P S (P 3) np a) (fun g cc hg => (upc_ok (f := g) u1 u2).2 cc hg) (d0_ok fl) nf (by omega)
  obtain ⟨D, hD⟩ : ∃ D, D = itR (aE' (upc P S (P 3) np a) P nf nl) nf (d0A fl) := ⟨_, rfl⟩
  rw [← hD] at ok
  refine ⟨if D t = 1099511627776 then -2 else if a2 = 0 then nI (D t / 1024) else nI (D t % 1024), fun h c => ?_, fun h m => ?_⟩
  · obtain ⟨p, h1, s1, c1, k1, -, -, p0, e1⟩ := x_look c w
    obtain ⟨h2, e2, k2, w2, f2, g2⟩ := x_seek (Or.inl rfl) w k1 ha fl2 fl1
    rw [← hD] at w2
    refine ⟨h2, s1.tr ⟨fun x k q => f2 x k (by omega), fun j _ => by rw [g2]⟩, ?_⟩
    rw [if_neg y0, if_neg y1, e1, bnd_some, e2, bnd_some, ldI_of (by omega) (by decide)]
    rcases w2 t (by omega) with ⟨z, e⟩ | ⟨z, e, e'⟩
    · rw [show h2.1 248 t = 2147483647 from e, if_pos rfl, if_pos z]
    · have fin := way_fin ok (by omega) z
      rw [show h2.1 248 t = nI (D t / 1024) from e, if_neg (fun q => by have := (nI_eq (b := 2147483647) (by omega) (by decide)).mp q; omega), if_neg (show ¬ D t = 1099511627776 by omega)]
      by_cases q : a2 = 0
      · rw [if_pos q, if_pos q, ldI_of (by omega) (by decide), show h2.1 248 t = nI (D t / 1024) from e]
      · rw [if_neg q, if_neg q, ldI_of (by omega) (by decide), show h2.1 249 t = nI (D t % 1024) from e']
  · obtain ⟨h2, e2, s2, w2, f2⟩ := r_laysWays (B := 0) (by decide) w m ha fl2 fl1
    rw [← hD] at w2
    refine ⟨h2, s2, ?_⟩
    rw [if_neg y0, if_neg y1, show g_X11_laysWays 0 (nI a) h = _ from e2, bnd_some, ldI_of (by omega) (by decide)]
    have w2t := w2 t (by omega)
    rw [show 7 * 0 + t = t by omega] at w2t
    rcases w2t with ⟨z, e⟩ | ⟨z, e, e'⟩
    · rw [e, if_pos rfl, if_pos z]
    · have fin := way_fin ok (by omega) z
      rw [e, if_neg (fun q => by have := (nI_eq (b := 999999) (by omega) (by decide)).mp q; omega), if_neg (show ¬ D t = 1099511627776 by omega)]
      by_cases q : a2 = 0
      · rw [if_pos q, if_pos q, ldI_of (by omega) (by decide), e]
      · rw [if_neg q, if_neg q, ldI_of (by omega) (by decide), e']
/-! meet -/
theorem mt_L {P : TB} {nf np nl ng : Nat} (w0 : PW P nf np nl ng) {D E : Nat → Nat} {K : Nat} (okD1 : okD K D) (okE : okD K E) (hK : K ≤ 900) (KC : Int32 → Int32 → HH → Option (Int32 × HH)) (KM : Int32 → Int32 → HH → Option (Int32 × HH)) (c3 c4 : Int32) : ∀ (m i n1 n2 : Nat) (b x y : Int32), i + m = nf + 1 → m < n1 → m < n2 → ((b = -2 ∧ x = -2 ∧ y = 999999) ∨ ∃ j z : Nat, b = nI j ∧ j ≤ 6 ∧ z ≤ 180000 ∧ x = nI z ∧ y = nI z) →
    ∃ b' x' y' : Int32, ((b' = -2 ∧ x' = -2 ∧ y' = 999999) ∨ ∃ j z : Nat, b' = nI j ∧ j ≤ 6 ∧ z ≤ 180000 ∧ x' = nI z ∧ y' = nI z) ∧
      (∀ h p, h.2.2 0 = p → shL[p]? = some (.inl 5) → h.1 p 0 = nI nf → wX 247 h D (nf + 1) → wX 251 h E (nf + 1) → g_X10_meet_L59 KC c3 n1 b x (nI i) h = KC b' x' h) ∧
      ∀ h, h.1 257 0 = nI nf → wM 0 h D (nf + 1) → wM 1 h E (nf + 1) → g_X11_meet_L49 KM c4 n2 b y (nI i) h = KM b' y' h := by
  have hnf := w0.1.1
  intro m
  induction m with
  | zero =>
    intro i n1 n2 b x y hi h1 h2 hb
    obtain ⟨n1, rfl⟩ : ∃ n', n1 = n' + 1 := ⟨n1 - 1, by omega⟩
    obtain ⟨n2, rfl⟩ : ∃ n', n2 = n' + 1 := ⟨n2 - 1, by omega⟩
    refine ⟨b, x, y, hb, fun h p p0 sp e w1 w2 => ?_, fun h e w1 w2 => ?_⟩
    · rw [g_X10_meet_L59]
      simp only [gfR, gfI]
      rw [p0, ckH_of sp, e, if_pos (nI_lt (by omega) (by omega))]
    · rw [g_X11_meet_L49, ldI_0 (by decide) (by decide), e, if_pos (nI_lt (by omega) (by omega))]
  | succ m ih =>
    intro i n1 n2 b x y hi h1 h2 hb
    obtain ⟨n1, rfl⟩ : ∃ n', n1 = n' + 1 := ⟨n1 - 1, by omega⟩
    obtain ⟨n2, rfl⟩ : ∃ n', n2 = n' + 1 := ⟨n2 - 1, by omega⟩
    have lt : ¬ nI nf < nI i := nI_nlt (by omega) (by omega)
    have far : ∀ v : Nat, v ≤ 99 * 900 → ¬ nI v = 2147483647 := fun v hv q => by have := (nI_eq (b := 2147483647) (by omega) (by decide)).mp q; omega
    by_cases fin : D i < 1099511627776 ∧ E i < 1099511627776
    · obtain ⟨fD, fE⟩ := fin
      have bD := (way_fin okD1 hK fD).1
      have bE := (way_fin okE hK fE).1
      have cls : ∀ h p, h.2.2 0 = p → shL[p]? = some (.inl 5) → h.1 p 0 = nI nf → wX 247 h D (nf + 1) → wX 251 h E (nf + 1) → g_X10_meet_L59 KC c3 (n1 + 1) b x (nI i) h = if b = -2 then g_X10_meet_L59 KC c3 n1 (nI i) (nI (D i / 1024 + E i / 1024)) (nI (i + 1)) h else if nI (D i / 1024 + E i / 1024) < x then g_X10_meet_L59 KC c3 n1 (nI i) (nI (D i / 1024 + E i / 1024)) (nI (i + 1)) h else g_X10_meet_L59 KC c3 n1 b x (nI (i + 1)) h := by
        intro h p p0 sp e w1 w2
        have e1 : h.1 248 i = nI (D i / 1024) := ((w1 i (by omega)).resolve_left (fun q => by omega)).2.1
        have e2 : h.1 252 i = nI (E i / 1024) := ((w2 i (by omega)).resolve_left (fun q => by omega)).2.1
        rw [g_X10_meet_L59]
        simp only [gfR, gfI, jn, vl, nI_1]
        rw [p0, ckH_of sp, e, if_neg lt, ldI_of (by omega) (by decide), e1, if_neg (far _ bD), ldI_of (by omega) (by decide), e2, if_neg (far _ bE), ldI_of (by omega) (by decide), e1, ldI_of (by omega) (by decide), e2, nI_add]
      have ref : ∀ h, h.1 257 0 = nI nf → wM 0 h D (nf + 1) → wM 1 h E (nf + 1) → g_X11_meet_L49 KM c4 (n2 + 1) b y (nI i) h = if nI (D i / 1024 + E i / 1024) < y then g_X11_meet_L49 KM c4 n2 (nI i) (nI (D i / 1024 + E i / 1024)) (nI (i + 1)) h else g_X11_meet_L49 KM c4 n2 b y (nI (i + 1)) h := by
        intro h e w1 w2
        have e1 : h.1 285 (7 * 0 + i) = nI (D i / 1024) := ((w1 i (by omega)).resolve_left (fun q => by omega)).2.1
        have e2 : h.1 285 (7 * 1 + i) = nI (E i / 1024) := ((w2 i (by omega)).resolve_left (fun q => by omega)).2.1
        rw [show 7 * 0 + i = i by omega] at e1
        rw [g_X11_meet_L49, ldI_0 (by decide) (by decide), e, if_neg lt, ldI_of (by omega) (by decide), e1, show (7 : Int32) + nI i = nI (7 * 1 + i) from nI_add 7 i, ldI_of (by omega) (by decide), e2, nI_add]
        simp only [jn, vl, nI_1]
        rw [ldI_of (by omega) (by decide), e1, ldI_of (by omega) (by decide), e2, nI_add]
      have take : ∃ b' x' y' : Int32, ((b' = -2 ∧ x' = -2 ∧ y' = 999999) ∨ ∃ j z : Nat, b' = nI j ∧ j ≤ 6 ∧ z ≤ 180000 ∧ x' = nI z ∧ y' = nI z) ∧
          (∀ h p, h.2.2 0 = p → shL[p]? = some (.inl 5) → h.1 p 0 = nI nf → wX 247 h D (nf + 1) → wX 251 h E (nf + 1) → g_X10_meet_L59 KC c3 n1 (nI i) (nI (D i / 1024 + E i / 1024)) (nI (i + 1)) h = KC b' x' h) ∧
          ∀ h, h.1 257 0 = nI nf → wM 0 h D (nf + 1) → wM 1 h E (nf + 1) → g_X11_meet_L49 KM c4 n2 (nI i) (nI (D i / 1024 + E i / 1024)) (nI (i + 1)) h = KM b' y' h :=
        ih (i + 1) n1 n2 (nI i) (nI (D i / 1024 + E i / 1024)) (nI (D i / 1024 + E i / 1024)) (by omega) (by omega) (by omega) (Or.inr ⟨i, D i / 1024 + E i / 1024, rfl, by omega, by omega, rfl, rfl⟩)
      rcases hb with ⟨rfl, rfl, rfl⟩ | ⟨j, z, rfl, hj, hz, rfl, rfl⟩
      · obtain ⟨b', x', y', g1, g2, g3⟩ := take
        refine ⟨b', x', y', g1, fun h p p0 sp e w1 w2 => ?_, fun h e w1 w2 => ?_⟩
        · rw [cls h p p0 sp e w1 w2, if_pos rfl]; exact g2 h p p0 sp e w1 w2
        · rw [ref h e w1 w2, if_pos (show nI (D i / 1024 + E i / 1024) < 999999 from nI_lt (b := 999999) (by omega) (by decide))]; exact g3 h e w1 w2
      · have nj : ¬ nI j = -2 := fun e => nI_pos (n := j) (by omega) (by rw [e]; decide)
        by_cases q : nI (D i / 1024 + E i / 1024) < nI z
        · obtain ⟨b', x', y', g1, g2, g3⟩ := take
          refine ⟨b', x', y', g1, fun h p p0 sp e w1 w2 => ?_, fun h e w1 w2 => ?_⟩
          · rw [cls h p p0 sp e w1 w2, if_neg nj, if_pos q]; exact g2 h p p0 sp e w1 w2
          · rw [ref h e w1 w2, if_pos q]; exact g3 h e w1 w2
        · obtain ⟨b', x', y', g1, g2, g3⟩ := ih (i + 1) n1 n2 (nI j) (nI z) (nI z) (by omega) (by omega) (by omega) (Or.inr ⟨j, z, rfl, hj, hz, rfl, rfl⟩)
          refine ⟨b', x', y', g1, fun h p p0 sp e w1 w2 => ?_, fun h e w1 w2 => ?_⟩
          · rw [cls h p p0 sp e w1 w2, if_neg nj, if_neg q]; exact g2 h p p0 sp e w1 w2
          · rw [ref h e w1 w2, if_neg q]; exact g3 h e w1 w2
    · obtain ⟨b', x', y', g1, g2, g3⟩ := ih (i + 1) n1 n2 b x y (by omega) (by omega) (by omega) hb
      have yb : ∃ Y : Nat, y = nI Y ∧ Y ≤ 999999 := by
        rcases hb with ⟨_, _, rfl⟩ | ⟨j, z, _, _, hz, _, rfl⟩
        · exact ⟨999999, rfl, Nat.le_refl _⟩
        · exact ⟨z, rfl, by omega⟩
      obtain ⟨Y, rfl, hY⟩ := yb
      refine ⟨b', x', y', g1, fun h p p0 sp e w1 w2 => ?_, fun h e w1 w2 => ?_⟩
      · refine Eq.trans ?_ (g2 h p p0 sp e w1 w2)
        rw [g_X10_meet_L59]
        simp only [gfR, gfI, jn, vl, nI_1]
        rw [p0, ckH_of sp, e, if_neg lt, ldI_of (by omega) (by decide)]
        rcases w1 i (by omega) with ⟨z, e1⟩ | ⟨z, e1, e1'⟩
        · rw [show h.1 248 i = 2147483647 from e1, if_pos rfl]
        · have bD := (way_fin okD1 hK z).1
          have eE : h.1 252 i = 2147483647 := ((w2 i (by omega)).resolve_right (fun q => fin ⟨z, q.1⟩)).2
          rw [show h.1 248 i = nI (D i / 1024) from e1, if_neg (far _ bD), ldI_of (by omega) (by decide), eE, if_pos rfl]
      · refine Eq.trans ?_ (g3 h e w1 w2)
        have v1 : ∃ V : Nat, h.1 285 i = nI V ∧ V ≤ 999999 ∧ (¬ D i < 1099511627776 → V = 999999) := by
          have := w1 i (by omega)
          rw [show 7 * 0 + i = i by omega] at this
          rcases this with ⟨z, e1⟩ | ⟨z, e1, e1'⟩
          · exact ⟨999999, e1, Nat.le_refl _, fun _ => rfl⟩
          · have bD := (way_fin okD1 hK z).1
            exact ⟨D i / 1024, e1, by omega, fun q => absurd z q⟩
        have v2 : ∃ V : Nat, h.1 285 (7 * 1 + i) = nI V ∧ V ≤ 999999 ∧ (¬ E i < 1099511627776 → V = 999999) := by
          rcases w2 i (by omega) with ⟨z, e1⟩ | ⟨z, e1, e1'⟩
          · exact ⟨999999, e1, Nat.le_refl _, fun _ => rfl⟩
          · have bD := (way_fin okE hK z).1
            exact ⟨E i / 1024, e1, by omega, fun q => absurd z q⟩
        obtain ⟨V1, a1, a2, a3⟩ := v1
        obtain ⟨V2, b1, b2, b3⟩ := v2
        have big : 999999 ≤ V1 + V2 := by
          by_cases q : D i < 1099511627776
          · have := b3 (fun z => fin ⟨q, z⟩); omega
          · have := a3 q; omega
        rw [g_X11_meet_L49, ldI_0 (by decide) (by decide), e, if_neg lt, ldI_of (by omega) (by decide), a1, show (7 : Int32) + nI i = nI (7 * 1 + i) from nI_add 7 i, ldI_of (by omega) (by decide), b1, nI_add]
        simp only [jn, vl, nI_1]
        rw [if_neg (nI_nlt (by omega) (by omega))]
theorem c_meet (a0 a1 a2 : Int32) : Eqv (g_X10_meet a0 a1 a2) (g_X11_meet a0 a1 a2) := by
  refine Eqv_q fun P S nf np nl ng w s => ?_
  have hnf : nf ≤ 6 := w.1.1
  have hnp : np ≤ 6 := w.1.2.1
  by_cases hp : prs a0 np ∧ prs a1 np ∧ a0 ≠ a1
  rotate_left
  · refine ⟨-1, fun h c => ⟨h, scA_rf h, ?_⟩, fun h m => ⟨_, scB_0 h, ?_⟩⟩
    · unfold g_X10_meet; rw [xg_D0 c w hp]
    · unfold g_X11_meet
      simp only [pfI]
      rw [rg_D0 (m.B hnp (scB_0 h)).1 hnp hp]
  obtain ⟨a, b, ha, hb, hab, rfl, rfl⟩ := prs_ne hp
  by_cases y0 : a2 < 0
  · refine ⟨-1, fun h c => ⟨h, scA_rf h, ?_⟩, fun h m => ⟨_, scB_0 h, ?_⟩⟩
    · unfold g_X10_meet; rw [xg_D1 c w ha hb hab, if_pos y0]
    · unfold g_X11_meet
      simp only [pfI]
      rw [rg_D1 (m.B hnp (scB_0 h)).1 hnp ha hb hab, if_pos y0]
  by_cases y1 : 1 < a2
  · refine ⟨-1, fun h c => ⟨h, scA_rf h, ?_⟩, fun h m => ⟨_, scB_0 h, ?_⟩⟩
    · unfold g_X10_meet; rw [xg_D1 c w ha hb hab, if_neg y0, if_pos y1]
    · unfold g_X11_meet
      simp only [pfI]
      rw [rg_D1 (m.B hnp (scB_0 h)).1 hnp ha hb hab, if_neg y0, if_pos y1]
  obtain ⟨fa, fa1, fa2⟩ := s.1 a ha
  obtain ⟨fb, fb1, fb2⟩ := s.1 b hb
  obtain ⟨u, u1, u2⟩ := w.2.2.2.2.2.1 a ha
  obtain ⟨v, v1, v2⟩ := w.2.2.2.2.2.1 b hb
  have oka := okD_it w (up := upc P S (P 3) np a) (fun g cc hg => (upc_ok (f := g) u1 u2).2 cc hg) (d0_ok fa) nf (by omega)
  have okb := okD_it w (up := upc P S (P 3) np b) (fun g cc hg => (upc_ok (f := g) v1 v2).2 cc hg) (d0_ok fb) nf (by omega)
  obtain ⟨D, hD⟩ : ∃ D, D = itR (aE' (upc P S (P 3) np a) P nf nl) nf (d0A fa) := ⟨_, rfl⟩
  obtain ⟨E, hE⟩ : ∃ E, E = itR (aE' (upc P S (P 3) np b) P nf nl) nf (d0A fb) := ⟨_, rfl⟩
  rw [← hD] at oka
  rw [← hE] at okb
  obtain ⟨N, hN⟩ : ∃ N : Nat, N = 1024 := ⟨_, rfl⟩
  obtain ⟨b', x', y', g1, g2, g3⟩ := mt_L w oka okb (by omega) (fun (z26 : Int32) (z27 : Int32) (h25 : HH) => if a2 = 0 then some (z26, h25) else some (z27, h25)) (fun (z21 : Int32) (z22 : Int32) (h20 : HH) => if z21 < 0 then some (z21, h20) else if a2 = 0 then some (z21, h20) else some (z22, h20)) a2 a2 (nf + 1) 0 N N (-2) (-2) 999999 (by omega) (by omega) (by omega) (Or.inl ⟨rfl, rfl, rfl⟩)
  refine ⟨if a2 = 0 then b' else x', fun h c => ?_, fun h m => ?_⟩
  · obtain ⟨p, h1, s1, c1, k1, -, -, p0, e1⟩ := x_look c w
    obtain ⟨h2, e2, k2, w2, f2, r2⟩ := x_seek (Or.inl rfl) w k1 ha fa2 fa1
    obtain ⟨h3, e3, k3, w3, f3, r3⟩ := x_seek (Or.inr rfl) w k2 hb fb2 fb1
    rw [← hD] at w2
    rw [← hE] at w3
    have w2' : wX 247 h3 D (nf + 1) := w2.fr (fun k => f3 _ _ (by omega)) (fun k => f3 _ _ (by omega))
    have p3 : h3.2.2 0 = p := by rw [r3, r2]; exact p0
    refine ⟨h3, s1.tr ⟨fun x k q => by rw [f3 x k (by omega), f2 x k (by omega)], fun j _ => by rw [r3, r2]⟩, ?_⟩
    unfold g_X10_meet
    rw [xg_D1 c w ha hb hab, if_neg y0, if_neg y1, e1, bnd_some, e2, bnd_some, e3, bnd_some, ← hN]
    refine (g2 h3 p p3 k3.2.2.2.1 ((k3.2.2.2.2.2.2.1 0 0 (by decide)).trans w.1.2.2.2.2.2.1) w2' w3).trans ?_
    by_cases q : a2 = 0
    · rw [if_pos q, if_pos q]
    · rw [if_neg q, if_neg q]
  · have mB := m.B hnp (scB_0 h)
    obtain ⟨h2, e2, s2, w2, f2⟩ := r_laysWays (B := 0) (by decide) w mB ha fa2 fa1
    have m2 := mB.B hnp s2
    obtain ⟨h3, e3, s3, w3, f3⟩ := r_laysWays (B := 1) (by decide) w m2 hb fb2 fb1
    have m3 := m2.B hnp s3
    rw [← hD] at w2
    rw [← hE] at w3
    have w2' : wM 0 h3 D (nf + 1) := w2.fr (fun x k q q1 q2 => f3 x k q (by omega))
    refine ⟨h3, ((scB_0 h).tr s2).tr s3, ?_⟩
    unfold g_X11_meet
    simp only [pfI]
    rw [rg_D1 mB.1 hnp ha hb hab, if_neg y0, if_neg y1, show g_X11_laysWays 0 (nI a) (wrI h 255 0 0) = _ from e2, bnd_some, show g_X11_laysWays 1 (nI b) h2 = _ from e3, bnd_some, ← hN]
    refine (g3 h3 m3.1.1 w2' w3).trans ?_
    rcases g1 with ⟨rfl, rfl, rfl⟩ | ⟨j, z, rfl, hj, hz, rfl, rfl⟩
    · rw [if_pos (by decide)]
      by_cases q : a2 = 0
      · rw [if_pos q]
      · rw [if_neg q]
    · rw [if_neg (nI_pos (by omega))]
      by_cases q : a2 = 0
      · rw [if_pos q, if_pos q]
      · rw [if_neg q, if_neg q]
