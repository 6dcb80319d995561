/-! law -/
theorem r_hasLaw {h : HH} {P : TB} {nf np nl ng : Nat} (m : MP h P nf np nl ng) (wl : lwOkA P) {r : Nat} (hr : r < 3) : g_X11_hasLaw (nI r) h = some (if (P 14 r).toNatClampNeg < (P 15 r).toNatClampNeg then 1 else 0, h) := by
  obtain ⟨s, e, hs, he, ⟨o1, o2, o3⟩, ok⟩ := wl r hr
  obtain ⟨m1, m2, m3⟩ := m.2.2.2.2.2.2.2.2.2 r hr
  have e1 : (P 14 r).toNatClampNeg = s := by rw [hs]; exact nI_clamp (by omega)
  have e2 : (P 15 r).toNatClampNeg = e := by rw [he]; exact nI_clamp (by omega)
  rw [e1, e2]
  unfold g_X11_hasLaw
  rw [ldI_of (by omega) (by decide), ldI_of (by omega) (by decide), m1, m2, hs, he]
  by_cases c : s < e
  · rw [if_pos (nI_lt c (by omega)), if_pos c]
  · rw [if_neg (nI_nlt (by omega) (by omega)), if_neg c]
theorem c_law (a0 a1 a2 : Int32) : Eqv (g_X10_law a0 a1 a2) (g_X11_law a0 a1 a2) := by
  refine Eqv_q fun P S nf np nl ng w s => ?_
  have hnf : nf ≤ 6 := w.1.1
  have hnp : np ≤ 6 := w.1.2.1
  by_cases hr : prs a0 3
  · obtain ⟨r, hr, rfl⟩ := hr
    have n0 : ¬ nI r < 0 := nI_pos (by omega)
    have n3 : nI r < 3 := nI_lt (b := 3) hr (by decide)
    have n2 : ¬ 2 < nI r := nI_nlt (b := r) (a := 2) (by omega) (by decide)
    by_cases hp : prs a1 np ∧ prs a2 nf
    · obtain ⟨⟨a, ha, rfl⟩, f, hf, rfl⟩ := hp
      refine ⟨lwA P S (P 3) np r a f 0, fun h c => ?_, fun h m => ?_⟩
      · obtain ⟨p, h1, s1, c1, k1, -, -, -, e1⟩ := x_look c w
        obtain ⟨h2, s2, k2, e2⟩ := k1.va (r := r) (a := a) (f := f) hr (by omega) (by omega) 0
        refine ⟨h2, s1.tr (scA_all (k1.A s2 k2) s2.2.2), ?_⟩
        unfold g_X10_law
        rw [if_neg n0, if_pos n3, xg_P1 c w ha, xg_F1 c w hf, e1, bnd_some, e2, bnd_some]
      · have m1 := m.B hnp (scB_0 h)
        have mA := m1.at w
        obtain ⟨h2, s2, e2, z1, z2⟩ := r_calls mA.1 mA.2.1 mA.2.2.1 (by decide) hnf hnp ha hf
        have mB := mA.mv s2
        obtain ⟨q1, q2, q3⟩ := r_goes (h := h2) (a := a) (f := f) (S := S) (fo := P 3) mB.1 w.2.1 hr 0 (by rw [Int32.sub_zero]; exact z1) z2
        have e2' : g_X11_calls 0 (nI a) (nI f) (wrI h 255 0 0) = _ := e2
        unfold g_X11_law
        simp only [pfI]
        rw [if_neg n0, if_neg n2, r_hasLaw m1.1 w.2.1 hr, bnd_some]
        by_cases kl : (P 14 r).toNatClampNeg < (P 15 r).toNatClampNeg
        · obtain ⟨h3, s3, e3, v3⟩ := q3 kl
          refine ⟨h3, ((scB_0 h).tr s2.B).tr s3.M.B, ?_⟩
          rw [if_pos kl, if_neg (by decide), rg_A1 m1.1 hnf hnp ha hf, e2', bnd_some, e3, bnd_some]
          by_cases k2 : lwA P S (P 3) np r a f 0 = eM
          · rw [if_pos k2, if_pos rfl, k2]
          · rw [if_neg k2, if_neg (by decide), ldL_0 (by decide) (by decide), v3 k2]
        · refine ⟨_, scB_0 h, ?_⟩
          rw [if_neg kl, if_pos rfl, q2 kl]
    · refine ⟨eM, fun h c => ⟨h, scA_rf h, ?_⟩, fun h m => ⟨_, scB_0 h, ?_⟩⟩
      · unfold g_X10_law
        rw [if_neg n0, if_pos n3]
        by_cases pa : prs a1 np
        · have pf : ¬ prs a2 nf := fun q => hp ⟨pa, q⟩
          obtain ⟨k, hk, rfl⟩ := pa
          rw [xg_P1 c w hk, xg_F0 c w pf]
        · rw [xg_P0 c w pa]
      · have m1 := m.B hnp (scB_0 h)
        unfold g_X11_law
        simp only [pfI]
        rw [if_neg n0, if_neg n2, r_hasLaw m1.1 w.2.1 hr, bnd_some]
        by_cases kl : (P 14 r).toNatClampNeg < (P 15 r).toNatClampNeg
        · rw [if_pos kl, if_neg (by decide), rg_A0 m1.1 hnf hnp hp]
        · rw [if_neg kl, if_pos rfl]
  · refine ⟨eM, fun h c => ⟨h, scA_rf h, ?_⟩, fun h m => ⟨_, scB_0 h, ?_⟩⟩
    · unfold g_X10_law
      by_cases n0 : a0 < 0
      · rw [if_pos n0]
      · rw [if_neg n0, if_neg (show ¬ a0 < 3 from prs_n hr n0)]
    · unfold g_X11_law
      simp only [pfI]
      by_cases n0 : a0 < 0
      · rw [if_pos n0]
      · rw [if_neg n0, if_pos (show 2 < a0 from prs_n1 (n := 2) hr n0 (by decide))]
/-! order, soon -/
theorem RW_get : ∀ (l : List Nat) (k : Nat), k < l.length → ∃ v : Int32, ∀ A h, RW A h l 0 → h.1 A k = v
  | [], k, hk => absurd hk (Nat.not_lt_zero _)
  | x :: s, k, hk => by
    by_cases e : k = s.length
    · refine ⟨nI x, fun A h r => ?_⟩
      have := r.1
      rw [Nat.zero_add] at this
      rw [e]; exact this
    · obtain ⟨v, hv⟩ := RW_get s k (by simp at hk; omega)
      exact ⟨v, fun A h r => hv A h r.2⟩
theorem idR_0 {h : HH} {P S : TB} {nf np nl ng : Nat} (m : RM1 h P S nf np nl ng) (w : PW P nf np nl ng) : idR h P ng (-1) := by
  refine Or.inr ⟨by rw [m.2.2.2.1]; decide, fun g hg e => ?_⟩
  obtain ⟨g1, g2, g3⟩ := pg_ok w.1 hg
  rw [g3] at e
  exact m1_ne _ (by omega) e
theorem scK.B {h h' : HH} (e : scK h h') : scB h h' := ⟨fun a k u => e.1 a k (by
  rcases u with u | u | u | ⟨s, _, _, u⟩ | u
  · omega
  · omega
  · omega
  · unfold inH at u; omega
  · omega) (by
  rcases u with u | u | u | ⟨s, _, _, u⟩ | u
  · omega
  · omega
  · omega
  · unfold inH at u; omega
  · omega) (by
  rcases u with u | u | u | ⟨s, _, _, u⟩ | u
  · omega
  · omega
  · omega
  · unfold inH at u; omega
  · omega), fun j _ => by rw [e.2]⟩
theorem scR.A {h h' : HH} (s : scR h h') : scA h h' := ⟨fun a k u => s.1 a k (by omega) (by omega), fun j _ => by rw [s.2.2]⟩
theorem c_order (a0 a1 : Int32) : Eqv (g_X10_order a0 a1) (g_X11_order a0 a1) := by
  refine Eqv_q fun P S nf np nl ng w s => ?_
  have hnp : np ≤ 6 := w.1.2.1
  have h20 : ng ≤ 20 := w.1.2.2.2.1
  by_cases h0 : a0 < 0
  · refine ⟨-1, fun h c => ⟨h, scA_rf h, ?_⟩, fun h m => ⟨_, scB_0 h, ?_⟩⟩
    · unfold g_X10_order; rw [if_pos h0]
    · unfold g_X11_order g_X11_isHour
      simp only [pfI]
      rw [if_pos h0, bnd_some, if_pos rfl]
  obtain ⟨u, hu, rfl⟩ := nI_of h0
  by_cases h99 : u < 100
  rotate_left
  · refine ⟨-1, fun h c => ⟨h, scA_rf h, ?_⟩, fun h m => ⟨_, scB_0 h, ?_⟩⟩
    · unfold g_X10_order; rw [if_neg h0, if_neg (show ¬ nI u < 100 from nI_nlt (b := 100) (by omega) hu)]
    · unfold g_X11_order g_X11_isHour
      simp only [pfI]
      rw [if_neg h0, if_pos (show 99 < nI u from nI_lt (a := 99) (by omega) hu), bnd_some, if_pos rfl]
  have c1 : nI u < 100 := nI_lt (b := 100) h99 (by decide)
  have c2 : ¬ 99 < nI u := nI_nlt (a := 99) (by omega) (by decide)
  by_cases k0 : a1 < 0
  · refine ⟨-1, fun h c => ⟨h, scA_rf h, ?_⟩, fun h m => ⟨_, scB_0 h, ?_⟩⟩
    · unfold g_X10_order; rw [if_neg h0, if_pos c1, if_pos k0]
    · unfold g_X11_order g_X11_isHour
      simp only [pfI]
      rw [if_neg h0, if_neg c2, bnd_some, if_neg (by decide), if_pos k0]
  obtain ⟨k, hk, rfl⟩ := nI_of k0
  obtain ⟨ol, om⟩ := ordA_ok P S (P 3) (nI u) (-1) ng
  obtain ⟨v, hv⟩ : ∃ v : Int32, ∀ A (h : HH), RW A h (ordA P S (P 3) (nI u) (-1) ng) 0 → k < (ordA P S (P 3) (nI u) (-1) ng).length → h.1 A k = v := by
    by_cases hl : k < (ordA P S (P 3) (nI u) (-1) ng).length
    · obtain ⟨v, hv⟩ := RW_get _ k hl
      exact ⟨v, fun A h r _ => hv A h r⟩
    · exact ⟨0, fun A h r q => absurd q hl⟩
  refine ⟨if k < (ordA P S (P 3) (nI u) (-1) ng).length then v else -2, fun h c => ?_, fun h m => ?_⟩
  · obtain ⟨p, h1, s1, c1', k1, k7, k8, -, e1⟩ := x_look c w
    obtain ⟨h2, s2, k2, e2, l2, r2⟩ := x_lineUp w.1 (nI u) (-1) k1 k7
    refine ⟨h2, s1.tr s2.A, ?_⟩
    unfold g_X10_order
    rw [if_neg h0, if_pos c1, if_neg k0, e1, bnd_some, e2, bnd_some]
    simp only [gfI]
    rw [l2]
    by_cases hl : k < (ordA P S (P 3) (nI u) (-1) ng).length
    · rw [if_pos (nI_lt hl (by omega)), if_pos hl, ldI_of (by omega) (by decide), hv 194 h2 r2 hl]
    · rw [if_neg (nI_nlt (by omega) (by omega)), if_neg hl]
  · have m1 := m.B hnp (scB_0 h)
    obtain ⟨h2, s2, k2, e2, l2, r2⟩ := r_laysOrder (m1.at w) w.1 (idR_0 m1 w) (nI u)
    refine ⟨h2, (scB_0 h).tr s2.B, ?_⟩
    have e2' : g_X11_laysOrder 0 (nI u) (wrI h 255 0 0) = _ := e2
    unfold g_X11_order g_X11_isHour
    simp only [pfI]
    rw [if_neg h0, if_neg c2, bnd_some, if_neg (by decide), if_neg k0, e2', bnd_some]
    simp only [gfI]
    rw [l2]
    by_cases hl : k < (ordA P S (P 3) (nI u) (-1) ng).length
    · rw [if_pos (nI_lt hl (by omega)), if_pos hl, ldI_of (by omega) (by decide), hv 284 h2 r2 hl]
    · rw [if_neg (nI_nlt (by omega) (by omega)), if_neg hl]
theorem r_soon_L {h : HH} {P : TB} {nf np nl ng : Nat} (m : MP h P nf np nl ng) (w : gOk P nf np nl ng) {u : Nat} (hu : u < 2 ^ 31) : ∀ (k i n : Nat), i + k = ng → k < n → g_X11_soon_L19 (nI u) n (if fhA P (nI u) i = -1 then -2 else fhA P (nI u) i) (nI i) h = some (if fhA P (nI u) ng = -1 then -2 else fhA P (nI u) ng, h) := by
  have h20 := w.2.2.2.1
  intro k
  induction k with
  | zero =>
    intro i n hi hn
    obtain ⟨n, rfl⟩ : ∃ n', n = n' + 1 := ⟨n - 1, by omega⟩
    rw [g_X11_soon_L19, ldI_3 (by decide) (by decide), m.2.2.2.1, if_neg (nI_nlt (by omega) (by omega)), show i = ng by omega]
  | succ k ih =>
    intro i n hi hn
    obtain ⟨n, rfl⟩ : ∃ n', n = n' + 1 := ⟨n - 1, by omega⟩
    have h1 := ih (i + 1) n (by omega) (by omega)
    have hfs : fhA P (nI u) (i + 1) = if P 9 i < nI u then fhA P (nI u) i else if fhA P (nI u) i = -1 ∨ P 9 i < fhA P (nI u) i then P 9 i else fhA P (nI u) i := rfl
    obtain ⟨-, -, ⟨x, hx, ex⟩, -⟩ := w.2.2.2.2.2.2.1 i (by omega)
    have x1 : ¬ P 9 i = -1 := by rw [ex]; exact m1_ne x (by omega)
    have hm3 := (m.2.2.2.2.2.2.2.2.1 i (by omega)).2.2.1
    rw [hfs] at h1
    rw [g_X11_soon_L19, ldI_3 (by decide) (by decide), m.2.2.2.1, if_pos (nI_lt (by omega) (by omega)), ldI_of (by omega) (by decide), hm3]
    simp only [jn, vl, nI_1]
    by_cases k0 : P 9 i < nI u
    · rw [if_pos k0] at h1 ⊢; exact h1
    · rw [if_neg k0] at h1 ⊢
      by_cases k1 : fhA P (nI u) i = -1
      · rw [if_pos (Or.inl k1), if_neg x1] at h1
        rw [if_pos k1, if_pos (by decide), ldI_of (by omega) (by decide), hm3]
        exact h1
      · have kn : ¬ fhA P (nI u) i < 0 := by
          rcases fhA_ok w hu i (by omega) with ⟨f1, f2⟩ | ⟨v, f1, f2, f3, f4⟩
          · exact absurd f1 k1
          · rw [f3]; exact nI_pos (by omega)
        rw [if_neg k1, if_neg kn, ldI_of (by omega) (by decide), hm3]
        by_cases k2 : P 9 i < fhA P (nI u) i
        · rw [if_pos (Or.inr k2), if_neg x1] at h1
          rw [if_pos k2, ldI_of (by omega) (by decide), hm3]
          exact h1
        · rw [if_neg (show ¬ (fhA P (nI u) i = -1 ∨ P 9 i < fhA P (nI u) i) by simp [k1, k2]), if_neg k1] at h1
          rw [if_neg k2]
          exact h1
theorem c_soon (a0 : Int32) : Eqv (g_X10_soon a0) (g_X11_soon a0) := by
  refine Eqv_q fun P S nf np nl ng w s => ?_
  have hnp : np ≤ 6 := w.1.2.1
  have h20 : ng ≤ 20 := w.1.2.2.2.1
  by_cases h0 : a0 < 0
  · refine ⟨-1, fun h c => ⟨h, scA_rf h, ?_⟩, fun h m => ⟨_, scB_0 h, ?_⟩⟩
    · unfold g_X10_soon; rw [if_pos h0]
    · unfold g_X11_soon g_X11_isHour
      simp only [pfI]
      rw [if_pos h0, bnd_some, if_pos rfl]
  obtain ⟨u, hu, rfl⟩ := nI_of h0
  by_cases h99 : u < 100
  rotate_left
  · refine ⟨-1, fun h c => ⟨h, scA_rf h, ?_⟩, fun h m => ⟨_, scB_0 h, ?_⟩⟩
    · unfold g_X10_soon; rw [if_neg h0, if_neg (show ¬ nI u < 100 from nI_nlt (b := 100) (by omega) hu)]
    · unfold g_X11_soon g_X11_isHour
      simp only [pfI]
      rw [if_neg h0, if_pos (show 99 < nI u from nI_lt (a := 99) (by omega) hu), bnd_some, if_pos rfl]
  have c1 : nI u < 100 := nI_lt (b := 100) h99 (by decide)
  have c2 : ¬ 99 < nI u := nI_nlt (a := 99) (by omega) (by decide)
  refine ⟨if fhA P (nI u) ng = -1 then -2 else fhA P (nI u) ng, fun h c => ⟨h, scA_rf h, ?_⟩, fun h m => ⟨_, scB_0 h, ?_⟩⟩
  · obtain ⟨p, hp, c0, sp, c3⟩ := c.p
    unfold g_X10_soon
    simp only [gfR]
    rw [if_neg h0, if_pos c1, c0, ckH_of sp, x_firstHour sp w.1 (nI u) c3, bnd_some]
    by_cases k : fhA P (nI u) ng = -1
    · rw [if_pos k, if_pos k]
    · rw [if_neg k, if_neg k]
  · have m1 := m.B hnp (scB_0 h)
    obtain ⟨N, hN⟩ : ∃ N : Nat, N = 1024 := ⟨_, rfl⟩
    have e := r_soon_L m1.1 w.1 hu ng 0 N (by omega) (by omega)
    unfold g_X11_soon g_X11_isHour
    simp only [pfI]
    rw [if_neg h0, if_neg c2, bnd_some, if_neg (by decide), ← hN]
    exact e
/-! entry, beside -/
theorem x_told {i : Nat} (hi : i < 36) (h : HH) : g_X10_told (nI i) h = some (nI (i / 6 * 10 + i % 6), h) := by
  unfold g_X10_told
  rw [dvI_of (by decide), rmI_of (by decide), show (6 : Int32) = nI 6 from rfl, pk_rem (by omega) (by decide) (by decide), pk_div (by omega) (by decide) (by decide), show (10 : Int32) = nI 10 from rfl, pk_mul, nI_add]
theorem r_outward {i : Nat} (hi : i < 36) (h : HH) : g_X11_outward (nI i) h = some (nI (i / 6 * 10 + i % 6), h) := by
  unfold g_X11_outward
  rw [dvI_of (by decide), rmI_of (by decide), show (6 : Int32) = nI 6 from rfl, pk_rem (by omega) (by decide) (by decide), pk_div (by omega) (by decide) (by decide), show (10 : Int32) = nI 10 from rfl, pk_mul, nI_add, Nat.mul_comm]
theorem en_L {S : TB} {np : Nat} : ∀ (m i n1 n2 : Nat) (x : Int32), i + m = 36 → m < n1 → m < n2 → ∃ v : Int32,
    (∀ h, CS h 52 S → g_X10_entry_L10 (fun (z9 : Int32) (h8 : HH) => bnd (g_X10_told z9 h8) fun r11 h10 => some (r11, h10)) n1 x (nI i) h = some (v, h)) ∧
    ∀ h, MS h 0 S np → g_X11_entry_L15 (fun (z10 : Int32) (h9 : HH) => bnd (g_X11_outward z10 h9) fun r12 h11 => some (r12, h11)) n2 x (nI i) h = some (v, h) := by
  intro m
  induction m with
  | zero =>
    intro i n1 n2 x hi h1 h2
    obtain ⟨n1, rfl⟩ : ∃ n', n1 = n' + 1 := ⟨n1 - 1, by omega⟩
    obtain ⟨n2, rfl⟩ : ∃ n', n2 = n' + 1 := ⟨n2 - 1, by omega⟩
    have e : ¬ nI i < 36 := nI_nlt (b := 36) (by omega) (by omega)
    exact ⟨-2, fun h c => by rw [g_X10_entry_L10, if_neg e], fun h m => by rw [g_X11_entry_L15, if_neg e]⟩
  | succ m ih =>
    intro i n1 n2 x hi h1 h2
    obtain ⟨n1, rfl⟩ : ∃ n', n1 = n' + 1 := ⟨n1 - 1, by omega⟩
    obtain ⟨n2, rfl⟩ : ∃ n', n2 = n' + 1 := ⟨n2 - 1, by omega⟩
    have e : nI i < 36 := nI_lt (b := 36) (by omega) (by omega)
    have hi36 : i < 36 := by omega
    by_cases k : S 5 i = 0
    · obtain ⟨v, v1, v2⟩ := ih (i + 1) n1 n2 x (by omega) (by omega) (by omega)
      refine ⟨v, fun h c => ?_, fun h m => ?_⟩
      · rw [g_X10_entry_L10, if_pos e, ldI_of hi36 (by decide), c 5 i (by decide)]
        simp only [jn, vl, nI_1]
        rw [if_pos k]; exact v1 h c
      · rw [g_X11_entry_L15, if_pos e, ldI_of (by omega) (by decide), m.t0 hi36]
        simp only [jn, vl, nI_1]
        rw [if_pos k]; exact v2 h m
    · by_cases k2 : x = 0
      · refine ⟨nI (i / 6 * 10 + i % 6), fun h c => ?_, fun h m => ?_⟩
        · rw [g_X10_entry_L10, if_pos e, ldI_of hi36 (by decide), c 5 i (by decide)]
          simp only [jn, vl, nI_1]
          rw [if_neg k, if_pos k2, x_told hi36, bnd_some]
        · rw [g_X11_entry_L15, if_pos e, ldI_of (by omega) (by decide), m.t0 hi36]
          simp only [jn, vl, nI_1]
          rw [if_neg k, if_pos k2, r_outward hi36, bnd_some]
      · obtain ⟨v, v1, v2⟩ := ih (i + 1) n1 n2 (x + -1) (by omega) (by omega) (by omega)
        refine ⟨v, fun h c => ?_, fun h m => ?_⟩
        · rw [g_X10_entry_L10, if_pos e, ldI_of hi36 (by decide), c 5 i (by decide)]
          simp only [jn, vl, nI_1]
          rw [if_neg k, if_neg k2]; exact v1 h c
        · rw [g_X11_entry_L15, if_pos e, ldI_of (by omega) (by decide), m.t0 hi36]
          simp only [jn, vl, nI_1]
          rw [if_neg k, if_neg k2]; exact v2 h m
theorem c_entry (a0 : Int32) : Eqv (g_X10_entry a0) (g_X11_entry a0) := by
  refine Eqv_q fun P S nf np nl ng w s => ?_
  have hnp : np ≤ 6 := w.1.2.1
  by_cases h0 : a0 < 0
  · refine ⟨-1, fun h c => ⟨h, scA_rf h, ?_⟩, fun h m => ⟨_, scB_0 h, ?_⟩⟩
    · unfold g_X10_entry; rw [if_pos h0]
    · unfold g_X11_entry
      simp only [pfI]
      rw [if_pos h0]
  · obtain ⟨N, hN⟩ : ∃ N : Nat, N = 1024 := ⟨_, rfl⟩
    obtain ⟨v, v1, v2⟩ := en_L (S := S) (np := np) 36 0 N N a0 (by omega) (by omega) (by omega)
    refine ⟨v, fun h c => ⟨h, scA_rf h, ?_⟩, fun h m => ⟨_, scB_0 h, ?_⟩⟩
    · unfold g_X10_entry; rw [if_neg h0, ← hN]; exact v1 h c.s
    · have m1 := m.B hnp (scB_0 h)
      unfold g_X11_entry
      simp only [pfI]
      rw [if_neg h0, ← hN]; exact v2 _ m1.2.1
theorem be_U {S : TB} {np : Nat} : ∀ (m i n1 n2 : Nat), i + m = 36 → m < n1 → m < n2 → ∃ v : Int32,
    (∀ h, CS h 52 S → g_X10_beside_L48 (fun (z15 : Int32) (h14 : HH) => bnd (g_X10_told z15 h14) fun r17 h16 => some (r17, h16)) 1 n1 (nI i) h = some (v, h)) ∧
    ∀ h, MS h 0 S np → g_X11_beside_L47 (fun (z12 : Int32) (h11 : HH) => bnd (g_X11_outward z12 h11) fun r14 h13 => some (r14, h13)) 1 n2 (nI i) h = some (v, h) := by
  intro m
  induction m with
  | zero =>
    intro i n1 n2 hi h1 h2
    obtain ⟨n1, rfl⟩ : ∃ n', n1 = n' + 1 := ⟨n1 - 1, by omega⟩
    obtain ⟨n2, rfl⟩ : ∃ n', n2 = n' + 1 := ⟨n2 - 1, by omega⟩
    have e : ¬ nI i < 36 := nI_nlt (b := 36) (by omega) (by omega)
    have e0 : ¬ nI i < 0 := nI_pos (by omega)
    exact ⟨-2, fun h c => by rw [g_X10_beside_L48, if_neg e0, if_neg e], fun h m => by rw [g_X11_beside_L47, if_neg e0, if_neg e]⟩
  | succ m ih =>
    intro i n1 n2 hi h1 h2
    obtain ⟨n1, rfl⟩ : ∃ n', n1 = n' + 1 := ⟨n1 - 1, by omega⟩
    obtain ⟨n2, rfl⟩ : ∃ n', n2 = n' + 1 := ⟨n2 - 1, by omega⟩
    have e : nI i < 36 := nI_lt (b := 36) (by omega) (by omega)
    have e0 : ¬ nI i < 0 := nI_pos (by omega)
    have hi36 : i < 36 := by omega
    by_cases k : S 5 i = 0
    · obtain ⟨v, v1, v2⟩ := ih (i + 1) n1 n2 (by omega) (by omega) (by omega)
      refine ⟨v, fun h c => ?_, fun h m => ?_⟩
      · rw [g_X10_beside_L48, if_neg e0, if_pos e, ldI_of hi36 (by decide), c 5 i (by decide)]
        simp only [vl, nI_1]
        rw [if_pos k]; exact v1 h c
      · rw [g_X11_beside_L47, if_neg e0, if_pos e, ldI_of (by omega) (by decide), m.t0 hi36]
        simp only [vl, nI_1]
        rw [if_pos k]; exact v2 h m
    · refine ⟨nI (i / 6 * 10 + i % 6), fun h c => ?_, fun h m => ?_⟩
      · rw [g_X10_beside_L48, if_neg e0, if_pos e, ldI_of hi36 (by decide), c 5 i (by decide), if_neg k, x_told hi36, bnd_some]
      · rw [g_X11_beside_L47, if_neg e0, if_pos e, ldI_of (by omega) (by decide), m.t0 hi36, if_neg k, r_outward hi36, bnd_some]
theorem be_D {S : TB} {np : Nat} : ∀ (i n1 n2 : Nat), i ≤ 36 → i < n1 → i < n2 → ∃ v : Int32,
    (∀ h, CS h 52 S → g_X10_beside_L48 (fun (z15 : Int32) (h14 : HH) => bnd (g_X10_told z15 h14) fun r17 h16 => some (r17, h16)) (-1) n1 (nI i + -1) h = some (v, h)) ∧
    ∀ h, MS h 0 S np → g_X11_beside_L47 (fun (z12 : Int32) (h11 : HH) => bnd (g_X11_outward z12 h11) fun r14 h13 => some (r14, h13)) (-1) n2 (nI i + -1) h = some (v, h) := by
  intro i
  induction i with
  | zero =>
    intro n1 n2 hi h1 h2
    obtain ⟨n1, rfl⟩ : ∃ n', n1 = n' + 1 := ⟨n1 - 1, by omega⟩
    obtain ⟨n2, rfl⟩ : ∃ n', n2 = n' + 1 := ⟨n2 - 1, by omega⟩
    exact ⟨-2, fun h c => by rw [g_X10_beside_L48, if_pos (by decide)], fun h m => by rw [g_X11_beside_L47, if_pos (by decide)]⟩
  | succ i ih =>
    intro n1 n2 hi h1 h2
    obtain ⟨n1, rfl⟩ : ∃ n', n1 = n' + 1 := ⟨n1 - 1, by omega⟩
    obtain ⟨n2, rfl⟩ : ∃ n', n2 = n' + 1 := ⟨n2 - 1, by omega⟩
    have hi36 : i < 36 := by omega
    have e : nI i < 36 := nI_lt (b := 36) hi36 (by omega)
    have e0 : ¬ nI i < 0 := nI_pos (by omega)
    rw [pk_m1]
    by_cases k : S 5 i = 0
    · obtain ⟨v, v1, v2⟩ := ih n1 n2 (by omega) (by omega) (by omega)
      refine ⟨v, fun h c => ?_, fun h m => ?_⟩
      · rw [g_X10_beside_L48, if_neg e0, if_pos e, ldI_of hi36 (by decide), c 5 i (by decide)]
        simp only [vl]
        rw [if_pos k]; exact v1 h c
      · rw [g_X11_beside_L47, if_neg e0, if_pos e, ldI_of (by omega) (by decide), m.t0 hi36]
        simp only [vl]
        rw [if_pos k]; exact v2 h m
    · refine ⟨nI (i / 6 * 10 + i % 6), fun h c => ?_, fun h m => ?_⟩
      · rw [g_X10_beside_L48, if_neg e0, if_pos e, ldI_of hi36 (by decide), c 5 i (by decide), if_neg k, x_told hi36, bnd_some]
      · rw [g_X11_beside_L47, if_neg e0, if_pos e, ldI_of (by omega) (by decide), m.t0 hi36, if_neg k, r_outward hi36, bnd_some]
theorem c_beside (a0 a1 a2 : Int32) : Eqv (g_X10_beside a0 a1 a2) (g_X11_beside a0 a1 a2) := by
  obtain ⟨N, hN⟩ : ∃ N : Nat, N = 1024 := ⟨_, rfl⟩
  refine Eqv_PF a0 a1 (-1) (fun a0 a1 h3 => if a2 < 0 then some ((-1 : Int32), h3) else if (1 : Int32) < a2 then some ((-1 : Int32), h3) else
      jn (fun (y8 : Int32) (h7 : HH) => bnd (g_X10_cell a0 a1 h7) fun r10 h9 => vl ((r10 + y8)) fun v11 => g_X10_beside_L48 (fun (z15 : Int32) (h14 : HH) => bnd (g_X10_told z15 h14) fun r17 h16 => some (r17, h16)) y8 N v11 h9) fun j5 => if a2 = 0 then j5 (1 : Int32) h3 else j5 (-1 : Int32) h3)
    (fun a0 a1 h2 => if a2 < 0 then some ((-1 : Int32), h2) else if (1 : Int32) < a2 then some ((-1 : Int32), h2) else
      jn (fun (y7 : Int32) (h6 : HH) => vl (((((6 : Int32) * a0) + a1) + y7)) fun v8 => g_X11_beside_L47 (fun (z12 : Int32) (h11 : HH) => bnd (g_X11_outward z12 h11) fun r14 h13 => some (r14, h13)) y7 N v8 h6) fun j4 => if a2 = 0 then j4 (1 : Int32) h2 else j4 (-1 : Int32) h2)
    (fun _ => by rw [hN]; rfl) (fun _ => by rw [hN]; rfl) fun P S nf np nl ng a f w s ha hf => ?_
  have hnf : nf ≤ 6 := w.1.1
  have hnp : np ≤ 6 := w.1.2.1
  by_cases h0 : a2 < 0
  · exact ⟨-1, fun h c => ⟨h, scA_rf h, by simp only [if_pos h0]⟩, fun h m => ⟨h, scB_rf h, by simp only [if_pos h0]⟩⟩
  by_cases h1 : 1 < a2
  · exact ⟨-1, fun h c => ⟨h, scA_rf h, by simp only [if_neg h0, if_pos h1]⟩, fun h m => ⟨h, scB_rf h, by simp only [if_neg h0, if_pos h1]⟩⟩
  by_cases h2 : a2 = 0
  · obtain ⟨v, v1, v2⟩ := be_U (S := S) (np := np) (35 - (6 * a + f)) (6 * a + f + 1) N N (by omega) (by omega) (by omega)
    refine ⟨v, fun h c => ⟨h, scA_rf h, ?_⟩, fun h m => ⟨h, scB_rf h, ?_⟩⟩
    · simp only [if_neg h0, if_neg h1, if_pos h2, jn, vl]
      rw [x_cell, bnd_some, nI_1]; exact v1 h c.s
    · simp only [if_neg h0, if_neg h1, if_pos h2, jn, vl]
      rw [ix6, nI_1]; exact v2 h m.2.1
  · obtain ⟨v, v1, v2⟩ := be_D (S := S) (np := np) (6 * a + f) N N (by omega) (by omega) (by omega)
    refine ⟨v, fun h c => ⟨h, scA_rf h, ?_⟩, fun h m => ⟨h, scB_rf h, ?_⟩⟩
    · simp only [if_neg h0, if_neg h1, if_neg h2, jn, vl]
      rw [x_cell, bnd_some]; exact v1 h c.s
    · simp only [if_neg h0, if_neg h1, if_neg h2, jn, vl]
      rw [ix6]; exact v2 h m.2.1
/-! crowd -/
theorem cw_in {P S : TB} {nf np nl ng i : Nat} (w : PW P nf np nl ng) (hi : i < np) : ∀ (m j n1 n2 : Nat) (x : Int32), j + m = np → m < n1 → m < n2 → ∃ v : Int32,
    (∀ h, RC1 h P S → g_X10_aheadInCrowd_L4 (nI i) n1 x (nI j) h = some (v, h)) ∧
    ∀ h K c2, RM1 h P S nf np nl ng → g_X11_crowd_L50 K (S 1 i) c2 (nI i) n2 x (nI j) h = K v h := by
  have hnp : np ≤ 6 := w.1.2.1
  intro m
  induction m with
  | zero =>
    intro j n1 n2 x hj h1 h2
    obtain ⟨n1, rfl⟩ : ∃ n', n1 = n' + 1 := ⟨n1 - 1, by omega⟩
    obtain ⟨n2, rfl⟩ : ∃ n', n2 = n' + 1 := ⟨n2 - 1, by omega⟩
    refine ⟨x, fun h c => ?_, fun h K c2 m => ?_⟩
    · obtain ⟨p, hp, c0, sp, c3⟩ := c.p
      rw [g_X10_aheadInCrowd_L4]
      simp only [gfR, gfI]
      rw [c0, ckH_of sp, show h.1 p 2 = nI np from (c3 0 2 (by decide)).trans w.2.2.1, if_neg (nI_nlt (by omega) (by omega))]
    · rw [g_X11_crowd_L50, ldI_1 (by decide) (by decide), m.1.2.1, if_neg (nI_nlt (by omega) (by omega))]
  | succ m ih =>
    intro j n1 n2 x hj h1 h2
    obtain ⟨n1, rfl⟩ : ∃ n', n1 = n' + 1 := ⟨n1 - 1, by omega⟩
    obtain ⟨n2, rfl⟩ : ∃ n', n2 = n' + 1 := ⟨n2 - 1, by omega⟩
    have hjn : j < np := by omega
    obtain ⟨v, v1, v2⟩ := ih (j + 1) n1 n2 (if S 1 j = S 1 i ∧ (P 3 i < P 3 j ∨ (P 3 j = P 3 i ∧ j < i)) then x + 1 else x) (by omega) (by omega) (by omega)
    have ji : nI j < nI i ↔ j < i := nI_ltI (by omega) (by omega)
    have jj : nI j = nI i ↔ j = i := nI_eq (by omega) (by omega)
    refine ⟨v, fun h c => ?_, fun h K c2 m => ?_⟩
    · obtain ⟨p, hp, c0, sp, c3⟩ := c.p
      have cs := c.s
      have e1 : ∀ k, h.1 53 k = S 1 k := fun k => cs 1 k (by decide)
      have e3 : ∀ k, h.1 (p + 3) k = P 3 k := fun k => c3 3 k (by decide)
      refine Eq.trans ?_ (v1 h c)
      rw [g_X10_aheadInCrowd_L4]
      simp only [gfR, gfI, jn, vl, nI_1]
      rw [c0, ckH_of sp, show h.1 p 2 = nI np from (c3 0 2 (by decide)).trans w.2.2.1, if_pos (nI_lt hjn (by omega)), ckH_of sp, ldI_of (by omega) (by decide), ckH_of sp, ldI_of (by omega) (by decide), e3, e3]
      by_cases B : P 3 i < P 3 j
      · rw [if_pos B, if_neg (by decide), ldI_of (by omega) (by decide), ldI_of (by omega) (by decide), e1, e1]
        by_cases A : S 1 j = S 1 i
        · rw [if_pos A, if_pos ⟨A, Or.inl B⟩]
        · rw [if_neg A, if_neg (fun q => A q.1)]
      · rw [if_neg B, ckH_of sp, ldI_of (by omega) (by decide), ckH_of sp, ldI_of (by omega) (by decide), e3, e3]
        by_cases C : P 3 j = P 3 i
        · rw [if_pos C]
          by_cases D : j < i
          · rw [if_pos (ji.mpr D), if_neg (by decide), ldI_of (by omega) (by decide), ldI_of (by omega) (by decide), e1, e1]
            by_cases A : S 1 j = S 1 i
            · rw [if_pos A, if_pos ⟨A, Or.inr ⟨C, D⟩⟩]
            · rw [if_neg A, if_neg (fun q => A q.1)]
          · rw [if_neg (fun q => D (ji.mp q)), if_pos True.intro, if_neg (fun q => q.2.elim B (fun z => D z.2))]
        · rw [if_neg C, if_pos True.intro, if_neg (fun q => q.2.elim B (fun z => C z.1))]
    · refine Eq.trans ?_ (v2 h K c2 m)
      have m8 := fun {a : Nat} (ha : a < np) => (m.2.1.f0 ha).1
      have m3 := m.1.2.2.2.2.2.2.1
      rw [g_X11_crowd_L50, ldI_1 (by decide) (by decide), m.1.2.1, if_pos (nI_lt hjn (by omega)), ldI_of (by omega) (by decide), m8 hjn]
      simp only [jn, vl, nI_1]
      by_cases A : S 1 j = S 1 i
      · rw [if_pos A]
        by_cases E : j = i
        · rw [if_pos (jj.mpr E), if_neg (fun q => q.2.elim (fun z => by rw [E] at z; exact Int32.lt_irrefl z) (fun z => by omega)), Int32.add_zero]
        · rw [if_neg (fun q => E (jj.mp q))]
          unfold g_X11_isStronger
          rw [ldI_of (by omega) (by decide), ldI_of (by omega) (by decide), m3 j hjn, m3 i hi]
          by_cases C : P 3 j = P 3 i
          · rw [if_pos C]
            by_cases D : j < i
            · rw [if_pos (ji.mpr D), bnd_some, if_neg (by decide), if_pos ⟨A, Or.inr ⟨C, D⟩⟩]
            · rw [if_neg (fun q => D (ji.mp q)), bnd_some, if_pos rfl, if_neg (fun q => q.2.elim (fun z => by rw [C] at z; exact Int32.lt_irrefl z) (fun z => D z.2)), Int32.add_zero]
          · rw [if_neg C, ldI_of (by omega) (by decide), ldI_of (by omega) (by decide), m3 j hjn, m3 i hi]
            by_cases B : P 3 i < P 3 j
            · rw [if_pos B, bnd_some, if_neg (by decide), if_pos ⟨A, Or.inl B⟩]
            · rw [if_neg B, bnd_some, if_pos rfl, if_neg (fun q => q.2.elim B (fun z => C z.1)), Int32.add_zero]
      · rw [if_neg A, if_neg (fun q => A q.1), Int32.add_zero]
theorem cw_out {P S : TB} {nf np nl ng : Nat} (w : PW P nf np nl ng) (fl k : Int32) : ∀ (m i n1 n2 : Nat), i + m = np → m < n1 → m < n2 → ∃ v : Int32,
    (∀ h, RC1 h P S → g_X10_crowd_L16 fl k n1 (nI i) h = some (v, h)) ∧
    ∀ h, RM1 h P S nf np nl ng → g_X11_crowd_L21 fl k n2 (nI i) h = some (v, h) := by
  have hnp : np ≤ 6 := w.1.2.1
  obtain ⟨N, hN⟩ : ∃ N : Nat, N = 1024 := ⟨_, rfl⟩
  intro m
  induction m with
  | zero =>
    intro i n1 n2 hj h1 h2
    obtain ⟨n1, rfl⟩ : ∃ n', n1 = n' + 1 := ⟨n1 - 1, by omega⟩
    obtain ⟨n2, rfl⟩ : ∃ n', n2 = n' + 1 := ⟨n2 - 1, by omega⟩
    refine ⟨-2, fun h c => ?_, fun h m => ?_⟩
    · obtain ⟨p, hp, c0, sp, c3⟩ := c.p
      rw [g_X10_crowd_L16]
      simp only [gfR, gfI]
      rw [c0, ckH_of sp, show h.1 p 2 = nI np from (c3 0 2 (by decide)).trans w.2.2.1, if_neg (nI_nlt (by omega) (by omega))]
    · rw [g_X11_crowd_L21, ldI_1 (by decide) (by decide), m.1.2.1, if_neg (nI_nlt (by omega) (by omega))]
  | succ m ih =>
    intro i n1 n2 hj h1 h2
    obtain ⟨n1, rfl⟩ : ∃ n', n1 = n' + 1 := ⟨n1 - 1, by omega⟩
    obtain ⟨n2, rfl⟩ : ∃ n', n2 = n' + 1 := ⟨n2 - 1, by omega⟩
    have hin : i < np := by omega
    obtain ⟨v, v1, v2⟩ := ih (i + 1) n1 n2 (by omega) (by omega) (by omega)
    obtain ⟨x, x1, x2⟩ := cw_in (S := S) w hin np 0 N N 0 (by omega) (by omega) (by omega)
    have x1' : ∀ h, RC1 h P S → g_X10_aheadInCrowd (nI i) h = some (x, h) := fun h c => by
      unfold g_X10_aheadInCrowd; rw [← hN]; exact x1 h c
    by_cases A : S 1 i = fl
    · refine ⟨if x = k then nI i else v, fun h c => ?_, fun h m => ?_⟩
      · obtain ⟨p, hp, c0, sp, c3⟩ := c.p
        rw [g_X10_crowd_L16]
        simp only [gfR, gfI, jn, vl, nI_1]
        rw [c0, ckH_of sp, show h.1 p 2 = nI np from (c3 0 2 (by decide)).trans w.2.2.1, if_pos (nI_lt hin (by omega)), ldI_of (by omega) (by decide), c.s 1 i (by decide), if_pos A, x1' h c, bnd_some]
        by_cases k1 : x = k
        · rw [if_pos k1, if_pos k1]
        · rw [if_neg k1, if_neg k1]; exact v1 h c
      · rw [g_X11_crowd_L21, ← hN, ldI_1 (by decide) (by decide), m.1.2.1, if_pos (nI_lt hin (by omega)), ldI_of (by omega) (by decide), (m.2.1.f0 hin).1]
        simp only [jn, vl, nI_1]
        rw [if_pos A]
        subst A
        refine (x2 h _ k m).trans ?_
        by_cases k1 : x = k
        · rw [if_pos k1, if_pos k1]
        · rw [if_neg k1, if_neg k1]; exact v2 h m
    · refine ⟨v, fun h c => ?_, fun h m => ?_⟩
      · obtain ⟨p, hp, c0, sp, c3⟩ := c.p
        rw [g_X10_crowd_L16]
        simp only [gfR, gfI, jn, vl, nI_1]
        rw [c0, ckH_of sp, show h.1 p 2 = nI np from (c3 0 2 (by decide)).trans w.2.2.1, if_pos (nI_lt hin (by omega)), ldI_of (by omega) (by decide), c.s 1 i (by decide), if_neg A]
        exact v1 h c
      · rw [g_X11_crowd_L21, ← hN, ldI_1 (by decide) (by decide), m.1.2.1, if_pos (nI_lt hin (by omega)), ldI_of (by omega) (by decide), (m.2.1.f0 hin).1]
        simp only [jn, vl, nI_1]
        rw [if_neg A]
        exact v2 h m
theorem c_crowd (a0 a1 : Int32) : Eqv (g_X10_crowd a0 a1) (g_X11_crowd a0 a1) := by
  refine Eqv_q fun P S nf np nl ng w s => ?_
  have hnf : nf ≤ 6 := w.1.1
  have hnp : np ≤ 6 := w.1.2.1
  obtain ⟨N, hN⟩ : ∃ N : Nat, N = 1024 := ⟨_, rfl⟩
  by_cases pf : prs a0 (nf + 1)
  · by_cases h0 : a1 < 0
    · obtain ⟨f, hf, rfl⟩ := pf
      refine ⟨-1, fun h c => ⟨h, scA_rf h, ?_⟩, fun h m => ⟨_, scB_0 h, ?_⟩⟩
      · unfold g_X10_crowd; rw [xg_L1 c w hf, if_pos h0]
      · unfold g_X11_crowd
        simp only [pfI]
        rw [rg_L1 (m.B hnp (scB_0 h)).1 hnf hf, if_pos h0]
    · obtain ⟨v, v1, v2⟩ := cw_out (S := S) w a0 a1 np 0 N N (by omega) (by omega) (by omega)
      obtain ⟨f, hf, rfl⟩ := pf
      refine ⟨v, fun h c => ⟨h, scA_rf h, ?_⟩, fun h m => ⟨_, scB_0 h, ?_⟩⟩
      · unfold g_X10_crowd; rw [xg_L1 c w hf, if_neg h0, ← hN]; exact v1 h c
      · unfold g_X11_crowd
        simp only [pfI]
        rw [rg_L1 (m.B hnp (scB_0 h)).1 hnf hf, if_neg h0, ← hN]; exact v2 _ (m.B hnp (scB_0 h))
  · refine ⟨-1, fun h c => ⟨h, scA_rf h, ?_⟩, fun h m => ⟨_, scB_0 h, ?_⟩⟩
    · unfold g_X10_crowd; rw [xg_L0 c w pf]
    · unfold g_X11_crowd
      simp only [pfI]
      rw [rg_L0 (m.B hnp (scB_0 h)).1 hnf pf]
