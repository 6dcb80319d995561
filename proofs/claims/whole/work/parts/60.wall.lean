/-! wall -/
theorem wa_in {P S : TB} {nf np nl ng f : Nat} (w : PW P nf np nl ng) (hf : f < nf) (B : Int32) : ∀ (m i : Nat) (b : Bool), i + m = np → ∃ b' : Bool,
    (∀ h p K c1 n1, m < n1 → cAt h p 52 (p + 3) P S (P 3) np 2 → h.2.2 0 = p → ∃ h', scA h h' ∧ cAt h' p 52 (p + 3) P S (P 3) np 2 ∧ h'.2.2 0 = p ∧ g_X10_wall_L26 K c1 (nI f) n1 (if b then B else 0) (nI i) h = K (if b' then B else 0) h') ∧
    ∀ h K c1 n2, m < n2 → RM1 h P S nf np nl ng → ∃ h', scB h h' ∧ RM1 h' P S nf np nl ng ∧ g_X11_wall_L24 K c1 (nI f) n2 (if b then 1 else 0) (nI i) h = K (if b' then 1 else 0) h' := by
  have hnf : nf ≤ 6 := w.1.1
  have hnp : np ≤ 6 := w.1.2.1
  intro m
  induction m with
  | zero =>
    intro i b hi
    refine ⟨b, fun h p K c1 n1 h1 c p0 => ⟨h, scA_rf h, c, p0, ?_⟩, fun h K c1 n2 h2 m => ⟨h, scB_rf h, m, ?_⟩⟩
    · obtain ⟨n1, rfl⟩ : ∃ n', n1 = n' + 1 := ⟨n1 - 1, by omega⟩
      rw [g_X10_wall_L26]
      simp only [gfR, gfI]
      rw [p0, ckH_of c.2.2.2.1, show h.1 p 2 = nI np from (c.2.2.2.2.2.2.1 0 2 (by decide)).trans w.2.2.1, if_neg (nI_nlt (by omega) (by omega))]
    · obtain ⟨n2, rfl⟩ : ∃ n', n2 = n' + 1 := ⟨n2 - 1, by omega⟩
      rw [g_X11_wall_L24, ldI_1 (by decide) (by decide), m.1.2.1, if_neg (nI_nlt (by omega) (by omega))]
  | succ m ih =>
    intro i b hi
    have hin : i < np := by omega
    obtain ⟨b', v1, v2⟩ := ih (i + 1) (if P 3 i < stA P S (P 3) np i f 0 then b else false) (by omega)
    refine ⟨b', fun h p K c1 n1 h1 c p0 => ?_, fun h K c1 n2 h2 m => ?_⟩
    · obtain ⟨n1, rfl⟩ : ∃ n', n1 = n' + 1 := ⟨n1 - 1, by omega⟩
      obtain ⟨hA, sA, kA, eA⟩ := c.st (a := i) (f := f) (by omega) (by omega) 0
      have p1 : hA.2.2 0 = p := by rw [sA.2.2]; exact p0
      obtain ⟨hB, sB, kB, p2, eB⟩ := v1 hA p K c1 n1 (by omega) kA p1
      refine ⟨hB, (scA_all (c.A sA kA) sA.2.2).tr sB, kB, p2, ?_⟩
      rw [← eB, g_X10_wall_L26]
      simp only [gfR, gfI, jn, vl, nI_1]
      rw [p0, ckH_of c.2.2.2.1, show h.1 p 2 = nI np from (c.2.2.2.2.2.2.1 0 2 (by decide)).trans w.2.2.1, if_pos (nI_lt hin (by omega)), show g_X0_steepOf (nI i) (nI f) 0 h = _ from eA, bnd_some, p1, ckH_of c.2.2.2.1, ldI_of (by omega) (by decide), show hA.1 (p + 3) i = P 3 i from kA.2.2.2.2.2.2.1 3 i (by decide)]
      by_cases q : P 3 i < stA P S (P 3) np i f 0
      · rw [if_pos q, if_pos q]
      · rw [if_neg q, if_neg q]; rfl
    · obtain ⟨n2, rfl⟩ : ∃ n', n2 = n' + 1 := ⟨n2 - 1, by omega⟩
      obtain ⟨hA, sA, kA, eA⟩ := r_steepOf (m.at w) hin hf
      have mA := m.B hnp sA.B
      obtain ⟨hB, sB, mB, eB⟩ := v2 hA K c1 n2 (by omega) mA
      refine ⟨hB, sA.B.tr sB, mB, ?_⟩
      rw [← eB, g_X11_wall_L24, ldI_1 (by decide) (by decide), m.1.2.1, if_pos (nI_lt hin (by omega)), show g_X11_steepOf 0 (nI i) (nI f) h = _ from eA, bnd_some, ldI_of (by omega) (by decide), mA.1.2.2.2.2.2.2.1 i hin]
      simp only [jn, vl, nI_1]
      have a1 : (if b then (1 : Int32) else 0) &&& 1 = if b then 1 else 0 := by cases b <;> decide
      have a0 : (if b then (1 : Int32) else 0) &&& 0 = 0 := by cases b <;> decide
      by_cases q : P 3 i < stA P S (P 3) np i f 0
      · rw [if_pos q, if_pos q, a1]
      · rw [if_neg q, if_neg q, a0]; rfl
theorem wa_L {P S : TB} {nf np nl ng : Nat} (w : PW P nf np nl ng) : ∀ (m i n1 n2 : Nat) (x : Int32), i + m = nf → m < n1 → m < n2 → ∃ v : Int32,
    (∀ h p, cAt h p 52 (p + 3) P S (P 3) np 2 → h.2.2 0 = p → ∃ h', scA h h' ∧ g_X10_wall_L8 n1 x (nI i) h = some (v, h')) ∧
    ∀ h, RM1 h P S nf np nl ng → ∃ h', scB h h' ∧ g_X11_wall_L9 n2 x (nI i) h = some (v, h') := by
  have hnf : nf ≤ 6 := w.1.1
  have hnp : np ≤ 6 := w.1.2.1
  obtain ⟨N, hN⟩ : ∃ N : Nat, N = 1024 := ⟨_, rfl⟩
  intro m
  induction m with
  | zero =>
    intro i n1 n2 x hi h1 h2
    obtain ⟨n1, rfl⟩ : ∃ n', n1 = n' + 1 := ⟨n1 - 1, by omega⟩
    obtain ⟨n2, rfl⟩ : ∃ n', n2 = n' + 1 := ⟨n2 - 1, by omega⟩
    refine ⟨x, fun h p c p0 => ⟨h, scA_rf h, ?_⟩, fun h m => ⟨h, scB_rf h, ?_⟩⟩
    · rw [g_X10_wall_L8]
      simp only [gfR, gfI]
      rw [p0, ckH_of c.2.2.2.1, show h.1 p 0 = nI nf from (c.2.2.2.2.2.2.1 0 0 (by decide)).trans w.1.2.2.2.2.2.1, if_neg (nI_nlt (by omega) (by omega))]
    · rw [g_X11_wall_L9, ldI_0 (by decide) (by decide), m.1.1, if_neg (nI_nlt (by omega) (by omega))]
  | succ m ih =>
    intro i n1 n2 x hi h1 h2
    obtain ⟨n1, rfl⟩ : ∃ n', n1 = n' + 1 := ⟨n1 - 1, by omega⟩
    obtain ⟨n2, rfl⟩ : ∃ n', n2 = n' + 1 := ⟨n2 - 1, by omega⟩
    have hif : i < nf := by omega
    obtain ⟨b, q1, q2⟩ := wa_in (S := S) w hif ((1 : Int32) <<< (nI i &&& 31)) np 0 true (by omega)
    obtain ⟨v, v1, v2⟩ := ih (i + 1) n1 n2 (x ||| (if b then (1 : Int32) <<< (nI i &&& 31) else 0)) (by omega) (by omega) (by omega)
    refine ⟨v, fun h p c p0 => ?_, fun h m => ?_⟩
    · obtain ⟨hA, sA, kA, p1, eA⟩ := q1 h p (fun (z18 : Int32) (h17 : HH) => g_X10_wall_L8 n1 (x ||| z18) (nI (i + 1)) h17) x N (by omega) c p0
      obtain ⟨hB, sB, eB⟩ := v1 hA p kA p1
      refine ⟨hB, sA.tr sB, ?_⟩
      rw [← eB, g_X10_wall_L8, ← hN]
      simp only [gfR, gfI, vl, nI_1]
      rw [p0, ckH_of c.2.2.2.1, show h.1 p 0 = nI nf from (c.2.2.2.2.2.2.1 0 0 (by decide)).trans w.1.2.2.2.2.2.1, if_pos (nI_lt hif (by omega))]
      exact eA
    · obtain ⟨hA, sA, kA, eA⟩ := q2 h (fun (z14 : Int32) (h13 : HH) => if z14 = 0 then g_X11_wall_L9 n2 (x ||| 0) (nI (i + 1)) h13 else g_X11_wall_L9 n2 (x ||| (1 : Int32) <<< (nI i &&& 31)) (nI (i + 1)) h13) x N (by omega) m
      obtain ⟨hB, sB, eB⟩ := v2 hA kA
      refine ⟨hB, sA.tr sB, ?_⟩
      rw [← eB, g_X11_wall_L9, ← hN, ldI_0 (by decide) (by decide), m.1.1, if_pos (nI_lt hif (by omega))]
      simp only [jn, vl, nI_1]
      refine eA.trans ?_
      cases b with
      | true => simp only [if_true, i10, if_false]
      | false => simp only [Bool.false_eq_true, if_false, if_true]
theorem c_wall : Eqv g_X10_wall g_X11_wall := by
  refine Eqv_q fun P S nf np nl ng w s => ?_
  have hnf : nf ≤ 6 := w.1.1
  have hnp : np ≤ 6 := w.1.2.1
  obtain ⟨N, hN⟩ : ∃ N : Nat, N = 1024 := ⟨_, rfl⟩
  obtain ⟨v, v1, v2⟩ := wa_L (S := S) w nf 0 N N 0 (by omega) (by omega) (by omega)
  refine ⟨v, fun h c => ?_, fun h m => ?_⟩
  · obtain ⟨p, h1, s1, c1, k1, -, -, p0, e1⟩ := x_look c w
    obtain ⟨h2, s2, e2⟩ := v1 h1 p k1 p0
    refine ⟨h2, s1.tr s2, ?_⟩
    unfold g_X10_wall
    rw [e1, bnd_some, ← hN]; exact e2
  · obtain ⟨h2, s2, e2⟩ := v2 _ (m.B hnp (scB_0 h))
    refine ⟨h2, (scB_0 h).tr s2, ?_⟩
    unfold g_X11_wall
    simp only [pfI]
    rw [← hN]; exact e2
/-! rivals -/
def gnA (x own others : Int32) : Int32 := if own = 0 then (if others = 0 then x / 2 else x) else if others = 0 then 2 else 1
theorem x_gain (x own others : Int32) (h : HH) : g_X10_gain x own others h = some (gnA x own others, h) := by
  unfold g_X10_gain gnA
  rw [dvI_of (by decide)]
  by_cases k1 : own = 0
  · rw [if_pos k1, if_pos k1]
    by_cases k2 : others = 0
    · rw [if_pos k2, if_pos k2]
    · rw [if_neg k2, if_neg k2]
  · rw [if_neg k1, if_neg k1]
    by_cases k2 : others = 0
    · rw [if_pos k2, if_pos k2]
    · rw [if_neg k2, if_neg k2]
/-- a rest? -/
def rsA (x y : Int32) (i : Nat) : Bool := decide (¬ gnA x (nI (i / 2)) (nI (i % 2)) < gnA x (1 - nI (i / 2)) (nI (i % 2))) && decide (¬ gnA y (nI (i % 2)) (nI (i / 2)) < gnA y (1 - nI (i % 2)) (nI (i / 2)))
def btA (b : Nat → Bool) : Nat → Int32
  | 0 => 0
  | i + 1 => if b i then btA b i ||| ((1 : Int32) <<< (nI i &&& 31)) else btA b i
def ctA (b : Nat → Bool) : Nat → Nat
  | 0 => 0
  | i + 1 => if b i then ctA b i + 1 else ctA b i
theorem dv2 {i : Nat} (hi : i < 4) : nI i / 2 = nI (i / 2) ∧ nI i - nI i / 2 * 2 = nI (i % 2) := ⟨pk_div (d := 2) (by omega) (by decide) (by decide), pk_rem (d := 2) (by omega) (by decide) (by decide)⟩
theorem x_rb_L (x y : Int32) : ∀ (m i n : Nat) (h : HH), i + m = 4 → m < n → g_X10_restBits_L54 x y n (btA (rsA x y) i) (nI i) h = some (btA (rsA x y) 4, h) := by
  intro m
  induction m with
  | zero =>
    intro i n h hi hn
    obtain ⟨n, rfl⟩ : ∃ n', n = n' + 1 := ⟨n - 1, by omega⟩
    obtain rfl : i = 4 := by omega
    rw [g_X10_restBits_L54, if_neg (show ¬ nI 4 < 4 by decide)]
  | succ m ih =>
    intro i n h hi hn
    obtain ⟨n, rfl⟩ : ∃ n', n = n' + 1 := ⟨n - 1, by omega⟩
    have h1 := ih (i + 1) n h (by omega) (by omega)
    have e : btA (rsA x y) (i + 1) = if rsA x y i then btA (rsA x y) i ||| ((1 : Int32) <<< (nI i &&& 31)) else btA (rsA x y) i := rfl
    obtain ⟨d1, d2⟩ := dv2 (show i < 4 by omega)
    rw [e] at h1
    rw [g_X10_restBits_L54, if_pos (show nI i < 4 from nI_lt (b := 4) (by omega) (by decide)), dvI_of (by decide), rmI_of (by decide), d2, d1, x_gain, bnd_some, x_gain, bnd_some]
    simp only [jn, vl, nI_1]
    simp only [x_gain, bnd_some]
    have d10 : ¬ (1 : Int32) = 0 := by decide
    by_cases q1 : gnA x (nI (i / 2)) (nI (i % 2)) < gnA x (1 - nI (i / 2)) (nI (i % 2))
    · have r : rsA x y i = false := by unfold rsA; simp [q1]
      rw [r] at h1
      simp only [Bool.false_eq_true, if_false] at h1
      rw [if_pos q1]
      by_cases q2 : gnA y (nI (i % 2)) (nI (i / 2)) < gnA y (1 - nI (i % 2)) (nI (i / 2))
      · rw [if_pos q2, if_pos True.intro]; exact h1
      · rw [if_neg q2, if_pos True.intro]; exact h1
    · rw [if_neg q1]
      by_cases q2 : gnA y (nI (i % 2)) (nI (i / 2)) < gnA y (1 - nI (i % 2)) (nI (i / 2))
      · have r : rsA x y i = false := by unfold rsA; simp [q2]
        rw [r] at h1
        simp only [Bool.false_eq_true, if_false] at h1
        rw [if_pos q2, if_neg d10, if_pos True.intro]; exact h1
      · have r : rsA x y i = true := by unfold rsA; simp [q1, q2]
        rw [r] at h1
        simp only [if_true] at h1
        rw [if_neg q2, if_neg d10, if_neg d10]; exact h1
theorem bt_bit (b : Nat → Bool) {i : Nat} (hi : i < 4) : ((btA b 4 >>> (nI i &&& 31)) &&& (1 : Int32) = 0) ↔ b i = false := by
  have e : btA b 4 = (fun b0 b1 b2 b3 : Bool => (let x1 := if b0 then (0 : Int32) ||| ((1 : Int32) <<< (nI 0 &&& 31)) else 0; let x2 := if b1 then x1 ||| ((1 : Int32) <<< (nI 1 &&& 31)) else x1; let x3 := if b2 then x2 ||| ((1 : Int32) <<< (nI 2 &&& 31)) else x2; if b3 then x3 ||| ((1 : Int32) <<< (nI 3 &&& 31)) else x3)) (b 0) (b 1) (b 2) (b 3) := rfl
  rw [e]
  rcases (show i = 0 ∨ i = 1 ∨ i = 2 ∨ i = 3 by omega) with rfl | rfl | rfl | rfl <;> generalize b 0 = b0 <;> generalize b 1 = b1 <;> generalize b 2 = b2 <;> generalize b 3 = b3 <;> revert b0 b1 b2 b3 <;> decide
theorem bt_count (b : Nat → Bool) (h : HH) : g_J6_bitCount_0f7a4 (btA b 4) h = some (nI (ctA b 4), h) := by
  have e : btA b 4 = (fun b0 b1 b2 b3 : Bool => (let x1 := if b0 then (0 : Int32) ||| ((1 : Int32) <<< (nI 0 &&& 31)) else 0; let x2 := if b1 then x1 ||| ((1 : Int32) <<< (nI 1 &&& 31)) else x1; let x3 := if b2 then x2 ||| ((1 : Int32) <<< (nI 2 &&& 31)) else x2; if b3 then x3 ||| ((1 : Int32) <<< (nI 3 &&& 31)) else x3)) (b 0) (b 1) (b 2) (b 3) := rfl
  have e2 : ctA b 4 = (fun b0 b1 b2 b3 : Bool => (let x1 := if b0 then 0 + 1 else 0; let x2 := if b1 then x1 + 1 else x1; let x3 := if b2 then x2 + 1 else x2; if b3 then x3 + 1 else x3)) (b 0) (b 1) (b 2) (b 3) := rfl
  rw [e, e2]
  generalize b 0 = b0
  generalize b 1 = b1
  generalize b 2 = b2
  generalize b 3 = b3
  unfold g_J6_bitCount_0f7a4
  simp only [vl]
  refine congrArg (fun v : Int32 => some (v, h)) ?_
  revert b0 b1 b2 b3
  decide
theorem r_hasOf {P S : TB} {nf np nl ng : Nat} (w : PW P nf np nl ng) {a f : Nat} (ha : a < np) (hf : f < nf) (d o : Int32) (hd : d = 0 ∨ d = 1) {h : HH} (m : RM1 h P S nf np nl ng) : ∃ h', scB h h' ∧ RM1 h' P S nf np nl ng ∧ g_X11_hasOf (nI a) (nI f) d o h = some (gnA (P 3 a - stA P S (P 3) np a f 0) d o, h') := by
  have hnp : np ≤ 6 := w.1.2.1
  unfold g_X11_hasOf gnA
  rcases hd with rfl | rfl
  · obtain ⟨hA, sA, kA, eA⟩ := r_steepOf (m.at w) ha hf
    refine ⟨hA, sA.B, m.B hnp sA.B, ?_⟩
    rw [if_neg (by decide), if_pos rfl, ldI_of (by omega) (by decide), m.1.2.2.2.2.2.2.1 a ha, show g_X11_steepOf 0 (nI a) (nI f) h = _ from eA, bnd_some]
    simp only [vl]
    by_cases k : o = 0
    · rw [if_pos k, if_pos k, dvI_of (by decide)]
    · rw [if_neg k, if_neg k]
  · refine ⟨h, scB_rf h, m, ?_⟩
    rw [if_pos rfl, if_neg (show ¬ (1 : Int32) = 0 by decide)]
    by_cases k : o = 0
    · rw [if_pos k, if_pos k]
    · rw [if_neg k, if_neg k]
theorem r_isRest {P S : TB} {nf np nl ng : Nat} (w : PW P nf np nl ng) {a b f i : Nat} (ha : a < np) (hb : b < np) (hf : f < nf) (hi : i < 4) {h : HH} (m : RM1 h P S nf np nl ng) : ∃ h', scB h h' ∧ RM1 h' P S nf np nl ng ∧ g_X11_isRest (nI a) (nI b) (nI f) (nI i) h = some (if rsA (P 3 a - stA P S (P 3) np a f 0) (P 3 b - stA P S (P 3) np b f 0) i then 1 else 0, h') := by
  obtain ⟨d1, d2⟩ := dv2 hi
  have o1 : nI (i / 2) = 0 ∨ nI (i / 2) = 1 := by
    rcases (show i / 2 = 0 ∨ i / 2 = 1 by omega) with q | q <;> rw [q]
    · exact Or.inl rfl
    · exact Or.inr rfl
  have o2 : nI (i % 2) = 0 ∨ nI (i % 2) = 1 := by
    rcases (show i % 2 = 0 ∨ i % 2 = 1 by omega) with q | q <;> rw [q]
    · exact Or.inl rfl
    · exact Or.inr rfl
  have o1' : (1 : Int32) - nI (i / 2) = 0 ∨ (1 : Int32) - nI (i / 2) = 1 := by rcases o1 with q | q <;> rw [q] <;> decide
  have o2' : (1 : Int32) - nI (i % 2) = 0 ∨ (1 : Int32) - nI (i % 2) = 1 := by rcases o2 with q | q <;> rw [q] <;> decide
  obtain ⟨h1, s1, m1, e1⟩ := r_hasOf w ha hf (1 - nI (i / 2)) (nI (i % 2)) o1' m
  obtain ⟨h2, s2, m2, e2⟩ := r_hasOf w ha hf (nI (i / 2)) (nI (i % 2)) o1 m1
  obtain ⟨h3, s3, m3, e3⟩ := r_hasOf w hb hf (1 - nI (i % 2)) (nI (i / 2)) o2' m2
  obtain ⟨h4, s4, m4, e4⟩ := r_hasOf w hb hf (nI (i % 2)) (nI (i / 2)) o2 m3
  unfold g_X11_isRest
  rw [dvI_of (by decide), rmI_of (by decide), d2, d1, e1, bnd_some, e2, bnd_some]
  generalize hx : P 3 a - stA P S (P 3) np a f 0 = x
  generalize hy : P 3 b - stA P S (P 3) np b f 0 = y at e3 e4
  by_cases q1 : gnA x (nI (i / 2)) (nI (i % 2)) < gnA x (1 - nI (i / 2)) (nI (i % 2))
  · have r : rsA x y i = false := by unfold rsA; simp [q1]
    exact ⟨h2, s1.tr s2, m2, by rw [if_pos q1, r]; rfl⟩
  · rw [if_neg q1, e3, bnd_some, e4, bnd_some]
    refine ⟨h4, ((s1.tr s2).tr s3).tr s4, m4, ?_⟩
    by_cases q2 : gnA y (nI (i % 2)) (nI (i / 2)) < gnA y (1 - nI (i % 2)) (nI (i / 2))
    · have r : rsA x y i = false := by unfold rsA; simp [q2]
      rw [if_pos q2, r]; rfl
    · have r : rsA x y i = true := by unfold rsA; simp [q1, q2]
      rw [if_neg q2, r]; rfl
theorem x_restBits {P S : TB} {nf np nl ng : Nat} (w : PW P nf np nl ng) {a b f : Nat} (ha : a < np) (hb : b < np) (hf : f < nf) {h : HH} (c : RC1 h P S) : ∃ h', scA h h' ∧ g_X10_restBits (nI a) (nI b) (nI f) h = some (btA (rsA (P 3 a - stA P S (P 3) np a f 0) (P 3 b - stA P S (P 3) np b f 0)) 4, h') := by
  have hnf : nf ≤ 6 := w.1.1
  have hnp : np ≤ 6 := w.1.2.1
  obtain ⟨p, h1, s1, c1, k1, -, -, p0, e1⟩ := x_look c w
  obtain ⟨h2, s2, k2, e2⟩ := k1.st (a := a) (f := f) (by omega) (by omega) 0
  have p2 : h2.2.2 0 = p := by rw [s2.2.2]; exact p0
  obtain ⟨h3, s3, k3, e3⟩ := k2.st (a := b) (f := f) (by omega) (by omega) 0
  refine ⟨h3, (s1.tr (scA_all (k1.A s2 k2) s2.2.2)).tr (scA_all (k2.A s3 k3) s3.2.2), ?_⟩
  obtain ⟨N, hN⟩ : ∃ N : Nat, N = 1024 := ⟨_, rfl⟩
  unfold g_X10_restBits
  rw [e1, bnd_some, ← hN]
  simp only [gfR, vl]
  rw [p0, ckH_of k1.2.2.2.1, ldI_of (by omega) (by decide), k1.2.2.2.2.2.2.1 3 a (by decide), show g_X0_steepOf (nI a) (nI f) 0 h1 = _ from e2, bnd_some, p2, ckH_of k1.2.2.2.1, ldI_of (by omega) (by decide), k2.2.2.2.2.2.2.1 3 b (by decide), show g_X0_steepOf (nI b) (nI f) 0 h2 = _ from e3, bnd_some]
  exact x_rb_L _ _ 4 0 N h3 (by omega) (by omega)
section PR
variable {α : Type} {h : HH} {P S : TB} {nf np nl ng : Nat}
theorem xg_D1 (c : RC1 h P S) (w : PW P nf np nl ng) {a b : Nat} (ha : a < np) (hb : b < np) (hab : a ≠ b) (R : α) (K : HH → Option (α × HH)) : (bnd (g_X10_isPair (nI a) (nI b) h) fun r2 h1 => if r2 = 0 then some (R, h1) else K h1) = K h := by
  have hnp : np ≤ 6 := w.1.2.1
  unfold g_X10_isPair
  rw [xg_P1 c w ha, xg_P1 c w hb, if_neg (fun e => hab ((nI_eq (by omega) (by omega)).mp e)), bnd_some, if_neg (by decide)]
theorem xg_D0 (c : RC1 h P S) (w : PW P nf np nl ng) {a b : Int32} (hn : ¬ (prs a np ∧ prs b np ∧ a ≠ b)) (R : α) (K : HH → Option (α × HH)) : (bnd (g_X10_isPair a b h) fun r2 h1 => if r2 = 0 then some (R, h1) else K h1) = some (R, h) := by
  unfold g_X10_isPair
  by_cases pa : prs a np
  · obtain ⟨k, hk, rfl⟩ := pa
    by_cases pb : prs b np
    · have e : nI k = b := Decidable.byContradiction fun q => hn ⟨⟨k, hk, rfl⟩, pb, q⟩
      obtain ⟨j, hj, rfl⟩ := pb
      rw [xg_P1 c w hk, xg_P1 c w hj, if_pos e, bnd_some, if_pos rfl]
    · rw [xg_P1 c w hk, xg_P0 c w pb, bnd_some, if_pos rfl]
  · rw [xg_P0 c w pa, bnd_some, if_pos rfl]
theorem rg_D1 (m : MP h P nf np nl ng) (hnp : np ≤ 6) {a b : Nat} (ha : a < np) (hb : b < np) (hab : a ≠ b) (R : α) (K : HH → Option (α × HH)) : (bnd (g_X11_areTwo (nI a) (nI b) h) fun r2 h1 => if r2 = 0 then some (R, h1) else K h1) = K h := by
  unfold g_X11_areTwo
  rw [rg_P1 m hnp ha, rg_P1 m hnp hb, if_neg (fun e => hab ((nI_eq (by omega) (by omega)).mp e)), bnd_some, if_neg (by decide)]
theorem rg_D0 (m : MP h P nf np nl ng) (hnp : np ≤ 6) {a b : Int32} (hn : ¬ (prs a np ∧ prs b np ∧ a ≠ b)) (R : α) (K : HH → Option (α × HH)) : (bnd (g_X11_areTwo a b h) fun r2 h1 => if r2 = 0 then some (R, h1) else K h1) = some (R, h) := by
  unfold g_X11_areTwo
  by_cases pa : prs a np
  · obtain ⟨k, hk, rfl⟩ := pa
    by_cases pb : prs b np
    · have e : nI k = b := Decidable.byContradiction fun q => hn ⟨⟨k, hk, rfl⟩, pb, q⟩
      obtain ⟨j, hj, rfl⟩ := pb
      rw [rg_P1 m hnp hk, rg_P1 m hnp hj, if_pos e, bnd_some, if_pos rfl]
    · rw [rg_P1 m hnp hk, rg_P0 m pb, bnd_some, if_pos rfl]
  · rw [rg_P0 m pa, bnd_some, if_pos rfl]
end PR
theorem prs_ne {a b : Int32} {n : Nat} (h : prs a n ∧ prs b n ∧ a ≠ b) : ∃ i j, i < n ∧ j < n ∧ i ≠ j ∧ a = nI i ∧ b = nI j := by
  obtain ⟨⟨i, hi, rfl⟩, ⟨j, hj, rfl⟩, hab⟩ := h
  exact ⟨i, j, hi, hj, fun e => hab (by rw [e]), rfl, rfl⟩
theorem ro_L {P S : TB} {nf np nl ng : Nat} (w : PW P nf np nl ng) {a b f : Nat} (ha : a < np) (hb : b < np) (hf : f < nf) (k : Nat) (hk : k < 2 ^ 31) (bb : Nat → Bool) (hbb : bb = rsA (P 3 a - stA P S (P 3) np a f 0) (P 3 b - stA P S (P 3) np b f 0)) : ∀ (m i n1 n2 : Nat), i + m = 4 → m < n1 → m < n2 → ctA bb i ≤ k → ctA bb i ≤ i → ∃ v : Int32,
    (∀ h, g_X10_rest_L40 (fun (z14 : Int32) (h13 : HH) => dvI z14 (2 : Int32) fun v15 => rmI z14 (2 : Int32) fun v16 => some (((v15 * (10 : Int32)) + v16), h13)) (btA bb 4) n1 (nI (k - ctA bb i)) (nI i) h = some (v, h)) ∧
    ∀ h, RM1 h P S nf np nl ng → ∃ h', scB h h' ∧ g_X11_restOf_L6 (fun (z10 : Int32) (h9 : HH) => if nI k = (-1 : Int32) then some (z10, h9) else some ((-2 : Int32), h9)) (fun (z12 : Int32) (h11 : HH) => dvI z12 (2 : Int32) fun v13 => rmI z12 (2 : Int32) fun v14 => some ((((10 : Int32) * v13) + v14), h11)) (nI a) (nI b) (nI f) (nI k) n2 (nI (ctA bb i)) (nI i) h = some (v, h') := by
  intro m
  induction m with
  | zero =>
    intro i n1 n2 hi h1 h2 hc hci
    obtain ⟨n1, rfl⟩ : ∃ n', n1 = n' + 1 := ⟨n1 - 1, by omega⟩
    obtain ⟨n2, rfl⟩ : ∃ n', n2 = n' + 1 := ⟨n2 - 1, by omega⟩
    obtain rfl : i = 4 := by omega
    refine ⟨-2, fun h => by rw [g_X10_rest_L40, if_neg (show ¬ nI 4 < 4 by decide)], fun h m => ⟨h, scB_rf h, ?_⟩⟩
    rw [g_X11_restOf_L6, if_neg (show ¬ nI 4 < 4 by decide), if_neg (m1_ne k hk)]
  | succ m ih =>
    intro i n1 n2 hi h1 h2 hc hci
    obtain ⟨n1, rfl⟩ : ∃ n', n1 = n' + 1 := ⟨n1 - 1, by omega⟩
    obtain ⟨n2, rfl⟩ : ∃ n', n2 = n' + 1 := ⟨n2 - 1, by omega⟩
    have i4 : i < 4 := by omega
    have e4 : nI i < 4 := nI_lt (b := 4) i4 (by decide)
    obtain ⟨d1, d2⟩ := dv2 i4
    have bit := bt_bit bb i4
    have ec : ctA bb (i + 1) = if bb i then ctA bb i + 1 else ctA bb i := rfl
    have rr := fun (h : HH) (m : RM1 h P S nf np nl ng) => r_isRest (i := i) w ha hb hf i4 m
    rw [← hbb] at rr
    cases hbi : bb i with
    | false =>
      rw [hbi] at ec bit
      simp only [Bool.false_eq_true, if_false] at ec
      obtain ⟨v, v1, v2⟩ := ih (i + 1) n1 n2 (by omega) (by omega) (by omega) (by omega) (by omega)
      rw [ec] at v1 v2
      refine ⟨v, fun h => ?_, fun h m => ?_⟩
      · rw [g_X10_rest_L40, if_pos e4]
        simp only [jn, vl, nI_1]
        rw [if_pos (bit.mpr rfl)]
        exact v1 h
      · obtain ⟨hA, sA, mA, eA⟩ := rr h m
        rw [hbi] at eA
        obtain ⟨hB, sB, eB⟩ := v2 hA mA
        refine ⟨hB, sA.tr sB, ?_⟩
        rw [g_X11_restOf_L6, if_pos e4, eA, bnd_some]
        simp only [jn, vl, nI_1, Bool.false_eq_true, if_false, if_true]
        exact eB
    | true =>
      rw [hbi] at ec bit
      simp only [if_true] at ec
      have nb : ¬ ((btA bb 4 >>> (nI i &&& 31)) &&& (1 : Int32) = 0) := fun q => by have := bit.mp q; cases this
      by_cases q : ctA bb i = k
      · refine ⟨nI (i / 2) * 10 + nI (i % 2), fun h => ?_, fun h m => ?_⟩
        · rw [g_X10_rest_L40, if_pos e4]
          simp only [jn, vl, nI_1]
          rw [if_neg nb, q, Nat.sub_self, if_pos (show nI 0 = (0 : Int32) from nI_0), dvI_of (by decide), rmI_of (by decide), d2, d1]
        · obtain ⟨hA, sA, mA, eA⟩ := rr h m
          rw [hbi] at eA
          refine ⟨hA, sA, ?_⟩
          rw [g_X11_restOf_L6, if_pos e4, eA, bnd_some]
          simp only [jn, vl, nI_1, if_true, i10, if_false]
          rw [q, if_pos rfl, dvI_of (by decide), rmI_of (by decide), d2, d1, Int32.mul_comm]
      · obtain ⟨v, v1, v2⟩ := ih (i + 1) n1 n2 (by omega) (by omega) (by omega) (by omega) (by omega)
        rw [ec] at v1 v2
        refine ⟨v, fun h => ?_, fun h m => ?_⟩
        · rw [g_X10_rest_L40, if_pos e4]
          simp only [jn, vl, nI_1]
          rw [if_neg nb, if_neg (nI_ne0 (by omega) (by omega)), show k - ctA bb i = (k - (ctA bb i + 1)) + 1 by omega, pk_m1]
          exact v1 h
        · obtain ⟨hA, sA, mA, eA⟩ := rr h m
          rw [hbi] at eA
          obtain ⟨hB, sB, eB⟩ := v2 hA mA
          refine ⟨hB, sA.tr sB, ?_⟩
          rw [g_X11_restOf_L6, if_pos e4, eA, bnd_some]
          simp only [jn, vl, nI_1, if_true, i10, if_false]
          rw [if_neg (fun z => q ((nI_eq (by omega) (by omega)).mp z))]
          exact eB
theorem rs_L {P S : TB} {nf np nl ng : Nat} (w : PW P nf np nl ng) {a b f : Nat} (ha : a < np) (hb : b < np) (hf : f < nf) (K34 : Int32 → HH → Option (Int32 × HH)) (bb : Nat → Bool) (hbb : bb = rsA (P 3 a - stA P S (P 3) np a f 0) (P 3 b - stA P S (P 3) np b f 0)) : ∀ (m i n2 : Nat), i + m = 4 → m < n2 → ctA bb i ≤ i → 
    ∀ h, RM1 h P S nf np nl ng → ∃ h', scB h h' ∧ g_X11_restOf_L6 (fun (z10 : Int32) (h9 : HH) => if (-1 : Int32) = (-1 : Int32) then some (z10, h9) else some ((-2 : Int32), h9)) K34 (nI a) (nI b) (nI f) (-1) n2 (nI (ctA bb i)) (nI i) h = some (nI (ctA bb 4), h') := by
  intro m
  induction m with
  | zero =>
    intro i n2 hi h2 hci h mm
    obtain ⟨n2, rfl⟩ : ∃ n', n2 = n' + 1 := ⟨n2 - 1, by omega⟩
    obtain rfl : i = 4 := by omega
    refine ⟨h, scB_rf h, ?_⟩
    rw [g_X11_restOf_L6, if_neg (show ¬ nI 4 < 4 by decide), if_pos rfl]
  | succ m ih =>
    intro i n2 hi h2 hci h mm
    obtain ⟨n2, rfl⟩ : ∃ n', n2 = n' + 1 := ⟨n2 - 1, by omega⟩
    have i4 : i < 4 := by omega
    have e4 : nI i < 4 := nI_lt (b := 4) i4 (by decide)
    have ec : ctA bb (i + 1) = if bb i then ctA bb i + 1 else ctA bb i := rfl
    obtain ⟨hA, sA, mA, eA⟩ := r_isRest (i := i) w ha hb hf i4 mm
    rw [← hbb] at eA
    have hle : ctA bb (i + 1) ≤ i + 1 := by rw [ec]; split <;> omega
    obtain ⟨hB, sB, eB⟩ := ih (i + 1) n2 (by omega) (by omega) hle hA mA
    refine ⟨hB, sA.tr sB, ?_⟩
    rw [g_X11_restOf_L6, if_pos e4, eA, bnd_some]
    simp only [jn, vl, nI_1]
    rw [ec] at eB
    cases hbi : bb i with
    | false =>
      rw [hbi] at eB
      simp only [Bool.false_eq_true, if_false, if_true] at eB ⊢
      exact eB
    | true =>
      rw [hbi] at eB
      simp only [if_true, i10, if_false] at eB ⊢
      rw [if_neg (m1_ne _ (by omega))]
      exact eB
theorem c_rests (a0 a1 a2 : Int32) : Eqv (g_X10_rests a0 a1 a2) (g_X11_rests a0 a1 a2) := by
  refine Eqv_q fun P S nf np nl ng w s => ?_
  have hnf : nf ≤ 6 := w.1.1
  have hnp : np ≤ 6 := w.1.2.1
  by_cases hp : prs a0 np ∧ prs a1 np ∧ a0 ≠ a1
  · obtain ⟨a, b, ha, hb, hab, rfl, rfl⟩ := prs_ne hp
    by_cases pf : prs a2 nf
    · obtain ⟨f, hf, rfl⟩ := pf
      obtain ⟨N, hN⟩ : ∃ N : Nat, N = 1024 := ⟨_, rfl⟩
      refine ⟨nI (ctA (rsA (P 3 a - stA P S (P 3) np a f 0) (P 3 b - stA P S (P 3) np b f 0)) 4), fun h c => ?_, fun h m => ?_⟩
      · obtain ⟨h1, s1, e1⟩ := x_restBits w ha hb hf c
        refine ⟨h1, s1, ?_⟩
        unfold g_X10_rests
        rw [xg_D1 c w ha hb hab, xg_F1 c w hf, e1, bnd_some, bt_count, bnd_some]
      · have mB := m.B hnp (scB_0 h)
        obtain ⟨h2, s2, e2⟩ := rs_L w ha hb hf (fun (z12 : Int32) (h11 : HH) => dvI z12 (2 : Int32) fun v13 => rmI z12 (2 : Int32) fun v14 => some ((((10 : Int32) * v13) + v14), h11)) _ rfl 4 0 N rfl (by omega) (Nat.le_refl _) _ mB
        refine ⟨h2, (scB_0 h).tr s2, ?_⟩
        unfold g_X11_rests g_X11_restOf
        simp only [pfI]
        rw [rg_D1 mB.1 hnp ha hb hab, rg_F1 mB.1 hnf hf, ← hN]
        refine Eq.trans (congrArg (fun x => bnd x fun r7 h6 => some (r7, h6)) e2) ?_
        rfl
    · refine ⟨-1, fun h c => ⟨h, scA_rf h, ?_⟩, fun h m => ⟨_, scB_0 h, ?_⟩⟩
      · unfold g_X10_rests; rw [xg_D1 c w ha hb hab, xg_F0 c w pf]
      · unfold g_X11_rests
        simp only [pfI]
        rw [rg_D1 (m.B hnp (scB_0 h)).1 hnp ha hb hab, rg_F0 (m.B hnp (scB_0 h)).1 pf]
  · refine ⟨-1, fun h c => ⟨h, scA_rf h, ?_⟩, fun h m => ⟨_, scB_0 h, ?_⟩⟩
    · unfold g_X10_rests; rw [xg_D0 c w hp]
    · unfold g_X11_rests
      simp only [pfI]
      rw [rg_D0 (m.B hnp (scB_0 h)).1 hnp hp]
theorem c_rest (a0 a1 a2 a3 : Int32) : Eqv (g_X10_rest a0 a1 a2 a3) (g_X11_rest a0 a1 a2 a3) := by
  refine Eqv_q fun P S nf np nl ng w s => ?_
  have hnf : nf ≤ 6 := w.1.1
  have hnp : np ≤ 6 := w.1.2.1
  by_cases hp : prs a0 np ∧ prs a1 np ∧ a0 ≠ a1
  · obtain ⟨a, b, ha, hb, hab, rfl, rfl⟩ := prs_ne hp
    by_cases pf : prs a2 nf
    · obtain ⟨f, hf, rfl⟩ := pf
      by_cases k0 : a3 < 0
      · refine ⟨-1, fun h c => ⟨h, scA_rf h, ?_⟩, fun h m => ⟨_, scB_0 h, ?_⟩⟩
        · unfold g_X10_rest; rw [xg_D1 c w ha hb hab, xg_F1 c w hf, if_pos k0]
        · unfold g_X11_rest
          simp only [pfI]
          rw [rg_D1 (m.B hnp (scB_0 h)).1 hnp ha hb hab, rg_F1 (m.B hnp (scB_0 h)).1 hnf hf, if_pos k0]
      obtain ⟨k, hk, rfl⟩ := nI_of k0
      obtain ⟨N, hN⟩ : ∃ N : Nat, N = 1024 := ⟨_, rfl⟩
      obtain ⟨v, v1, v2⟩ := ro_L (S := S) w ha hb hf k hk _ rfl 4 0 N N rfl (by omega) (by omega) (Nat.zero_le _) (Nat.le_refl _)
      refine ⟨v, fun h c => ?_, fun h m => ?_⟩
      · obtain ⟨h1, s1, e1⟩ := x_restBits w ha hb hf c
        refine ⟨h1, s1, ?_⟩
        unfold g_X10_rest
        rw [xg_D1 c w ha hb hab, xg_F1 c w hf, if_neg k0, e1, bnd_some, ← hN]
        exact v1 h1
      · have mB := m.B hnp (scB_0 h)
        obtain ⟨h2, s2, e2⟩ := v2 _ mB
        refine ⟨h2, (scB_0 h).tr s2, ?_⟩
        unfold g_X11_rest g_X11_restOf
        simp only [pfI]
        rw [rg_D1 mB.1 hnp ha hb hab, rg_F1 mB.1 hnf hf, if_neg k0, ← hN]
        refine Eq.trans (congrArg (fun x => bnd x fun r7 h6 => some (r7, h6)) e2) ?_
        rfl
    · refine ⟨-1, fun h c => ⟨h, scA_rf h, ?_⟩, fun h m => ⟨_, scB_0 h, ?_⟩⟩
      · unfold g_X10_rest; rw [xg_D1 c w ha hb hab, xg_F0 c w pf]
      · unfold g_X11_rest
        simp only [pfI]
        rw [rg_D1 (m.B hnp (scB_0 h)).1 hnp ha hb hab, rg_F0 (m.B hnp (scB_0 h)).1 pf]
  · refine ⟨-1, fun h c => ⟨h, scA_rf h, ?_⟩, fun h m => ⟨_, scB_0 h, ?_⟩⟩
    · unfold g_X10_rest; rw [xg_D0 c w hp]
    · unfold g_X11_rest
      simp only [pfI]
      rw [rg_D0 (m.B hnp (scB_0 h)).1 hnp hp]
