/-! an E, level by level -/
theorem mk_13 : mk 13 = 43 := by decide
theorem mk_14 : mk 14 = 45 := by decide
theorem mk_15 : mk 15 = 42 := by decide
theorem mk_16 : mk 16 = 47 := by decide
theorem rA_v {T : TKD} {i : Nat} {h : HH} (r : rA T i h) {q : Int32 × Int32} (hq : q ∈ sgL) (hk : tK T i = q.1) : h.1 255 26 = q.2 := by
  have e := sv_g r.2.2.2.1 hq
  rw [← e] at hk
  exact hk.2
theorem St0 {T : TKD} {p lv n o i t : Nat} {W : List Int32} {O : List (Int32 × Int32)} {N x2 : Nat} {hc hr : HH} {start : Option (Unit × HH)} {P : List Int32} {sl : Nat} {N' x i' : Nat} {O' X : List (Int32 × Int32)} {hc' hr' : HH} (h : StE T p o t W O start hc sl N' x i' P O' X hc' hr') {sl' : Nat} (hl : sl' ≤ sl) : StE T p o t W O start hc sl' N' x i' P O' X hc' hr' := by
  obtain ⟨a, b, ⟨c1, c2, c3⟩, d⟩ := h
  exact ⟨a, b, ⟨c1, fun k hk => by have := c2 k hk; omega, c3⟩, d⟩
/-- a level with a loop: its first part, then the loop -/
theorem lvlE {T : TKD} (w : TKok T) {p : Nat} (hp : pOk p) {lv n0 : Nat} (hlv : lv = 0 ∨ lv = 1 ∨ lv = 3 ∨ lv = 4) (G : Nat → HH → Option (Unit × HH))
    (heq : ∀ h, rG (n0 + 1) lv h = bnd (rG n0 (lv + 1) h) fun _ h1 => G 1024 h1)
    (hstop : ∀ n i hr, rA T i hr → ¬ str (tK T i) = slv lv → G (n + 1) hr = some ((), hr))
    (hgo : ∀ n i hr, rA T i hr → str (tK T i) = slv lv → G (n + 1) hr = bnd (g_X11_knot hr) fun _ h1 => bnd (g_X11_goOn h1) fun _ h2 => bnd (rG n0 (lv + 1) h2) fun _ h3 => bnd (g_X11_puts 2 (mk (tK T i)) h3) fun _ h4 => G n h4)
    (hF : ∀ n f q hr, rF f q hr → G (n + 1) hr = some ((), hr)) (IH : MLE T p n0) {o i t : Nat} {W : List Int32} {O : List (Int32 × Int32)} {N x2 : Nat} {hc hr : HH} (h : PreE T p lv o (n0 + 1) i t W O N x2 hc hr) :
    ∃ hr', rG (n0 + 1) lv hr = some ((), hr') ∧ OutE T p lv o t W O (cl N 1 x2 hc) hc hr hr' := by
  obtain ⟨⟨a1, a2, a3, a4⟩, ⟨b1, b2, b3, b4⟩, ⟨c1, c2⟩, d⟩ := h
  have hl : lim lv < lim (lv + 1) ∧ (3 ≤ lv + 1 → 3 ≤ lv) ∧ slv lv ≤ slv (lv + 1) := by
    rcases hlv with rfl | rfl | rfl | rfl <;> decide
  obtain ⟨r1, q1, q2, q3⟩ := IH (lv + 1) o i t W O N x2 hc hr (by omega) ⟨⟨a1, a2, a3, a4⟩, ⟨b1, b2, b3, b4⟩, ⟨by omega, fun z => c2 (hl.2.1 z)⟩, by omega⟩
  obtain ⟨N1, hN1⟩ : ∃ N1 : Nat, N1 = 1024 := ⟨_, rfl⟩
  rcases q3 with ⟨f, q, c', f1, f2, f3, f4⟩ | ⟨N', x', i', P, O', X, c', hS, hst⟩
  · refine ⟨r1, ?_, q2, Or.inl ⟨f, q, c', f1, f2, f3, f4⟩⟩
    rw [heq, q1, bnd_some]
    exact hF 1023 _ _ _ f3
  · obtain ⟨r2, u1, u2⟩ := loopE w hp hlv G hstop hgo hF IH (cl N 1 x2 hc) hc hr b1 b3 b4 c1 d 64 N1 N' x' i' P O' X c' r1 (by omega) (by omega) q2 (St0 (lv := lv) (n := n0) (i := i) (N := N) (x2 := x2) (hr := hr) hS hl.2.2) hst
    exact ⟨r2, by rw [heq, q1, bnd_some, ← hN1]; exact u1, u2⟩
theorem E_expr {T : TKD} (w : TKok T) {p n0 : Nat} (hp : pOk p) (IH : MLE T p n0) {o i t : Nat} {W : List Int32} {O : List (Int32 × Int32)} {N x2 : Nat} {hc hr : HH} (h : PreE T p 0 o (n0 + 1) i t W O N x2 hc hr) :
    ∃ hr', rG (n0 + 1) 0 hr = some ((), hr') ∧ OutE T p 0 o t W O (cl N 1 x2 hc) hc hr hr' := by
  refine lvlE w hp (lv := 0) (Or.inl rfl) (g_X11_expression_L4 (rG n0)) (fun h => rfl) (fun n i hr r z => ?_) (fun n i hr r z => ?_) (fun n f q hr c => ?_) IH h
  · rw [g_X11_expression_L4, show (14 : Int32) = nI 14 from rfl, r_isWord r (j := 14) (by decide), bnd_some, if_neg (show ¬ tK T i = nI (17 + sW 14) from fun e => z (by rw [e]; decide)), if_pos rfl]
  · have k : tK T i = 32 := str_1.mp z
    rw [g_X11_expression_L4, show (14 : Int32) = nI 14 from rfl, r_isWord r (j := 14) (by decide), bnd_some, if_pos (show tK T i = nI (17 + sW 14) by rw [k]; decide), if_neg (by decide), k]
    rfl
  · rw [g_X11_expression_L4, r_isWord_F c, bnd_some, if_pos rfl]
theorem E_conj {T : TKD} (w : TKok T) {p n0 : Nat} (hp : pOk p) (IH : MLE T p n0) {o i t : Nat} {W : List Int32} {O : List (Int32 × Int32)} {N x2 : Nat} {hc hr : HH} (h : PreE T p 1 o (n0 + 1) i t W O N x2 hc hr) :
    ∃ hr', rG (n0 + 1) 1 hr = some ((), hr') ∧ OutE T p 1 o t W O (cl N 1 x2 hc) hc hr hr' := by
  refine lvlE w hp (lv := 1) (Or.inr (Or.inl rfl)) (g_X11_conjunction_L4 (rG n0)) (fun h => rfl) (fun n i hr r z => ?_) (fun n i hr r z => ?_) (fun n f q hr c => ?_) IH h
  · rw [g_X11_conjunction_L4, show (15 : Int32) = nI 15 from rfl, r_isWord r (j := 15) (by decide), bnd_some, if_neg (show ¬ tK T i = nI (17 + sW 15) from fun e => z (by rw [e]; decide)), if_pos rfl]
  · have k : tK T i = 31 := str_2.mp z
    rw [g_X11_conjunction_L4, show (15 : Int32) = nI 15 from rfl, r_isWord r (j := 15) (by decide), bnd_some, if_pos (show tK T i = nI (17 + sW 15) by rw [k]; decide), if_neg (by decide), k]
    rfl
  · rw [g_X11_conjunction_L4, r_isWord_F c, bnd_some, if_pos rfl]
theorem E_sum {T : TKD} (w : TKok T) {p n0 : Nat} (hp : pOk p) (IH : MLE T p n0) {o i t : Nat} {W : List Int32} {O : List (Int32 × Int32)} {N x2 : Nat} {hc hr : HH} (h : PreE T p 3 o (n0 + 1) i t W O N x2 hc hr) :
    ∃ hr', rG (n0 + 1) 3 hr = some ((), hr') ∧ OutE T p 3 o t W O (cl N 1 x2 hc) hc hr hr' := by
  refine lvlE w hp (lv := 3) (Or.inr (Or.inr (Or.inl rfl))) (g_X11_sum_L4 (rG n0)) (fun h => rfl) (fun n i hr r z => ?_) (fun n i hr r z => ?_) (fun n f q hr c => ?_) IH h
  · have z1 : ¬ tK T i = 13 := fun e => z (by rw [e]; decide)
    have z2 : ¬ tK T i = 14 := fun e => z (by rw [e]; decide)
    rw [g_X11_sum_L4, show g_X11_isSign 43 hr = _ from r_isSign r (q := (13, 43)) (by decide), bnd_some]
    simp only [jn]
    rw [if_neg z1, if_pos rfl, show g_X11_isSign 45 hr = _ from r_isSign r (q := (14, 45)) (by decide), bnd_some, if_neg z2, if_pos rfl]
  · rw [g_X11_sum_L4, show g_X11_isSign 43 hr = _ from r_isSign r (q := (13, 43)) (by decide), bnd_some]
    simp only [jn, gfI]
    rcases str_5.mp z with k | k
    · rw [if_pos k, if_neg (by decide), rA_v r (q := (13, 43)) (by decide) k, k, mk_13]
    · rw [if_neg (show ¬ tK T i = 13 by rw [k]; decide), if_pos rfl, show g_X11_isSign 45 hr = _ from r_isSign r (q := (14, 45)) (by decide), bnd_some, if_pos k, if_neg (by decide), rA_v r (q := (14, 45)) (by decide) k, k, mk_14]
  · rw [g_X11_sum_L4, r_isSign_F c, bnd_some]
    simp only [jn]
    rw [if_pos True.intro, r_isSign_F c, bnd_some, if_pos rfl]
theorem E_prod {T : TKD} (w : TKok T) {p n0 : Nat} (hp : pOk p) (IH : MLE T p n0) {o i t : Nat} {W : List Int32} {O : List (Int32 × Int32)} {N x2 : Nat} {hc hr : HH} (h : PreE T p 4 o (n0 + 1) i t W O N x2 hc hr) :
    ∃ hr', rG (n0 + 1) 4 hr = some ((), hr') ∧ OutE T p 4 o t W O (cl N 1 x2 hc) hc hr hr' := by
  refine lvlE w hp (lv := 4) (Or.inr (Or.inr (Or.inr rfl))) (g_X11_product_L4 (rG n0)) (fun h => rfl) (fun n i hr r z => ?_) (fun n i hr r z => ?_) (fun n f q hr c => ?_) IH h
  · have z1 : ¬ tK T i = 15 := fun e => z (by rw [e]; decide)
    have z2 : ¬ tK T i = 16 := fun e => z (by rw [e]; decide)
    rw [g_X11_product_L4, show g_X11_isSign 42 hr = _ from r_isSign r (q := (15, 42)) (by decide), bnd_some]
    simp only [jn]
    rw [if_neg z1, if_pos rfl, show g_X11_isSign 47 hr = _ from r_isSign r (q := (16, 47)) (by decide), bnd_some, if_neg z2, if_pos rfl]
  · rw [g_X11_product_L4, show g_X11_isSign 42 hr = _ from r_isSign r (q := (15, 42)) (by decide), bnd_some]
    simp only [jn, gfI]
    rcases str_6.mp z with k | k
    · rw [if_pos k, if_neg (by decide), rA_v r (q := (15, 42)) (by decide) k, k, mk_15]
    · rw [if_neg (show ¬ tK T i = 15 by rw [k]; decide), if_pos rfl, show g_X11_isSign 47 hr = _ from r_isSign r (q := (16, 47)) (by decide), bnd_some, if_pos k, if_neg (by decide), rA_v r (q := (16, 47)) (by decide) k, k, mk_16]
  · rw [g_X11_product_L4, r_isSign_F c, bnd_some]
    simp only [jn]
    rw [if_pos True.intro, r_isSign_F c, bnd_some, if_pos rfl]
