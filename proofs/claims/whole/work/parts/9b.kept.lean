/-! the reference's reading: the place of a fault moves with a fault alone -/
def JE {α : Type} (E : Option (α × HH)) (h : HH) : Prop := ∀ r h', E = some (r, h') → h'.1 255 27 = 0 → h.1 255 27 = 0 ∧ h'.1 255 28 = h.1 255 28
theorem JE_none {α : Type} {h : HH} : JE (none : Option (α × HH)) h := fun _ _ e => by cases e
theorem JE_some {α : Type} {a : α} {h : HH} : JE (some (a, h)) h := fun _ _ e z => by cases e; exact ⟨z, rfl⟩
theorem JE_bnd {α β : Type} {x : Option (α × HH)} {k : α → HH → Option (β × HH)} {h : HH} (hx : JE x h) (hk : ∀ r h1, JE (k r h1) h1) : JE (bnd x k) h := by
  intro r h' e z
  cases x with
  | none => cases e
  | some q =>
    obtain ⟨a, h1⟩ := q
    obtain ⟨k1, k2⟩ := hk a h1 r h' e z
    obtain ⟨x1, x2⟩ := hx a h1 rfl k1
    exact ⟨x1, k2.trans x2⟩
theorem JE_gfI {α : Type} {h : HH} {a k : Nat} {K : Int32 → Option (α × HH)} (hK : ∀ v, JE (K v) h) : JE (gfI h a k K) h := hK _
theorem JE_ckI {α : Type} {h : HH} {i : Int32} {n : Nat} {K : Option (α × HH)} (hK : JE K h) : JE (ckI i n K) h := by
  unfold ckI
  split
  · exact JE_none
  · exact hK
theorem JE_ldI {α : Type} {h : HH} {a n : Nat} {i : Int32} {K : Int32 → Option (α × HH)} (hK : ∀ v, JE (K v) h) : JE (ldI h a n i K) h := JE_ckI (hK _)
theorem JE_chS {α : Type} {h : HH} {i : Nat} {j : Int32} {K : Int32 → Option (α × HH)} (hK : ∀ v, JE (K v) h) : JE (chS i j K) h := JE_ckI (hK _)
theorem JE_wr {α : Type} {h : HH} {a k : Nat} {v : Int32} {E : Option (α × HH)} (q : ¬ (a = 255 ∧ (k = 27 ∨ k = 28))) (hE : JE E (wrI h a k v)) : JE E h := by
  intro r h' e z
  obtain ⟨x1, x2⟩ := hE r h' e z
  rw [wrI_1, if_neg (by omega)] at x1
  rw [wrI_1, if_neg (by omega)] at x2
  exact ⟨x1, x2⟩
theorem JE_pfI {α : Type} {h : HH} {a k : Nat} {v : Int32} {K : HH → Option (α × HH)} (q : ¬ (a = 255 ∧ (k = 27 ∨ k = 28))) (hK : ∀ g, JE (K g) g) : JE (pfI h a k v K) h := JE_wr q (hK _)
theorem JE_stI {α : Type} {h : HH} {a n : Nat} {i v : Int32} {K : HH → Option (α × HH)} (q : a ≠ 255) (hK : ∀ g, JE (K g) g) : JE (stI h a n i v K) h := JE_ckI (JE_wr (fun z => q z.1) (hK _))
theorem JE_vl {α γ : Type} {h : HH} {x : γ} {K : γ → Option (α × HH)} (hK : ∀ y, JE (K y) h) : JE (vl x K) h := hK _
theorem JE_ite {α : Type} {h : HH} {c : Prop} [Decidable c] {A B : Option (α × HH)} (hA : JE A h) (hB : JE B h) : JE (if c then A else B) h := by
  split
  · exact hA
  · exact hB
theorem JE_jn1 {α : Type} {h : HH} {K : HH → Option (α × HH)} {F : (HH → Option (α × HH)) → Option (α × HH)} (hK : ∀ g, JE (K g) g) (hF : ∀ K' : HH → Option (α × HH), (∀ g, JE (K' g) g) → JE (F K') h) : JE (jn K F) h := hF K hK
theorem JE_jn2 {α : Type} {h : HH} {K : Int32 → HH → Option (α × HH)} {F : (Int32 → HH → Option (α × HH)) → Option (α × HH)} (hK : ∀ y g, JE (K y g) g) (hF : ∀ K' : Int32 → HH → Option (α × HH), (∀ y g, JE (K' y g) g) → JE (F K') h) : JE (jn K F) h := hF K hK
theorem J_wrong (a0 : Int32) (ha : ¬ a0 = 0) (h : HH) : JE (g_X11_wrong a0 h) h := by
  unfold g_X11_wrong
  simp only [gfI, pfI]
  by_cases z : h.1 255 27 = 0
  · rw [if_pos z]
    intro r h' e y
    cases e
    rw [wrI_1, if_neg (by decide), wrI_at] at y
    exact absurd y ha
  · rw [if_neg z]; exact JE_some
theorem J_here (h : HH) : JE (g_X11_here h) h := by
  unfold g_X11_here
  repeat' (with_reducible first | exact JE_some | exact JE_none | refine JE_gfI fun _ => ?_ | refine JE_ite ?_ ?_ | refine JE_pfI (by decide) fun _ => ?_ | refine JE_ldI fun _ => ?_ | refine JE_stI (by decide) fun _ => ?_ | refine JE_vl fun _ => ?_ | refine JE_chS fun _ => ?_ | refine JE_jn1 (fun _ => ?_) fun _ _ => ?_ | refine JE_jn2 (fun _ _ => ?_) fun _ _ => ?_ | exact J_wrong _ (by decide) _ | refine JE_bnd ?_ fun _ _ => ?_ | apply_assumption)
theorem J_isSmall (a0 : Int32) (h : HH) : JE (g_X11_isSmall a0 h) h := by
  unfold g_X11_isSmall
  repeat' (with_reducible first | exact JE_some | exact JE_none | refine JE_gfI fun _ => ?_ | refine JE_ite ?_ ?_ | refine JE_pfI (by decide) fun _ => ?_ | refine JE_ldI fun _ => ?_ | refine JE_stI (by decide) fun _ => ?_ | refine JE_vl fun _ => ?_ | refine JE_chS fun _ => ?_ | refine JE_jn1 (fun _ => ?_) fun _ _ => ?_ | refine JE_jn2 (fun _ _ => ?_) fun _ _ => ?_ | exact J_wrong _ (by decide) _ | exact J_here _ | refine JE_bnd ?_ fun _ _ => ?_ | apply_assumption)
theorem J_isDigit (a0 : Int32) (h : HH) : JE (g_X11_isDigit a0 h) h := by
  unfold g_X11_isDigit
  repeat' (with_reducible first | exact JE_some | exact JE_none | refine JE_gfI fun _ => ?_ | refine JE_ite ?_ ?_ | refine JE_pfI (by decide) fun _ => ?_ | refine JE_ldI fun _ => ?_ | refine JE_stI (by decide) fun _ => ?_ | refine JE_vl fun _ => ?_ | refine JE_chS fun _ => ?_ | refine JE_jn1 (fun _ => ?_) fun _ _ => ?_ | refine JE_jn2 (fun _ _ => ?_) fun _ _ => ?_ | exact J_wrong _ (by decide) _ | exact J_here _ | exact J_isSmall _ _ | refine JE_bnd ?_ fun _ _ => ?_ | apply_assumption)
theorem J_name_L7 : ∀ (n : Nat) (x1 : Int32) (h : HH), JE (g_X11_name_L7 n x1 h) h := by
  intro n
  induction n with
  | zero => intro x1 h; rw [g_X11_name_L7]; exact JE_none
  | succ n ih =>
    intro x1 h
    rw [g_X11_name_L7]
    repeat' (with_reducible first | exact ih _ _ | exact JE_some | exact JE_none | refine JE_gfI fun _ => ?_ | refine JE_ite ?_ ?_ | refine JE_pfI (by decide) fun _ => ?_ | refine JE_ldI fun _ => ?_ | refine JE_stI (by decide) fun _ => ?_ | refine JE_vl fun _ => ?_ | refine JE_chS fun _ => ?_ | refine JE_jn1 (fun _ => ?_) fun _ _ => ?_ | refine JE_jn2 (fun _ _ => ?_) fun _ _ => ?_ | exact J_wrong _ (by decide) _ | exact J_here _ | exact J_isSmall _ _ | exact J_isDigit _ _ | refine JE_bnd ?_ fun _ _ => ?_ | apply_assumption)
theorem J_name (h : HH) : JE (g_X11_name h) h := by
  unfold g_X11_name
  repeat' (with_reducible first | exact JE_some | exact JE_none | refine JE_gfI fun _ => ?_ | refine JE_ite ?_ ?_ | refine JE_pfI (by decide) fun _ => ?_ | refine JE_ldI fun _ => ?_ | refine JE_stI (by decide) fun _ => ?_ | refine JE_vl fun _ => ?_ | refine JE_chS fun _ => ?_ | refine JE_jn1 (fun _ => ?_) fun _ _ => ?_ | refine JE_jn2 (fun _ _ => ?_) fun _ _ => ?_ | exact J_wrong _ (by decide) _ | exact J_here _ | exact J_isSmall _ _ | exact J_isDigit _ _ | exact J_name_L7 _ _ _ | refine JE_bnd ?_ fun _ _ => ?_ | apply_assumption)
theorem J_sign (a0 : Int32) (h : HH) : JE (g_X11_sign a0 h) h := by
  unfold g_X11_sign
  repeat' (with_reducible first | exact JE_some | exact JE_none | refine JE_gfI fun _ => ?_ | refine JE_ite ?_ ?_ | refine JE_pfI (by decide) fun _ => ?_ | refine JE_ldI fun _ => ?_ | refine JE_stI (by decide) fun _ => ?_ | refine JE_vl fun _ => ?_ | refine JE_chS fun _ => ?_ | refine JE_jn1 (fun _ => ?_) fun _ _ => ?_ | refine JE_jn2 (fun _ _ => ?_) fun _ _ => ?_ | exact J_wrong _ (by decide) _ | exact J_here _ | exact J_isSmall _ _ | exact J_isDigit _ _ | exact J_name_L7 _ _ _ | exact J_name _ | refine JE_bnd ?_ fun _ _ => ?_ | apply_assumption)
theorem J_word_L15 (K : Int32 → HH → Option (Int32 × HH)) (hK : ∀ y g, JE (K y g) g) (c1 : Int32) (c2 : Int32) : ∀ (n : Nat) (x3 : Int32) (h : HH), JE (g_X11_word_L15 K c1 c2 n x3 h) h := by
  intro n
  induction n with
  | zero => intro x3 h; rw [g_X11_word_L15]; exact JE_none
  | succ n ih =>
    intro x3 h
    rw [g_X11_word_L15]
    repeat' (with_reducible first | exact ih _ _ | exact hK _ _ | exact JE_some | exact JE_none | refine JE_gfI fun _ => ?_ | refine JE_ite ?_ ?_ | refine JE_pfI (by decide) fun _ => ?_ | refine JE_ldI fun _ => ?_ | refine JE_stI (by decide) fun _ => ?_ | refine JE_vl fun _ => ?_ | refine JE_chS fun _ => ?_ | refine JE_jn1 (fun _ => ?_) fun _ _ => ?_ | refine JE_jn2 (fun _ _ => ?_) fun _ _ => ?_ | exact J_wrong _ (by decide) _ | exact J_here _ | exact J_isSmall _ _ | exact J_isDigit _ _ | exact J_name_L7 _ _ _ | exact J_name _ | exact J_sign _ _ | refine JE_bnd ?_ fun _ _ => ?_ | apply_assumption)
theorem J_word_L97 (K : Int32 → HH → Option (Int32 × HH)) (hK : ∀ y g, JE (K y g) g) (c1 : Int32) : ∀ (n : Nat) (x2 : Int32) (h : HH), JE (g_X11_word_L97 K c1 n x2 h) h := by
  intro n
  induction n with
  | zero => intro x2 h; rw [g_X11_word_L97]; exact JE_none
  | succ n ih =>
    intro x2 h
    rw [g_X11_word_L97]
    repeat' (with_reducible first | exact ih _ _ | exact hK _ _ | exact JE_some | exact JE_none | refine JE_gfI fun _ => ?_ | refine JE_ite ?_ ?_ | refine JE_pfI (by decide) fun _ => ?_ | refine JE_ldI fun _ => ?_ | refine JE_stI (by decide) fun _ => ?_ | refine JE_vl fun _ => ?_ | refine JE_chS fun _ => ?_ | refine JE_jn1 (fun _ => ?_) fun _ _ => ?_ | refine JE_jn2 (fun _ _ => ?_) fun _ _ => ?_ | exact J_wrong _ (by decide) _ | exact J_here _ | exact J_isSmall _ _ | exact J_isDigit _ _ | exact J_name_L7 _ _ _ | exact J_name _ | exact J_sign _ _ | refine J_word_L15 _ (fun _ _ => ?_) _ _ _ _ _ | refine JE_bnd ?_ fun _ _ => ?_ | apply_assumption)
theorem J_word_L4 : ∀ (n : Nat) (x1 : Int32) (x2 : Int32) (h : HH), JE (g_X11_word_L4 n x1 x2 h) h := by
  intro n
  induction n with
  | zero => intro x1 x2 h; rw [g_X11_word_L4]; exact JE_none
  | succ n ih =>
    intro x1 x2 h
    rw [g_X11_word_L4]
    repeat' (with_reducible first | exact ih _ _ _ | exact JE_some | exact JE_none | refine JE_gfI fun _ => ?_ | refine JE_ite ?_ ?_ | refine JE_pfI (by decide) fun _ => ?_ | refine JE_ldI fun _ => ?_ | refine JE_stI (by decide) fun _ => ?_ | refine JE_vl fun _ => ?_ | refine JE_chS fun _ => ?_ | refine JE_jn1 (fun _ => ?_) fun _ _ => ?_ | refine JE_jn2 (fun _ _ => ?_) fun _ _ => ?_ | exact J_wrong _ (by decide) _ | exact J_here _ | exact J_isSmall _ _ | exact J_isDigit _ _ | exact J_name_L7 _ _ _ | exact J_name _ | exact J_sign _ _ | refine J_word_L15 _ (fun _ _ => ?_) _ _ _ _ _ | refine J_word_L97 _ (fun _ _ => ?_) _ _ _ _ | refine JE_bnd ?_ fun _ _ => ?_ | apply_assumption)
theorem J_word (h : HH) : JE (g_X11_word h) h := by
  unfold g_X11_word
  repeat' (with_reducible first | exact JE_some | exact JE_none | refine JE_gfI fun _ => ?_ | refine JE_ite ?_ ?_ | refine JE_pfI (by decide) fun _ => ?_ | refine JE_ldI fun _ => ?_ | refine JE_stI (by decide) fun _ => ?_ | refine JE_vl fun _ => ?_ | refine JE_chS fun _ => ?_ | refine JE_jn1 (fun _ => ?_) fun _ _ => ?_ | refine JE_jn2 (fun _ _ => ?_) fun _ _ => ?_ | exact J_wrong _ (by decide) _ | exact J_here _ | exact J_isSmall _ _ | exact J_isDigit _ _ | exact J_name_L7 _ _ _ | exact J_name _ | exact J_sign _ _ | refine J_word_L15 _ (fun _ _ => ?_) _ _ _ _ _ | refine J_word_L97 _ (fun _ _ => ?_) _ _ _ _ | exact J_word_L4 _ _ _ _ | refine JE_bnd ?_ fun _ _ => ?_ | apply_assumption)
theorem J_token_L0 (K : HH → Option (Unit × HH)) (hK : ∀ g, JE (K g) g) : ∀ (n : Nat) (h : HH), JE (g_X11_token_L0 K n h) h := by
  intro n
  induction n with
  | zero => intro h; rw [g_X11_token_L0]; exact JE_none
  | succ n ih =>
    intro h
    rw [g_X11_token_L0]
    repeat' (with_reducible first | exact ih _ | exact hK _ | exact JE_some | exact JE_none | refine JE_gfI fun _ => ?_ | refine JE_ite ?_ ?_ | refine JE_pfI (by decide) fun _ => ?_ | refine JE_ldI fun _ => ?_ | refine JE_stI (by decide) fun _ => ?_ | refine JE_vl fun _ => ?_ | refine JE_chS fun _ => ?_ | refine JE_jn1 (fun _ => ?_) fun _ _ => ?_ | refine JE_jn2 (fun _ _ => ?_) fun _ _ => ?_ | exact J_wrong _ (by decide) _ | exact J_here _ | exact J_isSmall _ _ | exact J_isDigit _ _ | exact J_name_L7 _ _ _ | exact J_name _ | exact J_sign _ _ | refine J_word_L15 _ (fun _ _ => ?_) _ _ _ _ _ | refine J_word_L97 _ (fun _ _ => ?_) _ _ _ _ | exact J_word_L4 _ _ _ _ | exact J_word _ | refine JE_bnd ?_ fun _ _ => ?_ | apply_assumption)
theorem J_token_L162 : ∀ (n : Nat) (h : HH), JE (g_X11_token_L162 n h) h := by
  intro n
  induction n with
  | zero => intro h; rw [g_X11_token_L162]; exact JE_none
  | succ n ih =>
    intro h
    rw [g_X11_token_L162]
    repeat' (with_reducible first | exact ih _ | exact JE_some | exact JE_none | refine JE_gfI fun _ => ?_ | refine JE_ite ?_ ?_ | refine JE_pfI (by decide) fun _ => ?_ | refine JE_ldI fun _ => ?_ | refine JE_stI (by decide) fun _ => ?_ | refine JE_vl fun _ => ?_ | refine JE_chS fun _ => ?_ | refine JE_jn1 (fun _ => ?_) fun _ _ => ?_ | refine JE_jn2 (fun _ _ => ?_) fun _ _ => ?_ | exact J_wrong _ (by decide) _ | exact J_here _ | exact J_isSmall _ _ | exact J_isDigit _ _ | exact J_name_L7 _ _ _ | exact J_name _ | exact J_sign _ _ | refine J_word_L15 _ (fun _ _ => ?_) _ _ _ _ _ | refine J_word_L97 _ (fun _ _ => ?_) _ _ _ _ | exact J_word_L4 _ _ _ _ | exact J_word _ | refine J_token_L0 _ (fun _ => ?_) _ _ | refine JE_bnd ?_ fun _ _ => ?_ | apply_assumption)
theorem J_token_L64 (K : HH → Option (Unit × HH)) (hK : ∀ g, JE (K g) g) : ∀ (n : Nat) (h : HH), JE (g_X11_token_L64 K n h) h := by
  intro n
  induction n with
  | zero => intro h; rw [g_X11_token_L64]; exact JE_none
  | succ n ih =>
    intro h
    rw [g_X11_token_L64]
    repeat' (with_reducible first | exact ih _ | exact hK _ | exact JE_some | exact JE_none | refine JE_gfI fun _ => ?_ | refine JE_ite ?_ ?_ | refine JE_pfI (by decide) fun _ => ?_ | refine JE_ldI fun _ => ?_ | refine JE_stI (by decide) fun _ => ?_ | refine JE_vl fun _ => ?_ | refine JE_chS fun _ => ?_ | refine JE_jn1 (fun _ => ?_) fun _ _ => ?_ | refine JE_jn2 (fun _ _ => ?_) fun _ _ => ?_ | exact J_wrong _ (by decide) _ | exact J_here _ | exact J_isSmall _ _ | exact J_isDigit _ _ | exact J_name_L7 _ _ _ | exact J_name _ | exact J_sign _ _ | refine J_word_L15 _ (fun _ _ => ?_) _ _ _ _ _ | refine J_word_L97 _ (fun _ _ => ?_) _ _ _ _ | exact J_word_L4 _ _ _ _ | exact J_word _ | refine J_token_L0 _ (fun _ => ?_) _ _ | exact J_token_L162 _ _ | refine JE_bnd ?_ fun _ _ => ?_ | apply_assumption)
theorem J_token (h : HH) : JE (g_X11_token h) h := by
  unfold g_X11_token
  repeat' (with_reducible first | exact JE_some | exact JE_none | refine JE_gfI fun _ => ?_ | refine JE_ite ?_ ?_ | refine JE_pfI (by decide) fun _ => ?_ | refine JE_ldI fun _ => ?_ | refine JE_stI (by decide) fun _ => ?_ | refine JE_vl fun _ => ?_ | refine JE_chS fun _ => ?_ | refine JE_jn1 (fun _ => ?_) fun _ _ => ?_ | refine JE_jn2 (fun _ _ => ?_) fun _ _ => ?_ | exact J_wrong _ (by decide) _ | exact J_here _ | exact J_isSmall _ _ | exact J_isDigit _ _ | exact J_name_L7 _ _ _ | exact J_name _ | exact J_sign _ _ | refine J_word_L15 _ (fun _ _ => ?_) _ _ _ _ _ | refine J_word_L97 _ (fun _ _ => ?_) _ _ _ _ | exact J_word_L4 _ _ _ _ | exact J_word _ | refine J_token_L0 _ (fun _ => ?_) _ _ | exact J_token_L162 _ _ | refine J_token_L64 _ (fun _ => ?_) _ _ | refine JE_bnd ?_ fun _ _ => ?_ | apply_assumption)
theorem J_isWord (a0 : Int32) (h : HH) : JE (g_X11_isWord a0 h) h := by
  unfold g_X11_isWord
  repeat' (with_reducible first | exact JE_some | exact JE_none | refine JE_gfI fun _ => ?_ | refine JE_ite ?_ ?_ | refine JE_pfI (by decide) fun _ => ?_ | refine JE_ldI fun _ => ?_ | refine JE_stI (by decide) fun _ => ?_ | refine JE_vl fun _ => ?_ | refine JE_chS fun _ => ?_ | refine JE_jn1 (fun _ => ?_) fun _ _ => ?_ | refine JE_jn2 (fun _ _ => ?_) fun _ _ => ?_ | exact J_wrong _ (by decide) _ | exact J_token _ | exact J_here _ | refine JE_bnd ?_ fun _ _ => ?_ | apply_assumption)
theorem J_isSign (a0 : Int32) (h : HH) : JE (g_X11_isSign a0 h) h := by
  unfold g_X11_isSign
  repeat' (with_reducible first | exact JE_some | exact JE_none | refine JE_gfI fun _ => ?_ | refine JE_ite ?_ ?_ | refine JE_pfI (by decide) fun _ => ?_ | refine JE_ldI fun _ => ?_ | refine JE_stI (by decide) fun _ => ?_ | refine JE_vl fun _ => ?_ | refine JE_chS fun _ => ?_ | refine JE_jn1 (fun _ => ?_) fun _ _ => ?_ | refine JE_jn2 (fun _ _ => ?_) fun _ _ => ?_ | exact J_wrong _ (by decide) _ | exact J_token _ | exact J_here _ | exact J_isWord _ _ | refine JE_bnd ?_ fun _ _ => ?_ | apply_assumption)
theorem J_goOn (h : HH) : JE (g_X11_goOn h) h := by
  unfold g_X11_goOn
  repeat' (with_reducible first | exact JE_some | exact JE_none | refine JE_gfI fun _ => ?_ | refine JE_ite ?_ ?_ | refine JE_pfI (by decide) fun _ => ?_ | refine JE_ldI fun _ => ?_ | refine JE_stI (by decide) fun _ => ?_ | refine JE_vl fun _ => ?_ | refine JE_chS fun _ => ?_ | refine JE_jn1 (fun _ => ?_) fun _ _ => ?_ | refine JE_jn2 (fun _ _ => ?_) fun _ _ => ?_ | exact J_wrong _ (by decide) _ | exact J_token _ | exact J_here _ | exact J_isWord _ _ | exact J_isSign _ _ | refine JE_bnd ?_ fun _ _ => ?_ | apply_assumption)
theorem J_numeral (a0 : Int32) (a1 : Int32) (h : HH) : JE (g_X11_numeral a0 a1 h) h := by
  unfold g_X11_numeral
  repeat' (with_reducible first | exact JE_some | exact JE_none | refine JE_gfI fun _ => ?_ | refine JE_ite ?_ ?_ | refine JE_pfI (by decide) fun _ => ?_ | refine JE_ldI fun _ => ?_ | refine JE_stI (by decide) fun _ => ?_ | refine JE_vl fun _ => ?_ | refine JE_chS fun _ => ?_ | refine JE_jn1 (fun _ => ?_) fun _ _ => ?_ | refine JE_jn2 (fun _ _ => ?_) fun _ _ => ?_ | exact J_wrong _ (by decide) _ | exact J_token _ | exact J_here _ | exact J_isWord _ _ | exact J_isSign _ _ | exact J_goOn _ | refine JE_bnd ?_ fun _ _ => ?_ | apply_assumption)
theorem J_found_L3 (c1 : Int32) (c2 : Int32) (c3 : Int32) : ∀ (n : Nat) (x4 : Int32) (h : HH), JE (g_X11_found_L3 c1 c2 c3 n x4 h) h := by
  intro n
  induction n with
  | zero => intro x4 h; rw [g_X11_found_L3]; exact JE_none
  | succ n ih =>
    intro x4 h
    rw [g_X11_found_L3]
    repeat' (with_reducible first | exact ih _ _ | exact JE_some | exact JE_none | refine JE_gfI fun _ => ?_ | refine JE_ite ?_ ?_ | refine JE_pfI (by decide) fun _ => ?_ | refine JE_ldI fun _ => ?_ | refine JE_stI (by decide) fun _ => ?_ | refine JE_vl fun _ => ?_ | refine JE_chS fun _ => ?_ | refine JE_jn1 (fun _ => ?_) fun _ _ => ?_ | refine JE_jn2 (fun _ _ => ?_) fun _ _ => ?_ | exact J_wrong _ (by decide) _ | exact J_token _ | exact J_here _ | exact J_isWord _ _ | exact J_isSign _ _ | exact J_goOn _ | exact J_numeral _ _ _ | refine JE_bnd ?_ fun _ _ => ?_ | apply_assumption)
theorem J_found (a1 : Int32) (a2 : Int32) (a3 : Int32) (h : HH) : JE (g_X11_found a1 a2 a3 h) h := by
  unfold g_X11_found
  repeat' (with_reducible first | exact JE_some | exact JE_none | refine JE_gfI fun _ => ?_ | refine JE_ite ?_ ?_ | refine JE_pfI (by decide) fun _ => ?_ | refine JE_ldI fun _ => ?_ | refine JE_stI (by decide) fun _ => ?_ | refine JE_vl fun _ => ?_ | refine JE_chS fun _ => ?_ | refine JE_jn1 (fun _ => ?_) fun _ _ => ?_ | refine JE_jn2 (fun _ _ => ?_) fun _ _ => ?_ | exact J_wrong _ (by decide) _ | exact J_token _ | exact J_here _ | exact J_isWord _ _ | exact J_isSign _ _ | exact J_goOn _ | exact J_numeral _ _ _ | exact J_found_L3 _ _ _ _ _ _ | refine JE_bnd ?_ fun _ _ => ?_ | apply_assumption)
theorem J_fresh (a1 : Int32) (a2 : Int32) (h : HH) : JE (g_X11_fresh a1 a2 h) h := by
  unfold g_X11_fresh
  repeat' (with_reducible first | exact JE_some | exact JE_none | refine JE_gfI fun _ => ?_ | refine JE_ite ?_ ?_ | refine JE_pfI (by decide) fun _ => ?_ | refine JE_ldI fun _ => ?_ | refine JE_stI (by decide) fun _ => ?_ | refine JE_vl fun _ => ?_ | refine JE_chS fun _ => ?_ | refine JE_jn1 (fun _ => ?_) fun _ _ => ?_ | refine JE_jn2 (fun _ _ => ?_) fun _ _ => ?_ | exact J_wrong _ (by decide) _ | exact J_token _ | exact J_here _ | exact J_isWord _ _ | exact J_isSign _ _ | exact J_goOn _ | exact J_numeral _ _ _ | exact J_found_L3 _ _ _ _ _ _ | exact J_found _ _ _ _ | refine JE_bnd ?_ fun _ _ => ?_ | apply_assumption)
theorem J_fresher (a0 : Int32) (h : HH) : JE (g_X11_fresher a0 h) h := by
  unfold g_X11_fresher
  repeat' (with_reducible first | exact JE_some | exact JE_none | refine JE_gfI fun _ => ?_ | refine JE_ite ?_ ?_ | refine JE_pfI (by decide) fun _ => ?_ | refine JE_ldI fun _ => ?_ | refine JE_stI (by decide) fun _ => ?_ | refine JE_vl fun _ => ?_ | refine JE_chS fun _ => ?_ | refine JE_jn1 (fun _ => ?_) fun _ _ => ?_ | refine JE_jn2 (fun _ _ => ?_) fun _ _ => ?_ | exact J_wrong _ (by decide) _ | exact J_token _ | exact J_here _ | exact J_isWord _ _ | exact J_isSign _ _ | exact J_goOn _ | exact J_numeral _ _ _ | exact J_found_L3 _ _ _ _ _ _ | exact J_found _ _ _ _ | exact J_fresh _ _ _ | refine JE_bnd ?_ fun _ _ => ?_ | apply_assumption)
theorem J_reads (a0 : Int32) (a1 : Int32) (h : HH) : JE (g_X11_reads a0 a1 h) h := by
  unfold g_X11_reads
  repeat' (with_reducible first | exact JE_some | exact JE_none | refine JE_gfI fun _ => ?_ | refine JE_ite ?_ ?_ | refine JE_pfI (by decide) fun _ => ?_ | refine JE_ldI fun _ => ?_ | refine JE_stI (by decide) fun _ => ?_ | refine JE_vl fun _ => ?_ | refine JE_chS fun _ => ?_ | refine JE_jn1 (fun _ => ?_) fun _ _ => ?_ | refine JE_jn2 (fun _ _ => ?_) fun _ _ => ?_ | exact J_wrong _ (by decide) _ | exact J_token _ | exact J_here _ | exact J_isWord _ _ | exact J_isSign _ _ | exact J_goOn _ | exact J_numeral _ _ _ | exact J_found_L3 _ _ _ _ _ _ | exact J_found _ _ _ _ | exact J_fresh _ _ _ | exact J_fresher _ _ | refine JE_bnd ?_ fun _ _ => ?_ | apply_assumption)
theorem J_personAhead (h : HH) : JE (g_X11_personAhead h) h := by
  unfold g_X11_personAhead
  repeat' (with_reducible first | exact JE_some | exact JE_none | refine JE_gfI fun _ => ?_ | refine JE_ite ?_ ?_ | refine JE_pfI (by decide) fun _ => ?_ | refine JE_ldI fun _ => ?_ | refine JE_stI (by decide) fun _ => ?_ | refine JE_vl fun _ => ?_ | refine JE_chS fun _ => ?_ | refine JE_jn1 (fun _ => ?_) fun _ _ => ?_ | refine JE_jn2 (fun _ _ => ?_) fun _ _ => ?_ | exact J_wrong _ (by decide) _ | exact J_token _ | exact J_here _ | exact J_isWord _ _ | exact J_isSign _ _ | exact J_goOn _ | exact J_numeral _ _ _ | exact J_found_L3 _ _ _ _ _ _ | exact J_found _ _ _ _ | exact J_fresh _ _ _ | exact J_fresher _ _ | exact J_reads _ _ _ | refine JE_bnd ?_ fun _ _ => ?_ | apply_assumption)
theorem J_isFull (a0 : Int32) (h : HH) : JE (g_X11_isFull a0 h) h := by
  unfold g_X11_isFull
  repeat' (with_reducible first | exact JE_some | exact JE_none | refine JE_gfI fun _ => ?_ | refine JE_ite ?_ ?_ | refine JE_pfI (by decide) fun _ => ?_ | refine JE_ldI fun _ => ?_ | refine JE_stI (by decide) fun _ => ?_ | refine JE_vl fun _ => ?_ | refine JE_chS fun _ => ?_ | refine JE_jn1 (fun _ => ?_) fun _ _ => ?_ | refine JE_jn2 (fun _ _ => ?_) fun _ _ => ?_ | exact J_wrong _ (by decide) _ | exact J_token _ | exact J_here _ | exact J_isWord _ _ | exact J_isSign _ _ | exact J_goOn _ | exact J_numeral _ _ _ | exact J_found_L3 _ _ _ _ _ _ | exact J_found _ _ _ _ | exact J_fresh _ _ _ | exact J_fresher _ _ | exact J_reads _ _ _ | exact J_personAhead _ | refine JE_bnd ?_ fun _ _ => ?_ | apply_assumption)
theorem J_goingLine (a0 : Int32) (h : HH) : JE (g_X11_goingLine a0 h) h := by
  unfold g_X11_goingLine
  repeat' (with_reducible first | exact JE_some | exact JE_none | refine JE_gfI fun _ => ?_ | refine JE_ite ?_ ?_ | refine JE_pfI (by decide) fun _ => ?_ | refine JE_ldI fun _ => ?_ | refine JE_stI (by decide) fun _ => ?_ | refine JE_vl fun _ => ?_ | refine JE_chS fun _ => ?_ | refine JE_jn1 (fun _ => ?_) fun _ _ => ?_ | refine JE_jn2 (fun _ _ => ?_) fun _ _ => ?_ | exact J_wrong _ (by decide) _ | exact J_token _ | exact J_here _ | exact J_isWord _ _ | exact J_isSign _ _ | exact J_goOn _ | exact J_numeral _ _ _ | exact J_found_L3 _ _ _ _ _ _ | exact J_found _ _ _ _ | exact J_fresh _ _ _ | exact J_fresher _ _ | exact J_reads _ _ _ | exact J_personAhead _ | exact J_isFull _ _ | refine JE_bnd ?_ fun _ _ => ?_ | apply_assumption)
theorem J_ladderLine (h : HH) : JE (g_X11_ladderLine h) h := by
  unfold g_X11_ladderLine
  repeat' (with_reducible first | exact JE_some | exact JE_none | refine JE_gfI fun _ => ?_ | refine JE_ite ?_ ?_ | refine JE_pfI (by decide) fun _ => ?_ | refine JE_ldI fun _ => ?_ | refine JE_stI (by decide) fun _ => ?_ | refine JE_vl fun _ => ?_ | refine JE_chS fun _ => ?_ | refine JE_jn1 (fun _ => ?_) fun _ _ => ?_ | refine JE_jn2 (fun _ _ => ?_) fun _ _ => ?_ | exact J_wrong _ (by decide) _ | exact J_token _ | exact J_here _ | exact J_isWord _ _ | exact J_isSign _ _ | exact J_goOn _ | exact J_numeral _ _ _ | exact J_found_L3 _ _ _ _ _ _ | exact J_found _ _ _ _ | exact J_fresh _ _ _ | exact J_fresher _ _ | exact J_reads _ _ _ | exact J_personAhead _ | exact J_isFull _ _ | exact J_goingLine _ _ | refine JE_bnd ?_ fun _ _ => ?_ | apply_assumption)
theorem J_knot (h : HH) : JE (g_X11_knot h) h := by
  unfold g_X11_knot
  repeat' (with_reducible first | exact JE_some | exact JE_none | refine JE_gfI fun _ => ?_ | refine JE_ite ?_ ?_ | refine JE_pfI (by decide) fun _ => ?_ | refine JE_ldI fun _ => ?_ | refine JE_stI (by decide) fun _ => ?_ | refine JE_vl fun _ => ?_ | refine JE_chS fun _ => ?_ | refine JE_jn1 (fun _ => ?_) fun _ _ => ?_ | refine JE_jn2 (fun _ _ => ?_) fun _ _ => ?_ | exact J_wrong _ (by decide) _ | exact J_token _ | exact J_here _ | exact J_isWord _ _ | exact J_isSign _ _ | exact J_goOn _ | exact J_numeral _ _ _ | exact J_found_L3 _ _ _ _ _ _ | exact J_found _ _ _ _ | exact J_fresh _ _ _ | exact J_fresher _ _ | exact J_reads _ _ _ | exact J_personAhead _ | exact J_isFull _ _ | exact J_goingLine _ _ | exact J_ladderLine _ | refine JE_bnd ?_ fun _ _ => ?_ | apply_assumption)
theorem J_puts (a0 : Int32) (a1 : Int32) (h : HH) : JE (g_X11_puts a0 a1 h) h := by
  unfold g_X11_puts
  repeat' (with_reducible first | exact JE_some | exact JE_none | refine JE_gfI fun _ => ?_ | refine JE_ite ?_ ?_ | refine JE_pfI (by decide) fun _ => ?_ | refine JE_ldI fun _ => ?_ | refine JE_stI (by decide) fun _ => ?_ | refine JE_vl fun _ => ?_ | refine JE_chS fun _ => ?_ | refine JE_jn1 (fun _ => ?_) fun _ _ => ?_ | refine JE_jn2 (fun _ _ => ?_) fun _ _ => ?_ | exact J_wrong _ (by decide) _ | exact J_token _ | exact J_here _ | exact J_isWord _ _ | exact J_isSign _ _ | exact J_goOn _ | exact J_numeral _ _ _ | exact J_found_L3 _ _ _ _ _ _ | exact J_found _ _ _ _ | exact J_fresh _ _ _ | exact J_fresher _ _ | exact J_reads _ _ _ | exact J_personAhead _ | exact J_isFull _ _ | exact J_goingLine _ _ | exact J_ladderLine _ | exact J_knot _ | refine JE_bnd ?_ fun _ _ => ?_ | apply_assumption)
theorem J_expression_L4 (R : Nat → HH → Option (Unit × HH)) (hR : ∀ t h, JE (R t h) h) : ∀ (n : Nat) (h : HH), JE (g_X11_expression_L4 R n h) h := by
  intro n
  induction n with
  | zero => intro h; rw [g_X11_expression_L4]; exact JE_none
  | succ n ih =>
    intro h
    rw [g_X11_expression_L4]
    repeat' (with_reducible first | exact ih _ | exact hR _ _ | exact JE_some | exact JE_none | refine JE_gfI fun _ => ?_ | refine JE_ite ?_ ?_ | refine JE_pfI (by decide) fun _ => ?_ | refine JE_ldI fun _ => ?_ | refine JE_stI (by decide) fun _ => ?_ | refine JE_vl fun _ => ?_ | refine JE_chS fun _ => ?_ | refine JE_jn1 (fun _ => ?_) fun _ _ => ?_ | refine JE_jn2 (fun _ _ => ?_) fun _ _ => ?_ | exact J_wrong _ (by decide) _ | exact J_token _ | exact J_here _ | exact J_isWord _ _ | exact J_isSign _ _ | exact J_goOn _ | exact J_numeral _ _ _ | exact J_found_L3 _ _ _ _ _ _ | exact J_found _ _ _ _ | exact J_fresh _ _ _ | exact J_fresher _ _ | exact J_reads _ _ _ | exact J_personAhead _ | exact J_isFull _ _ | exact J_goingLine _ _ | exact J_ladderLine _ | exact J_knot _ | exact J_puts _ _ _ | refine JE_bnd ?_ fun _ _ => ?_ | apply_assumption)
theorem J_expression (R : Nat → HH → Option (Unit × HH)) (hR : ∀ t h, JE (R t h) h) (h : HH) : JE (g_X11_expression R h) h := by
  unfold g_X11_expression
  repeat' (with_reducible first | exact hR _ _ | exact JE_some | exact JE_none | refine JE_gfI fun _ => ?_ | refine JE_ite ?_ ?_ | refine JE_pfI (by decide) fun _ => ?_ | refine JE_ldI fun _ => ?_ | refine JE_stI (by decide) fun _ => ?_ | refine JE_vl fun _ => ?_ | refine JE_chS fun _ => ?_ | refine JE_jn1 (fun _ => ?_) fun _ _ => ?_ | refine JE_jn2 (fun _ _ => ?_) fun _ _ => ?_ | exact J_wrong _ (by decide) _ | exact J_token _ | exact J_here _ | exact J_isWord _ _ | exact J_isSign _ _ | exact J_goOn _ | exact J_numeral _ _ _ | exact J_found_L3 _ _ _ _ _ _ | exact J_found _ _ _ _ | exact J_fresh _ _ _ | exact J_fresher _ _ | exact J_reads _ _ _ | exact J_personAhead _ | exact J_isFull _ _ | exact J_goingLine _ _ | exact J_ladderLine _ | exact J_knot _ | exact J_puts _ _ _ | exact J_expression_L4 _ hR _ _ | refine JE_bnd ?_ fun _ _ => ?_ | apply_assumption)
theorem J_conjunction_L4 (R : Nat → HH → Option (Unit × HH)) (hR : ∀ t h, JE (R t h) h) : ∀ (n : Nat) (h : HH), JE (g_X11_conjunction_L4 R n h) h := by
  intro n
  induction n with
  | zero => intro h; rw [g_X11_conjunction_L4]; exact JE_none
  | succ n ih =>
    intro h
    rw [g_X11_conjunction_L4]
    repeat' (with_reducible first | exact ih _ | exact hR _ _ | exact JE_some | exact JE_none | refine JE_gfI fun _ => ?_ | refine JE_ite ?_ ?_ | refine JE_pfI (by decide) fun _ => ?_ | refine JE_ldI fun _ => ?_ | refine JE_stI (by decide) fun _ => ?_ | refine JE_vl fun _ => ?_ | refine JE_chS fun _ => ?_ | refine JE_jn1 (fun _ => ?_) fun _ _ => ?_ | refine JE_jn2 (fun _ _ => ?_) fun _ _ => ?_ | exact J_wrong _ (by decide) _ | exact J_token _ | exact J_here _ | exact J_isWord _ _ | exact J_isSign _ _ | exact J_goOn _ | exact J_numeral _ _ _ | exact J_found_L3 _ _ _ _ _ _ | exact J_found _ _ _ _ | exact J_fresh _ _ _ | exact J_fresher _ _ | exact J_reads _ _ _ | exact J_personAhead _ | exact J_isFull _ _ | exact J_goingLine _ _ | exact J_ladderLine _ | exact J_knot _ | exact J_puts _ _ _ | refine JE_bnd ?_ fun _ _ => ?_ | apply_assumption)
theorem J_conjunction (R : Nat → HH → Option (Unit × HH)) (hR : ∀ t h, JE (R t h) h) (h : HH) : JE (g_X11_conjunction R h) h := by
  unfold g_X11_conjunction
  repeat' (with_reducible first | exact hR _ _ | exact JE_some | exact JE_none | refine JE_gfI fun _ => ?_ | refine JE_ite ?_ ?_ | refine JE_pfI (by decide) fun _ => ?_ | refine JE_ldI fun _ => ?_ | refine JE_stI (by decide) fun _ => ?_ | refine JE_vl fun _ => ?_ | refine JE_chS fun _ => ?_ | refine JE_jn1 (fun _ => ?_) fun _ _ => ?_ | refine JE_jn2 (fun _ _ => ?_) fun _ _ => ?_ | exact J_wrong _ (by decide) _ | exact J_token _ | exact J_here _ | exact J_isWord _ _ | exact J_isSign _ _ | exact J_goOn _ | exact J_numeral _ _ _ | exact J_found_L3 _ _ _ _ _ _ | exact J_found _ _ _ _ | exact J_fresh _ _ _ | exact J_fresher _ _ | exact J_reads _ _ _ | exact J_personAhead _ | exact J_isFull _ _ | exact J_goingLine _ _ | exact J_ladderLine _ | exact J_knot _ | exact J_puts _ _ _ | exact J_conjunction_L4 _ hR _ _ | refine JE_bnd ?_ fun _ _ => ?_ | apply_assumption)
theorem J_negation (R : Nat → HH → Option (Unit × HH)) (hR : ∀ t h, JE (R t h) h) (h : HH) : JE (g_X11_negation R h) h := by
  unfold g_X11_negation
  repeat' (with_reducible first | exact hR _ _ | exact JE_some | exact JE_none | refine JE_gfI fun _ => ?_ | refine JE_ite ?_ ?_ | refine JE_pfI (by decide) fun _ => ?_ | refine JE_ldI fun _ => ?_ | refine JE_stI (by decide) fun _ => ?_ | refine JE_vl fun _ => ?_ | refine JE_chS fun _ => ?_ | refine JE_jn1 (fun _ => ?_) fun _ _ => ?_ | refine JE_jn2 (fun _ _ => ?_) fun _ _ => ?_ | exact J_wrong _ (by decide) _ | exact J_token _ | exact J_here _ | exact J_isWord _ _ | exact J_isSign _ _ | exact J_goOn _ | exact J_numeral _ _ _ | exact J_found_L3 _ _ _ _ _ _ | exact J_found _ _ _ _ | exact J_fresh _ _ _ | exact J_fresher _ _ | exact J_reads _ _ _ | exact J_personAhead _ | exact J_isFull _ _ | exact J_goingLine _ _ | exact J_ladderLine _ | exact J_knot _ | exact J_puts _ _ _ | refine JE_bnd ?_ fun _ _ => ?_ | apply_assumption)
theorem J_sum_L4 (R : Nat → HH → Option (Unit × HH)) (hR : ∀ t h, JE (R t h) h) : ∀ (n : Nat) (h : HH), JE (g_X11_sum_L4 R n h) h := by
  intro n
  induction n with
  | zero => intro h; rw [g_X11_sum_L4]; exact JE_none
  | succ n ih =>
    intro h
    rw [g_X11_sum_L4]
    repeat' (with_reducible first | exact ih _ | exact hR _ _ | exact JE_some | exact JE_none | refine JE_gfI fun _ => ?_ | refine JE_ite ?_ ?_ | refine JE_pfI (by decide) fun _ => ?_ | refine JE_ldI fun _ => ?_ | refine JE_stI (by decide) fun _ => ?_ | refine JE_vl fun _ => ?_ | refine JE_chS fun _ => ?_ | refine JE_jn1 (fun _ => ?_) fun _ _ => ?_ | refine JE_jn2 (fun _ _ => ?_) fun _ _ => ?_ | exact J_wrong _ (by decide) _ | exact J_token _ | exact J_here _ | exact J_isWord _ _ | exact J_isSign _ _ | exact J_goOn _ | exact J_numeral _ _ _ | exact J_found_L3 _ _ _ _ _ _ | exact J_found _ _ _ _ | exact J_fresh _ _ _ | exact J_fresher _ _ | exact J_reads _ _ _ | exact J_personAhead _ | exact J_isFull _ _ | exact J_goingLine _ _ | exact J_ladderLine _ | exact J_knot _ | exact J_puts _ _ _ | refine JE_bnd ?_ fun _ _ => ?_ | apply_assumption)
theorem J_sum (R : Nat → HH → Option (Unit × HH)) (hR : ∀ t h, JE (R t h) h) (h : HH) : JE (g_X11_sum R h) h := by
  unfold g_X11_sum
  repeat' (with_reducible first | exact hR _ _ | exact JE_some | exact JE_none | refine JE_gfI fun _ => ?_ | refine JE_ite ?_ ?_ | refine JE_pfI (by decide) fun _ => ?_ | refine JE_ldI fun _ => ?_ | refine JE_stI (by decide) fun _ => ?_ | refine JE_vl fun _ => ?_ | refine JE_chS fun _ => ?_ | refine JE_jn1 (fun _ => ?_) fun _ _ => ?_ | refine JE_jn2 (fun _ _ => ?_) fun _ _ => ?_ | exact J_wrong _ (by decide) _ | exact J_token _ | exact J_here _ | exact J_isWord _ _ | exact J_isSign _ _ | exact J_goOn _ | exact J_numeral _ _ _ | exact J_found_L3 _ _ _ _ _ _ | exact J_found _ _ _ _ | exact J_fresh _ _ _ | exact J_fresher _ _ | exact J_reads _ _ _ | exact J_personAhead _ | exact J_isFull _ _ | exact J_goingLine _ _ | exact J_ladderLine _ | exact J_knot _ | exact J_puts _ _ _ | exact J_sum_L4 _ hR _ _ | refine JE_bnd ?_ fun _ _ => ?_ | apply_assumption)
theorem J_product_L4 (R : Nat → HH → Option (Unit × HH)) (hR : ∀ t h, JE (R t h) h) : ∀ (n : Nat) (h : HH), JE (g_X11_product_L4 R n h) h := by
  intro n
  induction n with
  | zero => intro h; rw [g_X11_product_L4]; exact JE_none
  | succ n ih =>
    intro h
    rw [g_X11_product_L4]
    repeat' (with_reducible first | exact ih _ | exact hR _ _ | exact JE_some | exact JE_none | refine JE_gfI fun _ => ?_ | refine JE_ite ?_ ?_ | refine JE_pfI (by decide) fun _ => ?_ | refine JE_ldI fun _ => ?_ | refine JE_stI (by decide) fun _ => ?_ | refine JE_vl fun _ => ?_ | refine JE_chS fun _ => ?_ | refine JE_jn1 (fun _ => ?_) fun _ _ => ?_ | refine JE_jn2 (fun _ _ => ?_) fun _ _ => ?_ | exact J_wrong _ (by decide) _ | exact J_token _ | exact J_here _ | exact J_isWord _ _ | exact J_isSign _ _ | exact J_goOn _ | exact J_numeral _ _ _ | exact J_found_L3 _ _ _ _ _ _ | exact J_found _ _ _ _ | exact J_fresh _ _ _ | exact J_fresher _ _ | exact J_reads _ _ _ | exact J_personAhead _ | exact J_isFull _ _ | exact J_goingLine _ _ | exact J_ladderLine _ | exact J_knot _ | exact J_puts _ _ _ | refine JE_bnd ?_ fun _ _ => ?_ | apply_assumption)
theorem J_product (R : Nat → HH → Option (Unit × HH)) (hR : ∀ t h, JE (R t h) h) (h : HH) : JE (g_X11_product R h) h := by
  unfold g_X11_product
  repeat' (with_reducible first | exact hR _ _ | exact JE_some | exact JE_none | refine JE_gfI fun _ => ?_ | refine JE_ite ?_ ?_ | refine JE_pfI (by decide) fun _ => ?_ | refine JE_ldI fun _ => ?_ | refine JE_stI (by decide) fun _ => ?_ | refine JE_vl fun _ => ?_ | refine JE_chS fun _ => ?_ | refine JE_jn1 (fun _ => ?_) fun _ _ => ?_ | refine JE_jn2 (fun _ _ => ?_) fun _ _ => ?_ | exact J_wrong _ (by decide) _ | exact J_token _ | exact J_here _ | exact J_isWord _ _ | exact J_isSign _ _ | exact J_goOn _ | exact J_numeral _ _ _ | exact J_found_L3 _ _ _ _ _ _ | exact J_found _ _ _ _ | exact J_fresh _ _ _ | exact J_fresher _ _ | exact J_reads _ _ _ | exact J_personAhead _ | exact J_isFull _ _ | exact J_goingLine _ _ | exact J_ladderLine _ | exact J_knot _ | exact J_puts _ _ _ | exact J_product_L4 _ hR _ _ | refine JE_bnd ?_ fun _ _ => ?_ | apply_assumption)
theorem J_primary (R : Nat → HH → Option (Unit × HH)) (hR : ∀ t h, JE (R t h) h) (h : HH) : JE (g_X11_primary R h) h := by
  unfold g_X11_primary
  repeat' (with_reducible first | exact hR _ _ | exact JE_some | exact JE_none | refine JE_gfI fun _ => ?_ | refine JE_ite ?_ ?_ | refine JE_pfI (by decide) fun _ => ?_ | refine JE_ldI fun _ => ?_ | refine JE_stI (by decide) fun _ => ?_ | refine JE_vl fun _ => ?_ | refine JE_chS fun _ => ?_ | refine JE_jn1 (fun _ => ?_) fun _ _ => ?_ | refine JE_jn2 (fun _ _ => ?_) fun _ _ => ?_ | exact J_wrong _ (by decide) _ | exact J_token _ | exact J_here _ | exact J_isWord _ _ | exact J_isSign _ _ | exact J_goOn _ | exact J_numeral _ _ _ | exact J_found_L3 _ _ _ _ _ _ | exact J_found _ _ _ _ | exact J_fresh _ _ _ | exact J_fresher _ _ | exact J_reads _ _ _ | exact J_personAhead _ | exact J_isFull _ _ | exact J_goingLine _ _ | exact J_ladderLine _ | exact J_knot _ | exact J_puts _ _ _ | refine JE_bnd ?_ fun _ _ => ?_ | apply_assumption)
theorem J_rG : ∀ (n t : Nat) (h : HH), JE (rG n t h) h := by
  intro n
  induction n with
  | zero => intro t h; rw [rG]; exact JE_none
  | succ n ih =>
    intro t h
    rcases t with _ | _ | _ | _ | _ | t
    · exact J_expression _ ih h
    · exact J_conjunction _ ih h
    · exact J_negation _ ih h
    · exact J_sum _ ih h
    · exact J_product _ ih h
    · exact J_primary _ ih h
theorem J_lawLine (h : HH) : JE (g_X11_lawLine h) h := by
  unfold g_X11_lawLine
  repeat' (with_reducible first | exact JE_some | exact JE_none | refine JE_gfI fun _ => ?_ | refine JE_ite ?_ ?_ | refine JE_pfI (by decide) fun _ => ?_ | refine JE_ldI fun _ => ?_ | refine JE_stI (by decide) fun _ => ?_ | refine JE_vl fun _ => ?_ | refine JE_chS fun _ => ?_ | refine JE_jn1 (fun _ => ?_) fun _ _ => ?_ | refine JE_jn2 (fun _ _ => ?_) fun _ _ => ?_ | exact J_wrong _ (by decide) _ | exact J_token _ | exact J_here _ | exact J_isWord _ _ | exact J_isSign _ _ | exact J_goOn _ | exact J_numeral _ _ _ | exact J_found_L3 _ _ _ _ _ _ | exact J_found _ _ _ _ | exact J_fresh _ _ _ | exact J_fresher _ _ | exact J_reads _ _ _ | exact J_personAhead _ | exact J_isFull _ _ | exact J_goingLine _ _ | exact J_ladderLine _ | exact J_knot _ | exact J_puts _ _ _ | exact J_rG _ _ _ | refine JE_bnd ?_ fun _ _ => ?_ | apply_assumption)
theorem J_personLine_L61 (K : HH → Option (Unit × HH)) (hK : ∀ g, JE (K g) g) (c1 : Int32) : ∀ (n : Nat) (x2 : Int32) (h : HH), JE (g_X11_personLine_L61 K c1 n x2 h) h := by
  intro n
  induction n with
  | zero => intro x2 h; rw [g_X11_personLine_L61]; exact JE_none
  | succ n ih =>
    intro x2 h
    rw [g_X11_personLine_L61]
    repeat' (with_reducible first | exact ih _ _ | exact hK _ | exact JE_some | exact JE_none | refine JE_gfI fun _ => ?_ | refine JE_ite ?_ ?_ | refine JE_pfI (by decide) fun _ => ?_ | refine JE_ldI fun _ => ?_ | refine JE_stI (by decide) fun _ => ?_ | refine JE_vl fun _ => ?_ | refine JE_chS fun _ => ?_ | refine JE_jn1 (fun _ => ?_) fun _ _ => ?_ | refine JE_jn2 (fun _ _ => ?_) fun _ _ => ?_ | exact J_wrong _ (by decide) _ | exact J_token _ | exact J_here _ | exact J_isWord _ _ | exact J_isSign _ _ | exact J_goOn _ | exact J_numeral _ _ _ | exact J_found_L3 _ _ _ _ _ _ | exact J_found _ _ _ _ | exact J_fresh _ _ _ | exact J_fresher _ _ | exact J_reads _ _ _ | exact J_personAhead _ | exact J_isFull _ _ | exact J_goingLine _ _ | exact J_ladderLine _ | exact J_knot _ | exact J_puts _ _ _ | exact J_rG _ _ _ | exact J_lawLine _ | refine JE_bnd ?_ fun _ _ => ?_ | apply_assumption)
theorem J_personLine (h : HH) : JE (g_X11_personLine h) h := by
  unfold g_X11_personLine
  repeat' (with_reducible first | exact JE_some | exact JE_none | refine JE_gfI fun _ => ?_ | refine JE_ite ?_ ?_ | refine JE_pfI (by decide) fun _ => ?_ | refine JE_ldI fun _ => ?_ | refine JE_stI (by decide) fun _ => ?_ | refine JE_vl fun _ => ?_ | refine JE_chS fun _ => ?_ | refine JE_jn1 (fun _ => ?_) fun _ _ => ?_ | refine JE_jn2 (fun _ _ => ?_) fun _ _ => ?_ | exact J_wrong _ (by decide) _ | exact J_token _ | exact J_here _ | exact J_isWord _ _ | exact J_isSign _ _ | exact J_goOn _ | exact J_numeral _ _ _ | exact J_found_L3 _ _ _ _ _ _ | exact J_found _ _ _ _ | exact J_fresh _ _ _ | exact J_fresher _ _ | exact J_reads _ _ _ | exact J_personAhead _ | exact J_isFull _ _ | exact J_goingLine _ _ | exact J_ladderLine _ | exact J_knot _ | exact J_puts _ _ _ | exact J_rG _ _ _ | exact J_lawLine _ | refine J_personLine_L61 _ (fun _ => ?_) _ _ _ _ | refine JE_bnd ?_ fun _ _ => ?_ | apply_assumption)
theorem J_tallyLine (a0 : Int32) (h : HH) : JE (g_X11_tallyLine a0 h) h := by
  unfold g_X11_tallyLine
  repeat' (with_reducible first | exact JE_some | exact JE_none | refine JE_gfI fun _ => ?_ | refine JE_ite ?_ ?_ | refine JE_pfI (by decide) fun _ => ?_ | refine JE_ldI fun _ => ?_ | refine JE_stI (by decide) fun _ => ?_ | refine JE_vl fun _ => ?_ | refine JE_chS fun _ => ?_ | refine JE_jn1 (fun _ => ?_) fun _ _ => ?_ | refine JE_jn2 (fun _ _ => ?_) fun _ _ => ?_ | exact J_wrong _ (by decide) _ | exact J_token _ | exact J_here _ | exact J_isWord _ _ | exact J_isSign _ _ | exact J_goOn _ | exact J_numeral _ _ _ | exact J_found_L3 _ _ _ _ _ _ | exact J_found _ _ _ _ | exact J_fresh _ _ _ | exact J_fresher _ _ | exact J_reads _ _ _ | exact J_personAhead _ | exact J_isFull _ _ | exact J_goingLine _ _ | exact J_ladderLine _ | exact J_knot _ | exact J_puts _ _ _ | exact J_rG _ _ _ | exact J_lawLine _ | refine J_personLine_L61 _ (fun _ => ?_) _ _ _ _ | exact J_personLine _ | refine JE_bnd ?_ fun _ _ => ?_ | apply_assumption)
theorem J_line (h : HH) : JE (g_X11_line h) h := by
  unfold g_X11_line
  repeat' (with_reducible first | exact JE_some | exact JE_none | refine JE_gfI fun _ => ?_ | refine JE_ite ?_ ?_ | refine JE_pfI (by decide) fun _ => ?_ | refine JE_ldI fun _ => ?_ | refine JE_stI (by decide) fun _ => ?_ | refine JE_vl fun _ => ?_ | refine JE_chS fun _ => ?_ | refine JE_jn1 (fun _ => ?_) fun _ _ => ?_ | refine JE_jn2 (fun _ _ => ?_) fun _ _ => ?_ | exact J_wrong _ (by decide) _ | exact J_token _ | exact J_here _ | exact J_isWord _ _ | exact J_isSign _ _ | exact J_goOn _ | exact J_numeral _ _ _ | exact J_found_L3 _ _ _ _ _ _ | exact J_found _ _ _ _ | exact J_fresh _ _ _ | exact J_fresher _ _ | exact J_reads _ _ _ | exact J_personAhead _ | exact J_isFull _ _ | exact J_goingLine _ _ | exact J_ladderLine _ | exact J_knot _ | exact J_puts _ _ _ | exact J_rG _ _ _ | exact J_lawLine _ | refine J_personLine_L61 _ (fun _ => ?_) _ _ _ _ | exact J_personLine _ | exact J_tallyLine _ _ | refine JE_bnd ?_ fun _ _ => ?_ | apply_assumption)
theorem J_text_L117 (K : HH → Option (Int32 × HH)) (hK : ∀ g, JE (K g) g) : ∀ (n : Nat) (h : HH), JE (g_X11_text_L117 K n h) h := by
  intro n
  induction n with
  | zero => intro h; rw [g_X11_text_L117]; exact JE_none
  | succ n ih =>
    intro h
    rw [g_X11_text_L117]
    repeat' (with_reducible first | exact ih _ | exact hK _ | exact JE_some | exact JE_none | refine JE_gfI fun _ => ?_ | refine JE_ite ?_ ?_ | refine JE_pfI (by decide) fun _ => ?_ | refine JE_ldI fun _ => ?_ | refine JE_stI (by decide) fun _ => ?_ | refine JE_vl fun _ => ?_ | refine JE_chS fun _ => ?_ | refine JE_jn1 (fun _ => ?_) fun _ _ => ?_ | refine JE_jn2 (fun _ _ => ?_) fun _ _ => ?_ | exact J_wrong _ (by decide) _ | exact J_token _ | exact J_here _ | exact J_isWord _ _ | exact J_isSign _ _ | exact J_goOn _ | exact J_numeral _ _ _ | exact J_found_L3 _ _ _ _ _ _ | exact J_found _ _ _ _ | exact J_fresh _ _ _ | exact J_fresher _ _ | exact J_reads _ _ _ | exact J_personAhead _ | exact J_isFull _ _ | exact J_goingLine _ _ | exact J_ladderLine _ | exact J_knot _ | exact J_puts _ _ _ | exact J_rG _ _ _ | exact J_lawLine _ | refine J_personLine_L61 _ (fun _ => ?_) _ _ _ _ | exact J_personLine _ | exact J_tallyLine _ _ | exact J_line _ | refine JE_bnd ?_ fun _ _ => ?_ | apply_assumption)
