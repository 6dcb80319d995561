/-! rows: an instruction each, over Sx -/
def DC (M : MI) (pc : Nat) (i : Instr) (len q : Nat) : Prop := decode M.2.1 pc = .ok (i, len) ∧ pc + len = q
def DB (M : MI) (pc : Nat) (i : Instr) (off : Int) (q t : Nat) : Prop := decode M.2.1 pc = .ok (i, 3) ∧ pc + 3 = q ∧ (pc : Int) + off = (t : Int)
theorem lc_at {lc : List (Nat × Value)} {k i : Nat} {v : Value} (ρ : Nat → Nat) (h : lc[k]? = some (i, v)) : (lc.map (rlq ρ))[k]? = some (i, rl ρ v) := by
  rw [List.getElem?_map, h]; rfl
theorem lc_f1 (ρ : Nat → Nat) (i : Nat) (lc : List (Nat × Value)) : (lc.map (rlq ρ)).filter (fun q => !(q.1 == i) && !(q.1 + 1 == i && q.2.category == 2)) = (lc.filter (fun q => !(q.1 == i) && !(q.1 + 1 == i && q.2.category == 2))).map (rlq ρ) := by
  rw [List.filter_map]
  congr 1
  apply List.filter_congr
  intro q _
  simp [rlq, rl_cat]
theorem lc_f2 (ρ : Nat → Nat) (i : Nat) (lc : List (Nat × Value)) : (lc.map (rlq ρ)).filter (fun q => !(q.1 == i) && (!(q.1 == i + 1) && !(q.1 + 1 == i && q.2.category == 2))) = (lc.filter (fun q => !(q.1 == i) && (!(q.1 == i + 1) && !(q.1 + 1 == i && q.2.category == 2)))).map (rlq ρ) := by
  rw [List.filter_map]
  congr 1
  apply List.filter_congr
  intro q _
  simp [rlq, rl_cat]
section SX
variable {α : Type} {M : MI} {d : Nat} {inj : α → Option Value} {E E1 E2 : Option (α × HH)} {pc q : Nat} {lc lc' : List (Nat × Value)} {st : List Value} {h : HH}
theorem sx_none : Sx M d inj none pc lc st h := by
  intro p l e s m args below meth c X H locs ls r h' C hP hS hl hE
  cases hE
theorem sx_ck {P : Prop} [Decidable P] (k : P → Sx M d inj E pc lc st h) : Sx M d inj (if P then E else none) pc lc st h := by
  by_cases hp : P
  · rw [if_pos hp]; exact k hp
  · rw [if_neg hp]; exact sx_none
theorem sx_ckn {P : Prop} [Decidable P] (k : ¬ P → Sx M d inj E pc lc st h) : Sx M d inj (if P then none else E) pc lc st h := by
  by_cases hp : P
  · rw [if_pos hp]; exact sx_none
  · rw [if_neg hp]; exact k hp
theorem sx_if {P : Prop} [Decidable P] (k1 : P → Sx M d inj E1 pc lc st h) (k2 : ¬ P → Sx M d inj E2 pc lc st h) : Sx M d inj (if P then E1 else E2) pc lc st h := by
  by_cases hp : P
  · rw [if_pos hp]; exact k1 hp
  · rw [if_neg hp]; exact k2 hp
theorem sx_ckK {ci a : Nat} (k : shL[a]? = some (.inl ci) → Sx M d inj E pc lc st h) : Sx M d inj (ckK ci a E) pc lc st h := sx_ck k
theorem sx_ckA {a : Nat} (k : shL[a]? = some (.inr (0, lnA a, 0)) → Sx M d inj E pc lc st h) : Sx M d inj (ckA a E) pc lc st h := sx_ck k
theorem sx_ckE {a b : Nat} (k : a = b → Sx M d inj E pc lc st h) : Sx M d inj (ckE a b E) pc lc st h := sx_ck k
theorem sx_ckZ {v : Int32} (k : v = 0 ∨ v = 1 → Sx M d inj E pc lc st h) : Sx M d inj (ckZ v E) pc lc st h := sx_ck k
theorem sx_jn {γ : Type} {K : γ} {F : γ → Option (α × HH)} (P : γ → Prop) (hK : P K) (hF : ∀ j, P j → Sx M d inj (F j) pc lc st h) : Sx M d inj (jn K F) pc lc st h := hF K hK
/-- fewer locals -/
theorem sx_lc (ks : List Nat) (hl : lv_pick lc ks = lc') (k : Sx M d inj E pc lc' st h) : Sx M d inj E pc lc st h := by
  intro p l e s m args below meth c X H locs ls r h' C hP hS hl2 hE
  refine k p l e s m args below meth c X H locs ls r h' C hP hS (lv_sub hl2 ks ?_) hE
  rw [← hl]
  simp only [lv_pick, List.map_filterMap, List.getElem?_map]
theorem sx_hl {h0 : HH} {k : HH → Option (α × HH)} (kk : ∀ h, Sx M d inj (k h) pc lc st h) : Sx M d inj (k h0) pc lc st h0 := kk h0
theorem sx_vlI {x : Int32} {k : Int32 → Option (α × HH)} (kk : ∀ v, Sx M d inj (k v) pc lc (.int v :: st) h) : Sx M d inj (vl x k) pc lc (.int x :: st) h := kk x
theorem sx_vlL {x : Int64} {k : Int64 → Option (α × HH)} (kk : ∀ v, Sx M d inj (k v) pc lc (.long v :: st) h) : Sx M d inj (vl x k) pc lc (.long x :: st) h := kk x
theorem sx_iconst {n : Int} {v : Int32} (hdg : DC M pc (.iconst n) 1 q) (hv : Int32.ofInt n = v) (k : Sx M d inj E q lc (.int v :: st) h) : Sx M d inj E pc lc (st) h := by
  obtain ⟨hd, rfl⟩ := hdg
  intro p l e s m args below meth c X H locs ls r h' C hP hS hl hE
  exact lv_iconst C.1 C.2.1 hd hv (k p l e s m args below meth c X H locs ls r h' C hP hS hl hE)
theorem sx_bipush {n : Int} {v : Int32} (hdg : DC M pc (.bipush n) 2 q) (hv : (Int8.ofInt n).toInt32 = v) (k : Sx M d inj E q lc (.int v :: st) h) : Sx M d inj E pc lc (st) h := by
  obtain ⟨hd, rfl⟩ := hdg
  intro p l e s m args below meth c X H locs ls r h' C hP hS hl hE
  exact lv_bipush C.1 C.2.1 hd hv (k p l e s m args below meth c X H locs ls r h' C hP hS hl hE)
theorem sx_sipush {n : Int} {v : Int32} (hdg : DC M pc (.sipush n) 3 q) (hv : (Int16.ofInt n).toInt32 = v) (k : Sx M d inj E q lc (.int v :: st) h) : Sx M d inj E pc lc (st) h := by
  obtain ⟨hd, rfl⟩ := hdg
  intro p l e s m args below meth c X H locs ls r h' C hP hS hl hE
  exact lv_sipush C.1 C.2.1 hd hv (k p l e s m args below meth c X H locs ls r h' C hP hS hl hE)
theorem sx_lconst {n : Fin 2} {v : Int64} (hdg : DC M pc (.lconst n) 1 q) (hv : Int64.ofNat (n : Nat) = v) (k : Sx M d inj E q lc (.long v :: st) h) : Sx M d inj E pc lc (st) h := by
  obtain ⟨hd, rfl⟩ := hdg
  intro p l e s m args below meth c X H locs ls r h' C hP hS hl hE
  exact lv_lconst C.1 C.2.1 hd hv (k p l e s m args below meth c X H locs ls r h' C hP hS hl hE)
theorem sx_iload {i : Nat} {x : Int32} (hdg : DC M pc (.iload i) 2 q) (k0 : Nat) (hk : lc[k0]? = some (i, .int x)) (k : Sx M d inj E q lc (.int x :: st) h) : Sx M d inj E pc lc (st) h := by
  obtain ⟨hd, rfl⟩ := hdg
  intro p l e s m args below meth c X H locs ls r h' C hP hS hl hE
  exact lv_iload C.1 C.2.1 hd (lv_at hl k0 (lc_at X.1 hk)) (k p l e s m args below meth c X H locs ls r h' C hP hS hl hE)
theorem sx_iload_n {n : Fin 4} {x : Int32} (hdg : DC M pc (.iload_n n) 1 q) (k0 : Nat) (hk : lc[k0]? = some ((n : Nat), .int x)) (k : Sx M d inj E q lc (.int x :: st) h) : Sx M d inj E pc lc (st) h := by
  obtain ⟨hd, rfl⟩ := hdg
  intro p l e s m args below meth c X H locs ls r h' C hP hS hl hE
  exact lv_iload_n C.1 C.2.1 hd rfl (lv_at hl k0 (lc_at X.1 hk)) (k p l e s m args below meth c X H locs ls r h' C hP hS hl hE)
theorem sx_lload {i : Nat} {x : Int64} (hdg : DC M pc (.lload i) 2 q) (k0 : Nat) (hk : lc[k0]? = some (i, .long x)) (k : Sx M d inj E q lc (.long x :: st) h) : Sx M d inj E pc lc (st) h := by
  obtain ⟨hd, rfl⟩ := hdg
  intro p l e s m args below meth c X H locs ls r h' C hP hS hl hE
  exact lv_lload C.1 C.2.1 hd (lv_at hl k0 (lc_at X.1 hk)) (k p l e s m args below meth c X H locs ls r h' C hP hS hl hE)
theorem sx_lload_n {n : Fin 4} {x : Int64} (hdg : DC M pc (.lload_n n) 1 q) (k0 : Nat) (hk : lc[k0]? = some ((n : Nat), .long x)) (k : Sx M d inj E q lc (.long x :: st) h) : Sx M d inj E pc lc (st) h := by
  obtain ⟨hd, rfl⟩ := hdg
  intro p l e s m args below meth c X H locs ls r h' C hP hS hl hE
  exact lv_lload_n C.1 C.2.1 hd rfl (lv_at hl k0 (lc_at X.1 hk)) (k p l e s m args below meth c X H locs ls r h' C hP hS hl hE)
theorem sx_aload {i : Nat} {x : Nat} (hdg : DC M pc (.aload i) 2 q) (k0 : Nat) (hk : lc[k0]? = some (i, .ref x)) (k : Sx M d inj E q lc (.ref x :: st) h) : Sx M d inj E pc lc (st) h := by
  obtain ⟨hd, rfl⟩ := hdg
  intro p l e s m args below meth c X H locs ls r h' C hP hS hl hE
  exact lv_aload C.1 C.2.1 hd (lv_at hl k0 (lc_at X.1 hk)) (k p l e s m args below meth c X H locs ls r h' C hP hS hl hE)
theorem sx_aload_n {n : Fin 4} {x : Nat} (hdg : DC M pc (.aload_n n) 1 q) (k0 : Nat) (hk : lc[k0]? = some ((n : Nat), .ref x)) (k : Sx M d inj E q lc (.ref x :: st) h) : Sx M d inj E pc lc (st) h := by
  obtain ⟨hd, rfl⟩ := hdg
  intro p l e s m args below meth c X H locs ls r h' C hP hS hl hE
  exact lv_aload_n C.1 C.2.1 hd rfl (lv_at hl k0 (lc_at X.1 hk)) (k p l e s m args below meth c X H locs ls r h' C hP hS hl hE)
theorem sx_istore {i : Nat} {x : Int32} (hdg : DC M pc (.istore i) 2 q) (hn : i < M.2.2.1) (hl0 : (i, Value.int x) :: lc.filter (fun q => !(q.1 == i) && !(q.1 + 1 == i && q.2.category == 2)) = lc') (k : Sx M d inj E q lc' st h) : Sx M d inj E pc lc (.int x :: st) h := by
  obtain ⟨hd, rfl⟩ := hdg
  intro p l e s m args below meth c X H locs ls r h' C hP hS hl hE
  subst hl0
  exact lv_istore C.1 C.2.1 hd hl hn (by rw [lc_f1]; rfl) (fun ls' hl' => k p l e s m args below meth c X H locs ls' r h' C hP hS hl' hE)
theorem sx_istore_n {n : Fin 4} {i : Nat} {x : Int32} (hdg : DC M pc (.istore_n n) 1 q) (hi : (n : Nat) = i) (hn : i < M.2.2.1) (hl0 : (i, Value.int x) :: lc.filter (fun q => !(q.1 == i) && !(q.1 + 1 == i && q.2.category == 2)) = lc') (k : Sx M d inj E q lc' st h) : Sx M d inj E pc lc (.int x :: st) h := by
  obtain ⟨hd, rfl⟩ := hdg
  intro p l e s m args below meth c X H locs ls r h' C hP hS hl hE
  subst hl0
  exact lv_istore_n C.1 C.2.1 hd hi hl hn (by rw [lc_f1]; rfl) (fun ls' hl' => k p l e s m args below meth c X H locs ls' r h' C hP hS hl' hE)
theorem sx_lstore {i : Nat} {x : Int64} (hdg : DC M pc (.lstore i) 2 q) (hn : i + 1 < M.2.2.1) (hl0 : (i, Value.long x) :: lc.filter (fun q => !(q.1 == i) && (!(q.1 == i + 1) && !(q.1 + 1 == i && q.2.category == 2))) = lc') (k : Sx M d inj E q lc' st h) : Sx M d inj E pc lc (.long x :: st) h := by
  obtain ⟨hd, rfl⟩ := hdg
  intro p l e s m args below meth c X H locs ls r h' C hP hS hl hE
  subst hl0
  exact lv_lstore C.1 C.2.1 hd hl hn (by rw [lc_f2]; rfl) (fun ls' hl' => k p l e s m args below meth c X H locs ls' r h' C hP hS hl' hE)
theorem sx_lstore_n {n : Fin 4} {i : Nat} {x : Int64} (hdg : DC M pc (.lstore_n n) 1 q) (hi : (n : Nat) = i) (hn : i + 1 < M.2.2.1) (hl0 : (i, Value.long x) :: lc.filter (fun q => !(q.1 == i) && (!(q.1 == i + 1) && !(q.1 + 1 == i && q.2.category == 2))) = lc') (k : Sx M d inj E q lc' st h) : Sx M d inj E pc lc (.long x :: st) h := by
  obtain ⟨hd, rfl⟩ := hdg
  intro p l e s m args below meth c X H locs ls r h' C hP hS hl hE
  subst hl0
  exact lv_lstore_n C.1 C.2.1 hd hi hl hn (by rw [lc_f2]; rfl) (fun ls' hl' => k p l e s m args below meth c X H locs ls' r h' C hP hS hl' hE)
theorem sx_astore {i : Nat} {x : Nat} (hdg : DC M pc (.astore i) 2 q) (hn : i < M.2.2.1) (hl0 : (i, Value.ref x) :: lc.filter (fun q => !(q.1 == i) && !(q.1 + 1 == i && q.2.category == 2)) = lc') (k : Sx M d inj E q lc' st h) : Sx M d inj E pc lc (.ref x :: st) h := by
  obtain ⟨hd, rfl⟩ := hdg
  intro p l e s m args below meth c X H locs ls r h' C hP hS hl hE
  subst hl0
  exact lv_astore C.1 C.2.1 hd hl hn (by rw [lc_f1]; rfl) (fun ls' hl' => k p l e s m args below meth c X H locs ls' r h' C hP hS hl' hE)
theorem sx_astore_n {n : Fin 4} {i : Nat} {x : Nat} (hdg : DC M pc (.astore_n n) 1 q) (hi : (n : Nat) = i) (hn : i < M.2.2.1) (hl0 : (i, Value.ref x) :: lc.filter (fun q => !(q.1 == i) && !(q.1 + 1 == i && q.2.category == 2)) = lc') (k : Sx M d inj E q lc' st h) : Sx M d inj E pc lc (.ref x :: st) h := by
  obtain ⟨hd, rfl⟩ := hdg
  intro p l e s m args below meth c X H locs ls r h' C hP hS hl hE
  subst hl0
  exact lv_astore_n C.1 C.2.1 hd hi hl hn (by rw [lc_f1]; rfl) (fun ls' hl' => k p l e s m args below meth c X H locs ls' r h' C hP hS hl' hE)
theorem sx_iinc {i k0 : Nat} {n : Int} {x v : Int32} (hdg : DC M pc (.iinc i n) 3 q) (hk : lc[k0]? = some (i, .int x)) (hv : x + Int32.ofInt n = v) (hn : i < M.2.2.1) (hl0 : (i, Value.int v) :: lc.filter (fun q => !(q.1 == i) && !(q.1 + 1 == i && q.2.category == 2)) = lc') (k : Sx M d inj E q lc' st h) : Sx M d inj E pc lc st h := by
  obtain ⟨hd, rfl⟩ := hdg
  intro p l e s m args below meth c X H locs ls r h' C hP hS hl hE
  subst hl0
  exact lv_iinc C.1 C.2.1 hd hl (lc_at X.1 hk) hv hn (by rw [lc_f1]; rfl) (fun ls' hl' => k p l e s m args below meth c X H locs ls' r h' C hP hS hl' hE)
theorem sx_iadd {x y : Int32} (hdg : DC M pc .iadd 1 q) (k : Sx M d inj E q lc (.int (x + y) :: st) h) : Sx M d inj E pc lc (.int y :: .int x :: st) h := by
  obtain ⟨hd, rfl⟩ := hdg
  intro p l e s m args below meth c X H locs ls r h' C hP hS hl hE
  exact lv_iadd C.1 C.2.1 hd (k p l e s m args below meth c X H locs ls r h' C hP hS hl hE)
theorem sx_isub {x y : Int32} (hdg : DC M pc .isub 1 q) (k : Sx M d inj E q lc (.int (x - y) :: st) h) : Sx M d inj E pc lc (.int y :: .int x :: st) h := by
  obtain ⟨hd, rfl⟩ := hdg
  intro p l e s m args below meth c X H locs ls r h' C hP hS hl hE
  exact lv_isub C.1 C.2.1 hd (k p l e s m args below meth c X H locs ls r h' C hP hS hl hE)
theorem sx_imul {x y : Int32} (hdg : DC M pc .imul 1 q) (k : Sx M d inj E q lc (.int (x * y) :: st) h) : Sx M d inj E pc lc (.int y :: .int x :: st) h := by
  obtain ⟨hd, rfl⟩ := hdg
  intro p l e s m args below meth c X H locs ls r h' C hP hS hl hE
  exact lv_imul C.1 C.2.1 hd (k p l e s m args below meth c X H locs ls r h' C hP hS hl hE)
theorem sx_iand {x y : Int32} (hdg : DC M pc .iand 1 q) (k : Sx M d inj E q lc (.int (x &&& y) :: st) h) : Sx M d inj E pc lc (.int y :: .int x :: st) h := by
  obtain ⟨hd, rfl⟩ := hdg
  intro p l e s m args below meth c X H locs ls r h' C hP hS hl hE
  exact lv_iand C.1 C.2.1 hd (k p l e s m args below meth c X H locs ls r h' C hP hS hl hE)
theorem sx_ior {x y : Int32} (hdg : DC M pc .ior 1 q) (k : Sx M d inj E q lc (.int (x ||| y) :: st) h) : Sx M d inj E pc lc (.int y :: .int x :: st) h := by
  obtain ⟨hd, rfl⟩ := hdg
  intro p l e s m args below meth c X H locs ls r h' C hP hS hl hE
  exact lv_ior C.1 C.2.1 hd (k p l e s m args below meth c X H locs ls r h' C hP hS hl hE)
theorem sx_ishl {x y : Int32} (hdg : DC M pc .ishl 1 q) (k : Sx M d inj E q lc (.int (x <<< (y &&& 31)) :: st) h) : Sx M d inj E pc lc (.int y :: .int x :: st) h := by
  obtain ⟨hd, rfl⟩ := hdg
  intro p l e s m args below meth c X H locs ls r h' C hP hS hl hE
  exact lv_ishl C.1 C.2.1 hd (k p l e s m args below meth c X H locs ls r h' C hP hS hl hE)
theorem sx_ishr {x y : Int32} (hdg : DC M pc .ishr 1 q) (k : Sx M d inj E q lc (.int (x >>> (y &&& 31)) :: st) h) : Sx M d inj E pc lc (.int y :: .int x :: st) h := by
  obtain ⟨hd, rfl⟩ := hdg
  intro p l e s m args below meth c X H locs ls r h' C hP hS hl hE
  exact lv_ishr C.1 C.2.1 hd (k p l e s m args below meth c X H locs ls r h' C hP hS hl hE)
theorem sx_ladd {x y : Int64} (hdg : DC M pc .ladd 1 q) (k : Sx M d inj E q lc (.long (x + y) :: st) h) : Sx M d inj E pc lc (.long y :: .long x :: st) h := by
  obtain ⟨hd, rfl⟩ := hdg
  intro p l e s m args below meth c X H locs ls r h' C hP hS hl hE
  exact lv_ladd C.1 C.2.1 hd (k p l e s m args below meth c X H locs ls r h' C hP hS hl hE)
theorem sx_lsub {x y : Int64} (hdg : DC M pc .lsub 1 q) (k : Sx M d inj E q lc (.long (x - y) :: st) h) : Sx M d inj E pc lc (.long y :: .long x :: st) h := by
  obtain ⟨hd, rfl⟩ := hdg
  intro p l e s m args below meth c X H locs ls r h' C hP hS hl hE
  exact lv_lsub C.1 C.2.1 hd (k p l e s m args below meth c X H locs ls r h' C hP hS hl hE)
theorem sx_lmul {x y : Int64} (hdg : DC M pc .lmul 1 q) (k : Sx M d inj E q lc (.long (x * y) :: st) h) : Sx M d inj E pc lc (.long y :: .long x :: st) h := by
  obtain ⟨hd, rfl⟩ := hdg
  intro p l e s m args below meth c X H locs ls r h' C hP hS hl hE
  exact lv_lmul C.1 C.2.1 hd (k p l e s m args below meth c X H locs ls r h' C hP hS hl hE)
theorem sx_lneg {x : Int64} (hdg : DC M pc .lneg 1 q) (k : Sx M d inj E q lc (.long (-x) :: st) h) : Sx M d inj E pc lc (.long x :: st) h := by
  obtain ⟨hd, rfl⟩ := hdg
  intro p l e s m args below meth c X H locs ls r h' C hP hS hl hE
  exact lv_lneg C.1 C.2.1 hd (k p l e s m args below meth c X H locs ls r h' C hP hS hl hE)
theorem sx_iushr {x y : Int32} (hdg : DC M pc .iushr 1 q) (k : Sx M d inj E q lc (.int ((x.toUInt32 >>> (y.toUInt32 &&& Int32.toUInt32 31)).toInt32) :: st) h) : Sx M d inj E pc lc (.int y :: .int x :: st) h := by
  obtain ⟨hd, rfl⟩ := hdg
  intro p l e s m args below meth c X H locs ls r h' C hP hS hl hE
  exact lv_iushr C.1 C.2.1 hd rfl (k p l e s m args below meth c X H locs ls r h' C hP hS hl hE)
theorem sx_i2l {x : Int32} (hdg : DC M pc .i2l 1 q) (k : Sx M d inj E q lc (.long x.toInt64 :: st) h) : Sx M d inj E pc lc (.int x :: st) h := by
  obtain ⟨hd, rfl⟩ := hdg
  intro p l e s m args below meth c X H locs ls r h' C hP hS hl hE
  exact lv_i2l C.1 C.2.1 hd rfl (k p l e s m args below meth c X H locs ls r h' C hP hS hl hE)
theorem sx_l2i {x : Int64} (hdg : DC M pc .l2i 1 q) (k : Sx M d inj E q lc (.int x.toInt32 :: st) h) : Sx M d inj E pc lc (.long x :: st) h := by
  obtain ⟨hd, rfl⟩ := hdg
  intro p l e s m args below meth c X H locs ls r h' C hP hS hl hE
  exact lv_l2i C.1 C.2.1 hd rfl (k p l e s m args below meth c X H locs ls r h' C hP hS hl hE)
theorem sx_i2b {x : Int32} (hdg : DC M pc .i2b 1 q) (k : Sx M d inj E q lc (.int x.toInt8.toInt32 :: st) h) : Sx M d inj E pc lc (.int x :: st) h := by
  obtain ⟨hd, rfl⟩ := hdg
  intro p l e s m args below meth c X H locs ls r h' C hP hS hl hE
  exact lv_i2b C.1 C.2.1 hd rfl (k p l e s m args below meth c X H locs ls r h' C hP hS hl hE)
theorem sx_lcmp {x y : Int64} (hdg : DC M pc .lcmp 1 q) (k : Sx M d inj E q lc (.int (lg_cmp x y) :: st) h) : Sx M d inj E pc lc (.long y :: .long x :: st) h := by
  obtain ⟨hd, rfl⟩ := hdg
  intro p l e s m args below meth c X H locs ls r h' C hP hS hl hE
  exact W.lcmp C.1 C.2.1 hd (k p l e s m args below meth c X H locs ls r h' C hP hS hl hE)
theorem sx_pop {v : Value} (hdg : DC M pc .pop 1 q) (hv : v.category = 1) (k : Sx M d inj E q lc (st) h) : Sx M d inj E pc lc (v :: st) h := by
  obtain ⟨hd, rfl⟩ := hdg
  intro p l e s m args below meth c X H locs ls r h' C hP hS hl hE
  exact lv_pop C.1 C.2.1 hd ((rl_cat X.1 v).trans hv) (k p l e s m args below meth c X H locs ls r h' C hP hS hl hE)
theorem sx_dup {v : Value} (hdg : DC M pc .dup 1 q) (hv : v.category = 1) (k : Sx M d inj E q lc (v :: v :: st) h) : Sx M d inj E pc lc (v :: st) h := by
  obtain ⟨hd, rfl⟩ := hdg
  intro p l e s m args below meth c X H locs ls r h' C hP hS hl hE
  exact lv_dup C.1 C.2.1 hd ((rl_cat X.1 v).trans hv) (k p l e s m args below meth c X H locs ls r h' C hP hS hl hE)
theorem sx_dup2 {v w : Value} (hdg : DC M pc .dup2 1 q) (hv : v.category = 1) (hw : w.category = 1) (k : Sx M d inj E q lc (v :: w :: v :: w :: st) h) : Sx M d inj E pc lc (v :: w :: st) h := by
  obtain ⟨hd, rfl⟩ := hdg
  intro p l e s m args below meth c X H locs ls r h' C hP hS hl hE
  exact lv_dup2_11 C.1 C.2.1 hd ((rl_cat X.1 v).trans hv) ((rl_cat X.1 w).trans hw) (k p l e s m args below meth c X H locs ls r h' C hP hS hl hE)
theorem sx_ldc {i : Nat} {v : Int32} (hdg : DC M pc (.ldc i) 2 q) (hw : Cond.constant M.1.cls i v ∈ tb) (k : Sx M d inj E q lc (.int v :: st) h) : Sx M d inj E pc lc (st) h := by
  obtain ⟨hd, rfl⟩ := hdg
  intro p l e s m args below meth c X H locs ls r h' C hP hS hl hE
  exact lv_ldc C.1 C.2.1 C.2.2.2.2.1 (C.2.2.2.2.2.1 _ (List.mem_cons_of_mem _ hw)) hd (k p l e s m args below meth c X H locs ls r h' C hP hS hl hE)
theorem sx_ldcw {i : Nat} {v : Int32} (hdg : DC M pc (.ldc_w i) 3 q) (hw : Cond.constant M.1.cls i v ∈ tb) (k : Sx M d inj E q lc (.int v :: st) h) : Sx M d inj E pc lc (st) h := by
  obtain ⟨hd, rfl⟩ := hdg
  intro p l e s m args below meth c X H locs ls r h' C hP hS hl hE
  exact lv_ldcw C.1 C.2.1 C.2.2.2.2.1 (C.2.2.2.2.2.1 _ (List.mem_cons_of_mem _ hw)) hd (k p l e s m args below meth c X H locs ls r h' C hP hS hl hE)
theorem sx_ldc2 {i : Nat} {v : Int64} (hdg : DC M pc (.ldc2_w i) 3 q) (hw : Cond.constantLong M.1.cls i v ∈ tb) (k : Sx M d inj E q lc (.long v :: st) h) : Sx M d inj E pc lc (st) h := by
  obtain ⟨hd, rfl⟩ := hdg
  intro p l e s m args below meth c X H locs ls r h' C hP hS hl hE
  exact lv_ldc2 C.1 C.2.1 C.2.2.2.2.1 (C.2.2.2.2.2.1 _ (List.mem_cons_of_mem _ hw)) hd (k p l e s m args below meth c X H locs ls r h' C hP hS hl hE)
theorem sx_goto {off : Int} {t : Nat} (hdg : DB M pc (.goto off) off q t) (k : Sx M d inj E t lc st h) : Sx M d inj E pc lc st h := by
  obtain ⟨hd, rfl, ht⟩ := hdg
  intro p l e s m args below meth c X H locs ls r h' C hP hS hl hE
  exact lv_goto C.1 C.2.1 hd ht (k p l e s m args below meth c X H locs ls r h' C hP hS hl hE)
theorem sx_if_eq {x : Int32} {off : Int} {t : Nat} [Decidable (x = 0)] (hdg : DB M pc (.ifCond .eq off) off q t) (k1 : Sx M d inj E1 t lc st h) (k2 : Sx M d inj E2 q lc st h) : Sx M d inj (if x = 0 then E1 else E2) pc lc (.int x :: st) h := by
  obtain ⟨hd, rfl, ht⟩ := hdg
  intro p l e s m args below meth c X H locs ls r h' C hP hS hl hE
  exact lv_if_eq C.1 C.2.1 hd ht (fun hc => k1 p l e s m args below meth c X H locs ls r h' C hP hS hl (by rw [if_pos hc] at hE; exact hE)) (fun hc => k2 p l e s m args below meth c X H locs ls r h' C hP hS hl (by rw [if_neg hc] at hE; exact hE))
theorem sx_icmp_eq {x y : Int32} {off : Int} {t : Nat} [Decidable (x = y)] (hdg : DB M pc (.if_icmp .eq off) off q t) (k1 : Sx M d inj E1 t lc st h) (k2 : Sx M d inj E2 q lc st h) : Sx M d inj (if x = y then E1 else E2) pc lc (.int y :: .int x :: st) h := by
  obtain ⟨hd, rfl, ht⟩ := hdg
  intro p l e s m args below meth c X H locs ls r h' C hP hS hl hE
  exact lv_icmp_eq C.1 C.2.1 hd ht (fun hc => k1 p l e s m args below meth c X H locs ls r h' C hP hS hl (by rw [if_pos hc] at hE; exact hE)) (fun hc => k2 p l e s m args below meth c X H locs ls r h' C hP hS hl (by rw [if_neg hc] at hE; exact hE))
theorem sx_if_ne {x : Int32} {off : Int} {t : Nat} [Decidable (x = 0)] (hdg : DB M pc (.ifCond .ne off) off q t) (k1 : Sx M d inj E1 (q) lc st h) (k2 : Sx M d inj E2 t lc st h) : Sx M d inj (if x = 0 then E1 else E2) pc lc (.int x :: st) h := by
  obtain ⟨hd, rfl, ht⟩ := hdg
  intro p l e s m args below meth c X H locs ls r h' C hP hS hl hE
  exact lv_if_ne C.1 C.2.1 hd ht (fun hc => k2 p l e s m args below meth c X H locs ls r h' C hP hS hl (by rw [if_neg hc] at hE; exact hE)) (fun hc => k1 p l e s m args below meth c X H locs ls r h' C hP hS hl (by rw [if_pos hc] at hE; exact hE))
theorem sx_icmp_ne {x y : Int32} {off : Int} {t : Nat} [Decidable (x = y)] (hdg : DB M pc (.if_icmp .ne off) off q t) (k1 : Sx M d inj E1 (q) lc st h) (k2 : Sx M d inj E2 t lc st h) : Sx M d inj (if x = y then E1 else E2) pc lc (.int y :: .int x :: st) h := by
  obtain ⟨hd, rfl, ht⟩ := hdg
  intro p l e s m args below meth c X H locs ls r h' C hP hS hl hE
  exact lv_icmp_ne C.1 C.2.1 hd ht (fun hc => k2 p l e s m args below meth c X H locs ls r h' C hP hS hl (by rw [if_neg hc] at hE; exact hE)) (fun hc => k1 p l e s m args below meth c X H locs ls r h' C hP hS hl (by rw [if_pos hc] at hE; exact hE))
theorem sx_if_lt {x : Int32} {off : Int} {t : Nat} [Decidable (x < 0)] (hdg : DB M pc (.ifCond .lt off) off q t) (k1 : Sx M d inj E1 t lc st h) (k2 : Sx M d inj E2 q lc st h) : Sx M d inj (if x < 0 then E1 else E2) pc lc (.int x :: st) h := by
  obtain ⟨hd, rfl, ht⟩ := hdg
  intro p l e s m args below meth c X H locs ls r h' C hP hS hl hE
  exact lv_if_lt C.1 C.2.1 hd ht (fun hc => k1 p l e s m args below meth c X H locs ls r h' C hP hS hl (by rw [if_pos hc] at hE; exact hE)) (fun hc => k2 p l e s m args below meth c X H locs ls r h' C hP hS hl (by rw [if_neg hc] at hE; exact hE))
theorem sx_icmp_lt {x y : Int32} {off : Int} {t : Nat} [Decidable (x < y)] (hdg : DB M pc (.if_icmp .lt off) off q t) (k1 : Sx M d inj E1 t lc st h) (k2 : Sx M d inj E2 q lc st h) : Sx M d inj (if x < y then E1 else E2) pc lc (.int y :: .int x :: st) h := by
  obtain ⟨hd, rfl, ht⟩ := hdg
  intro p l e s m args below meth c X H locs ls r h' C hP hS hl hE
  exact lv_icmp_lt C.1 C.2.1 hd ht (fun hc => k1 p l e s m args below meth c X H locs ls r h' C hP hS hl (by rw [if_pos hc] at hE; exact hE)) (fun hc => k2 p l e s m args below meth c X H locs ls r h' C hP hS hl (by rw [if_neg hc] at hE; exact hE))
theorem sx_if_gt {x : Int32} {off : Int} {t : Nat} [Decidable (0 < x)] (hdg : DB M pc (.ifCond .gt off) off q t) (k1 : Sx M d inj E1 t lc st h) (k2 : Sx M d inj E2 q lc st h) : Sx M d inj (if 0 < x then E1 else E2) pc lc (.int x :: st) h := by
  obtain ⟨hd, rfl, ht⟩ := hdg
  intro p l e s m args below meth c X H locs ls r h' C hP hS hl hE
  exact lv_if_gt C.1 C.2.1 hd ht (fun hc => k1 p l e s m args below meth c X H locs ls r h' C hP hS hl (by rw [if_pos hc] at hE; exact hE)) (fun hc => k2 p l e s m args below meth c X H locs ls r h' C hP hS hl (by rw [if_neg hc] at hE; exact hE))
theorem sx_icmp_gt {x y : Int32} {off : Int} {t : Nat} [Decidable (y < x)] (hdg : DB M pc (.if_icmp .gt off) off q t) (k1 : Sx M d inj E1 t lc st h) (k2 : Sx M d inj E2 q lc st h) : Sx M d inj (if y < x then E1 else E2) pc lc (.int y :: .int x :: st) h := by
  obtain ⟨hd, rfl, ht⟩ := hdg
  intro p l e s m args below meth c X H locs ls r h' C hP hS hl hE
  exact lv_icmp_gt C.1 C.2.1 hd ht (fun hc => k1 p l e s m args below meth c X H locs ls r h' C hP hS hl (by rw [if_pos hc] at hE; exact hE)) (fun hc => k2 p l e s m args below meth c X H locs ls r h' C hP hS hl (by rw [if_neg hc] at hE; exact hE))
theorem sx_if_ge {x : Int32} {off : Int} {t : Nat} [Decidable (x < 0)] (hdg : DB M pc (.ifCond .ge off) off q t) (k1 : Sx M d inj E1 (q) lc st h) (k2 : Sx M d inj E2 t lc st h) : Sx M d inj (if x < 0 then E1 else E2) pc lc (.int x :: st) h := by
  obtain ⟨hd, rfl, ht⟩ := hdg
  intro p l e s m args below meth c X H locs ls r h' C hP hS hl hE
  exact lv_if_ge C.1 C.2.1 hd ht (fun hc => k2 p l e s m args below meth c X H locs ls r h' C hP hS hl (by rw [if_neg (Int32.not_lt.mpr hc)] at hE; exact hE)) (fun hc => k1 p l e s m args below meth c X H locs ls r h' C hP hS hl (by rw [if_pos (Int32.not_le.mp hc)] at hE; exact hE))
theorem sx_icmp_ge {x y : Int32} {off : Int} {t : Nat} [Decidable (x < y)] (hdg : DB M pc (.if_icmp .ge off) off q t) (k1 : Sx M d inj E1 (q) lc st h) (k2 : Sx M d inj E2 t lc st h) : Sx M d inj (if x < y then E1 else E2) pc lc (.int y :: .int x :: st) h := by
  obtain ⟨hd, rfl, ht⟩ := hdg
  intro p l e s m args below meth c X H locs ls r h' C hP hS hl hE
  exact lv_icmp_ge C.1 C.2.1 hd ht (fun hc => k2 p l e s m args below meth c X H locs ls r h' C hP hS hl (by rw [if_neg (Int32.not_lt.mpr hc)] at hE; exact hE)) (fun hc => k1 p l e s m args below meth c X H locs ls r h' C hP hS hl (by rw [if_pos (Int32.not_le.mp hc)] at hE; exact hE))
theorem sx_if_le {x : Int32} {off : Int} {t : Nat} [Decidable (0 < x)] (hdg : DB M pc (.ifCond .le off) off q t) (k1 : Sx M d inj E1 (q) lc st h) (k2 : Sx M d inj E2 t lc st h) : Sx M d inj (if 0 < x then E1 else E2) pc lc (.int x :: st) h := by
  obtain ⟨hd, rfl, ht⟩ := hdg
  intro p l e s m args below meth c X H locs ls r h' C hP hS hl hE
  exact lv_if_le C.1 C.2.1 hd ht (fun hc => k2 p l e s m args below meth c X H locs ls r h' C hP hS hl (by rw [if_neg (Int32.not_lt.mpr hc)] at hE; exact hE)) (fun hc => k1 p l e s m args below meth c X H locs ls r h' C hP hS hl (by rw [if_pos (Int32.not_le.mp hc)] at hE; exact hE))
theorem sx_icmp_le {x y : Int32} {off : Int} {t : Nat} [Decidable (y < x)] (hdg : DB M pc (.if_icmp .le off) off q t) (k1 : Sx M d inj E1 (q) lc st h) (k2 : Sx M d inj E2 t lc st h) : Sx M d inj (if y < x then E1 else E2) pc lc (.int y :: .int x :: st) h := by
  obtain ⟨hd, rfl, ht⟩ := hdg
  intro p l e s m args below meth c X H locs ls r h' C hP hS hl hE
  exact lv_icmp_le C.1 C.2.1 hd ht (fun hc => k2 p l e s m args below meth c X H locs ls r h' C hP hS hl (by rw [if_neg (Int32.not_lt.mpr hc)] at hE; exact hE)) (fun hc => k1 p l e s m args below meth c X H locs ls r h' C hP hS hl (by rw [if_pos (Int32.not_le.mp hc)] at hE; exact hE))
theorem sx_idiv {x y : Int32} {k : Int32 → Option (α × HH)} (hdg : DC M pc .idiv 1 q) (kk : ∀ v, Sx M d inj (k v) q lc (.int v :: st) h) : Sx M d inj (dvI x y k) pc lc (.int y :: .int x :: st) h := by
  refine sx_ckn (fun hn => ?_)
  obtain ⟨hd, rfl⟩ := hdg
  intro p l e s m args below meth c X H locs ls r h' C hP hS hl hE
  exact lv_idiv C.1 C.2.1 hd hn (kk _ p l e s m args below meth c X H locs ls r h' C hP hS hl hE)
theorem sx_irem {x y : Int32} {k : Int32 → Option (α × HH)} (hdg : DC M pc .irem 1 q) (kk : ∀ v, Sx M d inj (k v) q lc (.int v :: st) h) : Sx M d inj (rmI x y k) pc lc (.int y :: .int x :: st) h := by
  refine sx_ckn (fun hn => ?_)
  obtain ⟨hd, rfl⟩ := hdg
  intro p l e s m args below meth c X H locs ls r h' C hP hS hl hE
  exact lv_irem C.1 C.2.1 hd hn (kk _ p l e s m args below meth c X H locs ls r h' C hP hS hl hE)
theorem sx_ldiv {x y : Int64} {k : Int64 → Option (α × HH)} (hdg : DC M pc .ldiv 1 q) (kk : ∀ v, Sx M d inj (k v) q lc (.long v :: st) h) : Sx M d inj (dvL x y k) pc lc (.long y :: .long x :: st) h := by
  refine sx_ckn (fun hn => ?_)
  obtain ⟨hd, rfl⟩ := hdg
  intro p l e s m args below meth c X H locs ls r h' C hP hS hl hE
  exact lv_ldiv C.1 C.2.1 hd hn (kk _ p l e s m args below meth c X H locs ls r h' C hP hS hl hE)
theorem sx_lrem {x y : Int64} {k : Int64 → Option (α × HH)} (hdg : DC M pc .lrem 1 q) (kk : ∀ v, Sx M d inj (k v) q lc (.long v :: st) h) : Sx M d inj (rmL x y k) pc lc (.long y :: .long x :: st) h := by
  refine sx_ckn (fun hn => ?_)
  obtain ⟨hd, rfl⟩ := hdg
  intro p l e s m args below meth c X H locs ls r h' C hP hS hl hE
  exact lv_lrem C.1 C.2.1 hd hn (kk _ p l e s m args below meth c X H locs ls r h' C hP hS hl hE)
def FLk (own : String) (index ci kf : Nat) (b : Bool) : Prop := ∃ (C : String) (T : u_T) (N : Nat), cls[ci]? = some (C, T, N) ∧ kf < N ∧ Cond.fieldLink own index C (T kf).2.1 (T kf).2.2.1 ∈ tb ∧ (T kf).1 = C ∧ (T kf).2.2.2 = b
theorem sx_getX {a ci kf index : Nat} {b : Bool} {v : Value} {f : fS} (hf : FLk M.1.cls index ci kf b) (hs : shL[a]? = some (.inl ci)) (hfs : (fsC ci)[kf]? = some f) (hv : ∀ ρ, fV ρ h a f = rl ρ v) (hdg : DC M pc (.getfield index) 3 q) (k : Sx M d inj E q lc (v :: st) h) : Sx M d inj E pc lc (.ref a :: st) h := by
  obtain ⟨hd, rfl⟩ := hdg
  intro p l e s m args below meth c X H locs ls r h' C hP hS hl hE
  obtain ⟨C', T, N, hc, hk, hw, hdc, -⟩ := hf
  have ok := cls_ok _ (List.mem_of_getElem? hc)
  exact va_get (D := X.2.1) (v := rl X.1 v) C.1 C.2.1 (fun w hw => C.2.2.2.2.2.1 w (List.mem_cons_of_mem _ hw)) ok.1 C.2.2.2.2.1 C.2.2.2.2.2.2.2.1.1 hP a (ws_o X h hs) hc kf hk (C.2.2.2.2.2.1 _ (List.mem_cons_of_mem _ hw)) (fun _ h => by have h9 := h; rw [show ((C', T, N) : vw_C).2.1 = T from rfl, hdc] at h9; exact h9) (by rw [List.getElem?_map, hfs, ← hv]; rfl) hd (k p l e s m args below meth c X H locs ls r h' C hP hS hl hE)
theorem sx_getI {a ci kf index : Nat} {b : Bool} {k : Int32 → Option (α × HH)} (hf : FLk M.1.cls index ci kf b) (hs : shL[a]? = some (.inl ci)) (hfs : (fsC ci)[kf]? = some (.inl kf)) (hdg : DC M pc (.getfield index) 3 q) (kk : ∀ v, Sx M d inj (k v) q lc (.int v :: st) h) : Sx M d inj (gfI h a kf k) pc lc (.ref a :: st) h :=
  sx_getX hf hs hfs (fun _ => rfl) hdg (kk _)
theorem sx_getR {a ci kf index j : Nat} {b : Bool} {k : Nat → Option (α × HH)} (hf : FLk M.1.cls index ci kf b) (hs : shL[a]? = some (.inl ci)) (hfs : (fsC ci)[kf]? = some (.inr (.inr j))) (hdg : DC M pc (.getfield index) 3 q) (kk : ∀ v, Sx M d inj (k v) q lc (.ref v :: st) h) : Sx M d inj (gfR h j k) pc lc (.ref a :: st) h :=
  sx_getX hf hs hfs (fun _ => rfl) hdg (kk _)
theorem sx_getF {a a' ci kf index off : Nat} {b : Bool} (hf : FLk M.1.cls index ci kf b) (hs : shL[a]? = some (.inl ci)) (hfs : (fsC ci)[kf]? = some (.inr (.inl off))) (ha : a + off = a') (hdg : DC M pc (.getfield index) 3 q) (kk : Sx M d inj E q lc (.ref a' :: st) h) : Sx M d inj E pc lc (.ref a :: st) h :=
  sx_getX hf hs hfs (fun _ => by rw [← ha]; rfl) hdg kk
theorem ws_set {X : CX} {h h' : HH} {a : Nat} {e : va_E} (ha : a < nN) (he : cE X h' a = e) (ho : ∀ b, b ≠ a → b < nN → cE X h' b = cE X h b) : (wsW X h).set a (X.1 a, e) = wsW X h' := by
  apply List.ext_getElem?
  intro k
  have hlen : ∀ g : HH, (wsW X g).length = nN := fun g => by simp [wsW]
  by_cases hk : k < nN
  · rw [wsW_at X h' hk]
    by_cases hka : k = a
    · subst hka
      rw [List.getElem?_set_self (by rw [hlen]; exact ha), he]
    · rw [List.getElem?_set_ne (fun q => hka q.symm), wsW_at X h hk, ho k hka hk]
  · rw [List.getElem?_eq_none (by rw [List.length_set, hlen]; omega), List.getElem?_eq_none (by rw [hlen]; omega)]
theorem fsC_nd : ∀ ci, ci < 12 → ∀ (k k' : Nat) (f : fS), (fsC ci)[k]? = some f → (fsC ci)[k']? = some f → k = k' := by
  intro ci hci
  have : ∀ ci, ci < 12 → (fsC ci).Nodup := by decide +kernel
  intro k k' f h1 h2
  exact (List.getElem?_inj (List.getElem?_eq_some_iff.mp h1).1 (this ci hci)).mp (h1.trans h2.symm)
theorem cE_o {X : CX} {h : HH} {a ci : Nat} (hs : shL[a]? = some (.inl ci)) : cE X h a = .inr (ci, (fsC ci).map (fV X.1 h a)) := by simp [cE, hs]
theorem cE_a {X : CX} {h : HH} {a t n m : Nat} (hs : shL[a]? = some (.inr (t, n, m))) : cE X h a = aE X h a n m := by simp [cE, hs]
theorem cE_same {X : CX} {h h' : HH} {a : Nat} (h1 : ∀ k, h'.1 a k = h.1 a k) (h2 : ∀ k, h'.2.1 a k = h.2.1 a k) (h3 : ∀ (ci : Nat) (j : Nat), shL[a]? = some (.inl ci) → .inr (.inr j) ∈ fsC ci → h'.2.2 j = h.2.2 j) : cE X h' a = cE X h a := by
  have e1 : h'.1 a = h.1 a := funext h1
  have e2 : h'.2.1 a = h.2.1 a := funext h2
  rcases hs : shL[a]? with _ | (ci | ⟨t, n, m⟩)
  · simp [cE, hs]
  · rw [cE_o hs, cE_o hs]
    congr 2
    apply List.map_congr_left
    intro f hf
    rcases f with k | off | j
    · simp [fV, e1]
    · rfl
    · simp [fV, h3 ci j hs hf]
  · rw [cE_a hs, cE_a hs]
    simp [aE, e1, e2]
theorem cE_wrI {X : CX} {h : HH} {a k b : Nat} {v : Int32} (hb : b ≠ a) : cE X (wrI h a k v) b = cE X h b :=
  cE_same (fun i => by simp [wrI, hb]) (fun i => rfl) (fun _ _ _ _ => rfl)
theorem cE_wrL {X : CX} {h : HH} {a k b : Nat} {v : Int64} (hb : b ≠ a) : cE X (wrL h a k v) b = cE X h b :=
  cE_same (fun i => rfl) (fun i => by simp [wrL, hb]) (fun _ _ _ _ => rfl)
/-- the objects that hold the references that change -/
def ownR : Nat → Nat := fun j => match j with
  | 0 => 0
  | 1 => 24
  | _ => 193
theorem ownR_ok : ∀ a, a < nN → ∀ ci, ci < 12 → shL[a]? = some (.inl ci) → ∀ j, j < 5 → Sum.inr (Sum.inr j) ∈ fsC ci → ownR j = a := by
  intro a _ ci _ hs j hj hm
  have : shL.zipIdx.all (fun f => match f with | (.inl ci, a) => (List.range 5).all (fun j => (fsC ci).all (fun f => !(decide (f = Sum.inr (Sum.inr j))) || decide (ownR j = a))) | _ => true) = true := by decide +kernel
  have h1 := List.all_eq_true.mp this (.inl ci, a) (by rw [List.mem_iff_getElem?]; exact ⟨a, by simp [hs]⟩)
  have h2 := List.all_eq_true.mp (List.all_eq_true.mp h1 j (List.mem_range.mpr hj)) _ hm
  simpa using h2
theorem fsC_small : ∀ ci, ci < 12 → ∀ j : Nat, Sum.inr (Sum.inr j) ∈ fsC ci → j < 5 := by
  intro ci hci j hj
  have : ∀ ci, ci < 12 → (fsC ci).all (fun f => match f with | .inr (.inr j) => decide (j < 5) | _ => true) = true := by decide +kernel
  have h1 := List.all_eq_true.mp (this ci hci) _ hj
  simpa using h1
theorem sh_ci : ∀ a, a < nN → ∀ ci, shL[a]? = some (.inl ci) → ci < 12 := by
  intro a ha ci h
  have : shL.all (fun f => match f with | .inl j => decide (j < 12) | _ => true) = true := by decide +kernel
  have h1 := List.all_eq_true.mp this _ (List.mem_of_getElem? h)
  simpa using h1
theorem cE_wrR {X : CX} {h : HH} {j r b : Nat} (hb : b ≠ ownR j) (hbn : b < nN) : cE X (wrR h j r) b = cE X h b := by
  refine cE_same (fun i => rfl) (fun i => rfl) (fun ci j' hs hm => ?_)
  have hci := sh_ci b hbn ci hs
  have hj' := fsC_small ci hci j' hm
  have := ownR_ok b hbn ci hci hs j' hj' hm
  by_cases e : j' = j
  · subst e; exact absurd this.symm hb
  · simp [wrR, e]
theorem sx_putX {a ci kf index : Nat} {v : Value} {f : fS} {h1 : HH} {ty : FieldType} (hf : FLk M.1.cls index ci kf false) (hs : shL[a]? = some (.inl ci)) (hfs : (fsC ci)[kf]? = some f) (hty : ∀ (C : String) (T : u_T) (N : Nat), cls[ci]? = some (C, T, N) → parseFieldDescriptor (T kf).2.2.1 = some ty) (hn : ∀ ρ, narrow ty (rl ρ v) = rl ρ v ∧ fits ty (rl ρ v) = true) (h9 : ∀ X : CX, (fsC ci).map (fV X.1 h1 a) = ((fsC ci).map (fV X.1 h a)).set kf (rl X.1 v)) (h8 : ∀ (X : CX) (b : Nat), b ≠ a → b < nN → cE X h1 b = cE X h b) (hdg : DC M pc (.putfield index) 3 q) (k : Sx M d inj E q lc st h1) : Sx M d inj E pc lc (v :: .ref a :: st) h := by
  obtain ⟨hd, rfl⟩ := hdg
  intro p l e s m args below meth c X H locs ls r h' C hP hS hl hE
  obtain ⟨C', T, N, hc, hk, hw, hdc, hfin⟩ := hf
  have ok := cls_ok _ (List.mem_of_getElem? hc)
  obtain ⟨ty0, hty0⟩ := ok.2.1
  have eW : (wsW X h).set a (X.1 a, .inr (ci, ((fsC ci).map (fV X.1 h a)).set kf (rl X.1 v))) = wsW X h1 :=
    ws_set (sh_lt hs) (by rw [cE_o hs, h9]) (h8 X)
  refine va_put (D := X.2.1) (v := rl X.1 v) C.1 C.2.1 (fun w hw => C.2.2.2.2.2.1 w (List.mem_cons_of_mem _ hw)) ok.1 ty0 hty0 ok.2.2 C.2.2.2.2.1 C.2.2.2.2.2.2.2.1.1 hP (wD X C.2.2.2.2.2.2.2.2.1 h) hS a (ws_o X h hs) hc kf hk (C.2.2.2.2.2.1 _ (List.mem_cons_of_mem _ hw)) (fun _ h => by have h9 := h; rw [show ((C', T, N) : vw_C).2.1 = T from rfl, hdc] at h9; exact h9) hfin (hty _ _ _ hc) (hn X.1).1 (hn X.1).2 (by rw [List.length_map]; exact (List.getElem?_eq_some_iff.mp hfs).1) hd ?_
  intro H1 locs1 hP1 hD1 hS1
  rw [eW] at hP1
  exact k p l e s m args below meth c X H1 locs1 ls r h' C hP1 hS1 hl hE
theorem set_map_fV {X : CX} {h h1 : HH} {a ci kf : Nat} {v : Value} {f : fS} (hci : ci < 12) (hfs : (fsC ci)[kf]? = some f) (hv : fV X.1 h1 a f = v) (ho : ∀ g, g ∈ fsC ci → g ≠ f → fV X.1 h1 a g = fV X.1 h a g) : (fsC ci).map (fV X.1 h1 a) = ((fsC ci).map (fV X.1 h a)).set kf v := by
  apply List.ext_getElem?
  intro k
  by_cases hk : k = kf
  · subst hk
    rw [List.getElem?_set_self (by rw [List.length_map]; exact (List.getElem?_eq_some_iff.mp hfs).1), List.getElem?_map, hfs]
    simp [hv]
  · rw [List.getElem?_set_ne (fun q => hk q.symm), List.getElem?_map, List.getElem?_map]
    cases hg : (fsC ci)[k]? with
    | none => rfl
    | some g =>
      have hne : g ≠ f := fun e => hk (fsC_nd ci hci k kf f (e ▸ hg) hfs)
      simp [ho g (List.mem_of_getElem? hg) hne]
theorem fsC_own : ∀ ci, ci < 12 → ∀ k k' : Nat, (fsC ci)[k]? = some (.inl k') → k' = k := by
  intro ci hci k k' h
  have : ∀ ci, ci < 12 → ((fsC ci).zipIdx).all (fun f => match f with | (.inl j, i) => decide (j = i) | _ => true) = true := by decide +kernel
  have h1 := List.all_eq_true.mp (this ci hci) (.inl k', k) (by rw [List.mem_iff_getElem?]; exact ⟨k, by simp [h]⟩)
  simpa using h1
theorem sx_putI {a ci kf index : Nat} {v : Int32} {k : HH → Option (α × HH)} (hf : FLk M.1.cls index ci kf false) (hs : shL[a]? = some (.inl ci)) (hfs : (fsC ci)[kf]? = some (.inl kf)) (hty : ∀ (C : String) (T : u_T) (N : Nat), cls[ci]? = some (C, T, N) → parseFieldDescriptor (T kf).2.2.1 = some .int) (hdg : DC M pc (.putfield index) 3 q) (kk : ∀ h, Sx M d inj (k h) q lc st h) : Sx M d inj (pfI h a kf v k) pc lc (.int v :: .ref a :: st) h :=
  sx_putX hf hs hfs hty (fun _ => ⟨rfl, rfl⟩) (fun X => set_map_fV (sh_ci a (sh_lt hs) ci hs) hfs (by simp [fV, wrI, rl]) (fun g hg hne => by
    rcases g with j | off | j
    · have hj : j ≠ kf := fun e => hne (by rw [e])
      simp [fV, wrI, hj]
    · rfl
    · rfl)) (fun X b hb _ => cE_wrI hb) hdg (kk _)
theorem sx_putZ {a ci kf index : Nat} {v : Int32} {k : HH → Option (α × HH)} (hv : v = 0 ∨ v = 1) (hf : FLk M.1.cls index ci kf false) (hs : shL[a]? = some (.inl ci)) (hfs : (fsC ci)[kf]? = some (.inl kf)) (hty : ∀ (C : String) (T : u_T) (N : Nat), cls[ci]? = some (C, T, N) → parseFieldDescriptor (T kf).2.2.1 = some .boolean) (hdg : DC M pc (.putfield index) 3 q) (kk : ∀ h, Sx M d inj (k h) q lc st h) : Sx M d inj (pfI h a kf v k) pc lc (.int v :: .ref a :: st) h :=
  sx_putX hf hs hfs hty (fun _ => by rcases hv with rfl | rfl <;> exact ⟨rfl, rfl⟩) (fun X => set_map_fV (sh_ci a (sh_lt hs) ci hs) hfs (by simp [fV, wrI, rl]) (fun g hg hne => by
    rcases g with j | off | j
    · have hj : j ≠ kf := fun e => hne (by rw [e])
      simp [fV, wrI, hj]
    · rfl
    · rfl)) (fun X b hb _ => cE_wrI hb) hdg (kk _)
theorem sx_putR {a ci kf index j r : Nat} {ty : FieldType} {k : HH → Option (α × HH)} (hf : FLk M.1.cls index ci kf false) (hs : shL[a]? = some (.inl ci)) (hfs : (fsC ci)[kf]? = some (.inr (.inr j))) (hty : ∀ (C : String) (T : u_T) (N : Nat), cls[ci]? = some (C, T, N) → parseFieldDescriptor (T kf).2.2.1 = some ty) (hrf : ∀ x : Nat, narrow ty (.ref x) = .ref x ∧ fits ty (.ref x) = true) (ha : ownR j = a) (hdg : DC M pc (.putfield index) 3 q) (kk : ∀ h, Sx M d inj (k h) q lc st h) : Sx M d inj (pfR h j r k) pc lc (.ref r :: .ref a :: st) h :=
  sx_putX hf hs hfs hty (fun ρ => hrf (ρ r)) (fun X => set_map_fV (sh_ci a (sh_lt hs) ci hs) hfs (by simp [fV, wrR, rl]) (fun g hg hne => by
    rcases g with k' | off | j'
    · rfl
    · rfl
    · have hj : j' ≠ j := fun e => hne (by rw [e])
      simp [fV, wrR, hj])) (fun X b hb hbn => cE_wrR (by rw [ha]; exact hb) hbn) hdg (kk _)
end SX
