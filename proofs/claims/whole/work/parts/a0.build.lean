/-! constructors: the world grows, a cell behind the other -/
/-- the cells lie in order from z on -/
def XZ (X : CX) (z : Nat) : Prop := ∀ i, i < nN → X.1 i = z + i
/-- the cells from a on, n of them -/
def wsR (X : CX) (h : HH) (a n : Nat) : va_W := (List.range n).map (fun i => (X.1 (a + i), cE X h (a + i)))
/-- an object being built, and the m cells behind it -/
def wB (X : CX) (h : HH) (ci a : Nat) (fs : List Value) (m : Nat) : va_W := (X.1 a, .inr (ci, fs.map (rl X.1))) :: wsR X h (a + 1) m
def rmC (d mc ms : Nat) : Room := { frames := d, cells := mc, slots := ms, locals := 64 * d }
def nulF (f : fS) : Value := match f with
  | .inl _ => .int 0
  | .inr _ => .null
/-- a new object's fields -/
def nul (ci : Nat) : List Value := (fsC ci).map nulF
/-- what an object's fields hold -/
def fvA (h : HH) (a : Nat) (f : fS) : Value := match f with
  | .inl k => .int (h.1 a k)
  | .inr (.inl off) => .ref (a + off)
  | .inr (.inr j) => .ref (h.2.2 j)
theorem fvA_fV (ρ : Nat → Nat) (h : HH) (a : Nat) (f : fS) : rl ρ (fvA h a f) = fV ρ h a f := by
  rcases f with k | k | k <;> rfl
theorem nul_rl (ρ : Nat → Nat) (ci : Nat) : (nul ci).map (rl ρ) = nul ci := by
  unfold nul
  rw [List.map_map]
  apply List.map_congr_left
  intro f _
  rcases f with k | k <;> rfl
def Qb (X : CX) (z : Nat) (h : HH) (a n : Nat) : Array Value → State → Outcome → State → Prop := fun _ st oc t => oc = .returned none ∧ t.heap.size = z + a + n ∧ va_P X.2.1 cls (wsR X h a n) t.heap ∧ va_F (fun q => z + a ≤ q) st t
/-- rows of states, and of rows of ints, can be made -/
def wO (U : State) : Prop := va_AO RX7 U ∧ (Cond.arrayOver (.array .int)).before #[] U = true
theorem wO_moved {u U : State} (hvm : u.vm.Alike U.vm) (h : wO u) : wO U := ⟨h.1.moved hvm, over_moved hvm h.2⟩
/-- a constructor's contract: its cells stand behind it -/
def Kb (z : Nat) (h : HH) (M : MI) (ci a n d mc ms : Nat) : Prop := ∀ (l : Launch) (X : CX), wI X → XZ X z → Met l M.1 (wsM M) (rmC d mc ms) (va_Pc [.ref (X.1 a)] (fun U => U.heap.size = z + a + 1 ∧ va_P X.2.1 cls [(X.1 a, .inr (ci, nul ci))] U.heap ∧ wK X U ∧ wS X U U.heap ∧ wO U)) (Qb X z h a n) mc ms (fun q => z + a ≤ q)
/-- within a constructor -/
def Cx (M : MI) (d mc ms z ci a n : Nat) (h' : HH) (pc : Nat) (fs : List Value) (m sl : Nat) (lc : List (Nat × Value)) (st : List Value) (h : HH) : Prop :=
  ∀ (p : Program) (l : Launch) (e : Env) (s : State) (mth : MethodId) (args : Array Value) (below : List Frame) (meth : Method) (c : Code) (X : CX) (H : Heap) (locs : List Loc) (ls : Array Slot),
    SC p l e s mth args meth c X M → wO s → XZ X z → meth.name = "<init>" → H.size = z + a + 1 + m → va_P X.2.1 cls (wB X h ci a fs m) H → va_S (fun q => z + a ≤ q) s.heap H locs → lv_has ls M.2.2.1 (lc.map (rlq X.1)) →
    W p l e (rmC d mc ms) s mth args below meth c H locs m sl (MQ below (Qb X z h' a n) args s mc ms (fun q => z + a ≤ q)) (F0 mth pc ls (st.map (rl X.1)))
theorem wsR_at (X : CX) (h : HH) {a n i : Nat} (hi : i < n) : (wsR X h a n)[i]? = some (X.1 (a + i), cE X h (a + i)) := by
  simp [wsR, List.getElem?_map, List.getElem?_range hi]
theorem wsR_of {X : CX} {h : HH} {a n k : Nat} {q : Nat × va_E} (hk : (wsR X h a n)[k]? = some q) : k < n ∧ q = (X.1 (a + k), cE X h (a + k)) := by
  have hl : k < n := by
    have := (List.getElem?_eq_some_iff.mp hk).1
    simpa [wsR] using this
  rw [wsR_at X h hl] at hk
  exact ⟨hl, (Option.some.inj hk).symm⟩
theorem wsR_P {X : CX} {h : HH} {a n : Nat} {H : Heap} : va_P X.2.1 cls (wsR X h a n) H ↔ ∀ i, i < n → va_at X.2.1 cls (X.1 (a + i), cE X h (a + i)) H := by
  constructor
  · intro hP i hi
    exact hP i _ (wsR_at X h hi)
  · intro hE k q hk
    obtain ⟨h1, rfl⟩ := wsR_of hk
    exact hE k h1
theorem wB_P {X : CX} {h : HH} {ci a m : Nat} {fs : List Value} {H : Heap} : va_P X.2.1 cls (wB X h ci a fs m) H ↔ va_at X.2.1 cls (X.1 a, .inr (ci, fs.map (rl X.1))) H ∧ ∀ i, i < m → va_at X.2.1 cls (X.1 (a + 1 + i), cE X h (a + 1 + i)) H := by
  constructor
  · intro hP
    exact ⟨hP 0 _ rfl, fun i hi => hP (i + 1) _ (by show (wsR X h (a + 1) m)[i]? = _; exact wsR_at X h hi)⟩
  · rintro ⟨h1, h2⟩ k q hk
    cases k with
    | zero => cases hk; exact h1
    | succ k =>
      have hk' : (wsR X h (a + 1) m)[k]? = some q := hk
      obtain ⟨h3, rfl⟩ := wsR_of hk'
      exact h2 k h3
theorem at_kept {X : CX} {q : Nat × va_E} {H H1 : Heap} (h : va_at X.2.1 cls q H) (e : H1[q.1]? = H[q.1]?) : va_at X.2.1 cls q H1 := by
  have hP : va_P X.2.1 cls [q] H := fun k x hx => by
    cases k with
    | zero => cases hx; exact h
    | succ k => cases hx
  exact (hP.kept (fun k x hx => by
    cases k with
    | zero => cases hx; exact e
    | succ k => cases hx)) 0 q rfl
theorem wB_D {X : CX} {z : Nat} (hZ : XZ X z) (h : HH) {ci a m : Nat} (fs : List Value) (hn : a + 1 + m ≤ nN) : va_D (fun q => z + a ≤ q) (wB X h ci a fs m) := by
  have key : ∀ (k : Nat) (q : Nat × va_E), (wB X h ci a fs m)[k]? = some q → q.1 = z + a + k := by
    intro k q hk
    cases k with
    | zero => cases hk; exact hZ a (by omega)
    | succ k =>
      have hk' : (wsR X h (a + 1) m)[k]? = some q := hk
      obtain ⟨h3, rfl⟩ := wsR_of hk'
      show X.1 (a + 1 + k) = _
      rw [hZ _ (by omega)]; omega
  refine ⟨fun i j p q hp hq e => ?_, fun k q hk => ?_⟩
  · rw [key i p hp, key j q hq] at e; omega
  · rw [key k q hk]; omega
section CX1
variable {M : MI} {d mc ms z ci a n : Nat} {h' : HH} {pc q : Nat} {fs : List Value} {m sl : Nat} {lc lc' : List (Nat × Value)} {st : List Value} {h : HH}
theorem cx_of (hp : plainName M.1.cls = true) (hi : M.1.name = "<init>") (hn : 1 ≤ M.2.2.1) (k : Cx M d mc ms z ci a n h' 0 (nul ci) 0 0 [(0, .ref a)] [] h) : Kb z h' M ci a n d mc ms := by
  intro l X hI hZ
  refine Met.ofW (cc := M.2.1) (maxL := M.2.2.1) (ret := M.2.2.2) hp rfl ?_
  intro p e s mth args below meth c s₁ B hml hv
  obtain ⟨rfl, hsz, hP, hK, hSt, hO⟩ := hv
  have hl0 := lv_entry ([.ref (X.1 a)] : List Value) (n := M.2.2.1) hn
  rw [lg_entry_eq]
  refine k p l e s mth _ below meth c X s.heap [] _ ⟨B.exec, B.bytes, B.returns, hml, findClass_of_methodNamed B.named, atoms_spec (ws := wsM M) B.pre, B.notSynchronized, hK, hI, hSt⟩ hO hZ ((name_of_methodNamed B.named B.method).1.trans hi) (by rw [hsz]) (wB_P.mpr ⟨?_, fun i hi => absurd hi (Nat.not_lt_zero _)⟩) va_S.rf hl0
  rw [nul_rl]
  exact hP 0 _ rfl
theorem cx_aload0 (hdg : DC M pc (.aload_n 0) 1 q) (hk : lc[0]? = some (0, .ref a)) (k : Cx M d mc ms z ci a n h' q fs m sl lc (.ref a :: st) h) : Cx M d mc ms z ci a n h' pc fs m sl lc st h := by
  obtain ⟨hd, rfl⟩ := hdg
  intro p l e s mth args below meth c X H locs ls C hO hZ hi hs hP hS hl
  exact lv_aload_n C.1 C.2.1 hd rfl (lv_at hl 0 (lc_at X.1 hk)) (k p l e s mth args below meth c X H locs ls C hO hZ hi hs hP hS hl)
theorem cx_iconst {n0 : Int} {v : Int32} (hdg : DC M pc (.iconst n0) 1 q) (hv : Int32.ofInt n0 = v) (k : Cx M d mc ms z ci a n h' q fs m sl lc (.int v :: st) h) : Cx M d mc ms z ci a n h' pc fs m sl lc st h := by
  obtain ⟨hd, rfl⟩ := hdg
  intro p l e s mth args below meth c X H locs ls C hO hZ hi hs hP hS hl
  exact lv_iconst C.1 C.2.1 hd hv (k p l e s mth args below meth c X H locs ls C hO hZ hi hs hP hS hl)
theorem cx_bipush {n0 : Int} {v : Int32} (hdg : DC M pc (.bipush n0) 2 q) (hv : (Int8.ofInt n0).toInt32 = v) (k : Cx M d mc ms z ci a n h' q fs m sl lc (.int v :: st) h) : Cx M d mc ms z ci a n h' pc fs m sl lc st h := by
  obtain ⟨hd, rfl⟩ := hdg
  intro p l e s mth args below meth c X H locs ls C hO hZ hi hs hP hS hl
  exact lv_bipush C.1 C.2.1 hd hv (k p l e s mth args below meth c X H locs ls C hO hZ hi hs hP hS hl)
theorem cx_sipush {n0 : Int} {v : Int32} (hdg : DC M pc (.sipush n0) 3 q) (hv : (Int16.ofInt n0).toInt32 = v) (k : Cx M d mc ms z ci a n h' q fs m sl lc (.int v :: st) h) : Cx M d mc ms z ci a n h' pc fs m sl lc st h := by
  obtain ⟨hd, rfl⟩ := hdg
  intro p l e s mth args below meth c X H locs ls C hO hZ hi hs hP hS hl
  exact lv_sipush C.1 C.2.1 hd hv (k p l e s mth args below meth c X H locs ls C hO hZ hi hs hP hS hl)
theorem obj_ini : Cond.instanceMethod Lib.objectInit ∈ tb ∧ Cond.code Lib.objectInit ⟨#[0xb1]⟩ 1 none ∈ tb := ⟨tb_in 32 (by decide +kernel) (by decide +kernel), tb_in 33 (by decide +kernel) (by decide +kernel)⟩
theorem cx_obj {idx b : Nat} (hlk : Cond.methodLink M.1.cls idx Lib.objectInit ∈ tb) (hd1 : 1 ≤ d) (hst : (st.map fun v => v.category).sum ≤ 8) (hdg : DC M pc (.invokespecial idx) 3 q) (k : Cx M d mc ms z ci a n h' q fs m sl lc st h) : Cx M d mc ms z ci a n h' pc fs m sl lc (.ref b :: st) h := by
  obtain ⟨hd, rfl⟩ := hdg
  intro p l e s mth args below meth c X H locs ls C hO hZ hi hs hP hS hl
  have tw : ∀ w ∈ tb, w.before args s = true := fun w hw => C.2.2.2.2.2.1 w (List.mem_cons_of_mem _ hw)
  refine W.objInit C.1 C.2.1 C.2.2.2.2.1 (tw _ hlk) (tw _ obj_ini.1) (tw _ obj_ini.2) rfl (hl.1.trans C.2.2.2.1.symm) rfl hd hd1 ?_ (k p l e s mth args below meth c X H locs ls C hO hZ hi hs hP hS hl)
  show 2 * 0 + ((st.map (rl X.1)).map fun v => v.category).sum + 12 ≤ 64 * d
  rw [sum_rl]
  omega
theorem prim_of {U : State} {cA : ClassId} {t : Nat} (ht : t < 4) (h : va_RA U cA (tyA t)) : U.vm.findClass ("[" ++ (tyA t).toString) = some cA := by
  rcases (show t = 0 ∨ t = 1 ∨ t = 2 ∨ t = 3 by omega) with rfl | rfl | rfl | rfl <;> exact h
/-- a new row -/
theorem cx_newa {N t kd : Nat} {atype : ArrayType} (hs0 : shL[a + 1 + m]? = some (.inr (t, N, kd))) (ht : t < 4) (hty : newarray.typeOf atype = tyA t) (hz : (kd = 0 ∧ t < 3 ∧ h.1 (a + 1 + m) = fun _ => 0) ∨ (kd = 1 ∧ t = 3 ∧ h.2.1 (a + 1 + m) = fun _ => 0)) (hw : Cond.arrayClass (tyA t) ∈ tb) (hN : N ≤ 1000) (hmc : m + 1 ≤ mc) (hms : sl + N ≤ ms) (hdg : DC M pc (.newarray atype) 2 q) (k : Cx M d mc ms z ci a n h' q fs (m + 1) (sl + N) lc (.ref (a + 1 + m) :: st) h) : Cx M d mc ms z ci a n h' pc fs m sl lc (.int (nI N) :: st) h := by
  obtain ⟨hd, rfl⟩ := hdg
  intro p l e s mth args below meth c X H locs ls C hO hZ hi hs hP hS hl
  have tw : ∀ w ∈ tb, w.before args s = true := fun w hw => C.2.2.2.2.2.1 w (List.mem_cons_of_mem _ hw)
  have hx : X.1 (a + 1 + m) = z + (a + 1 + m) := hZ _ (sh_lt hs0)
  have hcb : componentBytes (tyA t) ≤ 8 := by rcases (show t = 0 ∨ t = 1 ∨ t = 2 ∨ t = 3 by omega) with rfl | rfl | rfl | rfl <;> decide
  refine va_newaK (N := N) C.1 C.2.1 (atype := atype) (by rw [hty]; exact tw _ hw) rfl hd (n := nI N) (rest := st.map (rl X.1)) rfl (nI_pos (by omega)) (nI_clamp (by omega)) (by
    rw [hty]
    have := Nat.mul_le_mul hN hcb
    omega) hmc hms (h := X.1 (a + 1 + m)) (by rw [hs, hx]; omega) (fun H1 cA e1 e2 e3 e4 e5 => ?_)
  rw [hty] at e1 e4 e5
  have ecA : cA = X.2.2 (a + 1 + m) := Option.some.inj (e5.symm.trans (prim_of ht ((C.2.2.2.2.2.2.2.1).2.1 _ _ _ _ hs0).2))
  obtain ⟨hP1, hP2⟩ := wB_P.mp hP
  have lt : ∀ i, i ≤ m → X.1 (a + i) < X.1 (a + 1 + m) := fun i hi => by rw [hx, hZ _ (by have := sh_lt hs0; omega)]; omega
  refine k p l e s mth args below meth c X H1 locs ls C hO hZ hi (by rw [e2, hx]; omega) (wB_P.mpr ⟨at_kept hP1 (e3 _ (lt 0 (by omega))), fun i hi => ?_⟩) ⟨Nat.le_trans hS.1 (by rw [e2, hs, hx]; omega), fun x x1 x2 => ?_, hS.2.2⟩ hl
  · by_cases y : i < m
    · exact at_kept (hP2 i y) (e3 _ (by rw [show a + 1 + i = a + (1 + i) by omega]; exact lt _ (by omega)))
    · obtain rfl : i = m := by omega
      rw [cE_a hs0]
      show H1[X.1 (a + 1 + i)]? = _
      rw [e1, ecA]
      rcases hz with ⟨rfl, h3, hz⟩ | ⟨rfl, rfl, hz⟩
      · rcases (show t = 0 ∨ t = 1 ∨ t = 2 by omega) with rfl | rfl | rfl <;> (simp only [aE, hz]; rfl)
      · simp only [aE, hz]
        rfl
  · rw [e3 x (by have := hS.1; rw [hs] at this; omega), hS.2.1 x x1 x2]
/-- a field told -/
theorem cx_put {kf index : Nat} {v : Value} {ty : FieldType} {b : Bool} {fs' : List Value} (hf : FLk M.1.cls index ci kf b) (ho : ∀ (C : String) (T : u_T) (N : Nat), cls[ci]? = some (C, T, N) → parseFieldDescriptor (T kf).2.2.1 = some ty ∧ C = M.1.cls) (hn : ∀ ρ, narrow ty (rl ρ v) = rl ρ v ∧ fits ty (rl ρ v) = true) (hlen : kf < fs.length) (hfs : fs.set kf v = fs') (han : a + 1 + m ≤ nN) (hdg : DC M pc (.putfield index) 3 q) (k : Cx M d mc ms z ci a n h' q fs' m sl lc st h) : Cx M d mc ms z ci a n h' pc fs m sl lc (v :: .ref a :: st) h := by
  subst hfs
  obtain ⟨hd, rfl⟩ := hdg
  intro p l e s mth args below meth c X H locs ls C hO hZ hi hs hP hS hl
  obtain ⟨C', T, N, hc, hk, hw, hdc, hfin⟩ := hf
  have ok := cls_ok _ (List.mem_of_getElem? hc)
  obtain ⟨ty0, hty0⟩ := ok.2.1
  obtain ⟨o1, o2⟩ := ho _ _ _ hc
  have hts : ∀ w ∈ tb, w.before args s = true := fun w hw => C.2.2.2.2.2.1 w (List.mem_cons_of_mem _ hw)
  have hK := C.2.2.2.2.2.2.2.1.1
  obtain ⟨hP1, hP2⟩ := wB_P.mp hP
  obtain ⟨r, h1, cell, q1, q2, q3, q4⟩ := hP1
  obtain rfl : r = (C', T, N) := Option.some.inj (h1.symm.trans hc)
  have hap := va_apart (own := M.1.cls) hts ok.1 ty0 hty0 ok.2.2 hK hc
  obtain ⟨hS9, hfc, kC, hkC, hkind⟩ := hK.1 ci _ hc
  obtain ⟨cf, kf9, fi, f, hi9, hsl⟩ := hS9 kf hk
  have hlay := hts _ (ok.1 _ (u_in_lay hk))
  have hst := (u_facts hfc hkC (u_lays hts ok.1 hk) hi9).1
  have hi8 : s.fieldFound? C' (T kf).2.1 (T kf).2.2.1 = some (cf, kf9, fi, f) := by
    have h9 := hi9
    rw [show ((C', T, N) : vw_C).2.1 = T from rfl, hdc] at h9
    exact h9
  have hlt : f.slot < cell.slots.size := by rw [hsl]; exact k2_hasslot (q4 kf hk)
  have hxa : X.1 a = z + a := hZ a (by omega)
  have fin : ∀ H' : Heap, H'[X.1 a]? = some (cell.setSlot f.slot (rl X.1 v)) → H'.size = H.size → (∀ q, q ≠ X.1 a → H'[q]? = H[q]?) → W p l e (rmC d mc ms) s mth args below meth c H' (locs ++ [⟨X.1 a, f.slot⟩]) m sl (MQ below (Qb X z h' a n) args s mc ms (fun q => z + a ≤ q)) (F0 mth (pc + 3) ls (st.map (rl X.1))) := by
    intro H' e1 e2 e3
    rw [hsl] at e1
    refine k p l e s mth args below meth c X H' _ ls C hO hZ hi (e2.trans hs) (wB_P.mpr ⟨⟨_, hc, t_OB.to (V := updV (vp_V (fs.map (rl X.1))) kf (rl X.1 v)) ⟨_, e1, q2, q3, t_set q4 hap hk _⟩ (fun j _ => ?_)⟩, fun i hi => at_kept (hP2 i hi) (e3 _ ?_)⟩) (hS.put e2 e3 (by show z + a ≤ X.1 a; omega)) hl
    · rw [vp_updV_set (by rw [List.length_map]; exact hlen), List.map_set]
    · show X.1 (a + 1 + i) ≠ X.1 a
      rw [hZ _ (by omega), hxa]; omega
  unfold u_lay at hlay
  cases b with
  | false =>
    rw [if_neg (by rw [show ((C', T, N) : vw_C).2.1 = T from rfl, hfin]; decide)] at hlay
    have h6 := u_store hfc hkC hkind hlay hi9 o1 (hn X.1).1 (hn X.1).2
    exact W.putK C.1 C.2.1 (f := f) ⟨C.2.2.2.2.1, hts _ hw, ⟨_, _, _, hi8⟩, hst⟩ (by rw [q2]; exact h6) q1 q3 hlt rfl rfl hd fin
  | true =>
    rw [if_pos (by rw [show ((C', T, N) : vw_C).2.1 = T from rfl]; exact hfin)] at hlay
    have hcf : mth.cls = cf := by
      obtain ⟨_, _, c', _, _, _, -, -, hf', -, -, -, hown2, -⟩ := Cond.laysFinal_spec hlay
      have e1 : c' = cf := by have := hi9.symm.trans hf'; simp at this; exact this.1.symm
      rw [show ((C', T, N) : vw_C).2.1 = T from rfl, hdc, o2] at hown2
      rw [← e1]; exact Option.some.inj (C.2.2.2.2.1.symm.trans hown2)
    have h6 := u_fits hfc hkC hkind (Or.inr hlay) hi9 o1 (hn X.1).1 (hn X.1).2
    exact W.putFinK C.1 C.2.1 C.2.2.2.2.1 (hts _ hw) hi8 hst hcf hi (by rw [q2]; exact h6) q1 q3 hlt rfl rfl hd fin
/-- a field read -/
theorem cx_get {kf index : Nat} {v : Value} {b : Bool} (hf : FLk M.1.cls index ci kf b) (hv : fs[kf]? = some v) (hdg : DC M pc (.getfield index) 3 q) (k : Cx M d mc ms z ci a n h' q fs m sl lc (v :: st) h) : Cx M d mc ms z ci a n h' pc fs m sl lc (.ref a :: st) h := by
  obtain ⟨hd, rfl⟩ := hdg
  intro p l e s mth args below meth c X H locs ls C hO hZ hi hs hP hS hl
  obtain ⟨C', T, N, hc, hk, hw, hdc, hfin⟩ := hf
  have ok := cls_ok _ (List.mem_of_getElem? hc)
  have hts : ∀ w ∈ tb, w.before args s = true := fun w hw => C.2.2.2.2.2.1 w (List.mem_cons_of_mem _ hw)
  exact va_get (D := X.2.1) (v := rl X.1 v) C.1 C.2.1 hts ok.1 C.2.2.2.2.1 C.2.2.2.2.2.2.2.1.1 hP 0 (fs := fs.map (rl X.1)) rfl hc kf hk (hts _ hw) (fun _ h => by have h9 := h; rw [show ((C', T, N) : vw_C).2.1 = T from rfl, hdc] at h9; exact h9) (by rw [List.getElem?_map, hv]; rfl) hd (k p l e s mth args below meth c X H locs ls C hO hZ hi hs hP hS hl)
theorem kept_S {X : CX} {z a : Nat} {H0 H : Heap} {locs : List Loc} (hZ : XZ X z) (hs : H.size ≤ z + nN) (hS : va_S (fun q => z + a ≤ q) H0 H locs) : ∀ q : Nat, q < H0.size → ¬ inR X q → H[q]? = H0[q]? := by
  intro q h1 h2
  refine hS.2.1 q h1 fun h3 => h2 ⟨q - z, ?_, ?_⟩
  · have := hS.1
    have h3' : z + a ≤ q := h3
    omega
  · have h3' : z + a ≤ q := h3
    rw [hZ _ (by have := hS.1; omega)]; omega
/-- a new object, by its constructor -/
theorem cx_new {ci' n' mc' ms' d' i1 i2 N' pc1 pc2 : Nat} {C' : String} {T' : u_T} {M' : MI} {ty0 : Nat → FieldType} (hk' : Kb z h M' ci' (a + 1 + m) n' d' mc' ms') (hn' : n' = mc' + 1) (han : a + 1 + m + n' ≤ nN) (hc' : cls[ci']? = some (C', T', N')) (hty0 : ∀ k, k < N' → parseFieldDescriptor (T' k).2.2.1 = some (ty0 k)) (hdf : ∀ j, j < N' → defaultValue (ty0 j) = vp_V (nul ci') j)
    (hl1 : Cond.classLink M.1.cls i1 C' ∈ tb) (hl2 : Cond.instantiable C' N' ∈ tb) (hm : mG M' 0) (hMi : M'.1.cls = C' ∧ M'.1.name = "<init>" ∧ M'.2.2.2 = none ∧ Cond.instanceMethod M'.1 ∈ tb) (hlk : (∃ host, Cond.methodLinkNest M.1.cls i2 M'.1 host ∈ nestW) ∨ Cond.methodLink M.1.cls i2 M'.1 ∈ tb)
    (hdd : d = d' + 1) (hmc : m + n' ≤ mc) (hms : sl + N' + ms' ≤ ms) (hst : (st.map fun v => v.category).sum ≤ 6)
    (hd1 : DC M pc (.new i1) 3 pc1) (hd2 : DC M pc1 .dup 1 pc2) (hd3 : DC M pc2 (.invokespecial i2) 3 q) (k : Cx M d mc ms z ci a n h' q fs (m + n') (sl + N' + ms') lc (.ref (a + 1 + m) :: st) h) : Cx M d mc ms z ci a n h' pc fs m sl lc st h := by
  obtain ⟨hd1, rfl⟩ := hd1
  obtain ⟨hd2, rfl⟩ := hd2
  obtain ⟨hd3, rfl⟩ := hd3
  subst hdd hn'
  intro p l e s mth args below meth c X H locs ls C hO hZ hi hs hP hS hl
  have ok := cls_ok _ (List.mem_of_getElem? hc')
  have htsM := C.2.2.2.2.2.1
  have hts : ∀ w ∈ tb, w.before args s = true := fun w hw => htsM w (List.mem_cons_of_mem _ hw)
  have hK := C.2.2.2.2.2.2.2.1
  have hKn := hK.1.1 ci' _ hc'
  have hx : X.1 (a + 1 + m) = z + (a + 1 + m) := hZ _ (by omega)
  obtain ⟨hP1, hP2⟩ := wB_P.mp hP
  refine W.newcK C.1 C.2.1 C.2.2.2.2.1 (hts _ hl1) (hts _ hl2) (by have := hts _ hm.1; rw [hMi.1] at this; exact this) rfl hd1 (by show m + 1 ≤ mc; omega) (by show sl + N' ≤ ms; omega) hKn.2.1 (h := X.1 (a + 1 + m)) (by rw [hs, hx]; omega) (fun H1 kC hkC e1 z1 o1 => ?_)
  refine lv_dup (va := .ref (X.1 (a + 1 + m))) (pc := pc + 3) (ls := ls) (rest := st.map (rl X.1)) C.1 C.2.1 hd2 rfl ?_
  have new : va_at X.2.1 cls (X.1 (a + 1 + m), .inr (ci', nul ci')) H1 := ⟨_, hc', (u_born ty0 hts ok.1 hKn hkC e1 hty0).to hdf⟩
  have hs1 : H1.size = z + (a + 1 + m) + 1 := by rw [z1, hx]
  have hS1 : va_S (fun q => z + a ≤ q) s.heap H1 locs := ⟨Nat.le_trans hS.1 (by omega), fun x x1 x2 => by rw [o1 x (by have := hS.1; omega), hS.2.1 x x1 x2], hS.2.2⟩
  have hM := hk' l X C.2.2.2.2.2.2.2.2.1 hZ
  have one : va_P X.2.1 cls [(X.1 (a + 1 + m), .inr (ci', nul ci'))] H1 := fun k x hx => by
    cases k with
    | zero => cases hx; exact new
    | succ k => cases hx
  have hpre : PreS s H1 (va_Pc [.ref (X.1 (a + 1 + m))] (fun U => U.heap.size = z + (a + 1 + m) + 1 ∧ va_P X.2.1 cls [(X.1 (a + 1 + m), .inr (ci', nul ci'))] U.heap ∧ wK X U ∧ wS X U U.heap ∧ wO U)) (.ref (X.1 (a + 1 + m)) :: []) := ⟨fun a U g mk q => ⟨q.1, q.2.1, q.2.2.1, wK_blind q.2.2.2.1, wS_blind q.2.2.2.2.1, wO_moved (u := U) (U := U.calling g mk a) (Vm.Alike.refl U.vm) q.2.2.2.2.2⟩, fun U hU hW => ⟨rfl, by rw [hU]; exact hs1, by rw [hU]; exact one, wK_warm hW hK, by rw [hU]; exact wS_warm hW (wS_kept C.2.2.2.2.2.2.2.2.2 (kept_S hZ (by omega) hS1)), wO_moved hW.alike hO⟩⟩
  have hroom : (rmC d' mc' ms').frames + 1 ≤ (rmC (d' + 1) mc ms).frames ∧ 8 + (M'.2.2.1 + 11) + (rmC d' mc' ms').locals ≤ (rmC (d' + 1) mc ms).locals := ⟨Nat.le_refl _, by show 8 + (M'.2.2.1 + 11) + 64 * d' ≤ 64 * (d' + 1); have := hm.2.2.2; omega⟩
  have hlvr : 2 * (F0 mth (pc + 3 + 1) ls (.ref (X.1 (a + 1 + m)) :: .ref (X.1 (a + 1 + m)) :: st.map (rl X.1))).monitorRoom + ((.ref (X.1 (a + 1 + m)) :: st.map (rl X.1)).map fun v => v.category).sum ≤ 8 := by
    have := sum_rl X.1 st
    refine lv_room ?_
    rw [List.map_cons, List.sum_cons, this]
    show 1 + _ ≤ 8
    omega
  have run : va_Run p l e (rmC (d' + 1) mc ms) s mth args below meth c H1 locs (m + 1) (sl + N') mc' ms' (F0 mth (pc + 3 + 1) ls (.ref (X.1 (a + 1 + m)) :: .ref (X.1 (a + 1 + m)) :: st.map (rl X.1))) (.ref (X.1 (a + 1 + m)) :: st.map (rl X.1)) (Qb X z h (a + 1 + m) (mc' + 1) (Value.ref (X.1 (a + 1 + m)) :: []).toArray) (fun q => z + (a + 1 + m) ≤ q) := by
    rcases hlk with ⟨host, hlk⟩ | hlk
    · exact va_runIN (As := []) (bytes := M'.2.1) (maxL := M'.2.2.1) ⟨C.1, C.2.1, C.2.2.2.1, C.2.2.2.2.1, htsM⟩ hM ⟨va_cnB 0 htsM (wsM_good M' hm.2.2.1 M) (by rw [← hMi.2.2.1]; rfl) rfl rfl (hK.2.2 _ hlk) (hts _ hm.1) hm.2.1 hroom, hMi.2.1, hts _ hMi.2.2.2⟩ hpre rfl rfl hl.1 rfl hlvr hd3 ⟨by show m + 1 + mc' ≤ mc; omega, by show sl + N' + ms' ≤ ms; omega⟩
    · exact va_runI (As := []) (bytes := M'.2.1) (maxL := M'.2.2.1) ⟨C.1, C.2.1, C.2.2.2.1, C.2.2.2.2.1, htsM⟩ hM ⟨callB_of 0 htsM (wsM_good M' hm.2.2.1 M) (by rw [← hMi.2.2.1]; rfl) rfl rfl (hts _ hm.1) (hts _ hlk) hm.2.1 hroom, hMi.2.1, hts _ hMi.2.2.2⟩ hpre rfl rfl hl.1 rfl hlvr hd3 ⟨by show m + 1 + mc' ≤ mc; omega, by show sl + N' + ms' ≤ ms; omega⟩
  intro T0 hT0 Xs
  obtain ⟨v', st0, t, T', L, h0, X', hL, e1', e2', ⟨hv, hsz, hPw, hF1⟩, hgo⟩ := run T0 hT0 Xs
  have hv : v' = none := by cases hv; rfl
  subst hv
  have lo : ∀ q : Nat, q < H1.size → ¬ z + (a + 1 + m) ≤ q → T'.heap[q]? = H1[q]? := fun q q1 q2 => by rw [e1', hF1.2 q (by rw [h0]; exact q1) q2, h0]
  have lo2 : ∀ i, i ≤ m → T'.heap[X.1 (a + i)]? = H[X.1 (a + i)]? := fun i hi => by
    have : X.1 (a + i) = z + (a + i) := hZ _ (by omega)
    rw [lo _ (by omega) (by omega), o1 _ (by omega)]
  rw [show m + 1 + mc' = m + (mc' + 1) by omega] at X'
  have kk := k p l e s mth args below meth c X T'.heap (locs ++ L) ls C hO hZ hi (by rw [e1', hsz]; omega) (wB_P.mpr ⟨at_kept hP1 (lo2 0 (by omega)), fun i hi => ?_⟩) ⟨?_, fun x x1 x2 => ?_, fun q hq => ?_⟩ hl
  · obtain ⟨t2, a2, b2⟩ := kk T' rfl X'
    exact ⟨t2, hgo _ a2, b2⟩
  · by_cases y : i < m
    · exact at_kept (hP2 i y) (by show T'.heap[X.1 (a + 1 + i)]? = H[X.1 (a + 1 + i)]?; rw [show a + 1 + i = a + (1 + i) by omega]; exact lo2 _ (by omega))
    · have := wsR_P.mp hPw (i - m) (by omega)
      rw [show a + 1 + m + (i - m) = a + 1 + i by omega] at this
      rw [e1']
      exact this
  · rw [e1', hsz]; have := hS.1; omega
  · have h9 : x < H.size := Nat.lt_of_lt_of_le x1 hS.1
    have h8 : ¬ z + a ≤ x := x2
    rw [lo x (by omega) (by omega), o1 x (by omega), hS.2.1 x x1 x2]
  · rcases List.mem_append.mp hq with hq | hq
    · exact hS.2.2 q hq
    · have := hL q hq
      show z + a ≤ q.base
      have h7 : z + (a + 1 + m) ≤ q.base := this
      omega
/-- the end of a constructor -/
theorem cx_ret (hs0 : shL[a]? = some (.inl ci)) (hr : M.2.2.2 = none) (hm : m = mc) (hsl : sl = ms) (hn : n = m + 1) (hfs : fs = (fsC ci).map (fvA h a)) (hh : h = h') (hdg : DC M pc .return_ 1 q) : Cx M d mc ms z ci a n h' pc fs m sl lc [] h := by
  subst hm hsl hn hfs hh
  obtain ⟨hd, rfl⟩ := hdg
  intro p l e s mth args below meth c X H locs ls C hO hZ hi hs hP hS hl
  obtain ⟨hP1, hP2⟩ := wB_P.mp hP
  refine W.vret C.1 C.2.1 (C.2.2.1.trans hr) (fun t ht hW => ⟨rfl, by rw [ht, hs]; omega, wsR_P.mpr fun i hi => ?_, hS.F ht⟩) hS.2.2 hd C.2.2.2.2.2.2.1
  rw [ht]
  cases i with
  | zero =>
    rw [Nat.add_zero, cE_o hs0]
    rw [List.map_map] at hP1
    have : (rl X.1 ∘ fvA h a) = fV X.1 h a := funext fun f => fvA_fV X.1 h a f
    rw [this] at hP1
    exact hP1
  | succ i =>
    have := hP2 i (by omega)
    rw [show a + 1 + i = a + (i + 1) by omega] at this
    exact this
end CX1
