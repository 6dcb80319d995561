/-! the reference's constructor: it needs the whole world -/
def wBB (X : CX) (h : HH) (ci a : Nat) (fs : List Value) (m : Nat) (H : Heap) : Prop := va_P X.2.1 cls (wB X h ci a fs m) H ∧ va_P X.2.1 cls (wsR X h 0 a) H
/-- within the reference's constructor -/
def Cy (Qy : CX → Array Value → State → Outcome → State → Prop) (M : MI) (d mc ms z ci a : Nat) (pc : Nat) (fs : List Value) (m sl : Nat) (lc : List (Nat × Value)) (st : List Value) (h : HH) : Prop :=
  ∀ (p : Program) (l : Launch) (e : Env) (s : State) (mth : MethodId) (args : Array Value) (below : List Frame) (meth : Method) (c : Code) (X : CX) (H : Heap) (locs : List Loc) (ls : Array Slot),
    SC p l e s mth args meth c X M → XZ X z → meth.name = "<init>" → H.size = z + a + 1 + m → wBB X h ci a fs m H → va_S (inR X) s.heap H locs → lv_has ls M.2.2.1 (lc.map (rlq X.1)) →
    W p l e (rmC d mc ms) s mth args below meth c H locs m sl (MQ below (Qy X) args s mc ms (inR X)) (F0 mth pc ls (st.map (rl X.1)))
section CY1
variable {Qy : CX → Array Value → State → Outcome → State → Prop} {M : MI} {d mc ms z ci a : Nat} {pc q : Nat} {fs : List Value} {m sl : Nat} {lc lc' : List (Nat × Value)} {st : List Value} {h : HH}
theorem cy_aload0 (hdg : DC M pc (.aload_n 0) 1 q) (hk : lc[0]? = some (0, .ref a)) (k : Cy Qy M d mc ms z ci a q fs m sl lc (.ref a :: st) h) : Cy Qy M d mc ms z ci a pc fs m sl lc st h := by
  obtain ⟨hd, rfl⟩ := hdg
  intro p l e s mth args below meth c X H locs ls C hZ hi hs hP hS hl
  exact lv_aload_n C.1 C.2.1 hd rfl (lv_at hl 0 (lc_at X.1 hk)) (k p l e s mth args below meth c X H locs ls C hZ hi hs hP hS hl)
theorem cy_iconst {n0 : Int} {v : Int32} (hdg : DC M pc (.iconst n0) 1 q) (hv : Int32.ofInt n0 = v) (k : Cy Qy M d mc ms z ci a q fs m sl lc (.int v :: st) h) : Cy Qy M d mc ms z ci a pc fs m sl lc st h := by
  obtain ⟨hd, rfl⟩ := hdg
  intro p l e s mth args below meth c X H locs ls C hZ hi hs hP hS hl
  exact lv_iconst C.1 C.2.1 hd hv (k p l e s mth args below meth c X H locs ls C hZ hi hs hP hS hl)
theorem cy_bipush {n0 : Int} {v : Int32} (hdg : DC M pc (.bipush n0) 2 q) (hv : (Int8.ofInt n0).toInt32 = v) (k : Cy Qy M d mc ms z ci a q fs m sl lc (.int v :: st) h) : Cy Qy M d mc ms z ci a pc fs m sl lc st h := by
  obtain ⟨hd, rfl⟩ := hdg
  intro p l e s mth args below meth c X H locs ls C hZ hi hs hP hS hl
  exact lv_bipush C.1 C.2.1 hd hv (k p l e s mth args below meth c X H locs ls C hZ hi hs hP hS hl)
theorem cy_sipush {n0 : Int} {v : Int32} (hdg : DC M pc (.sipush n0) 3 q) (hv : (Int16.ofInt n0).toInt32 = v) (k : Cy Qy M d mc ms z ci a q fs m sl lc (.int v :: st) h) : Cy Qy M d mc ms z ci a pc fs m sl lc st h := by
  obtain ⟨hd, rfl⟩ := hdg
  intro p l e s mth args below meth c X H locs ls C hZ hi hs hP hS hl
  exact lv_sipush C.1 C.2.1 hd hv (k p l e s mth args below meth c X H locs ls C hZ hi hs hP hS hl)
theorem cy_obj {idx b : Nat} (hlk : Cond.methodLink M.1.cls idx Lib.objectInit ∈ tb) (hd1 : 1 ≤ d) (hst : (st.map fun v => v.category).sum ≤ 8) (hdg : DC M pc (.invokespecial idx) 3 q) (k : Cy Qy M d mc ms z ci a q fs m sl lc st h) : Cy Qy M d mc ms z ci a pc fs m sl lc (.ref b :: st) h := by
  obtain ⟨hd, rfl⟩ := hdg
  intro p l e s mth args below meth c X H locs ls C hZ hi hs hP hS hl
  have tw : ∀ w ∈ tb, w.before args s = true := fun w hw => C.2.2.2.2.2.1 w (List.mem_cons_of_mem _ hw)
  refine W.objInit C.1 C.2.1 C.2.2.2.2.1 (tw _ hlk) (tw _ obj_ini.1) (tw _ obj_ini.2) rfl (hl.1.trans C.2.2.2.1.symm) rfl hd hd1 ?_ (k p l e s mth args below meth c X H locs ls C hZ hi hs hP hS hl)
  show 2 * 0 + ((st.map (rl X.1)).map fun v => v.category).sum + 12 ≤ 64 * d
  rw [sum_rl]
  omega
/-- a new row -/
theorem cy_newa {N t kd : Nat} {atype : ArrayType} (hs0 : shL[a + 1 + m]? = some (.inr (t, N, kd))) (ht : t < 4) (hty : newarray.typeOf atype = tyA t) (hz : (kd = 0 ∧ t < 3 ∧ h.1 (a + 1 + m) = fun _ => 0) ∨ (kd = 1 ∧ t = 3 ∧ h.2.1 (a + 1 + m) = fun _ => 0)) (hw : Cond.arrayClass (tyA t) ∈ tb) (hN : N ≤ 1000) (hmc : m + 1 ≤ mc) (hms : sl + N ≤ ms) (hdg : DC M pc (.newarray atype) 2 q) (k : Cy Qy M d mc ms z ci a q fs (m + 1) (sl + N) lc (.ref (a + 1 + m) :: st) h) : Cy Qy M d mc ms z ci a pc fs m sl lc (.int (nI N) :: st) h := by
  obtain ⟨hd, rfl⟩ := hdg
  intro p l e s mth args below meth c X H locs ls C hZ hi hs hPP hS hl
  have tw : ∀ w ∈ tb, w.before args s = true := fun w hw => C.2.2.2.2.2.1 w (List.mem_cons_of_mem _ hw)
  have hx : X.1 (a + 1 + m) = z + (a + 1 + m) := hZ _ (sh_lt hs0)
  have hcb : componentBytes (tyA t) ≤ 8 := by rcases (show t = 0 ∨ t = 1 ∨ t = 2 ∨ t = 3 by omega) with rfl | rfl | rfl | rfl <;> decide
  refine va_newaK (N := N) C.1 C.2.1 (atype := atype) (by rw [hty]; exact tw _ hw) rfl hd (n := nI N) (rest := st.map (rl X.1)) rfl (nI_pos (by omega)) (nI_clamp (by omega)) (by
    rw [hty]
    have := Nat.mul_le_mul hN hcb
    omega) hmc hms (h := X.1 (a + 1 + m)) (by rw [hs, hx]; omega) (fun H1 cA e1 e2 e3 e4 e5 => ?_)
  rw [hty] at e1 e4 e5
  have ecA : cA = X.2.2 (a + 1 + m) := Option.some.inj (e5.symm.trans (prim_of ht ((C.2.2.2.2.2.2.2.1).2.1 _ _ _ _ hs0).2))
  obtain ⟨hP, hP3⟩ := hPP
  obtain ⟨hP1, hP2⟩ := wB_P.mp hP
  have hlen := sh_lt hs0
  have lt : ∀ i, i < a + 1 + m → X.1 i < X.1 (a + 1 + m) := fun i hi => by rw [hx, hZ _ (by omega)]; omega
  refine k p l e s mth args below meth c X H1 locs ls C hZ hi (by rw [e2, hx]; omega) ⟨wB_P.mpr ⟨at_kept hP1 (e3 _ (lt a (by omega))), fun i hi => ?_⟩, wsR_P.mpr fun i hi => at_kept (wsR_P.mp hP3 i hi) (e3 _ (lt _ (by omega)))⟩ ⟨Nat.le_trans hS.1 (by rw [e2, hs, hx]; omega), fun x x1 x2 => ?_, hS.2.2⟩ hl
  · by_cases y : i < m
    · exact at_kept (hP2 i y) (e3 _ (lt _ (by omega)))
    · obtain rfl : i = m := by omega
      rw [cE_a hs0]
      show H1[X.1 (a + 1 + i)]? = _
      rw [e1, ecA]
      rcases hz with ⟨rfl, h3, hz⟩ | ⟨rfl, rfl, hz⟩
      · rcases (show t = 0 ∨ t = 1 ∨ t = 2 by omega) with rfl | rfl | rfl <;> (simp only [aE, hz]; rfl)
      · simp only [aE, hz]
        rfl
  · rw [e3 x (by have := hS.1; rw [hs] at this; omega), hS.2.1 x x1 x2]
/-- a field told -/
theorem cy_put {kf index : Nat} {v : Value} {ty : FieldType} {b : Bool} {fs' : List Value} (hf : FLk M.1.cls index ci kf b) (ho : ∀ (C : String) (T : u_T) (N : Nat), cls[ci]? = some (C, T, N) → parseFieldDescriptor (T kf).2.2.1 = some ty ∧ C = M.1.cls) (hn : ∀ ρ, narrow ty (rl ρ v) = rl ρ v ∧ fits ty (rl ρ v) = true) (hlen : kf < fs.length) (hfs : fs.set kf v = fs') (han : a + 1 + m ≤ nN) (hdg : DC M pc (.putfield index) 3 q) (k : Cy Qy M d mc ms z ci a q fs' m sl lc st h) : Cy Qy M d mc ms z ci a pc fs m sl lc (v :: .ref a :: st) h := by
  subst hfs
  obtain ⟨hd, rfl⟩ := hdg
  intro p l e s mth args below meth c X H locs ls C hZ hi hs hPP hS hl
  obtain ⟨C', T, N, hc, hk, hw, hdc, hfin⟩ := hf
  have ok := cls_ok _ (List.mem_of_getElem? hc)
  obtain ⟨ty0, hty0⟩ := ok.2.1
  obtain ⟨o1, o2⟩ := ho _ _ _ hc
  have hts : ∀ w ∈ tb, w.before args s = true := fun w hw => C.2.2.2.2.2.1 w (List.mem_cons_of_mem _ hw)
  have hK := C.2.2.2.2.2.2.2.1.1
  obtain ⟨hP, hP3⟩ := hPP
  obtain ⟨hP1, hP2⟩ := wB_P.mp hP
  obtain ⟨r, h1, cell, q1, q2, q3, q4⟩ := hP1
  obtain rfl : r = (C', T, N) := Option.some.inj (h1.symm.trans hc)
  have hap := va_apart (own := M.1.cls) hts ok.1 ty0 hty0 ok.2.2 hK hc
  obtain ⟨hS9, hfc, kC, hkC, hkind⟩ := hK.1 ci _ hc
  obtain ⟨cf, kf9, fi, f, hi9, hsl⟩ := hS9 kf hk
  have hlay := hts _ (ok.1 _ (u_in_lay hk))
  have hst := (u_facts hfc hkC (u_lays hts ok.1 hk) hi9).1
  have hi8 : s.fieldFound? C' (T kf).2.1 (T kf).2.2.1 = some (cf, kf9, fi, f) := by
    have h9 := hi9
    rw [show ((C', T, N) : vw_C).2.1 = T from rfl, hdc] at h9
    exact h9
  have hlt : f.slot < cell.slots.size := by rw [hsl]; exact k2_hasslot (q4 kf hk)
  have hxa : X.1 a = z + a := hZ a (by omega)
  have ne : ∀ i, i < nN → i ≠ a → X.1 i ≠ X.1 a := fun i hi hne => by rw [hxa, hZ _ hi]; omega
  have fin : ∀ H' : Heap, H'[X.1 a]? = some (cell.setSlot f.slot (rl X.1 v)) → H'.size = H.size → (∀ q, q ≠ X.1 a → H'[q]? = H[q]?) → W p l e (rmC d mc ms) s mth args below meth c H' (locs ++ [⟨X.1 a, f.slot⟩]) m sl (MQ below (Qy X) args s mc ms (inR X)) (F0 mth (pc + 3) ls (st.map (rl X.1))) := by
    intro H' e1 e2 e3
    rw [hsl] at e1
    refine k p l e s mth args below meth c X H' _ ls C hZ hi (e2.trans hs) ⟨wB_P.mpr ⟨⟨_, hc, t_OB.to (V := updV (vp_V (fs.map (rl X.1))) kf (rl X.1 v)) ⟨_, e1, q2, q3, t_set q4 hap hk _⟩ (fun j _ => ?_)⟩, fun i hi => at_kept (hP2 i hi) (e3 _ (ne _ (by omega) (by omega)))⟩, wsR_P.mpr fun i hi => at_kept (wsR_P.mp hP3 i hi) (e3 _ (ne _ (by omega) (by omega)))⟩ (hS.put e2 e3 ⟨a, by omega, rfl⟩) hl
    rw [vp_updV_set (by rw [List.length_map]; exact hlen), List.map_set]
  unfold u_lay at hlay
  cases b with
  | false =>
    rw [if_neg (by rw [show ((C', T, N) : vw_C).2.1 = T from rfl, hfin]; decide)] at hlay
    have h6 := u_store hfc hkC hkind hlay hi9 o1 (hn X.1).1 (hn X.1).2
    exact W.putK C.1 C.2.1 (f := f) ⟨C.2.2.2.2.1, hts _ hw, ⟨_, _, _, hi8⟩, hst⟩ (by rw [q2]; exact h6) q1 q3 hlt rfl rfl hd fin
  | true =>
    rw [if_pos (by rw [show ((C', T, N) : vw_C).2.1 = T from rfl]; exact hfin)] at hlay
    have hcf : mth.cls = cf := by
      obtain ⟨_, _, c', _, _, _, -, -, hf', -, -, -, hown2, -⟩ := Cond.laysFinal_spec hlay
      have e1 : c' = cf := by have := hi9.symm.trans hf'; simp at this; exact this.1.symm
      rw [show ((C', T, N) : vw_C).2.1 = T from rfl, hdc, o2] at hown2
      rw [← e1]; exact Option.some.inj (C.2.2.2.2.1.symm.trans hown2)
    have h6 := u_fits hfc hkC hkind (Or.inr hlay) hi9 o1 (hn X.1).1 (hn X.1).2
    exact W.putFinK C.1 C.2.1 C.2.2.2.2.1 (hts _ hw) hi8 hst hcf hi (by rw [q2]; exact h6) q1 q3 hlt rfl rfl hd fin
end CY1
/-- all is there -/
theorem wP_all {X : CX} {h : HH} {H : Heap} (h1 : ∀ i, i < 255 → va_at X.2.1 cls (X.1 i, cE X h i) H) (h2 : va_at X.2.1 cls (X.1 255, cE X h 255) H) (h3 : ∀ i, i < 39 → va_at X.2.1 cls (X.1 (256 + i), cE X h (256 + i)) H) : wP X h H := by
  have e : wsW X h = wsR X h 0 nN := by
    unfold wsW wsR
    apply List.map_congr_left
    intro i _
    rw [Nat.zero_add]
  unfold wP
  rw [e]
  refine wsR_P.mpr fun i hi => ?_
  rw [Nat.zero_add]
  have hi : i < 295 := hi
  by_cases y : i < 255
  · exact h1 i y
  · by_cases y2 : i = 255
    · subst y2; exact h2
    · obtain ⟨j, rfl⟩ : ∃ j, i = 256 + j := ⟨i - 256, by omega⟩
      exact h3 j (by omega)
