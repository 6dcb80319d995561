/-! the law's body: rows, and a case -/
def R_law : String := "StairCountLaw"
/-- what holds at the law's entry -/
def lw_At (p : Program) (s : State) (m : MethodId) (meth : Method) (c : Code) (b L : Nat) (xs : Nat → Int32) : Prop :=
  p.tables.exec = Jvm.exec ∧ c.code = code ∧ meth.sig.returnType = ret ∧ c.maxLocals = 7 ∧ s.vm.findClass R_law = some m.cls ∧ (∀ w ∈ lw_tbl, w.before #[Value.ref b] s = true) ∧ va_X b L xs s s.heap ∧ b < s.heap.size ∧ meth.locks = false ∧ (Jvm.Cond.and given_1 narrow_1).before #[Value.ref b] s = true
def lA (s : State) : Nat → Prop := fun q => s.heap.size ≤ q
/-- .. and once the objects stand: X says where they are, o is the row of the answer -/
def LC (p : Program) (l : Launch) (s : State) (m : MethodId) (meth : Method) (c : Code) (b L : Nat) (xs : Nat → Int32) (X : CX) (o : Nat) (cA : ClassId) : Prop :=
  lw_At p s m meth c b L xs ∧ l.stackTraces = false ∧ L ≤ 3072 ∧ wI X ∧ (∀ q, inR X q → s.heap.size ≤ q) ∧ (¬ inR X o ∧ s.heap.size ≤ o) ∧ wK X s ∧ wS X s s.heap ∧ wT X s s.heap ∧ va_K X.2.1 cls [(cA, .long)] s
/-- at a place of the law, with so many cells and slots made -/
def Lx (p : Program) (l : Launch) (e : Env) (s : State) (m : MethodId) (below : List Frame) (meth : Method) (c : Code) (b : Nat) (X : CX) (o : Nat) (cA : ClassId) (Q : State → Prop) (cells slots pc : Nat) (lc : List (Nat × Value)) (st : List Value) (h : HH) (f : Nat → Int64) : Prop :=
  ∀ (H : Heap) (locs : List Loc) (ls : Array Slot), wP X h H → H[o]? = some (oC cA f) → va_S (lA s) s.heap H locs → lv_has ls 7 lc → W p l e room_1 s m #[Value.ref b] below meth c H locs cells slots Q (F0 m pc ls st)
theorem tb_lw : ∀ w ∈ tb, w ∈ lw_tbl := fun _ hw => (List.mem_filter.mp hw).1
/-- an argument out of the script -/
def dA (pc w : Nat) : Prop := decode code pc = .ok (.aload_n 0, 1) ∧ decode code (pc + 1) = .ok (.iload 4, 2) ∧ decode code (pc + 3) = .ok (.iconst (w : Int), 1) ∧ decode code (pc + 4) = .ok (.iadd, 1) ∧ decode code (pc + 5) = .ok (.iaload, 1)
section LXR
variable {p : Program} {l : Launch} {e : Env} {s : State} {m : MethodId} {below : List Frame} {meth : Method} {c : Code} {b L o : Nat} {xs : Nat → Int32} {X : CX} {cA : ClassId} {Q : State → Prop} {cells slots pc j : Nat} {lc : List (Nat × Value)} {st : List Value} {h : HH} {f : Nat → Int64}
theorem lx_arg (C : LC p l s m meth c b L xs X o cA) {w : Nat} (hl0 : lc[0]? = some (0, .ref b)) (hl4 : lc[4]? = some (4, .int (nI (6 * j)))) (hj : 6 * j + w < L) (hw : w ≤ 5) (d : dA pc w) (kk : Lx p l e s m below meth c b X o cA Q cells slots (pc + 6) lc (.int (xs (6 * j + w)) :: st) h f) : Lx p l e s m below meth c b X o cA Q cells slots pc lc st h f := by
  intro H locs ls hP ho hS hl
  obtain ⟨⟨hx, hb, hr, hml, hown, hts, hX, hbl, hlocks, hgv⟩, hl9, hL, hI, hA, ho9, hK, hZ, hT, hKo⟩ := C
  obtain ⟨d0, d1, d3, d4, d5⟩ := d
  refine lv_aload_n hx hb d0 rfl (lv_at hl 0 hl0) ?_
  refine lv_iload hx hb d1 (lv_at hl 4 hl4) ?_
  refine lv_iconst (v := nI w) hx hb d3 (by rcases (show w = 0 ∨ w = 1 ∨ w = 2 ∨ w = 3 ∨ w = 4 ∨ w = 5 by omega) with rfl | rfl | rfl | rfl | rfl | rfl <;> decide) ?_
  refine lv_iadd hx hb d4 ?_
  rw [nI_add]
  refine va_sld hx hb hX hbl (Nat.not_le.mpr hbl : ¬ lA s b) hS (vp_in_nI hj (by omega)) d5 ?_
  rw [nI_clamp (by omega)]
  exact kk H locs ls hP ho hS hl
theorem lx_args (C : LC p l s m meth c b L xs X o cA) (hl0 : lc[0]? = some (0, .ref b)) (hl4 : lc[4]? = some (4, .int (nI (6 * j)))) (hj : 6 * j + 6 ≤ L) : ∀ (n i pc : Nat) (st : List Value), i + n ≤ 6 → (∀ t, t < n → dA (pc + 6 * t) (i + t)) → Lx p l e s m below meth c b X o cA Q cells slots (pc + 6 * n) lc (((List.range' i n).map (fun w => Value.int (xs (6 * j + w)))).reverse ++ st) h f → Lx p l e s m below meth c b X o cA Q cells slots pc lc st h f := by
  intro n
  induction n with
  | zero => intro i pc st _ _ kk; exact kk
  | succ n ih =>
    intro i pc st hi hd kk
    refine lx_arg C hl0 hl4 (w := i) (by omega) (by omega) (hd 0 (Nat.succ_pos n)) (ih (i + 1) (pc + 6) _ (by omega) (fun t ht => ?_) ?_)
    · have := hd (t + 1) (by omega)
      rw [show pc + 6 + 6 * t = pc + 6 * (t + 1) by omega, show i + 1 + t = i + (t + 1) by omega]
      exact this
    · rw [show pc + 6 + 6 * n = pc + 6 * (n + 1) by omega]
      rw [List.range'_succ, List.map_cons, List.reverse_cons, List.append_assoc] at kk
      exact kk
theorem lx_callV {β : Type} {inj' : β → Option Value} {M' : MI} {d' ci n x index : Nat} {E' : Option (β × HH)} {v : β} {h1 : HH} {rest : List Value} (As : List Value) (C : LC p l s m meth c b L xs X o cA) (hm : mV M' ci n) (hlk : Cond.methodLink "StairCountLaw" index M'.1 ∈ tb) (hx : shL[x]? = some (.inl ci)) (hd' : d' ≤ 1000) (hnn : As.length = n) (hW : (rest.map fun v => v.category).sum ≤ 8) (hAs : As.map (rl X.1) = As) (hd : decode code pc = .ok (.invokevirtual index, 3)) (hcs : cells ≤ 601024 ∧ slots ≤ 7293034) (sp : Sp M' d' inj' (.ref x :: As) h E') (hE : E' = some (v, h1))
    (kk : Lx p l e s m below meth c b X o cA Q cells slots (pc + 3) lc (((inj' v).map (rl X.1)).toList ++ rest) h1 f) : Lx p l e s m below meth c b X o cA Q cells slots pc lc (As.reverse ++ .ref (X.1 x) :: rest) h f := by
  intro H locs ls hP ho hS hl
  obtain ⟨⟨hx0, hb, hr, hml, hown, hts, hX, hbl, hlocks, hgv⟩, hl9, hL, hI, hA, ho9, hK, hZ, hT, hKo⟩ := C
  have hlt : o < H.size := (Array.getElem?_eq_some_iff.mp ho).1
  have g := wz_callV (R := room_1) (cells := cells) (slots := slots) (e := e) (below := below) (meth := meth) (Q := Q) (A0 := lA s) (pc := pc) (ls := ls) (v := v) (h1 := h1) As (rest := rest) ⟨hx0, hb, hml, hown, hts⟩ tb_lw hK hI hZ hP hS hA (fun q q1 _ => Nat.not_le.mpr q1) hm hlk hx ⟨by show d' + 1 ≤ 2048; omega, by show 64 * (d' + 1) ≤ 84000; omega, hcs.1, hcs.2⟩ hnn hW hl.1 hd sp hE (fun H1 locs1 hP1 hS1 hk => kk H1 locs1 ls hP1 ((hk o hlt ho9.1).trans ho) hS1 hl)
  rw [hAs] at g
  exact g
theorem lx_aload (C : LC p l s m meth c b L xs X o cA) {k : Fin 4} {i q0 : Nat} {v : Nat} (hk : lc[q0]? = some (i, .ref v)) (hi : (k : Nat) = i) (hd : decode code pc = .ok (.aload_n k, 1)) (kk : Lx p l e s m below meth c b X o cA Q cells slots (pc + 1) lc (.ref v :: st) h f) : Lx p l e s m below meth c b X o cA Q cells slots pc lc st h f := by
  intro H locs ls hP ho hS hl
  exact lv_aload_n C.1.1 C.1.2.1 hd hi (lv_at hl q0 hk) (kk H locs ls hP ho hS hl)
theorem lx_eq (C : LC p l s m meth c b L xs X o cA) {v : Int32} {off : Int} {t : Nat} (hd : decode code pc = .ok (.if_icmp .eq off, 3)) (ht : (pc : Int) + off = (t : Int)) (kk : Lx p l e s m below meth c b X o cA Q cells slots t lc st h f) : Lx p l e s m below meth c b X o cA Q cells slots pc lc (.int v :: .int v :: st) h f := by
  intro H locs ls hP ho hS hl
  exact lv_icmp_eq C.1.1 C.1.2.1 hd ht (fun _ => kk H locs ls hP ho hS hl) (fun hc => absurd rfl hc)
theorem lg_cmp_rf (v : Int64) : lg_cmp v v = 0 := by
  unfold lg_cmp
  rw [if_neg (by simp), if_pos rfl]
theorem lx_leq (C : LC p l s m meth c b L xs X o cA) {v : Int64} {off : Int} {t : Nat} (hd : decode code pc = .ok (.lcmp, 1)) (hd2 : decode code (pc + 1) = .ok (.ifCond .eq off, 3)) (ht : ((pc + 1 : Nat) : Int) + off = (t : Int)) (kk : Lx p l e s m below meth c b X o cA Q cells slots t lc st h f) : Lx p l e s m below meth c b X o cA Q cells slots pc lc (.long v :: .long v :: st) h f := by
  intro H locs ls hP ho hS hl
  refine W.lcmp C.1.1 C.1.2.1 hd ?_
  rw [lg_cmp_rf]
  exact lv_if_eq C.1.1 C.1.2.1 hd2 ht (fun _ => kk H locs ls hP ho hS hl) (fun hc => absurd rfl hc)
end LXR
/-- the locals at the loop's head -/
def LCl (b o : Nat) (X : CX) (j : Nat) : List (Nat × Value) := [(0, .ref b), (1, .ref (X.1 0)), (2, .ref (X.1 255)), (3, .ref o), (4, .int (nI (6 * j)))]
/-- a case that compares two ints -/
def dI (t n iC iM : Nat) (off : Int) : Prop := decode code t = .ok (.aload_n 1, 1) ∧ (∀ i, i < n → dA (t + 1 + 6 * i) (1 + i)) ∧ decode code (t + 1 + 6 * n) = .ok (.invokevirtual iC, 3) ∧ decode code (t + 1 + 6 * n + 3) = .ok (.aload_n 2, 1) ∧ (∀ i, i < n → dA (t + 1 + 6 * n + 3 + 1 + 6 * i) (1 + i)) ∧ decode code (t + 1 + 6 * n + 3 + 1 + 6 * n) = .ok (.invokevirtual iM, 3)
section LXC
variable {p : Program} {l : Launch} {e : Env} {s : State} {m : MethodId} {below : List Frame} {meth : Method} {c : Code} {b L o : Nat} {xs : Nat → Int32} {X : CX} {cA : ClassId} {Q : State → Prop} {cells slots j : Nat} {h : HH} {f : Nat → Int64}
theorem args_rl (ρ : Nat → Nat) (n i : Nat) : ((List.range' i n).map (fun w => Value.int (xs (6 * j + w)))).map (rl ρ) = (List.range' i n).map (fun w => Value.int (xs (6 * j + w))) := by
  rw [List.map_map]
  rfl
theorem lx_two {α : Type} {inj : α → Option Value} {MC MM : MI} {dC dM n iC iM t : Nat} {off : Int} {F G : HH → Option (α × HH)} (As : List Value) (C : LC p l s m meth c b L xs X o cA) (hj : 6 * j + 6 ≤ L) (hn : n ≤ 5) (hAs : As = (List.range' 1 n).map (fun w => Value.int (xs (6 * j + w))))
    (hmC : mV MC 10 n) (hlC : Cond.methodLink "StairCountLaw" iC MC.1 ∈ tb) (spC : ∀ h, Sp MC dC inj (.ref 0 :: As) h (F h)) (hdC : dC ≤ 1000) (hmM : mV MM 11 n) (hlM : Cond.methodLink "StairCountLaw" iM MM.1 ∈ tb) (spM : ∀ h, Sp MM dM inj (.ref 255 :: As) h (G h)) (hdM : dM ≤ 1000)
    (d : dI t n iC iM off) (hinj : ∀ v, (((inj v).map (rl X.1)).toList.map fun v => v.category).sum ≤ 8) (hcs : cells ≤ 601024 ∧ slots ≤ 7293034) (eqv : Eqv F G) (hR : Rel h)
    (kk : ∀ (v : α) (h2 : HH), Rel h2 → Lx p l e s m below meth c b X o cA Q cells slots (t + 1 + 6 * n + 3 + 1 + 6 * n + 3) (LCl b o X j) (((inj v).map (rl X.1)).toList ++ (((inj v).map (rl X.1)).toList ++ [])) h2 f) : Lx p l e s m below meth c b X o cA Q cells slots t (LCl b o X j) [] h f := by
  obtain ⟨r, h1, h2, e1, e2, hR2⟩ := eqv h hR
  obtain ⟨d1, d2, d3, d4, d5, d6⟩ := d
  have hlen : As.length = n := by rw [hAs, List.length_map, List.length_range']
  have hrl : As.map (rl X.1) = As := by rw [hAs]; exact args_rl X.1 n 1
  refine lx_aload C (q0 := 1) rfl rfl d1 ?_
  refine lx_args C rfl rfl hj n 1 (t + 1) _ (by omega) d2 ?_
  rw [← hAs]
  refine lx_callV (rest := []) As C hmC hlC sh_0 hdC hlen (by decide) hrl d3 hcs (spC h) e1 ?_
  refine lx_aload C (q0 := 2) rfl rfl d4 ?_
  refine lx_args C rfl rfl hj n 1 (t + 1 + 6 * n + 3 + 1) _ (by omega) d5 ?_
  rw [← hAs]
  refine lx_callV As C hmM hlM sh_255 hdM hlen (by rw [List.append_nil]; exact hinj r) hrl d6 hcs (spM h1) e2 ?_
  exact kk r h2 hR2
end LXC
