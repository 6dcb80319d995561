/-! what the Statement gives of the start: strings, statics, classes -/
def tmS : Nat → Term := fun i => match i with
  | 0 => .string "StairCount$Tokens" 57
  | 1 => .string "StairCount" 129
  | 2 => .string "StairCount" 152
  | _ => .string "StairCountModel" 191
def gvF : List Cond := flatC (Jvm.Cond.and given_1 narrow_1)
def svT (i : Nat) : Term := .field (tmS i) "java/lang/String" "value" "[B"
def elS (i j : Nat) : Cond := .eq (.elem (svT i) (.int (Int32.ofNat j))) (.int ((bytS.getD i []).getD j 0))
def wdS (i : Nat) : List Cond := [.exactly (tmS i) "java/lang/String", .eq (.field (tmS i) "java/lang/String" "code\x72" "B") (.int 0), .arrayOf (svT i) .byte, .eq (.length (svT i)) (.int (Int32.ofNat (lenS.getD i 0)))] ++ (List.range (lenS.getD i 0)).map (elS i)
theorem wd_0 : (gvF.drop 37).take 148 = wdS 0 := by decide +kernel
theorem wd_1 : (gvF.drop 185).take 18 = wdS 1 := by decide +kernel
theorem wd_2 : (gvF.drop 204).take 16 = wdS 2 := by decide +kernel
theorem wd_3 : (gvF.drop 222).take 127 = wdS 3 := by decide +kernel
theorem wd_in {n k : Nat} {L : List Cond} (h : (gvF.drop n).take k = L) {w : Cond} (hw : w ∈ L) : w ∈ gvF := by
  rw [← h] at hw
  exact List.mem_of_mem_drop (List.mem_of_mem_take hw)
theorem wdS_in {i : Nat} (hi : i < 4) {w : Cond} (hw : w ∈ wdS i) : w ∈ gvF := by
  rcases (show i = 0 ∨ i = 1 ∨ i = 2 ∨ i = 3 by omega) with rfl | rfl | rfl | rfl
  · exact wd_in wd_0 hw
  · exact wd_in wd_1 hw
  · exact wd_in wd_2 hw
  · exact wd_in wd_3 hw
theorem ne_in : ∀ i j, i < j → j < 4 → Cond.not (Cond.eq (tmS i) (tmS j)) ∈ gvF := by
  intro i j h1 h2
  rcases (show (i = 0 ∧ j = 1) ∨ (i = 0 ∧ j = 2) ∨ (i = 1 ∧ j = 2) ∨ (i = 0 ∧ j = 3) ∨ (i = 1 ∧ j = 3) ∨ (i = 2 ∧ j = 3) by omega) with ⟨rfl, rfl⟩ | ⟨rfl, rfl⟩ | ⟨rfl, rfl⟩ | ⟨rfl, rfl⟩ | ⟨rfl, rfl⟩ | ⟨rfl, rfl⟩
  · exact List.mem_of_getElem? (i := 203) (by decide +kernel)
  · exact List.mem_of_getElem? (i := 220) (by decide +kernel)
  · exact List.mem_of_getElem? (i := 221) (by decide +kernel)
  · exact List.mem_of_getElem? (i := 349) (by decide +kernel)
  · exact List.mem_of_getElem? (i := 350) (by decide +kernel)
  · exact List.mem_of_getElem? (i := 351) (by decide +kernel)
theorem g_4 : Cond.eq (.static "java/lang/String" "COMPACT_STRINGS" "Z") (.int 1) ∈ gvF := List.mem_of_getElem? (i := 4) (by decide +kernel)
theorem g_5 : Cond.isRef (.static "jdk/internal/util/Preconditions" "SIOOBE_FORMATTER" "Ljava/util/function/BiFunction;") ∈ gvF := List.mem_of_getElem? (i := 5) (by decide +kernel)
theorem g_9 : Cond.isRef (.static Bundle.tN "UNASSIGNED_STACK" Bundle.steD) ∈ gvF := List.mem_of_getElem? (i := 9) (by decide +kernel)
theorem g_10 : Cond.isRef (.static Bundle.tN "SUPPRESSED_SENTINEL" Bundle.listD) ∈ gvF := List.mem_of_getElem? (i := 10) (by decide +kernel)
theorem g_23 : Cond.not (.castable nseX iobX) ∈ gvF := List.mem_of_getElem? (i := 23) (by decide +kernel)
theorem t1_lw {i : Nat} {w : Cond} (h : tables_1[i]? = some w) : w ∈ lw_tbl := List.mem_append_right _ (List.mem_of_getElem? h)
theorem w_lays : Cond.laysStatic "java/lang/String" "COMPACT_STRINGS" "Z" ∈ lw_tbl ∧ Cond.laysStatic "jdk/internal/util/Preconditions" "SIOOBE_FORMATTER" "Ljava/util/function/BiFunction;" ∈ lw_tbl ∧ Cond.laysStatic Bundle.tN "UNASSIGNED_STACK" Bundle.steD ∈ lw_tbl ∧ Cond.laysStatic Bundle.tN "SUPPRESSED_SENTINEL" Bundle.listD ∈ lw_tbl := ⟨t1_lw (i := 531) (by decide +kernel), t1_lw (i := 547) (by decide +kernel), t1_lw (i := 1135) (by decide +kernel), t1_lw (i := 1137) (by decide +kernel)⟩
theorem w_inis : Cond.initialized "java/lang/String" ∈ lw_tbl ∧ Cond.initialized "jdk/internal/util/Preconditions" ∈ lw_tbl ∧ Cond.initialized Bundle.tN ∈ lw_tbl := ⟨t1_lw (i := 15) (by decide +kernel), t1_lw (i := 17) (by decide +kernel), t1_lw (i := 20) (by decide +kernel)⟩
theorem w_cast : Cond.castable iobX iobX ∈ lw_tbl ∧ Cond.castable nseX nseX ∈ lw_tbl := ⟨t1_lw (i := 1110) (by decide +kernel), t1_lw (i := 1176) (by decide +kernel)⟩
theorem w_decl : Cond.declares (Bundle.initS rteX) ∈ lw_tbl ∧ Cond.declares (Bundle.initS excX) ∈ lw_tbl ∧ Cond.declares (Bundle.initS Bundle.tN) ∈ lw_tbl := ⟨t1_lw (i := 1112) (by decide +kernel), t1_lw (i := 1114) (by decide +kernel), t1_lw (i := 1116) (by decide +kernel)⟩
theorem w_refs : Cond.stringRef "StairCount$Tokens" 57 "flightpersonhad   owe   laddergo    rope  fall  slip  seed  law   steep tire  will  and   or    not   tally steps floor force tired many  hour  " ∈ lw_tbl ∧ Cond.stringRef "StairCount" 129 "no such PERSON" ∈ lw_tbl ∧ Cond.stringRef "StairCount" 152 "no such what" ∈ lw_tbl ∧ Cond.stringRef "StairCountModel" 191 "flight person had owe ladder go rope fall slip seed law steep tire will or and not tally steps floor force tired many hour " ∈ lw_tbl := ⟨t1_lw (i := 521) (by decide +kernel), t1_lw (i := 1148) (by decide +kernel), t1_lw (i := 1183) (by decide +kernel), t1_lw (i := 1431) (by decide +kernel)⟩
theorem w_arrs : Cond.arrayClass .int ∈ lw_tbl ∧ Cond.arrayClass .byte ∈ lw_tbl ∧ Cond.arrayClass .boolean ∈ lw_tbl ∧ Cond.arrayClass .long ∈ lw_tbl ∧ Cond.arrayOver (.object RX7) ∈ lw_tbl ∧ Cond.arrayOver (.array .int) ∈ lw_tbl := ⟨t1_lw (i := 71) (by decide +kernel), t1_lw (i := 70) (by decide +kernel), t1_lw (i := 343) (by decide +kernel), t1_lw (i := 402) (by decide +kernel), t1_lw (i := 297) (by decide +kernel), t1_lw (i := 410) (by decide +kernel)⟩
theorem w_nest : nestW = [36, 42, 74, 219, 225, 247, 289, 298, 312, 351, 353, 405, 420, 646, 767, 1074].filterMap (fun i => tables_1[i]?) := by decide +kernel
theorem nest_in {w : Cond} (hw : w ∈ nestW) : w ∈ lw_tbl := by
  rw [w_nest] at hw
  obtain ⟨i, -, hi⟩ := List.mem_filterMap.mp hw
  exact t1_lw hi
theorem cls_in : ∀ r ∈ cls, Cond.instantiable r.1 r.2.2 ∈ tb := by
  intro r hr
  simp only [cls, List.mem_cons, List.not_mem_nil, or_false] at hr
  rcases hr with rfl | rfl | rfl | rfl | rfl | rfl | rfl | rfl | rfl | rfl | rfl | rfl
  · exact il_X0
  · exact il_X1
  · exact il_X2
  · exact il_X3
  · exact il_X4
  · exact il_X5
  · exact il_X6
  · exact il_X7
  · exact il_X8
  · exact il_X9
  · exact il_X10
  · exact il_X11
section GIV
variable {s : State} {b : Nat}
theorem arr_prim {t : FieldType} (h : (Cond.arrayClass t).before #[Value.ref b] s = true) (ht : ∀ C, t ≠ .object C) : ∃ cA : ClassId, ArrOfT s cA t ∧ va_RA s cA t := by
  obtain ⟨c, k, comp, h1, h2, h3⟩ := Cond.arrayClass_spec h
  refine ⟨c, fun n z => ⟨fun k h => (by cases h), k, h2, comp, h3⟩, ?_⟩
  cases t with
  | object C => exact absurd rfl (ht C)
  | _ => exact h1
theorem arr_ex (hts : ∀ w ∈ lw_tbl, w.before #[Value.ref b] s = true) : ∀ t : Nat, ∃ cA : ClassId, ArrOfT s cA (tyA t) ∧ va_RA s cA (tyA t) := by
  intro t
  match t with
  | 0 => exact arr_prim (hts _ w_arrs.1) (fun C e => by cases e)
  | 1 => exact arr_prim (hts _ w_arrs.2.1) (fun C e => by cases e)
  | 2 => exact arr_prim (hts _ w_arrs.2.2.1) (fun C e => by cases e)
  | 3 => exact arr_prim (hts _ w_arrs.2.2.2.1) (fun C e => by cases e)
  | 4 =>
    obtain ⟨comp, c, k, h1, h2, h3, h4, h5⟩ := Cond.arrayOver_spec (hts _ w_arrs.2.2.2.2.1)
    exact ⟨c, fun n z => ⟨fun k h => (by cases h), k, h3, comp, h4⟩, k, comp, h3, h4, h1, h5⟩
  | t + 5 =>
    obtain ⟨cI, cA, kA, hcomp, -, hkA, hkindA, hnameA⟩ := arrayOverA_spec (hts _ w_arrs.2.2.2.2.2)
    exact ⟨cA, fun n z => ⟨fun k h => (by cases h), kA, hkA, cI, hkindA⟩, hnameA⟩
theorem kn_ex (hts : ∀ w ∈ lw_tbl, w.before #[Value.ref b] s = true) : ∀ k : Nat, ∃ q : ClassId × (Nat → Nat), ∀ r, cls[k]? = some r → u_Kn s r.1 r.2.1 r.2.2 q.1 q.2 := by
  intro k
  cases hr : cls[k]? with
  | none => exact ⟨(0, id), fun r e => nomatch e⟩
  | some r0 =>
    have hm := List.mem_of_getElem? hr
    obtain ⟨cC, iS, h⟩ := u_known (ws := tb) (C := r0.1) (T := r0.2.1) (N := r0.2.2) (n := r0.2.2) (fun w hw => hts w (tb_lw w hw)) (cls_ok _ hm).1 (hts _ (tb_lw _ (cls_in _ hm)))
    exact ⟨(cC, iS), fun r e => by cases e; exact h⟩
def mkR (z : Nat) (adK adV : Nat → Nat) (w : Nat) : Nat → Nat := fun i => if i < 295 then z + i else if i < 299 then adK (i - 295) else if i < 303 then adV (i - 299) else w
def mkA (aC : Nat → ClassId) : Nat → ClassId := fun a => match shL[a]? with
  | some (.inr (t, _, _)) => aC t
  | _ => aC 0
theorem mkR_0 {z w i : Nat} {adK adV : Nat → Nat} (hi : i < nN) : mkR z adK adV w i = z + i := if_pos hi
theorem mkR_K {z w i : Nat} {adK adV : Nat → Nat} (hi : i < 4) : mkR z adK adV w (nN + i) = adK i := by
  show (if 295 + i < 295 then _ else if 295 + i < 299 then adK (295 + i - 295) else _) = _
  rw [if_neg (by omega), if_pos (by omega), Nat.add_sub_cancel_left]
theorem mkR_V {z w i : Nat} {adK adV : Nat → Nat} (hi : i < 4) : mkR z adK adV w (nN + 4 + i) = adV i := by
  show (if 295 + 4 + i < 295 then _ else if 295 + 4 + i < 299 then _ else if 295 + 4 + i < 303 then adV (295 + 4 + i - 299) else _) = _
  rw [if_neg (by omega), if_neg (by omega), if_pos (by omega), show 295 + 4 + i - 299 = i by omega]
theorem mkR_8 {z w : Nat} {adK adV : Nat → Nat} : mkR z adK adV w (nN + 8) = w := rfl
set_option maxHeartbeats 4000000 in
theorem given_X (hts : ∀ w ∈ lw_tbl, w.before #[Value.ref b] s = true) (hgv : (Jvm.Cond.and given_1 narrow_1).before #[Value.ref b] s = true) : ∃ X : CX, (∀ i, i < nN → X.1 i = s.heap.size + i) ∧ wI X ∧ (∀ q, inR X q → s.heap.size ≤ q) ∧ wK X s ∧ wS X s s.heap ∧ wT X s s.heap ∧ wO s := by
  have hs : ∀ w ∈ gvF, w.before #[Value.ref b] s = true := flat_of_before _ hgv
  have hA : ∀ a : Nat, a < s.heap.size → ¬ lA s a := fun a h9 => Nat.not_le.mpr h9
  obtain ⟨adK, adV, hE, hEv⟩ := vk_Sof (args := #[Value.ref b]) (s := s) (A := lA s) (tm := tmS) (len := lenS) (byt := bytS) (N := 4)
    (fun i hi => by rcases (show i = 0 ∨ i = 1 ∨ i = 2 ∨ i = 3 by omega) with rfl | rfl | rfl | rfl <;> decide)
    (fun i hi => hs _ (wdS_in hi (List.mem_append_left _ (List.mem_of_getElem? (i := 0) rfl))))
    (fun i hi => hs _ (wdS_in hi (List.mem_append_left _ (List.mem_of_getElem? (i := 1) rfl))))
    (fun i hi => hs _ (wdS_in hi (List.mem_append_left _ (List.mem_of_getElem? (i := 2) rfl))))
    (fun i hi => hs _ (wdS_in hi (List.mem_append_left _ (List.mem_of_getElem? (i := 3) rfl))))
    (fun i hi j hj => hs _ (wdS_in hi (List.mem_append_right _ (List.mem_map.mpr ⟨j, List.mem_range.mpr hj, rfl⟩))))
    (fun i j hi hj hij => by
      rcases Nat.lt_or_gt_of_ne hij with q | q
      · exact Or.inl (hs _ (ne_in i j q hj))
      · exact Or.inr (hs _ (ne_in j i q hi))) hA
  have hq := va_Zqof (args := #[Value.ref b]) (A := lA s) (hts _ w_lays.2.1) (hts _ w_inis.2.1) (hs _ g_5) hA
  have hcs := va_Zof (args := #[Value.ref b]) (A := lA s) (hts _ w_lays.1) (hts _ w_inis.1) (va_eqi (hs _ g_4)) hA
  have hu := vx_Zqof (args := #[Value.ref b]) (A := lA s) (hts _ w_lays.2.2.1) (hts _ w_inis.2.2) (hs _ g_9) hA
  have hn := vx_Zqof (args := #[Value.ref b]) (A := lA s) (hts _ w_lays.2.2.2) (hts _ w_inis.2.2) (hs _ g_10) hA
  obtain ⟨w, hw⟩ : ∃ w : Nat, va_Z "jdk/internal/util/Preconditions" "SIOOBE_FORMATTER" "Ljava/util/function/BiFunction;" .null (lA s) s s.heap ∨ va_Z "jdk/internal/util/Preconditions" "SIOOBE_FORMATTER" "Ljava/util/function/BiFunction;" (.ref w) (lA s) s s.heap := by
    rcases hq with hq | ⟨t, hq⟩
    · exact ⟨0, Or.inl hq⟩
    · exact ⟨t, Or.inr hq⟩
  obtain ⟨aC, haC⟩ := Classical.axiomOfChoice (arr_ex hts)
  obtain ⟨kn, hkn⟩ := Classical.axiomOfChoice (kn_ex hts)
  have inA : ∀ q, inR (mkR s.heap.size adK adV w, (fun k => (kn k).1, fun k => (kn k).2), mkA aC) q → lA s q := by
    rintro q ⟨k, hk, rfl⟩
    show s.heap.size ≤ mkR s.heap.size adK adV w k
    rw [mkR_0 hk]
    omega
  refine ⟨(mkR s.heap.size adK adV w, (fun k => (kn k).1, fun k => (kn k).2), mkA aC), fun i hi => mkR_0 hi, ?_, inA, ⟨⟨fun k r hr => hkn k r hr, fun k q hk => nomatch hk⟩, ?_, ?_⟩, ⟨?_, ?_, va_Z.narrow hcs inA, ?_⟩, ⟨vx_Zq.narrow hu inA, vx_Zq.narrow hn inA, va_Nw.of rfl (hts _ w_cast.1), va_Nw.of rfl (hts _ w_cast.2), va_Nc.of (hs _ g_23), va_Nw.of rfl (hts _ w_decl.1), va_Nw.of rfl (hts _ w_decl.2.1), va_Nw.of rfl (hts _ w_decl.2.2)⟩, va_AO.of (hts _ w_arrs.2.2.2.2.1), hts _ w_arrs.2.2.2.2.2⟩
  · intro i j hi hj e
    have e' : mkR s.heap.size adK adV w i = mkR s.heap.size adK adV w j := e
    rw [mkR_0 hi, mkR_0 hj] at e'
    omega
  · intro a t n m hsh
    have e : mkA aC a = aC t := by
      unfold mkA
      rw [hsh]
    show ArrOfT s (mkA aC a) (tyA t) ∧ va_RA s (mkA aC a) (tyA t)
    rw [e]
    exact haC t
  · intro w9 hw9
    exact va_Nw.of (nest_on w9 hw9) (hts _ (nest_in hw9))
  · refine vk_S.narrow (A := lA s) ⟨fun i hi => ?_, fun i j hi hj e => ?_⟩ inA
    · show va_O "java/lang/String" (mkR s.heap.size adK adV w (nN + i)) _ _ _ ∧ va_OF _ _ _ _ (mkR s.heap.size adK adV w (nN + i)) _ _ _ ∧ va_OF _ _ _ (.ref (mkR s.heap.size adK adV w (nN + 4 + i))) (mkR s.heap.size adK adV w (nN + i)) _ _ _ ∧ va_T _ (mkR s.heap.size adK adV w (nN + 4 + i)) _ _ _ _ _
      rw [mkR_K hi, mkR_V hi]
      exact hE.1 i hi
    · have e' : mkR s.heap.size adK adV w (nN + i) = mkR s.heap.size adK adV w (nN + j) := e
      rw [mkR_K hi, mkR_K hj] at e'
      exact hE.2 i j hi hj e'
  · intro i q hq9
    show vk_R q.1 q.2.1 q.2.2 (mkR s.heap.size adK adV w (nN + i)) s
    have hi : i < 4 := (List.getElem?_eq_some_iff.mp hq9).1
    rw [mkR_K hi]
    rcases (show i = 0 ∨ i = 1 ∨ i = 2 ∨ i = 3 by omega) with rfl | rfl | rfl | rfl <;> cases hq9
    · exact vk_R.of (hts _ w_refs.1) (hEv 0 (by decide))
    · exact vk_R.of (hts _ w_refs.2.1) (hEv 1 (by decide))
    · exact vk_R.of (hts _ w_refs.2.2.1) (hEv 2 (by decide))
    · exact vk_R.of (hts _ w_refs.2.2.2) (hEv 3 (by decide))
  · show va_Z _ _ _ .null _ _ _ ∨ va_Z _ _ _ (.ref (mkR s.heap.size adK adV w (nN + 8))) _ _ _
    rw [mkR_8]
    rcases hw with hw | hw
    · exact Or.inl (va_Z.narrow hw inA)
    · exact Or.inr (va_Z.narrow hw inA)
end GIV
