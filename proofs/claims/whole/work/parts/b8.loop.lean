/-! the law's loop -/
theorem t_sw : ∃ L9, decode code 40 = .ok (.tableswitch 1710 0 40 #[180, 253, 278, 303, 328, 396, 433, 470, 495, 544, 581, 618, 643, 693, 730, 767, 804, 829, 878, 915, 940, 977, 1002, 1039, 1088, 1137, 1162, 1175, 1224, 1285, 1323, 1400, 1425, 1450, 1487, 1536, 1597, 1646, 1659, 1672, 1685], L9) := ⟨180, by decide +kernel⟩
theorem and63 (x : Int32) : ∃ k : Nat, k < 64 ∧ x &&& 63 = nI k := by
  refine ⟨(x &&& 63).toBitVec.toNat, ?_, ?_⟩
  · rw [Int32.toBitVec_and, BitVec.toNat_and]
    have : (x.toBitVec.toNat &&& (63 : Int32).toBitVec.toNat) ≤ (63 : Int32).toBitVec.toNat := Nat.and_le_right
    have e : (63 : Int32).toBitVec.toNat = 63 := by decide
    omega
  · apply Int32.toBitVec_inj.mp
    show _ = BitVec.ofNat 32 _
    rw [BitVec.ofNat_toNat]
    simp
section LXL
variable {p : Program} {l : Launch} {e : Env} {s : State} {m : MethodId} {below : List Frame} {meth : Method} {c : Code} {b L o : Nat} {xs : Nat → Int32} {X : CX} {cA : ClassId} {cells slots j : Nat} {h : HH} {f : Nat → Int64}
def lw_Q (_ : Array Value) (s : State) (o : Outcome) (t : State) : Prop := o = .returned (some (.int 1)) ∧ Framed s o t [] 601024 7293034
def lw_Z (below : List Frame) (a : Array Value) (s : State) : State → Prop := fun t => ∃ o, t.status = .running ∧ Ended t below o ∧ lw_Q a s o t
end LXL
/-- the law's own end, with 1 on the stack, nothing written that was there before, its room as the claim has it -/
theorem lw_ret {p : Program} {l : Launch} {e : Env} {s : State} {m : MethodId} {below : List Frame} {meth : Method} {c : Code} {b : Nat} (hx : p.tables.exec = Jvm.exec) (hb : c.code = code) (hr : meth.sig.returnType = ret) (hlocks : meth.locks = false) {pc : Nat} {H : Heap} {ls : Array Slot} (hdg : decode code pc = .ok (.ireturn, 1)) : W p l e room_1 s m #[Value.ref b] below meth c H [] 601024 7293034 (lw_Z below #[Value.ref b] s) (F0 m pc ls [.int 1]) := by
  intro T hT X
  obtain ⟨fs, hret, hrun, hended, hW, hframe⟩ := X.leave (v := some (.int 1)) (hlocks := hlocks) (fun h => by rw [hr] at h; cases h)
  have hmeth' : T.vm.method? m = some meth := X.method'
  refine ⟨T.setFrames fs, ?_, .returned (some (.int 1)), hrun, hended, rfl, ⟨_, rfl⟩, hW, hframe⟩
  jvm_step X.here [X.here.top, hx, hb, hdg, hmeth', hr, ret, narrow_b1]
  (try refine ⟨rfl, ?_⟩); (try refine ⟨rfl, ?_⟩)
  first | (intro acts; rw [hret _ acts rfl rfl rfl]) | rw [hret _ _ rfl rfl rfl]
  exact Steps.refl _
section LXL2
variable {p : Program} {l : Launch} {e : Env} {s : State} {m : MethodId} {below : List Frame} {meth : Method} {c : Code} {b L o : Nat} {xs : Nat → Int32} {X : CX} {cA : ClassId} {cells slots j : Nat} {h : HH} {f : Nat → Int64}
/-- the law's own end -/
theorem lx_end (C : LC p l s m meth c b L xs X o cA) {lc : List (Nat × Value)} (hcs : cells ≤ 601024 ∧ slots ≤ 7293034) : Lx p l e s m below meth c b X o cA (lw_Z below #[Value.ref b] s) cells slots 1756 lc [] h f := by
  intro H locs ls hP ho hS hl
  refine lv_iconst (n := 1) (v := 1) C.1.1 C.1.2.1 (by decide +kernel) (by decide) ?_
  refine va_forget hS.2.2 ?_
  refine W.widen hcs.1 hcs.2 ?_
  exact lw_ret C.1.1 C.1.2.1 C.1.2.2.1 C.1.2.2.2.2.2.2.2.2.1 (by decide +kernel)
set_option maxHeartbeats 4000000 in
set_option maxRecDepth 100000 in
theorem lx_cases {Q : State → Prop} (C : LC p l s m meth c b L xs X o cA) (hj : 6 * j + 6 ≤ L) (hcs : cells + 1 ≤ 601024 ∧ slots + 6 ≤ 7293034) (hR : Rel h) (kk : LK p l e s m below meth c b X o cA Q cells slots j) {x : Int32} {k : Nat} (hk : k < 64) (hx : x = nI k) : Lx p l e s m below meth c b X o cA Q cells slots 40 (LCl b o X j) [.int x] h f := by
  intro H locs ls hP ho hS hl
  obtain ⟨L9, hd⟩ := t_sw
  subst hx
  by_cases q : k ≤ 40
  · rcases (show k = 0 ∨ k = 1 ∨ k = 2 ∨ k = 3 ∨ k = 4 ∨ k = 5 ∨ k = 6 ∨ k = 7 ∨ k = 8 ∨ k = 9 ∨ k = 10 ∨ k = 11 ∨ k = 12 ∨ k = 13 ∨ k = 14 ∨ k = 15 ∨ k = 16 ∨ k = 17 ∨ k = 18 ∨ k = 19 ∨ k = 20 ∨ k = 21 ∨ k = 22 ∨ k = 23 ∨ k = 24 ∨ k = 25 ∨ k = 26 ∨ k = 27 ∨ k = 28 ∨ k = 29 ∨ k = 30 ∨ k = 31 ∨ k = 32 ∨ k = 33 ∨ k = 34 ∨ k = 35 ∨ k = 36 ∨ k = 37 ∨ k = 38 ∨ k = 39 ∨ k = 40 by omega) with rfl | rfl | rfl | rfl | rfl | rfl | rfl | rfl | rfl | rfl | rfl | rfl | rfl | rfl | rfl | rfl | rfl | rfl | rfl | rfl | rfl | rfl | rfl | rfl | rfl | rfl | rfl | rfl | rfl | rfl | rfl | rfl | rfl | rfl | rfl | rfl | rfl | rfl | rfl | rfl | rfl
    · exact lv_tableIn (off := 180) (tgt := 220) C.1.1 C.1.2.1 hd (by decide) (by decide) (by decide) (by decide) (lc_0 C hj hcs hR kk H locs ls hP ho hS hl)
    · exact lv_tableIn (off := 253) (tgt := 293) C.1.1 C.1.2.1 hd (by decide) (by decide) (by decide) (by decide) (lc_1 C hj hcs hR kk H locs ls hP ho hS hl)
    · exact lv_tableIn (off := 278) (tgt := 318) C.1.1 C.1.2.1 hd (by decide) (by decide) (by decide) (by decide) (lc_2 C hj hcs hR kk H locs ls hP ho hS hl)
    · exact lv_tableIn (off := 303) (tgt := 343) C.1.1 C.1.2.1 hd (by decide) (by decide) (by decide) (by decide) (lc_3 C hj hcs hR kk H locs ls hP ho hS hl)
    · exact lv_tableIn (off := 328) (tgt := 368) C.1.1 C.1.2.1 hd (by decide) (by decide) (by decide) (by decide) (lc_4 C hj hcs hR kk H locs ls hP ho hS hl)
    · exact lv_tableIn (off := 396) (tgt := 436) C.1.1 C.1.2.1 hd (by decide) (by decide) (by decide) (by decide) (lc_5 C hj hcs hR kk H locs ls hP ho hS hl)
    · exact lv_tableIn (off := 433) (tgt := 473) C.1.1 C.1.2.1 hd (by decide) (by decide) (by decide) (by decide) (lc_6 C hj hcs hR kk H locs ls hP ho hS hl)
    · exact lv_tableIn (off := 470) (tgt := 510) C.1.1 C.1.2.1 hd (by decide) (by decide) (by decide) (by decide) (lc_7 C hj hcs hR kk H locs ls hP ho hS hl)
    · exact lv_tableIn (off := 495) (tgt := 535) C.1.1 C.1.2.1 hd (by decide) (by decide) (by decide) (by decide) (lc_8 C hj hcs hR kk H locs ls hP ho hS hl)
    · exact lv_tableIn (off := 544) (tgt := 584) C.1.1 C.1.2.1 hd (by decide) (by decide) (by decide) (by decide) (lc_9 C hj hcs hR kk H locs ls hP ho hS hl)
    · exact lv_tableIn (off := 581) (tgt := 621) C.1.1 C.1.2.1 hd (by decide) (by decide) (by decide) (by decide) (lc_10 C hj hcs hR kk H locs ls hP ho hS hl)
    · exact lv_tableIn (off := 618) (tgt := 658) C.1.1 C.1.2.1 hd (by decide) (by decide) (by decide) (by decide) (lc_11 C hj hcs hR kk H locs ls hP ho hS hl)
    · exact lv_tableIn (off := 643) (tgt := 683) C.1.1 C.1.2.1 hd (by decide) (by decide) (by decide) (by decide) (lc_12 C hj hcs hR kk H locs ls hP ho hS hl)
    · exact lv_tableIn (off := 693) (tgt := 733) C.1.1 C.1.2.1 hd (by decide) (by decide) (by decide) (by decide) (lc_13 C hj hcs hR kk H locs ls hP ho hS hl)
    · exact lv_tableIn (off := 730) (tgt := 770) C.1.1 C.1.2.1 hd (by decide) (by decide) (by decide) (by decide) (lc_14 C hj hcs hR kk H locs ls hP ho hS hl)
    · exact lv_tableIn (off := 767) (tgt := 807) C.1.1 C.1.2.1 hd (by decide) (by decide) (by decide) (by decide) (lc_15 C hj hcs hR kk H locs ls hP ho hS hl)
    · exact lv_tableIn (off := 804) (tgt := 844) C.1.1 C.1.2.1 hd (by decide) (by decide) (by decide) (by decide) (lc_16 C hj hcs hR kk H locs ls hP ho hS hl)
    · exact lv_tableIn (off := 829) (tgt := 869) C.1.1 C.1.2.1 hd (by decide) (by decide) (by decide) (by decide) (lc_17 C hj hcs hR kk H locs ls hP ho hS hl)
    · exact lv_tableIn (off := 878) (tgt := 918) C.1.1 C.1.2.1 hd (by decide) (by decide) (by decide) (by decide) (lc_18 C hj hcs hR kk H locs ls hP ho hS hl)
    · exact lv_tableIn (off := 915) (tgt := 955) C.1.1 C.1.2.1 hd (by decide) (by decide) (by decide) (by decide) (lc_19 C hj hcs hR kk H locs ls hP ho hS hl)
    · exact lv_tableIn (off := 940) (tgt := 980) C.1.1 C.1.2.1 hd (by decide) (by decide) (by decide) (by decide) (lc_20 C hj hcs hR kk H locs ls hP ho hS hl)
    · exact lv_tableIn (off := 977) (tgt := 1017) C.1.1 C.1.2.1 hd (by decide) (by decide) (by decide) (by decide) (lc_21 C hj hcs hR kk H locs ls hP ho hS hl)
    · exact lv_tableIn (off := 1002) (tgt := 1042) C.1.1 C.1.2.1 hd (by decide) (by decide) (by decide) (by decide) (lc_22 C hj hcs hR kk H locs ls hP ho hS hl)
    · exact lv_tableIn (off := 1039) (tgt := 1079) C.1.1 C.1.2.1 hd (by decide) (by decide) (by decide) (by decide) (lc_23 C hj hcs hR kk H locs ls hP ho hS hl)
    · exact lv_tableIn (off := 1088) (tgt := 1128) C.1.1 C.1.2.1 hd (by decide) (by decide) (by decide) (by decide) (lc_24 C hj hcs hR kk H locs ls hP ho hS hl)
    · exact lv_tableIn (off := 1137) (tgt := 1177) C.1.1 C.1.2.1 hd (by decide) (by decide) (by decide) (by decide) (lc_25 C hj hcs hR kk H locs ls hP ho hS hl)
    · exact lv_tableIn (off := 1162) (tgt := 1202) C.1.1 C.1.2.1 hd (by decide) (by decide) (by decide) (by decide) (lc_26 C hj hcs hR kk H locs ls hP ho hS hl)
    · exact lv_tableIn (off := 1175) (tgt := 1215) C.1.1 C.1.2.1 hd (by decide) (by decide) (by decide) (by decide) (lc_27 C hj hcs hR kk H locs ls hP ho hS hl)
    · exact lv_tableIn (off := 1224) (tgt := 1264) C.1.1 C.1.2.1 hd (by decide) (by decide) (by decide) (by decide) (lc_28 C hj hcs hR kk H locs ls hP ho hS hl)
    · exact lv_tableIn (off := 1285) (tgt := 1325) C.1.1 C.1.2.1 hd (by decide) (by decide) (by decide) (by decide) (lc_29 C hj hcs hR kk H locs ls hP ho hS hl)
    · exact lv_tableIn (off := 1323) (tgt := 1363) C.1.1 C.1.2.1 hd (by decide) (by decide) (by decide) (by decide) (lc_30 C hj hcs hR kk H locs ls hP ho hS hl)
    · exact lv_tableIn (off := 1400) (tgt := 1440) C.1.1 C.1.2.1 hd (by decide) (by decide) (by decide) (by decide) (lc_31 C hj hcs hR kk H locs ls hP ho hS hl)
    · exact lv_tableIn (off := 1425) (tgt := 1465) C.1.1 C.1.2.1 hd (by decide) (by decide) (by decide) (by decide) (lc_32 C hj hcs hR kk H locs ls hP ho hS hl)
    · exact lv_tableIn (off := 1450) (tgt := 1490) C.1.1 C.1.2.1 hd (by decide) (by decide) (by decide) (by decide) (lc_33 C hj hcs hR kk H locs ls hP ho hS hl)
    · exact lv_tableIn (off := 1487) (tgt := 1527) C.1.1 C.1.2.1 hd (by decide) (by decide) (by decide) (by decide) (lc_34 C hj hcs hR kk H locs ls hP ho hS hl)
    · exact lv_tableIn (off := 1536) (tgt := 1576) C.1.1 C.1.2.1 hd (by decide) (by decide) (by decide) (by decide) (lc_35 C hj hcs hR kk H locs ls hP ho hS hl)
    · exact lv_tableIn (off := 1597) (tgt := 1637) C.1.1 C.1.2.1 hd (by decide) (by decide) (by decide) (by decide) (lc_36 C hj hcs hR kk H locs ls hP ho hS hl)
    · exact lv_tableIn (off := 1646) (tgt := 1686) C.1.1 C.1.2.1 hd (by decide) (by decide) (by decide) (by decide) (lc_37 C hj hcs hR kk H locs ls hP ho hS hl)
    · exact lv_tableIn (off := 1659) (tgt := 1699) C.1.1 C.1.2.1 hd (by decide) (by decide) (by decide) (by decide) (lc_38 C hj hcs hR kk H locs ls hP ho hS hl)
    · exact lv_tableIn (off := 1672) (tgt := 1712) C.1.1 C.1.2.1 hd (by decide) (by decide) (by decide) (by decide) (lc_39 C hj hcs hR kk H locs ls hP ho hS hl)
    · exact lv_tableIn (off := 1685) (tgt := 1725) C.1.1 C.1.2.1 hd (by decide) (by decide) (by decide) (by decide) (lc_40 C hj hcs hR kk H locs ls hP ho hS hl)
  · refine lv_tableOut (tgt := 1750) C.1.1 C.1.2.1 hd (Or.inr (by rw [nI_toInt (by omega)]; omega)) (by decide) ?_
    exact lx_wide (Nat.le_succ cells) (Nat.le_add_right slots 6) (kk h f hR) H locs ls hP ho hS hl
theorem lx_turn {Q : State → Prop} (C : LC p l s m meth c b L xs X o cA) (kk : Lx p l e s m below meth c b X o cA Q cells slots 23 (LCl b o X (j + 1)) [] h f) : Lx p l e s m below meth c b X o cA Q cells slots 1750 (LCl b o X j) [] h f := by
  intro H locs ls hP ho hS hl
  refine lv_iinc (n := 6) (v := nI (6 * (j + 1))) (lv' := [(4, .int (nI (6 * (j + 1)))), (0, .ref b), (1, .ref (X.1 0)), (2, .ref (X.1 255)), (3, .ref o)]) C.1.1 C.1.2.1 (by decide +kernel) hl (k := 4) rfl (by rw [show Int32.ofInt 6 = nI 6 by decide, nI_add]; rfl) (by decide) rfl (fun ls hl => ?_)
  refine lv_goto (off := -1730) (tgt := 23) C.1.1 C.1.2.1 (by decide +kernel) (by decide) ?_
  exact kk H locs ls hP ho hS (lv_sub hl [1, 2, 3, 4, 0] rfl)
theorem len_sub {L j : Nat} (hL : L ≤ 3072) (hj : 6 * j ≤ L) : (Int32.ofNat L - 6 < nI (6 * j)) ↔ ¬ 6 * j + 6 ≤ L := by
  by_cases q : 6 ≤ L
  · obtain ⟨d, rfl⟩ : ∃ d, L = d + 6 := ⟨L - 6, by omega⟩
    have e : Int32.ofNat (d + 6) - 6 = nI d := nI_sub d 6
    rw [e, nI_ltI (by omega) (by omega)]
    omega
  · obtain rfl : j = 0 := by omega
    refine ⟨fun _ => by omega, fun _ => ?_⟩
    rcases (show L = 0 ∨ L = 1 ∨ L = 2 ∨ L = 3 ∨ L = 4 ∨ L = 5 by omega) with rfl | rfl | rfl | rfl | rfl | rfl <;> decide
set_option maxHeartbeats 4000000 in
theorem lx_loop (C : LC p l s m meth c b L xs X o cA) (c0 s0 : Nat) (hc0 : c0 ≤ 1000) (hs0 : s0 ≤ 20000) : ∀ (n j : Nat) (h : HH) (f : Nat → Int64), L < 6 * j + n → 6 * j ≤ L → Rel h → Lx p l e s m below meth c b X o cA (lw_Z below #[Value.ref b] s) (c0 + j) (s0 + 6 * j) 23 (LCl b o X j) [] h f := by
  have hL : L ≤ 3072 := C.2.2.1
  intro n
  induction n with
  | zero => intro j h f h1 h2; omega
  | succ n ih =>
    intro j h f h1 h2 hR H locs ls hP ho hS hl
    have hX := C.1.2.2.2.2.2.2.1
    have hbl := C.1.2.2.2.2.2.2.2.1
    have hcs : c0 + j + 1 ≤ 601024 ∧ s0 + 6 * j + 6 ≤ 7293034 := ⟨by omega, by omega⟩
    refine lv_iload C.1.1 C.1.2.1 (i := 4) (by decide +kernel) (lv_at hl 4 rfl) ?_
    refine lv_aload_n (k := 0) C.1.1 C.1.2.1 (by decide +kernel) rfl (lv_at hl 0 rfl) ?_
    refine va_slen C.1.1 C.1.2.1 hX hbl (Nat.not_le.mpr hbl : ¬ lA s b) hS (by decide +kernel) ?_
    refine lv_bipush (n := 6) (v := 6) C.1.1 C.1.2.1 (by decide +kernel) (by decide) ?_
    refine lv_isub C.1.1 C.1.2.1 (by decide +kernel) ?_
    refine lv_icmp_gt (off := 1726) (tgt := 1756) C.1.1 C.1.2.1 (by decide +kernel) (by decide) (fun _ => ?_) (fun hc => ?_)
    · exact lx_end C ⟨by omega, by omega⟩ H locs ls hP ho hS hl
    · have hj : 6 * j + 6 ≤ L := Classical.byContradiction fun q => hc ((len_sub hL h2).mpr q)
      refine lv_aload_n (k := 0) C.1.1 C.1.2.1 (by decide +kernel) rfl (lv_at hl 0 rfl) ?_
      refine lv_iload C.1.1 C.1.2.1 (i := 4) (by decide +kernel) (lv_at hl 4 rfl) ?_
      refine va_sld C.1.1 C.1.2.1 hX hbl (Nat.not_le.mpr hbl : ¬ lA s b) hS (vp_in_nI (by omega) (by omega)) (by decide +kernel) ?_
      refine lv_bipush (n := 63) (v := 63) C.1.1 C.1.2.1 (by decide +kernel) (by decide) ?_
      refine lv_iand C.1.1 C.1.2.1 (by decide +kernel) ?_
      obtain ⟨k, hk, ek⟩ := and63 (xs (nI (6 * j)).toNatClampNeg)
      refine lx_cases C hj hcs hR (fun h2 f2 hR2 => lx_turn C ?_) hk ek H locs ls hP ho hS hl
      have := ih (j + 1) h2 f2 (by omega) (by omega) hR2
      rw [show c0 + (j + 1) = c0 + j + 1 by omega, show s0 + 6 * (j + 1) = s0 + 6 * j + 6 by omega] at this
      exact this
end LXL2
