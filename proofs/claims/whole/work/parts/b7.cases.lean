/-! the law's body: a case each, by program -/
section LXD
variable {p : Program} {l : Launch} {e : Env} {s : State} {m : MethodId} {below : List Frame} {meth : Method} {c : Code} {b L o : Nat} {xs : Nat → Int32} {X : CX} {cA : ClassId} {Q : State → Prop} {cells slots j : Nat} {h : HH} {f : Nat → Int64}
theorem d_law_0 : dI 220 5 21 25 1462 := ⟨by decide +kernel, dAs_of (by decide +kernel), by decide +kernel, by decide +kernel, dAs_of (by decide +kernel), by decide +kernel⟩
theorem lc_0 (C : LC p l s m meth c b L xs X o cA) (hj : 6 * j + 6 ≤ L) (hcs : cells + 1 ≤ 601024 ∧ slots + 6 ≤ 7293034) (hR : Rel h) (kk : LK p l e s m below meth c b X o cA Q cells slots j) : Lx p l e s m below meth c b X o cA Q cells slots 220 (LCl b o X j) [] h f := by
  refine lx_wide (Nat.le_succ cells) (Nat.le_add_right slots 6) ?_
  refine lx_two (inj := iI) (dC := 300) (dM := 300) [.int (xs (6 * j + 1)), .int (xs (6 * j + 2)), .int (xs (6 * j + 3)), .int (xs (6 * j + 4)), .int (xs (6 * j + 5))] C hj (by decide) rfl mv_X10_feed (tb_in 476 (by decide +kernel) (by decide +kernel)) (fun h => sp_X10_feed 300 (by decide) _ _ _ _ _ h) (by decide) mv_X11_feed (tb_in 1404 (by decide +kernel) (by decide +kernel)) (fun h => sp_X11_feed 300 (by decide) _ _ _ _ _ h) (by decide) d_law_0 (fun _ => (show 1 + 0 ≤ 8 by decide)) hcs (c_feed _ _ _ _ _) hR (fun v h2 hR2 => ?_)
  refine lx_st (st' := [.int v, .int v]) rfl ?_
  exact lx_eq C (off := 1462) (t := 1750) (by decide +kernel) (by decide) (kk h2 f hR2)
theorem d_law_1 : dI 293 1 26 30 1437 := ⟨by decide +kernel, dAs_of (by decide +kernel), by decide +kernel, by decide +kernel, dAs_of (by decide +kernel), by decide +kernel⟩
theorem lc_1 (C : LC p l s m meth c b L xs X o cA) (hj : 6 * j + 6 ≤ L) (hcs : cells + 1 ≤ 601024 ∧ slots + 6 ≤ 7293034) (hR : Rel h) (kk : LK p l e s m below meth c b X o cA Q cells slots j) : Lx p l e s m below meth c b X o cA Q cells slots 293 (LCl b o X j) [] h f := by
  refine lx_wide (Nat.le_succ cells) (Nat.le_add_right slots 6) ?_
  refine lx_two (inj := iI) (dC := 300) (dM := 300) [.int (xs (6 * j + 1))] C hj (by decide) rfl mv_X10_text (tb_in 484 (by decide +kernel) (by decide +kernel)) (fun h => sp_X10_text 300 (by decide) _ h) (by decide) mv_X11_text (tb_in 1408 (by decide +kernel) (by decide +kernel)) (fun h => sp_X11_text 300 (by decide) _ h) (by decide) d_law_1 (fun _ => (show 1 + 0 ≤ 8 by decide)) hcs (c_text _) hR (fun v h2 hR2 => ?_)
  refine lx_st (st' := [.int v, .int v]) rfl ?_
  exact lx_eq C (off := 1437) (t := 1750) (by decide +kernel) (by decide) (kk h2 f hR2)
theorem d_law_2 : dI 318 1 31 34 1412 := ⟨by decide +kernel, dAs_of (by decide +kernel), by decide +kernel, by decide +kernel, dAs_of (by decide +kernel), by decide +kernel⟩
theorem lc_2 (C : LC p l s m meth c b L xs X o cA) (hj : 6 * j + 6 ≤ L) (hcs : cells + 1 ≤ 601024 ∧ slots + 6 ≤ 7293034) (hR : Rel h) (kk : LK p l e s m below meth c b X o cA Q cells slots j) : Lx p l e s m below meth c b X o cA Q cells slots 318 (LCl b o X j) [] h f := by
  refine lx_wide (Nat.le_succ cells) (Nat.le_add_right slots 6) ?_
  refine lx_two (inj := iI) (dC := 300) (dM := 300) [.int (xs (6 * j + 1))] C hj (by decide) rfl mv_X10_fault (tb_in 724 (by decide +kernel) (by decide +kernel)) (fun h => sp_X10_fault 300 (by decide) _ h) (by decide) mv_X11_fault (tb_in 1544 (by decide +kernel) (by decide +kernel)) (fun h => sp_X11_fault 300 (by decide) _ h) (by decide) d_law_2 (fun _ => (show 1 + 0 ≤ 8 by decide)) hcs (c_fault _) hR (fun v h2 hR2 => ?_)
  refine lx_st (st' := [.int v, .int v]) rfl ?_
  exact lx_eq C (off := 1412) (t := 1750) (by decide +kernel) (by decide) (kk h2 f hR2)
theorem d_law_3 : dI 343 1 35 38 1387 := ⟨by decide +kernel, dAs_of (by decide +kernel), by decide +kernel, by decide +kernel, dAs_of (by decide +kernel), by decide +kernel⟩
theorem lc_3 (C : LC p l s m meth c b L xs X o cA) (hj : 6 * j + 6 ≤ L) (hcs : cells + 1 ≤ 601024 ∧ slots + 6 ≤ 7293034) (hR : Rel h) (kk : LK p l e s m below meth c b X o cA Q cells slots j) : Lx p l e s m below meth c b X o cA Q cells slots 343 (LCl b o X j) [] h f := by
  refine lx_wide (Nat.le_succ cells) (Nat.le_add_right slots 6) ?_
  refine lx_two (inj := iI) (dC := 300) (dM := 300) [.int (xs (6 * j + 1))] C hj (by decide) rfl mv_X10_named (tb_in 728 (by decide +kernel) (by decide +kernel)) (fun h => sp_X10_named 300 (by decide) _ h) (by decide) mv_X11_named (tb_in 1548 (by decide +kernel) (by decide +kernel)) (fun h => sp_X11_named 300 (by decide) _ h) (by decide) d_law_3 (fun _ => (show 1 + 0 ≤ 8 by decide)) hcs (c_named _) hR (fun v h2 hR2 => ?_)
  refine lx_st (st' := [.int v, .int v]) rfl ?_
  exact lx_eq C (off := 1387) (t := 1750) (by decide +kernel) (by decide) (kk h2 f hR2)
theorem d_law_5 : dI 436 2 49 52 1282 := ⟨by decide +kernel, dAs_of (by decide +kernel), by decide +kernel, by decide +kernel, dAs_of (by decide +kernel), by decide +kernel⟩
theorem lc_5 (C : LC p l s m meth c b L xs X o cA) (hj : 6 * j + 6 ≤ L) (hcs : cells + 1 ≤ 601024 ∧ slots + 6 ≤ 7293034) (hR : Rel h) (kk : LK p l e s m below meth c b X o cA Q cells slots j) : Lx p l e s m below meth c b X o cA Q cells slots 436 (LCl b o X j) [] h f := by
  refine lx_wide (Nat.le_succ cells) (Nat.le_add_right slots 6) ?_
  refine lx_two (inj := iI) (dC := 300) (dM := 300) [.int (xs (6 * j + 1)), .int (xs (6 * j + 2))] C hj (by decide) rfl mv_X10_tally (tb_in 733 (by decide +kernel) (by decide +kernel)) (fun h => sp_X10_tally 300 (by decide) _ _ h) (by decide) mv_X11_tally (tb_in 1560 (by decide +kernel) (by decide +kernel)) (fun h => sp_X11_tally 300 (by decide) _ _ h) (by decide) d_law_5 (fun _ => (show 1 + 0 ≤ 8 by decide)) hcs (c_tally _ _) hR (fun v h2 hR2 => ?_)
  refine lx_st (st' := [.int v, .int v]) rfl ?_
  exact lx_eq C (off := 1282) (t := 1750) (by decide +kernel) (by decide) (kk h2 f hR2)
theorem d_law_6 : dI 473 2 53 56 1245 := ⟨by decide +kernel, dAs_of (by decide +kernel), by decide +kernel, by decide +kernel, dAs_of (by decide +kernel), by decide +kernel⟩
theorem lc_6 (C : LC p l s m meth c b L xs X o cA) (hj : 6 * j + 6 ≤ L) (hcs : cells + 1 ≤ 601024 ∧ slots + 6 ≤ 7293034) (hR : Rel h) (kk : LK p l e s m below meth c b X o cA Q cells slots j) : Lx p l e s m below meth c b X o cA Q cells slots 473 (LCl b o X j) [] h f := by
  refine lx_wide (Nat.le_succ cells) (Nat.le_add_right slots 6) ?_
  refine lx_two (inj := iI) (dC := 300) (dM := 300) [.int (xs (6 * j + 1)), .int (xs (6 * j + 2))] C hj (by decide) rfl mv_X10_steep (tb_in 747 (by decide +kernel) (by decide +kernel)) (fun h => sp_X10_steep 300 (by decide) _ _ h) (by decide) mv_X11_steep (tb_in 1577 (by decide +kernel) (by decide +kernel)) (fun h => sp_X11_steep 300 (by decide) _ _ h) (by decide) d_law_6 (fun _ => (show 1 + 0 ≤ 8 by decide)) hcs (c_steep _ _) hR (fun v h2 hR2 => ?_)
  refine lx_st (st' := [.int v, .int v]) rfl ?_
  exact lx_eq C (off := 1245) (t := 1750) (by decide +kernel) (by decide) (kk h2 f hR2)
theorem d_law_7 : dI 510 1 57 60 1220 := ⟨by decide +kernel, dAs_of (by decide +kernel), by decide +kernel, by decide +kernel, dAs_of (by decide +kernel), by decide +kernel⟩
theorem lc_7 (C : LC p l s m meth c b L xs X o cA) (hj : 6 * j + 6 ≤ L) (hcs : cells + 1 ≤ 601024 ∧ slots + 6 ≤ 7293034) (hR : Rel h) (kk : LK p l e s m below meth c b X o cA Q cells slots j) : Lx p l e s m below meth c b X o cA Q cells slots 510 (LCl b o X j) [] h f := by
  refine lx_wide (Nat.le_succ cells) (Nat.le_add_right slots 6) ?_
  refine lx_two (inj := iI) (dC := 300) (dM := 300) [.int (xs (6 * j + 1))] C hj (by decide) rfl mv_X10_entry (tb_in 786 (by decide +kernel) (by decide +kernel)) (fun h => sp_X10_entry 300 (by decide) _ h) (by decide) mv_X11_entry (tb_in 1627 (by decide +kernel) (by decide +kernel)) (fun h => sp_X11_entry 300 (by decide) _ h) (by decide) d_law_7 (fun _ => (show 1 + 0 ≤ 8 by decide)) hcs (c_entry _) hR (fun v h2 hR2 => ?_)
  refine lx_st (st' := [.int v, .int v]) rfl ?_
  exact lx_eq C (off := 1220) (t := 1750) (by decide +kernel) (by decide) (kk h2 f hR2)
theorem d_law_8 : dI 535 3 61 65 1171 := ⟨by decide +kernel, dAs_of (by decide +kernel), by decide +kernel, by decide +kernel, dAs_of (by decide +kernel), by decide +kernel⟩
theorem lc_8 (C : LC p l s m meth c b L xs X o cA) (hj : 6 * j + 6 ≤ L) (hcs : cells + 1 ≤ 601024 ∧ slots + 6 ≤ 7293034) (hR : Rel h) (kk : LK p l e s m below meth c b X o cA Q cells slots j) : Lx p l e s m below meth c b X o cA Q cells slots 535 (LCl b o X j) [] h f := by
  refine lx_wide (Nat.le_succ cells) (Nat.le_add_right slots 6) ?_
  refine lx_two (inj := iI) (dC := 300) (dM := 300) [.int (xs (6 * j + 1)), .int (xs (6 * j + 2)), .int (xs (6 * j + 3))] C hj (by decide) rfl mv_X10_beside (tb_in 793 (by decide +kernel) (by decide +kernel)) (fun h => sp_X10_beside 300 (by decide) _ _ _ h) (by decide) mv_X11_beside (tb_in 1634 (by decide +kernel) (by decide +kernel)) (fun h => sp_X11_beside 300 (by decide) _ _ _ h) (by decide) d_law_8 (fun _ => (show 1 + 0 ≤ 8 by decide)) hcs (c_beside _ _ _) hR (fun v h2 hR2 => ?_)
  refine lx_st (st' := [.int v, .int v]) rfl ?_
  exact lx_eq C (off := 1171) (t := 1750) (by decide +kernel) (by decide) (kk h2 f hR2)
theorem d_law_9 : dI 584 2 66 69 1134 := ⟨by decide +kernel, dAs_of (by decide +kernel), by decide +kernel, by decide +kernel, dAs_of (by decide +kernel), by decide +kernel⟩
theorem lc_9 (C : LC p l s m meth c b L xs X o cA) (hj : 6 * j + 6 ≤ L) (hcs : cells + 1 ≤ 601024 ∧ slots + 6 ≤ 7293034) (hR : Rel h) (kk : LK p l e s m below meth c b X o cA Q cells slots j) : Lx p l e s m below meth c b X o cA Q cells slots 584 (LCl b o X j) [] h f := by
  refine lx_wide (Nat.le_succ cells) (Nat.le_add_right slots 6) ?_
  refine lx_two (inj := iI) (dC := 300) (dM := 300) [.int (xs (6 * j + 1)), .int (xs (6 * j + 2))] C hj (by decide) rfl mv_X10_crowd (tb_in 797 (by decide +kernel) (by decide +kernel)) (fun h => sp_X10_crowd 300 (by decide) _ _ h) (by decide) mv_X11_crowd (tb_in 1638 (by decide +kernel) (by decide +kernel)) (fun h => sp_X11_crowd 300 (by decide) _ _ h) (by decide) d_law_9 (fun _ => (show 1 + 0 ≤ 8 by decide)) hcs (c_crowd _ _) hR (fun v h2 hR2 => ?_)
  refine lx_st (st' := [.int v, .int v]) rfl ?_
  exact lx_eq C (off := 1134) (t := 1750) (by decide +kernel) (by decide) (kk h2 f hR2)
theorem d_law_10 : dI 621 2 70 73 1097 := ⟨by decide +kernel, dAs_of (by decide +kernel), by decide +kernel, by decide +kernel, dAs_of (by decide +kernel), by decide +kernel⟩
theorem lc_10 (C : LC p l s m meth c b L xs X o cA) (hj : 6 * j + 6 ≤ L) (hcs : cells + 1 ≤ 601024 ∧ slots + 6 ≤ 7293034) (hR : Rel h) (kk : LK p l e s m below meth c b X o cA Q cells slots j) : Lx p l e s m below meth c b X o cA Q cells slots 621 (LCl b o X j) [] h f := by
  refine lx_wide (Nat.le_succ cells) (Nat.le_add_right slots 6) ?_
  refine lx_two (inj := iI) (dC := 300) (dM := 300) [.int (xs (6 * j + 1)), .int (xs (6 * j + 2))] C hj (by decide) rfl mv_X10_order (tb_in 809 (by decide +kernel) (by decide +kernel)) (fun h => sp_X10_order 300 (by decide) _ _ h) (by decide) mv_X11_order (tb_in 1650 (by decide +kernel) (by decide +kernel)) (fun h => sp_X11_order 300 (by decide) _ _ h) (by decide) d_law_10 (fun _ => (show 1 + 0 ≤ 8 by decide)) hcs (c_order _ _) hR (fun v h2 hR2 => ?_)
  refine lx_st (st' := [.int v, .int v]) rfl ?_
  exact lx_eq C (off := 1097) (t := 1750) (by decide +kernel) (by decide) (kk h2 f hR2)
theorem d_law_11 : dI 658 1 74 77 1072 := ⟨by decide +kernel, dAs_of (by decide +kernel), by decide +kernel, by decide +kernel, dAs_of (by decide +kernel), by decide +kernel⟩
theorem lc_11 (C : LC p l s m meth c b L xs X o cA) (hj : 6 * j + 6 ≤ L) (hcs : cells + 1 ≤ 601024 ∧ slots + 6 ≤ 7293034) (hR : Rel h) (kk : LK p l e s m below meth c b X o cA Q cells slots j) : Lx p l e s m below meth c b X o cA Q cells slots 658 (LCl b o X j) [] h f := by
  refine lx_wide (Nat.le_succ cells) (Nat.le_add_right slots 6) ?_
  refine lx_two (inj := iI) (dC := 300) (dM := 300) [.int (xs (6 * j + 1))] C hj (by decide) rfl mv_X10_soon (tb_in 825 (by decide +kernel) (by decide +kernel)) (fun h => sp_X10_soon 300 (by decide) _ h) (by decide) mv_X11_soon (tb_in 1665 (by decide +kernel) (by decide +kernel)) (fun h => sp_X11_soon 300 (by decide) _ h) (by decide) d_law_11 (fun _ => (show 1 + 0 ≤ 8 by decide)) hcs (c_soon _) hR (fun v h2 hR2 => ?_)
  refine lx_st (st' := [.int v, .int v]) rfl ?_
  exact lx_eq C (off := 1072) (t := 1750) (by decide +kernel) (by decide) (kk h2 f hR2)
theorem d_law_12 : dI 683 3 78 82 1022 := ⟨by decide +kernel, dAs_of (by decide +kernel), by decide +kernel, by decide +kernel, dAs_of (by decide +kernel), by decide +kernel⟩
theorem lc_12 (C : LC p l s m meth c b L xs X o cA) (hj : 6 * j + 6 ≤ L) (hcs : cells + 1 ≤ 601024 ∧ slots + 6 ≤ 7293034) (hR : Rel h) (kk : LK p l e s m below meth c b X o cA Q cells slots j) : Lx p l e s m below meth c b X o cA Q cells slots 683 (LCl b o X j) [] h f := by
  refine lx_wide (Nat.le_succ cells) (Nat.le_add_right slots 6) ?_
  refine lx_two (inj := iL) (dC := 300) (dM := 300) [.int (xs (6 * j + 1)), .int (xs (6 * j + 2)), .int (xs (6 * j + 3))] C hj (by decide) rfl mv_X10_law (tb_in 833 (by decide +kernel) (by decide +kernel)) (fun h => sp_X10_law 300 (by decide) _ _ _ h) (by decide) mv_X11_law (tb_in 1669 (by decide +kernel) (by decide +kernel)) (fun h => sp_X11_law 300 (by decide) _ _ _ h) (by decide) d_law_12 (fun _ => (show 2 + 0 ≤ 8 by decide)) hcs (c_law _ _ _) hR (fun v h2 hR2 => ?_)
  refine lx_st (st' := [.long v, .long v]) rfl ?_
  exact lx_leq C (off := 1022) (t := 1750) (by decide +kernel) (by decide +kernel) (by decide) (kk h2 f hR2)
theorem d_law_13 : dI 733 2 83 86 985 := ⟨by decide +kernel, dAs_of (by decide +kernel), by decide +kernel, by decide +kernel, dAs_of (by decide +kernel), by decide +kernel⟩
theorem lc_13 (C : LC p l s m meth c b L xs X o cA) (hj : 6 * j + 6 ≤ L) (hcs : cells + 1 ≤ 601024 ∧ slots + 6 ≤ 7293034) (hR : Rel h) (kk : LK p l e s m below meth c b X o cA Q cells slots j) : Lx p l e s m below meth c b X o cA Q cells slots 733 (LCl b o X j) [] h f := by
  refine lx_wide (Nat.le_succ cells) (Nat.le_add_right slots 6) ?_
  refine lx_two (inj := iI) (dC := 300) (dM := 300) [.int (xs (6 * j + 1)), .int (xs (6 * j + 2))] C hj (by decide) rfl mv_X10_walk (tb_in 854 (by decide +kernel) (by decide +kernel)) (fun h => sp_X10_walk 300 (by decide) _ _ h) (by decide) mv_X11_walk (tb_in 1674 (by decide +kernel) (by decide +kernel)) (fun h => sp_X11_walk 300 (by decide) _ _ h) (by decide) d_law_13 (fun _ => (show 1 + 0 ≤ 8 by decide)) hcs (c_walk _ _) hR (fun v h2 hR2 => ?_)
  refine lx_st (st' := [.int v, .int v]) rfl ?_
  exact lx_eq C (off := 985) (t := 1750) (by decide +kernel) (by decide) (kk h2 f hR2)
theorem d_law_14 : dI 770 2 87 91 948 := ⟨by decide +kernel, dAs_of (by decide +kernel), by decide +kernel, by decide +kernel, dAs_of (by decide +kernel), by decide +kernel⟩
theorem lc_14 (C : LC p l s m meth c b L xs X o cA) (hj : 6 * j + 6 ≤ L) (hcs : cells + 1 ≤ 601024 ∧ slots + 6 ≤ 7293034) (hR : Rel h) (kk : LK p l e s m below meth c b X o cA Q cells slots j) : Lx p l e s m below meth c b X o cA Q cells slots 770 (LCl b o X j) [] h f := by
  refine lx_wide (Nat.le_succ cells) (Nat.le_add_right slots 6) ?_
  refine lx_two (inj := iI) (dC := 300) (dM := 300) [.int (xs (6 * j + 1)), .int (xs (6 * j + 2))] C hj (by decide) rfl mv_X10_carry (tb_in 899 (by decide +kernel) (by decide +kernel)) (fun h => sp_X10_carry 300 (by decide) _ _ h) (by decide) mv_X11_carry (tb_in 1706 (by decide +kernel) (by decide +kernel)) (fun h => sp_X11_carry 300 (by decide) _ _ h) (by decide) d_law_14 (fun _ => (show 1 + 0 ≤ 8 by decide)) hcs (c_carry _ _) hR (fun v h2 hR2 => ?_)
  refine lx_st (st' := [.int v, .int v]) rfl ?_
  exact lx_eq C (off := 948) (t := 1750) (by decide +kernel) (by decide) (kk h2 f hR2)
theorem d_law_15 : dI 807 2 92 95 911 := ⟨by decide +kernel, dAs_of (by decide +kernel), by decide +kernel, by decide +kernel, dAs_of (by decide +kernel), by decide +kernel⟩
theorem lc_15 (C : LC p l s m meth c b L xs X o cA) (hj : 6 * j + 6 ≤ L) (hcs : cells + 1 ≤ 601024 ∧ slots + 6 ≤ 7293034) (hR : Rel h) (kk : LK p l e s m below meth c b X o cA Q cells slots j) : Lx p l e s m below meth c b X o cA Q cells slots 807 (LCl b o X j) [] h f := by
  refine lx_wide (Nat.le_succ cells) (Nat.le_add_right slots 6) ?_
  refine lx_two (inj := iI) (dC := 300) (dM := 300) [.int (xs (6 * j + 1)), .int (xs (6 * j + 2))] C hj (by decide) rfl mv_X10_right (tb_in 903 (by decide +kernel) (by decide +kernel)) (fun h => sp_X10_right 300 (by decide) _ _ h) (by decide) mv_X11_right (tb_in 1710 (by decide +kernel) (by decide +kernel)) (fun h => sp_X11_right 300 (by decide) _ _ h) (by decide) d_law_15 (fun _ => (show 1 + 0 ≤ 8 by decide)) hcs (c_right _ _) hR (fun v h2 hR2 => ?_)
  refine lx_st (st' := [.int v, .int v]) rfl ?_
  exact lx_eq C (off := 911) (t := 1750) (by decide +kernel) (by decide) (kk h2 f hR2)
theorem d_law_16 : dI 844 1 96 99 886 := ⟨by decide +kernel, dAs_of (by decide +kernel), by decide +kernel, by decide +kernel, dAs_of (by decide +kernel), by decide +kernel⟩
theorem lc_16 (C : LC p l s m meth c b L xs X o cA) (hj : 6 * j + 6 ≤ L) (hcs : cells + 1 ≤ 601024 ∧ slots + 6 ≤ 7293034) (hR : Rel h) (kk : LK p l e s m below meth c b X o cA Q cells slots j) : Lx p l e s m below meth c b X o cA Q cells slots 844 (LCl b o X j) [] h f := by
  refine lx_wide (Nat.le_succ cells) (Nat.le_add_right slots 6) ?_
  refine lx_two (inj := iI) (dC := 300) (dM := 300) [.int (xs (6 * j + 1))] C hj (by decide) rfl mv_X10_go (tb_in 907 (by decide +kernel) (by decide +kernel)) (fun h => sp_X10_go 300 (by decide) _ h) (by decide) mv_X11_go (tb_in 1714 (by decide +kernel) (by decide +kernel)) (fun h => sp_X11_go 300 (by decide) _ h) (by decide) d_law_16 (fun _ => (show 1 + 0 ≤ 8 by decide)) hcs (c_go _) hR (fun v h2 hR2 => ?_)
  refine lx_st (st' := [.int v, .int v]) rfl ?_
  exact lx_eq C (off := 886) (t := 1750) (by decide +kernel) (by decide) (kk h2 f hR2)
theorem d_law_17 : dI 869 3 100 103 837 := ⟨by decide +kernel, dAs_of (by decide +kernel), by decide +kernel, by decide +kernel, dAs_of (by decide +kernel), by decide +kernel⟩
theorem lc_17 (C : LC p l s m meth c b L xs X o cA) (hj : 6 * j + 6 ≤ L) (hcs : cells + 1 ≤ 601024 ∧ slots + 6 ≤ 7293034) (hR : Rel h) (kk : LK p l e s m below meth c b X o cA Q cells slots j) : Lx p l e s m below meth c b X o cA Q cells slots 869 (LCl b o X j) [] h f := by
  refine lx_wide (Nat.le_succ cells) (Nat.le_add_right slots 6) ?_
  refine lx_two (inj := iI) (dC := 300) (dM := 300) [.int (xs (6 * j + 1)), .int (xs (6 * j + 2)), .int (xs (6 * j + 3))] C hj (by decide) rfl mv_X10_ahead (tb_in 942 (by decide +kernel) (by decide +kernel)) (fun h => sp_X10_ahead 300 (by decide) _ _ _ h) (by decide) mv_X11_ahead (tb_in 1730 (by decide +kernel) (by decide +kernel)) (fun h => sp_X11_ahead 300 (by decide) _ _ _ h) (by decide) d_law_17 (fun _ => (show 1 + 0 ≤ 8 by decide)) hcs (c_ahead _ _ _) hR (fun v h2 hR2 => ?_)
  refine lx_st (st' := [.int v, .int v]) rfl ?_
  exact lx_eq C (off := 837) (t := 1750) (by decide +kernel) (by decide) (kk h2 f hR2)
theorem d_law_18 : dI 918 2 104 107 800 := ⟨by decide +kernel, dAs_of (by decide +kernel), by decide +kernel, by decide +kernel, dAs_of (by decide +kernel), by decide +kernel⟩
theorem lc_18 (C : LC p l s m meth c b L xs X o cA) (hj : 6 * j + 6 ≤ L) (hcs : cells + 1 ≤ 601024 ∧ slots + 6 ≤ 7293034) (hR : Rel h) (kk : LK p l e s m below meth c b X o cA Q cells slots j) : Lx p l e s m below meth c b X o cA Q cells slots 918 (LCl b o X j) [] h f := by
  refine lx_wide (Nat.le_succ cells) (Nat.le_add_right slots 6) ?_
  refine lx_two (inj := iI) (dC := 300) (dM := 300) [.int (xs (6 * j + 1)), .int (xs (6 * j + 2))] C hj (by decide) rfl mv_X10_there (tb_in 950 (by decide +kernel) (by decide +kernel)) (fun h => sp_X10_there 300 (by decide) _ _ h) (by decide) mv_X11_there (tb_in 1746 (by decide +kernel) (by decide +kernel)) (fun h => sp_X11_there 300 (by decide) _ _ h) (by decide) d_law_18 (fun _ => (show 1 + 0 ≤ 8 by decide)) hcs (c_there _ _) hR (fun v h2 hR2 => ?_)
  refine lx_st (st' := [.int v, .int v]) rfl ?_
  exact lx_eq C (off := 800) (t := 1750) (by decide +kernel) (by decide) (kk h2 f hR2)
theorem d_law_19 : dI 955 1 108 111 775 := ⟨by decide +kernel, dAs_of (by decide +kernel), by decide +kernel, by decide +kernel, dAs_of (by decide +kernel), by decide +kernel⟩
theorem lc_19 (C : LC p l s m meth c b L xs X o cA) (hj : 6 * j + 6 ≤ L) (hcs : cells + 1 ≤ 601024 ∧ slots + 6 ≤ 7293034) (hR : Rel h) (kk : LK p l e s m below meth c b X o cA Q cells slots j) : Lx p l e s m below meth c b X o cA Q cells slots 955 (LCl b o X j) [] h f := by
  refine lx_wide (Nat.le_succ cells) (Nat.le_add_right slots 6) ?_
  refine lx_two (inj := iI) (dC := 300) (dM := 300) [.int (xs (6 * j + 1))] C hj (by decide) rfl mv_X10_highest (tb_in 955 (by decide +kernel) (by decide +kernel)) (fun h => sp_X10_highest 300 (by decide) _ h) (by decide) mv_X11_highest (tb_in 1750 (by decide +kernel) (by decide +kernel)) (fun h => sp_X11_highest 300 (by decide) _ h) (by decide) d_law_19 (fun _ => (show 1 + 0 ≤ 8 by decide)) hcs (c_highest _) hR (fun v h2 hR2 => ?_)
  refine lx_st (st' := [.int v, .int v]) rfl ?_
  exact lx_eq C (off := 775) (t := 1750) (by decide +kernel) (by decide) (kk h2 f hR2)
theorem d_law_20 : dI 980 2 112 115 738 := ⟨by decide +kernel, dAs_of (by decide +kernel), by decide +kernel, by decide +kernel, dAs_of (by decide +kernel), by decide +kernel⟩
theorem lc_20 (C : LC p l s m meth c b L xs X o cA) (hj : 6 * j + 6 ≤ L) (hcs : cells + 1 ≤ 601024 ∧ slots + 6 ≤ 7293034) (hR : Rel h) (kk : LK p l e s m below meth c b X o cA Q cells slots j) : Lx p l e s m below meth c b X o cA Q cells slots 980 (LCl b o X j) [] h f := by
  refine lx_wide (Nat.le_succ cells) (Nat.le_add_right slots 6) ?_
  refine lx_two (inj := iI) (dC := 300) (dM := 300) [.int (xs (6 * j + 1)), .int (xs (6 * j + 2))] C hj (by decide) rfl mv_X10_climbs (tb_in 959 (by decide +kernel) (by decide +kernel)) (fun h => sp_X10_climbs 300 (by decide) _ _ h) (by decide) mv_X11_climbs (tb_in 1758 (by decide +kernel) (by decide +kernel)) (fun h => sp_X11_climbs 300 (by decide) _ _ h) (by decide) d_law_20 (fun _ => (show 1 + 0 ≤ 8 by decide)) hcs (c_climbs _ _) hR (fun v h2 hR2 => ?_)
  refine lx_st (st' := [.int v, .int v]) rfl ?_
  exact lx_eq C (off := 738) (t := 1750) (by decide +kernel) (by decide) (kk h2 f hR2)
theorem d_law_21 : dI 1017 1 116 119 713 := ⟨by decide +kernel, dAs_of (by decide +kernel), by decide +kernel, by decide +kernel, dAs_of (by decide +kernel), by decide +kernel⟩
theorem lc_21 (C : LC p l s m meth c b L xs X o cA) (hj : 6 * j + 6 ≤ L) (hcs : cells + 1 ≤ 601024 ∧ slots + 6 ≤ 7293034) (hR : Rel h) (kk : LK p l e s m below meth c b X o cA Q cells slots j) : Lx p l e s m below meth c b X o cA Q cells slots 1017 (LCl b o X j) [] h f := by
  refine lx_wide (Nat.le_succ cells) (Nat.le_add_right slots 6) ?_
  refine lx_two (inj := iI) (dC := 300) (dM := 300) [.int (xs (6 * j + 1))] C hj (by decide) rfl mv_X10_level (tb_in 963 (by decide +kernel) (by decide +kernel)) (fun h => sp_X10_level 300 (by decide) _ h) (by decide) mv_X11_level (tb_in 1762 (by decide +kernel) (by decide +kernel)) (fun h => sp_X11_level 300 (by decide) _ h) (by decide) d_law_21 (fun _ => (show 1 + 0 ≤ 8 by decide)) hcs (c_level _) hR (fun v h2 hR2 => ?_)
  refine lx_st (st' := [.int v, .int v]) rfl ?_
  exact lx_eq C (off := 713) (t := 1750) (by decide +kernel) (by decide) (kk h2 f hR2)
theorem d_law_22 : dI 1042 2 120 123 676 := ⟨by decide +kernel, dAs_of (by decide +kernel), by decide +kernel, by decide +kernel, dAs_of (by decide +kernel), by decide +kernel⟩
theorem lc_22 (C : LC p l s m meth c b L xs X o cA) (hj : 6 * j + 6 ≤ L) (hcs : cells + 1 ≤ 601024 ∧ slots + 6 ≤ 7293034) (hR : Rel h) (kk : LK p l e s m below meth c b X o cA Q cells slots j) : Lx p l e s m below meth c b X o cA Q cells slots 1042 (LCl b o X j) [] h f := by
  refine lx_wide (Nat.le_succ cells) (Nat.le_add_right slots 6) ?_
  refine lx_two (inj := iI) (dC := 300) (dM := 300) [.int (xs (6 * j + 1)), .int (xs (6 * j + 2))] C hj (by decide) rfl mv_X10_ease (tb_in 968 (by decide +kernel) (by decide +kernel)) (fun h => sp_X10_ease 300 (by decide) _ _ h) (by decide) mv_X11_ease (tb_in 1766 (by decide +kernel) (by decide +kernel)) (fun h => sp_X11_ease 300 (by decide) _ _ h) (by decide) d_law_22 (fun _ => (show 1 + 0 ≤ 8 by decide)) hcs (c_ease _ _) hR (fun v h2 hR2 => ?_)
  refine lx_st (st' := [.int v, .int v]) rfl ?_
  exact lx_eq C (off := 676) (t := 1750) (by decide +kernel) (by decide) (kk h2 f hR2)
theorem d_law_23 : dI 1079 3 124 127 627 := ⟨by decide +kernel, dAs_of (by decide +kernel), by decide +kernel, by decide +kernel, dAs_of (by decide +kernel), by decide +kernel⟩
theorem lc_23 (C : LC p l s m meth c b L xs X o cA) (hj : 6 * j + 6 ≤ L) (hcs : cells + 1 ≤ 601024 ∧ slots + 6 ≤ 7293034) (hR : Rel h) (kk : LK p l e s m below meth c b X o cA Q cells slots j) : Lx p l e s m below meth c b X o cA Q cells slots 1079 (LCl b o X j) [] h f := by
  refine lx_wide (Nat.le_succ cells) (Nat.le_add_right slots 6) ?_
  refine lx_two (inj := iI) (dC := 300) (dM := 300) [.int (xs (6 * j + 1)), .int (xs (6 * j + 2)), .int (xs (6 * j + 3))] C hj (by decide) rfl mv_X10_way (tb_in 972 (by decide +kernel) (by decide +kernel)) (fun h => sp_X10_way 300 (by decide) _ _ _ h) (by decide) mv_X11_way (tb_in 1770 (by decide +kernel) (by decide +kernel)) (fun h => sp_X11_way 300 (by decide) _ _ _ h) (by decide) d_law_23 (fun _ => (show 1 + 0 ≤ 8 by decide)) hcs (c_way _ _ _) hR (fun v h2 hR2 => ?_)
  refine lx_st (st' := [.int v, .int v]) rfl ?_
  exact lx_eq C (off := 627) (t := 1750) (by decide +kernel) (by decide) (kk h2 f hR2)
theorem d_law_24 : dI 1128 3 128 131 578 := ⟨by decide +kernel, dAs_of (by decide +kernel), by decide +kernel, by decide +kernel, dAs_of (by decide +kernel), by decide +kernel⟩
theorem lc_24 (C : LC p l s m meth c b L xs X o cA) (hj : 6 * j + 6 ≤ L) (hcs : cells + 1 ≤ 601024 ∧ slots + 6 ≤ 7293034) (hR : Rel h) (kk : LK p l e s m below meth c b X o cA Q cells slots j) : Lx p l e s m below meth c b X o cA Q cells slots 1128 (LCl b o X j) [] h f := by
  refine lx_wide (Nat.le_succ cells) (Nat.le_add_right slots 6) ?_
  refine lx_two (inj := iI) (dC := 300) (dM := 300) [.int (xs (6 * j + 1)), .int (xs (6 * j + 2)), .int (xs (6 * j + 3))] C hj (by decide) rfl mv_X10_meet (tb_in 991 (by decide +kernel) (by decide +kernel)) (fun h => sp_X10_meet 300 (by decide) _ _ _ h) (by decide) mv_X11_meet (tb_in 1783 (by decide +kernel) (by decide +kernel)) (fun h => sp_X11_meet 300 (by decide) _ _ _ h) (by decide) d_law_24 (fun _ => (show 1 + 0 ≤ 8 by decide)) hcs (c_meet _ _ _) hR (fun v h2 hR2 => ?_)
  refine lx_st (st' := [.int v, .int v]) rfl ?_
  exact lx_eq C (off := 578) (t := 1750) (by decide +kernel) (by decide) (kk h2 f hR2)
theorem d_law_25 : dI 1177 1 132 135 553 := ⟨by decide +kernel, dAs_of (by decide +kernel), by decide +kernel, by decide +kernel, dAs_of (by decide +kernel), by decide +kernel⟩
theorem lc_25 (C : LC p l s m meth c b L xs X o cA) (hj : 6 * j + 6 ≤ L) (hcs : cells + 1 ≤ 601024 ∧ slots + 6 ≤ 7293034) (hR : Rel h) (kk : LK p l e s m below meth c b X o cA Q cells slots j) : Lx p l e s m below meth c b X o cA Q cells slots 1177 (LCl b o X j) [] h f := by
  refine lx_wide (Nat.le_succ cells) (Nat.le_add_right slots 6) ?_
  refine lx_two (inj := iI) (dC := 300) (dM := 300) [.int (xs (6 * j + 1))] C hj (by decide) rfl mv_X10_steepest (tb_in 999 (by decide +kernel) (by decide +kernel)) (fun h => sp_X10_steepest 300 (by decide) _ h) (by decide) mv_X11_steepest (tb_in 1791 (by decide +kernel) (by decide +kernel)) (fun h => sp_X11_steepest 300 (by decide) _ h) (by decide) d_law_25 (fun _ => (show 1 + 0 ≤ 8 by decide)) hcs (c_steepest _) hR (fun v h2 hR2 => ?_)
  refine lx_st (st' := [.int v, .int v]) rfl ?_
  exact lx_eq C (off := 553) (t := 1750) (by decide +kernel) (by decide) (kk h2 f hR2)
theorem d_law_26 : dI 1202 0 136 139 540 := ⟨by decide +kernel, dAs_of (by decide +kernel), by decide +kernel, by decide +kernel, dAs_of (by decide +kernel), by decide +kernel⟩
theorem lc_26 (C : LC p l s m meth c b L xs X o cA) (hj : 6 * j + 6 ≤ L) (hcs : cells + 1 ≤ 601024 ∧ slots + 6 ≤ 7293034) (hR : Rel h) (kk : LK p l e s m below meth c b X o cA Q cells slots j) : Lx p l e s m below meth c b X o cA Q cells slots 1202 (LCl b o X j) [] h f := by
  refine lx_wide (Nat.le_succ cells) (Nat.le_add_right slots 6) ?_
  refine lx_two (inj := iI) (dC := 300) (dM := 300) [] C hj (by decide) rfl mv_X10_wall (tb_in 1003 (by decide +kernel) (by decide +kernel)) (fun h => sp_X10_wall 300 (by decide) h) (by decide) mv_X11_wall (tb_in 1795 (by decide +kernel) (by decide +kernel)) (fun h => sp_X11_wall 300 (by decide) h) (by decide) d_law_26 (fun _ => (show 1 + 0 ≤ 8 by decide)) hcs (c_wall) hR (fun v h2 hR2 => ?_)
  refine lx_st (st' := [.int v, .int v]) rfl ?_
  exact lx_eq C (off := 540) (t := 1750) (by decide +kernel) (by decide) (kk h2 f hR2)
theorem d_law_27 : dI 1215 3 140 143 491 := ⟨by decide +kernel, dAs_of (by decide +kernel), by decide +kernel, by decide +kernel, dAs_of (by decide +kernel), by decide +kernel⟩
theorem lc_27 (C : LC p l s m meth c b L xs X o cA) (hj : 6 * j + 6 ≤ L) (hcs : cells + 1 ≤ 601024 ∧ slots + 6 ≤ 7293034) (hR : Rel h) (kk : LK p l e s m below meth c b X o cA Q cells slots j) : Lx p l e s m below meth c b X o cA Q cells slots 1215 (LCl b o X j) [] h f := by
  refine lx_wide (Nat.le_succ cells) (Nat.le_add_right slots 6) ?_
  refine lx_two (inj := iI) (dC := 300) (dM := 300) [.int (xs (6 * j + 1)), .int (xs (6 * j + 2)), .int (xs (6 * j + 3))] C hj (by decide) rfl mv_X10_rests (tb_in 1007 (by decide +kernel) (by decide +kernel)) (fun h => sp_X10_rests 300 (by decide) _ _ _ h) (by decide) mv_X11_rests (tb_in 1799 (by decide +kernel) (by decide +kernel)) (fun h => sp_X11_rests 300 (by decide) _ _ _ h) (by decide) d_law_27 (fun _ => (show 1 + 0 ≤ 8 by decide)) hcs (c_rests _ _ _) hR (fun v h2 hR2 => ?_)
  refine lx_st (st' := [.int v, .int v]) rfl ?_
  exact lx_eq C (off := 491) (t := 1750) (by decide +kernel) (by decide) (kk h2 f hR2)
theorem d_law_28 : dI 1264 4 144 148 430 := ⟨by decide +kernel, dAs_of (by decide +kernel), by decide +kernel, by decide +kernel, dAs_of (by decide +kernel), by decide +kernel⟩
theorem lc_28 (C : LC p l s m meth c b L xs X o cA) (hj : 6 * j + 6 ≤ L) (hcs : cells + 1 ≤ 601024 ∧ slots + 6 ≤ 7293034) (hR : Rel h) (kk : LK p l e s m below meth c b X o cA Q cells slots j) : Lx p l e s m below meth c b X o cA Q cells slots 1264 (LCl b o X j) [] h f := by
  refine lx_wide (Nat.le_succ cells) (Nat.le_add_right slots 6) ?_
  refine lx_two (inj := iI) (dC := 300) (dM := 300) [.int (xs (6 * j + 1)), .int (xs (6 * j + 2)), .int (xs (6 * j + 3)), .int (xs (6 * j + 4))] C hj (by decide) rfl mv_X10_rest (tb_in 1024 (by decide +kernel) (by decide +kernel)) (fun h => sp_X10_rest 300 (by decide) _ _ _ _ h) (by decide) mv_X11_rest (tb_in 1815 (by decide +kernel) (by decide +kernel)) (fun h => sp_X11_rest 300 (by decide) _ _ _ _ h) (by decide) d_law_28 (fun _ => (show 1 + 0 ≤ 8 by decide)) hcs (c_rest _ _ _ _) hR (fun v h2 hR2 => ?_)
  refine lx_st (st' := [.int v, .int v]) rfl ?_
  exact lx_eq C (off := 430) (t := 1750) (by decide +kernel) (by decide) (kk h2 f hR2)
theorem d_law_29 : dI 1325 2 149 153 392 := ⟨by decide +kernel, dAs_of (by decide +kernel), by decide +kernel, by decide +kernel, dAs_of (by decide +kernel), by decide +kernel⟩
theorem lc_29 (C : LC p l s m meth c b L xs X o cA) (hj : 6 * j + 6 ≤ L) (hcs : cells + 1 ≤ 601024 ∧ slots + 6 ≤ 7293034) (hR : Rel h) (kk : LK p l e s m below meth c b X o cA Q cells slots j) : Lx p l e s m below meth c b X o cA Q cells slots 1325 (LCl b o X j) [] h f := by
  refine lx_wide (Nat.le_succ cells) (Nat.le_add_right slots 6) ?_
  refine lx_two (inj := iL) (dC := 300) (dM := 300) [.int (xs (6 * j + 1)), .int (xs (6 * j + 2))] C hj (by decide) rfl mv_X10_sure (tb_in 1028 (by decide +kernel) (by decide +kernel)) (fun h => sp_X10_sure 300 (by decide) _ _ h) (by decide) mv_X11_sure (tb_in 1819 (by decide +kernel) (by decide +kernel)) (fun h => sp_X11_sure 300 (by decide) _ _ h) (by decide) d_law_29 (fun _ => (show 2 + 0 ≤ 8 by decide)) hcs (c_sure _ _) hR (fun v h2 hR2 => ?_)
  refine lx_st (st' := [.long v, .long v]) rfl ?_
  exact lx_leq C (off := 392) (t := 1750) (by decide +kernel) (by decide +kernel) (by decide) (kk h2 f hR2)
theorem d_law_31 : dI 1440 1 159 162 290 := ⟨by decide +kernel, dAs_of (by decide +kernel), by decide +kernel, by decide +kernel, dAs_of (by decide +kernel), by decide +kernel⟩
theorem lc_31 (C : LC p l s m meth c b L xs X o cA) (hj : 6 * j + 6 ≤ L) (hcs : cells + 1 ≤ 601024 ∧ slots + 6 ≤ 7293034) (hR : Rel h) (kk : LK p l e s m below meth c b X o cA Q cells slots j) : Lx p l e s m below meth c b X o cA Q cells slots 1440 (LCl b o X j) [] h f := by
  refine lx_wide (Nat.le_succ cells) (Nat.le_add_right slots 6) ?_
  refine lx_two (inj := iI) (dC := 300) (dM := 300) [.int (xs (6 * j + 1))] C hj (by decide) rfl mv_X10_strike (tb_in 1044 (by decide +kernel) (by decide +kernel)) (fun h => sp_X10_strike 300 (by decide) _ h) (by decide) mv_X11_strike (tb_in 1829 (by decide +kernel) (by decide +kernel)) (fun h => sp_X11_strike 300 (by decide) _ h) (by decide) d_law_31 (fun _ => (show 1 + 0 ≤ 8 by decide)) hcs (c_strike _) hR (fun v h2 hR2 => ?_)
  refine lx_st (st' := [.int v, .int v]) rfl ?_
  exact lx_eq C (off := 290) (t := 1750) (by decide +kernel) (by decide) (kk h2 f hR2)
theorem d_law_32 : dI 1465 1 163 167 265 := ⟨by decide +kernel, dAs_of (by decide +kernel), by decide +kernel, by decide +kernel, dAs_of (by decide +kernel), by decide +kernel⟩
theorem lc_32 (C : LC p l s m meth c b L xs X o cA) (hj : 6 * j + 6 ≤ L) (hcs : cells + 1 ≤ 601024 ∧ slots + 6 ≤ 7293034) (hR : Rel h) (kk : LK p l e s m below meth c b X o cA Q cells slots j) : Lx p l e s m below meth c b X o cA Q cells slots 1465 (LCl b o X j) [] h f := by
  refine lx_wide (Nat.le_succ cells) (Nat.le_add_right slots 6) ?_
  refine lx_two (inj := iI) (dC := 300) (dM := 300) [.int (xs (6 * j + 1))] C hj (by decide) rfl mv_X10_known (tb_in 1052 (by decide +kernel) (by decide +kernel)) (fun h => sp_X10_known 300 (by decide) _ h) (by decide) mv_X11_known (tb_in 1833 (by decide +kernel) (by decide +kernel)) (fun h => sp_X11_known 300 (by decide) _ h) (by decide) d_law_32 (fun _ => (show 1 + 0 ≤ 8 by decide)) hcs (c_known _) hR (fun v h2 hR2 => ?_)
  refine lx_st (st' := [.int v, .int v]) rfl ?_
  exact lx_eq C (off := 265) (t := 1750) (by decide +kernel) (by decide) (kk h2 f hR2)
theorem d_law_33 : dI 1490 2 168 171 228 := ⟨by decide +kernel, dAs_of (by decide +kernel), by decide +kernel, by decide +kernel, dAs_of (by decide +kernel), by decide +kernel⟩
theorem lc_33 (C : LC p l s m meth c b L xs X o cA) (hj : 6 * j + 6 ≤ L) (hcs : cells + 1 ≤ 601024 ∧ slots + 6 ≤ 7293034) (hR : Rel h) (kk : LK p l e s m below meth c b X o cA Q cells slots j) : Lx p l e s m below meth c b X o cA Q cells slots 1490 (LCl b o X j) [] h f := by
  refine lx_wide (Nat.le_succ cells) (Nat.le_add_right slots 6) ?_
  refine lx_two (inj := iI) (dC := 300) (dM := 300) [.int (xs (6 * j + 1)), .int (xs (6 * j + 2))] C hj (by decide) rfl mv_X10_hads (tb_in 1056 (by decide +kernel) (by decide +kernel)) (fun h => sp_X10_hads 300 (by decide) _ _ h) (by decide) mv_X11_hads (tb_in 1837 (by decide +kernel) (by decide +kernel)) (fun h => sp_X11_hads 300 (by decide) _ _ h) (by decide) d_law_33 (fun _ => (show 1 + 0 ≤ 8 by decide)) hcs (c_hads _ _) hR (fun v h2 hR2 => ?_)
  refine lx_st (st' := [.int v, .int v]) rfl ?_
  exact lx_eq C (off := 228) (t := 1750) (by decide +kernel) (by decide) (kk h2 f hR2)
theorem d_law_34 : dI 1527 3 172 175 179 := ⟨by decide +kernel, dAs_of (by decide +kernel), by decide +kernel, by decide +kernel, dAs_of (by decide +kernel), by decide +kernel⟩
theorem lc_34 (C : LC p l s m meth c b L xs X o cA) (hj : 6 * j + 6 ≤ L) (hcs : cells + 1 ≤ 601024 ∧ slots + 6 ≤ 7293034) (hR : Rel h) (kk : LK p l e s m below meth c b X o cA Q cells slots j) : Lx p l e s m below meth c b X o cA Q cells slots 1527 (LCl b o X j) [] h f := by
  refine lx_wide (Nat.le_succ cells) (Nat.le_add_right slots 6) ?_
  refine lx_two (inj := iI) (dC := 300) (dM := 300) [.int (xs (6 * j + 1)), .int (xs (6 * j + 2)), .int (xs (6 * j + 3))] C hj (by decide) rfl mv_X10_ask (tb_in 1080 (by decide +kernel) (by decide +kernel)) (fun h => sp_X10_ask 300 (by decide) _ _ _ h) (by decide) mv_X11_ask (tb_in 1857 (by decide +kernel) (by decide +kernel)) (fun h => sp_X11_ask 300 (by decide) _ _ _ h) (by decide) d_law_34 (fun _ => (show 1 + 0 ≤ 8 by decide)) hcs (c_ask _ _ _) hR (fun v h2 hR2 => ?_)
  refine lx_st (st' := [.int v, .int v]) rfl ?_
  exact lx_eq C (off := 179) (t := 1750) (by decide +kernel) (by decide) (kk h2 f hR2)
theorem d_law_35 : dI 1576 4 176 179 118 := ⟨by decide +kernel, dAs_of (by decide +kernel), by decide +kernel, by decide +kernel, dAs_of (by decide +kernel), by decide +kernel⟩
theorem lc_35 (C : LC p l s m meth c b L xs X o cA) (hj : 6 * j + 6 ≤ L) (hcs : cells + 1 ≤ 601024 ∧ slots + 6 ≤ 7293034) (hR : Rel h) (kk : LK p l e s m below meth c b X o cA Q cells slots j) : Lx p l e s m below meth c b X o cA Q cells slots 1576 (LCl b o X j) [] h f := by
  refine lx_wide (Nat.le_succ cells) (Nat.le_add_right slots 6) ?_
  refine lx_two (inj := iI) (dC := 300) (dM := 300) [.int (xs (6 * j + 1)), .int (xs (6 * j + 2)), .int (xs (6 * j + 3)), .int (xs (6 * j + 4))] C hj (by decide) rfl mv_X10_chance (tb_in 1090 (by decide +kernel) (by decide +kernel)) (fun h => sp_X10_chance 300 (by decide) _ _ _ _ h) (by decide) mv_X11_chance (tb_in 1865 (by decide +kernel) (by decide +kernel)) (fun h => sp_X11_chance 300 (by decide) _ _ _ _ h) (by decide) d_law_35 (fun _ => (show 1 + 0 ≤ 8 by decide)) hcs (c_chance _ _ _ _) hR (fun v h2 hR2 => ?_)
  refine lx_st (st' := [.int v, .int v]) rfl ?_
  exact lx_eq C (off := 118) (t := 1750) (by decide +kernel) (by decide) (kk h2 f hR2)
theorem d_law_36 : dI 1637 3 180 183 69 := ⟨by decide +kernel, dAs_of (by decide +kernel), by decide +kernel, by decide +kernel, dAs_of (by decide +kernel), by decide +kernel⟩
theorem lc_36 (C : LC p l s m meth c b L xs X o cA) (hj : 6 * j + 6 ≤ L) (hcs : cells + 1 ≤ 601024 ∧ slots + 6 ≤ 7293034) (hR : Rel h) (kk : LK p l e s m below meth c b X o cA Q cells slots j) : Lx p l e s m below meth c b X o cA Q cells slots 1637 (LCl b o X j) [] h f := by
  refine lx_wide (Nat.le_succ cells) (Nat.le_add_right slots 6) ?_
  refine lx_two (inj := iI) (dC := 300) (dM := 300) [.int (xs (6 * j + 1)), .int (xs (6 * j + 2)), .int (xs (6 * j + 3))] C hj (by decide) rfl mv_X10_tried (tb_in 1094 (by decide +kernel) (by decide +kernel)) (fun h => sp_X10_tried 300 (by decide) _ _ _ h) (by decide) mv_X11_tried (tb_in 1869 (by decide +kernel) (by decide +kernel)) (fun h => sp_X11_tried 300 (by decide) _ _ _ h) (by decide) d_law_36 (fun _ => (show 1 + 0 ≤ 8 by decide)) hcs (c_tried _ _ _) hR (fun v h2 hR2 => ?_)
  refine lx_st (st' := [.int v, .int v]) rfl ?_
  exact lx_eq C (off := 69) (t := 1750) (by decide +kernel) (by decide) (kk h2 f hR2)
theorem d_law_37 : dI 1686 0 184 187 56 := ⟨by decide +kernel, dAs_of (by decide +kernel), by decide +kernel, by decide +kernel, dAs_of (by decide +kernel), by decide +kernel⟩
theorem lc_37 (C : LC p l s m meth c b L xs X o cA) (hj : 6 * j + 6 ≤ L) (hcs : cells + 1 ≤ 601024 ∧ slots + 6 ≤ 7293034) (hR : Rel h) (kk : LK p l e s m below meth c b X o cA Q cells slots j) : Lx p l e s m below meth c b X o cA Q cells slots 1686 (LCl b o X j) [] h f := by
  refine lx_wide (Nat.le_succ cells) (Nat.le_add_right slots 6) ?_
  refine lx_two (inj := iI) (dC := 300) (dM := 300) [] C hj (by decide) rfl mv_X10_undo (tb_in 926 (by decide +kernel) (by decide +kernel)) (fun h => sp_X10_undo 300 (by decide) h) (by decide) mv_X11_undo (tb_in 1873 (by decide +kernel) (by decide +kernel)) (fun h => sp_X11_undo 300 (by decide) h) (by decide) d_law_37 (fun _ => (show 1 + 0 ≤ 8 by decide)) hcs (c_undo) hR (fun v h2 hR2 => ?_)
  refine lx_st (st' := [.int v, .int v]) rfl ?_
  exact lx_eq C (off := 56) (t := 1750) (by decide +kernel) (by decide) (kk h2 f hR2)
theorem d_law_38 : dI 1699 0 188 191 43 := ⟨by decide +kernel, dAs_of (by decide +kernel), by decide +kernel, by decide +kernel, dAs_of (by decide +kernel), by decide +kernel⟩
theorem lc_38 (C : LC p l s m meth c b L xs X o cA) (hj : 6 * j + 6 ≤ L) (hcs : cells + 1 ≤ 601024 ∧ slots + 6 ≤ 7293034) (hR : Rel h) (kk : LK p l e s m below meth c b X o cA Q cells slots j) : Lx p l e s m below meth c b X o cA Q cells slots 1699 (LCl b o X j) [] h f := by
  refine lx_wide (Nat.le_succ cells) (Nat.le_add_right slots 6) ?_
  refine lx_two (inj := iI) (dC := 300) (dM := 300) [] C hj (by decide) rfl mv_X10_keep (tb_in 934 (by decide +kernel) (by decide +kernel)) (fun h => sp_X10_keep 300 (by decide) h) (by decide) mv_X11_keep (tb_in 1877 (by decide +kernel) (by decide +kernel)) (fun h => sp_X11_keep 300 (by decide) h) (by decide) d_law_38 (fun _ => (show 1 + 0 ≤ 8 by decide)) hcs (c_keep) hR (fun v h2 hR2 => ?_)
  refine lx_st (st' := [.int v, .int v]) rfl ?_
  exact lx_eq C (off := 43) (t := 1750) (by decide +kernel) (by decide) (kk h2 f hR2)
theorem d_law_39 : dI 1712 0 192 195 30 := ⟨by decide +kernel, dAs_of (by decide +kernel), by decide +kernel, by decide +kernel, dAs_of (by decide +kernel), by decide +kernel⟩
theorem lc_39 (C : LC p l s m meth c b L xs X o cA) (hj : 6 * j + 6 ≤ L) (hcs : cells + 1 ≤ 601024 ∧ slots + 6 ≤ 7293034) (hR : Rel h) (kk : LK p l e s m below meth c b X o cA Q cells slots j) : Lx p l e s m below meth c b X o cA Q cells slots 1712 (LCl b o X j) [] h f := by
  refine lx_wide (Nat.le_succ cells) (Nat.le_add_right slots 6) ?_
  refine lx_two (inj := iI) (dC := 300) (dM := 300) [] C hj (by decide) rfl mv_X10_back (tb_in 938 (by decide +kernel) (by decide +kernel)) (fun h => sp_X10_back 300 (by decide) h) (by decide) mv_X11_back (tb_in 1881 (by decide +kernel) (by decide +kernel)) (fun h => sp_X11_back 300 (by decide) h) (by decide) d_law_39 (fun _ => (show 1 + 0 ≤ 8 by decide)) hcs (c_back) hR (fun v h2 hR2 => ?_)
  refine lx_st (st' := [.int v, .int v]) rfl ?_
  exact lx_eq C (off := 30) (t := 1750) (by decide +kernel) (by decide) (kk h2 f hR2)
theorem d_law_40 : dI 1725 1 196 199 5 := ⟨by decide +kernel, dAs_of (by decide +kernel), by decide +kernel, by decide +kernel, dAs_of (by decide +kernel), by decide +kernel⟩
theorem lc_40 (C : LC p l s m meth c b L xs X o cA) (hj : 6 * j + 6 ≤ L) (hcs : cells + 1 ≤ 601024 ∧ slots + 6 ≤ 7293034) (hR : Rel h) (kk : LK p l e s m below meth c b X o cA Q cells slots j) : Lx p l e s m below meth c b X o cA Q cells slots 1725 (LCl b o X j) [] h f := by
  refine lx_wide (Nat.le_succ cells) (Nat.le_add_right slots 6) ?_
  refine lx_two (inj := iI) (dC := 300) (dM := 300) [.int (xs (6 * j + 1))] C hj (by decide) rfl mv_X10_count (tb_in 839 (by decide +kernel) (by decide +kernel)) (fun h => sp_X10_count 300 (by decide) _ h) (by decide) mv_X11_count (tb_in 1885 (by decide +kernel) (by decide +kernel)) (fun h => sp_X11_count 300 (by decide) _ h) (by decide) d_law_40 (fun _ => (show 1 + 0 ≤ 8 by decide)) hcs (c_count _) hR (fun v h2 hR2 => ?_)
  refine lx_st (st' := [.int v, .int v]) rfl ?_
  exact lx_eq C (off := 5) (t := 1750) (by decide +kernel) (by decide) (kk h2 f hR2)
end LXD
