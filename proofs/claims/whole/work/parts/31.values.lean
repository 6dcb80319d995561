/-! the values of an E: one sign -/
abbrev eM : Int64 := -9223372036854775808
abbrev tB : Int64 := 1000000000000
def okV (v : Int64) : Prop := -1000000000000 ≤ v.toInt ∧ v.toInt ≤ 1000000000000
theorem bm64 {x : Int} (h1 : -9223372036854775808 ≤ x) (h2 : x < 9223372036854775808) : x.bmod (2 ^ 64) = x := by
  have e : ((2 ^ 64 : Nat) : Int) = 18446744073709551616 := by decide
  rw [Int.bmod_def, e]
  split <;> omega
theorem ti_add {a b : Int64} (ha : okV a) (hb : okV b) : (a + b).toInt = a.toInt + b.toInt := by
  unfold okV at ha hb
  rw [Int64.toInt_add, bm64] <;> omega
theorem ti_sub {a b : Int64} (ha : okV a) (hb : okV b) : (a - b).toInt = a.toInt - b.toInt := by
  unfold okV at ha hb
  rw [Int64.toInt_sub, bm64] <;> omega
theorem ti_neg {a : Int64} (ha : okV a) : (-a).toInt = -a.toInt := by
  unfold okV at ha
  rw [Int64.toInt_neg, bm64] <;> omega
theorem ti_B : tB.toInt = 1000000000000 := by decide
theorem ti_nB : (-1000000000000 : Int64).toInt = -1000000000000 := by decide
theorem ti_M : eM.toInt = -9223372036854775808 := by decide
theorem ti_0 : (0 : Int64).toInt = 0 := by decide
theorem ti_1 : (1 : Int64).toInt = 1 := by decide
theorem okV_0 : okV 0 := by unfold okV; rw [ti_0]; omega
theorem okV_1 : okV 1 := by unfold okV; rw [ti_1]; omega
theorem okV_ne {a : Int64} (ha : okV a) : a ≠ eM := by
  intro e
  unfold okV at ha
  rw [e, ti_M] at ha
  omega
theorem i64_eq {a b : Int64} (h : a.toInt = b.toInt) : a = b := Int64.toInt_inj.mp h
theorem lc_pos (x y : Int64) : (0 < lg_cmp x y) = (y.toInt < x.toInt) := propext ((lg_cmp_gt x y).trans Int64.lt_iff_toInt_lt)
theorem lc_neg (x y : Int64) : (lg_cmp x y < 0) = (x.toInt < y.toInt) := propext ((lg_cmp_lt x y).trans Int64.lt_iff_toInt_lt)
theorem lc_eq (x y : Int64) : (lg_cmp x y = 0) = (x = y) := by
  unfold lg_cmp
  split
  · rename_i h
    have : x ≠ y := fun e => by rw [e] at h; exact absurd h (by simp [Int64.lt_iff_toInt_lt])
    simp [this]
  · split
    · rename_i h; simp [h]
    · rename_i h; simp [h]
/-- the room of a factor -/
def rmM (a : Int64) : Int64 := if a = 0 then tB else tB / (if a.toInt < 0 then -a else a)
theorem ab_ti {a : Int64} (ha : okV a) : (if a.toInt < 0 then -a else a).toInt = (a.toInt.natAbs : Int) := by
  split
  · rw [ti_neg ha]; omega
  · omega
theorem td_ti {x : Int64} (hx : 0 < x.toInt) : (tB / x).toInt = 1000000000000 / x.toInt := by
  rw [Int64.toInt_div, ti_B, Int.tdiv_eq_ediv_of_nonneg (by omega), bm64]
  · have := Int.ediv_nonneg (a := 1000000000000) (b := x.toInt) (by omega) (by omega); omega
  · have := Int.ediv_le_self (a := 1000000000000) x.toInt (by omega); omega
theorem rm_ok {a : Int64} (ha : okV a) : 0 ≤ (rmM a).toInt ∧ (rmM a).toInt ≤ 1000000000000 := by
  unfold rmM
  split
  · rw [ti_B]; omega
  · rename_i h0
    have hne : a.toInt ≠ 0 := fun e => h0 (i64_eq (e.trans ti_0.symm))
    have h1 := ab_ti ha
    have hp : 0 < (if a.toInt < 0 then -a else a).toInt := by rw [h1]; omega
    rw [td_ti hp]
    refine ⟨Int.ediv_nonneg (by omega) (by omega), ?_⟩
    have := Int.ediv_le_self (a := 1000000000000) ((if a.toInt < 0 then -a else a).toInt) (by omega)
    omega
theorem mul_ok {a b : Int64} (ha : okV a) (h1 : b.toInt ≤ (rmM a).toInt) (h2 : -(rmM a).toInt ≤ b.toInt) : okV (a * b) ∧ (a * b).toInt = a.toInt * b.toInt := by
  have key : -1000000000000 ≤ a.toInt * b.toInt ∧ a.toInt * b.toInt ≤ 1000000000000 := by
    by_cases h0 : a = 0
    · rw [h0, ti_0]; simp
    · have hne : a.toInt ≠ 0 := fun e => h0 (i64_eq (e.trans ti_0.symm))
      have e1 := ab_ti ha
      have hp : 0 < (if a.toInt < 0 then -a else a).toInt := by rw [e1]; omega
      have er : (rmM a).toInt = 1000000000000 / (a.toInt.natAbs : Int) := by
        unfold rmM
        rw [if_neg h0, td_ti hp, e1]
      rw [er] at h1 h2
      have hm : (a.toInt.natAbs : Int) * (b.toInt.natAbs : Int) ≤ 1000000000000 := by
        have hb : (b.toInt.natAbs : Int) ≤ 1000000000000 / (a.toInt.natAbs : Int) := by omega
        have h3 : (a.toInt.natAbs : Int) * (b.toInt.natAbs : Int) ≤ (a.toInt.natAbs : Int) * (1000000000000 / (a.toInt.natAbs : Int)) := Int.mul_le_mul_of_nonneg_left hb (by omega)
        have h4 := Int.mul_ediv_self_le (x := 1000000000000) (k := (a.toInt.natAbs : Int)) (by omega)
        omega
      have h5 : ((a.toInt * b.toInt).natAbs : Int) ≤ 1000000000000 := by rw [Int.natAbs_mul]; push_cast; exact hm
      omega
  have e : (a * b).toInt = a.toInt * b.toInt := by rw [Int64.toInt_mul, bm64] <;> omega
  exact ⟨by unfold okV; rw [e]; exact key, e⟩
theorem div_ok {a b : Int64} (ha : okV a) (hb : b ≠ 0) : okV (a / b) := by
  unfold okV at ha ⊢
  have hb0 : b.toInt ≠ 0 := fun e => hb (i64_eq (e.trans ti_0.symm))
  have h1 : (a.toInt.tdiv b.toInt).natAbs ≤ a.toInt.natAbs := Int.natAbs_tdiv_le_natAbs _ _
  rw [Int64.toInt_div, bm64] <;> omega
def bz (p : Prop) [Decidable p] : Int64 := if p then 1 else 0
theorem bz_ok (p : Prop) [Decidable p] : okV (bz p) := by 
  unfold bz
  split
  · exact okV_1
  · exact okV_0
def clV (v : Int64) : Int64 := if 1000000000000 < v.toInt then eM else if v.toInt < -1000000000000 then eM else v
/-- a sign over two values; eM: an ERROR -/
def jS (k : Int32) (a b : Int64) : Int64 :=
  if k = 7 then bz (a.toInt < b.toInt) else if k = 8 then bz (¬ b.toInt < a.toInt) else if k = 9 then bz (a = b) else if k = 10 then bz (¬ a = b)
  else if k = 11 then bz (¬ a.toInt < b.toInt) else if k = 12 then bz (b.toInt < a.toInt)
  else if k = 13 then clV (a + b) else if k = 14 then clV (a - b)
  else if k = 15 then (if (rmM a).toInt < b.toInt then eM else if b.toInt < -(rmM a).toInt then eM else a * b)
  else if k = 16 then (if b = 0 then eM else a / b)
  else if k = 31 then bz (¬ a = 0 ∧ ¬ b = 0) else bz (¬ a = 0 ∨ ¬ b = 0)
theorem clV_ok (v : Int64) : clV v = eM ∨ okV (clV v) := by
  unfold clV okV
  split
  · exact Or.inl rfl
  · split
    · exact Or.inl rfl
    · exact Or.inr (by omega)
theorem jS_ok (k : Int32) {a b : Int64} (ha : okV a) (hb : okV b) : jS k a b = eM ∨ okV (jS k a b) := by
  unfold jS
  by_cases k7 : k = 7
  · rw [if_pos k7]; exact Or.inr (bz_ok _)
  rw [if_neg k7]
  by_cases k8 : k = 8
  · rw [if_pos k8]; exact Or.inr (bz_ok _)
  rw [if_neg k8]
  by_cases k9 : k = 9
  · rw [if_pos k9]; exact Or.inr (bz_ok _)
  rw [if_neg k9]
  by_cases k10 : k = 10
  · rw [if_pos k10]; exact Or.inr (bz_ok _)
  rw [if_neg k10]
  by_cases k11 : k = 11
  · rw [if_pos k11]; exact Or.inr (bz_ok _)
  rw [if_neg k11]
  by_cases k12 : k = 12
  · rw [if_pos k12]; exact Or.inr (bz_ok _)
  rw [if_neg k12]
  by_cases k13 : k = 13
  · rw [if_pos k13]; exact clV_ok _
  rw [if_neg k13]
  by_cases k14 : k = 14
  · rw [if_pos k14]; exact clV_ok _
  rw [if_neg k14]
  by_cases k15 : k = 15
  · rw [if_pos k15]
    by_cases c1 : (rmM a).toInt < b.toInt
    · rw [if_pos c1]; exact Or.inl rfl
    · rw [if_neg c1]
      by_cases c2 : b.toInt < -(rmM a).toInt
      · rw [if_pos c2]; exact Or.inl rfl
      · rw [if_neg c2]; exact Or.inr (mul_ok ha (by omega) (by omega)).1
  rw [if_neg k15]
  by_cases k16 : k = 16
  · rw [if_pos k16]
    by_cases c1 : b = 0
    · rw [if_pos c1]; exact Or.inl rfl
    · rw [if_neg c1]; exact Or.inr (div_ok ha c1)
  rw [if_neg k16]
  by_cases k31 : k = 31
  · rw [if_pos k31]; exact Or.inr (bz_ok _)
  · rw [if_neg k31]; exact Or.inr (bz_ok _)
theorem x_joined (k : Int32) {a b : Int64} (ha : okV a) (hb : okV b) (h : HH) : g_X0_joined k a b h = some (jS k a b, h) := by
  unfold g_X0_joined jS
  simp only [lc_pos, lc_neg, lc_eq, jn, dvL, ti_B, ti_nB, ti_0]
  by_cases k7 : k = 7
  · simp only [k7, if_true, bz]; split <;> rfl
  rw [if_neg k7, if_neg k7]
  by_cases k8 : k = 8
  · simp only [k8, if_true, bz]; split <;> simp [*]
  rw [if_neg k8, if_neg k8]
  by_cases k9 : k = 9
  · simp only [k9, if_true, bz]; split <;> rfl
  rw [if_neg k9, if_neg k9]
  by_cases k10 : k = 10
  · simp only [k10, if_true, bz]; split <;> simp [*]
  rw [if_neg k10, if_neg k10]
  by_cases k11 : k = 11
  · simp only [k11, if_true, bz]; split <;> simp [*]
  rw [if_neg k11, if_neg k11]
  by_cases k12 : k = 12
  · simp only [k12, if_true, bz]; split <;> rfl
  rw [if_neg k12, if_neg k12]
  by_cases k13 : k = 13
  · simp only [k13, if_true, clV]; split; rfl; split <;> rfl
  rw [if_neg k13, if_neg k13]
  by_cases k14 : k = 14
  · simp only [k14, if_true, clV]; split; rfl; split <;> rfl
  rw [if_neg k14, if_neg k14]
  by_cases k15 : k = 15
  · simp only [k15, if_true]
    have hr := rm_ok ha
    have hro : okV (rmM a) := by unfold okV; omega
    have e9 := ti_neg hro
    unfold rmM at hr e9 ⊢
    by_cases h0 : a = 0
    · simp only [h0, if_true] at hr e9 ⊢
      simp only [ti_B]
      split; rfl; split <;> rfl
    · have hne : a.toInt ≠ 0 := fun e => h0 (i64_eq (e.trans ti_0.symm))
      rw [if_neg h0] at hr e9 ⊢
      rw [if_neg h0]
      by_cases hl : a.toInt < 0
      · simp only [hl, if_true] at hr e9 ⊢
        have hz : ¬ -a = 0 := fun e => by
          have := ti_neg ha
          rw [e, ti_0] at this
          omega
        rw [if_neg hz, e9]
        split; rfl; split <;> rfl
      · simp only [hl, if_false] at hr e9 ⊢
        rw [if_neg h0, e9]
        split; rfl; split <;> rfl
  rw [if_neg k15, if_neg k15]
  by_cases k16 : k = 16
  · simp only [k16, if_true]; split <;> rfl
  rw [if_neg k16, if_neg k16]
  by_cases k31 : k = 31
  · simp only [k31, if_true, bz]
    by_cases a0 : a = 0
    · simp [a0]
    · by_cases b0 : b = 0 <;> simp [a0, b0]
  rw [if_neg k31, if_neg k31]
  by_cases a0 : a = 0
  · by_cases b0 : b = 0 <;> simp [a0, b0, bz]
  · simp [a0, bz]
