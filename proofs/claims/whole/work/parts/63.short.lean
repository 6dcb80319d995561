/-! shortest ways: rounds over all edges come to rest -/
abbrev Eg : Type := Nat × Nat × Nat
def rlx (d : Nat → Nat) (i j w : Nat) : Nat → Nat := fun v => if v = j ∧ d i + w < d j then d i + w else d v
def wt (e : Eg) : Nat := e.2.2 * 1024 + 1
def rE (d : Nat → Nat) (e : Eg) : Nat → Nat := rlx d e.1 e.2.1 (wt e)
def fxE (E : List Eg) (d : Nat → Nat) : Prop := ∀ e ∈ E, ¬ (d e.1 + wt e < d e.2.1)
def itR (E : List Eg) : Nat → (Nat → Nat) → (Nat → Nat)
  | 0, d => d
  | k + 1, d => E.foldl rE (itR E k d)
theorem rE_le (d : Nat → Nat) (e : Eg) (v : Nat) : rE d e v ≤ d v := by
  unfold rE rlx
  split
  · rename_i h; rw [h.1]; omega
  · exact Nat.le_refl _
theorem fo_le : ∀ (E : List Eg) (d : Nat → Nat) (v : Nat), E.foldl rE d v ≤ d v
  | [], _, _ => Nat.le_refl _
  | e :: E, d, v => Nat.le_trans (fo_le E (rE d e) v) (rE_le d e v)
theorem itR_le (E : List Eg) (d : Nat → Nat) : ∀ (k : Nat) (v : Nat), itR E k d v ≤ d v
  | 0, _ => Nat.le_refl _
  | k + 1, v => Nat.le_trans (fo_le E _ v) (itR_le E d k v)
theorem rE_low {F d : Nat → Nat} {e : Eg} (hf : ¬ (F e.1 + wt e < F e.2.1)) (h : ∀ v, F v ≤ d v) (v : Nat) : F v ≤ rE d e v := by
  unfold rE rlx
  split
  · rename_i q; have := h e.1; rw [q.1]; omega
  · exact h v
theorem fo_low {F : Nat → Nat} : ∀ (E : List Eg) (d : Nat → Nat), (∀ e ∈ E, ¬ (F e.1 + wt e < F e.2.1)) → (∀ v, F v ≤ d v) → ∀ v, F v ≤ E.foldl rE d v
  | [], _, _, h => h
  | e :: E, d, hf, h => fo_low E (rE d e) (fun x hx => hf x (List.mem_cons_of_mem _ hx)) (rE_low (hf e (by simp)) h)
theorem itR_low {F d : Nat → Nat} {E : List Eg} (hf : fxE E F) (h : ∀ v, F v ≤ d v) : ∀ (k : Nat) (v : Nat), F v ≤ itR E k d v
  | 0 => h
  | k + 1 => fo_low E _ hf (itR_low hf h k)
def spE (E : List Eg) (d0 d : Nat → Nat) : Prop := ∀ v, d v = d0 v ∨ ∃ e ∈ E, e.2.1 = v ∧ d e.1 + wt e ≤ d v
theorem spE_r {E : List Eg} {d0 d : Nat → Nat} {e : Eg} (he : e ∈ E) (s : spE E d0 d) : spE E d0 (rE d e) := by
  intro v
  by_cases q : v = e.2.1 ∧ d e.1 + wt e < d e.2.1
  · right
    refine ⟨e, he, q.1.symm, ?_⟩
    have h1 := rE_le d e e.1
    have h2 : rE d e v = d e.1 + wt e := by unfold rE rlx; rw [if_pos q]
    rw [h2]; omega
  · have h2 : rE d e v = d v := by unfold rE rlx; rw [if_neg q]
    rw [h2]
    rcases s v with h | ⟨e', h1, h3, h4⟩
    · exact Or.inl h
    · exact Or.inr ⟨e', h1, h3, by have := rE_le d e e'.1; omega⟩
theorem fo_sp {E0 : List Eg} {d0 : Nat → Nat} : ∀ (E : List Eg) (d : Nat → Nat), (∀ e ∈ E, e ∈ E0) → spE E0 d0 d → spE E0 d0 (E.foldl rE d)
  | [], _, _, s => s
  | e :: E, d, h, s => fo_sp E (rE d e) (fun x hx => h x (List.mem_cons_of_mem _ hx)) (spE_r (h e (by simp)) s)
theorem itR_sp (E : List Eg) (d : Nat → Nat) : ∀ k, spE E d (itR E k d)
  | 0 => fun _ => Or.inl rfl
  | k + 1 => fo_sp E _ (fun _ h => h) (itR_sp E d k)
theorem fo_hit : ∀ (E : List Eg) (d : Nat → Nat) (e : Eg), e ∈ E → E.foldl rE d e.2.1 ≤ d e.1 + wt e
  | [], _, _, h => by cases h
  | x :: E, d, e, h => by
    rcases List.mem_cons.mp h with rfl | h
    · have h1 := fo_le E (rE d e) e.2.1
      have h2 : rE d e e.2.1 ≤ d e.1 + wt e := by
        unfold rE rlx
        split
        · exact Nat.le_refl _
        · rename_i q; simp only [true_and] at q; omega
      exact Nat.le_trans h1 h2
    · have h1 := fo_hit E (rE d x) e h
      have h2 := rE_le d x e.1
      show E.foldl rE (rE d x) e.2.1 ≤ _
      omega
theorem fo_fix : ∀ (E : List Eg) (d : Nat → Nat), fxE E d → E.foldl rE d = d
  | [], _, _ => rfl
  | e :: E, d, h => by
    have h1 : rE d e = d := by
      funext v
      unfold rE rlx
      rw [if_neg (fun q => h e (by simp) q.2)]
    show E.foldl rE (rE d e) = d
    rw [h1]
    exact fo_fix E d fun x hx => h x (List.mem_cons_of_mem _ hx)
theorem fo_stay : ∀ (E : List Eg) (d : Nat → Nat), (∀ v, E.foldl rE d v = d v) → fxE E d
  | [], _, _ => fun _ h => by cases h
  | e :: E, d, h => by
    have h1 : rE d e = d := funext fun v => Nat.le_antisymm (rE_le d e v) (by rw [← h v]; exact fo_le E (rE d e) v)
    intro x hx
    rcases List.mem_cons.mp hx with rfl | hx
    · intro q
      have h2 : rE d x x.2.1 = d x.1 + wt x := by unfold rE rlx; rw [if_pos ⟨rfl, q⟩]
      rw [h1] at h2
      omega
    · refine fo_stay E d (fun v => ?_) x hx
      have := h v
      rw [show (e :: E).foldl rE d = E.foldl rE (rE d e) from rfl, h1] at this
      exact this
def smN (f : Nat → Nat) : Nat → Nat
  | 0 => 0
  | n + 1 => smN f n + f n
theorem smN_le {f g : Nat → Nat} (h : ∀ v, g v ≤ f v) : ∀ n, smN g n ≤ smN f n
  | 0 => Nat.le_refl _
  | n + 1 => Nat.add_le_add (smN_le h n) (h n)
theorem smN_lt {f g : Nat → Nat} (h : ∀ v, g v ≤ f v) : ∀ n v, v < n → g v < f v → smN g n < smN f n
  | 0, v, hv, _ => absurd hv (Nat.not_lt_zero _)
  | n + 1, v, hv, hl => by
    show smN g n + g n < smN f n + f n
    by_cases e : v = n
    · subst e; have := smN_le h v; omega
    · have := smN_lt h n v (by omega) hl; have := h n; omega
theorem fo_out {n : Nat} : ∀ (E : List Eg) (d : Nat → Nat), (∀ e ∈ E, e.2.1 < n) → ∀ v, n ≤ v → E.foldl rE d v = d v
  | [], _, _, _, _ => rfl
  | e :: E, d, h, v, hv => by
    have h1 : rE d e v = d v := by unfold rE rlx; rw [if_neg (fun q => by have := h e (by simp); omega)]
    exact (fo_out E (rE d e) (fun x hx => h x (List.mem_cons_of_mem _ hx)) v hv).trans h1
theorem fix_ex {E : List Eg} {n : Nat} (hE : ∀ e ∈ E, e.2.1 < n) (d0 : Nat → Nat) : ∀ (M k : Nat), smN (itR E k d0) n ≤ M → ∃ k', fxE E (itR E k' d0) := by
  intro M
  induction M with
  | zero =>
    intro k hk
    refine ⟨k, fo_stay E _ fun v => ?_⟩
    by_cases hv : v < n
    · refine Decidable.byContradiction fun q => ?_
      have := smN_lt (fo_le E (itR E k d0)) n v hv (by have := fo_le E (itR E k d0) v; omega)
      omega
    · exact fo_out E _ hE v (by omega)
  | succ M ih =>
    intro k hk
    by_cases q : ∀ v, E.foldl rE (itR E k d0) v = itR E k d0 v
    · exact ⟨k, fo_stay E _ q⟩
    · refine ih (k + 1) ?_
      have : ∃ v, ¬ E.foldl rE (itR E k d0) v = itR E k d0 v := Classical.byContradiction fun z => q fun v => Classical.byContradiction fun y => z ⟨v, y⟩
      obtain ⟨v, hv⟩ := this
      have hvn : v < n := Nat.not_le.mp fun z => hv (fo_out E _ hE v z)
      have := smN_lt (fo_le E (itR E k d0)) n v hvn (by have := fo_le E (itR E k d0) v; omega)
      show smN (E.foldl rE (itR E k d0)) n ≤ M
      omega
def ucN (F d : Nat → Nat) : Nat → Nat
  | 0 => 0
  | n + 1 => ucN F d n + if d n = F n then 0 else 1
theorem uc_le (F d : Nat → Nat) : ∀ n, ucN F d n ≤ n
  | 0 => Nat.le_refl _
  | n + 1 => by
    have := uc_le F d n
    unfold ucN
    split <;> omega
theorem uc_src {F d : Nat → Nat} : ∀ n s, s < n → d s = F s → ucN F d n + 1 ≤ n
  | 0, s, h, _ => absurd h (Nat.not_lt_zero _)
  | n + 1, s, h, e => by
    unfold ucN
    by_cases q : s = n
    · subst q
      have := uc_le F d s
      rw [if_pos e]; omega
    · have := uc_src n s (by omega) e
      split <;> omega
theorem uc_mono {F d d' : Nat → Nat} : ∀ n, (∀ v, v < n → d v = F v → d' v = F v) → ucN F d' n ≤ ucN F d n
  | 0, _ => Nat.le_refl _
  | n + 1, h => by
    have h1 := uc_mono n fun v hv => h v (by omega)
    unfold ucN
    by_cases q : d n = F n
    · rw [if_pos q, if_pos (h n (by omega) q)]; omega
    · rw [if_neg q]; split <;> omega
theorem uc_less {F d d' : Nat → Nat} : ∀ n v, (∀ v, v < n → d v = F v → d' v = F v) → v < n → ¬ d v = F v → d' v = F v → ucN F d' n < ucN F d n
  | 0, v, _, hv, _, _ => absurd hv (Nat.not_lt_zero _)
  | n + 1, v, h, hv, q1, q2 => by
    have h1 := uc_mono n fun v hv => h v (by omega)
    unfold ucN
    by_cases e : v = n
    · subst e
      rw [if_neg q1, if_pos q2]; omega
    · have h2 := uc_less n v (fun v hv => h v (by omega)) (by omega) q1 q2
      by_cases q : d n = F n
      · rw [if_pos q, if_pos (h n (by omega) q)]; omega
      · rw [if_neg q]; split <;> omega
theorem uc_zero {F d : Nat → Nat} : ∀ n, ucN F d n = 0 → ∀ v, v < n → d v = F v
  | 0, _, v, hv => absurd hv (Nat.not_lt_zero _)
  | n + 1, h, v, hv => by
    unfold ucN at h
    by_cases e : v = n
    · subst e
      refine Decidable.byContradiction fun q => ?_
      rw [if_neg q] at h; omega
    · exact uc_zero n (by omega) v (by omega)
theorem uc_pos {F d : Nat → Nat} : ∀ n, ucN F d n ≠ 0 → ∃ v, v < n ∧ ¬ d v = F v
  | 0, h => absurd rfl h
  | n + 1, h => by
    unfold ucN at h
    by_cases e : d n = F n
    · rw [if_pos e] at h
      obtain ⟨v, h1, h2⟩ := uc_pos n (by omega)
      exact ⟨v, by omega, h2⟩
    · exact ⟨n, by omega, e⟩
theorem least_of (Q : Nat → Prop) (F : Nat → Nat) : ∀ (M v : Nat), F v ≤ M → Q v → ∃ v, Q v ∧ ∀ u, Q u → F v ≤ F u := by
  intro M
  induction M with
  | zero => intro v hv q; exact ⟨v, q, fun u _ => by omega⟩
  | succ M ih =>
    intro v hv q
    by_cases z : ∃ u, Q u ∧ F u < F v
    · obtain ⟨u, h1, h2⟩ := z
      exact ih u (by omega) h1
    · exact ⟨v, q, fun u hu => Nat.not_lt.mp fun y => z ⟨u, hu, y⟩⟩
theorem rounds_fix {E : List Eg} {n : Nat} (hE : ∀ e ∈ E, e.1 < n ∧ e.2.1 < n) {d0 : Nat → Nat} {s : Nat} (hs : s < n) (h0 : d0 s = 0) : fxE E (itR E (n - 1) d0) := by
  obtain ⟨k, hk⟩ := fix_ex (fun e he => (hE e he).2) d0 _ 0 (Nat.le_refl _)
  obtain ⟨F, hF⟩ : ∃ F, F = itR E k d0 := ⟨_, rfl⟩
  rw [← hF] at hk
  have hle : ∀ v, F v ≤ d0 v := by rw [hF]; exact itR_le E d0 k
  have hsp : spE E d0 F := by rw [hF]; exact itR_sp E d0 k
  have key : ∀ r, ucN F (itR E r d0) n ≤ n - 1 - r := by
    intro r
    induction r with
    | zero =>
      have := uc_src (F := F) (d := d0) n s hs (by have := hle s; omega)
      show ucN F d0 n ≤ n - 1 - 0
      omega
    | succ r ih =>
      have low := itR_low (E := E) hk hle
      have stay : ∀ v, v < n → itR E r d0 v = F v → itR E (r + 1) d0 v = F v := fun v _ e => Nat.le_antisymm (by rw [← e]; exact fo_le E _ v) (low (r + 1) v)
      by_cases z : ucN F (itR E r d0) n = 0
      · have := uc_mono n stay
        omega
      · obtain ⟨v, v1, v2⟩ := uc_pos n z
        obtain ⟨v, ⟨v1, v2⟩, v3⟩ := least_of (fun v => v < n ∧ ¬ itR E r d0 v = F v) F _ v (Nat.le_refl _) ⟨v1, v2⟩
        have h1 : ¬ F v = d0 v := fun e => v2 (Nat.le_antisymm (by rw [e]; exact itR_le E d0 r v) (low r v))
        obtain ⟨e, e1, e2, e3⟩ := (hsp v).resolve_left h1
        have hw : 1 ≤ wt e := by unfold wt; omega
        have h2 : itR E r d0 e.1 = F e.1 := Decidable.byContradiction fun q => by
          have := v3 e.1 ⟨(hE e e1).1, q⟩
          omega
        have h3 : itR E (r + 1) d0 v = F v := by
          refine Nat.le_antisymm ?_ (low (r + 1) v)
          have := fo_hit E (itR E r d0) e e1
          rw [e2, h2] at this
          exact Nat.le_trans this e3
        have := uc_less n v stay v1 v2 h3
        omega
  have z := uc_zero n (by have := key (n - 1); omega) (F := F) (d := itR E (n - 1) d0)
  intro e he
  rw [z _ (hE e he).1, z _ (hE e he).2]
  exact hk e he
/-- a round, and whether anything came of it -/
def rnB (p : Bool × (Nat → Nat)) (e : Eg) : Bool × (Nat → Nat) := (p.1 || decide (p.2 e.1 + wt e < p.2 e.2.1), rE p.2 e)
theorem rnB_2 : ∀ (E : List Eg) (p : Bool × (Nat → Nat)), (E.foldl rnB p).2 = E.foldl rE p.2
  | [], _ => rfl
  | e :: E, p => rnB_2 E (rnB p e)
theorem rnB_t : ∀ (E : List Eg) (p : Bool × (Nat → Nat)), p.1 = true → (E.foldl rnB p).1 = true
  | [], _, h => h
  | e :: E, p, h => rnB_t E (rnB p e) (by show (p.1 || _) = true; rw [h]; rfl)
theorem rnB_fix : ∀ (E : List Eg) (p : Bool × (Nat → Nat)), fxE E p.2 → (E.foldl rnB p).1 = p.1
  | [], _, _ => rfl
  | e :: E, p, h => by
    have h1 : rE p.2 e = p.2 := by
      funext v
      unfold rE rlx
      rw [if_neg (fun q => h e (by simp) q.2)]
    have h2 : rnB p e = p := by
      unfold rnB
      rw [h1, decide_eq_false (h e (by simp)), Bool.or_false]
    show (E.foldl rnB (rnB p e)).1 = p.1
    rw [h2]
    exact rnB_fix E p fun x hx => h x (List.mem_cons_of_mem _ hx)
theorem rnB_f : ∀ (E : List Eg) (p : Bool × (Nat → Nat)), (E.foldl rnB p).1 = false → fxE E p.2
  | [], _, _ => fun _ h => by cases h
  | e :: E, p, h => by
    have h' : (E.foldl rnB (rnB p e)).1 = false := h
    have q : ¬ (p.2 e.1 + wt e < p.2 e.2.1) := fun q => by
      have := rnB_t E (rnB p e) (by show (p.1 || _) = true; rw [decide_eq_true q, Bool.or_true])
      rw [this] at h'; cases h'
    have h1 : rE p.2 e = p.2 := by
      funext v
      unfold rE rlx
      rw [if_neg (fun z => q z.2)]
    have h2 := rnB_f E (rnB p e) h'
    have h3 : (rnB p e).2 = p.2 := h1
    rw [h3] at h2
    intro x hx
    rcases List.mem_cons.mp hx with rfl | hx
    · exact q
    · exact h2 x hx
theorem itR_fix {E : List Eg} {d : Nat → Nat} {k : Nat} (h : fxE E (itR E k d)) : ∀ j, itR E (k + j) d = itR E k d
  | 0 => rfl
  | j + 1 => by
    show E.foldl rE (itR E (k + j) d) = _
    rw [itR_fix h j]
    exact fo_fix E _ h
