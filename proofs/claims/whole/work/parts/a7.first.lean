/-! the first heap: class and reference tell alike -/
def z0T : TB := fun _ _ => 0
theorem z0_sG : sG z0T 0 0 := ⟨fun a ha => absurd ha (Nat.not_lt_zero _), fun j _ => by show inB (0 : Int32); unfold inB; decide, fun _ _ _ => ⟨rfl, rfl, rfl, rfl⟩, 0, by decide, rfl⟩
theorem z0_PW : PW z0T 0 0 0 0 := by
  refine ⟨⟨by decide, by decide, by decide, by decide, rfl, rfl, fun g hg => absurd hg (Nat.not_lt_zero _), fun l hl => absurd hl (Nat.not_lt_zero _)⟩, fun r _ => ⟨0, 0, rfl, rfl, ⟨by decide, by decide, fun h => absurd h (Nat.lt_irrefl _)⟩, fun i hi => absurd hi (Nat.not_lt_zero _)⟩, rfl, rfl, ⟨0, by decide, rfl⟩, fun a ha => absurd ha (Nat.not_lt_zero _), fun a ha => absurd ha (Nat.not_lt_zero _), fun a ha => absurd ha (Nat.not_lt_zero _), z0_sG, fun _ _ => ⟨rfl, rfl, rfl⟩, rfl, fun _ _ _ => rfl⟩
theorem hI_0 {a : Nat} (k : Nat) (h1 : a ≠ 186) (h2 : a ≠ 224) (h3 : a ≠ 255) : hI.1 a k = 0 := congrFun (hI_z a h1 h2 h3).1 k
theorem rel_first : ∃ h1, g_X11_begins hI = some ((), h1) ∧ Rel h1 := by
  obtain ⟨h1, b1, b2, b3, b4⟩ := r_starts (s := 0) (np := 0) (who := -1) (wh := -1) (tr := 0) (T := z0T) (h := hI) (by decide) (by decide) rfl rfl rfl rfl (fun p f _ _ => rfl) (fun a ha => absurd ha (Nat.not_lt_zero _)) ⟨rfl, rfl⟩
  have e : ∀ a k, ¬ (276 ≤ a ∧ a ≤ 282) → h1.1 a k = hI.1 a k := fun a k h => b3 a k (by unfold inH; omega)
  have e0 : ∀ a k, ¬ (276 ≤ a ∧ a ≤ 282) → a ≠ 186 → a ≠ 224 → a ≠ 255 → h1.1 a k = 0 := fun a k h h1 h2 h3 => (e a k h).trans (hI_0 k h1 h2 h3)
  have e5 : ∀ k v, hI.1 255 k = v → h1.1 255 k = v := fun k v h => (e 255 k (by omega)).trans h
  refine ⟨h1, ?_, z0T, z0T, 0, 0, 0, 0, none, [], 0, -1, z0T, 0, fun _ => 0, 0, -1, ⟨z0_PW, z0_sG, (fun I q => nomatch q), (fun I q => nomatch q), by decide, Or.inl rfl, fun i hi => absurd hi (Nat.not_lt_zero _)⟩, ⟨⟨2, Or.inl rfl, by rw [b4]; rfl, by rw [b4]; rfl, fun o k ho => e0 _ _ (by omega) (by omega) (by omega) (by omega), fun o k ho => e0 _ _ (by omega) (by omega) (by omega) (by omega), fun a ha => ?_⟩, ⟨e0 _ _ (by omega) (by omega) (by omega) (by omega), (fun I q => nomatch q)⟩, ⟨0, by decide, e0 _ _ (by omega) (by omega) (by omega) (by omega), e0 _ _ (by omega) (by omega) (by omega) (by omega), by decide, (fun i I q => nomatch q)⟩, ⟨(e _ _ (by omega)).trans rfl, (e _ _ (by omega)).trans rfl, fun i hi => absurd hi (Nat.not_lt_zero _)⟩, ⟨e0 _ _ (by omega) (by omega) (by omega) (by omega), by decide, fun i hi => absurd hi (Nat.not_lt_zero _)⟩, ⟨e0 _ _ (by omega) (by omega) (by omega) (by omega), fun h => absurd rfl h, fun _ => rfl⟩⟩, ⟨⟨⟨?_, ?_, ?_, ?_, ?_, fun f hf => absurd hf (Nat.not_lt_zero _), fun f hf => absurd hf (Nat.not_lt_zero _), fun f hf => absurd hf (Nat.not_lt_zero _), fun f hf => absurd hf (Nat.not_lt_zero _), fun r hr => ⟨?_, ?_, fun i hi => absurd hi (Nat.not_lt_zero _)⟩⟩, b2, e5 45 _ rfl, e5 48 _ rfl, e5 49 _ rfl, fun f hf => absurd hf (Nat.not_lt_zero _), fun k hk => absurd hk (Nat.not_lt_zero _), ?_, ?_⟩, ⟨e5 43 _ rfl, (fun I q => nomatch q)⟩, ⟨e5 44 _ rfl, (fun i I q => nomatch q)⟩, ⟨e5 56 _ rfl, e5 57 _ rfl, fun i hi => absurd hi (Nat.not_lt_zero _)⟩, ⟨e5 2 _ rfl, fun i hi => absurd hi (Nat.not_lt_zero _)⟩, e5 29 _ rfl, e5 30 _ rfl⟩⟩
  · unfold g_X11_begins
    rw [show (0 : Int32) = nI 0 from rfl, b1]
    rfl
  · rw [e 224 a (by omega)]
    show (if a < 6 then nI 99 else 0) = 99
    rw [if_pos ha]
    rfl
  all_goals exact e0 _ _ (by omega) (by omega) (by omega) (by omega)
