theorem fun8 {f g : Nat → Int32} (h : ∀ j, j < 40 → f j = g j) (h1 : ∀ j, 40 ≤ j → f j = 0) (h2 : ∀ j, 40 ≤ j → g j = 0) : f = g := by
  funext j
  by_cases hj : j < 40
  · exact h j hj
  · rw [h1 j (by omega), h2 j (by omega)]
theorem RR_z0 : RR z0 z0 := by
  refine ⟨⟨⟨?_, ?_, ?_, ?_, ?_, ?_, ?_, ?_, ?_, ?_, ?_⟩, rfl, rfl, rfl, rfl, ?_, ?_, rfl⟩, ⟨rfl, rfl, ?_⟩, ⟨rfl, rfl, ?_, ?_⟩, ⟨rfl, rfl, Or.inl rfl⟩, ⟨?_, rfl, ?_, fun i _ => rfl, fun i _ => rfl, fun i _ => rfl, fun i _ => rfl⟩, ?_, ⟨rfl, rfl, ?_⟩, ⟨rfl, Or.inl rfl, fun h => absurd h (by decide)⟩, ?_⟩
  · exact lt_nI (n := 0) (by decide) (by decide)
  · exact lt_nI (n := 0) (by decide) (by decide)
  · exact fun p _ => lt_nI (n := 0) (by decide) (by decide)
  · exact fun p q _ _ => by show Nat.testBit 0 q = Nat.testBit 0 p; rw [Nat.zero_testBit, Nat.zero_testBit]
  · exact fun p q _ _ h => by have h : Nat.testBit 0 q = true := h; rw [Nat.zero_testBit] at h; cases h
  · exact fun p _ => lt_nI (n := 0) (by decide) (by decide)
  · exact fun p _ _ => rfl
  · exact fun p q _ _ => ⟨lt_nI (n := 0) (by decide) (by decide), rfl, rfl, fun _ => rfl⟩
  · intro j hj
    rcases (show j = 0 ∨ j = 1 ∨ j = 2 ∨ j = 3 ∨ j = 4 ∨ j = 5 ∨ j = 6 ∨ j = 7 by omega) with rfl | rfl | rfl | rfl | rfl | rfl | rfl | rfl
    · exact lt_nI (n := 5) (by decide) (by decide)
    · exact lt_nI (n := 30) (by decide) (by decide)
    · exact lt_nI (n := 2) (by decide) (by decide)
    · exact lt_nI (n := 4) (by decide) (by decide)
    · exact lt_nI (n := 1) (by decide) (by decide)
    · exact lt_nI (n := 1) (by decide) (by decide)
    · exact lt_nI (n := 0) (by decide) (by decide)
    · exact lt_nI (n := 2) (by decide) (by decide)
  · exact fun i hi => Or.inl (if_pos hi)
  · exact fun d _ => lt_nI (n := 0) (by decide) (by decide)
  · refine fun8 (by decide +kernel) (fun j hj => ?_) (fun j hj => ?_)
    · show upd _ _ _ j = 0
      simp only [upd]
      repeat' rw [if_neg (by omega)]
    · exact (pk_cpy_out (f := fun j => cST0.getD j 0) (g := fun _ => 0) (sp := 0) (dp := 0) (n := 8) (j := j) (Or.inr (by omega))).trans rfl
  · rfl
  · refine ⟨lt_nI (n := 0) (by decide) (by decide), fun j _ => ⟨rfl, rfl, lt_nI (n := 0) (by decide) (by decide), fun h => absurd h (Nat.not_lt_zero _)⟩⟩
  · exact lt_nI (n := 0) (by decide) (by decide)
  · exact fun i _ => lt_nI (n := 0) (by decide) (by decide)
  · refine fun8 (by decide +kernel) (fun j hj => ?_) (fun j hj => ?_)
    · show upd _ _ _ j = 0
      simp only [upd]
      repeat' rw [if_neg (by omega)]
    · exact if_neg (by omega)
  · exact fun k hk => ⟨Or.inl (if_pos hk), lt_nI (n := 0) (by decide) (by decide)⟩
  · refine fun k hk => Or.inr (Or.inr ?_)
    rcases (show k = 0 ∨ k = 1 ∨ k = 2 ∨ k = 3 by omega) with rfl | rfl | rfl | rfl <;> exact ⟨rfl, rfl⟩
  · exact lt_nI (n := 0) (by decide) (by decide)
  · refine fun8 (by decide +kernel) (fun j hj => ?_) (fun j hj => ?_)
    · show upd _ _ _ j = 0
      simp only [upd]
      repeat' rw [if_neg (by omega)]
    · show cST1.getD j 0 = 0
      rw [List.getD_eq_getElem?_getD, List.getElem?_eq_none (by show 8 ≤ j; omega)]
      rfl
