theorem cut (x : Int32) (k : Nat) (hk : k < 2 ^ 30) : (∃ j, j < k ∧ x = nI j ∧ fM_in x 0 (nI k - 1) = 1 ∧ ¬ x < 0 ∧ x < nI k ∧ ¬ nI k ≤ x) ∨ (fM_in x 0 (nI k - 1) = 0 ∧ (x < 0 ∨ (¬ x < 0 ∧ ¬ x < nI k ∧ nI k ≤ x))) := by
  rcases pk_ix x (n := k) (by omega) with h | h | ⟨j, hj, rfl⟩
  · exact Or.inr ⟨in_lo h, Or.inl h⟩
  · refine Or.inr ?_
    have h1 := Int32.le_iff_toInt_le.mp h
    rw [nI_toInt (by omega)] at h1
    have hlt : ¬ x < nI k := fun e => by
      have := Int32.lt_iff_toInt_lt.mp e
      rw [nI_toInt (by omega)] at this
      omega
    have h0 : ¬ x < 0 := fun e => by
      have := Int32.lt_iff_toInt_lt.mp e
      have h0 : (0 : Int32).toInt = 0 := rfl
      omega
    refine ⟨in_hi ?_, Or.inr ⟨h0, hlt, h⟩⟩
    cases k with
    | zero => exact Int32.lt_of_lt_of_le (by decide) (Int32.not_lt.mp h0)
    | succ m =>
      rw [show nI (m + 1) - 1 = nI m from pk_sub (a := m + 1) (b := 1) (by omega)]
      exact Int32.lt_of_lt_of_le (nI_lt (by omega) (by omega)) h
  · refine Or.inl ⟨j, hj, rfl, ?_, nI_pos (by omega), nI_lt hj (by omega), nI_ge hj (by omega)⟩
    rw [show nI k - 1 = nI (k - 1) from pk_sub (a := k) (b := 1) (by omega)]
    exact in_ok (by omega) (by omega)
theorem o_trace (z : MS) (h : RR z z) (a0 : Int32) : O1 (fT_trace · a0) (fM_trace · a0) z := by
  obtain ⟨e1, e2, e3⟩ := h.2.2.2.2.2.2.1
  obtain ⟨k, hk, ek, -⟩ := lt_ex e3
  rw [ek] at e2
  rcases cut a0 k (by omega) with ⟨j, hj, rfl, c1, c2, c3, c4⟩ | ⟨c1, c2⟩
  · have hj30 : j < 30 := by omega
    refine ⟨gI z 33 j, ?_, ?_⟩
    · simp only [fT_trace, ek, c2, c3, if_false, if_true, ix_f hj30, nI_clamp (show j < 2 ^ 31 by omega)]
    · simp only [fM_trace, e2, c1, c2, one_ne, e1, if_false, ix_f hj30, nI_clamp (show j < 2 ^ 31 by omega)]
  · refine ⟨-3, ?_, ?_⟩
    · rcases c2 with c2 | ⟨c2, c3, -⟩
      · simp only [fT_trace, c2, if_true]
      · simp only [fT_trace, ek, c2, c3, if_false]
    · simp only [fM_trace, e2, c1, if_true]
theorem plan_has {c m : MS} (h : RR c m) (x : Int32) : (∃ j, j < cl (gI c 26 3) ∧ j < 4 ∧ x = nI j ∧ fPlans_has c x = 1 ∧ fM_isPlan m x = 1) ∨ (fPlans_has c x = 0 ∧ fM_isPlan m x = 0 ∧ ¬ ∃ j, j < cl (gI c 26 3) ∧ x = nI j) := by
  obtain ⟨e1, -, e3⟩ := h.2.1
  obtain ⟨k, hk, ek, ec⟩ := lt_ex e3.1
  rw [ek] at e1
  rw [ec]
  unfold fPlans_has fM_isPlan
  rw [e1, ek]
  rcases cut x k (by omega) with ⟨j, hj, rfl, c1, c2, c3, c4⟩ | ⟨c1, c2⟩
  · exact Or.inl ⟨j, hj, by omega, rfl, by rw [if_neg c2, if_neg c4], c1⟩
  · refine Or.inr ⟨?_, c1, ?_⟩
    · rcases c2 with c2 | ⟨c2, -, c3⟩
      · rw [if_pos c2]
      · rw [if_neg c2, if_pos c3]
    · rintro ⟨j, hj, rfl⟩
      rcases c2 with c2 | ⟨-, c2, -⟩
      · exact nI_pos (by omega) c2
      · exact c2 (nI_lt hj (by omega))
theorem o_planOf (z : MS) (h : RR z z) (a0 a1 : Int32) : O1 (fT_planOf · a0 a1) (fM_planOf · a0 a1) z := by
  rcases plan_has h a0 with ⟨j, -, hj, rfl, c1, c2⟩ | ⟨c1, c2, -⟩
  · obtain ⟨m1, m2, -⟩ := h.2.1.2.2.2 j hj
    by_cases h1 : ∃ d, d < 2 ∧ a1 = nI d
    · obtain ⟨d, hd, rfl⟩ := h1
      have ht : (2 * nI j + nI d : Int32) = nI (2 * j + d) := by
        rw [show (2 : Int32) = nI 2 from rfl, pk_mul, nI_add]
      have h8 : 2 * j + d < 8 := by omega
      rcases (show d = 0 ∨ d = 1 by omega) with rfl | rfl
      · refine ⟨gI z 27 j, ?_, ?_⟩
        · simp only [fT_planOf, c1, one_ne, if_false, ix_n hj (show 4 ≤ 2 ^ 31 by omega), ix_f hj, nI_clamp (show j < 2 ^ 31 by omega)]
          rfl
        · simp only [fM_planOf, c2, (side_yes hd).2, one_ne, if_false, ht, ix_n h8 (show 8 ≤ 2 ^ 31 by omega), ix_f h8, nI_clamp (show 2 * j + 0 < 2 ^ 31 by omega)]
          exact congrArg some m1
      · refine ⟨gI z 28 j, ?_, ?_⟩
        · simp only [fT_planOf, c1, one_ne, if_false, ix_n hj (show 4 ≤ 2 ^ 31 by omega), ix_f hj, nI_clamp (show j < 2 ^ 31 by omega)]
          rfl
        · simp only [fM_planOf, c2, (side_yes hd).2, one_ne, if_false, ht, ix_n h8 (show 8 ≤ 2 ^ 31 by omega), ix_f h8, nI_clamp (show 2 * j + 1 < 2 ^ 31 by omega)]
          exact congrArg some m2
    · refine ⟨-1, ?_, ?_⟩
      · rcases ag a1 1 (by omega) with ⟨h2, -⟩ | ⟨h2, h3, h4, h5, h6⟩ | ⟨i, hi, rfl⟩
        · simp only [fT_planOf, c1, one_ne, if_false, h2, if_true]
        · simp only [fT_planOf, c1, one_ne, if_false, h2, if_neg (show ¬ a1 ≤ (1 : Int32) from h5)]
        · exact absurd ⟨i, by omega, rfl⟩ h1
      · simp only [fM_planOf, c2, one_ne, if_false, (side_no h1).2, if_true]
  · exact ⟨-1, by simp only [fT_planOf, c1, if_true], by simp only [fM_planOf, c2, if_true]⟩
theorem row_has {c m : MS} (h : RR c m) (x y : Int32) : (∃ j i, j < 10 ∧ i < 3 ∧ x = nI j ∧ y = nI i ∧ fRows_has c x y = 1 ∧ fM_isRow m x y = 1) ∨ (fRows_has c x y = 0 ∧ fM_isRow m x y = 0) := by
  obtain ⟨-, e2, e3⟩ := h.2.2.2.1
  obtain ⟨k, hk, ek⟩ : ∃ k, k ≤ 10 ∧ gI c 30 3 = nI k := by
    rcases e3 with e3 | e3
    · exact ⟨0, by omega, e3⟩
    · exact ⟨10, by omega, e3⟩
  unfold fRows_has fM_isRow
  rw [e2, ek]
  rcases cut x k (by omega) with ⟨j, hj, rfl, c1, c2, c3, c4⟩ | ⟨c1, c2⟩
  · rw [if_neg c2, if_neg c4, c1, if_neg one_ne]
    rcases cut y 3 (by omega) with ⟨i, hi, rfl, d1, d2, d3, d4⟩ | ⟨d1, d2⟩
    · have d1 : fM_in (nI i) 0 2 = 1 := d1
      exact Or.inl ⟨j, i, by omega, hi, rfl, rfl, by rw [if_neg d2, if_neg (show ¬ (3 : Int32) ≤ nI i from d4)], by rw [d1, if_neg one_ne]⟩
    · have d1 : fM_in y 0 2 = 0 := d1
      refine Or.inr ⟨?_, by rw [d1, if_pos rfl]⟩
      rcases d2 with d2 | ⟨d2, -, d3⟩
      · rw [if_pos d2]
      · rw [if_neg d2, if_pos (show (3 : Int32) ≤ y from d3)]
  · refine Or.inr ⟨?_, by rw [c1, if_pos rfl]⟩
    rcases c2 with c2 | ⟨c2, -, c3⟩
    · rw [if_pos c2]
    · rw [if_neg c2, if_pos c3]
theorem rIx (j i : Nat) : nI j * 3 + nI i = nI (3 * j + i) ∧ 3 * nI j + nI i = nI (3 * j + i) := by
  rw [show (3 : Int32) = nI 3 from rfl, pk_mul, pk_mul, nI_add, nI_add, Nat.mul_comm j 3]
  exact ⟨rfl, rfl⟩
theorem o_row (z : MS) (h : RR z z) (a0 a1 : Int32) : O1 (fT_row · a0 a1) (fM_row · a0 a1) z := by
  rcases row_has h a0 a1 with ⟨j, i, hj, hi, rfl, rfl, c1, c2⟩ | ⟨c1, c2⟩
  · have h30 : 3 * j + i < 30 := by omega
    refine ⟨gI z 31 (3 * j + i), ?_, ?_⟩
    · simp only [fT_row, c1, one_ne, if_false, (rIx j i).1, ix_n h30 (show 30 ≤ 2 ^ 31 by omega), ix_f h30, nI_clamp (show 3 * j + i < 2 ^ 31 by omega)]
    · simp only [fM_row, c2, one_ne, if_false, (rIx j i).2, ix_n h30 (show 30 ≤ 2 ^ 31 by omega), ix_f h30, nI_clamp (show 3 * j + i < 2 ^ 31 by omega), h.2.2.2.1.1]
  · exact ⟨-9, by simp only [fT_row, c1, if_true], by simp only [fM_row, c2, if_true]⟩
theorem o_alterRow (z : MS) (h : RR z z) (a0 a1 a2 : Int32) : O2 (fT_alterRow · a0 a1 a2) (fM_alterRow · a0 a1 a2) z := by
  rcases row_has h a0 a1 with ⟨j, i, hj, hi, rfl, rfl, c1, c2⟩ | ⟨c1, c2⟩
  · have h30 : 3 * j + i < 30 := by omega
    have c2' : fM_isRow (pI z 31 (3 * j + i) a2) (nI j) (nI i) = 1 := c2
    refine ⟨gI z 31 (3 * j + i), pI z 31 (3 * j + i) a2, pI (pI z 31 (3 * j + i) a2) 75 (3 * j + i) a2, ?_, ?_, ?_⟩
    · simp only [fT_alterRow, c1, one_ne, if_false, (rIx j i).1, ix_n h30 (show 30 ≤ 2 ^ 31 by omega), ix_f h30, nI_clamp (show 3 * j + i < 2 ^ 31 by omega)]
    · simp only [fM_alterRow, c2', one_ne, if_false, (rIx j i).2, ix_n h30 (show 30 ≤ 2 ^ 31 by omega), ix_f h30, nI_clamp (show 3 * j + i < 2 ^ 31 by omega)]
      show some (gI z 75 (3 * j + i), _) = _
      rw [h.2.2.2.1.1]
    · refine ⟨h.1, h.2.1, h.2.2.1, ⟨?_, h.2.2.2.1.2⟩, h.2.2.2.2⟩
      show upd (gI z 75) _ _ = upd (gI z 31) _ _
      rw [h.2.2.2.1.1]
  · exact same2 (-9) h (by simp only [fT_alterRow, c1, if_true]) (by simp only [fM_alterRow, c2, if_true])
