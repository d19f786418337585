theorem kind_no {x : Int32} (hx : ¬ ∃ d, 0 < d ∧ d < 6 ∧ x = nI d) : (x < 1 ∨ (¬ x < 1 ∧ (6 : Int32) ≤ x)) ∧ fM_in x 1 5 = 0 := by
  rcases ag x 5 (by omega) with ⟨h1, -⟩ | ⟨h1, h2, h3, h4, h5⟩ | ⟨j, hj, rfl⟩
  · have : x < 1 := Int32.lt_trans h1 (by decide)
    exact ⟨Or.inl this, in_lo this⟩
  · have h6 : (6 : Int32) ≤ x := h2
    exact ⟨Or.inr ⟨Int32.not_lt.mpr (Int32.le_of_lt (Int32.lt_of_lt_of_le (by decide) h6)), h6⟩, in_hi h3⟩
  · have hj : j = 0 := Classical.byContradiction fun e => hx ⟨j, by omega, by omega, rfl⟩
    subst hj
    exact ⟨Or.inl (by decide), by decide⟩
theorem kind_yes : ∀ d, d < 6 → 0 < d → ¬ nI d < 1 ∧ ¬ (6 : Int32) ≤ nI d ∧ fM_in (nI d) 1 5 = 1 := by decide
theorem o_plan (z : MS) (h : RR z z) (a0 a1 : Int32) : O2 (fT_plan · a0 a1) (fM_plan · a0 a1) z := by
  obtain ⟨e1, e2, ⟨e3, e4⟩⟩ := h.2.1
  obtain ⟨k, hk, ek, ec⟩ := lt_ex e3
  rw [ek] at e1
  by_cases h0 : ∃ d, 0 < d ∧ d < 6 ∧ a0 = nI d
  · obtain ⟨d, hd0, hd, rfl⟩ := h0
    obtain ⟨k1, k2, k3⟩ := kind_yes d hd hd0
    rcases ag a1 4095 (by omega) with ⟨h1, -⟩ | ⟨h1, h2, h3, h4, h5⟩ | ⟨v, hv, rfl⟩
    · exact same2 (-1) h (by simp only [fT_plan, k1, k2, h1, if_false, if_true]) (by simp only [fM_plan, k3, one_ne, if_false, in_lo h1, if_true])
    · exact same2 (-1) h (by simp only [fT_plan, k1, k2, h1, if_false, if_neg (show ¬ a1 ≤ (4095 : Int32) from h4)]) (by simp only [fM_plan, k3, one_ne, if_false, in_hi (show (4095 : Int32) < a1 from h3), if_true])
    · have v0 : ¬ nI v < 0 := nI_pos (by omega)
      have v1 : nI v ≤ (4095 : Int32) := nI_le (b := 4095) hv (by omega)
      have v2 : fM_in (nI v) 0 4095 = 1 := in_ok (b := 4095) hv (by omega)
      by_cases hk4 : k = 4
      · subst hk4
        exact same2 (-2) h (by simp only [fT_plan, k1, k2, v0, v1, ek, if_false, if_true, if_pos (show (4 : Int32) ≤ nI 4 from Int32.le_refl _)]) (by simp only [fM_plan, k3, v2, one_ne, if_false, e1, if_pos (show nI 4 = 4 from rfl)])
      · have hk4 : k < 4 := by omega
        have w1 : ¬ (4 : Int32) ≤ nI k := nI_ge (b := 4) hk4 (by omega)
        have w2 : ¬ nI k = 4 := fun e => by
          have := (nI_eq (b := 4) (show k < 2 ^ 31 by omega) (by omega)).mp e
          omega
        have hT : fT_plan z (nI d) (nI v) = some (nI k, pI (pI (pI z 27 k (nI d)) 28 k (nI v)) 26 3 (nI (k + 1))) := by
          have g1 : ∀ y, gI (pI z 27 k y) 26 3 = nI k := fun y => ek
          have g2 : ∀ y w, gI (pI (pI z 27 k y) 28 k w) 26 3 = nI k := fun y w => ek
          simp only [fT_plan, fPlans_add, k1, k2, v0, v1, ek, w1, if_false, if_true, ix_n hk4 (show 4 ≤ 2 ^ 31 by omega), ix_f hk4, nI_clamp (show k < 2 ^ 31 by omega), g1, g2, ob2]
          show some (nI k + 1 - 1, pI _ 26 3 (nI k + 1)) = _
          rw [show nI k + 1 = nI (k + 1) from nI_add k 1, show nI (k + 1) - 1 = nI k from pk_sub (a := k + 1) (b := 1) (by omega)]
        have hM : ∀ z, gI z 56 9 = nI k → fM_plan z (nI d) (nI v) = some (nI k, pI (pI (pI z 64 (2 * k) (nI d)) 64 (2 * k + 1) (nI v)) 56 9 (nI (k + 1))) := by
          intro z e1
          have t1 : (2 * nI k : Int32) = nI (2 * k) := by rw [show (2 : Int32) = nI 2 from rfl, pk_mul]
          have t2 : (nI (2 * k) + 1 : Int32) = nI (2 * k + 1) := nI_add _ 1
          have c1 : 2 * k < 8 := by omega
          have c2 : 2 * k + 1 < 8 := by omega
          have g1 : ∀ y, gI (pI z 64 (2 * k) y) 56 9 = nI k := fun y => e1
          have g2 : ∀ y w, gI (pI (pI z 64 (2 * k) y) 64 (2 * k + 1) w) 56 9 = nI k := fun y w => e1
          simp only [fM_plan, k3, v2, one_ne, e1, w2, if_false, t1, g1, g2, t2, ix_n c1 (show 8 ≤ 2 ^ 31 by omega), ix_f c1, nI_clamp (show 2 * k < 2 ^ 31 by omega), ix_n c2 (show 8 ≤ 2 ^ 31 by omega), ix_f c2, nI_clamp (show 2 * k + 1 < 2 ^ 31 by omega)]
          show some (nI k + 1 - 1, pI _ 56 9 (nI k + 1)) = _
          rw [show nI k + 1 = nI (k + 1) from nI_add k 1, show nI (k + 1) - 1 = nI k from pk_sub (a := k + 1) (b := 1) (by omega)]
        refine ⟨nI k, _, _, hT, hM (pI (pI (pI z 27 k (nI d)) 28 k (nI v)) 26 3 (nI (k + 1))) e1, ⟨h.1, ⟨rfl, e2, lt_nI (by omega) (by omega), ?_⟩, h.2.2⟩⟩
        intro j hj
        obtain ⟨m1, m2, m3, m4⟩ := e4 j hj
        rw [ec] at m4
        show upd (upd (gI z 64) (2 * k) (nI d)) (2 * k + 1) (nI v) (2 * j) = upd (gI z 27) k (nI d) j ∧ upd (upd (gI z 64) (2 * k) (nI d)) (2 * k + 1) (nI v) (2 * j + 1) = upd (gI z 28) k (nI v) j ∧ lt (upd (gI z 28) k (nI v) j) 4096 ∧ (j < cl (nI (k + 1)) → lt (upd (gI z 27) k (nI d) j) 6 ∧ 0 < cl (upd (gI z 27) k (nI d) j))
        simp only [upd_a]
        rw [cl_nI (show k + 1 < 2 ^ 31 by omega)]
        by_cases c : j = k
        · subst c
          rw [if_pos rfl, if_pos rfl, if_pos rfl, if_neg (by omega), if_pos rfl]
          exact ⟨rfl, rfl, lt_nI (by omega) (by omega), fun _ => ⟨lt_nI hd (by omega), by rw [cl_nI (by omega)]; exact hd0⟩⟩
        · rw [if_neg c, if_neg c, if_neg (show ¬ 2 * j = 2 * k + 1 by omega), if_neg (show ¬ 2 * j = 2 * k by omega), if_neg (show ¬ 2 * j + 1 = 2 * k + 1 by omega), if_neg (show ¬ 2 * j + 1 = 2 * k by omega)]
          exact ⟨m1, m2, m3, fun hlt => m4 (by omega)⟩
  · obtain ⟨l1, l2⟩ := kind_no h0
    refine same2 (-1) h ?_ (by simp only [fM_plan, l2, if_true])
    rcases l1 with l1 | ⟨l1, l3⟩
    · simp only [fT_plan, l1, if_true]
    · simp only [fT_plan, l1, l3, if_true, if_false]
