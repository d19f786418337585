/-- an argument is below 0, too great, or one of N -/
theorem ag (x : Int32) (N : Nat) (hN : N + 1 < 2 ^ 31) : (x < 0 ∧ ¬ 0 ≤ x) ∨ (¬ x < 0 ∧ nI (N + 1) ≤ x ∧ nI N < x ∧ ¬ x ≤ nI N ∧ ¬ x < nI (N + 1)) ∨ ∃ j : Nat, j ≤ N ∧ x = nI j := by
  rcases pk_ix x (n := N + 1) hN with h | h | ⟨j, hj, rfl⟩
  · refine Or.inl ⟨h, fun h2 => ?_⟩
    have := Int32.lt_iff_toInt_lt.mp h
    have := Int32.le_iff_toInt_le.mp h2
    omega
  · refine Or.inr (Or.inl ?_)
    have h1 := Int32.le_iff_toInt_le.mp h
    rw [nI_toInt hN] at h1
    have h0 : (0 : Int32).toInt = 0 := rfl
    refine ⟨fun h2 => ?_, h, ?_, fun h2 => ?_, fun h2 => ?_⟩
    · have := Int32.lt_iff_toInt_lt.mp h2
      omega
    · rw [Int32.lt_iff_toInt_lt, nI_toInt (by omega)]
      omega
    · have := Int32.le_iff_toInt_le.mp h2
      rw [nI_toInt (by omega)] at this
      omega
    · have := Int32.lt_iff_toInt_lt.mp h2
      rw [nI_toInt (by omega)] at this
      omega
  · exact Or.inr (Or.inr ⟨j, by omega, rfl⟩)
theorem nn0 (j : Nat) (h : j < 2 ^ 31) : ¬ nI j < 0 := nI_pos h
theorem in_lo {x a b : Int32} (h : x < a) : fM_in x a b = 0 := by unfold fM_in; rw [if_pos h]
theorem in_hi {x a b : Int32} (h : b < x) : fM_in x a b = 0 := by
  unfold fM_in
  by_cases h1 : x < a
  · rw [if_pos h1]
  · rw [if_neg h1, if_pos h]
theorem in_ok {j b : Nat} (h : j ≤ b) (hb : b < 2 ^ 31) : fM_in (nI j) 0 (nI b) = 1 := by
  unfold fM_in
  rw [if_neg (nI_pos (by omega)), if_neg (nI_nlt h hb)]
theorem lt_ex {x : Int32} {m : Nat} (h : lt x m) : ∃ n, n < m ∧ x = nI n ∧ cl x = n := ⟨cl x, h.2, h.1, rfl⟩
theorem RR_n {c m : MS} (h : RR c m) : ∃ n, n ≤ 8 ∧ gI c 1 0 = nI n ∧ gI m 56 0 = nI n ∧ cl (gI c 1 0) = n := by
  obtain ⟨n, h1, h2, h3⟩ := lt_ex h.1.1.1
  exact ⟨n, by omega, h2, h.1.2.1.trans h2, h3⟩
/-- class and model of an argument's check -/
theorem person_no {c m : MS} (h : RR c m) {x : Int32} (hx : ¬ ∃ p, p < cl (gI c 1 0) ∧ x = nI p) : fHouse_isPerson c x = 0 ∧ fM_isPerson m x = 0 := by
  obtain ⟨n, hn, e1, e2, e3⟩ := RR_n h
  rw [e3] at hx
  unfold fHouse_isPerson fM_isPerson
  rw [e1, e2]
  rcases ag x n (by omega) with ⟨h1, -⟩ | ⟨h1, h2, h3, h4, h5⟩ | ⟨j, hj, rfl⟩
  · exact ⟨by rw [if_pos h1], in_lo h1⟩
  · refine ⟨by rw [if_neg h1, if_pos (Int32.le_of_lt h3)], ?_⟩
    cases n with
    | zero => exact in_hi (Int32.lt_of_lt_of_le (by decide) (Int32.not_lt.mp h1))
    | succ m => exact in_hi (by rw [show nI (m + 1) - 1 = nI m from pk_sub (a := m + 1) (b := 1) (by omega)]; exact Int32.lt_trans (nI_lt (by omega) (by omega)) h3)
  · have hj2 : j = n := by
      rcases Nat.lt_or_ge j n with h9 | h9
      · exact absurd ⟨j, h9, rfl⟩ hx
      · omega
    subst hj2
    refine ⟨by rw [if_neg (nI_pos (by omega)), if_pos (Int32.le_refl _)], ?_⟩
    cases j with
    | zero => exact in_hi (by decide)
    | succ m => exact in_hi (by rw [show nI (m + 1) - 1 = nI m from pk_sub (a := m + 1) (b := 1) (by omega)]; exact nI_lt (by omega) (by omega))
theorem person_yes {c m : MS} (h : RR c m) {p : Nat} (hp : p < cl (gI c 1 0)) : fHouse_isPerson c (nI p) = 1 ∧ fM_isPerson m (nI p) = 1 := by
  obtain ⟨n, hn, e1, e2, e3⟩ := RR_n h
  rw [e3] at hp
  unfold fHouse_isPerson fM_isPerson
  rw [e1, e2]
  refine ⟨by rw [if_neg (nI_pos (by omega)), if_neg (nI_ge hp (by omega))], ?_⟩
  rw [show nI n - 1 = nI (n - 1) from pk_sub (a := n) (b := 1) (by omega)]
  exact in_ok (by omega) (by omega)
theorem one_ne : ¬ (1 : Int32) = 0 := by decide
theorem two_no {c m : MS} (h : RR c m) {x y : Int32} (hx : ¬ ∃ p q, p < cl (gI c 1 0) ∧ q < cl (gI c 1 0) ∧ p ≠ q ∧ x = nI p ∧ y = nI q) : fHouse_areTwo c x y = 0 ∧ fM_areTwo m x y = 0 := by
  unfold fHouse_areTwo fM_areTwo
  by_cases h1 : ∃ p, p < cl (gI c 1 0) ∧ x = nI p
  · obtain ⟨p, hp, rfl⟩ := h1
    rw [(person_yes h hp).1, (person_yes h hp).2, if_neg one_ne, if_neg one_ne]
    by_cases h2 : ∃ q, q < cl (gI c 1 0) ∧ y = nI q
    · obtain ⟨q, hq, rfl⟩ := h2
      rw [(person_yes h hq).1, (person_yes h hq).2, if_neg one_ne]
      have hpq : p = q := Classical.byContradiction fun hne => hx ⟨p, q, hp, hq, hne, rfl, rfl⟩
      rw [hpq, if_pos rfl]
      exact ⟨rfl, rfl⟩
    · rw [(person_no h h2).1, (person_no h h2).2, if_pos rfl]
      exact ⟨rfl, rfl⟩
  · rw [(person_no h h1).1, (person_no h h1).2, if_pos rfl]
    exact ⟨rfl, rfl⟩
theorem two_yes {c m : MS} (h : RR c m) {p q : Nat} (hp : p < cl (gI c 1 0)) (hq : q < cl (gI c 1 0)) (hpq : p ≠ q) : fHouse_areTwo c (nI p) (nI q) = 1 ∧ fM_areTwo m (nI p) (nI q) = 1 := by
  obtain ⟨n, hn, e1, e2, e3⟩ := RR_n h
  have hne : ¬ nI p = nI q := fun e => hpq ((nI_eq (by omega) (by omega)).mp e)
  unfold fHouse_areTwo fM_areTwo
  rw [(person_yes h hp).1, (person_yes h hp).2, (person_yes h hq).1, (person_yes h hq).2, if_neg one_ne, if_neg one_ne, if_neg hne]
  exact ⟨rfl, rfl⟩
theorem day_no {x : Int32} (hx : ¬ ∃ d, d < 10 ∧ x = nI d) : fT_isDay x = 0 ∧ fM_isDay x = 0 := by
  unfold fT_isDay fM_isDay
  rcases ag x 9 (by omega) with ⟨h1, -⟩ | ⟨h1, h2, h3, h4, h5⟩ | ⟨j, hj, rfl⟩
  · exact ⟨by rw [if_pos h1], in_lo h1⟩
  · exact ⟨by rw [if_neg h1, if_pos (show (10 : Int32) ≤ x from h2)], in_hi h3⟩
  · exact absurd ⟨j, by omega, rfl⟩ hx
theorem day_yes {d : Nat} (hd : d < 10) : fT_isDay (nI d) = 1 ∧ fM_isDay (nI d) = 1 := by
  unfold fT_isDay fM_isDay
  exact ⟨by rw [if_neg (nI_pos (by omega)), if_neg (show ¬ (10 : Int32) ≤ nI d from nI_ge (b := 10) hd (by omega))], in_ok (b := 9) (by omega) (by omega)⟩
theorem post_no {x : Int32} (hx : ¬ ∃ d, d < 4 ∧ x = nI d) : fT_isPost x = 0 ∧ fM_isPost x = 0 ∧ fT_isPlace x = 0 ∧ fM_isShelf x = 0 := by
  unfold fT_isPost fM_isPost fT_isPlace fM_isShelf
  rcases ag x 3 (by omega) with ⟨h1, -⟩ | ⟨h1, h2, h3, h4, h5⟩ | ⟨j, hj, rfl⟩
  · exact ⟨by rw [if_pos h1], in_lo h1, by rw [if_pos h1], in_lo h1⟩
  · exact ⟨by rw [if_neg h1, if_pos (show (4 : Int32) ≤ x from h2)], in_hi h3, by rw [if_neg h1, if_pos (show (4 : Int32) ≤ x from h2)], in_hi h3⟩
  · exact absurd ⟨j, by omega, rfl⟩ hx
theorem post_yes {d : Nat} (hd : d < 4) : fT_isPost (nI d) = 1 ∧ fM_isPost (nI d) = 1 ∧ fT_isPlace (nI d) = 1 ∧ fM_isShelf (nI d) = 1 := by
  unfold fT_isPost fM_isPost fT_isPlace fM_isShelf
  exact ⟨by rw [if_neg (nI_pos (by omega)), if_neg (show ¬ (4 : Int32) ≤ nI d from nI_ge (b := 4) hd (by omega))], in_ok (b := 3) (by omega) (by omega), by rw [if_neg (nI_pos (by omega)), if_neg (show ¬ (4 : Int32) ≤ nI d from nI_ge (b := 4) hd (by omega))], in_ok (b := 3) (by omega) (by omega)⟩
theorem side_no {x : Int32} (hx : ¬ ∃ d, d < 2 ∧ x = nI d) : fT_isPart x = 0 ∧ fM_isSide x = 0 := by
  unfold fT_isPart fM_isSide
  have n0 : ¬ x = 0 := fun e => hx ⟨0, by omega, e⟩
  have n1 : ¬ x = 1 := fun e => hx ⟨1, by omega, e⟩
  rcases ag x 1 (by omega) with ⟨h1, -⟩ | ⟨h1, h2, h3, h4, h5⟩ | ⟨j, hj, rfl⟩
  · exact ⟨by rw [if_neg n0, if_neg n1], in_lo h1⟩
  · exact ⟨by rw [if_neg n0, if_neg n1], in_hi h3⟩
  · exact absurd ⟨j, by omega, rfl⟩ hx
theorem side_yes {d : Nat} (hd : d < 2) : fT_isPart (nI d) = 1 ∧ fM_isSide (nI d) = 1 := by
  unfold fT_isPart fM_isSide
  refine ⟨?_, in_ok (b := 1) (by omega) (by omega)⟩
  rcases (show d = 0 ∨ d = 1 by omega) with rfl | rfl <;> rfl
