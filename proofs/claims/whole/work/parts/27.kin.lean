theorem HV_A {n u : Int32} {K A T W S O F A' : Nat → Int32} (h : HV n u K A T W S O F) (h1 : ∀ p, p < 8 → lt (A' p) 1024) (h2 : ∀ p, p < 8 → cl n ≤ p → A' p = 0) : HV n u K A' T W S O F :=
  ⟨h.1, h.2.1, h.2.2.1, h.2.2.2.1, h.2.2.2.2.1, h1, h2, h.2.2.2.2.2.2.2⟩
theorem HV_K {n u : Int32} {K A T W S O F K' : Nat → Int32} (h : HV n u K A T W S O F) (h1 : ∀ p, p < 8 → lt (K' p) 256) (h2 : ∀ p q, p < 8 → q < 8 → kbt (K' p) q = kbt (K' q) p) (h3 : ∀ p q, p < 8 → q < 8 → kbt (K' p) q = true → p < cl n ∧ q < cl n ∧ p ≠ q) : HV n u K' A T W S O F :=
  ⟨h.1, h.2.1, h1, h2, h3, h.2.2.2.2.2⟩
theorem HV_T {n u : Int32} {K A T W S O F T' F' : Nat → Int32} (h : HV n u K A T W S O F) (hT : ∀ p q, p < q → q < 8 → lt (T' (8 * p + q)) 10 ∧ F' (8 * p + q) = T' (8 * p + q) ∧ F' (8 * q + p) = T' (8 * p + q) ∧ (cl n ≤ q → T' (8 * p + q) = 0)) : HV n u K A T' W S O F' :=
  ⟨h.1, h.2.1, h.2.2.1, h.2.2.2.1, h.2.2.2.2.1, h.2.2.2.2.2.1, h.2.2.2.2.2.2.1, hT, h.2.2.2.2.2.2.2.2⟩
theorem o_away (z : MS) (h : RR z z) (a0 a1 : Int32) (b : Bool) : O2 (fT_away · a0 a1 (if b then 1 else 0)) (fM_away · a0 a1 (if b then 1 else 0)) z := by
  by_cases h0 : ∃ p, p < cl (gI z 1 0) ∧ a0 = nI p
  · obtain ⟨p, hp, rfl⟩ := h0
    have hp8 : p < 8 := by have := RR_n8 h; omega
    by_cases h1 : ∃ d, d < 10 ∧ a1 = nI d
    · obtain ⟨d, hd, rfl⟩ := h1
      have hu : lt (gI z 3 p) 1024 := h.1.1.2.2.2.2.2.1 p hp8
      have e5 : gI z 58 = gI z 3 := h.1.2.2.2.2.1
      have hT : fT_away z (nI p) (nI d) (if b then 1 else 0) = if kbt (gI z 3 p) d = b then some (0, z) else some (1, pI z 3 p ((gI z 3 p) ^^^ ((1 : Int32) <<< (nI d &&& 31)))) := by
        simp only [fT_away, fHouse_setAway, fHouse_isAway, (person_yes h hp).1, (day_yes hd).1, one_ne, if_false, ix_n hp8 (show 8 ≤ 2 ^ 31 by omega), ix_f hp8, nI_clamp (show p < 2 ^ 31 by omega), getB hu (by omega) hd]
        cases kbt (gI z 3 p) d <;> cases b <;> rfl
      have hM : ∀ z, fM_isPerson z (nI p) = 1 → lt (gI z 58 p) 1024 → fM_away z (nI p) (nI d) (if b then 1 else 0) = if kbt (gI z 58 p) d = b then some (0, z) else some (1, pI z 58 p ((gI z 58 p) ^^^ ((1 : Int32) <<< (nI d &&& 31)))) := by
        intro z hz hu
        simp only [fM_away, fM_isAway, hz, (day_yes hd).2, one_ne, if_false, ix_n hp8 (show 8 ≤ 2 ^ 31 by omega), ix_f hp8, nI_clamp (show p < 2 ^ 31 by omega), getB hu (by omega) hd]
        cases kbt (gI z 58 p) d <;> cases b <;> rfl
      have hpm := (person_yes h hp).2
      by_cases e : kbt (gI z 3 p) d = b
      · exact same2 0 h (hT.trans (if_pos e)) ((hM z hpm (by rw [e5]; exact hu)).trans (if_pos (by rw [e5]; exact e)))
      · have hf := flipB (k := 10) hu (by omega) hd
        refine ⟨1, _, pI (pI z 3 p ((gI z 3 p) ^^^ ((1 : Int32) <<< (nI d &&& 31)))) 58 p ((gI z 58 p) ^^^ ((1 : Int32) <<< (nI d &&& 31))), hT.trans (if_neg e), (hM (pI z 3 p _) hpm (show lt (gI z 58 p) 1024 by rw [e5]; exact hu)).trans (if_neg (show ¬ kbt (gI z 58 p) d = b by rw [e5]; exact e)), ?_⟩
        refine ⟨⟨HV_A h.1.1 (lt_up (b := fun _ => 1024) h.1.1.2.2.2.2.2.1 hf.1) ?_, h.1.2.1, h.1.2.2.1, h.1.2.2.2.1, ?_, h.1.2.2.2.2.2⟩, h.2⟩
        · intro q hq hnq
          have hnq : cl (gI z 1 0) ≤ q := hnq
          show upd (gI z 3) p _ q = 0
          rw [upd_a, if_neg (by omega)]
          exact h.1.1.2.2.2.2.2.2.1 q hq hnq
        · show upd (gI z 58) p _ = upd (gI z 3) p _
          rw [e5]
    · refine same2 (-1) h ?_ ?_
      · simp only [fT_away, (person_yes h hp).1, one_ne, if_false, (day_no h1).1, if_true]
      · simp only [fM_away, (person_yes h hp).2, one_ne, if_false, (day_no h1).2, if_true]
  · refine same2 (-1) h ?_ ?_
    · simp only [fT_away, (person_no h h0).1, if_true]
    · simp only [fM_away, (person_no h h0).2, if_true]
theorem o_kin (z : MS) (h : RR z z) (a0 a1 : Int32) (b : Bool) : O2 (fT_kin · a0 a1 (if b then 1 else 0)) (fM_kin · a0 a1 (if b then 1 else 0)) z := by
  by_cases h0 : ∃ p q, p < cl (gI z 1 0) ∧ q < cl (gI z 1 0) ∧ p ≠ q ∧ a0 = nI p ∧ a1 = nI q
  · obtain ⟨p, q, hp, hq, hpq, rfl, rfl⟩ := h0
    have hn8 := RR_n8 h
    have hp8 : p < 8 := by omega
    have hq8 : q < 8 := by omega
    have hu : ∀ p, p < 8 → lt (gI z 2 p) 256 := h.1.1.2.2.1
    have e5 : gI z 57 = gI z 2 := h.1.2.2.2.1
    have hT : fT_kin z (nI p) (nI q) (if b then 1 else 0) = if kbt (gI z 2 p) q = b then some (0, z) else some (1, pI (pI z 2 p ((gI z 2 p) ^^^ ((1 : Int32) <<< (nI q &&& 31)))) 2 q ((gI z 2 q) ^^^ ((1 : Int32) <<< (nI p &&& 31)))) := by
      have eg : ∀ v, gI (pI z 2 p v) 2 q = gI z 2 q := fun v => by
        show upd (gI z 2) p v q = _
        rw [upd_a, if_neg (by omega)]
      simp only [fT_kin, fHouse_setKin, fHouse_areKin, (two_yes h hp hq hpq).1, one_ne, if_false, ix_n hp8 (show 8 ≤ 2 ^ 31 by omega), ix_f hp8, ix_n hq8 (show 8 ≤ 2 ^ 31 by omega), ix_f hq8, nI_clamp (show p < 2 ^ 31 by omega), nI_clamp (show q < 2 ^ 31 by omega), getB (hu p hp8) (by omega) (show q < 10 by omega), eg]
      cases kbt (gI z 2 p) q <;> cases b <;> rfl
    have hM : ∀ z, fM_areTwo z (nI p) (nI q) = 1 → lt (gI z 57 p) 256 → fM_kin z (nI p) (nI q) (if b then 1 else 0) = if kbt (gI z 57 p) q = b then some (0, z) else some (1, pI (pI z 57 p ((gI z 57 p) ^^^ ((1 : Int32) <<< (nI q &&& 31)))) 57 q ((gI z 57 q) ^^^ ((1 : Int32) <<< (nI p &&& 31)))) := by
      intro z hz hu
      have eg : ∀ v, gI (pI z 57 p v) 57 q = gI z 57 q := fun v => by
        show upd (gI z 57) p v q = _
        rw [upd_a, if_neg (by omega)]
      simp only [fM_kin, fM_areKin, hz, one_ne, if_false, ix_n hp8 (show 8 ≤ 2 ^ 31 by omega), ix_f hp8, ix_n hq8 (show 8 ≤ 2 ^ 31 by omega), ix_f hq8, nI_clamp (show p < 2 ^ 31 by omega), nI_clamp (show q < 2 ^ 31 by omega), getB hu (by omega) (show q < 10 by omega), eg]
      cases kbt (gI z 57 p) q <;> cases b <;> rfl
    have hpm := (two_yes h hp hq hpq).2
    by_cases e : kbt (gI z 2 p) q = b
    · exact same2 0 h (hT.trans (if_pos e)) ((hM z hpm (by rw [e5]; exact hu p hp8)).trans (if_pos (by rw [e5]; exact e)))
    · have f1 := flipB (k := 8) (q := q) (hu p hp8) (by omega) hq8
      have f2 := flipB (k := 8) (q := p) (hu q hq8) (by omega) hp8
      refine ⟨1, _, pI (pI (pI (pI z 2 p ((gI z 2 p) ^^^ ((1 : Int32) <<< (nI q &&& 31)))) 2 q ((gI z 2 q) ^^^ ((1 : Int32) <<< (nI p &&& 31)))) 57 p ((gI z 57 p) ^^^ ((1 : Int32) <<< (nI q &&& 31)))) 57 q ((gI z 57 q) ^^^ ((1 : Int32) <<< (nI p &&& 31))), hT.trans (if_neg e), (hM (pI (pI z 2 p _) 2 q _) hpm (show lt (gI z 57 p) 256 by rw [e5]; exact hu p hp8)).trans (if_neg (show ¬ kbt (gI z 57 p) q = b by rw [e5]; exact e)), ?_⟩
      have hk : ∀ i j, kbt (upd (upd (gI z 2) p ((gI z 2 p) ^^^ ((1 : Int32) <<< (nI q &&& 31)))) q ((gI z 2 q) ^^^ ((1 : Int32) <<< (nI p &&& 31))) i) j = (kbt (gI z 2 i) j ^^ (decide (i = p ∧ j = q) || decide (i = q ∧ j = p))) := by
        intro i j
        rw [upd_a, upd_a]
        by_cases i1 : i = q
        · rw [if_pos i1, f2.2, i1]
          congr 1
          have : ¬ q = p := fun e => hpq e.symm
          simp [this, eq_comm]
        · rw [if_neg i1]
          by_cases i2 : i = p
          · rw [if_pos i2, f1.2, i2]
            congr 1
            simp [hpq, eq_comm]
          · rw [if_neg i2]
            simp [i1, i2]
      refine ⟨⟨HV_K h.1.1 (lt_up (b := fun _ => 256) (lt_up (b := fun _ => 256) hu f1.1) f2.1) ?_ ?_, h.1.2.1, h.1.2.2.1, ?_, h.1.2.2.2.2⟩, h.2⟩
      · intro i j hi hj
        have h9 := h.1.1.2.2.2.1 i j hi hj
        refine (hk i j).trans (Eq.trans ?_ (hk j i).symm)
        rw [h9]
        congr 1
        rw [Bool.or_comm]
        congr 1 <;> exact decide_eq_decide.mpr ⟨fun e => ⟨e.2, e.1⟩, fun e => ⟨e.2, e.1⟩⟩
      · intro i j hi hj h8
        have h8 := (hk i j).symm.trans h8
        by_cases c1 : i = p ∧ j = q
        · rw [c1.1, c1.2]; exact ⟨hp, hq, hpq⟩
        · by_cases c2 : i = q ∧ j = p
          · rw [c2.1, c2.2]; exact ⟨hq, hp, fun e => hpq e.symm⟩
          · rw [decide_eq_false c1, decide_eq_false c2] at h8
            exact h.1.1.2.2.2.2.1 i j hi hj (by simpa using h8)
      · show upd (upd (gI z 57) p _) q _ = upd (upd (gI z 2) p _) q _
        rw [e5]
  · refine same2 (-1) h ?_ ?_
    · simp only [fT_kin, (two_no h h0).1, if_true]
    · simp only [fM_kin, (two_no h h0).2, if_true]
