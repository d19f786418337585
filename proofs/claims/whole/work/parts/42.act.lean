theorem plan_on {z : MS} (h : RR z z) {j : Nat} (hj : j < 4) :
    (∃ i k a, i < 4 ∧ 0 < k ∧ k < 6 ∧ a < 4096 ∧ gI z 27 i = nI k ∧ gI z 28 i = nI a ∧ gI z 64 (2 * i) = nI k ∧ gI z 64 (2 * i + 1) = nI a ∧ gI z 42 j = 0 ∧ gI z 81 j = nI i ∧ fT_planOn z (nI j) = some (nI i) ∧ fM_kindOn z (nI j) = some (nI k)) ∨
    (gI z 42 j = 1 ∧ (∃ s, s < 4 ∧ gI z 43 j = nI s ∧ gI z 81 j = nI s ∧ gI z 44 j = gI z 82 j) ∧ fT_planOn z (nI j) = some (-1) ∧ fM_kindOn z (nI j) = some 9) ∨
    (¬ gI z 42 j = 1 ∧ fT_planOn z (nI j) = some (-1) ∧ fM_kindOn z (nI j) = some (-1)) := by
  have x1 := ix_n hj (show 4 ≤ 2 ^ 31 by omega)
  have x2 := nI_clamp (show j < 2 ^ 31 by omega)
  rcases h.2.2.2.2.2.1 j hj with ⟨w, mh, hn⟩ | ⟨w, mh, hs, hh, hl⟩ | ⟨w, mh⟩
  · rcases plan_has h (gI z 44 j) with ⟨i, hi, hi4, e, c1, c2⟩ | ⟨c1, c2, -⟩
    · obtain ⟨q1, q2, q3, q4⟩ := h.2.1.2.2.2 i hi4
      obtain ⟨q5, q6⟩ := q4 hi
      obtain ⟨k, hk, ek, ck⟩ := lt_ex q5
      obtain ⟨a, ha, ea, -⟩ := lt_ex q3
      have e81 : gI z 81 j = nI i := hn.symm.trans e
      have i1 := ix_n hi4 (show 4 ≤ 2 ^ 31 by omega)
      refine Or.inl ⟨i, k, a, hi4, by omega, hk, ha, ek, ea, q1.trans ek, q2.trans ea, w, e81, ?_, ?_⟩
      · rw [e] at c1
        simp only [fT_planOn, fHost_heldPlan, x1, x2, if_false, w, if_true, obs, one_ne, e, c1]
      · rw [e] at c2
        have t : (2 * nI i : Int32) = nI (2 * i) := by rw [show (2 : Int32) = nI 2 from rfl, pk_mul]
        simp only [fM_kindOn, x1, x2, if_false, mh, if_true, e81, c2, one_ne, t, ix_n (show 2 * i < 8 by omega) (show 8 ≤ 2 ^ 31 by omega), nI_clamp (show 2 * i < 2 ^ 31 by omega), q1, ek]
    · refine Or.inr (Or.inr ⟨by rw [w]; decide, ?_, ?_⟩)
      · simp only [fT_planOn, fHost_heldPlan, x1, x2, if_false, w, if_true, obs, one_ne, c1]
      · rw [hn] at c2
        simp only [fM_kindOn, x1, x2, if_false, mh, if_true, c2]
  · obtain ⟨s, hs4, es, -⟩ := lt_ex hl
    refine Or.inr (Or.inl ⟨w, ⟨s, hs4, hs.trans es, es, hh⟩, ?_, ?_⟩)
    · simp only [fT_planOn, fHost_heldPlan, x1, x2, if_false, w, one_ne, if_true, obs]
    · simp only [fM_kindOn, x1, x2, if_false, mh, one_ne, show (0 : Int32) ≤ 1 by decide, if_true]
  · refine Or.inr (Or.inr ⟨by rw [w]; decide, ?_, ?_⟩)
    · simp only [fT_planOn, fHost_heldPlan, x1, x2, if_false, w, show ¬ (2 : Int32) = 0 by decide, if_true, obs]
    · simp only [fM_kindOn, x1, x2, if_false, mh, show ¬ (-1 : Int32) = 0 by decide, m1_n0]
theorem tk_arg (z : MS) (x a1 : Int32) :
    (∃ t, t < 6 ∧ a1 = nI t ∧ fT_taken z x a1 = fT_taken_J33 z x a1 1 0 ∧ fM_taken z x a1 = (if fM_isShelf x = 0 then some (-1) else fM_taken_J29 z x a1) ∧ ¬ (10 : Int32) ≤ a1) ∨
    (∃ t, t < 4 ∧ a1 = nI (10 + t) ∧ fT_taken z x a1 = fT_taken_J33 z x a1 0 1 ∧ fM_taken z x a1 = (if fM_isShelf x = 0 then some (-1) else fM_taken_J29 z x a1) ∧ (10 : Int32) ≤ a1) ∨
    (fT_taken z x a1 = some (-1) ∧ fM_taken z x a1 = some (-1)) := by
  have non : fT_taken z x a1 = fT_taken_J33 z x a1 0 0 → fM_in a1 0 5 = 0 → fM_in a1 10 13 = 0 → fT_taken z x a1 = some (-1) ∧ fM_taken z x a1 = some (-1) := by
    intro h1 h2 h3
    constructor
    · rw [h1]
      unfold fT_taken_J33
      rw [if_pos rfl, if_pos rfl]
      by_cases c : fT_isPlace x = 0
      · rw [if_pos c]
      · rw [if_neg c]
    · unfold fM_taken
      rw [h2, h3, if_pos rfl, if_pos rfl]
      by_cases c : fM_isShelf x = 0
      · rw [if_pos c]
      · rw [if_neg c]
  rcases ag a1 13 (by omega) with ⟨h1, -⟩ | ⟨h1, h2, h3, h4, h5⟩ | ⟨t, ht, rfl⟩
  · refine Or.inr (Or.inr (non ?_ (in_lo h1) (in_lo (Int32.lt_trans h1 (by decide)))))
    unfold fT_taken fT_taken_J14 fT_taken_J15 fT_taken_J32
    rw [if_pos h1, if_pos (Int32.lt_trans h1 (by decide))]
  · have h14 : (14 : Int32) ≤ a1 := h2
    refine Or.inr (Or.inr (non ?_ (in_hi (Int32.lt_of_lt_of_le (by decide) h14)) (in_hi h3)))
    unfold fT_taken fT_taken_J14 fT_taken_J15 fT_taken_J32
    rw [if_neg h1, if_pos (Int32.le_trans (by decide) h14), if_neg (Int32.not_lt.mpr (show (10 : Int32) ≤ a1 from Int32.le_trans (by decide) h14)), if_pos h14]
  · have t0 : ¬ nI t < 0 := nI_pos (by omega)
    by_cases c6 : t < 6
    · refine Or.inl ⟨t, c6, rfl, ?_, ?_, nI_ge (b := 10) (by omega) (by omega)⟩
      · unfold fT_taken fT_taken_J15 fT_taken_J32
        have c10 : nI t < 10 := nI_lt (b := 10) (by omega) (by omega)
        rw [if_neg t0, if_neg (show ¬ (6 : Int32) ≤ nI t from nI_ge (b := 6) c6 (by omega)), if_pos c10]
      · unfold fM_taken
        rw [show fM_in (nI t) 0 5 = 1 from in_ok (b := 5) (by omega) (by omega), if_neg one_ne]
    · have c6' : (6 : Int32) ≤ nI t := nI_le (a := 6) (by omega) (by omega)
      have n5 : fM_in (nI t) 0 5 = 0 := in_hi (show (5 : Int32) < nI t from nI_lt (a := 5) (by omega) (by omega))
      by_cases c10 : t < 10
      · refine Or.inr (Or.inr (non ?_ n5 (in_lo (show nI t < (10 : Int32) from nI_lt (b := 10) c10 (by omega)))))
        unfold fT_taken fT_taken_J14 fT_taken_J15 fT_taken_J32
        rw [if_neg t0, if_pos c6', if_pos (show nI t < (10 : Int32) from nI_lt (b := 10) c10 (by omega))]
      · have c10' : ¬ nI t < (10 : Int32) := nI_nlt (b := 10) (by omega) (by omega)
        refine Or.inr (Or.inl ⟨t - 10, by omega, by rw [show 10 + (t - 10) = t by omega], ?_, ?_, nI_le (a := 10) (by omega) (by omega)⟩)
        · unfold fT_taken fT_taken_J14 fT_taken_J15
          rw [if_neg t0, if_pos c6', if_neg c10', if_neg (show ¬ (14 : Int32) ≤ nI t from nI_ge (b := 14) (by omega) (by omega))]
        · unfold fM_taken
          rw [n5, if_pos rfl]
          have : fM_in (nI t) 10 13 = 1 := by
            unfold fM_in
            rw [if_neg c10', if_neg (show ¬ (13 : Int32) < nI t from nI_nlt (a := 13) (by omega) (by omega))]
          rw [this, if_neg one_ne]
theorem und : ∀ k, k < 6 → ∀ t, t < 6 → 0 < k → fActs_isUnder (nI k) (nI t) = some (fM_isUnder (nI k) (nI t)) := by decide +kernel
theorem und01 (a b : Int32) : fM_isUnder a b = 0 ∨ fM_isUnder a b = 1 := by
  unfold fM_isUnder fM_isUnder_J19
  repeat' (first | exact Or.inl rfl | exact Or.inr rfl | split)
theorem o_taken (z : MS) (h : RR z z) (a0 a1 : Int32) : O1 (fT_taken · a0 a1) (fM_taken · a0 a1) z := by
  by_cases h0 : ∃ d, d < 4 ∧ a0 = nI d
  · obtain ⟨j, hj, rfl⟩ := h0
    obtain ⟨-, -, p1, p2⟩ := post_yes hj
    have x1 := ix_n hj (show 4 ≤ 2 ^ 31 by omega)
    have x2 := nI_clamp (show j < 2 ^ 31 by omega)
    rcases tk_arg z (nI j) a1 with ⟨t, ht, rfl, e1, e2, e3⟩ | ⟨t, ht, rfl, e1, e2, e3⟩ | ⟨e1, e2⟩
    · rw [p2, if_neg one_ne] at e2
      show ∃ r, fT_taken z (nI j) (nI t) = some r ∧ fM_taken z (nI j) (nI t) = some r
      rw [e1, e2]
      unfold fT_taken_J33 fT_taken_J53 fM_taken_J29 fHost_heldRow
      rw [p1, if_neg one_ne, if_neg one_ne, x2, if_neg x1]
      rcases plan_on h hj with ⟨i, k, a, hi, hk0, hk, ha, q1, q2, q3, q4, q5, q6, q7, q8⟩ | ⟨q1, ⟨s, hs, q2, q3, q4⟩, q5, q6⟩ | ⟨q1, q2, q3⟩
      · have k9 : ¬ nI k = 9 := by
          intro e
          have := (nI_eq (b := 9) (show k < 2 ^ 31 by omega) (by omega)).mp e
          omega
        have o8 := o8_ne (show i < 8 by omega)
        rw [q7, q8, obs, if_neg (show ¬ gI z 42 j = 1 by rw [q5]; decide), obs, if_pos rfl, obs, if_neg o8.1, if_neg one_ne, if_neg (ix_ok hi (by omega)), nI_clamp (show i < 2 ^ 31 by omega), q1, und k hk t ht hk0, obs, if_pos (Int32.not_lt.mp (nI_pos (show k < 2 ^ 31 by omega))), if_neg k9, if_neg e3]
        rcases und01 (nI k) (nI t) with u | u
        · rw [u, if_pos rfl]; exact ⟨-13, rfl, rfl⟩
        · rw [u, if_neg one_ne, if_neg one_ne, if_neg x1, q6]; exact ⟨nI i, rfl, rfl⟩
      · have ne : ¬ nI t = 10 + gI z 81 j := by
          rw [q3, show (10 : Int32) = nI 10 from rfl, nI_add]
          intro e
          have := (nI_eq (show t < 2 ^ 31 by omega) (show 10 + s < 2 ^ 31 by omega)).mp e
          omega
        rw [if_pos q1, obs, if_neg one_ne, if_pos rfl, q6, obs, if_pos (show (0 : Int32) ≤ 9 by decide), if_pos rfl, if_neg x1, if_neg ne]
        exact ⟨-13, rfl, rfl⟩
      · rw [q2, q3, if_neg q1, obs, if_pos rfl, obs, if_pos rfl, obs, if_neg m1_n0]
        exact ⟨-11, rfl, rfl⟩
    · rw [p2, if_neg one_ne] at e2
      show ∃ r, fT_taken z (nI j) (nI (10 + t)) = some r ∧ fM_taken z (nI j) (nI (10 + t)) = some r
      rw [e1, e2]
      unfold fT_taken_J33 fT_taken_J53 fM_taken_J29 fHost_heldRow
      rw [p1, if_neg one_ne, if_pos rfl, if_neg one_ne, x2, if_neg x1]
      rcases plan_on h hj with ⟨i, k, a, hi, hk0, hk, ha, q1, q2, q3, q4, q5, q6, q7, q8⟩ | ⟨q1, ⟨s, hs, q2, q3, q4⟩, q5, q6⟩ | ⟨q1, q2, q3⟩
      · have k9 : ¬ nI k = 9 := by
          intro e
          have := (nI_eq (b := 9) (show k < 2 ^ 31 by omega) (by omega)).mp e
          omega
        have o8 := o8_ne (show i < 8 by omega)
        rw [q7, q8, obs, if_neg (show ¬ gI z 42 j = 1 by rw [q5]; decide), obs, if_pos rfl, obs, if_neg o8.1, if_pos rfl, if_pos (Int32.not_lt.mp (nI_pos (show k < 2 ^ 31 by omega))), if_neg k9, if_pos e3]
        exact ⟨-13, rfl, rfl⟩
      · have s1 : (nI (10 + t) - 10 : Int32) = nI t := by
          rw [show (10 : Int32) = nI 10 from rfl, pk_sub (by omega), show 10 + t - 10 = t by omega]
        have s2 : (10 + nI s : Int32) = nI (10 + s) := nI_add 10 s
        rw [if_pos q1, obs, if_neg one_ne, if_neg one_ne, if_neg x1, if_neg x1, q2, q6, obs, if_pos (show (0 : Int32) ≤ 9 by decide), if_pos rfl, if_neg x1, if_neg x1, q3, s1, s2, q4]
        by_cases c : s = t
        · subst c
          rw [if_pos rfl, if_pos rfl]
          exact ⟨_, rfl, rfl⟩
        · rw [if_neg (fun e => c ((nI_eq (by omega) (by omega)).mp e)), if_neg (fun e => c (by have := (nI_eq (by omega) (by omega)).mp e; omega))]
          exact ⟨_, rfl, rfl⟩
      · rw [q2, q3, if_neg q1, obs, if_pos rfl, obs, if_pos rfl, obs, if_neg m1_n0]
        exact ⟨-11, rfl, rfl⟩
    · exact ⟨-1, e1, e2⟩
  · refine ⟨-1, ?_, ?_⟩
    · rcases tk_arg z a0 a1 with ⟨t, ht, e0, e1, e2, e3⟩ | ⟨t, ht, e0, e1, e2, e3⟩ | ⟨e1, e2⟩
      · show fT_taken z a0 a1 = _
        rw [e1]
        unfold fT_taken_J33
        rw [(post_no h0).2.2.1, if_pos rfl]
      · show fT_taken z a0 a1 = _
        rw [e1]
        unfold fT_taken_J33
        rw [(post_no h0).2.2.1, if_pos rfl]
      · exact e1
    · show fM_taken z a0 a1 = _
      unfold fM_taken
      rw [(post_no h0).2.2.2, if_pos rfl]
theorem cs_inj {z : MS} {X Y Y2 : Nat → Int32} {b b2 : Nat} {p p2 : Int32} (hb : b ≤ 30) (hb2 : b2 ≤ 30) (h : cs z X b p Y = cs z X b2 p2 Y2) : b = b2 ∧ p = p2 ∧ Y = Y2 := by
  refine ⟨?_, ?_, ?_⟩
  · have e : gI (cs z X b p Y) 32 1 = gI (cs z X b2 p2 Y2) 32 1 := by rw [h]
    have e : nI b = nI b2 := e
    exact (nI_eq (by omega) (by omega)).mp e
  · have e : gI (cs z X b p Y) 32 5 = gI (cs z X b2 p2 Y2) 32 5 := by rw [h]
    exact e
  · have e : gI (cs z X b p Y) 33 = gI (cs z X b2 p2 Y2) 33 := by rw [h]
    exact e
theorem RR_acts {z : MS} (h : RR z z) (X XM Y : Nat → Int32) {b : Nat} (hb : b ≤ 30) (p : Int32) (hX : ∀ i, i = 0 ∨ i = 5 ∨ i = 9 ∨ i = 11 ∨ i = 13 ∨ i = 34 ∨ i = 47 → XM i = gI z 56 i) : RR (ms (cs z X b p Y) XM b p Y) (ms (cs z X b p Y) XM b p Y) := by
  obtain ⟨h1, h2, h3, h4, h5, h6, h7, h8, h9⟩ := h
  have g : ∀ i, i ≠ 45 → i ≠ 46 → gI (ms (cs z X b p Y) XM b p Y) 56 i = XM i := by
    intro i i1 i2
    show upd (upd XM 45 _) 46 _ i = _
    rw [upd_a, if_neg i2, upd_a, if_neg i1]
  refine ⟨?_, ?_, ?_, ?_, h5, h6, ⟨rfl, rfl, lt_nI (by omega) (by omega)⟩, ?_, h9⟩
  · obtain ⟨r0, r1, r2, r3⟩ := h1
    exact ⟨r0, ((g 0 (by decide) (by decide)).trans (hX 0 (by omega))).trans r1, ((g 5 (by decide) (by decide)).trans (hX 5 (by omega))).trans r2, r3⟩
  · exact ⟨((g 9 (by decide) (by decide)).trans (hX 9 (by omega))).trans h2.1, ((g 11 (by decide) (by decide)).trans (hX 11 (by omega))).trans h2.2.1, h2.2.2⟩
  · exact ⟨h3.1, ((g 13 (by decide) (by decide)).trans (hX 13 (by omega))).trans h3.2.1, h3.2.2⟩
  · exact ⟨h4.1, ((g 34 (by decide) (by decide)).trans (hX 34 (by omega))).trans h4.2.1, h4.2.2⟩
  · exact ⟨((g 47 (by decide) (by decide)).trans (hX 47 (by omega))).trans h8.1, h8.2⟩
theorem o_act (z : MS) (h : RR z z) (a0 a1 a2 : Int32) : O2 (fT_act · a0 a1 a2) (fM_act · a0 a1 a2) z := by
  have hclr : RR (pI (pI z 32 1 0) 56 45 0) (pI (pI z 32 1 0) 56 45 0) := ⟨h.1, h.2.1, h.2.2.1, h.2.2.2.1, h.2.2.2.2.1, h.2.2.2.2.2.1, ⟨h.2.2.2.2.2.2.1.1, rfl, lt_nI (n := 0) (by omega) (by omega)⟩, h.2.2.2.2.2.2.2⟩
  have none' : (fT_act z a0 a1 a2 = some (0, pI z 32 1 0)) → (fM_act (pI z 32 1 0) a0 a1 a2 = some (0, pI (pI z 32 1 0) 56 45 0)) → O2 (fT_act · a0 a1 a2) (fM_act · a0 a1 a2) z := fun e1 e2 => ⟨0, pI z 32 1 0, pI (pI z 32 1 0) 56 45 0, e1, e2, hclr⟩
  by_cases h0 : ∃ d, d < 4 ∧ a0 = nI d
  · obtain ⟨j, hj, rfl⟩ := h0
    obtain ⟨-, -, p1, p2⟩ := post_yes hj
    have x1 := ix_n hj (show 4 ≤ 2 ^ 31 by omega)
    have x2 := nI_clamp (show j < 2 ^ 31 by omega)
    have hK : ∀ y : MS, gI y 80 = gI z 80 → gI y 81 = gI z 81 → gI y 64 = gI z 64 → gI y 56 9 = gI z 56 9 → fM_kindOn y (nI j) = fM_kindOn z (nI j) := by
      intro y y1 y2 y3 y4
      unfold fM_kindOn fM_isPlan
      rw [y1, y2, y3, y4]
    by_cases h1 : ∃ d, d < 4 ∧ a1 = nI d
    · obtain ⟨t, ht, rfl⟩ := h1
      have t1 : ¬ nI t < 0 := nI_pos (by omega)
      have t2 : nI t < 4 := nI_lt (b := 4) ht (by omega)
      have t3 : fM_in (nI t) 0 3 = 1 := in_ok (b := 3) (by omega) (by omega)
      rcases plan_on h hj with ⟨i, k, a, hi, hk0, hk, ha, q1, q2, q3, q4, q5, q6, q7, q8⟩ | ⟨q1, -, q5, q6⟩ | ⟨q1, q5, q6⟩
      · have o8 := o8_ne (show i < 8 by omega)
        have s5 : fM_in (nI k) 1 5 = 1 := (kind_yes k hk hk0).2.2
        let X : Nat → Int32 := upd (upd (upd (gI z 32) 2 (nI k)) 3 (nI i)) 4 (nI a)
        let XM : Nat → Int32 := upd (upd (upd (gI z 56) 41 (nI k)) 42 (nI i)) 43 (nI a)
        have hx : AX X XM k := ⟨rfl, rfl, rfl, rfl, i, a, rfl, rfl, hi, ha⟩
        have hC0 : pI (pI (pI (pI (pI z 32 1 0) 32 2 (nI k)) 32 3 (nI i)) 32 4 (nI a)) 32 5 0 = cs z X 0 0 (gI z 33) := by
          unfold cs
          rw [wI_same (wI z 32 (upd (upd X 1 (nI 0)) 5 0)) 33 (gI z 33) rfl]
          rw [show pI z 32 1 0 = wI z 32 (upd (gI z 32) 1 0) from rfl, pI_wI, pI_wI, pI_wI, pI_wI]
          congr 1
          funext q
          show upd (upd (upd (upd (upd (gI z 32) 1 0) 2 (nI k)) 3 (nI i)) 4 (nI a)) 5 0 q = upd (upd (upd (upd (upd (gI z 32) 2 (nI k)) 3 (nI i)) 4 (nI a)) 1 (nI 0)) 5 0 q
          simp only [upd_a]
          by_cases c5 : q = 5
          · rw [if_pos c5, if_pos c5]
          · rw [if_neg c5, if_neg c5]
            by_cases c1 : q = 1
            · subst c1; rfl
            · simp only [if_neg c1]
        have hM0 : ∀ y : MS, gI y 56 = gI z 56 → gI y 81 = gI z 81 → gI y 64 = gI z 64 → pI (pI (pI (pI (pI y 56 45 0) 56 41 (nI k)) 56 42 (nI i)) 56 43 (nI a)) 56 46 0 = ms y XM 0 0 (gI y 83) := by
          intro y y1 y2 y3
          unfold ms
          rw [wI_same (wI y 56 (upd (upd XM 45 (nI 0)) 46 0)) 83 (gI y 83) rfl]
          rw [show pI y 56 45 0 = wI y 56 (upd (gI y 56) 45 0) from rfl, pI_wI, pI_wI, pI_wI, pI_wI]
          congr 1
          funext q
          show upd (upd (upd (upd (upd (gI y 56) 45 0) 41 (nI k)) 42 (nI i)) 43 (nI a)) 46 0 q = upd (upd (upd (upd (upd (gI z 56) 41 (nI k)) 42 (nI i)) 43 (nI a)) 45 (nI 0)) 46 0 q
          rw [y1]
          simp only [upd_a]
          by_cases c5 : q = 46
          · rw [if_pos c5, if_pos c5]
          · rw [if_neg c5, if_neg c5]
            by_cases c1 : q = 45
            · subst c1; rfl
            · simp only [if_neg c1]
        have hXM : ∀ i, i = 0 ∨ i = 5 ∨ i = 9 ∨ i = 11 ∨ i = 13 ∨ i = 34 ∨ i = 47 → XM i = gI z 56 i := by
          intro q hq
          show upd (upd (upd (gI z 56) 41 (nI k)) 42 (nI i)) 43 (nI a) q = _
          rw [upd_a, if_neg (by omega), upd_a, if_neg (by omega), upd_a, if_neg (by omega)]
        have hpick : ∃ bd, fActs_bodyOf (nI k) (nI t) = some bd ∧ ∃ G : MS → Option (Int32 × MS), (∀ y, E1 z y X XM (fActs_run 45 · bd a2 0) G) ∧ ∀ y : MS, (if nI t = 0 then ob2 (fM_sitsIt y a2) (fun w88 zc88 => fM_act_J125 zc88 w88) else (if nI t = 1 then ob2 (fM_countsIt y a2) (fun w101 zc101 => fM_act_J125 zc101 w101) else (if nI t = 2 then ob2 (fM_sharesIt y a2) (fun w114 zc114 => fM_act_J125 zc114 w114) else ob2 (fM_tellsIt y a2) (fun w122 zc122 => fM_act_J125 zc122 w122)))) = ob2 (G y) (fun w zc => fM_act_J125 zc w) := by
          rcases (show t = 0 ∨ t = 1 ∨ t = 2 ∨ t = 3 by omega) with rfl | rfl | rfl | rfl
          · obtain ⟨bd, hbd, -⟩ := sits_k (z := z) (y := z) hx ⟨hk0, hk⟩ 42 a2 (e := 0) (by omega)
            refine ⟨bd, hbd, (fM_sitsIt · a2), fun y => ?_, fun y => if_pos rfl⟩
            obtain ⟨bd2, hbd2, hE⟩ := sits_k (z := z) (y := y) hx ⟨hk0, hk⟩ 42 a2 (e := 0) (by omega)
            rw [hbd] at hbd2
            cases hbd2
            exact E0_1 hE
          · obtain ⟨bd, hbd, -⟩ := counts_k (z := z) (y := z) hx ⟨hk0, hk⟩ 40 a2 (e := 0) (by omega)
            refine ⟨bd, hbd, (fM_countsIt · a2), fun y => ?_, fun y => by rw [if_neg (by decide), if_pos (show nI 1 = 1 from rfl)]⟩
            obtain ⟨bd2, hbd2, hE⟩ := counts_k (z := z) (y := y) hx ⟨hk0, hk⟩ 40 a2 (e := 0) (by omega)
            rw [hbd] at hbd2
            cases hbd2
            exact E0_1 hE
          · obtain ⟨bd, hbd, -⟩ := shares_k (z := z) (y := z) hx ⟨hk0, hk⟩ 40 a2 (e := 0) (by omega)
            refine ⟨bd, hbd, (fM_sharesIt · a2), fun y => ?_, fun y => by rw [if_neg (by decide), if_neg (by decide), if_pos (show nI 2 = 2 from rfl)]⟩
            obtain ⟨bd2, hbd2, hE⟩ := shares_k (z := z) (y := y) hx ⟨hk0, hk⟩ 40 a2 (e := 0) (by omega)
            rw [hbd] at hbd2
            cases hbd2
            exact hE
          · obtain ⟨bd, hbd, -⟩ := tells_k (z := z) (y := z) hx ⟨hk0, hk⟩ 38 a2 (e := 0) (by omega)
            refine ⟨bd, hbd, (fM_tellsIt · a2), fun y => ?_, fun y => by rw [if_neg (by decide), if_neg (by decide), if_neg (by decide)]⟩
            obtain ⟨bd2, hbd2, hE⟩ := tells_k (z := z) (y := y) hx ⟨hk0, hk⟩ 38 a2 (e := 0) (by omega)
            rw [hbd] at hbd2
            cases hbd2
            exact hE
        obtain ⟨bd, hbd, G, hE, hG⟩ := hpick
        obtain ⟨r, b, p, Y, hb, hp, r1, -⟩ := hE z 0 (gI z 33) (by omega)
        obtain ⟨r', b', p', Y', hb', hp', r1', r2⟩ := hE (cs z X b p Y) 0 (gI z 33) (by omega)
        have r1 : fActs_run 45 (cs z X 0 0 (gI z 33)) bd a2 0 = some (r, cs z X b p Y) := r1
        have r1' : fActs_run 45 (cs z X 0 0 (gI z 33)) bd a2 0 = some (r', cs z X b' p' Y') := r1'
        rw [r1] at r1'
        have er := (Prod.mk.inj (Option.some.inj r1')).1
        obtain ⟨e1, e2, e3⟩ := cs_inj hb hb' (Prod.mk.inj (Option.some.inj r1')).2
        subst er e1 e2 e3
        refine ⟨if p = 0 then r else -15, cs z X b p Y, ms (cs z X b p Y) XM b p Y, ?_, ?_, RR_acts h X XM Y hb p hXM⟩
        · show fT_act z (nI j) (nI t) a2 = _
          unfold fT_act fActs_forget
          have g27 : gI (pI z 32 1 0) 27 i = nI k := q1
          have g28 : gI (pI z 32 1 0) 28 i = nI a := q2
          rw [obs, p1, if_neg one_ne, if_neg t1, if_pos t2, show fT_planOn (pI z 32 1 0) (nI j) = some (nI i) from q7, obs, if_neg o8.1, if_neg (ix_ok hi (by omega)), if_neg (ix_ok hi (by omega)), nI_clamp (show i < 2 ^ 31 by omega), g27, g28, ob2_eta]
          unfold fActs_perform
          rw [hbd, obs, hC0, r1, ob2s, show gI (cs z X b p Y) 32 5 = p from rfl]
          by_cases c : p = 0
          · rw [if_pos c, if_pos c]
          · rw [if_neg c, if_neg c]
        · show fM_act (cs z X b p Y) (nI j) (nI t) a2 = _
          unfold fM_act
          rw [p2, if_neg one_ne, hK (pI (cs z X b p Y) 56 45 0) rfl rfl rfl rfl, q8, obs]
          unfold fM_act_J21
          have g81 : gI (pI (pI (cs z X b p Y) 56 45 0) 56 41 (nI k)) 81 j = nI i := q6
          have g42 : gI (pI (pI (pI (cs z X b p Y) 56 45 0) 56 41 (nI k)) 56 42 (nI i)) 56 42 = nI i := rfl
          have g64 : gI (pI (pI (pI (cs z X b p Y) 56 45 0) 56 41 (nI k)) 56 42 (nI i)) 64 (2 * i + 1) = nI a := q4
          have tt : (2 * nI i + 1 : Int32) = nI (2 * i + 1) := by rw [show (2 : Int32) = nI 2 from rfl, pk_mul, nI_s]
          rw [t3, if_neg one_ne, s5, if_neg one_ne, x2, if_neg x1, g81, g42, tt, if_neg (ix_ok (show 2 * i + 1 < 8 by omega) (by omega)), nI_clamp (show 2 * i + 1 < 2 ^ 31 by omega), g64, hM0 (cs z X b p Y) rfl rfl rfl, hG]
          have g83 : gI (cs z X b p Y) 83 = gI z 33 := h.2.2.2.2.2.2.1.1
          rw [g83]
          have r2 : G (ms (cs z X b p Y) XM 0 0 (gI z 33)) = some (r, ms (cs z X b p Y) XM b p Y) := r2
          rw [r2, ob2s]
          unfold fM_act_J125
          rw [show gI (ms (cs z X b p Y) XM b p Y) 56 46 = p from rfl]
          by_cases c : p = 0
          · rw [if_pos c, if_pos c]
          · rw [if_neg c, if_neg c]
      · refine none' ?_ ?_
        · unfold fT_act fActs_forget
          rw [obs, p1, if_neg one_ne, if_neg t1, if_pos t2, show fT_planOn (pI z 32 1 0) (nI j) = some (-1) from q5, obs, if_pos rfl]
        · unfold fM_act fM_act_J21
          rw [p2, if_neg one_ne, hK (pI (pI z 32 1 0) 56 45 0) rfl rfl rfl rfl, q6, obs, t3, if_neg one_ne, show fM_in 9 1 5 = 0 by decide, if_pos rfl]
      · refine none' ?_ ?_
        · unfold fT_act fActs_forget
          rw [obs, p1, if_neg one_ne, if_neg t1, if_pos t2, show fT_planOn (pI z 32 1 0) (nI j) = some (-1) from q5, obs, if_pos rfl]
        · unfold fM_act fM_act_J21
          rw [p2, if_neg one_ne, hK (pI (pI z 32 1 0) 56 45 0) rfl rfl rfl rfl, q6, obs, t3, if_neg one_ne, show fM_in (-1) 1 5 = 0 by decide, if_pos rfl]
    · have hin : fM_in a1 0 3 = 0 := (post_no h1).2.1
      have hc : a1 < 0 ∨ (¬ a1 < 0 ∧ ¬ a1 < (4 : Int32)) := by
        rcases ag a1 3 (by omega) with ⟨h2, -⟩ | ⟨h2, h3, h4, h5, h6⟩ | ⟨i, hi, rfl⟩
        · exact Or.inl h2
        · exact Or.inr ⟨h2, h6⟩
        · exact absurd ⟨i, by omega, rfl⟩ h1
      refine none' ?_ ?_
      · unfold fT_act fActs_forget
        rw [obs, p1, if_neg one_ne]
        rcases hc with hc | ⟨hc, hc2⟩
        · rw [if_pos hc]
        · rw [if_neg hc, if_neg hc2]
      · have hk : ∃ v, fM_kindOn (pI (pI z 32 1 0) 56 45 0) (nI j) = some v := by
          rw [hK (pI (pI z 32 1 0) 56 45 0) rfl rfl rfl rfl]
          rcases plan_on h hj with ⟨i, k, a, hi, hk0, hk, ha, q1, q2, q3, q4, q5, q6, q7, q8⟩ | ⟨q1, -, q5, q6⟩ | ⟨q1, q5, q6⟩
          · exact ⟨_, q8⟩
          · exact ⟨_, q6⟩
          · exact ⟨_, q6⟩
        obtain ⟨v, hv⟩ := hk
        unfold fM_act fM_act_J21
        rw [p2, if_neg one_ne, hv, obs, hin, if_pos rfl]
  · refine none' ?_ ?_
    · unfold fT_act fActs_forget
      rw [obs, (post_no h0).2.2.1, if_pos rfl]
    · unfold fM_act fM_act_J21
      rw [(post_no h0).2.2.2, if_pos rfl, show fM_in (-1) 1 5 = 0 by decide]
      by_cases c : fM_in a1 0 3 = 0
      · rw [if_pos c]
      · rw [if_neg c, if_pos rfl]
