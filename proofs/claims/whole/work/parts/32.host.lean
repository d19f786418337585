theorem IT_up {J : Nat → Int64} {k j i : Nat} {f : Nat → Int32} (h : IT J k f) (hi : i < 40) (v : Int32) : IT (vp_updL J (40 * j + i) v.toInt64) k (if j = k then upd f i v else f) := by
  intro a ha
  rw [updL_a]
  by_cases e : j = k
  · subst e
    rw [if_pos rfl, upd_a]
    by_cases e : a = i
    · rw [if_pos e, if_pos (by omega)]
    · rw [if_neg e, if_neg (by omega)]
      exact h a ha
  · rw [if_neg (by omega), if_neg e]
    exact h a ha
theorem RR_put {z : MS} (h : RR z z) {j i : Nat} (hj : j < 4) (hi : i < 40) (v : Int32) : RR (pJ (pI z (38 + j) i v) 79 (40 * j + i) v.toInt64) (pJ (pI z (38 + j) i v) 79 (40 * j + i) v.toInt64) := by
  obtain ⟨e1, e2, e3, i0, i1, i2, i3⟩ := h.2.2.2.2.1
  have j0 := IT_up (j := j) i0 hi v
  have j1 := IT_up (j := j) i1 hi v
  have j2 := IT_up (j := j) i2 hi v
  have j3 := IT_up (j := j) i3 hi v
  rcases (show j = 0 ∨ j = 1 ∨ j = 2 ∨ j = 3 by omega) with rfl | rfl | rfl | rfl
  · exact ⟨h.1, h.2.1, h.2.2.1, h.2.2.2.1, ⟨e1, e2, e3, j0, j1, j2, j3⟩, h.2.2.2.2.2⟩
  · exact ⟨h.1, h.2.1, h.2.2.1, h.2.2.2.1, ⟨e1, e2, e3, j0, j1, j2, j3⟩, h.2.2.2.2.2⟩
  · exact ⟨h.1, h.2.1, h.2.2.1, h.2.2.2.1, ⟨e1, e2, e3, j0, j1, j2, j3⟩, h.2.2.2.2.2⟩
  · exact ⟨h.1, h.2.1, h.2.2.1, h.2.2.2.1, ⟨e1, e2, e3, j0, j1, j2, j3⟩, h.2.2.2.2.2⟩
theorem i4 (j i : Nat) : (40 * nI j + nI i : Int32) = nI (40 * j + i) := by rw [show (40 : Int32) = nI 40 from rfl, pk_mul, nI_add]
theorem m1_n0 : ¬ (0 : Int32) ≤ -1 := by decide
theorem o_put (z : MS) (h : RR z z) (a0 a1 a2 : Int32) : O2 (fT_put · a0 a1 a2) (fM_put · a0 a1 a2) z := by
  by_cases h0 : ∃ d, d < 4 ∧ a0 = nI d
  · obtain ⟨j, hj, rfl⟩ := h0
    obtain ⟨-, -, p1, p2⟩ := post_yes hj
    obtain ⟨e1, e2, e3, -⟩ := h.2.2.2.2.1
    obtain ⟨hs, hl⟩ := e3 j hj
    obtain ⟨l, hl1, hl2, -⟩ := lt_ex hl
    have e1j : gI z 77 j = gI z 35 j := by rw [e1]
    have e2j : gI z 78 j = gI z 36 j := by rw [e2]
    have x1 := ix_n hj (show 4 ≤ 2 ^ 31 by omega)
    have x2 := nI_clamp (show j < 2 ^ 31 by omega)
    rcases hs with hs | hs
    · exact same2 (-11) h (by simp only [fT_put, p1, one_ne, if_false, x1, x2, hs, if_true]) (by simp only [fM_put, p2, one_ne, if_false, x1, x2, e1j, hs, m1_n0])
    · have hsn := lt_ne hs (by omega)
      have hs1 := hsn.1
      have hs2 := hsn.2
      rcases cut a1 l (by omega) with ⟨i, hi, rfl, c1, c2, c3, c4⟩ | ⟨c1, c2⟩
      · have hi40 : i < 40 := by omega
        have hix : 40 * j + i < 160 := by omega
        have y2 := nI_clamp (show i < 2 ^ 31 by omega)
        have w1 := ix_n hix (show 160 ≤ 2 ^ 31 by omega)
        have w2 := nI_clamp (show 40 * j + i < 2 ^ 31 by omega)
        have hh : fHost_holds z (nI j) (nI i) = some 1 := by simp only [fHost_holds, c2, if_false, x1, x2, hl2, c4]
        have hT : fT_put z (nI j) (nI i) a2 = fHost_write z (nI j) (nI i) a2 := by
          simp only [fT_put, p1, one_ne, if_false, x1, x2, hs1, hh, Option.bind]
          exact ob2_eta _
        obtain ⟨v, hw, hm⟩ : ∃ v, fHost_write z (nI j) (nI i) a2 = some (1, pI z (38 + j) i v) ∧ ∀ y, gI y 77 j = gI z 35 j → gI y 78 j = nI l → fM_put y (nI j) (nI i) a2 = some (1, pJ y 79 (40 * j + i) v.toInt64) := by
          have x3 := ix_n hi40 (show 40 ≤ 2 ^ 31 by omega)
          have x4 := ix_f hi40
          by_cases s0 : gI z 35 j = 0
          · refine ⟨a2.toInt8.toInt32, ?_, ?_⟩
            · simp only [fHost_write, x1, x2, y2, s0, if_true, if_false, c2, x3, x4]
            · intro y q1 q2
              have q3 : (0 : Int32) ≤ gI y 77 j := by rw [q1]; exact hs2
              rw [s0] at q1
              simp only [fM_put, p2, one_ne, if_false, x1, x2, q3, q2, c1, q1, i4, w1, w2, if_true, show (0 : Int32) ≤ 0 by decide, show (0 : Int32) ≤ 1 by decide]
          · by_cases s1 : gI z 35 j = 1
            · refine ⟨a2.toInt16.toInt32, ?_, ?_⟩
              · simp only [fHost_write, x1, x2, y2, s0, s1, one_ne, if_true, if_false, c2, x3, x4]
              · intro y q1 q2
                have q3 : (0 : Int32) ≤ gI y 77 j := by rw [q1]; exact hs2
                rw [s1] at q1
                simp only [fM_put, p2, one_ne, if_false, x1, x2, q3, q2, c1, q1, i4, w1, w2, if_true, show (0 : Int32) ≤ 0 by decide, show (0 : Int32) ≤ 1 by decide]
            · refine ⟨a2, ?_, ?_⟩
              · simp only [fHost_write, x1, x2, y2, s0, s1, one_ne, if_true, if_false, c2, x3, x4]
              · intro y q1 q2
                have q3 : (0 : Int32) ≤ gI y 77 j := by rw [q1]; exact hs2
                have q4 : ¬ gI y 77 j = 0 := by rw [q1]; exact s0
                have q5 : ¬ gI y 77 j = 1 := by rw [q1]; exact s1
                simp only [fM_put, p2, one_ne, if_false, x1, x2, q3, q2, c1, q4, q5, i4, w1, w2, if_true]
        refine ⟨1, _, _, hT.trans hw, hm (pI z (38 + j) i v) ?_ ?_, RR_put h hj hi40 v⟩
        · rw [gI_pI, if_neg (by omega)]; exact e1j
        · rw [gI_pI, if_neg (by omega)]; exact e2j.trans hl2
      · refine same2 (-12) h ?_ ?_
        · have hh : fHost_holds z (nI j) a1 = some 0 := by
            rcases c2 with c2 | ⟨c2, -, c3⟩
            · simp only [fHost_holds, c2, if_true]
            · simp only [fHost_holds, c2, if_false, x1, x2, hl2, c3, if_true]
          simp only [fT_put, p1, one_ne, if_false, x1, x2, hs1, hh, Option.bind, if_true]
        · rw [← e1j] at hs2
          simp only [fM_put, p2, one_ne, if_false, x1, x2, hs2, if_true, e2j, hl2, c1]
  · exact same2 (-1) h (by simp only [fT_put, (post_no h0).2.2.1, if_true]) (by simp only [fM_put, (post_no h0).2.2.2, if_true])
theorem IT_at {z : MS} (h : RR z z) {j i : Nat} (hj : j < 4) (hi : i < 40) : gJ z 79 (40 * j + i) = (gI z (38 + j) i).toInt64 := by
  obtain ⟨-, -, -, i0, i1, i2, i3⟩ := h.2.2.2.2.1
  rcases (show j = 0 ∨ j = 1 ∨ j = 2 ∨ j = 3 by omega) with rfl | rfl | rfl | rfl
  · exact i0 i hi
  · exact i1 i hi
  · exact i2 i hi
  · exact i3 i hi
theorem n32 (x : Int32) : x.toInt64.toInt32 = x := Int32.toInt32_toInt64 x
theorem o_item (z : MS) (h : RR z z) (a0 a1 a2 : Int32) : O1 (fT_item · a0 a1 a2) (fM_item · a0 a1 a2) z := by
  by_cases h0 : ∃ d, d < 4 ∧ a0 = nI d
  · obtain ⟨j, hj, rfl⟩ := h0
    obtain ⟨-, -, p1, p2⟩ := post_yes hj
    obtain ⟨e1, e2, e3, -⟩ := h.2.2.2.2.1
    obtain ⟨hs, hl⟩ := e3 j hj
    obtain ⟨l, hl1, hl2, -⟩ := lt_ex hl
    have e1j : gI z 77 j = gI z 35 j := by rw [e1]
    have e2j : gI z 78 j = gI z 36 j := by rw [e2]
    have x1 := ix_n hj (show 4 ≤ 2 ^ 31 by omega)
    have x2 := nI_clamp (show j < 2 ^ 31 by omega)
    rcases ag a1 3 (by omega) with ⟨h1, -⟩ | ⟨h1, h2, h3, h4, h5⟩ | ⟨s, hs4, rfl⟩
    · exact ⟨-1, by simp only [fT_item, p1, one_ne, if_false, h1, if_true], by simp only [fM_item, p2, one_ne, if_false, in_lo h1, if_true]⟩
    · exact ⟨-1, by simp only [fT_item, p1, one_ne, if_false, h1, if_neg (show ¬ a1 < (4 : Int32) from h5)], by simp only [fM_item, p2, one_ne, if_false, in_hi (show (3 : Int32) < a1 from h3), if_true]⟩
    · have q1 : ¬ nI s < 0 := nI_pos (by omega)
      have q2 : nI s < (4 : Int32) := nI_lt (b := 4) (by omega) (by omega)
      have q3 : fM_in (nI s) 0 3 = 1 := in_ok (b := 3) hs4 (by omega)
      rcases hs with hs | hs
      · exact ⟨-11, by simp only [fT_item, p1, one_ne, if_false, x1, x2, q1, q2, hs, if_true], by simp only [fM_item, fM_lacksSort, p2, one_ne, if_false, x1, x2, q3, e1j, hs, m1_n0, Option.bind]; rfl⟩
      · have hsn := lt_ne hs (by omega)
        have hs1 := hsn.1
        have hs2 := hsn.2
        by_cases hk : gI z 35 j = nI s
        · have hs2' : (0 : Int32) ≤ nI s := by rw [← hk]; exact hs2
          have hs1' : ¬ nI s = -1 := by rw [← hk]; exact hs1
          rcases cut a2 l (by omega) with ⟨i, hi, rfl, c1, c2, c3, c4⟩ | ⟨c1, c2⟩
          · have hi40 : i < 40 := by omega
            have hix : 40 * j + i < 160 := by omega
            have y2 := nI_clamp (show i < 2 ^ 31 by omega)
            have w1 := ix_n hix (show 160 ≤ 2 ^ 31 by omega)
            have w2 := nI_clamp (show 40 * j + i < 2 ^ 31 by omega)
            have hh : fHost_holds z (nI j) (nI i) = some 1 := by simp only [fHost_holds, c2, if_false, x1, x2, hl2, c4]
            refine ⟨gI z (38 + j) i, ?_, ?_⟩
            · simp only [fT_item, p1, one_ne, if_false, x1, x2, y2, q1, q2, hk, hs1', if_true, hh, Option.bind, c2, ix_f hi40]
            · simp only [fM_item, fM_lacksSort, p2, one_ne, if_false, x1, x2, q3, e1j, hk, hs2', if_true, Option.bind, e2j, hl2, c1, i4, w1, w2, IT_at h hj hi40, n32]
          · have hh : fHost_holds z (nI j) a2 = some 0 := by
              rcases c2 with c2 | ⟨c2, -, c3⟩
              · simp only [fHost_holds, c2, if_true]
              · simp only [fHost_holds, c2, if_false, x1, x2, hl2, c3, if_true]
            refine ⟨-12, ?_, ?_⟩
            · simp only [fT_item, p1, one_ne, if_false, x1, x2, q1, q2, hk, hs1', if_true, hh, Option.bind]
            · simp only [fM_item, fM_lacksSort, p2, one_ne, if_false, x1, x2, q3, e1j, hk, hs2', if_true, Option.bind, e2j, hl2, c1]
        · refine ⟨-13, ?_, ?_⟩
          · simp only [fT_item, p1, one_ne, if_false, x1, x2, q1, q2, hk, hs1, if_true]
          · simp only [fM_item, fM_lacksSort, p2, one_ne, if_false, x1, x2, q3, e1j, hk, hs2, if_true, Option.bind]
            rfl
  · exact ⟨-1, by simp only [fT_item, (post_no h0).2.2.1, if_true], by simp only [fM_item, (post_no h0).2.2.2, if_true]⟩
theorem RV_up {a b c d e f : Nat → Int32} (h : ∀ k, k < 4 → SR (a k) (b k) (c k) (d k) (e k) (f k)) {w x y u v t : Int32} (hn : SR w x y u v t) (j : Nat) : ∀ k, k < 4 → SR (upd a j w k) (upd b j x k) (upd c j y k) (upd d j u k) (upd e j v k) (upd f j t k) := by
  intro k hk
  simp only [upd_a]
  by_cases e : k = j
  · rw [if_pos e, if_pos e, if_pos e, if_pos e, if_pos e, if_pos e]; exact hn
  · rw [if_neg e, if_neg e, if_neg e, if_neg e, if_neg e, if_neg e]; exact h k hk
theorem RR_shelf {z : MS} (h : RR z z) {w x y u v t : Int32} (hn : SR w x y u v t) (j : Nat) : RR (pI (pI (pI (pI (pI (pI z 42 j w) 43 j x) 44 j y) 80 j u) 81 j v) 82 j t) (pI (pI (pI (pI (pI (pI z 42 j w) 43 j x) 44 j y) 80 j u) 81 j v) 82 j t) :=
  ⟨h.1, h.2.1, h.2.2.1, h.2.2.2.1, h.2.2.2.2.1, RV_up h.2.2.2.2.2.1 hn j, h.2.2.2.2.2.2⟩
theorem o_shelf (z : MS) (h : RR z z) (a0 a1 a2 : Int32) : O2 (fT_shelf · a0 a1 a2) (fM_shelf · a0 a1 a2) z := by
  by_cases h0 : ∃ d, d < 4 ∧ a0 = nI d
  · obtain ⟨j, hj, rfl⟩ := h0
    obtain ⟨-, -, p1, p2⟩ := post_yes hj
    have x1 := ix_n hj (show 4 ≤ 2 ^ 31 by omega)
    have x2 := nI_clamp (show j < 2 ^ 31 by omega)
    have n20 : ¬ (2 : Int32) = 0 := by decide
    have n21 : ¬ (2 : Int32) = 1 := by decide
    have n01 : ¬ (0 : Int32) = 1 := by decide
    have n02 : ¬ (0 : Int32) = 2 := by decide
    have n12 : ¬ (1 : Int32) = 2 := by decide
    by_cases k0 : a1 = 0
    · subst k0
      rcases plan_has h a2 with ⟨i, -, hi, rfl, c1, c2⟩ | ⟨c1, c2, -⟩
      · have hg : pI z 42 j 0 = pI (pI z 42 j 0) 43 j (gI z 43 j) := (pI_same (pI z 42 j 0) 43 j (gI z 43 j) rfl).symm
        refine ⟨1, pI (pI (pI z 42 j 0) 43 j (gI z 43 j)) 44 j (nI i), _, ?_, ?_, RR_shelf h (w := 0) (x := gI z 43 j) (y := nI i) (u := 0) (v := nI i) (t := 0) (Or.inl ⟨rfl, rfl, rfl⟩) j⟩
        · rw [← hg]
          simp only [fT_shelf, fHost_shelvePlan, p1, one_ne, if_false, if_true, c1, x1, x2]
          rfl
        · show fM_shelf (pI (pI (pI z 42 j 0) 43 j (gI z 43 j)) 44 j (nI i)) _ _ _ = _
          have c3 : fM_isPlan (pI (pI (pI z 42 j 0) 43 j (gI z 43 j)) 44 j (nI i)) (nI i) = 1 := c2
          simp only [fM_shelf, fM_isHeld, p2, c3, one_ne, if_false, if_true, n01, n02, fM_shelf_J46, fM_shelf_J47, fM_shelf_J68, x1, x2]
      · exact same2 (-1) h (by simp only [fT_shelf, p1, one_ne, if_false, if_true, c1]) (by simp only [fM_shelf, fM_isHeld, p2, one_ne, if_false, if_true, c2])
    · by_cases k1 : a1 = 1
      · subst k1
        by_cases h2 : ∃ d, d < 4 ∧ a2 = nI d
        · obtain ⟨i, hi, rfl⟩ := h2
          obtain ⟨-, -, r1, r2⟩ := post_yes hi
          have y1 := ix_n hi (show 4 ≤ 2 ^ 31 by omega)
          have y2 := nI_clamp (show i < 2 ^ 31 by omega)
          obtain ⟨e1, e2, e3, -⟩ := h.2.2.2.2.1
          have e1j : gI z 77 i = gI z 35 i := by rw [e1]
          have e2j : gI z 78 i = gI z 36 i := by rw [e2]
          rcases (e3 i hi).1 with hs | hs
          · refine ⟨1, pI (pI (pI z 42 j 2) 43 j (gI z 35 i)) 44 j (gI z 36 i), _, ?_, ?_, RR_shelf h (w := 2) (x := gI z 35 i) (y := gI z 36 i) (u := -1) (v := gI z 77 i) (t := gI z 78 i) (Or.inr (Or.inr ⟨rfl, rfl⟩)) j⟩
            · simp only [fT_shelf, fHost_shelveRow, fHost_shelveRow_J20, p1, r1, one_ne, if_false, if_true, x1, x2, y1, y2, hs]
              show some (1, pI (pI (pI z 42 j 2) 43 j (gI z 35 i)) 44 j (gI z 36 i)) = _
              rw [hs]
            · show fM_shelf (pI (pI (pI z 42 j 2) 43 j (gI z 35 i)) 44 j (gI z 36 i)) _ _ _ = _
              have c3 : ¬ (0 : Int32) ≤ gI (pI (pI (pI z 42 j 2) 43 j (gI z 35 i)) 44 j (gI z 36 i)) 77 i := by
                show ¬ (0 : Int32) ≤ gI z 77 i
                rw [e1j, hs]; exact m1_n0
              simp only [fM_shelf, fM_isHeld, p2, r2, c3, one_ne, if_false, if_true, n12, fM_shelf_J42, fM_shelf_J47, fM_shelf_J68, x1, x2, y1, y2]
              rfl
          · have hsn := lt_ne hs (by omega)
            refine ⟨1, pI (pI (pI z 42 j 1) 43 j (gI z 35 i)) 44 j (gI z 36 i), _, ?_, ?_, RR_shelf h (w := 1) (x := gI z 35 i) (y := gI z 36 i) (u := 1) (v := gI z 77 i) (t := gI z 78 i) (Or.inr (Or.inl ⟨rfl, rfl, e1j.symm, e2j.symm, by rw [e1j]; exact hs⟩)) j⟩
            · simp only [fT_shelf, fHost_shelveRow, fHost_shelveRow_J20, p1, r1, one_ne, if_false, if_true, x1, x2, y1, y2, hsn.1]
              rfl
            · show fM_shelf (pI (pI (pI z 42 j 1) 43 j (gI z 35 i)) 44 j (gI z 36 i)) _ _ _ = _
              have c3 : (0 : Int32) ≤ gI (pI (pI (pI z 42 j 1) 43 j (gI z 35 i)) 44 j (gI z 36 i)) 77 i := by
                show (0 : Int32) ≤ gI z 77 i
                rw [e1j]; exact hsn.2
              simp only [fM_shelf, fM_isHeld, p2, r2, c3, one_ne, if_false, if_true, n12, fM_shelf_J46, fM_shelf_J47, fM_shelf_J68, x1, x2, y1, y2]
              rfl
        · exact same2 (-1) h (by simp only [fT_shelf, p1, one_ne, if_false, if_true, (post_no h2).2.2.1]) (by simp only [fM_shelf, fM_isHeld, p2, one_ne, if_false, if_true, (post_no h2).2.2.2])
      · by_cases k2 : a1 = 2
        · subst k2
          have hg : pI z 42 j 2 = pI (pI (pI z 42 j 2) 43 j (gI z 43 j)) 44 j (gI z 44 j) := by
            rw [pI_same (pI z 42 j 2) 43 j (gI z 43 j) rfl, pI_same (pI z 42 j 2) 44 j (gI z 44 j) rfl]
          refine ⟨1, pI (pI (pI z 42 j 2) 43 j (gI z 43 j)) 44 j (gI z 44 j), _, ?_, ?_, RR_shelf h (w := 2) (x := gI z 43 j) (y := gI z 44 j) (u := -1) (v := a2) (t := 0) (Or.inr (Or.inr ⟨rfl, rfl⟩)) j⟩
          · rw [← hg]
            simp only [fT_shelf, fHost_clear, p1, one_ne, n20, n21, if_false, if_true, x1, x2]
            rfl
          · simp only [fM_shelf, fM_isHeld, p2, one_ne, n20, n21, if_false, if_true, fM_shelf_J42, fM_shelf_J47, fM_shelf_J68, x1, x2]
        · exact same2 (-1) h (by simp only [fT_shelf, p1, one_ne, if_false, k0, k1, k2]) (by simp only [fM_shelf, fM_isHeld, p2, one_ne, if_false, k0, k1, k2, if_true])
  · exact same2 (-1) h (by simp only [fT_shelf, (post_no h0).2.2.1, if_true]) (by simp only [fM_shelf, (post_no h0).2.2.2, if_true])
