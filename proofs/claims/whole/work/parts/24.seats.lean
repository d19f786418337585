theorem lt_ne {w : Int32} {m : Nat} (h : lt w m) (hm : m ≤ 2 ^ 31) : w ≠ -1 ∧ 0 ≤ w := by
  obtain ⟨n, hn, rfl, -⟩ := lt_ex h
  have h0 : ¬ nI n < 0 := nI_pos (by omega)
  exact ⟨fun e => h0 (by rw [e]; decide), Int32.not_lt.mp h0⟩
theorem orNob {w : Int32} {m : Nat} (h : w = -1 ∨ lt w m) (hm : m ≤ 2 ^ 31) : fM_orNobody w = if w = -1 then -9 else w := by
  unfold fM_orNobody
  rcases h with rfl | h
  · rw [if_pos rfl, if_neg (by decide)]
  · rw [if_pos (lt_ne h hm).2, if_neg (lt_ne h hm).1]
theorem sIx {d s : Nat} (hd : d < 10) (hs : s < 4) : nI d * 4 + nI s = nI (4 * d + s) ∧ 4 * nI d + nI s = nI (4 * d + s) := by
  have e : (4 : Int32) = nI 4 := rfl
  rw [e]
  simp (disch := omega) only [pk_mul, nI_add, Nat.mul_comm d 4, and_self]
theorem RR_seat {c m : MS} (h : RR c m) {i : Nat} (hi : i < 40) : gI c 6 i = -1 ∨ lt (gI c 6 i) (cl (gI c 1 0)) := h.1.1.2.2.2.2.2.2.2.2.2.1 i hi
theorem RR_n8 {c m : MS} (h : RR c m) : cl (gI c 1 0) < 9 := h.1.1.1.2
theorem post_core {z : MS} (h : RR z z) {d s : Nat} (hd : d < 10) (hs : s < 4) {v : Int32} (hv : v = -1 ∨ lt v (cl (gI z 1 0))) :
    ∃ r z1 z2, fT_post_J32 z (nI d) (nI s) v = some (r, z1) ∧ fM_post_J29 z1 (nI d) (nI s) v = some (r, z2) ∧ RR z2 z2 := by
  have hi : 4 * d + s < 40 := by omega
  have hw := RR_seat h hi
  have h60 : gI z 60 = gI z 6 := h.1.2.2.2.2.2.2.1
  have hT : fT_post_J32 z (nI d) (nI s) v = some (if gI z 6 (4 * d + s) = -1 then -9 else gI z 6 (4 * d + s), pI z 6 (4 * d + s) v) := by
    simp only [fT_post_J32, fHouse_at, fHouse_seat, (sIx hd hs).1, ix_n hi (show 40 ≤ 2 ^ 31 by omega), ix_f hi, if_false, nI_clamp (show 4 * d + s < 2 ^ 31 by omega), Option.bind]
    by_cases e : gI z 6 (4 * d + s) = -1
    · rw [if_pos e, if_pos e]
    · rw [if_neg e, if_neg e]
  have hM : ∀ z, gI z 60 (4 * d + s) = -1 ∨ lt (gI z 60 (4 * d + s)) 9 → fM_post_J29 z (nI d) (nI s) v = some (if gI z 60 (4 * d + s) = -1 then -9 else gI z 60 (4 * d + s), pI z 60 (4 * d + s) v) := by
    intro z h9
    simp only [fM_post_J29, (sIx hd hs).2, ix_n hi (show 40 ≤ 2 ^ 31 by omega), ix_f hi, if_false, nI_clamp (show 4 * d + s < 2 ^ 31 by omega), orNob h9 (by omega)]
  refine ⟨_, _, pI (pI z 6 (4 * d + s) v) 60 (4 * d + s) v, hT, (hM (pI z 6 (4 * d + s) v) ?_).trans ?_, ?_⟩
  · show gI z 60 _ = -1 ∨ lt (gI z 60 _) 9
    rw [h60]
    rcases hw with hw | hw
    · exact Or.inl hw
    · exact Or.inr ⟨hw.1, Nat.lt_trans hw.2 (RR_n8 h)⟩
  · show some (if gI z 60 (4 * d + s) = -1 then -9 else gI z 60 (4 * d + s), _) = _
    rw [h60]
  · refine ⟨⟨HV_S h.1.1 ?_, h.1.2.1, h.1.2.2.1, h.1.2.2.2.1, h.1.2.2.2.2.1, h.1.2.2.2.2.2.1, ?_, h.1.2.2.2.2.2.2.2⟩, h.2⟩
    · intro i hi2
      show upd (gI z 6) (4 * d + s) v i = -1 ∨ lt (upd (gI z 6) (4 * d + s) v i) _
      rw [upd_a]
      by_cases e : i = 4 * d + s
      · rw [if_pos e]; exact hv
      · rw [if_neg e]; exact RR_seat h hi2
    · show upd (gI z 60) _ _ = upd (gI z 6) _ _
      rw [h60]
theorem o_post (z : MS) (h : RR z z) (a0 a1 a2 : Int32) : O2 (fT_post · a0 a1 a2) (fM_post · a0 a1 a2) z := by
  by_cases h0 : ∃ d, d < 10 ∧ a0 = nI d
  · obtain ⟨d, hd, rfl⟩ := h0
    by_cases h1 : ∃ d, d < 4 ∧ a1 = nI d
    · obtain ⟨s, hs, rfl⟩ := h1
      by_cases h2 : a2 = -1
      · obtain ⟨r, z1, z2, e1, e2, e3⟩ := post_core h hd hs (Or.inl h2)
        refine ⟨r, z1, z2, ?_, ?_, e3⟩
        · show fT_post z _ _ _ = _
          unfold fT_post
          rw [(day_yes hd).1, (post_yes hs).1, if_neg one_ne, if_neg one_ne, if_pos h2, e1]
        · show fM_post z1 _ _ _ = _
          unfold fM_post
          rw [(day_yes hd).2, (post_yes hs).2.1, if_neg one_ne, if_neg one_ne, if_pos h2, e2]
      · by_cases h3 : ∃ p, p < cl (gI z 1 0) ∧ a2 = nI p
        · obtain ⟨p, hp, rfl⟩ := h3
          have hp9 := RR_n8 h
          obtain ⟨r, z1, z2, e1, e2, e3⟩ := post_core h hd hs (Or.inr (lt_nI hp (by omega)))
          have hz : fM_isPerson z1 (nI p) = 1 := by
            have e : fM_isPerson z1 (nI p) = fM_isPerson z (nI p) := by
              have hi : 4 * d + s < 40 := by omega
              have : z1 = pI z 6 (4 * d + s) (nI p) := by
                have e9 : fT_post_J32 z (nI d) (nI s) (nI p) = some (if gI z 6 (4 * d + s) = -1 then -9 else gI z 6 (4 * d + s), pI z 6 (4 * d + s) (nI p)) := by
                  simp only [fT_post_J32, fHouse_at, fHouse_seat, (sIx hd hs).1, ix_n hi (show 40 ≤ 2 ^ 31 by omega), ix_f hi, if_false, nI_clamp (show 4 * d + s < 2 ^ 31 by omega), Option.bind]
                  by_cases e : gI z 6 (4 * d + s) = -1
                  · rw [if_pos e, if_pos e]
                  · rw [if_neg e, if_neg e]
                rw [e9] at e1
                exact (Prod.mk.inj (Option.some.inj e1)).2.symm
              rw [this]
              rfl
            rw [e]
            exact (person_yes h hp).2
          refine ⟨r, z1, z2, ?_, ?_, e3⟩
          · show fT_post z _ _ _ = _
            unfold fT_post
            rw [(day_yes hd).1, (post_yes hs).1, if_neg one_ne, if_neg one_ne, if_neg h2, (person_yes h hp).1, if_neg one_ne, e1]
          · show fM_post z1 _ _ _ = _
            unfold fM_post
            rw [(day_yes hd).2, (post_yes hs).2.1, if_neg one_ne, if_neg one_ne, if_neg h2, hz, if_neg one_ne, e2]
        · refine same2 (-1) h ?_ ?_
          · show fT_post z _ _ _ = _
            unfold fT_post
            rw [(day_yes hd).1, (post_yes hs).1, if_neg one_ne, if_neg one_ne, if_neg h2, (person_no h h3).1, if_pos rfl]
          · show fM_post z _ _ _ = _
            unfold fM_post
            rw [(day_yes hd).2, (post_yes hs).2.1, if_neg one_ne, if_neg one_ne, if_neg h2, (person_no h h3).2, if_pos rfl]
    · refine same2 (-1) h ?_ ?_
      · show fT_post z _ _ _ = _
        unfold fT_post
        rw [(day_yes hd).1, (post_no h1).1, if_neg one_ne, if_pos rfl]
      · show fM_post z _ _ _ = _
        unfold fM_post
        rw [(day_yes hd).2, (post_no h1).2.1, if_neg one_ne, if_pos rfl]
  · refine same2 (-1) h ?_ ?_
    · show fT_post z _ _ _ = _
      unfold fT_post
      rw [(day_no h0).1, if_pos rfl]
    · show fM_post z _ _ _ = _
      unfold fM_post
      rw [(day_no h0).2, if_pos rfl]
theorem o_postOf (z : MS) (h : RR z z) (a0 a1 : Int32) : O1 (fT_postOf · a0 a1) (fM_postOf · a0 a1) z := by
  by_cases h0 : ∃ d, d < 10 ∧ a0 = nI d
  · obtain ⟨d, hd, rfl⟩ := h0
    by_cases h1 : ∃ d, d < 4 ∧ a1 = nI d
    · obtain ⟨s, hs, rfl⟩ := h1
      have hi : 4 * d + s < 40 := by omega
      refine ⟨if gI z 6 (4 * d + s) = -1 then -9 else gI z 6 (4 * d + s), ?_, ?_⟩
      · simp only [fT_postOf, fHouse_at, (day_yes hd).1, (post_yes hs).1, one_ne, (sIx hd hs).1, ix_n hi (show 40 ≤ 2 ^ 31 by omega), ix_f hi, if_false, nI_clamp (show 4 * d + s < 2 ^ 31 by omega), Option.bind]
        by_cases e : gI z 6 (4 * d + s) = -1
        · rw [if_pos e, if_pos e]
        · rw [if_neg e, if_neg e]
      · have h60 : gI z 60 = gI z 6 := h.1.2.2.2.2.2.2.1
        have h8 := RR_n8 h
        simp only [fM_postOf, (day_yes hd).2, (post_yes hs).2.1, one_ne, (sIx hd hs).2, ix_n hi (show 40 ≤ 2 ^ 31 by omega), ix_f hi, if_false, nI_clamp (show 4 * d + s < 2 ^ 31 by omega), h60, orNob (RR_seat h hi) (by omega)]
    · refine ⟨-1, ?_, ?_⟩
      · simp only [fT_postOf, (day_yes hd).1, (post_no h1).1, one_ne, if_false, if_true]
      · simp only [fM_postOf, (day_yes hd).2, (post_no h1).2.1, one_ne, if_false, if_true]
  · refine ⟨-1, ?_, ?_⟩
    · simp only [fT_postOf, (day_no h0).1, if_true]
    · simp only [fM_postOf, (day_no h0).2, if_true]
