def O2 (T M : MS → Option (Int32 × MS)) (z : MS) : Prop := ∃ r z1 z2, T z = some (r, z1) ∧ M z1 = some (r, z2) ∧ RR z2 z2
def O1 (T M : MS → Option Int32) (z : MS) : Prop := ∃ r, T z = some r ∧ M z = some r
theorem same2 {T M : MS → Option (Int32 × MS)} {z : MS} (r : Int32) (h : RR z z) (h1 : T z = some (r, z)) (h2 : M z = some (r, z)) : O2 T M z := ⟨r, z, z, h1, h2, h⟩
theorem ix_ok {j m : Nat} (h : j < m) (hm : m ≤ 2 ^ 31) : ¬ (nI j < 0 ∨ m ≤ (nI j).toNatClampNeg) := by
  rw [nI_clamp (by omega)]
  intro h1
  rcases h1 with h1 | h1
  · exact nI_pos (by omega) h1
  · omega
theorem ix_n {j m : Nat} (h : j < m) (hm : m ≤ 2 ^ 31) : ¬ (nI j < 0 ∨ m ≤ j) := by
  intro h1
  rcases h1 with h1 | h1
  · exact nI_pos (by omega) h1
  · omega
theorem ix_f {j m : Nat} (h : j < m) : ¬ (False ∨ m ≤ j) := fun e => e.elim id (fun e => absurd h (by omega))
theorem HV_W {n u : Int32} {K A T W S O F W' : Nat → Int32} (h : HV n u K A T W S O F) (hW : ∀ j, j < 8 → lt (W' j) (most j + 1)) : HV n u K A T W' S O F :=
  ⟨h.1, h.2.1, h.2.2.1, h.2.2.2.1, h.2.2.2.2.1, h.2.2.2.2.2.1, h.2.2.2.2.2.2.1, h.2.2.2.2.2.2.2.1, hW, h.2.2.2.2.2.2.2.2.2⟩
theorem HV_O {n u : Int32} {K A T W S O F O' : Nat → Int32} (h : HV n u K A T W S O F) (hO : ∀ d, d < 10 → lt (O' d) 100) : HV n u K A T W S O' F :=
  ⟨h.1, h.2.1, h.2.2.1, h.2.2.2.1, h.2.2.2.2.1, h.2.2.2.2.2.1, h.2.2.2.2.2.2.1, h.2.2.2.2.2.2.2.1, h.2.2.2.2.2.2.2.2.1, h.2.2.2.2.2.2.2.2.2.1, hO⟩
theorem HV_S {n u : Int32} {K A T W S O F S' : Nat → Int32} (h : HV n u K A T W S O F) (hS : ∀ i, i < 40 → S' i = -1 ∨ lt (S' i) (cl n)) : HV n u K A T W S' O F :=
  ⟨h.1, h.2.1, h.2.2.1, h.2.2.2.1, h.2.2.2.2.1, h.2.2.2.2.2.1, h.2.2.2.2.2.2.1, h.2.2.2.2.2.2.2.1, h.2.2.2.2.2.2.2.2.1, hS, h.2.2.2.2.2.2.2.2.2.2⟩
theorem lt_up {f : Nat → Int32} {b : Nat → Nat} {N : Nat} (h : ∀ j, j < N → lt (f j) (b j)) {i : Nat} {v : Int32} (hv : lt v (b i)) : ∀ j, j < N → lt (upd f i v j) (b j) := by
  intro j hj
  rw [upd_a]
  by_cases e : j = i
  · rw [if_pos e, e]; exact hv
  · rw [if_neg e]; exact h j hj
theorem isLaw_no {x : Int32} (hx : ¬ ∃ d, d < 8 ∧ x = nI d) : (x < 0 ∨ (¬ x < 0 ∧ 8 ≤ x ∧ ¬ x < 8)) ∧ fM_isLaw x = 0 := by
  unfold fM_isLaw
  rcases ag x 7 (by omega) with ⟨h1, -⟩ | ⟨h1, h2, h3, h4, h5⟩ | ⟨j, hj, rfl⟩
  · exact ⟨Or.inl h1, in_lo h1⟩
  · exact ⟨Or.inr ⟨h1, h2, h5⟩, in_hi h3⟩
  · exact absurd ⟨j, by omega, rfl⟩ hx
theorem isLaw_yes {d : Nat} (hd : d < 8) : fM_isLaw (nI d) = 1 ∧ ¬ nI d < 0 ∧ ¬ (8 : Int32) ≤ nI d ∧ nI d < (8 : Int32) := by
  unfold fM_isLaw
  exact ⟨in_ok (b := 7) (by omega) (by omega), nI_pos (by omega), nI_ge (b := 8) hd (by omega), nI_lt (b := 8) hd (by omega)⟩
theorem cST1_most : ∀ j, j < 8 → cST1.getD j 0 = nI (most j) := by decide
theorem o_set (z : MS) (h : RR z z) (a0 a1 : Int32) : O2 (fT_set · a0 a1) (fM_set · a0 a1) z := by
  by_cases h0 : ∃ d, d < 8 ∧ a0 = nI d
  · obtain ⟨d, hd, rfl⟩ := h0
    obtain ⟨l1, l2, l3, l4⟩ := isLaw_yes hd
    have hm := cST1_most d hd
    have hb : most d < 100 := (by decide : ∀ j, j < 8 → most j < 100) d hd
    have h63 : gI z 63 d = nI (most d) := by rw [h.2.2.2.2.2.2.2.2]; exact hm
    have hT : ∀ z, fT_set z (nI d) a1 = if a1 < 0 then some ((-1), z) else if a1 ≤ nI (most d) then some (gI z 5 d, pI z 5 d a1) else some ((-1), z) := by
      intro z
      simp only [fT_set, l2, l3, ix_n hd (show 8 ≤ 2 ^ 31 by omega), ix_f hd, if_false, nI_clamp (show d < 2 ^ 31 by omega), hm]
    have hM : ∀ z, gI z 63 d = nI (most d) → fM_set z (nI d) a1 = if fM_in a1 0 (nI (most d)) = 0 then some ((-1), z) else some (gI z 62 d, pI z 62 d a1) := by
      intro z h63
      simp only [fM_set, fM_set_J25, l1, one_ne, ix_n hd (show 8 ≤ 2 ^ 31 by omega), ix_f hd, if_false, nI_clamp (show d < 2 ^ 31 by omega), h63]
    rcases ag a1 (most d) (by omega) with ⟨h1, -⟩ | ⟨h1, h2, h3, h4, h5⟩ | ⟨v, hv, rfl⟩
    · exact same2 (-1) h (by rw [hT, if_pos h1]) (by rw [hM z h63, in_lo h1, if_pos rfl])
    · exact same2 (-1) h (by rw [hT, if_neg h1, if_neg h4]) (by rw [hM z h63, in_hi h3, if_pos rfl])
    · refine ⟨gI z 5 d, pI z 5 d (nI v), pI (pI z 5 d (nI v)) 62 d (nI v), ?_, ?_, ?_⟩
      · show fT_set z (nI d) (nI v) = _
        rw [hT, if_neg (nI_pos (by omega)), if_pos (nI_le hv (by omega))]
      · show fM_set _ (nI d) (nI v) = _
        rw [hM (pI z 5 d (nI v)) h63, in_ok hv (by omega), if_neg one_ne]
        show some (gI z 62 d, _) = _
        rw [h.1.2.2.2.2.2.1]
      · refine ⟨⟨HV_W h.1.1 (lt_up h.1.1.2.2.2.2.2.2.2.2.1 (lt_nI (by omega) (by omega))), h.1.2.1, h.1.2.2.1, h.1.2.2.2.1, h.1.2.2.2.2.1, ?_, h.1.2.2.2.2.2.2⟩, h.2⟩
        show upd (gI z 62) d (nI v) = upd (gI z 5) d (nI v)
        rw [h.1.2.2.2.2.2.1]
  · obtain ⟨l1, l2⟩ := isLaw_no h0
    refine same2 (-1) h ?_ (by show fM_set z a0 a1 = _; unfold fM_set; rw [l2, if_pos rfl])
    show fT_set z a0 a1 = _
    unfold fT_set
    rcases l1 with l1 | ⟨l1, l3, -⟩
    · rw [if_pos l1]
    · rw [if_neg l1, if_pos l3]
theorem o_law (z : MS) (h : RR z z) (a0 : Int32) : O1 (fT_law · a0) (fM_law · a0) z := by
  by_cases h0 : ∃ d, d < 8 ∧ a0 = nI d
  · obtain ⟨d, hd, rfl⟩ := h0
    obtain ⟨l1, l2, l3, l4⟩ := isLaw_yes hd
    refine ⟨gI z 5 d, ?_, ?_⟩
    · show fT_law z (nI d) = _
      unfold fT_law
      rw [if_neg l2, if_pos l4, if_neg (ix_ok hd (by omega)), nI_clamp (by omega)]
    · show fM_law z (nI d) = _
      unfold fM_law
      rw [l1, if_neg one_ne, if_neg (ix_ok hd (by omega)), nI_clamp (by omega), h.1.2.2.2.2.2.1]
  · obtain ⟨l1, l2⟩ := isLaw_no h0
    refine ⟨-1, ?_, ?_⟩
    · show fT_law z a0 = _
      unfold fT_law
      rcases l1 with l1 | ⟨l1, -, l3⟩
      · rw [if_pos l1]
      · rw [if_neg l1, if_neg l3]
    · show fM_law z a0 = _
      unfold fM_law
      rw [l2, if_pos rfl]
theorem o_seed (z : MS) (h : RR z z) (a0 : Int32) : O2 (fT_seed · a0) (fM_seed · a0) z :=
  ⟨gI z 26 4, pI z 26 4 a0, pI (pI z 26 4 a0) 56 11 a0, rfl, by show some (gI z 56 11, _) = _; rw [h.2.1.2.1], ⟨h.1, ⟨h.2.1.1, rfl, h.2.1.2.2⟩, h.2.2⟩⟩
theorem o_loss (z : MS) (h : RR z z) (a0 a1 : Int32) : O2 (fT_loss · a0 a1) (fM_loss · a0 a1) z := by
  by_cases h0 : ∃ d, d < 10 ∧ a0 = nI d
  · obtain ⟨d, hd, rfl⟩ := h0
    have hT : ∀ z, fT_loss z (nI d) a1 = if a1 < 0 then some ((-1), z) else if a1 ≤ nI 99 then some (gI z 7 d, pI z 7 d a1) else some ((-1), z) := by
      intro z
      simp only [fT_loss, (day_yes hd).1, one_ne, ix_n hd (show 10 ≤ 2 ^ 31 by omega), ix_f hd, if_false, nI_clamp (show d < 2 ^ 31 by omega)]
      rfl
    have hM : ∀ z, fM_loss z (nI d) a1 = if fM_in a1 0 (nI 99) = 0 then some ((-1), z) else some (gI z 61 d, pI z 61 d a1) := by
      intro z
      simp only [fM_loss, (day_yes hd).2, one_ne, ix_n hd (show 10 ≤ 2 ^ 31 by omega), ix_f hd, if_false, nI_clamp (show d < 2 ^ 31 by omega)]
      rfl
    rcases ag a1 99 (by omega) with ⟨h1, -⟩ | ⟨h1, h2, h3, h4, h5⟩ | ⟨v, hv, rfl⟩
    · exact same2 (-1) h (by rw [hT, if_pos h1]) (by rw [hM z, in_lo h1, if_pos rfl])
    · exact same2 (-1) h (by rw [hT, if_neg h1, if_neg h4]) (by rw [hM z, in_hi h3, if_pos rfl])
    · refine ⟨gI z 7 d, pI z 7 d (nI v), pI (pI z 7 d (nI v)) 61 d (nI v), ?_, ?_, ?_⟩
      · show fT_loss z (nI d) (nI v) = _
        rw [hT, if_neg (nI_pos (by omega)), if_pos (nI_le hv (by omega))]
      · show fM_loss _ (nI d) (nI v) = _
        rw [hM _, in_ok hv (by omega), if_neg one_ne]
        show some (gI z 61 d, _) = _
        rw [h.1.2.2.2.2.2.2.2]
      · refine ⟨⟨HV_O h.1.1 (lt_up (b := fun _ => 100) h.1.1.2.2.2.2.2.2.2.2.2.2 (lt_nI (by omega) (by omega))), h.1.2.1, h.1.2.2.1, h.1.2.2.2.1, h.1.2.2.2.2.1, h.1.2.2.2.2.2.1, h.1.2.2.2.2.2.2.1, ?_⟩, h.2⟩
        show upd (gI z 61) d (nI v) = upd (gI z 7) d (nI v)
        rw [h.1.2.2.2.2.2.2.2]
  · refine same2 (-1) h ?_ ?_
    · show fT_loss z a0 a1 = _
      unfold fT_loss
      rw [(day_no h0).1, if_pos rfl]
    · show fM_loss z a0 a1 = _
      unfold fM_loss
      rw [(day_no h0).2, if_pos rfl]
