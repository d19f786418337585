/-- the class' place of a pair's trust -/
def pr (p q : Nat) : Nat := if q ≤ p then 8 * q + p else 8 * p + q
theorem pr_c (p q : Nat) : pr p q = pr q p := by
  unfold pr
  by_cases h : q ≤ p <;> by_cases h2 : p ≤ q
  · rw [if_pos h, if_pos h2]; omega
  · rw [if_pos h, if_neg h2]
  · rw [if_neg h, if_pos h2]
  · omega
theorem pr_lt {p q : Nat} (h : p < q) : pr p q = 8 * p + q ∧ pr q p = 8 * p + q := ⟨if_neg (by omega), if_pos (by omega)⟩
theorem pr_64 {p q : Nat} (hp : p < 8) (hq : q < 8) : pr p q < 64 := by
  unfold pr
  by_cases h : q ≤ p
  · rw [if_pos h]; omega
  · rw [if_neg h]; omega
theorem pairOf_nI {p q : Nat} (hp : p < 8) (hq : q < 8) : fHouse_pairOf (nI p) (nI q) = nI (pr p q) := by
  unfold fHouse_pairOf pr
  rw [show (8 : Int32) = nI 8 from rfl, pk_mul, pk_mul, nI_add, nI_add]
  by_cases h : q ≤ p
  · rw [if_pos h, if_pos (nI_le h (by omega))]
  · rw [if_neg h, if_neg (show ¬ nI q ≤ nI p from nI_ge (by omega) (by omega))]
theorem HV_t {n u : Int32} {K A T W S O F : Nat → Int32} (h : HV n u K A T W S O F) {p q : Nat} (hp : p < 8) (hq : q < 8) (hpq : p ≠ q) : lt (T (pr p q)) 10 ∧ F (8 * p + q) = T (pr p q) := by
  rcases Nat.lt_or_gt_of_ne hpq with h1 | h1
  · obtain ⟨a, b, c, -⟩ := h.2.2.2.2.2.2.2.1 p q h1 hq
    rw [(pr_lt h1).1]
    exact ⟨a, b⟩
  · obtain ⟨a, b, c, -⟩ := h.2.2.2.2.2.2.2.1 q p h1 hp
    rw [(pr_lt h1).2]
    exact ⟨a, c⟩
theorem o_trust (z : MS) (h : RR z z) (a0 a1 a2 : Int32) : O2 (fT_trust · a0 a1 a2) (fM_trust · a0 a1 a2) z := by
  by_cases h0 : ∃ p q, p < cl (gI z 1 0) ∧ q < cl (gI z 1 0) ∧ p ≠ q ∧ a0 = nI p ∧ a1 = nI q
  · obtain ⟨p, q, hp, hq, hpq, rfl, rfl⟩ := h0
    have hn8 := RR_n8 h
    have hp8 : p < 8 := by omega
    have hq8 : q < 8 := by omega
    have h64 := pr_64 hp8 hq8
    have hm : 8 * p + q < 64 := by omega
    have hm2 : 8 * q + p < 64 := by omega
    have ht := HV_t h.1.1 hp8 hq8 hpq
    have e1 : (8 * nI p + nI q : Int32) = nI (8 * p + q) := by rw [show (8 : Int32) = nI 8 from rfl, pk_mul, nI_add]
    have e2 : (8 * nI q + nI p : Int32) = nI (8 * q + p) := by rw [show (8 : Int32) = nI 8 from rfl, pk_mul, nI_add]
    have hT : fT_trust z (nI p) (nI q) a2 = if a2 < 0 then some ((-1), z) else if a2 ≤ nI 9 then some (gI z 4 (pr p q), pI z 4 (pr p q) a2) else some ((-1), z) := by
      simp only [fT_trust, (two_yes h hp hq hpq).1, one_ne, if_false, pairOf_nI hp8 hq8, ix_n h64 (show 64 ≤ 2 ^ 31 by omega), ix_f h64, nI_clamp (show pr p q < 2 ^ 31 by omega)]
      rfl
    have hM : ∀ z, fM_areTwo z (nI p) (nI q) = 1 → fM_trust z (nI p) (nI q) a2 = if fM_in a2 0 (nI 9) = 0 then some ((-1), z) else some (gI z 59 (8 * p + q), pI (pI z 59 (8 * p + q) a2) 59 (8 * q + p) a2) := by
      intro z hz
      simp only [fM_trust, hz, one_ne, if_false, e1, e2, ix_n hm (show 64 ≤ 2 ^ 31 by omega), ix_f hm, nI_clamp (show 8 * p + q < 2 ^ 31 by omega), ix_n hm2 (show 64 ≤ 2 ^ 31 by omega), ix_f hm2, nI_clamp (show 8 * q + p < 2 ^ 31 by omega)]
      rfl
    have hpm := (two_yes h hp hq hpq).2
    rcases ag a2 9 (by omega) with ⟨h1, -⟩ | ⟨h1, h2, h3, h4, h5⟩ | ⟨v, hv, rfl⟩
    · exact same2 (-1) h (by rw [hT, if_pos h1]) (by rw [hM z hpm, in_lo h1, if_pos rfl])
    · exact same2 (-1) h (by rw [hT, if_neg h1, if_neg h4]) (by rw [hM z hpm, in_hi h3, if_pos rfl])
    · refine ⟨gI z 4 (pr p q), pI z 4 (pr p q) (nI v), pI (pI (pI z 4 (pr p q) (nI v)) 59 (8 * p + q) (nI v)) 59 (8 * q + p) (nI v), ?_, ?_, ?_⟩
      · refine hT.trans ?_
        rw [if_neg (nI_pos (by omega)), if_pos (nI_le hv (by omega))]
      · refine (hM (pI z 4 (pr p q) (nI v)) hpm).trans ?_
        rw [in_ok hv (by omega), if_neg one_ne]
        show some (gI z 59 _, _) = _
        rw [ht.2]
      · refine ⟨⟨HV_T h.1.1 ?_, h.1.2⟩, h.2⟩
        intro i j hij hj
        obtain ⟨b1, b2, b3, b4⟩ := h.1.1.2.2.2.2.2.2.2.1 i j hij hj
        show lt (upd (gI z 4) (pr p q) (nI v) (8 * i + j)) 10 ∧ upd (upd (gI z 59) (8 * p + q) (nI v)) (8 * q + p) (nI v) (8 * i + j) = upd (gI z 4) (pr p q) (nI v) (8 * i + j) ∧ upd (upd (gI z 59) (8 * p + q) (nI v)) (8 * q + p) (nI v) (8 * j + i) = upd (gI z 4) (pr p q) (nI v) (8 * i + j) ∧ (cl (gI z 1 0) ≤ j → upd (gI z 4) (pr p q) (nI v) (8 * i + j) = 0)
        simp only [upd_a]
        by_cases c : (i = p ∧ j = q) ∨ (i = q ∧ j = p)
        · have ce : 8 * i + j = pr p q := by
            rcases c with ⟨rfl, rfl⟩ | ⟨rfl, rfl⟩
            · exact (pr_lt hij).1.symm
            · exact (pr_lt hij).2.symm
          rw [if_pos ce]
          refine ⟨lt_nI (by omega) (by omega), ?_, ?_, fun hle => by omega⟩
          · rcases c with ⟨rfl, rfl⟩ | ⟨rfl, rfl⟩
            · rw [if_neg (by omega), if_pos rfl]
            · rw [if_pos rfl]
          · rcases c with ⟨rfl, rfl⟩ | ⟨rfl, rfl⟩
            · rw [if_pos rfl]
            · rw [if_neg (by omega), if_pos rfl]
        · have ce : ¬ 8 * i + j = pr p q := by
            rcases Nat.lt_or_gt_of_ne hpq with h1 | h1
            · rw [(pr_lt h1).1]; omega
            · rw [(pr_lt h1).2]; omega
          rw [if_neg ce, if_neg (by omega), if_neg (by omega), if_neg (by omega), if_neg (by omega)]
          exact ⟨b1, b2, b3, b4⟩
  · refine same2 (-1) h ?_ ?_
    · simp only [fT_trust, (two_no h h0).1, if_true]
    · simp only [fM_trust, (two_no h h0).2, if_true]
