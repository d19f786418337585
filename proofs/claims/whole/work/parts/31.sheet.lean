theorem ob2_eta {α β : Type} (o : Option (α × β)) : ob2 o (fun a b => some (a, b)) = o := by
  cases o with
  | none => rfl
  | some p => cases p; rfl
theorem gJ_wJ (z : MS) (k : Nat) (F : Nat → Int64) : gJ (wJ z k F) k = F := if_pos rfl
theorem wJ_wJ (z : MS) (k : Nat) (F G : Nat → Int64) : wJ (wJ z k F) k G = wJ z k G := by
  unfold wJ
  congr 1
  funext a
  show (if a = k then G else if a = k then F else z.2 a) = if a = k then G else z.2 a
  by_cases h : a = k
  · rw [if_pos h, if_pos h]
  · rw [if_neg h, if_neg h, if_neg h]
theorem wJ_same (z : MS) (k : Nat) (F : Nat → Int64) (h : gJ z k = F) : wJ z k F = z := by
  unfold wJ
  refine Prod.ext rfl (funext fun a => ?_)
  show (if a = k then F else z.2 a) = z.2 a
  by_cases e : a = k
  · rw [if_pos e, e]; exact h.symm
  · rw [if_neg e]
theorem sheet_loop {j : Nat} (hj : j < 4) : ∀ (d i n : Nat) (z : MS), i + d = 40 → d < n → fM_sheet_L64 (nI j) n z (nI i) = some (1, wJ z 79 (fun x => if 40 * j + i ≤ x ∧ x < 40 * j + 40 then 0 else gJ z 79 x)) := by
  intro d
  induction d with
  | zero =>
    intro i n z hi hn
    obtain ⟨n, rfl⟩ : ∃ q, n = q + 1 := ⟨n - 1, by omega⟩
    have hi : i = 40 := hi
    subst hi
    rw [fM_sheet_L64, if_pos (show (40 : Int32) ≤ nI 40 from Int32.le_refl _), wJ_same]
    funext x
    rw [if_neg (by omega)]
  | succ d ih =>
    intro i n z hi hn
    obtain ⟨n, rfl⟩ : ∃ q, n = q + 1 := ⟨n - 1, by omega⟩
    have c : 40 * j + i < 160 := by omega
    have t : (40 * nI j + nI i : Int32) = nI (40 * j + i) := by rw [show (40 : Int32) = nI 40 from rfl, pk_mul, nI_add]
    rw [fM_sheet_L64, if_neg (show ¬ (40 : Int32) ≤ nI i from nI_ge (b := 40) (by omega) (by omega)), t, nI_clamp (show 40 * j + i < 2 ^ 31 by omega), if_neg (ix_n c (by omega)), show nI i + 1 = nI (i + 1) from nI_add i 1, ih (i + 1) n _ (by omega) (by omega)]
    unfold pJ
    rw [wJ_wJ, gJ_wJ]
    congr 3
    funext x
    rw [updL_a]
    by_cases e : x = 40 * j + i
    · rw [if_neg (by omega), if_pos e, if_pos (by omega)]
    · rw [if_neg e]
      by_cases e2 : 40 * j + i ≤ x ∧ x < 40 * j + 40
      · rw [if_pos e2, if_pos (by omega)]
      · rw [if_neg e2, if_neg (by omega)]
def zS (j : Nat) (J : Nat → Int64) : Nat → Int64 := fun x => if 40 * j ≤ x ∧ x < 40 * j + 40 then 0 else J x
theorem sheet_all {j : Nat} (hj : j < 4) (z : MS) : fM_sheet_L64 (nI j) LF z 0 = some (1, wJ z 79 (zS j (gJ z 79))) := sheet_loop hj 40 0 LF z rfl (by decide)
theorem IT_z {j k : Nat} {J : Nat → Int64} {f : Nat → Int32} (h : IT J k f) (hjk : j ≠ k) : IT (zS j J) k f := by
  intro i hi
  unfold zS
  rw [if_neg (by omega)]
  exact h i hi
theorem IT_0 {j : Nat} {J : Nat → Int64} {f : Nat → Int32} : IT (zS j J) j (fun x => if x < 40 then (0 : Int32) else f x) := by
  intro i hi
  unfold zS
  rw [if_pos (by omega)]
  show _ = (if i < 40 then (0 : Int32) else f i).toInt64
  rw [if_pos hi]
  rfl
/-- a sheet laid on both sides -/
theorem RR_lay {z : MS} (h : RR z z) {j : Nat} (hj : j < 4) {s l : Int32} (hs : s = -1 ∨ lt s 4) (hl : lt l 41) :
    RR (wJ (pI (pI (fI (pI (pI z 35 j s) 36 j l) (38 + j) 40 0) 77 j s) 78 j l) 79 (zS j (gJ z 79))) (wJ (pI (pI (fI (pI (pI z 35 j s) 36 j l) (38 + j) 40 0) 77 j s) 78 j l) 79 (zS j (gJ z 79))) := by
  obtain ⟨e1, e2, e3, i0, i1, i2, i3⟩ := h.2.2.2.2.1
  have hb : ∀ k, k < 4 → (upd (gI z 35) j s k = -1 ∨ lt (upd (gI z 35) j s k) 4) ∧ lt (upd (gI z 36) j l k) 41 := by
    intro k hk
    simp only [upd_a]
    by_cases c : k = j
    · rw [if_pos c, if_pos c]; exact ⟨hs, hl⟩
    · rw [if_neg c, if_neg c]; exact e3 k hk
  have q1 : upd (gI z 77) j s = upd (gI z 35) j s := by rw [e1]
  have q2 : upd (gI z 78) j l = upd (gI z 36) j l := by rw [e2]
  rcases (show j = 0 ∨ j = 1 ∨ j = 2 ∨ j = 3 by omega) with rfl | rfl | rfl | rfl
  · exact ⟨h.1, h.2.1, h.2.2.1, h.2.2.2.1, ⟨q1, q2, hb, IT_0, IT_z i1 (by decide), IT_z i2 (by decide), IT_z i3 (by decide)⟩, h.2.2.2.2.2⟩
  · exact ⟨h.1, h.2.1, h.2.2.1, h.2.2.2.1, ⟨q1, q2, hb, IT_z i0 (by decide), IT_0, IT_z i2 (by decide), IT_z i3 (by decide)⟩, h.2.2.2.2.2⟩
  · exact ⟨h.1, h.2.1, h.2.2.1, h.2.2.2.1, ⟨q1, q2, hb, IT_z i0 (by decide), IT_z i1 (by decide), IT_0, IT_z i3 (by decide)⟩, h.2.2.2.2.2⟩
  · exact ⟨h.1, h.2.1, h.2.2.1, h.2.2.2.1, ⟨q1, q2, hb, IT_z i0 (by decide), IT_z i1 (by decide), IT_z i2 (by decide), IT_0⟩, h.2.2.2.2.2⟩
theorem o_sheet (z : MS) (h : RR z z) (a0 a1 a2 : Int32) : O2 (fT_sheet · a0 a1 a2) (fM_sheet · a0 a1 a2) z := by
  by_cases h0 : ∃ d, d < 4 ∧ a0 = nI d
  · obtain ⟨j, hj, rfl⟩ := h0
    obtain ⟨-, -, p1, p2⟩ := post_yes hj
    have lay : ∀ s l, (s = -1 ∨ lt s 4) → lt l 41 → fT_sheet z (nI j) a1 a2 = fHost_lay z (nI j) s l → (∀ z, fM_sheet z (nI j) a1 a2 = fM_sheet_L64 (nI j) LF (pI (pI z 77 j s) 78 j l) 0) → O2 (fT_sheet · (nI j) a1 a2) (fM_sheet · (nI j) a1 a2) z := by
      intro s l hs hl hT hM
      refine ⟨1, fI (pI (pI z 35 j s) 36 j l) (38 + j) 40 0, _, hT.trans ?_, ((hM _).trans (sheet_all hj _)).trans rfl, ?_⟩
      · unfold fHost_lay
        rw [nI_clamp (by omega)]
        simp only [ix_n hj (show 4 ≤ 2 ^ 31 by omega), if_false]
      · exact RR_lay h hj hs hl
    rcases ag a1 3 (by omega) with ⟨h1, h1'⟩ | ⟨h1, h2, h3, h4, h5⟩ | ⟨s, hs, rfl⟩
    · by_cases hm : a1 = -1
      · subst hm
        refine lay (-1) 0 (Or.inl rfl) (lt_nI (n := 0) (by omega) (by omega)) ?_ ?_
        · unfold fT_sheet
          rw [p1, if_neg one_ne, if_neg (by decide), if_pos (by decide), if_pos rfl]
          exact ob2_eta _
        · intro z
          have q1 : ¬ fM_in (-1) (-1) 3 = 0 := by decide
          simp only [fM_sheet, fM_sheet_J28, fM_sheet_J39, p2, one_ne, if_false, q1, h1, h1', if_true, nI_clamp (show j < 2 ^ 31 by omega), ix_n hj (show 4 ≤ 2 ^ 31 by omega), ix_f hj]
      · have hlt : a1 < -1 := by
          rw [Int32.lt_iff_toInt_lt] at h1 ⊢
          have e0 : (0 : Int32).toInt = 0 := rfl
          have e1 : (-1 : Int32).toInt = -1 := rfl
          have : a1.toInt ≠ -1 := fun e => hm (Int32.toInt_inj.mp (e.trans e1.symm))
          omega
        exact same2 (-1) h (by simp only [fT_sheet, p1, one_ne, if_false, hlt, if_true]) (by simp only [fM_sheet, p2, one_ne, if_false, in_lo hlt, if_true])
    · have g1 : ¬ a1 < -1 := fun e => h1 (Int32.lt_trans e (by decide))
      exact same2 (-1) h (by simp only [fT_sheet, p1, one_ne, if_false, g1, if_neg (show ¬ a1 < (4 : Int32) from h5)]) (by simp only [fM_sheet, p2, one_ne, if_false, in_hi (show (3 : Int32) < a1 from h3), if_true])
    · have hs4 : s < 4 := by omega
      have s1 : ∀ s, s < 4 → ¬ nI s < -1 ∧ nI s < 4 ∧ ¬ nI s = -1 ∧ fM_in (nI s) (-1) 3 = 1 ∧ ¬ nI s < 0 ∧ 0 ≤ nI s := by decide
      obtain ⟨s1, s2, s3, s4, s5, s6⟩ := s1 s hs4
      rcases ag a2 40 (by omega) with ⟨h1, h2⟩ | ⟨h1, h2, h3, h4, h5⟩ | ⟨l, hl, rfl⟩
      · have g : a2 ≤ 40 := Int32.le_of_lt (Int32.lt_trans h1 (by decide))
        exact same2 (-14) h (by simp only [fT_sheet, p1, one_ne, if_false, s1, s2, s3, g, if_true, h2]) (by simp only [fM_sheet, fM_sheet_J28, p2, one_ne, if_false, s4, s5, g, if_true, h2])
      · have g : ¬ a2 ≤ (40 : Int32) := h4
        exact same2 (-1) h (by simp only [fT_sheet, p1, one_ne, if_false, s1, s2, s3, g, if_true]) (by simp only [fM_sheet, p2, one_ne, if_false, s4, s5, g])
      · have g : nI l ≤ (40 : Int32) := nI_le (b := 40) hl (by omega)
        have g0 : 0 ≤ nI l := Int32.not_lt.mp (nI_pos (by omega))
        refine lay (nI s) (nI l) (Or.inr (lt_nI hs4 (by omega))) (lt_nI (by omega) (by omega)) ?_ ?_
        · simp only [fT_sheet, p1, one_ne, if_false, s1, s2, s3, g, g0, if_true]
          exact ob2_eta _
        · intro z
          simp only [fM_sheet, fM_sheet_J28, fM_sheet_J39, p2, one_ne, if_false, s4, s5, s6, g, g0, if_true, nI_clamp (show j < 2 ^ 31 by omega), ix_n hj (show 4 ≤ 2 ^ 31 by omega), ix_f hj]
  · refine same2 (-1) h ?_ ?_
    · simp only [fT_sheet, (post_no h0).2.2.1, if_true]
    · simp only [fM_sheet, (post_no h0).2.2.2, if_true]
