theorem HV_cong {n u n2 u2 : Int32} {K A T W S O F K2 A2 T2 W2 S2 O2 F2 : Nat → Int32} (h : HV n u K A T W S O F) (hn : n2 = n) (hu : u2 = u) (hK : ∀ i, i < 8 → K2 i = K i) (hA : ∀ i, i < 8 → A2 i = A i) (hT : ∀ i, i < 64 → T2 i = T i) (hW : ∀ i, i < 8 → W2 i = W i) (hS : ∀ i, i < 40 → S2 i = S i) (hO : ∀ i, i < 10 → O2 i = O i) (hF : ∀ i, i < 64 → F2 i = F i) : HV n2 u2 K2 A2 T2 W2 S2 O2 F2 := by
  subst hn hu
  refine ⟨h.1, h.2.1, ?_, ?_, ?_, ?_, ?_, ?_, ?_, ?_, ?_⟩
  · intro p hp; rw [hK p hp]; exact h.2.2.1 p hp
  · intro p q hp hq; rw [hK p hp, hK q hq]; exact h.2.2.2.1 p q hp hq
  · intro p q hp hq; rw [hK p hp]; exact h.2.2.2.2.1 p q hp hq
  · intro p hp; rw [hA p hp]; exact h.2.2.2.2.2.1 p hp
  · intro p hp; rw [hA p hp]; exact h.2.2.2.2.2.2.1 p hp
  · intro p q hpq hq; rw [hT _ (by omega), hF _ (by omega), hF _ (by omega)]; exact h.2.2.2.2.2.2.2.1 p q hpq hq
  · intro j hj; rw [hW j hj]; exact h.2.2.2.2.2.2.2.2.1 j hj
  · intro i hi; rw [hS i hi]; exact h.2.2.2.2.2.2.2.2.2.1 i hi
  · intro d hd; rw [hO d hd]; exact h.2.2.2.2.2.2.2.2.2.2 d hd
theorem PV_cong {c c2 : Int32} {k a m k2 a2 m2 : Nat → Int32} (h : PV c k a m) (hc : c2 = c) (hk : ∀ i, i < 4 → k2 i = k i) (ha : ∀ i, i < 4 → a2 i = a i) (hm : ∀ i, i < 8 → m2 i = m i) : PV c2 k2 a2 m2 := by
  subst hc
  refine ⟨h.1, fun j hj => ?_⟩
  rw [hk j hj, ha j hj, hm _ (by omega), hm _ (by omega)]
  exact h.2 j hj
theorem cpy_in {f g : Nat → Int32} {n i : Nat} (h : i < n) : va_cpy f g 0 0 n i = f i := by
  unfold va_cpy
  rw [if_pos (by omega), show 0 + (i - 0) = i by omega]
theorem cpy_out {f g : Nat → Int32} {n i : Nat} (h : n ≤ i) : va_cpy f g 0 0 n i = g i := by
  unfold va_cpy
  rw [if_neg (by omega)]
theorem keepAll (z : MS) : ∃ y F, fM_moveAll z 1 = some y ∧ gI y 84 = F ∧ (∀ k, k ≠ 84 → k ≠ 85 → k ≠ 56 → gI y k = gI z k) ∧ (∀ k, gJ y k = gJ z k) ∧ (∀ i, i ≠ 49 → gI y 56 i = gI z 56 i) ∧
    F 0 = gI z 56 0 ∧ F 1 = gI z 56 5 ∧ F 2 = gI z 56 9 ∧ F 3 = gI z 56 11 ∧
    (∀ i, i < 8 → F (4 + i) = gI z 57 i) ∧ (∀ i, i < 8 → F (12 + i) = gI z 58 i) ∧ (∀ i, i < 64 → F (20 + i) = gI z 59 i) ∧ (∀ i, i < 40 → F (84 + i) = gI z 60 i) ∧ (∀ i, i < 10 → F (124 + i) = gI z 61 i) ∧ (∀ i, i < 8 → F (134 + i) = gI z 62 i) ∧ (∀ i, i < 8 → F (142 + i) = gI z 64 i) := by
  have a1 := keep_85 (pI (pI (pI (pI (pI z 56 49 0) 85 0 (gI z 56 0)) 85 1 (gI z 56 5)) 85 2 (gI z 56 9)) 85 3 (gI z 56 11)) (t := 0) rfl (by omega)
  have b : ∀ (y : MS) (F G : Nat → Int32) (x w : Int32), pI (wI (pI (wI y 84 F) 56 49 x) 84 G) 56 49 w = pI (wI y 84 G) 56 49 w := by
    intro y F G x w
    unfold pI wI gI
    refine Prod.ext (funext fun b => ?_) rfl
    by_cases h1 : b = 84
    · subst h1; rfl
    · by_cases h2 : b = 56
      · subst h2
        show upd (upd (y.1 56) 49 x) 49 w = upd (y.1 56) 49 w
        exact fa_upd_twice _ _ _ _
      · simp only [if_neg h1, if_neg h2]
  let y0 : MS := pI (pI (pI (pI (pI z 56 49 0) 85 0 (gI z 56 0)) 85 1 (gI z 56 5)) 85 2 (gI z 56 9)) 85 3 (gI z 56 11)
  let F1 : Nat → Int32 := mvF (gI y0 85) (gI z 84) 0 4
  let F2 : Nat → Int32 := mvF (gI z 57) F1 4 8
  let F3 : Nat → Int32 := mvF (gI z 58) F2 12 8
  let F4 : Nat → Int32 := mvF (gI z 59) F3 20 64
  let F5 : Nat → Int32 := mvF (gI z 60) F4 84 40
  let F6 : Nat → Int32 := mvF (gI z 61) F5 124 10
  let F7 : Nat → Int32 := mvF (gI z 62) F6 134 8
  let F8 : Nat → Int32 := mvF (gI z 64) F7 142 8
  have m1 : fM_move_85 y0 4 1 = some (pI (wI y0 84 F1) 56 49 (nI 4)) := a1
  have m2 : fM_move_57 (pI (wI y0 84 F1) 56 49 (nI 4)) 8 1 = some (pI (wI y0 84 F2) 56 49 (nI 12)) := (keep_57 (pI (wI y0 84 F1) 56 49 (nI 4)) (t := 4) rfl (by omega)).trans (congrArg some (b y0 F1 F2 _ _))
  have m3 : fM_move_58 (pI (wI y0 84 F2) 56 49 (nI 12)) 8 1 = some (pI (wI y0 84 F3) 56 49 (nI 20)) := (keep_58 (pI (wI y0 84 F2) 56 49 (nI 12)) (t := 12) rfl (by omega)).trans (congrArg some (b y0 F2 F3 _ _))
  have m4 : fM_move_59 (pI (wI y0 84 F3) 56 49 (nI 20)) 64 1 = some (pI (wI y0 84 F4) 56 49 (nI 84)) := (keep_59 (pI (wI y0 84 F3) 56 49 (nI 20)) (t := 20) rfl (by omega)).trans (congrArg some (b y0 F3 F4 _ _))
  have m5 : fM_move_60 (pI (wI y0 84 F4) 56 49 (nI 84)) 40 1 = some (pI (wI y0 84 F5) 56 49 (nI 124)) := (keep_60 (pI (wI y0 84 F4) 56 49 (nI 84)) (t := 84) rfl (by omega)).trans (congrArg some (b y0 F4 F5 _ _))
  have m6 : fM_move_61 (pI (wI y0 84 F5) 56 49 (nI 124)) 10 1 = some (pI (wI y0 84 F6) 56 49 (nI 134)) := (keep_61 (pI (wI y0 84 F5) 56 49 (nI 124)) (t := 124) rfl (by omega)).trans (congrArg some (b y0 F5 F6 _ _))
  have m7 : fM_move_62 (pI (wI y0 84 F6) 56 49 (nI 134)) 8 1 = some (pI (wI y0 84 F7) 56 49 (nI 142)) := (keep_62 (pI (wI y0 84 F6) 56 49 (nI 134)) (t := 134) rfl (by omega)).trans (congrArg some (b y0 F6 F7 _ _))
  have m8 : fM_move_64 (pI (wI y0 84 F7) 56 49 (nI 142)) 8 1 = some (pI (wI y0 84 F8) 56 49 (nI 150)) := (keep_64 (pI (wI y0 84 F7) 56 49 (nI 142)) (t := 142) rfl (by omega)).trans (congrArg some (b y0 F7 F8 _ _))
  refine ⟨pI (wI y0 84 F8) 56 49 (nI 150), F8, ?_, rfl, ?_, fun k => rfl, ?_, ?_, ?_, ?_, ?_, ?_, ?_, ?_, ?_, ?_, ?_, ?_⟩
  · unfold fM_moveAll
    show Option.bind (fM_move_85 y0 4 1) _ = _
    rw [m1, obs]
    show Option.bind (fM_move_57 (pI (wI y0 84 F1) 56 49 (nI 4)) 8 1) _ = _
    rw [m2, obs]
    show Option.bind (fM_move_58 (pI (wI y0 84 F2) 56 49 (nI 12)) 8 1) _ = _
    rw [m3, obs]
    show Option.bind (fM_move_59 (pI (wI y0 84 F3) 56 49 (nI 20)) 64 1) _ = _
    rw [m4, obs]
    show Option.bind (fM_move_60 (pI (wI y0 84 F4) 56 49 (nI 84)) 40 1) _ = _
    rw [m5, obs]
    show Option.bind (fM_move_61 (pI (wI y0 84 F5) 56 49 (nI 124)) 10 1) _ = _
    rw [m6, obs]
    show Option.bind (fM_move_62 (pI (wI y0 84 F6) 56 49 (nI 134)) 8 1) _ = _
    rw [m7, obs]
    show Option.bind (fM_move_64 (pI (wI y0 84 F7) 56 49 (nI 142)) 8 1) _ = _
    rw [m8, obs]
  · intro k h1 h2 h3
    show (pI (wI (pI (pI (pI (pI (pI z 56 49 0) 85 0 (gI z 56 0)) 85 1 (gI z 56 5)) 85 2 (gI z 56 9)) 85 3 (gI z 56 11)) 84 F8) 56 49 (nI 150)).1 k = z.1 k
    simp only [pI, wI, h1, h2, h3, if_false]
  · intro i hi
    show upd (upd (gI z 56) 49 0) 49 _ i = _
    rw [upd_a, if_neg hi, upd_a, if_neg hi]
  · show mvF _ (mvF _ (mvF _ (mvF _ (mvF _ (mvF _ (mvF _ (mvF _ _ 0 4) 4 8) 12 8) 20 64) 84 40) 124 10) 134 8) 142 8 0 = _
    simp (disch := omega) only [mvF_out]
    rfl
  · show mvF _ (mvF _ (mvF _ (mvF _ (mvF _ (mvF _ (mvF _ (mvF _ _ 0 4) 4 8) 12 8) 20 64) 84 40) 124 10) 134 8) 142 8 1 = _
    simp (disch := omega) only [mvF_out]
    rfl
  · show mvF _ (mvF _ (mvF _ (mvF _ (mvF _ (mvF _ (mvF _ (mvF _ _ 0 4) 4 8) 12 8) 20 64) 84 40) 124 10) 134 8) 142 8 2 = _
    simp (disch := omega) only [mvF_out]
    rfl
  · show mvF _ (mvF _ (mvF _ (mvF _ (mvF _ (mvF _ (mvF _ (mvF _ _ 0 4) 4 8) 12 8) 20 64) 84 40) 124 10) 134 8) 142 8 3 = _
    simp (disch := omega) only [mvF_out]
    rfl
  · intro i hi
    show mvF _ (mvF _ (mvF _ (mvF _ (mvF _ (mvF _ (mvF _ (mvF _ _ 0 4) 4 8) 12 8) 20 64) 84 40) 124 10) 134 8) 142 8 (4 + i) = _
    simp (disch := omega) only [mvF_out, mvF_in]
    rw [show 4 + i - 4 = i by omega]
  · intro i hi
    show mvF _ (mvF _ (mvF _ (mvF _ (mvF _ (mvF _ (mvF _ (mvF _ _ 0 4) 4 8) 12 8) 20 64) 84 40) 124 10) 134 8) 142 8 (12 + i) = _
    simp (disch := omega) only [mvF_out, mvF_in]
    rw [show 12 + i - 12 = i by omega]
  · intro i hi
    show mvF _ (mvF _ (mvF _ (mvF _ (mvF _ (mvF _ (mvF _ (mvF _ _ 0 4) 4 8) 12 8) 20 64) 84 40) 124 10) 134 8) 142 8 (20 + i) = _
    simp (disch := omega) only [mvF_out, mvF_in]
    rw [show 20 + i - 20 = i by omega]
  · intro i hi
    show mvF _ (mvF _ (mvF _ (mvF _ (mvF _ (mvF _ (mvF _ (mvF _ _ 0 4) 4 8) 12 8) 20 64) 84 40) 124 10) 134 8) 142 8 (84 + i) = _
    simp (disch := omega) only [mvF_out, mvF_in]
    rw [show 84 + i - 84 = i by omega]
  · intro i hi
    show mvF _ (mvF _ (mvF _ (mvF _ (mvF _ (mvF _ (mvF _ (mvF _ _ 0 4) 4 8) 12 8) 20 64) 84 40) 124 10) 134 8) 142 8 (124 + i) = _
    simp (disch := omega) only [mvF_out, mvF_in]
    rw [show 124 + i - 124 = i by omega]
  · intro i hi
    show mvF _ (mvF _ (mvF _ (mvF _ (mvF _ (mvF _ (mvF _ (mvF _ _ 0 4) 4 8) 12 8) 20 64) 84 40) 124 10) 134 8) 142 8 (134 + i) = _
    simp (disch := omega) only [mvF_out, mvF_in]
    rw [show 134 + i - 134 = i by omega]
  · intro i hi
    show mvF _ (mvF _ (mvF _ (mvF _ (mvF _ (mvF _ (mvF _ (mvF _ _ 0 4) 4 8) 12 8) 20 64) 84 40) 124 10) 134 8) 142 8 (142 + i) = _
    simp (disch := omega) only [mvF_out, mvF_in]
    rw [show 142 + i - 142 = i by omega]
theorem RR_same {z y : MS} (h : RR z z) (hk : ∀ k, 0 < k ∧ k < 45 ∨ 56 < k ∧ k < 84 → gI y k = gI z k) (h56 : ∀ i, i = 0 ∨ i = 5 ∨ i = 9 ∨ i = 11 ∨ i = 13 ∨ i = 34 ∨ i = 45 → gI y 56 i = gI z 56 i) (hJ : gJ y 79 = gJ z 79) (hR : RK y y) : RR y y := by
  obtain ⟨h1, h2, h3, h4, h5, h6, h7, h8, h9⟩ := h
  refine ⟨?_, ?_, ?_, ?_, ?_, ?_, ?_, hR, ?_⟩
  · unfold RH
    rw [hk 1 (by omega), hk 2 (by omega), hk 3 (by omega), hk 4 (by omega), hk 5 (by omega), hk 6 (by omega), hk 7 (by omega), hk 57 (by omega), hk 58 (by omega), hk 59 (by omega), hk 60 (by omega), hk 61 (by omega), hk 62 (by omega), h56 0 (by omega), h56 5 (by omega)]
    exact h1
  · unfold RP
    rw [hk 26 (by omega), hk 27 (by omega), hk 28 (by omega), hk 64 (by omega), h56 9 (by omega), h56 11 (by omega)]
    exact h2
  · unfold RT
    rw [hk 65 (by omega), hk 9 (by omega), hk 8 (by omega), h56 13 (by omega)]
    exact h3
  · unfold RO
    rw [hk 75 (by omega), hk 31 (by omega), hk 30 (by omega), h56 34 (by omega)]
    exact h4
  · unfold RS
    rw [hk 77 (by omega), hk 35 (by omega), hk 78 (by omega), hk 36 (by omega), hk 38 (by omega), hk 39 (by omega), hk 40 (by omega), hk 41 (by omega), hJ]
    exact h5
  · unfold RV
    rw [hk 42 (by omega), hk 43 (by omega), hk 44 (by omega), hk 80 (by omega), hk 81 (by omega), hk 82 (by omega)]
    exact h6
  · unfold RA
    rw [hk 83 (by omega), hk 33 (by omega), hk 32 (by omega), h56 45 (by omega)]
    exact h7
  · unfold RC
    rw [hk 63 (by omega)]
    exact h9
theorem o_keep (z : MS) (h : RR z z) : O2 fT_keep fM_keep z := by
  let Z1 : MS := pI (pI (pI (cI (cI (cI (cI (cI (cI (cI (cI (pI (pI z 45 0 (gI z 1 0)) 45 1 (gI z 1 1)) 46 2 8) 47 3 8) 48 4 64) 49 5 8) 50 6 40) 51 7 10) 53 27 4) 54 28 4) 52 3 (gI z 26 3)) 52 4 (gI z 26 4)) 0 11 1
  obtain ⟨y, F, m1, m2, m3, m4, m5, f0, f1, f2, f3, f4, f5, f6, f7, f8, f9, f10⟩ := keepAll Z1
  have hy : ∀ k, k ≠ 84 → k ≠ 85 → k ≠ 56 → gI (pI y 56 47 1) k = gI Z1 k := by
    intro k h1 h2 h3
    rw [gI_pI, if_neg h3]
    exact m3 k h1 h2 h3
  have h56 : ∀ i, i ≠ 49 → i ≠ 47 → gI (pI y 56 47 1) 56 i = gI z 56 i := by
    intro i h1 h2
    rw [gI_pI, if_pos rfl, upd_a, if_neg h2]
    exact m5 i h1
  refine ⟨1, Z1, pI y 56 47 1, rfl, ?_, RR_same h ?_ ?_ ?_ ?_⟩
  · unfold fM_keep
    rw [m1, obs]
  · intro k hk
    rw [hy k (by omega) (by omega) (by omega)]
    show Z1.1 k = z.1 k
    have q : k ≠ 45 ∧ k ≠ 46 ∧ k ≠ 47 ∧ k ≠ 48 ∧ k ≠ 49 ∧ k ≠ 50 ∧ k ≠ 51 ∧ k ≠ 52 ∧ k ≠ 53 ∧ k ≠ 54 ∧ k ≠ 0 := by omega
    obtain ⟨q1, q2, q3, q4, q5, q6, q7, q8, q9, q10, q11⟩ := q
    simp only [Z1, pI, cI, wI, q1, q2, q3, q4, q5, q6, q7, q8, q9, q10, q11, if_false]
  · intro i hi
    exact h56 i (by omega) (by omega)
  · show gJ y 79 = _
    rw [m4]
    rfl
  · have g84 : gI (pI y 56 47 1) 84 = F := m2
    have e0 : gI (pI y 56 47 1) 0 = gI Z1 0 := hy 0 (by decide) (by decide) (by decide)
    have e45 : gI (pI y 56 47 1) 45 = gI Z1 45 := hy 45 (by decide) (by decide) (by decide)
    have e46 : gI (pI y 56 47 1) 46 = gI Z1 46 := hy 46 (by decide) (by decide) (by decide)
    have e47 : gI (pI y 56 47 1) 47 = gI Z1 47 := hy 47 (by decide) (by decide) (by decide)
    have e48 : gI (pI y 56 47 1) 48 = gI Z1 48 := hy 48 (by decide) (by decide) (by decide)
    have e49 : gI (pI y 56 47 1) 49 = gI Z1 49 := hy 49 (by decide) (by decide) (by decide)
    have e50 : gI (pI y 56 47 1) 50 = gI Z1 50 := hy 50 (by decide) (by decide) (by decide)
    have e51 : gI (pI y 56 47 1) 51 = gI Z1 51 := hy 51 (by decide) (by decide) (by decide)
    have e52 : gI (pI y 56 47 1) 52 = gI Z1 52 := hy 52 (by decide) (by decide) (by decide)
    have e53 : gI (pI y 56 47 1) 53 = gI Z1 53 := hy 53 (by decide) (by decide) (by decide)
    have e54 : gI (pI y 56 47 1) 54 = gI Z1 54 := hy 54 (by decide) (by decide) (by decide)
    obtain ⟨r0, r1, r2, r3, r4, r5, r6, r7⟩ := h.1
    unfold RK
    rw [g84, e0, e45, e46, e47, e48, e49, e50, e51, e52, e53, e54]
    refine ⟨rfl, Or.inr rfl, fun _ => ⟨?_, ?_, ?_, ?_, ?_, ?_, ?_, ?_, ?_, ?_, ?_⟩⟩
    · exact HV_cong r0 rfl rfl (fun i hi => cpy_in hi) (fun i hi => cpy_in hi) (fun i hi => cpy_in hi) (fun i hi => cpy_in hi) (fun i hi => cpy_in hi) (fun i hi => cpy_in hi) (fun i hi => f6 i hi)
    · exact f0.trans r1
    · exact f1.trans r2
    · exact f2.trans h.2.1.1
    · exact f3.trans h.2.1.2.1
    · intro i hi
      refine (f4 i hi).trans ?_
      show gI z 57 i = va_cpy (gI z 2) _ 0 0 8 i
      rw [cpy_in hi, r3]
    · intro i hi
      refine (f5 i hi).trans ?_
      show gI z 58 i = va_cpy (gI z 3) _ 0 0 8 i
      rw [cpy_in hi, r4]
    · intro i hi
      refine (f7 i hi).trans ?_
      show gI z 60 i = va_cpy (gI z 6) _ 0 0 40 i
      rw [cpy_in hi, r6]
    · intro i hi
      refine (f8 i hi).trans ?_
      show gI z 61 i = va_cpy (gI z 7) _ 0 0 10 i
      rw [cpy_in hi, r7]
    · intro i hi
      refine (f9 i hi).trans ?_
      show gI z 62 i = va_cpy (gI z 5) _ 0 0 8 i
      rw [cpy_in hi, r5]
    · exact PV_cong h.2.1.2.2 rfl (fun i hi => cpy_in hi) (fun i hi => cpy_in hi) (fun i hi => f10 i hi)
theorem cpF {f f2 g g2 : Nat → Int32} {n : Nat} (h1 : ∀ i, i < n → f2 i = f i) (h2 : g2 = g) : fa_fill f2 g2 n = va_cpy f g 0 0 n := by
  funext i
  by_cases hi : i < n
  · rw [fa_fill_in hi, cpy_in hi, h1 i hi]
  · rw [fa_fill_out (by omega), cpy_out (by omega), h2]
theorem againAll (z : MS) : ∃ y, fM_moveAll z 0 = some y ∧ (∀ i, i < 4 → gI y 85 i = gI z 84 i) ∧ gI y 57 = fa_fill (fun j => gI z 84 (4 + j)) (gI z 57) 8 ∧ gI y 58 = fa_fill (fun j => gI z 84 (12 + j)) (gI z 58) 8 ∧ gI y 59 = fa_fill (fun j => gI z 84 (20 + j)) (gI z 59) 64 ∧ gI y 60 = fa_fill (fun j => gI z 84 (84 + j)) (gI z 60) 40 ∧ gI y 61 = fa_fill (fun j => gI z 84 (124 + j)) (gI z 61) 10 ∧ gI y 62 = fa_fill (fun j => gI z 84 (134 + j)) (gI z 62) 8 ∧ gI y 64 = fa_fill (fun j => gI z 84 (142 + j)) (gI z 64) 8 ∧
    (∀ k, k < 56 ∨ k = 63 ∨ (64 < k ∧ k < 85) → gI y k = gI z k) ∧ (∀ k, gJ y k = gJ z k) ∧ (∀ i, i ≠ 49 → gI y 56 i = gI z 56 i) := by
  let y0 : MS := pI (pI (pI (pI (pI z 56 49 0) 85 0 (gI z 56 0)) 85 1 (gI z 56 5)) 85 2 (gI z 56 9)) 85 3 (gI z 56 11)
  let y1 : MS := pI (wI y0 85 (fa_fill (fun j => gI z 84 (0 + j)) (gI y0 85) 4)) 56 49 (nI 4)
  let y2 : MS := pI (wI y1 57 (fa_fill (fun j => gI z 84 (4 + j)) (gI z 57) 8)) 56 49 (nI 12)
  let y3 : MS := pI (wI y2 58 (fa_fill (fun j => gI z 84 (12 + j)) (gI z 58) 8)) 56 49 (nI 20)
  let y4 : MS := pI (wI y3 59 (fa_fill (fun j => gI z 84 (20 + j)) (gI z 59) 64)) 56 49 (nI 84)
  let y5 : MS := pI (wI y4 60 (fa_fill (fun j => gI z 84 (84 + j)) (gI z 60) 40)) 56 49 (nI 124)
  let y6 : MS := pI (wI y5 61 (fa_fill (fun j => gI z 84 (124 + j)) (gI z 61) 10)) 56 49 (nI 134)
  let y7 : MS := pI (wI y6 62 (fa_fill (fun j => gI z 84 (134 + j)) (gI z 62) 8)) 56 49 (nI 142)
  let y8 : MS := pI (wI y7 64 (fa_fill (fun j => gI z 84 (142 + j)) (gI z 64) 8)) 56 49 (nI 150)
  have m1 : fM_move_85 y0 4 0 = some y1 := again_85 y0 (t := 0) rfl (by omega)
  have m2 : fM_move_57 y1 8 0 = some y2 := again_57 y1 (t := 4) rfl (by omega)
  have m3 : fM_move_58 y2 8 0 = some y3 := again_58 y2 (t := 12) rfl (by omega)
  have m4 : fM_move_59 y3 64 0 = some y4 := again_59 y3 (t := 20) rfl (by omega)
  have m5 : fM_move_60 y4 40 0 = some y5 := again_60 y4 (t := 84) rfl (by omega)
  have m6 : fM_move_61 y5 10 0 = some y6 := again_61 y5 (t := 124) rfl (by omega)
  have m7 : fM_move_62 y6 8 0 = some y7 := again_62 y6 (t := 134) rfl (by omega)
  have m8 : fM_move_64 y7 8 0 = some y8 := again_64 y7 (t := 142) rfl (by omega)
  refine ⟨y8, ?_, ?_, rfl, rfl, rfl, rfl, rfl, rfl, rfl, ?_, fun k => rfl, ?_⟩
  · unfold fM_moveAll
    show Option.bind (fM_move_85 y0 4 0) _ = _
    rw [m1, obs]
    show Option.bind (fM_move_57 y1 8 0) _ = _
    rw [m2, obs]
    show Option.bind (fM_move_58 y2 8 0) _ = _
    rw [m3, obs]
    show Option.bind (fM_move_59 y3 64 0) _ = _
    rw [m4, obs]
    show Option.bind (fM_move_60 y4 40 0) _ = _
    rw [m5, obs]
    show Option.bind (fM_move_61 y5 10 0) _ = _
    rw [m6, obs]
    show Option.bind (fM_move_62 y6 8 0) _ = _
    rw [m7, obs]
    show Option.bind (fM_move_64 y7 8 0) _ = _
    rw [m8, obs]
  · intro i hi
    show fa_fill (fun j => gI z 84 (0 + j)) _ 4 i = _
    rw [fa_fill_in hi, Nat.zero_add]
  · intro k hk
    have q : k ≠ 56 ∧ k ≠ 85 ∧ k ≠ 57 ∧ k ≠ 58 ∧ k ≠ 59 ∧ k ≠ 60 ∧ k ≠ 61 ∧ k ≠ 62 ∧ k ≠ 64 := by omega
    obtain ⟨q1, q2, q3, q4, q5, q6, q7, q8, q9⟩ := q
    show y8.1 k = z.1 k
    simp only [y8, y7, y6, y5, y4, y3, y2, y1, y0, pI, wI, q1, q2, q3, q4, q5, q6, q7, q8, q9, if_false]
  · intro i hi
    show upd (upd (upd (upd (upd (upd (upd (upd (upd (gI z 56) 49 _) 49 _) 49 _) 49 _) 49 _) 49 _) 49 _) 49 _) 49 _ i = _
    simp only [upd_a, if_neg hi]
theorem o_again (z : MS) (h : RR z z) : O2 fT_again fM_again z := by
  obtain ⟨k1, k2, k3⟩ := h.2.2.2.2.2.2.2.1
  by_cases hk : gI z 0 11 = 0
  · exact same2 (-3) h (by unfold fT_again; rw [if_pos hk]) (by unfold fM_again; rw [if_pos (k1.trans hk)])
  · have hk1 : gI z 0 11 = 1 := by
      rcases k2 with k2 | k2
      · exact absurd k2 hk
      · exact k2
    obtain ⟨v1, v2, v3, v4, v5, v6, v7, v8, v9, v10, v11⟩ := k3 hk1
    let Z1 : MS := pI (pI (cI (cI (cI (cI (cI (cI (cI (cI (pI (pI z 1 0 (gI z 45 0)) 1 1 (gI z 45 1)) 2 46 8) 3 47 8) 4 48 64) 5 49 8) 6 50 40) 7 51 10) 27 53 4) 28 54 4) 26 3 (gI z 52 3)) 26 4 (gI z 52 4)
    obtain ⟨y, m0, m85, m57, m58, m59, m60, m61, m62, m64, mo, mJ, m56⟩ := againAll Z1
    let Z2 : MS := pI (pI (pI (pI y 56 0 (gI y 85 0)) 56 5 (gI y 85 1)) 56 9 (gI y 85 2)) 56 11 (gI y 85 3)
    have o : ∀ k, k < 56 ∨ k = 63 ∨ (64 < k ∧ k < 85) → gI Z2 k = gI Z1 k := by
      intro k hk
      refine Eq.trans ?_ (mo k hk)
      have q : k ≠ 56 := by omega
      show (pI (pI (pI (pI y 56 0 (gI y 85 0)) 56 5 (gI y 85 1)) 56 9 (gI y 85 2)) 56 11 (gI y 85 3)).1 k = y.1 k
      simp only [pI, wI, q, if_false]
    have p0 : gI y 85 0 = gI z 45 0 := (m85 0 (by omega)).trans v2
    have p1 : gI y 85 1 = gI z 45 1 := (m85 1 (by omega)).trans v3
    have p2 : gI y 85 2 = gI z 52 3 := (m85 2 (by omega)).trans v4
    have p3 : gI y 85 3 = gI z 52 4 := (m85 3 (by omega)).trans v5
    obtain ⟨r0, r1, r2, r3, r4, r5, r6, r7⟩ := h.1
    obtain ⟨h1, h2, h3, h4, h5, h6, h7, h8, h9⟩ := h
    have c57 : gI Z2 57 = gI Z1 2 := m57.trans (cpF v6 r3)
    have c58 : gI Z2 58 = gI Z1 3 := m58.trans (cpF v7 r4)
    have c60 : gI Z2 60 = gI Z1 6 := m60.trans (cpF v8 r6)
    have c61 : gI Z2 61 = gI Z1 7 := m61.trans (cpF v9 r7)
    have c62 : gI Z2 62 = gI Z1 5 := m62.trans (cpF v10 r5)
    refine ⟨gI z 45 0, Z1, Z2, ?_, ?_, ?_, ?_, ?_, ?_, ?_, ?_, ?_, ?_, ?_⟩
    · unfold fT_again
      rw [if_neg hk]
      rfl
    · show fM_again Z1 = _
      unfold fM_again
      rw [show gI Z1 56 47 = gI z 0 11 from k1, if_neg hk, m0]
      show some (gI y 85 0, Z2) = _
      rw [p0]
    · unfold RH
      rw [o 1 (by omega), o 2 (by omega), o 3 (by omega), o 4 (by omega), o 5 (by omega), o 6 (by omega), o 7 (by omega)]
      refine ⟨?_, p0, p1, c57, c58, c62, c60, c61⟩
      have g59 : gI Z2 59 = fa_fill (fun j => gI z 84 (20 + j)) (gI z 59) 64 := m59
      rw [g59]
      exact HV_cong v1 rfl rfl (fun i hi => cpy_in hi) (fun i hi => cpy_in hi) (fun i hi => cpy_in hi) (fun i hi => cpy_in hi) (fun i hi => cpy_in hi) (fun i hi => cpy_in hi) (fun i hi => fa_fill_in hi)
    · unfold RP
      rw [o 26 (by omega), o 27 (by omega), o 28 (by omega)]
      refine ⟨p2, p3, ?_⟩
      have g64 : gI Z2 64 = fa_fill (fun j => gI z 84 (142 + j)) (gI z 64) 8 := m64
      rw [g64]
      exact PV_cong v11 rfl (fun i hi => cpy_in hi) (fun i hi => cpy_in hi) (fun i hi => fa_fill_in hi)
    · unfold RT
      rw [o 65 (by omega), o 9 (by omega), o 8 (by omega), show gI Z2 56 13 = gI z 56 13 from m56 13 (by decide)]
      exact h3
    · unfold RO
      rw [o 75 (by omega), o 31 (by omega), o 30 (by omega), show gI Z2 56 34 = gI z 56 34 from m56 34 (by decide)]
      exact h4
    · unfold RS
      rw [o 77 (by omega), o 35 (by omega), o 78 (by omega), o 36 (by omega), o 38 (by omega), o 39 (by omega), o 40 (by omega), o 41 (by omega), show gJ Z2 79 = gJ z 79 from mJ 79]
      exact h5
    · unfold RV
      rw [o 42 (by omega), o 43 (by omega), o 44 (by omega), o 80 (by omega), o 81 (by omega), o 82 (by omega)]
      exact h6
    · unfold RA
      rw [o 83 (by omega), o 33 (by omega), o 32 (by omega), show gI Z2 56 45 = gI z 56 45 from m56 45 (by decide)]
      exact h7
    · unfold RK
      rw [o 0 (by omega), o 45 (by omega), o 46 (by omega), o 47 (by omega), o 48 (by omega), o 49 (by omega), o 50 (by omega), o 51 (by omega), o 52 (by omega), o 53 (by omega), o 54 (by omega), o 84 (by omega), show gI Z2 56 47 = gI z 56 47 from m56 47 (by decide)]
      exact h8
    · unfold RC
      rw [o 63 (by omega)]
      exact h9
