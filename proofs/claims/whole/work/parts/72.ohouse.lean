theorem mh_F (y : MS) (X : Nat → Int32) (W : Nat → Int64) (K A T G : Nat → Int32) {k : Nat} (hk : k < 56 ∨ (56 < k ∧ k < 66) ∨ 69 < k) : gI (mh y X W K A T G) k = gI y k := by
  unfold mh
  rw [gI_wI', if_neg (by omega), gI_wI', if_neg (by omega), gI_wI', if_neg (by omega), gI_wI', if_neg (by omega)]
  show gI (wI y 56 X) k = gI y k
  rw [gI_wI', if_neg (by omega)]
theorem dh_F (z : MS) (a : Nat) (ft : Int32) (n : Nat) (K A T G : Nat → Int32) {k : Nat} (hk : k < 8 ∨ k = 9 ∨ 14 < k) : gI (dh z a ft n K A T G) k = gI z k := by
  unfold dh
  rw [gI_wI', if_neg (by omega), gI_wI', if_neg (by omega), gI_wI', if_neg (by omega), gI_wI', if_neg (by omega), gI_wI', if_neg (by omega), gI_wI', if_neg (by omega)]
theorem RR_house {z y : MS} (h : RR z z) (F : ∀ k, k = 0 ∨ k = 9 ∨ (17 ≤ k ∧ k < 30) ∨ (30 < k ∧ k < 56) ∨ (62 < k ∧ k < 66) ∨ 69 < k → gI y k = gI z k) (J : gJ y 79 = gJ z 79) (f56 : ∀ i, i = 9 ∨ i = 11 ∨ i = 45 ∨ i = 47 → gI y 56 i = gI z 56 i) (f13 : gI y 56 13 = 0) (f82 : gI y 8 2 = 0) (hH : RH y y) (hO : gI y 56 34 = gI y 30 3 ∧ (gI y 30 3 = 0 ∨ gI y 30 3 = 10)) : RR y y := by
  obtain ⟨h1, h2, h3, h4, h5, h6, h7, h8, h9⟩ := h
  refine ⟨hH, ?_, ?_, ?_, ?_, ?_, ?_, ?_, ?_⟩
  · unfold RP
    rw [F 26 (by omega), F 27 (by omega), F 28 (by omega), F 64 (by omega), f56 9 (by omega), f56 11 (by omega)]
    exact h2
  · unfold RT
    rw [F 65 (by omega), F 9 (by omega), f13, f82]
    exact ⟨h3.1, rfl, lt_nI (n := 0) (by decide) (by decide), h3.2.2.2⟩
  · unfold RO
    rw [F 75 (by omega), F 31 (by omega)]
    exact ⟨h4.1, hO⟩
  · unfold RS
    rw [F 77 (by omega), F 35 (by omega), F 78 (by omega), F 36 (by omega), F 38 (by omega), F 39 (by omega), F 40 (by omega), F 41 (by omega), J]
    exact h5
  · unfold RV
    rw [F 42 (by omega), F 43 (by omega), F 44 (by omega), F 80 (by omega), F 81 (by omega), F 82 (by omega)]
    exact h6
  · unfold RA
    rw [F 83 (by omega), F 33 (by omega), F 32 (by omega), f56 45 (by omega)]
    exact h7
  · unfold RK
    rw [F 0 (by omega), f56 47 (by omega), F 84 (by omega), F 45 (by omega), F 46 (by omega), F 47 (by omega), F 48 (by omega), F 49 (by omega), F 50 (by omega), F 51 (by omega), F 52 (by omega), F 53 (by omega), F 54 (by omega)]
    exact h8
  · unfold RC
    rw [F 63 (by omega)]
    exact h9
theorem kbt0 (q : Nat) : kbt 0 q = false := by
  unfold kbt
  rw [show cl 0 = 0 by decide, Nat.zero_testBit]
theorem DR_0 {K A T G K' A' T' G' : Nat → Int32} (hK : ∀ i, i < 8 → K i = 0) (hA : ∀ i, i < 8 → A i = 0) (hT : ∀ i, i < 64 → T i = 0) (hG : ∀ j, j < 8 → lt (G j) (most j + 1)) (hT' : ∀ i, i < 64 → T' i = 0) (he : ∀ i, i < 8 → K' i = K i ∧ A' i = A i ∧ G' i = G i) : DR 0 K A T G K' A' T' G' := by
  refine ⟨by omega, ⟨lt_nI (by decide) (by decide), lt_nI (n := 0) (by decide) (by decide), ?_, ?_, ?_, ?_, fun p hp _ => hA p hp, ?_, hG, fun i _ => Or.inl rfl, fun d _ => lt_nI (n := 0) (by decide) (by decide)⟩, he⟩
  · intro p hp
    rw [hK p hp]
    exact lt_nI (n := 0) (by decide) (by decide)
  · intro p q hp hq
    rw [hK p hp, hK q hq, kbt0, kbt0]
  · intro p q hp hq hb
    rw [hK p hp, kbt0] at hb
    exact absurd hb ftn
  · intro p hp
    rw [hA p hp]
    exact lt_nI (n := 0) (by decide) (by decide)
  · intro p q hpq hq
    rw [hT _ (by omega), hT' _ (by omega), hT' _ (by omega)]
    exact ⟨lt_nI (n := 0) (by decide) (by decide), rfl, rfl, fun _ => rfl⟩
theorem o_house (z : MS) (h : RR z z) : O2 fT_house fM_house z := by
  obtain ⟨r1, r2, r3, r4⟩ := h.2.2.1
  obtain ⟨l, hl, el, -⟩ := lt_ex r3
  obtain ⟨zE, hE, F, J, p0, p1, pK, pA, pT, pG, pS, pO⟩ := emp_c z
  have hz : tpC zE (gI z 9) l := ⟨F 9 (by omega), by rw [F 8 (by omega)]; exact el, by omega, r4⟩
  have hRC : gI z 63 = (fun j => cST1.getD j 0) := h.2.2.2.2.2.2.2.2
  obtain ⟨hv, q0, q5, q57, q58, q62, q60, q61⟩ := h.1
  have d0 : DR 0 (gI zE 11) (gI zE 12) (gI zE 13) (gI zE 14) (mx 8 k0 (gI z 66)) (mx 8 k0 (gI z 67)) (mx 64 k0 (gI z 68)) (mx 8 (gI z 62) (gI z 69)) := by
    refine DR_0 pK pA pT ?_ (fun i hi => mx_in hi _ _) ?_
    · intro j hj
      rw [pG j hj]
      exact hv.2.2.2.2.2.2.2.2.1 j hj
    · intro i hi
      rw [mx_in hi, mx_in hi, mx_in hi, pK i hi, pA i hi, pG i hi, q62]
      exact ⟨rfl, rfl, rfl⟩
  have e0 : pI (pI zE 8 3 0) 8 4 (-1) = dh zE 0 (-1) 0 (gI zE 11) (gI zE 12) (gI zE 13) (gI zE 14) := dh_id (n := 0) p0 0 (-1)
  have hsl : skB (gI z 9) l 0 ≤ l := rnT_le _ _ _ (Nat.zero_le _)
  have hT : fTape_tell z = fTape_tell_L27 LF (dh zE (skB (gI z 9) l 0) (-1) 0 (gI zE 11) (gI zE 12) (gI zE 13) (gI zE 14)) 0 := by
    unfold fTape_tell
    rw [hE, obs, e0, skipB hz (show 0 < 1000 by omega), obs]
  have hloop := tell_loop hz 201 (skB (gI z 9) l 0) 0 LF 0 (gI zE 11) (gI zE 12) (gI zE 13) (gI zE 14) _ _ _ _ (by omega) (by decide) (skB_skB _ _ _) hsl (Nat.zero_le _) d0
  rcases hloop with ⟨e2, ft, n2, K2, A2, T2, G2, h1, h2, h3⟩ | ⟨b, n2, K2, A2, T2, G2, K3, A3, T3, G3, h1, h2, h3⟩
  · have h2 : fTape_tell_L27 LF (dh zE (skB (gI z 9) l 0) (-1) 0 (gI zE 11) (gI zE 12) (gI zE 13) (gI zE 14)) 0 = _ := h2
    rw [h2] at hT
    have Fy : ∀ k, k < 8 ∨ k = 9 ∨ 16 < k → gI (pI (dh zE e2 (nI ft) n2 K2 A2 T2 G2) 8 2 0) k = gI z k := by
      intro k hk
      unfold pI
      rw [gI_wI', if_neg (by omega), dh_F _ _ _ _ _ _ _ _ (by omega), F k (by omega)]
    have Jy : gJ (pI (dh zE e2 (nI ft) n2 K2 A2 T2 G2) 8 2 0) 79 = gJ z 79 := J 79
    have y82 : gI (pI (dh zE e2 (nI ft) n2 K2 A2 T2 G2) 8 2 0) 8 2 = 0 := rfl
    generalize pI (dh zE e2 (nI ft) n2 K2 A2 T2 G2) 8 2 0 = y at *
    obtain ⟨X, W, s1, s2, s3⟩ := start_m (y := y) (B := gI z 9) (l := l) ⟨by rw [Fy 65 (by omega)]; exact r1, by omega, r4⟩ (by rw [Fy 63 (by omega)]; exact hRC) (by rw [Fy 56 (by omega), r2]; exact el) (Fy 66 (by omega)) (Fy 67 (by omega)) (Fy 68 (by omega)) (Fy 69 (by omega))
    rw [Fy 62 (by omega)] at s1
    obtain ⟨X2, W2, K3, A3, T3, G3, t1, t2⟩ := h3 LF y X W (by decide) s2
    have kp := kpX_t s3 t2.2.2
    have hJ : fM_house_J101 (mh y X2 W2 K3 A3 T3 G3) = some ((-100) - nI ft, mh y (upd X2 13 0) W2 K3 A3 T3 G3) := by
      unfold fM_house_J101
      rw [mh_X, mh_gX, upd_ne (show 19 ≠ 13 by decide), t2.1, if_pos rfl, upd_ne (show 15 ≠ 13 by decide), t2.2.1]
    have x56 : ∀ i, i < 13 ∨ 20 < i → upd X2 13 0 i = gI z 56 i := by
      intro i hi
      rw [upd_ne (by omega), kp i hi, Fy 56 (by omega)]
    refine ⟨(-100) - nI ft, y, mh y (upd X2 13 0) W2 K3 A3 T3 G3, ?_, s1.trans (t1.trans hJ), ?_⟩
    · unfold fT_house
      rw [hT, ob2s, if_neg (nI_pos (by omega))]
    · have FM : ∀ k, k < 8 ∨ k = 9 ∨ (16 < k ∧ k < 56) ∨ (56 < k ∧ k < 66) ∨ 69 < k → gI (mh y (upd X2 13 0) W2 K3 A3 T3 G3) k = gI z k := by
        intro k hk
        rw [mh_F _ _ _ _ _ _ _ (by omega), Fy k (by omega)]
      have m82 : gI (mh y (upd X2 13 0) W2 K3 A3 T3 G3) 8 2 = 0 := by
        rw [mh_F _ _ _ _ _ _ _ (by omega), y82]
      have J2 : gJ (mh y (upd X2 13 0) W2 K3 A3 T3 G3) 79 = gJ z 79 := Jy
      have m56 : gI (mh y (upd X2 13 0) W2 K3 A3 T3 G3) 56 = upd X2 13 0 := rfl
      generalize mh y (upd X2 13 0) W2 K3 A3 T3 G3 = M at *
      refine RR_house h (fun k hk => FM k (by omega)) J2 (fun i hi => by rw [m56]; exact x56 i (by omega)) (by rw [m56, upd_eq]) m82 ?_ ?_
      · unfold RH
        rw [FM 1 (by omega), FM 2 (by omega), FM 3 (by omega), FM 4 (by omega), FM 5 (by omega), FM 6 (by omega), FM 7 (by omega), FM 57 (by omega), FM 58 (by omega), FM 59 (by omega), FM 60 (by omega), FM 61 (by omega), FM 62 (by omega), m56, x56 0 (by omega), x56 5 (by omega)]
        exact h.1
      · rw [m56, x56 34 (by omega), FM 30 (by omega)]
        exact h.2.2.2.1.2
  · have h2 : fTape_tell_L27 LF (dh zE (skB (gI z 9) l 0) (-1) 0 (gI zE 11) (gI zE 12) (gI zE 13) (gI zE 14)) 0 = _ := h2
    obtain ⟨zB, b0, bF, bJ, b10, b11, b2, b3, b4, b5, b6, b7⟩ := bec_c (dh zE b (-1) n2 K2 A2 T2 G2)
    rw [h2, b0, obs] at hT
    have hw : gI (pI zB 8 2 0) 8 4 = -1 := by
      show upd (gI zB 8) 2 0 4 = -1
      rw [upd_ne (by decide), bF 8 (by omega)]
      rfl
    rw [hw] at hT
    have hv2 := h1.2.1
    have hn8 := h1.1
    have gB : ∀ k, 1 ≤ k ∧ k < 8 → gI (dh zE b (-1) n2 K2 A2 T2 G2) k = gI z k := by
      intro k hk
      rw [dh_F _ _ _ _ _ _ _ _ (by omega), F k (by omega)]
    have g10 : gI (dh zE b (-1) n2 K2 A2 T2 G2) 10 0 = nI n2 := rfl
    have g10' : gI (dh zE b (-1) n2 K2 A2 T2 G2) 10 1 = 0 := p1
    have g15 : gI (dh zE b (-1) n2 K2 A2 T2 G2) 15 = gI zE 15 := rfl
    have g16 : gI (dh zE b (-1) n2 K2 A2 T2 G2) 16 = gI zE 16 := rfl
    have c2 : gI zB 2 = mx 8 K2 (gI z 2) := by
      funext i
      rw [b2 i, gB 2 (by omega)]
      rfl
    have c3 : gI zB 3 = mx 8 A2 (gI z 3) := by
      funext i
      rw [b3 i, gB 3 (by omega)]
      rfl
    have c4 : gI zB 4 = mx 64 T2 (gI z 4) := by
      funext i
      rw [b4 i, gB 4 (by omega)]
      rfl
    have c5 : gI zB 5 = mx 8 G2 (gI z 5) := by
      funext i
      rw [b5 i, gB 5 (by omega)]
      rfl
    have c6 : gI zB 6 = mx 40 (gI zE 15) (gI z 6) := by
      funext i
      rw [b6 i, gB 6 (by omega), g15]
    have c7 : gI zB 7 = mx 10 (gI zE 16) (gI z 7) := by
      funext i
      rw [b7 i, gB 7 (by omega), g16]
    have Fy : ∀ k, k = 0 ∨ k = 9 ∨ (16 < k ∧ k < 30) ∨ 30 < k → gI (pI (pI zB 8 2 0) 30 3 0) k = gI z k := by
      intro k hk
      unfold pI
      rw [gI_wI', if_neg (by omega), gI_wI', if_neg (by omega), bF k (by omega), dh_F _ _ _ _ _ _ _ _ (by omega), F k (by omega)]
    have Gy : ∀ k, 1 ≤ k ∧ k < 8 → gI (pI (pI zB 8 2 0) 30 3 0) k = gI zB k := by
      intro k hk
      unfold pI
      rw [gI_wI', if_neg (by omega), gI_wI', if_neg (by omega)]
    have Jy : gJ (pI (pI zB 8 2 0) 30 3 0) 79 = gJ z 79 := (bJ 79).trans (J 79)
    have y82 : gI (pI (pI zB 8 2 0) 30 3 0) 8 2 = 0 := rfl
    have y30 : gI (pI (pI zB 8 2 0) 30 3 0) 30 3 = 0 := rfl
    have hC : fT_house z = some (nI n2, pI (pI zB 8 2 0) 30 3 0) := by
      unfold fT_house fRows_drop
      rw [hT, ob2s, if_pos (show (-1 : Int32) < 0 by decide), obs, Gy 1 (by omega), b10, g10]
    generalize pI (pI zB 8 2 0) 30 3 0 = y at *
    obtain ⟨X, W, s1, s2, s3⟩ := start_m (y := y) (B := gI z 9) (l := l) ⟨by rw [Fy 65 (by omega)]; exact r1, by omega, r4⟩ (by rw [Fy 63 (by omega)]; exact hRC) (by rw [Fy 56 (by omega), r2]; exact el) (Fy 66 (by omega)) (Fy 67 (by omega)) (Fy 68 (by omega)) (Fy 69 (by omega))
    rw [Fy 62 (by omega)] at s1
    obtain ⟨X2, W2, t1, t2, t3, t4⟩ := h3 LF y X W (by decide) s2
    have kp := kpX_t s3 t4
    have hJ : fM_house_J101 (mh y X2 W2 K3 A3 T3 G3) = fM_house_L131 LF (mh y (upd (upd X2 13 0) 0 (nI n2)) W2 K3 A3 T3 G3) 0 := by
      unfold fM_house_J101
      rw [mh_X, mh_gX, upd_ne (show 19 ≠ 13 by decide), t2, if_neg one_ne, upd_ne (show 20 ≠ 13 by decide), t3, mh_X]
    have FM : ∀ k, k < 56 ∨ (56 < k ∧ k < 66) ∨ 69 < k → gI (mh y (upd (upd X2 13 0) 0 (nI n2)) W2 K3 A3 T3 G3) k = gI y k := fun k hk => mh_F _ _ _ _ _ _ _ hk
    have JM : gJ (mh y (upd (upd X2 13 0) 0 (nI n2)) W2 K3 A3 T3 G3) 79 = gJ z 79 := Jy
    have x56 : gI (mh y (upd (upd X2 13 0) 0 (nI n2)) W2 K3 A3 T3 G3) 56 = upd (upd X2 13 0) 0 (nI n2) := rfl
    have x66 : gI (mh y (upd (upd X2 13 0) 0 (nI n2)) W2 K3 A3 T3 G3) 66 = K3 := rfl
    have x67 : gI (mh y (upd (upd X2 13 0) 0 (nI n2)) W2 K3 A3 T3 G3) 67 = A3 := rfl
    have x68 : gI (mh y (upd (upd X2 13 0) 0 (nI n2)) W2 K3 A3 T3 G3) 68 = T3 := rfl
    have x69 : gI (mh y (upd (upd X2 13 0) 0 (nI n2)) W2 K3 A3 T3 G3) 69 = G3 := rfl
    generalize mh y (upd (upd X2 13 0) 0 (nI n2)) W2 K3 A3 T3 G3 = M at *
    obtain ⟨M2, u0, uF, uJ, u56, u57, u58, u59, u60, u61, u62⟩ := take_m M
    have i0 : gI M 56 0 = nI n2 := by rw [x56, upd_eq]
    rw [i0] at u0
    refine ⟨nI n2, y, M2, hC, s1.trans (t1.trans (hJ.trans u0)), ?_⟩
    have v57 : gI M2 57 = mx 8 K3 (gI z 57) := by rw [u57, x66, FM 57 (by omega), Fy 57 (by omega)]
    have v58 : gI M2 58 = mx 8 A3 (gI z 58) := by rw [u58, x67, FM 58 (by omega), Fy 58 (by omega)]
    have v59 : gI M2 59 = mx 64 T3 (gI z 59) := by rw [u59, x68, FM 59 (by omega), Fy 59 (by omega)]
    have v60 : gI M2 60 = mx 40 (fun _ => -1) (gI z 60) := by rw [u60, FM 60 (by omega), Fy 60 (by omega)]
    have v61 : gI M2 61 = mx 10 k0 (gI z 61) := by rw [u61, FM 61 (by omega), Fy 61 (by omega)]
    have v62 : gI M2 62 = mx 8 G3 (gI z 62) := by rw [u62, x69, FM 62 (by omega), Fy 62 (by omega)]
    have vC : ∀ k, 1 ≤ k ∧ k < 8 → gI M2 k = gI zB k := fun k hk => by rw [uF k (by omega), FM k (by omega), Gy k hk]
    have vF : ∀ k, k = 0 ∨ k = 9 ∨ (17 ≤ k ∧ k < 30) ∨ (30 < k ∧ k < 56) ∨ (62 < k ∧ k < 66) ∨ 69 < k → gI M2 k = gI z k := fun k hk => by rw [uF k (by omega), FM k (by omega), Fy k (by omega)]
    have v82 : gI M2 8 2 = 0 := by rw [uF 8 (by omega), FM 8 (by omega), y82]
    have v30 : gI M2 30 3 = 0 := by rw [uF 30 (by omega), FM 30 (by omega), y30]
    have v56 : ∀ i, i ≠ 0 → i ≠ 5 → i ≠ 34 → (i < 13 ∨ 20 < i) → gI M2 56 i = gI z 56 i := by
      intro i n0 n5 n34 hi
      rw [u56, upd_ne n34, upd_ne n5, x56, upd_ne n0, upd_ne (by omega), kp i hi, Fy 56 (by omega)]
    refine RR_house h vF ((uJ 79).trans JM) (fun i hi => v56 i (by omega) (by omega) (by omega) (by omega)) ?_ v82 ?_ ?_
    · rw [u56, upd_ne (by decide), upd_ne (by decide), x56, upd_ne (by decide), upd_eq]
    · have w1 : gI M2 1 0 = nI n2 := by rw [vC 1 (by omega), b10, g10]
      have w2 : gI M2 1 1 = 0 := by rw [vC 1 (by omega), b11, g10']
      unfold RH
      rw [vC 2 (by omega), vC 3 (by omega), vC 4 (by omega), vC 5 (by omega), vC 6 (by omega), vC 7 (by omega), c2, c3, c4, c5, c6, c7, v57, v58, v59, v60, v61, v62, w1, w2]
      refine ⟨HV_cong hv2 rfl rfl (fun i hi => mx_in hi _ _) (fun i hi => mx_in hi _ _) (fun i hi => mx_in hi _ _) (fun i hi => mx_in hi _ _) (fun i hi => (mx_in hi _ _).trans (pS i hi)) (fun i hi => (mx_in hi _ _).trans (pO i hi)) (fun i hi => mx_in hi _ _), ?_, ?_, ?_, ?_, ?_, ?_, ?_⟩
      · rw [u56, upd_ne (by decide), upd_ne (by decide), i0]
      · rw [u56, upd_ne (by decide), upd_eq]
      · exact funext (mx_c (fun i hi => (h1.2.2 i hi).1) q57)
      · exact funext (mx_c (fun i hi => (h1.2.2 i hi).2.1) q58)
      · exact funext (mx_c (fun i hi => (h1.2.2 i hi).2.2) q62)
      · exact funext (mx_c (fun i hi => (pS i hi).symm) q60)
      · exact funext (mx_c (fun i hi => (pO i hi).symm) q61)
    · rw [v30, u56, upd_eq]
      exact ⟨rfl, Or.inl rfl⟩
