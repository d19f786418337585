theorem awF' {z : MS} {B : Nat → Int32} {l : Nat} (hz : tpC z B l) (n : Nat) (K A T G : Nat → Int32) {e ft : Nat} (he : e < 500) (hf : ft < 1000) (w : Int32) : ∃ e2, e2 < 500 ∧ fTape_readAway_L25 w LF (dh z e (nI ft) n K A T G) 1 0 = some (dh z e2 (nI ft) n K A T G) := by
  obtain ⟨f, hLF⟩ : ∃ k, LF = k + 2 := ⟨LF - 2, by decide⟩
  rw [hLF]
  exact awF hz n K A T G he hf (show 0 < 200 by omega) w f
theorem L30_b' {y : MS} (K A T G : Nat → Int32) {X : Nat → Int32} {W : Nat → Int64} (h19 : X 19 = 0) (w l2 l3 : Int32) : fM_wantAway_L30 w LF (mh y X W K A T G) l2 l3 = some (mh y X W K A T G) := by
  rw [LF_s]
  exact L30_b K A T G h19 w l2 l3 _
theorem J102_e {B : Nat → Int32} {l a n : Nat} {y : MS} {X : Nat → Int32} {W : Nat → Int64} (h : MG B l a n y X W) (ha : a ≤ l) (K A T G : Nat → Int32) {p : Nat} (hp : p < 8) (m : Int32) : (enB B l a = true → ∃ X2 W2, fM_wantAway_J102 (mh y X W K A T G) (nI p) m = some (mh y X2 W2 K (awU A p m) T G) ∧ MG B l (skB B l (a + 1)) n y X2 W2 ∧ kpX X X2) ∧ (enB B l a = false → fM_wantAway_J102 (mh y X W K A T G) (nI p) m = some (mh y (upd X 19 0) W K A T G)) := by
  have he := Mend h.1 K A T G ha h.2.2.1 h.2.2.2.1 h.2.2.2.2.1
  constructor
  · intro hb
    obtain ⟨X2, W2, r1, r2, r3⟩ := he.1 hb
    have m2 := MG_s h r3 r2
    refine ⟨X2, W2, ?_, m2, kpX_k r3⟩
    unfold fM_wantAway_J102
    rw [r1, obs, mh_gX, m2.2.2.2.2.1, if_neg one_ne, if_neg (ix_ok hp (by omega)), if_neg (ix_ok hp (by omega)), nI_clamp (show p < 2 ^ 31 by omega), mh_A]
    rfl
  · intro hb
    unfold fM_wantAway_J102
    rw [he.2 hb, obs, mh_gX, upd_eq, if_pos rfl]
theorem away_s {z : MS} {B : Nat → Int32} {l : Nat} (hz : tpC z B l) {a n : Nat} (ha : a < l) {K A T G K' A' T' G' : Nat → Int32} (hd : DR n K A T G K' A' T' G') (hn : ∀ j, j < 3 → wB B l a j = false) (hw : wB B l a 3 = true) : JS z B l a n K' A' T' G' (fTape_readStatement_J31 (dh z a (-1) n K A T G) (nI (enW B l a)) (nI 3)) fM_wantClause := by
  have hl := hz.2.2.1
  have hn8 := hd.1
  have t0 : enW B l a ≤ l := rnT_le _ _ _ (by omega)
  have t1 : skB B l (enW B l a) ≤ l := rnT_le _ _ _ t0
  have t2 : enD B l (skB B l (enW B l a)) ≤ l := rnT_le _ _ _ t1
  have t3 : skB B l (enD B l (skB B l (enW B l a))) ≤ l := rnT_le _ _ _ t2
  have t4 : enW B l (skB B l (enD B l (skB B l (enW B l a)))) ≤ l := rnT_le _ _ _ t3
  have u0 : a ≤ enW B l a := rnT_ge' _ _ _
  have u1 : enW B l a ≤ skB B l (enW B l a) := rnT_ge' _ _ _
  have u2 : skB B l (enW B l a) ≤ enD B l (skB B l (enW B l a)) := rnT_ge' _ _ _
  have u3 : enD B l (skB B l (enW B l a)) ≤ skB B l (enD B l (skB B l (enW B l a))) := rnT_ge' _ _ _
  have u4 : skB B l (enD B l (skB B l (enW B l a))) ≤ enW B l (skB B l (enD B l (skB B l (enW B l a)))) := rnT_ge' _ _ _
  have g10 : ∀ e ft, gI (dh z e ft n K A T G) 10 0 = nI n := fun _ _ => rfl
  rw [(J31_c a (enW B l a) n K A T G).2.2]
  have hM : ∀ y X W, MG B l a n y X W → ∃ X2 W2, fM_wantClause (mh y X W K' A' T' G') = Option.bind (ob2 (fM_wantNumber (mh y X2 W2 K' A' T' G') 0 (nI n - 1)) (fun w12 zc12 => Option.bind (fM_wantWord zc12 419) (fun zc20 => fM_wantAway_L30 w12 LF zc20 0 (gI zc20 56 19)))) (fun zc112 => some zc112) ∧ MG B l (skB B l (enW B l a)) n y X2 W2 ∧ kpX X X2 := by
    intro y X W hm
    obtain ⟨X1, W1, q1, q2, q3⟩ := adv_w hm (by omega) (show 3 < 14 by omega) hw K' A' T' G'
    refine ⟨X1, W1, ?_, q2, q3⟩
    obtain ⟨w0, w1, w2, w3, -⟩ := isW_m hm K' A' T' G'
    unfold fM_wantClause
    rw [w0, w1, w2, w3, hn 0 (by omega), hn 1 (by omega), hn 2 (by omega), hw, if_pos iw0, if_pos iw0, if_pos iw0, if_neg iw1]
    unfold fM_wantAway
    rw [q1, obs, mh_gX, q2.2.2.2.2.2]
  by_cases P : ∃ p, nmO B l (skB B l (enW B l a)) = some p ∧ p < n
  · obtain ⟨p, hp, hpn⟩ := P
    have hp8 : p < 8 := by omega
    have c1 := Cnum_ok hz n K A T G t0 (show n ≤ 200 by omega) hp hpn (nI_m1 (show p < 1000 by omega))
    have c2 := Cword hz n K A T G t2 (show 12 < 14 by omega)
    have hM1 : ∀ y X W, MG B l a n y X W → ∃ X2 W2, fM_wantClause (mh y X W K' A' T' G') = Option.bind (Option.bind (fM_wantWord (mh y X2 W2 K' A' T' G') 419) (fun zc20 => fM_wantAway_L30 (nI p) LF zc20 0 (gI zc20 56 19))) (fun zc112 => some zc112) ∧ MG B l (skB B l (enD B l (skB B l (enW B l a)))) n y X2 W2 ∧ kpX X X2 := by
      intro y X W hm
      obtain ⟨X2, W2, q1, q2, q3⟩ := hM y X W hm
      obtain ⟨X3, W3, r1, r2, r3⟩ := Mnum_ok q2.1 K' A' T' G' t1 (show n ≤ 200 by omega) q2.2.2.1 q2.2.2.2.1 q2.2.2.2.2.1 hp hpn
      refine ⟨X3, W3, ?_, MG_s q2 r3 r2, kpX_t q3 (kpX_k r3)⟩
      rw [q1, r1, ob2s]
    cases cw : wB B l (skB B l (enD B l (skB B l (enW B l a)))) 12 with
    | false =>
      rw [cw, if_neg ftn] at c2
      obtain ⟨e3, he3, c3⟩ := awF' hz n K A T G (show enW B l (skB B l (enD B l (skB B l (enW B l a)))) < 500 by omega) (show skB B l (enD B l (skB B l (enW B l a))) < 1000 by omega) (nI p)
      have cc : fTape_readAway (dh z (enW B l a) (-1) n K A T G) = some (dh z e3 (nI (skB B l (enD B l (skB B l (enW B l a))))) n K A T G) := by
        unfold fTape_readAway
        rw [g10, c1, ob2s, c2, obs, c3]
      obtain ⟨e, he, c4⟩ := J139_b hz n K A T G he3 (show skB B l (enD B l (skB B l (enW B l a))) < 1000 by omega)
      refine Or.inl ⟨e, skB B l (enD B l (skB B l (enW B l a))), n, K, A, T, G, he, by omega, by rw [cc, obs, c4], ?_⟩
      intro y X W hm
      obtain ⟨X2, W2, q1, q2, q3⟩ := hM1 y X W hm
      refine ⟨upd X2 19 0, W2, K', A', T', G', ?_, MB_u q2 q3⟩
      have hb := (Mword q2.1 K' A' T' G' t3 q2.2.2.1 q2.2.2.2.1 q2.2.2.2.2.1 (show 12 < 14 by omega)).2 cw
      rw [lits.2.2.2.2.2.2.2.2.2.2.2.2.1] at hb
      rw [q1, hb, obs, L30_b' K' A' T' G' (upd_eq _ _ _), obs]
    | true =>
      rw [cw, if_pos rfl] at c2
      have hA0 : awU A p 0 = A := by
        unfold awU
        rw [or0, upd_same A p _ rfl]
      have hM2 : ∀ y X W, MG B l a n y X W → ∃ X2 W2, fM_wantClause (mh y X W K' A' T' G') = Option.bind (fM_wantAway_L30 (nI p) LF (mh y X2 W2 K' A' T' G') 0 1) (fun zc112 => some zc112) ∧ MG B l (skB B l (enW B l (skB B l (enD B l (skB B l (enW B l a)))))) n y X2 W2 ∧ kpX X X2 := by
        intro y X W hm
        obtain ⟨X2, W2, q1, q2, q3⟩ := hM1 y X W hm
        obtain ⟨X3, W3, r1, r2, r3⟩ := (Mword q2.1 K' A' T' G' t3 q2.2.2.1 q2.2.2.2.1 q2.2.2.2.2.1 (show 12 < 14 by omega)).1 cw
        have m3 := MG_s q2 r3 r2
        rw [lits.2.2.2.2.2.2.2.2.2.2.2.2.1] at r1
        refine ⟨X3, W3, ?_, m3, kpX_t q3 (kpX_k r3)⟩
        rw [q1, r1, obs, mh_gX, m3.2.2.2.2.1]
      have hloop := aw_loop hz (n := n) hp8 K T G K' A' T' G' (A := A) (hd.2.1.2.2.2.2.2.1 p hp8) 201 (enW B l (skB B l (enD B l (skB B l (enW B l a))))) 0 LF 0 (by omega) (by decide) t4 (by omega) (lt_nI (n := 0) (by decide) (by decide))
      rw [hA0] at hloop
      generalize enW B l (skB B l (enD B l (skB B l (enW B l a)))) = b at *
      rcases hloop with ⟨e2, ft, A2, h1, h2, h3, h4⟩ | ⟨b2, m2, h1, h2, h3, h4, h5⟩
      · have cc : fTape_readAway (dh z (enW B l a) (-1) n K A T G) = some (dh z e2 (nI ft) n K A2 T G) := by
          unfold fTape_readAway
          rw [g10, c1, ob2s, c2, obs]
          exact h3
        obtain ⟨e, he, c4⟩ := J139_b hz n K A2 T G h1 h2
        refine Or.inl ⟨e, ft, n, K, A2, T, G, he, h2, by rw [cc, obs, c4], ?_⟩
        intro y X W hm
        obtain ⟨X2, W2, q1, q2, q3⟩ := hM2 y X W hm
        obtain ⟨X3, W3, r1, r2⟩ := h4 LF y X2 W2 (by decide) q2
        refine ⟨X3, W3, K', A', T', G', ?_, r2.1, r2.2.1, kpX_t q3 r2.2.2⟩
        rw [q1, r1, obs]
      · have cc : fTape_readAway (dh z (enW B l a) (-1) n K A T G) = some (dh z b2 (-1) n K (awU A p m2) T G) := by
          unfold fTape_readAway
          rw [g10, c1, ob2s, c2, obs]
          exact h4
        rw [cc, obs, J139_g hz n K (awU A p m2) T G h2]
        have hsl2 : skB B l b2 ≤ l := rnT_le _ _ _ h2
        have hge2 : b2 ≤ skB B l b2 := rnT_ge' _ _ _
        have hM3 : ∀ y X W, MG B l a n y X W → ∃ X2 W2, fM_wantClause (mh y X W K' A' T' G') = Option.bind (fM_wantAway_J102 (mh y X2 W2 K' A' T' G') (nI p) m2) (fun zc112 => some zc112) ∧ MG B l (skB B l b2) n y X2 W2 ∧ kpX X X2 := by
          intro y X W hm
          obtain ⟨X2, W2, q1, q2, q3⟩ := hM2 y X W hm
          obtain ⟨X3, W3, r1, r2, r3⟩ := h5 LF y X2 W2 (by decide) q2
          refine ⟨X3, W3, ?_, r2, kpX_t q3 r3⟩
          rw [q1, r1]
        generalize skB B l b2 = s at *
        cases ce : enB B l s with
        | true =>
          have hsl : s < l := by
            unfold enB at ce
            simp only [Bool.and_eq_true, decide_eq_true_eq] at ce
            exact ce.1
          refine Or.inr ⟨s + 1, n, K, awU A p m2, T, G, K', awU A' p m2, T', G', by omega, by omega, DR_away hd hpn h3, rfl, ?_⟩
          intro y X W hm
          obtain ⟨X2, W2, q1, q2, q3⟩ := hM3 y X W hm
          obtain ⟨X3, W3, r1, r2, r3⟩ := (J102_e q2 hsl2 K' A' T' G' hp8 m2).1 ce
          refine ⟨X3, W3, ?_, r2, kpX_t q3 r3⟩
          rw [q1, r1, obs]
        | false =>
          refine Or.inl ⟨s + 1, s, n, K, awU A p m2, T, G, by omega, by omega, rfl, ?_⟩
          intro y X W hm
          obtain ⟨X2, W2, q1, q2, q3⟩ := hM3 y X W hm
          have r1 := (J102_e q2 hsl2 K' A' T' G' hp8 m2).2 ce
          refine ⟨upd X2 19 0, W2, K', A', T', G', ?_, MB_u q2 q3⟩
          rw [q1, r1, obs]
  · obtain ⟨w, c1⟩ := Cnum_bad hz n K A T G t0 (show n ≤ 200 by omega) (bn := -1) (fun v e1 e2 e3 => P ⟨v, e1, e2⟩)
    obtain ⟨e2, he2, c2⟩ := Cword_b hz n K A T G (show enD B l (skB B l (enW B l a)) < 500 by omega) (show skB B l (enW B l a) < 1000 by omega) (show 12 < 14 by omega)
    obtain ⟨e3, he3, c3⟩ := awF' hz n K A T G he2 (show skB B l (enW B l a) < 1000 by omega) w
    have cc : fTape_readAway (dh z (enW B l a) (-1) n K A T G) = some (dh z e3 (nI (skB B l (enW B l a))) n K A T G) := by
      unfold fTape_readAway
      rw [g10, c1, ob2s, c2, obs, c3]
    obtain ⟨e, he, c4⟩ := J139_b hz n K A T G he3 (show skB B l (enW B l a) < 1000 by omega)
    refine Or.inl ⟨e, skB B l (enW B l a), n, K, A, T, G, he, by omega, by rw [cc, obs, c4], ?_⟩
    intro y X W hm
    obtain ⟨X2, W2, q1, q2, q3⟩ := hM y X W hm
    refine ⟨upd X2 19 0, W2, K', A', T', G', ?_, MB_u q2 q3⟩
    rw [q1, Mnum_bad q2.1 K' A' T' G' (show n ≤ 200 by omega) q2.2.2.1 q2.2.2.2.2.1 (fun v e1 e2 => P ⟨v, e1, e2⟩), ob2s, Mword_b K' A' T' G' (upd_eq _ _ _), obs, L30_b' K' A' T' G' (upd_eq _ _ _), obs]
theorem most_99 (j : Nat) : most j ≤ 99 := by
  unfold most
  split <;> omega
theorem law_s {z : MS} {B : Nat → Int32} {l : Nat} (hz : tpC z B l) {a n : Nat} (ha : a < l) {K A T G K' A' T' G' : Nat → Int32} (hd : DR n K A T G K' A' T' G') {k : Nat} (h4 : 4 ≤ k) (hk : k < 12) (hn : ∀ j, j < k → wB B l a j = false) (hw : wB B l a k = true) : JS z B l a n K' A' T' G' (fTape_readStatement_J31 (dh z a (-1) n K A T G) (nI (enW B l a)) (nI k)) fM_wantClause := by
  have hl := hz.2.2.1
  have hn8 := hd.1
  have t0 : enW B l a ≤ l := rnT_le _ _ _ (by omega)
  have t1 : skB B l (enW B l a) ≤ l := rnT_le _ _ _ t0
  have t2 : enD B l (skB B l (enW B l a)) ≤ l := rnT_le _ _ _ t1
  have t3 : skB B l (enD B l (skB B l (enW B l a))) ≤ l := rnT_le _ _ _ t2
  have u0 : a ≤ enW B l a := rnT_ge' _ _ _
  have u1 : enW B l a ≤ skB B l (enW B l a) := rnT_ge' _ _ _
  have u2 : skB B l (enW B l a) ≤ enD B l (skB B l (enW B l a)) := rnT_ge' _ _ _
  have u3 : enD B l (skB B l (enW B l a)) ≤ skB B l (enD B l (skB B l (enW B l a))) := rnT_ge' _ _ _
  have hj8 : k - 4 < 8 := by omega
  have hm99 := most_99 (k - 4)
  have hmo : cST1.getD (k - 4) 0 = nI (most (k - 4) + 1) - 1 := by
    rw [cST1_most _ hj8]
    exact (pk_sub (a := most (k - 4) + 1) (b := 1) (by omega)).symm
  have g84 : ∀ e ft, gI (dh z e ft n K A T G) 8 4 = ft := fun _ _ => rfl
  have hJ : fTape_readStatement_J31 (dh z a (-1) n K A T G) (nI (enW B l a)) (nI k) = Option.bind (fTape_readLaw (dh z (enW B l a) (-1) n K A T G) (nI (k - 4))) (fun zc => fTape_readStatement_J139 zc) := by
    unfold fTape_readStatement_J31 fTape_readStatement_J62
    rw [if_neg (show ¬ (12 : Int32) ≤ nI k from nI_ge (b := 12) hk (by omega)), dh_at]
    rw [if_neg (show ¬ nI k = 0 from nI_ne (b := 0) (by omega) (by omega) (by omega)), if_neg (show ¬ nI k = 0 from nI_ne (b := 0) (by omega) (by omega) (by omega)), if_neg (show ¬ nI k = 1 from nI_ne (b := 1) (by omega) (by omega) (by omega)), if_neg (show ¬ nI k = 2 from nI_ne (b := 2) (by omega) (by omega) (by omega)), if_neg (show ¬ nI k = 3 from nI_ne (b := 3) (by omega) (by omega) (by omega)), show (4 : Int32) = nI 4 from rfl, pk_sub h4]
  have hM : ∀ y X W, MG B l a n y X W → ∃ X2 W2, fM_wantClause (mh y X W K' A' T' G') = ob2 (fM_wantNumber (mh y X2 W2 K' A' T' G') 0 (nI (most (k - 4) + 1) - 1)) (fun w142 zc142 => Option.bind (fM_wantEnd zc142) (fun zc147 => if (gI zc147 56 19) = 0 then some (pI zc147 69 (k - 4) 0) else some (pI zc147 69 (k - 4) w142))) ∧ MG B l (skB B l (enW B l a)) n y X2 W2 ∧ kpX X X2 := by
    intro y X W hm
    obtain ⟨X1, W1, q1, q2, q3⟩ := adv_w hm (by omega) (show k < 14 by omega) hw K' A' T' G'
    refine ⟨X1, W1, ?_, q2, q3⟩
    obtain ⟨w0, w1, w2, w3, -⟩ := isW_m hm K' A' T' G'
    have hlh := lawH hm K' A' T' G' h4 (by omega) hn (fun _ => hw)
    rw [if_pos hk] at hlh
    have g63 : gI (mh y X1 W1 K' A' T' G') 63 (k - 4) = nI (most (k - 4) + 1) - 1 := by
      show gI y 63 (k - 4) = _
      rw [hm.2.1]
      exact hmo
    unfold fM_wantClause
    rw [w0, w1, w2, w3, hn 0 (by omega), hn 1 (by omega), hn 2 (by omega), hn 3 (by omega), if_pos iw0, if_pos iw0, if_pos iw0, if_pos iw0, hlh, if_neg (nI_pos (by omega)), q1, obs, if_neg (ix_ok hj8 (by omega)), nI_clamp (show k - 4 < 2 ^ 31 by omega), g63]
    have e1 : ∀ x : Option MS, (if (nI (k - 4) < 0 ∨ 8 ≤ k - 4) then none else x) = x := by
      intro x
      have := ix_ok hj8 (by omega)
      rw [nI_clamp (show k - 4 < 2 ^ 31 by omega)] at this
      exact if_neg this
    simp only [e1]
  rw [hJ]
  by_cases P : ∃ v, nmO B l (skB B l (enW B l a)) = some v ∧ v < most (k - 4) + 1
  · obtain ⟨v, hv, hvn⟩ := P
    have hv100 := (nmO_100 hv).1
    have c1 := Cnum_ok hz n K A T G t0 (show most (k - 4) + 1 ≤ 200 by omega) hv hvn (nI_m1 (show v < 1000 by omega))
    have cc : fTape_readLaw (dh z (enW B l a) (-1) n K A T G) (nI (k - 4)) = some (dh z (enD B l (skB B l (enW B l a))) (-1) n K A T (upd G (k - 4) (nI v))) := by
      unfold fTape_readLaw
      rw [if_neg (ix_ok hj8 (by omega)), nI_clamp (show k - 4 < 2 ^ 31 by omega), hmo, c1, ob2s, g84, if_neg m1_nn, dh_G]
      have := ix_ok hj8 (by omega)
      rw [nI_clamp (show k - 4 < 2 ^ 31 by omega)] at this
      exact if_neg this
    rw [cc, obs, J139_g hz n K A T (upd G (k - 4) (nI v)) t2]
    have hM1 : ∀ y X W, MG B l a n y X W → ∃ X2 W2, fM_wantClause (mh y X W K' A' T' G') = Option.bind (fM_wantEnd (mh y X2 W2 K' A' T' G')) (fun zc147 => if (gI zc147 56 19) = 0 then some (pI zc147 69 (k - 4) 0) else some (pI zc147 69 (k - 4) (nI v))) ∧ MG B l (skB B l (enD B l (skB B l (enW B l a)))) n y X2 W2 ∧ kpX X X2 := by
      intro y X W hm
      obtain ⟨X2, W2, q1, q2, q3⟩ := hM y X W hm
      obtain ⟨X3, W3, r1, r2, r3⟩ := Mnum_ok q2.1 K' A' T' G' t1 (show most (k - 4) + 1 ≤ 200 by omega) q2.2.2.1 q2.2.2.2.1 q2.2.2.2.2.1 hv hvn
      refine ⟨X3, W3, ?_, MG_s q2 r3 r2, kpX_t q3 (kpX_k r3)⟩
      rw [q1, r1, ob2s]
    generalize skB B l (enD B l (skB B l (enW B l a))) = s at *
    cases ce : enB B l s with
    | true =>
      have hsl : s < l := by
        unfold enB at ce
        simp only [Bool.and_eq_true, decide_eq_true_eq] at ce
        exact ce.1
      refine Or.inr ⟨s + 1, n, K, A, T, upd G (k - 4) (nI v), K', A', T', upd G' (k - 4) (nI v), by omega, by omega, DR_law hd hj8 hvn hv100, rfl, ?_⟩
      intro y X W hm
      obtain ⟨X2, W2, q1, q2, q3⟩ := hM1 y X W hm
      obtain ⟨X3, W3, r1, r2, r3⟩ := (Mend q2.1 K' A' T' G' t3 q2.2.2.1 q2.2.2.2.1 q2.2.2.2.2.1).1 ce
      have m3 := MG_s q2 r3 r2
      refine ⟨X3, W3, ?_, m3, kpX_t q3 (kpX_k r3)⟩
      rw [q1, r1, obs, mh_gX, m3.2.2.2.2.1, if_neg one_ne, mh_G]
    | false =>
      refine Or.inl ⟨s + 1, s, n, K, A, T, upd G (k - 4) (nI v), by omega, by omega, rfl, ?_⟩
      intro y X W hm
      obtain ⟨X2, W2, q1, q2, q3⟩ := hM1 y X W hm
      have r1 := (Mend q2.1 K' A' T' G' t3 q2.2.2.1 q2.2.2.2.1 q2.2.2.2.2.1).2 ce
      refine ⟨upd X2 19 0, W2, K', A', T', upd G' (k - 4) 0, ?_, MB_u q2 q3⟩
      rw [q1, r1, obs, mh_gX, upd_eq, if_pos rfl, mh_G]
  · obtain ⟨w, c1⟩ := Cnum_bad hz n K A T G t0 (show most (k - 4) + 1 ≤ 200 by omega) (bn := -1) (fun v e1 e2 e3 => P ⟨v, e1, e2⟩)
    have cc : fTape_readLaw (dh z (enW B l a) (-1) n K A T G) (nI (k - 4)) = some (dh z (enD B l (skB B l (enW B l a))) (nI (skB B l (enW B l a))) n K A T G) := by
      unfold fTape_readLaw
      rw [if_neg (ix_ok hj8 (by omega)), nI_clamp (show k - 4 < 2 ^ 31 by omega), hmo, c1, ob2s, g84, if_pos (nn_le (by omega))]
    obtain ⟨e, he, c4⟩ := J139_b hz n K A T G (show enD B l (skB B l (enW B l a)) < 500 by omega) (show skB B l (enW B l a) < 1000 by omega)
    refine Or.inl ⟨e, skB B l (enW B l a), n, K, A, T, G, he, by omega, by rw [cc, obs, c4], ?_⟩
    intro y X W hm
    obtain ⟨X2, W2, q1, q2, q3⟩ := hM y X W hm
    refine ⟨upd X2 19 0, W2, K', A', T', upd G' (k - 4) 0, ?_, MB_u q2 q3⟩
    rw [q1, Mnum_bad q2.1 K' A' T' G' (show most (k - 4) + 1 ≤ 200 by omega) q2.2.2.1 q2.2.2.2.2.1 (fun v e1 e2 => P ⟨v, e1, e2⟩), ob2s, Mend_b K' A' T' G' (upd_eq _ _ _), obs, mh_gX, upd_eq, if_pos rfl, mh_G]
/-- a statement -/
theorem stmt_s {z : MS} {B : Nat → Int32} {l : Nat} (hz : tpC z B l) {a n : Nat} (ha : a < l) {K A T G K' A' T' G' : Nat → Int32} (hd : DR n K A T G K' A' T' G') : JS z B l a n K' A' T' G' (fTape_readStatement (dh z a (-1) n K A T G)) fM_wantClause := by
  have hl := hz.2.2.1
  obtain ⟨k, hk, hn, hy, he⟩ := find_c hz n K A T G (show a < 1000 by omega)
  rw [he]
  rcases (show k = 0 ∨ k = 1 ∨ k = 2 ∨ k = 3 ∨ (4 ≤ k ∧ k < 12) ∨ k = 12 by omega) with rfl | rfl | rfl | rfl | ⟨h1, h2⟩ | rfl
  · exact person_s hz ha hd (hy (by omega))
  · exact kin_s hz ha hd hn (hy (by omega))
  · exact trust_s hz ha hd hn (hy (by omega))
  · exact away_s hz ha hd hn (hy (by omega))
  · exact law_s hz ha hd h1 h2 hn (hy h2)
  · refine Or.inl ⟨a, a, n, K, A, T, G, by omega, by omega, ?_, ?_⟩
    · unfold fTape_readStatement_J31 fTape_readStatement_J53
      rw [if_pos (show (12 : Int32) ≤ nI 12 by decide), (dh_g z a (-1) n K A T G).1, fail_g hz n K A T G (show a ≤ l by omega), obs]
    · intro y X W hm
      refine ⟨upd X 19 0, W, K', A', T', G', ?_, MB_u hm (kpX_r X)⟩
      obtain ⟨w0, w1, w2, w3, -⟩ := isW_m hm K' A' T' G'
      have hlh := lawH hm K' A' T' G' (show 4 ≤ 12 by omega) (by omega) hn hy
      rw [if_neg (by omega)] at hlh
      unfold fM_wantClause
      rw [w0, w1, w2, w3, hn 0 (by omega), hn 1 (by omega), hn 2 (by omega), hn 3 (by omega), if_pos iw0, if_pos iw0, if_pos iw0, if_pos iw0, hlh, if_pos (show (-1 : Int32) < 0 by decide), mh_X]
