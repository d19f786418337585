theorem trust_s {z : MS} {B : Nat → Int32} {l : Nat} (hz : tpC z B l) {a n : Nat} (ha : a < l) {K A T G K' A' T' G' : Nat → Int32} (hd : DR n K A T G K' A' T' G') (hn : ∀ j, j < 2 → wB B l a j = false) (hw : wB B l a 2 = true) : JS z B l a n K' A' T' G' (fTape_readStatement_J31 (dh z a (-1) n K A T G) (nI (enW B l a)) (nI 2)) fM_wantClause := by
  have hl := hz.2.2.1
  have hn8 := hd.1
  have t0 : enW B l a ≤ l := rnT_le _ _ _ (by omega)
  have t1 : skB B l (enW B l a) ≤ l := rnT_le _ _ _ t0
  have t2 : enD B l (skB B l (enW B l a)) ≤ l := rnT_le _ _ _ t1
  have t3 : skB B l (enD B l (skB B l (enW B l a))) ≤ l := rnT_le _ _ _ t2
  have t4 : enD B l (skB B l (enD B l (skB B l (enW B l a)))) ≤ l := rnT_le _ _ _ t3
  have t5 : skB B l (enD B l (skB B l (enD B l (skB B l (enW B l a))))) ≤ l := rnT_le _ _ _ t4
  have u0 : a ≤ enW B l a := rnT_ge' _ _ _
  have u1 : enW B l a ≤ skB B l (enW B l a) := rnT_ge' _ _ _
  have u2 : skB B l (enW B l a) ≤ enD B l (skB B l (enW B l a)) := rnT_ge' _ _ _
  have u3 : enD B l (skB B l (enW B l a)) ≤ skB B l (enD B l (skB B l (enW B l a))) := rnT_ge' _ _ _
  have u4 : skB B l (enD B l (skB B l (enW B l a))) ≤ enD B l (skB B l (enD B l (skB B l (enW B l a)))) := rnT_ge' _ _ _
  have u5 : enD B l (skB B l (enD B l (skB B l (enW B l a)))) ≤ skB B l (enD B l (skB B l (enD B l (skB B l (enW B l a))))) := rnT_ge' _ _ _
  have t6 : enD B l (skB B l (enD B l (skB B l (enD B l (skB B l (enW B l a)))))) ≤ l := rnT_le _ _ _ t5
  have t7 : skB B l (enD B l (skB B l (enD B l (skB B l (enD B l (skB B l (enW B l a))))))) ≤ l := rnT_le _ _ _ t6
  have u6 : skB B l (enD B l (skB B l (enD B l (skB B l (enW B l a))))) ≤ enD B l (skB B l (enD B l (skB B l (enD B l (skB B l (enW B l a)))))) := rnT_ge' _ _ _
  have u7 : enD B l (skB B l (enD B l (skB B l (enD B l (skB B l (enW B l a)))))) ≤ skB B l (enD B l (skB B l (enD B l (skB B l (enD B l (skB B l (enW B l a))))))) := rnT_ge' _ _ _
  have g10 : ∀ e ft, gI (dh z e ft n K A T G) 10 0 = nI n := fun _ _ => rfl
  have g84 : ∀ e ft, gI (dh z e ft n K A T G) 8 4 = ft := fun _ _ => rfl
  rw [(J31_c a (enW B l a) n K A T G).2.1]
  by_cases P : ∃ p, nmO B l (skB B l (enW B l a)) = some p ∧ p < n
  · obtain ⟨p, hp, hpn⟩ := P
    have c1 := Cnum_ok hz n K A T G t0 (show n ≤ 200 by omega) hp hpn (nI_m1 (show p < 1000 by omega))
    by_cases Q : ∃ q, nmO B l (skB B l (enD B l (skB B l (enW B l a)))) = some q ∧ q < n ∧ q ≠ p
    · obtain ⟨q, hq, hqn, hqp⟩ := Q
      have hpq : p ≠ q := fun e => hqp e.symm
      have c2 := Cnum_ok hz n K A T G t2 (show n ≤ 200 by omega) hq hqn (bn := nI p) (fun e => hqp ((nI_eq (by omega) (by omega)).mp e))
      have hM : ∀ y X W, MG B l a n y X W → ∃ X2 W2, fM_wantClause (mh y X W K' A' T' G') = Option.bind (ob2 (fM_wantNumber (mh y X2 W2 K' A' T' G') 0 (nI 10 - 1)) (fun w68 zc68 => fM_wantTwo_J75 zc68 1 (nI p) (nI q) w68)) (fun zc95 => some zc95) ∧ MG B l (skB B l (enD B l (skB B l (enD B l (skB B l (enW B l a)))))) n y X2 W2 ∧ kpX X X2 := by
        intro y X W hm
        obtain ⟨X2, W2, r1, r2, r3⟩ := two_1g hm (by omega) hn8 (show 2 < 14 by omega) hw K' A' T' G' 1 hp hpn
        obtain ⟨X3, W3, s1, s2, s3⟩ := two_2g r2 t3 hn8 K' A' T' G' 1 (nI p) hq hqn
        refine ⟨X3, W3, ?_, s2, kpX_t r3 s3⟩
        rw [two_c hm (Or.inr rfl) hn hw K' A' T' G', if_neg (show ¬ (2 : Nat) = 1 by decide), r1, if_neg (by rw [hq]; exact fun e => hqp (Option.some.inj e)), s1, if_neg one_ne]
      by_cases R : ∃ t, nmO B l (skB B l (enD B l (skB B l (enD B l (skB B l (enW B l a)))))) = some t ∧ t < 10
      · obtain ⟨t, ht, ht10⟩ := R
        have c3 := Cnum_ok hz n K A T G t4 (show 10 ≤ 200 by omega) ht ht10 (nI_m1 (show t < 1000 by omega))
        have h64 := pr_64 (show p < 8 by omega) (show q < 8 by omega)
        have cc : fTape_readTrust (dh z (enW B l a) (-1) n K A T G) = some (dh z (enD B l (skB B l (enD B l (skB B l (enD B l (skB B l (enW B l a))))))) (-1) n K A (upd T (pr p q) (nI t)) G) := by
          unfold fTape_readTrust
          rw [g10, c1, ob2s, g10, c2, ob2s, show (9 : Int32) = nI 10 - 1 by decide, c3, ob2s, g84, if_neg m1_nn, pairOf_nI (show p < 8 by omega) (show q < 8 by omega), if_neg (ix_ok h64 (by omega)), nI_clamp (by omega), dh_T]
        rw [cc, obs, J139_g hz n K A (upd T (pr p q) (nI t)) G t6]
        have hM2 : ∀ y X W, MG B l a n y X W → ∃ X2 W2, fM_wantClause (mh y X W K' A' T' G') = fM_wantTwo_J75 (mh y X2 W2 K' A' T' G') 1 (nI p) (nI q) (nI t) ∧ MG B l (skB B l (enD B l (skB B l (enD B l (skB B l (enD B l (skB B l (enW B l a)))))))) n y X2 W2 ∧ kpX X X2 := by
          intro y X W hm
          obtain ⟨X2, W2, q1, q2, q3⟩ := hM y X W hm
          obtain ⟨X3, W3, r1, r2, r3⟩ := Mnum_ok q2.1 K' A' T' G' t5 (show 10 ≤ 200 by omega) q2.2.2.1 q2.2.2.2.1 q2.2.2.2.2.1 ht ht10
          refine ⟨X3, W3, ?_, MG_s q2 r3 r2, kpX_t q3 (kpX_k r3)⟩
          rw [q1, r1, ob2s]
          cases fM_wantTwo_J75 (mh y X3 W3 K' A' T' G') 1 (nI p) (nI q) (nI t) <;> rfl
        generalize skB B l (enD B l (skB B l (enD B l (skB B l (enD B l (skB B l (enW B l a))))))) = s at *
        cases ce : enB B l s with
        | true =>
          have hsl : s < l := by
            unfold enB at ce
            simp only [Bool.and_eq_true, decide_eq_true_eq] at ce
            exact ce.1
          refine Or.inr ⟨s + 1, n, K, A, upd T (pr p q) (nI t), G, K', A', upd (upd T' (8 * p + q) (nI t)) (8 * q + p) (nI t), G', by omega, by omega, DR_trust hd hpn hqn hpq ht10, rfl, ?_⟩
          intro y X W hm
          obtain ⟨X2, W2, q1, q2, q3⟩ := hM2 y X W hm
          obtain ⟨X3, W3, -, r1, r2, r3⟩ := (two_e q2 t7 K' A' T' G' (show p < 8 by omega) (show q < 8 by omega) hpq t).1 ce
          exact ⟨X3, W3, q1.trans r1, r2, kpX_t q3 r3⟩
        | false =>
          refine Or.inl ⟨s + 1, s, n, K, A, upd T (pr p q) (nI t), G, by omega, by omega, rfl, ?_⟩
          intro y X W hm
          obtain ⟨X2, W2, q1, q2, q3⟩ := hM2 y X W hm
          have r1 := (two_e q2 t7 K' A' T' G' (show p < 8 by omega) (show q < 8 by omega) hpq t).2 ce 1 (nI p) (nI q) (nI t)
          exact ⟨upd X2 19 0, W2, K', A', T', G', q1.trans r1, MB_u q2 q3⟩
      · obtain ⟨w, c3⟩ := Cnum_bad hz n K A T G t4 (show 10 ≤ 200 by omega) (bn := -1) (fun v e1 e2 e3 => R ⟨v, e1, e2⟩)
        have cc : fTape_readTrust (dh z (enW B l a) (-1) n K A T G) = some (dh z (enD B l (skB B l (enD B l (skB B l (enD B l (skB B l (enW B l a))))))) (nI (skB B l (enD B l (skB B l (enD B l (skB B l (enW B l a))))))) n K A T G) := by
          unfold fTape_readTrust
          rw [g10, c1, ob2s, g10, c2, ob2s, show (9 : Int32) = nI 10 - 1 by decide, c3, ob2s, g84, if_pos (nn_le (by omega))]
        obtain ⟨e, he, c4⟩ := J139_b hz n K A T G (show enD B l (skB B l (enD B l (skB B l (enD B l (skB B l (enW B l a)))))) < 500 by omega) (show skB B l (enD B l (skB B l (enD B l (skB B l (enW B l a))))) < 1000 by omega)
        refine Or.inl ⟨e, skB B l (enD B l (skB B l (enD B l (skB B l (enW B l a))))), n, K, A, T, G, he, by omega, by rw [cc, obs, c4], ?_⟩
        intro y X W hm
        obtain ⟨X2, W2, q1, q2, q3⟩ := hM y X W hm
        refine ⟨upd X2 19 0, W2, K', A', T', G', ?_, MB_u q2 q3⟩
        rw [q1, Mnum_bad q2.1 K' A' T' G' (show 10 ≤ 200 by omega) q2.2.2.1 q2.2.2.2.2.1 (fun v e1 e2 => R ⟨v, e1, e2⟩), ob2s, J75_b K' A' T' G' (upd_eq _ _ _), obs]
    · obtain ⟨w, c2⟩ := Cnum_bad hz n K A T G t2 (show n ≤ 200 by omega) (bn := nI p) (fun v e1 e2 e3 => Q ⟨v, e1, e2, fun e => e3 (by rw [e])⟩)
      obtain ⟨w5, e5, he5, c5⟩ := num_b hz n K A T G (show enD B l (skB B l (enD B l (skB B l (enW B l a)))) < 500 by omega) (show skB B l (enD B l (skB B l (enW B l a))) < 1000 by omega) 9 (-1)
      have cc : fTape_readTrust (dh z (enW B l a) (-1) n K A T G) = some (dh z e5 (nI (skB B l (enD B l (skB B l (enW B l a))))) n K A T G) := by
        unfold fTape_readTrust
        rw [g10, c1, ob2s, g10, c2, ob2s, c5, ob2s, g84, if_pos (nn_le (by omega))]
      obtain ⟨e, he, c3⟩ := J139_b hz n K A T G he5 (show skB B l (enD B l (skB B l (enW B l a))) < 1000 by omega)
      refine Or.inl ⟨e, skB B l (enD B l (skB B l (enW B l a))), n, K, A, T, G, he, by omega, by rw [cc, obs, c3], ?_⟩
      intro y X W hm
      obtain ⟨X2, W2, r1, r2, r3⟩ := two_1g hm (by omega) hn8 (show 2 < 14 by omega) hw K' A' T' G' 1 hp hpn
      refine ⟨upd X2 19 0, W2, K', A', T', G', ?_, MB_u r2 r3⟩
      rw [two_c hm (Or.inr rfl) hn hw K' A' T' G', if_neg (show ¬ (2 : Nat) = 1 by decide), r1]
      by_cases c : nmO B l (skB B l (enD B l (skB B l (enW B l a)))) = some p
      · rw [if_pos c, obs]
      · rw [if_neg c, two_2b r2 hn8 K' A' T' G' 1 (nI p) (fun v e1 e2 => Q ⟨v, e1, e2, fun e => c (by rw [e1, e])⟩), obs]
  · obtain ⟨w, c1⟩ := Cnum_bad hz n K A T G t0 (show n ≤ 200 by omega) (bn := -1) (fun v e1 e2 e3 => P ⟨v, e1, e2⟩)
    obtain ⟨w2, e2, he2, c2⟩ := num_b hz n K A T G (show enD B l (skB B l (enW B l a)) < 500 by omega) (show skB B l (enW B l a) < 1000 by omega) (nI n - 1) w
    obtain ⟨w5, e5, he5, c5⟩ := num_b hz n K A T G he2 (show skB B l (enW B l a) < 1000 by omega) 9 (-1)
    have cc : fTape_readTrust (dh z (enW B l a) (-1) n K A T G) = some (dh z e5 (nI (skB B l (enW B l a))) n K A T G) := by
      unfold fTape_readTrust
      rw [g10, c1, ob2s, g10, c2, ob2s, c5, ob2s, g84, if_pos (nn_le (by omega))]
    obtain ⟨e, he, c3⟩ := J139_b hz n K A T G he5 (show skB B l (enW B l a) < 1000 by omega)
    refine Or.inl ⟨e, skB B l (enW B l a), n, K, A, T, G, he, by omega, by rw [cc, obs, c3], ?_⟩
    intro y X W hm
    obtain ⟨X2, W2, r1, r2⟩ := two_1b hm (by omega) hn8 (show 2 < 14 by omega) hw K' A' T' G' 1 (fun v e1 e2 => P ⟨v, e1, e2⟩)
    refine ⟨X2, W2, K', A', T', G', ?_, r2⟩
    rw [two_c hm (Or.inr rfl) hn hw K' A' T' G', if_neg (show ¬ (2 : Nat) = 1 by decide), r1, obs]
