theorem J31_c {z : MS} (a e n : Nat) (K A T G : Nat → Int32) : fTape_readStatement_J31 (dh z a (-1) n K A T G) (nI e) (nI 1) = Option.bind (fTape_readKin (dh z e (-1) n K A T G)) (fun zc => fTape_readStatement_J139 zc) ∧ fTape_readStatement_J31 (dh z a (-1) n K A T G) (nI e) (nI 2) = Option.bind (fTape_readTrust (dh z e (-1) n K A T G)) (fun zc => fTape_readStatement_J139 zc) ∧ fTape_readStatement_J31 (dh z a (-1) n K A T G) (nI e) (nI 3) = Option.bind (fTape_readAway (dh z e (-1) n K A T G)) (fun zc => fTape_readStatement_J139 zc) := by
  unfold fTape_readStatement_J31 fTape_readStatement_J62
  rw [dh_at]
  exact ⟨rfl, rfl, rfl⟩
theorem kin_s {z : MS} {B : Nat → Int32} {l : Nat} (hz : tpC z B l) {a n : Nat} (ha : a < l) {K A T G K' A' T' G' : Nat → Int32} (hd : DR n K A T G K' A' T' G') (hn : ∀ j, j < 1 → wB B l a j = false) (hw : wB B l a 1 = true) : JS z B l a n K' A' T' G' (fTape_readStatement_J31 (dh z a (-1) n K A T G) (nI (enW B l a)) (nI 1)) fM_wantClause := by
  have hl := hz.2.2.1
  have hn8 := hd.1
  have t0 : enW B l a ≤ l := rnT_le _ _ _ (by omega)
  have t1 : skB B l (enW B l a) ≤ l := rnT_le _ _ _ t0
  have t2 : enD B l (skB B l (enW B l a)) ≤ l := rnT_le _ _ _ t1
  have t3 : skB B l (enD B l (skB B l (enW B l a))) ≤ l := rnT_le _ _ _ t2
  have t4 : enD B l (skB B l (enD B l (skB B l (enW B l a)))) ≤ l := rnT_le _ _ _ t3
  have t5 : skB B l (enD B l (skB B l (enD B l (skB B l (enW B l a))))) ≤ l := rnT_le _ _ _ t4
  have u0 : a ≤ enW B l a := rnT_ge' _ _ _
  have u1 : enW B l a ≤ skB B l (enW B l a) := rnT_ge' _ _ _
  have u2 : skB B l (enW B l a) ≤ enD B l (skB B l (enW B l a)) := rnT_ge' _ _ _
  have u3 : enD B l (skB B l (enW B l a)) ≤ skB B l (enD B l (skB B l (enW B l a))) := rnT_ge' _ _ _
  have u4 : skB B l (enD B l (skB B l (enW B l a))) ≤ enD B l (skB B l (enD B l (skB B l (enW B l a)))) := rnT_ge' _ _ _
  have u5 : enD B l (skB B l (enD B l (skB B l (enW B l a)))) ≤ skB B l (enD B l (skB B l (enD B l (skB B l (enW B l a))))) := rnT_ge' _ _ _
  have g10 : ∀ e ft, gI (dh z e ft n K A T G) 10 0 = nI n := fun _ _ => rfl
  have g84 : ∀ e ft, gI (dh z e ft n K A T G) 8 4 = ft := fun _ _ => rfl
  rw [(J31_c a (enW B l a) n K A T G).1]
  by_cases P : ∃ p, nmO B l (skB B l (enW B l a)) = some p ∧ p < n
  · obtain ⟨p, hp, hpn⟩ := P
    have c1 := Cnum_ok hz n K A T G t0 (show n ≤ 200 by omega) hp hpn (nI_m1 (show p < 1000 by omega))
    by_cases Q : ∃ q, nmO B l (skB B l (enD B l (skB B l (enW B l a)))) = some q ∧ q < n ∧ q ≠ p
    · obtain ⟨q, hq, hqn, hqp⟩ := Q
      have hpq : p ≠ q := fun e => hqp e.symm
      have c2 := Cnum_ok hz n K A T G t2 (show n ≤ 200 by omega) hq hqn (bn := nI p) (fun e => hqp ((nI_eq (by omega) (by omega)).mp e))
      obtain ⟨w, c3⟩ := setKin_c z (enD B l (skB B l (enD B l (skB B l (enW B l a))))) (-1) n A T G hd.2.1.2.2.1 hd.2.1.2.2.2.1 (show p < 8 by omega) (show q < 8 by omega) hpq
      have cc : fTape_readKin (dh z (enW B l a) (-1) n K A T G) = some (dh z (enD B l (skB B l (enD B l (skB B l (enW B l a))))) (-1) n (kinU K p q) A T G) := by
        unfold fTape_readKin
        rw [g10, c1, ob2s, g10, c2, ob2s, g84, if_neg m1_nn, c3, ob2s]
      rw [cc, obs, J139_g hz n (kinU K p q) A T G t4]
      have hM : ∀ y X W, MG B l a n y X W → ∃ X2 W2, fM_wantClause (mh y X W K' A' T' G') = fM_wantTwo_J75 (mh y X2 W2 K' A' T' G') 0 (nI p) (nI q) 0 ∧ MG B l (skB B l (enD B l (skB B l (enD B l (skB B l (enW B l a)))))) n y X2 W2 ∧ kpX X X2 := by
        intro y X W hm
        obtain ⟨X2, W2, r1, r2, r3⟩ := two_1g hm (by omega) hn8 (show 1 < 14 by omega) hw K' A' T' G' 0 hp hpn
        obtain ⟨X3, W3, s1, s2, s3⟩ := two_2g r2 t3 hn8 K' A' T' G' 0 (nI p) hq hqn
        refine ⟨X3, W3, ?_, s2, kpX_t r3 s3⟩
        rw [two_c hm (Or.inl rfl) hn hw K' A' T' G', if_pos rfl, r1, if_neg (by rw [hq]; exact fun e => hqp (Option.some.inj e)), s1, if_pos rfl]
        cases fM_wantTwo_J75 (mh y X3 W3 K' A' T' G') 0 (nI p) (nI q) 0 <;> rfl
      generalize skB B l (enD B l (skB B l (enD B l (skB B l (enW B l a))))) = s at *
      cases ce : enB B l s with
      | true =>
        have hsl : s < l := by
          unfold enB at ce
          simp only [Bool.and_eq_true, decide_eq_true_eq] at ce
          exact ce.1
        refine Or.inr ⟨s + 1, n, kinU K p q, A, T, G, kinU K' p q, A', T', G', by omega, by omega, DR_kin hd hpn hqn hpq, rfl, ?_⟩
        intro y X W hm
        obtain ⟨X2, W2, q1, q2, q3⟩ := hM y X W hm
        obtain ⟨X3, W3, r1, -, r2, r3⟩ := (two_e q2 t5 K' A' T' G' (show p < 8 by omega) (show q < 8 by omega) hpq 0).1 ce
        exact ⟨X3, W3, q1.trans r1, r2, kpX_t q3 r3⟩
      | false =>
        refine Or.inl ⟨s + 1, s, n, kinU K p q, A, T, G, by omega, by omega, rfl, ?_⟩
        intro y X W hm
        obtain ⟨X2, W2, q1, q2, q3⟩ := hM y X W hm
        have r1 := (two_e q2 t5 K' A' T' G' (show p < 8 by omega) (show q < 8 by omega) hpq 0).2 ce 0 (nI p) (nI q) 0
        exact ⟨upd X2 19 0, W2, K', A', T', G', q1.trans r1, MB_u q2 q3⟩
    · obtain ⟨w, c2⟩ := Cnum_bad hz n K A T G t2 (show n ≤ 200 by omega) (bn := nI p) (fun v e1 e2 e3 => Q ⟨v, e1, e2, fun e => e3 (by rw [e])⟩)
      have cc : fTape_readKin (dh z (enW B l a) (-1) n K A T G) = some (dh z (enD B l (skB B l (enD B l (skB B l (enW B l a))))) (nI (skB B l (enD B l (skB B l (enW B l a))))) n K A T G) := by
        unfold fTape_readKin
        rw [g10, c1, ob2s, g10, c2, ob2s, g84, if_pos (nn_le (by omega))]
      obtain ⟨e, he, c3⟩ := J139_b hz n K A T G (show enD B l (skB B l (enD B l (skB B l (enW B l a)))) < 500 by omega) (show skB B l (enD B l (skB B l (enW B l a))) < 1000 by omega)
      refine Or.inl ⟨e, skB B l (enD B l (skB B l (enW B l a))), n, K, A, T, G, he, by omega, by rw [cc, obs, c3], ?_⟩
      intro y X W hm
      obtain ⟨X2, W2, r1, r2, r3⟩ := two_1g hm (by omega) hn8 (show 1 < 14 by omega) hw K' A' T' G' 0 hp hpn
      refine ⟨upd X2 19 0, W2, K', A', T', G', ?_, MB_u r2 r3⟩
      rw [two_c hm (Or.inl rfl) hn hw K' A' T' G', if_pos rfl, r1]
      by_cases c : nmO B l (skB B l (enD B l (skB B l (enW B l a)))) = some p
      · rw [if_pos c, obs]
      · rw [if_neg c, two_2b r2 hn8 K' A' T' G' 0 (nI p) (fun v e1 e2 => Q ⟨v, e1, e2, fun e => c (by rw [e1, e])⟩), obs]
  · obtain ⟨w, c1⟩ := Cnum_bad hz n K A T G t0 (show n ≤ 200 by omega) (bn := -1) (fun v e1 e2 e3 => P ⟨v, e1, e2⟩)
    obtain ⟨w2, e2, he2, c2⟩ := num_b hz n K A T G (show enD B l (skB B l (enW B l a)) < 500 by omega) (show skB B l (enW B l a) < 1000 by omega) (nI n - 1) w
    have cc : fTape_readKin (dh z (enW B l a) (-1) n K A T G) = some (dh z e2 (nI (skB B l (enW B l a))) n K A T G) := by
      unfold fTape_readKin
      rw [g10, c1, ob2s, g10, c2, ob2s, g84, if_pos (nn_le (by omega))]
    obtain ⟨e, he, c3⟩ := J139_b hz n K A T G he2 (show skB B l (enW B l a) < 1000 by omega)
    refine Or.inl ⟨e, skB B l (enW B l a), n, K, A, T, G, he, by omega, by rw [cc, obs, c3], ?_⟩
    intro y X W hm
    obtain ⟨X2, W2, r1, r2⟩ := two_1b hm (by omega) hn8 (show 1 < 14 by omega) hw K' A' T' G' 0 (fun v e1 e2 => P ⟨v, e1, e2⟩)
    refine ⟨X2, W2, K', A', T', G', ?_, r2⟩
    rw [two_c hm (Or.inl rfl) hn hw K' A' T' G', if_pos rfl, r1, obs]
