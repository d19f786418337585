theorem awS (w : Int32) (f : Nat) (z : MS) (l3 : Int32) : fTape_readAway_L25 w (f + 1) z 0 l3 = some z := by
  rw [fTape_readAway_L25, if_pos rfl]
  split <;> rfl
theorem awF {z : MS} {B : Nat → Int32} {l : Nat} (hz : tpC z B l) (n : Nat) (K A T G : Nat → Int32) {e ft i : Nat} (he : e < 500) (hf : ft < 1000) (hi : i < 200) (w : Int32) (f : Nat) : ∃ e2, e2 < 500 ∧ fTape_readAway_L25 w (f + 2) (dh z e (nI ft) n K A T G) 1 (nI i) = some (dh z e2 (nI ft) n K A T G) := by
  obtain ⟨w1, e1, he1, c1⟩ := num_b hz n K A T G he hf 9 (-1)
  have hl := hz.2.2.1
  have hs := (skB_lt (B := B) (l := l) (a := e1) (M := 499) (by omega) (by omega)).1
  refine ⟨skB B l e1, by omega, ?_⟩
  have g84 : ∀ e, gI (dh z e (nI ft) n K A T G) 8 4 = nI ft := fun _ => rfl
  rw [fTape_readAway_L25, if_neg (show ¬ (200 : Int32) ≤ nI i from nI_ge (b := 200) hi (by omega)), if_neg one_ne, c1, ob2s, g84, if_pos (nn_le hf)]
  unfold fTape_readAway_J64 fTape_readAway_J92 fTape_readAway_J93
  rw [skipB hz (show e1 < 1000 by omega), obs, g84, if_pos (nn_le hf), if_pos rfl, awS]
theorem awU2 (A : Nat → Int32) (p : Nat) (m b : Int32) : awU (awU A p m) p b = awU A p (m ||| b) := by
  unfold awU
  rw [upd_eq, fa_upd_twice, orA]
theorem J102_b {y : MS} (K A T G : Nat → Int32) {X : Nat → Int32} {W : Nat → Int64} (h19 : X 19 = 0) (l1 l2 : Int32) : fM_wantAway_J102 (mh y X W K A T G) l1 l2 = some (mh y X W K A T G) := by
  unfold fM_wantAway_J102
  rw [Mend_b K A T G h19, obs, mh_gX, h19, if_pos rfl]
theorem L30_b {y : MS} (K A T G : Nat → Int32) {X : Nat → Int32} {W : Nat → Int64} (h19 : X 19 = 0) (w l2 l3 : Int32) (f : Nat) : fM_wantAway_L30 w (f + 1) (mh y X W K A T G) l2 l3 = some (mh y X W K A T G) := by
  rw [fM_wantAway_L30, mh_gX, h19, if_pos rfl, J102_b K A T G h19]
theorem aw_loop {z : MS} {B : Nat → Int32} {l : Nat} (hz : tpC z B l) {n p : Nat} (hp : p < 8) (K T G K' A' T' G' : Nat → Int32) {A : Nat → Int32} (hA : lt (A p) (2 ^ 10)) : ∀ (e b i f : Nat) (m : Int32), l - b < e → e + 2 < f → b ≤ l → 2 * i ≤ b → lt m (2 ^ 10) →
    (∃ e2 ft A2, e2 < 500 ∧ ft < 1000 ∧ fTape_readAway_L25 (nI p) f (dh z b (-1) n K (awU A p m) T G) 1 (nI i) = some (dh z e2 (nI ft) n K A2 T G) ∧ ∀ g y X W, e + 2 < g → MG B l (skB B l b) n y X W → ∃ X2 W2, fM_wantAway_L30 (nI p) g (mh y X W K' A' T' G') m 1 = some (mh y X2 W2 K' A' T' G') ∧ MB ft X X2) ∨
    (∃ b2 m2, b ≤ b2 ∧ b2 ≤ l ∧ lt m2 (2 ^ 10) ∧ fTape_readAway_L25 (nI p) f (dh z b (-1) n K (awU A p m) T G) 1 (nI i) = some (dh z b2 (-1) n K (awU A p m2) T G) ∧ ∀ g y X W, e + 2 < g → MG B l (skB B l b) n y X W → ∃ X2 W2, fM_wantAway_L30 (nI p) g (mh y X W K' A' T' G') m 1 = fM_wantAway_J102 (mh y X2 W2 K' A' T' G') (nI p) m2 ∧ MG B l (skB B l b2) n y X2 W2 ∧ kpX X X2) := by
  have hl := hz.2.2.1
  intro e
  induction e with
  | zero => intro b i f m h; omega
  | succ e ih =>
    intro b i f m he hf hb hi hm
    obtain ⟨f, rfl⟩ : ∃ k, f = k + 1 := ⟨f - 1, by omega⟩
    have t1 : skB B l b ≤ l := rnT_le _ _ _ hb
    have t2 : enD B l (skB B l b) ≤ l := rnT_le _ _ _ t1
    have t3 : skB B l (enD B l (skB B l b)) ≤ l := rnT_le _ _ _ t2
    have t4 : enW B l (skB B l (enD B l (skB B l b))) ≤ l := rnT_le _ _ _ t3
    have u1 : b ≤ skB B l b := rnT_ge' _ _ _
    have u2 : skB B l b ≤ enD B l (skB B l b) := rnT_ge' _ _ _
    have u3 : enD B l (skB B l b) ≤ skB B l (enD B l (skB B l b)) := rnT_ge' _ _ _
    have g84 : ∀ e ft A, gI (dh z e ft n K A T G) 8 4 = ft := fun _ _ _ => rfl
    have hC : fTape_readAway_L25 (nI p) (f + 1) (dh z b (-1) n K (awU A p m) T G) 1 (nI i) = ob2 (fTape_readNumber (dh z b (-1) n K (awU A p m) T G) (nI 10 - 1) (-1)) (fun w40 zc40 => if 0 ≤ (gI zc40 8 4) then fTape_readAway_J64 zc40 (fTape_readAway_L25 (nI p) f) (nI i) else ob2 (fHouse10_setAway zc40 (nI p) w40 1) (fun w60 zc60 => fTape_readAway_J64 zc60 (fTape_readAway_L25 (nI p) f) (nI i))) := by
      rw [fTape_readAway_L25, if_neg (show ¬ (200 : Int32) ≤ nI i from nI_ge (b := 200) (by omega) (by omega)), if_neg one_ne]
      rfl
    have hM : ∀ g y X W, X 19 = 1 → fM_wantAway_L30 (nI p) (g + 1) (mh y X W K' A' T' G') m 1 = ob2 (fM_wantNumber (mh y X W K' A' T' G') 0 (nI 10 - 1)) (fun w45 zc45 => if (gI zc45 56 19) = 0 then fM_wantAway_J66 zc45 (fM_wantAway_L30 (nI p) g) m 0 else fM_wantAway_J66 zc45 (fM_wantAway_L30 (nI p) g) m ((1 : Int32) <<< (w45 &&& 31))) := by
      intro g y X W h19
      rw [fM_wantAway_L30, mh_gX, h19, if_neg one_ne, if_neg one_ne]
      rfl
    by_cases R : ∃ d, nmO B l (skB B l b) = some d ∧ d < 10
    · obtain ⟨d, hd, hd10⟩ := R
      have hdig := nmO_100 hd
      have u2' : skB B l b < enD B l (skB B l b) := by
        have h1 : enD B l (skB B l b) = enD B l (skB B l b + 1) := rnT_y hdig.2.1 hdig.2.2
        have h2 : skB B l b + 1 ≤ enD B l (skB B l b + 1) := rnT_ge' _ _ _
        omega
      have c1 := Cnum_ok hz n K (awU A p m) T G hb (show 10 ≤ 200 by omega) hd hd10 (nI_m1 (show d < 1000 by omega))
      have hAm : lt (awU A p m p) 1024 := by
        unfold awU
        rw [upd_eq]
        exact orL (k := 10) (by omega) hA hm
      obtain ⟨w, c2⟩ := setAway_c z (enD B l (skB B l b)) (-1) n K T G hp hAm hd10
      rw [awU2] at c2
      have hm2 : lt (m ||| bB d) (2 ^ 10) := orL (by omega) hm (bB_lt hd10)
      have hC2 : fTape_readAway_L25 (nI p) (f + 1) (dh z b (-1) n K (awU A p m) T G) 1 (nI i) = if wB B l (skB B l (enD B l (skB B l b))) 13 = true then fTape_readAway_L25 (nI p) f (dh z (enW B l (skB B l (enD B l (skB B l b)))) (-1) n K (awU A p (m ||| bB d)) T G) 1 (nI (i + 1)) else some (dh z (skB B l (enD B l (skB B l b))) (-1) n K (awU A p (m ||| bB d)) T G) := by
        rw [hC, c1, ob2s, g84, if_neg m1_nn, c2, ob2s]
        unfold fTape_readAway_J64 fTape_readAway_J92 fTape_readAway_J93
        rw [skipB hz (show enD B l (skB B l b) < 1000 by omega), obs, g84, if_neg m1_nn, endW hz (show skB B l (enD B l (skB B l b)) < 1000 by omega), obs, standsC hz (show skB B l (enD B l (skB B l b)) < 1000 by omega) (-1) n K _ T G (show 13 < 14 by omega), obs]
        obtain ⟨f, rfl⟩ : ∃ k, f = k + 1 := ⟨f - 1, by omega⟩
        cases cw : wB B l (skB B l (enD B l (skB B l b))) 13 with
        | false => rw [if_pos iw0, if_pos rfl, awS, if_neg ftn]
        | true => rw [if_neg iw1, if_neg one_ne, Cword hz n K _ T G t3 (show 13 < 14 by omega), obs, skB_skB, cw, if_pos rfl, if_pos rfl, nI_s]
      have hM2 : ∀ g y X W, MG B l (skB B l b) n y X W → ∃ X2 W2, fM_wantAway_L30 (nI p) (g + 2) (mh y X W K' A' T' G') m 1 = (if wB B l (skB B l (enD B l (skB B l b))) 13 = true then Option.bind (fM_advance (mh y X2 W2 K' A' T' G')) (fun zc96 => fM_wantAway_L30 (nI p) (g + 1) zc96 (m ||| bB d) 1) else fM_wantAway_J102 (mh y X2 W2 K' A' T' G') (nI p) (m ||| bB d)) ∧ MG B l (skB B l (enD B l (skB B l b))) n y X2 W2 ∧ kpX X X2 := by
        intro g y X W hx
        obtain ⟨X2, W2, r1, r2, r3⟩ := Mnum_ok hx.1 K' A' T' G' t1 (show 10 ≤ 200 by omega) hx.2.2.1 hx.2.2.2.1 hx.2.2.2.2.1 hd hd10
        have m2 := MG_s hx r3 r2
        refine ⟨X2, W2, ?_, m2, kpX_k r3⟩
        obtain ⟨w0, w1, w2, w3, w4, w5, w6, w7, w8, w9, w10, w11, w13⟩ := isW_m m2 K' A' T' G'
        rw [hM (g + 1) y X W hx.2.2.2.2.1, r1, ob2s, mh_gX, m2.2.2.2.2.1, if_neg one_ne]
        unfold fM_wantAway_J66 fM_wantAway_J89 fM_wantAway_J90
        rw [mh_gX, m2.2.2.2.2.1, if_neg one_ne, w13]
        cases cw : wB B l (skB B l (enD B l (skB B l b))) 13 with
        | false =>
          rw [if_pos iw0, if_pos rfl, if_neg ftn, fM_wantAway_L30, mh_gX, m2.2.2.2.2.1, if_neg one_ne, if_pos rfl]
          rfl
        | true =>
          rw [if_neg iw1, if_neg one_ne, if_pos rfl]
          rfl
      cases cw : wB B l (skB B l (enD B l (skB B l b))) 13 with
      | false =>
        rw [cw, if_neg ftn] at hC2
        refine Or.inr ⟨skB B l (enD B l (skB B l b)), m ||| bB d, by omega, t3, hm2, hC2, ?_⟩
        intro g y X W hg hx
        obtain ⟨g, rfl⟩ : ∃ k, g = k + 2 := ⟨g - 2, by omega⟩
        obtain ⟨X2, W2, q1, q2, q3⟩ := hM2 g y X W hx
        rw [cw, if_neg ftn] at q1
        refine ⟨X2, W2, q1, ?_, q3⟩
        rw [skB_skB]
        exact q2
      | true =>
        rw [cw, if_pos rfl] at hC2
        have u4 := (tE_w (show 13 < 14 by omega) cw).2
        have hM3 : ∀ g y X W, MG B l (skB B l b) n y X W → ∃ X2 W2, fM_wantAway_L30 (nI p) (g + 2) (mh y X W K' A' T' G') m 1 = fM_wantAway_L30 (nI p) (g + 1) (mh y X2 W2 K' A' T' G') (m ||| bB d) 1 ∧ MG B l (skB B l (enW B l (skB B l (enD B l (skB B l b))))) n y X2 W2 ∧ kpX X X2 := by
          intro g y X W hx
          obtain ⟨X2, W2, q1, q2, q3⟩ := hM2 g y X W hx
          rw [cw, if_pos rfl] at q1
          obtain ⟨X3, W3, r1, r2, r3⟩ := adv_w q2 t3 (show 13 < 14 by omega) cw K' A' T' G'
          refine ⟨X3, W3, ?_, r2, kpX_t q3 r3⟩
          rw [q1, r1, obs]
        rcases ih (enW B l (skB B l (enD B l (skB B l b)))) (i + 1) f (m ||| bB d) (by omega) (by omega) t4 (by omega) hm2 with ⟨e2, ft, A2, h1, h2, h3, h4⟩ | ⟨b2, m2, h1, h2, h3, h4, h5⟩
        · refine Or.inl ⟨e2, ft, A2, h1, h2, hC2.trans h3, ?_⟩
          intro g y X W hg hx
          obtain ⟨g, rfl⟩ : ∃ k, g = k + 2 := ⟨g - 2, by omega⟩
          obtain ⟨X2, W2, q1, q2, q3⟩ := hM3 g y X W hx
          obtain ⟨X3, W3, r1, r2, r3, r4⟩ := h4 (g + 1) y X2 W2 (by omega) q2
          exact ⟨X3, W3, q1.trans r1, r2, r3, kpX_t q3 r4⟩
        · refine Or.inr ⟨b2, m2, by omega, h2, h3, hC2.trans h4, ?_⟩
          intro g y X W hg hx
          obtain ⟨g, rfl⟩ : ∃ k, g = k + 2 := ⟨g - 2, by omega⟩
          obtain ⟨X2, W2, q1, q2, q3⟩ := hM3 g y X W hx
          obtain ⟨X3, W3, r1, r2, r3⟩ := h5 (g + 1) y X2 W2 (by omega) q2
          exact ⟨X3, W3, q1.trans r1, r2, kpX_t q3 r3⟩
    · obtain ⟨w, c1⟩ := Cnum_bad hz n K (awU A p m) T G hb (show 10 ≤ 200 by omega) (bn := -1) (fun v e1 e2 e3 => R ⟨v, e1, e2⟩)
      refine Or.inl ⟨skB B l (enD B l (skB B l b)), skB B l b, awU A p m, by omega, by omega, ?_, ?_⟩
      · obtain ⟨f, rfl⟩ : ∃ k, f = k + 1 := ⟨f - 1, by omega⟩
        rw [hC, c1, ob2s, g84, if_pos (nn_le (by omega))]
        unfold fTape_readAway_J64 fTape_readAway_J92 fTape_readAway_J93
        rw [skipB hz (show enD B l (skB B l b) < 1000 by omega), obs, g84, if_pos (nn_le (by omega)), if_pos rfl, awS]
      · intro g y X W hg hx
        obtain ⟨g, rfl⟩ : ∃ k, g = k + 2 := ⟨g - 2, by omega⟩
        have h19 : upd X 19 0 19 = 0 := upd_eq _ _ _
        refine ⟨upd X 19 0, W, ?_, MB_u hx (kpX_r X)⟩
        rw [hM (g + 1) y X W hx.2.2.2.2.1, Mnum_bad hx.1 K' A' T' G' (show 10 ≤ 200 by omega) hx.2.2.1 hx.2.2.2.2.1 (fun v e1 e2 => R ⟨v, e1, e2⟩), ob2s, mh_gX, h19, if_pos rfl]
        unfold fM_wantAway_J66 fM_wantAway_J89 fM_wantAway_J90
        rw [mh_gX, h19, if_pos rfl, if_pos rfl, L30_b K' A' T' G' h19]
