theorem skB_lt {B : Nat → Int32} {l a M : Nat} (hl : l ≤ M) (ha : a ≤ M) : skB B l a ≤ M ∧ enD B l a ≤ M ∧ enW B l a ≤ M := by
  by_cases c : a ≤ l
  · have h1 : skB B l a ≤ l := rnT_le _ _ _ c
    have h2 : enD B l a ≤ l := rnT_le _ _ _ c
    have h3 : enW B l a ≤ l := rnT_le _ _ _ c
    omega
  · have h1 : skB B l a = a := rnT_n (by omega)
    have h2 : enD B l a = a := rnT_n (by omega)
    have h3 : enW B l a = a := rnT_n (by omega)
    omega
theorem nmO_100 {B : Nat → Int32} {l a v : Nat} (h : nmO B l a = some v) : v < 100 ∧ a < l ∧ isD B a = true := by
  unfold nmO at h
  by_cases c0 : a < l ∧ isD B a = true
  · rw [if_pos c0] at h
    have := isD_d c0.2
    by_cases c1 : a + 1 < l ∧ isD B (a + 1) = true
    · rw [if_pos c1] at h
      have := isD_d c1.2
      by_cases c2 : a + 2 < l ∧ isD B (a + 2) = true
      · rw [if_pos c2] at h; cases h
      · rw [if_neg c2] at h
        have h := Option.some.inj h
        exact ⟨by omega, c0⟩
    · rw [if_neg c1] at h
      have h := Option.some.inj h
      exact ⟨by omega, c0⟩
  · rw [if_neg c0] at h; cases h
theorem le_m {v m : Nat} (hv : v < 100) (hm : m ≤ 200) : (nI v ≤ nI m - 1 ↔ v < m) := by
  rw [Int32.le_iff_toInt_le, show (1 : Int32) = nI 1 from rfl, pk_sub_toInt (by omega) (by omega), nI_toInt (by omega)]
  omega
theorem Cnum_ok {z : MS} {B : Nat → Int32} {l : Nat} (hz : tpC z B l) (n : Nat) (K A T G : Nat → Int32) {a m v : Nat} (ha : a ≤ l) (hm : m ≤ 200) {bn : Int32} (hv : nmO B l (skB B l a) = some v) (h1 : v < m) (h2 : nI v ≠ bn) : fTape_readNumber (dh z a (-1) n K A T G) (nI m - 1) bn = some (nI v, dh z (enD B l (skB B l a)) (-1) n K A T G) :=
  (num_c hz n K A T G ha (nI m - 1) bn).1 v hv ((le_m (nmO_100 hv).1 hm).mpr h1) h2
theorem Cnum_bad {z : MS} {B : Nat → Int32} {l : Nat} (hz : tpC z B l) (n : Nat) (K A T G : Nat → Int32) {a m : Nat} (ha : a ≤ l) (hm : m ≤ 200) {bn : Int32} (hv : ∀ v, nmO B l (skB B l a) = some v → v < m → nI v ≠ bn → False) : ∃ w, fTape_readNumber (dh z a (-1) n K A T G) (nI m - 1) bn = some (w, dh z (enD B l (skB B l a)) (nI (skB B l a)) n K A T G) :=
  (num_c hz n K A T G ha (nI m - 1) bn).2 (fun v e h1 h2 => hv v e ((le_m (nmO_100 e).1 hm).mp h1) h2)
/-- a semicolon stands at s -/
def enB (B : Nat → Int32) (l s : Nat) : Bool := decide (s < l) && decide (cl (B s) = 59)
theorem Cend {z : MS} {B : Nat → Int32} {l : Nat} (hz : tpC z B l) (n : Nat) (K A T G : Nat → Int32) {a : Nat} (ha : a ≤ l) : fTape_readEnd (dh z a (-1) n K A T G) = some (dh z (skB B l a + 1) (if enB B l (skB B l a) then -1 else nI (skB B l a)) n K A T G) := by
  have hl := hz.2.2.1
  have hB := hz.2.2.2
  have hs : skB B l a ≤ l := rnT_le _ _ _ ha
  have hsk := skipB hz (show a < 1000 by omega) (-1) n K A T G
  generalize skB B l a = s at *
  obtain ⟨g3, g4, g2, g9, -⟩ := dh_g z s (-1) n K A T G
  obtain ⟨q3, -⟩ := dh_g z s (nI s) n K A T G
  have hbad : fTape_readEnd_J29 (dh z s (-1) n K A T G) = some (dh z (s + 1) (nI s) n K A T G) := by
    unfold fTape_readEnd_J29 fTape_readEnd_J37
    rw [g3, fail_g hz n K A T G hs, obs, q3, nI_s, dh_at]
  unfold fTape_readEnd
  rw [hsk, obs, g2, g3, g9, hz.1, hz.2.1, hbad]
  unfold enB
  by_cases c : s < l
  · obtain ⟨b1, b2⟩ := by_eq hB (show s < 200 by omega)
    rw [if_neg (nI_ge c (by omega)), if_neg (ix_ok (show s < 200 by omega) (by omega)), nI_clamp (by omega), decide_eq_true c, Bool.true_and]
    by_cases c2 : cl (B s) = 59
    · rw [if_pos (by rw [b1, c2]; rfl), decide_eq_true c2, if_pos rfl]
      unfold fTape_readEnd_J37
      rw [g3, nI_s, dh_at]
    · rw [if_neg (show ¬ B s = 59 from fun h => c2 (by rw [h]; rfl)), decide_eq_false c2, if_neg ftn]
  · rw [if_pos (nI_le (by omega) (by omega)), decide_eq_false c, Bool.false_and, if_neg ftn]
theorem Cend_b {z : MS} {B : Nat → Int32} {l : Nat} (hz : tpC z B l) (n : Nat) (K A T G : Nat → Int32) {a f : Nat} (ha : a < 500) (hf : f < 1000) : ∃ e, e < 600 ∧ fTape_readEnd (dh z a (nI f) n K A T G) = some (dh z e (nI f) n K A T G) := by
  have hl := hz.2.2.1
  have hs := (skB_lt (B := B) (l := l) (a := a) (M := 499) (by omega) (by omega)).1
  have hsk := skipB hz (show a < 1000 by omega) (nI f) n K A T G
  generalize skB B l a = s at *
  obtain ⟨g3, g4, g2, g9, -⟩ := dh_g z s (nI f) n K A T G
  refine ⟨s + 1, by omega, ?_⟩
  have hbad : fTape_readEnd_J29 (dh z s (nI f) n K A T G) = some (dh z (s + 1) (nI f) n K A T G) := by
    unfold fTape_readEnd_J29 fTape_readEnd_J37
    rw [fail_b z s n K A T G hf, obs, g3, nI_s, dh_at]
  have hok : fTape_readEnd_J37 (dh z s (nI f) n K A T G) = some (dh z (s + 1) (nI f) n K A T G) := by
    unfold fTape_readEnd_J37
    rw [g3, nI_s, dh_at]
  unfold fTape_readEnd
  rw [hsk, obs, g2, g3, g9, hz.1, hz.2.1, hbad, hok]
  by_cases c : s < l
  · rw [if_neg (nI_ge c (by omega)), if_neg (ix_ok (show s < 200 by omega) (by omega))]
    by_cases c2 : B (nI s).toNatClampNeg = 59
    · rw [if_pos c2]
    · rw [if_neg c2]
  · rw [if_pos (nI_le (by omega) (by omega))]
theorem Cword {z : MS} {B : Nat → Int32} {l : Nat} (hz : tpC z B l) (n : Nat) (K A T G : Nat → Int32) {a : Nat} (ha : a ≤ l) {si : Nat} (hs : si < 14) : fTape_readWord (dh z a (-1) n K A T G) si = some (dh z (enW B l (skB B l a)) (if wB B l (skB B l a) si then -1 else nI (skB B l a)) n K A T G) := by
  have hl := hz.2.2.1
  have hsl : skB B l a ≤ l := rnT_le _ _ _ ha
  have hsk := skipB hz (show a < 1000 by omega) (-1) n K A T G
  generalize skB B l a = s at *
  obtain ⟨g3, g4, g2, g9, -⟩ := dh_g z s (-1) n K A T G
  unfold fTape_readWord
  rw [hsk, obs, endW hz (show s < 1000 by omega), obs, standsC hz (show s < 1000 by omega) (-1) n K A T G hs, obs]
  cases wB B l s si with
  | false =>
    rw [if_pos (show (if false = true then (1 : Int32) else 0) = 0 from rfl), g3, fail_g hz n K A T G hsl, obs, dh_at, if_neg ftn]
  | true => rw [if_neg (show ¬ (if true = true then (1 : Int32) else 0) = 0 from one_ne), dh_at, if_pos rfl]
theorem Cword_b {z : MS} {B : Nat → Int32} {l : Nat} (hz : tpC z B l) (n : Nat) (K A T G : Nat → Int32) {a f : Nat} (ha : a < 500) (hf : f < 1000) {si : Nat} (hs : si < 14) : ∃ e, e < 500 ∧ fTape_readWord (dh z a (nI f) n K A T G) si = some (dh z e (nI f) n K A T G) := by
  have hl := hz.2.2.1
  have hsl := (skB_lt (B := B) (l := l) (a := a) (M := 499) (by omega) (by omega)).1
  have hsk := skipB hz (show a < 1000 by omega) (nI f) n K A T G
  generalize skB B l a = s at *
  have hel := (skB_lt (B := B) (l := l) (a := s) (M := 499) (by omega) (by omega)).2.2
  refine ⟨enW B l s, by omega, ?_⟩
  unfold fTape_readWord
  rw [hsk, obs, endW hz (show s < 1000 by omega), obs, standsC hz (show s < 1000 by omega) (nI f) n K A T G hs, obs]
  cases wB B l s si with
  | false => rw [if_pos (show (if false = true then (1 : Int32) else 0) = 0 from rfl), fail_b z s n K A T G hf, obs, dh_at]
  | true => rw [if_neg (show ¬ (if true = true then (1 : Int32) else 0) = 0 from one_ne), dh_at]
/-! the model -/
theorem num_sN {B : Nat → Int32} {l a v : Nat} (h : nmO B l a = some v) : sN B l a = 2 ∧ tE B l a = enD B l a := by
  obtain ⟨h1, h2, h3⟩ := nmO_100 h
  have hd := isD_d h3
  have hL : ¬ isL B a = true := fun hL => by
    unfold isL at hL
    simp only [Bool.and_eq_true, decide_eq_true_eq] at hL
    omega
  unfold sN tE
  rw [if_pos h2, if_neg hL, if_pos h3, if_pos h2, if_neg hL, if_pos h3]
  exact ⟨rfl, rfl⟩
theorem Mnum_ok {y : MS} {B : Nat → Int32} {l : Nat} (hy : tpM y B l) (K A T G : Nat → Int32) {a m v : Nat} (ha : a ≤ l) (hm : m ≤ 200) {X : Nat → Int32} {W : Nat → Int64} (ht : tok B l a X W) (h13 : X 13 = nI l) (h19 : X 19 = 1) (hv : nmO B l a = some v) (h1 : v < m) : ∃ X2 W2, fM_wantNumber (mh y X W K A T G) 0 (nI m - 1) = some (nI v, mh y X2 W2 K A T G) ∧ tok B l (skB B l (enD B l a)) X2 W2 ∧ keepX X X2 := by
  obtain ⟨t14, t15, t16, t18, t17⟩ := ht
  obtain ⟨s2, te⟩ := num_sN hv
  have hv1 := (nmO_100 hv).1
  have e18 : X 18 = nI v := by rw [t18]; unfold vI; rw [if_pos s2, hv]; rfl
  have hle : enD B l a ≤ l := rnT_le _ _ _ ha
  obtain ⟨X2, W2, q1, q2, q3⟩ := adv_m hy K A T G hle (upd X 19 1) W (by rw [upd_ne (by decide)]; exact h13) (by rw [upd_ne (by decide), t16, te])
  rw [upd_same X 19 1 h19] at q1 q3
  refine ⟨X2, W2, ?_, q2, q3⟩
  have hin : fM_in (nI v) 0 (nI m - 1) = 1 := by
    unfold fM_in
    rw [if_neg (nI_pos (by omega)), if_neg (Int32.not_lt.mpr ((le_m hv1 hm).mpr h1))]
  unfold fM_wantNumber fM_wantNumber_J35
  rw [mh_gX, h19, if_neg one_ne, t14, s2, if_pos (show nI 2 = 2 from rfl), e18, hin, if_neg one_ne, if_pos (Or.inr rfl), mh_X, mh_gX, upd_eq, if_neg one_ne, upd_same X 19 1 h19, q1, obs]
theorem Mnum_bad {y : MS} {B : Nat → Int32} {l : Nat} (hy : tpM y B l) (K A T G : Nat → Int32) {a m : Nat} (hm : m ≤ 200) {X : Nat → Int32} {W : Nat → Int64} (ht : tok B l a X W) (h19 : X 19 = 1) (hv : ∀ v, nmO B l a = some v → v < m → False) : fM_wantNumber (mh y X W K A T G) 0 (nI m - 1) = some (X 18, mh y (upd X 19 0) W K A T G) := by
  obtain ⟨t14, t15, t16, t18, t17⟩ := ht
  have hJ : fM_wantNumber_J34 (mh y X W K A T G) (X 18) = some (X 18, mh y (upd X 19 0) W K A T G) := by
    unfold fM_wantNumber_J34 fM_wantNumber_J35
    rw [if_pos (Or.inl rfl), mh_X, mh_gX, upd_eq, if_pos rfl]
  unfold fM_wantNumber
  rw [mh_gX, h19, if_neg one_ne, hJ]
  by_cases c : X 14 = 2
  · rw [if_pos c]
    have s2 : sN B l a = 2 := by
      rw [t14] at c
      exact (nI_eq (b := 2) (by unfold sN; repeat' (first | split | omega)) (by omega)).mp c
    have e18 : X 18 = vO (nmO B l a) := by rw [t18]; unfold vI; rw [if_pos s2]
    have hin : fM_in (X 18) 0 (nI m - 1) = 0 := by
      rw [e18]
      cases hn : nmO B l a with
      | none => exact in_lo (by decide)
      | some v =>
        have hv1 := (nmO_100 hn).1
        refine in_hi (show nI m - 1 < nI v from ?_)
        exact Int32.not_le.mp (fun h => hv v hn ((le_m hv1 hm).mp h))
    rw [hin, if_pos rfl]
  · rw [if_neg c]
theorem Mnum_b {y : MS} (K A T G : Nat → Int32) {X : Nat → Int32} {W : Nat → Int64} (h19 : X 19 = 0) (a0 a1 : Int32) : fM_wantNumber (mh y X W K A T G) a0 a1 = some (X 18, mh y X W K A T G) := by
  unfold fM_wantNumber fM_wantNumber_J34 fM_wantNumber_J35
  rw [mh_gX, h19, if_pos rfl, if_pos (Or.inl rfl), mh_X, mh_gX, upd_eq, if_pos rfl, upd_same X 19 0 h19]
theorem Mword {y : MS} {B : Nat → Int32} {l : Nat} (hy : tpM y B l) (K A T G : Nat → Int32) {a : Nat} (ha : a ≤ l) {X : Nat → Int32} {W : Nat → Int64} (ht : tok B l a X W) (h13 : X 13 = nI l) (h19 : X 19 = 1) {si : Nat} (hs : si < 14) : (wB B l a si = true → ∃ X2 W2, fM_wantWord (mh y X W K A T G) (lN (wcd si)) = some (mh y X2 W2 K A T G) ∧ tok B l (skB B l (enW B l a)) X2 W2 ∧ keepX X X2) ∧ (wB B l a si = false → fM_wantWord (mh y X W K A T G) (lN (wcd si)) = some (mh y (upd X 19 0) W K A T G)) := by
  have hw := isWord_m (y := y) K A T G ht hs
  have hcd := (wrdD si hs).2.2.2.2.1
  constructor
  · intro h
    have hle : enW B l a ≤ l := rnT_le _ _ _ ha
    have te : tE B l a = enW B l a := by
      unfold tE
      by_cases c : a < l
      · rw [if_pos c]
        by_cases cL : isL B a = true
        · rw [if_pos cL]
        · have hen : enW B l a = a := rnT_n (fun h => cL h.2)
          unfold wB cdN at h
          rw [hen, Nat.sub_self, if_pos (by omega)] at h
          have h := of_decide_eq_true h
          have : cod (fun i => cl (B (a + i)) - 96) 0 = 0 := rfl
          omega
      · have hen : enW B l a = a := rnT_n (fun h => c h.1)
        rw [if_neg c, hen]
    obtain ⟨X2, W2, q1, q2, q3⟩ := adv_m hy K A T G hle (upd X 19 1) W (by rw [upd_ne (by decide)]; exact h13) (by rw [upd_ne (by decide), ht.2.2.1, te])
    rw [upd_same X 19 1 h19] at q1 q3
    refine ⟨X2, W2, ?_, q2, q3⟩
    unfold fM_wantWord fM_wantWord_J21
    rw [mh_gX, h19, if_neg one_ne, hw, h, if_neg (show ¬ (if true = true then (1 : Int32) else 0) = 0 from one_ne), if_pos (Or.inr rfl), mh_X, mh_gX, upd_eq, if_neg one_ne, upd_same X 19 1 h19, q1, obs]
  · intro h
    unfold fM_wantWord fM_wantWord_J20 fM_wantWord_J21
    rw [mh_gX, h19, if_neg one_ne, hw, h, if_pos (show (if false = true then (1 : Int32) else 0) = 0 from rfl), if_pos (Or.inl rfl), mh_X, mh_gX, upd_eq, if_pos rfl]
theorem Mword_b {y : MS} (K A T G : Nat → Int32) {X : Nat → Int32} {W : Nat → Int64} (h19 : X 19 = 0) (c : Int64) : fM_wantWord (mh y X W K A T G) c = some (mh y X W K A T G) := by
  unfold fM_wantWord fM_wantWord_J20 fM_wantWord_J21
  rw [mh_gX, h19, if_pos rfl, if_pos (Or.inl rfl), mh_X, mh_gX, upd_eq, if_pos rfl, upd_same X 19 0 h19]
theorem Mend {y : MS} {B : Nat → Int32} {l : Nat} (hy : tpM y B l) (K A T G : Nat → Int32) {a : Nat} (ha : a ≤ l) {X : Nat → Int32} {W : Nat → Int64} (ht : tok B l a X W) (h13 : X 13 = nI l) (h19 : X 19 = 1) : (enB B l a = true → ∃ X2 W2, fM_wantEnd (mh y X W K A T G) = some (mh y X2 W2 K A T G) ∧ tok B l (skB B l (a + 1)) X2 W2 ∧ keepX X X2) ∧ (enB B l a = false → fM_wantEnd (mh y X W K A T G) = some (mh y (upd X 19 0) W K A T G)) := by
  obtain ⟨t14, t15, t16, t18, t17⟩ := ht
  obtain ⟨h65, hl, hB⟩ := hy
  have hmk : fM_isMark (mh y X W K A T G) 59 = if enB B l a then 1 else 0 := by
    unfold fM_isMark enB
    rw [mh_gX, t14, t18]
    by_cases c : a < l
    · obtain ⟨b1, b2⟩ := by_eq hB (show a < 200 by omega)
      rw [decide_eq_true c, Bool.true_and]
      by_cases c59 : cl (B a) = 59
      · have hL : ¬ isL B a = true := fun hL => by
          unfold isL at hL
          simp only [Bool.and_eq_true, decide_eq_true_eq] at hL
          omega
        have hD : ¬ isD B a = true := fun hD => by have := isD_d hD; omega
        have s3 : sN B l a = 3 := by unfold sN; rw [if_pos c, if_neg hL, if_neg hD]
        have e18 : vI B l a = 59 := by unfold vI; rw [s3, if_neg (by decide), if_pos c, b1, c59]; rfl
        rw [s3, if_pos (show nI 3 = 3 from rfl), e18, if_pos rfl, decide_eq_true c59, if_pos rfl]
      · rw [decide_eq_false c59, if_neg ftn]
        by_cases c3 : sN B l a = 3
        · have e18 : vI B l a = B a := by unfold vI; rw [c3, if_neg (by decide), if_pos c]
          rw [c3, if_pos (show nI 3 = 3 from rfl), e18, if_neg (show ¬ B a = 59 from fun h => c59 (by rw [h]; rfl))]
        · rw [if_neg (show ¬ nI (sN B l a) = 3 from nI_ne (b := 3) c3 (by unfold sN; repeat' (first | split | omega)) (by omega))]
    · have s0 : sN B l a = 0 := by unfold sN; rw [if_neg c]
      rw [s0, if_neg (show ¬ nI 0 = 3 by decide), decide_eq_false c, Bool.false_and, if_neg ftn]
  constructor
  · intro h
    have h' := h
    unfold enB at h'
    simp only [Bool.and_eq_true, decide_eq_true_eq] at h'
    have te : tE B l a = a + 1 := by
      unfold tE
      rw [if_pos h'.1, if_neg (fun hL => by unfold isL at hL; simp only [Bool.and_eq_true, decide_eq_true_eq] at hL; omega), if_neg (fun hD => by have := isD_d hD; omega)]
    obtain ⟨X2, W2, q1, q2, q3⟩ := adv_m (y := y) ⟨h65, hl, hB⟩ K A T G (show a + 1 ≤ l by omega) (upd X 19 1) W (by rw [upd_ne (by decide)]; exact h13) (by rw [upd_ne (by decide), t16, te])
    rw [upd_same X 19 1 h19] at q1 q3
    refine ⟨X2, W2, ?_, q2, q3⟩
    unfold fM_wantEnd fM_wantEnd_J22
    rw [mh_gX, h19, if_neg one_ne, hmk, h, if_neg (show ¬ (if true = true then (1 : Int32) else 0) = 0 from one_ne), if_pos (Or.inr rfl), mh_X, mh_gX, upd_eq, if_neg one_ne, upd_same X 19 1 h19, q1, obs]
  · intro h
    unfold fM_wantEnd fM_wantEnd_J21 fM_wantEnd_J22
    rw [mh_gX, h19, if_neg one_ne, hmk, h, if_pos (show (if false = true then (1 : Int32) else 0) = 0 from rfl), if_pos (Or.inl rfl), mh_X, mh_gX, upd_eq, if_pos rfl]
theorem Mend_b {y : MS} (K A T G : Nat → Int32) {X : Nat → Int32} {W : Nat → Int64} (h19 : X 19 = 0) : fM_wantEnd (mh y X W K A T G) = some (mh y X W K A T G) := by
  unfold fM_wantEnd fM_wantEnd_J21 fM_wantEnd_J22
  rw [mh_gX, h19, if_pos rfl, if_pos (Or.inl rfl), mh_X, mh_gX, upd_eq, if_pos rfl, upd_same X 19 0 h19]
