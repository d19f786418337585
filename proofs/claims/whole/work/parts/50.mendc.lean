theorem okM_n {n : Nat} {u : Int32} {K A T W S : Nat → Int32} {d x : Nat} (h : okM n u K A T W S d x = true) : dgX x 0 < n ∧ dgX x 1 < n ∧ dgX x 2 < n ∧ dgX x 3 < n := by
  unfold okM at h
  simp only [Bool.and_eq_true, decide_eq_true_eq] at h
  exact h.1
theorem okM_f {n : Nat} {u : Int32} {K A T W S : Nat → Int32} {d x j : Nat} (hj : j < 4) (h : n ≤ dgX x j) : okM n u K A T W S d x = false := by
  cases e : okM n u K A T W S d x with
  | false => rfl
  | true =>
    have := okM_n e
    rcases (show j = 0 ∨ j = 1 ∨ j = 2 ∨ j = 3 by omega) with rfl | rfl | rfl | rfl <;> omega
theorem mend39 (z : MS) {n : Nat} (hn : n ≤ 8) {F : Nat → Int32} (h : HV (nI n) (gI z 1 1) (gI z 2) (gI z 3) (gI z 4) (gI z 5) (gI z 6) (gI z 7) F) (e1 : gI z 1 0 = nI n) {d p q : Nat} (hd : d < 10) (hp : p < n) (hq : q < n) (hpq : p ≠ q) (hC1 : mC1 (gI z 2) (gI z 3) (gI z 5) (gI z 6) d p q = true) (D : Int32) :
    ∀ (e b f : Nat), b + e = n → e < f → fWays_mendBy_L39 (nI d) (nI p) (nI q) (nI (pr p q)) (nI (trK (gI z 5) (gI z 6) (gI z 4) (pr p q) d)) ((if gI z 6 (4 * d + 0) = nI p then 0 else 1) + (if gI z 6 (4 * d + 1) = nI q then 0 else 1)) f (wo z d D (bF (okM n (gI z 1 1) (gI z 2) (gI z 3) (gI z 4) (gI z 5) (gI z 6) d) (csN (gI z 6) d) (512 * p + 64 * q + 8 * b))) (nI b) = some (wo z d D (bF (okM n (gI z 1 1) (gI z 2) (gI z 3) (gI z 4) (gI z 5) (gI z 6) d) (csN (gI z 6) d) (512 * p + 64 * q + 64))) := by
  intro e
  induction e with
  | zero =>
    intro b f hb hf
    obtain ⟨f, rfl⟩ : ∃ m, f = m + 1 := ⟨f - 1, by omega⟩
    have hb : b = n := hb
    subst hb
    have g1 : ∀ o, gI (wo z d D o) 1 0 = nI b := fun o => e1
    rw [fWays_mendBy_L39, g1, if_pos (Int32.le_refl _)]
    have := bF_skip (okM b (gI z 1 1) (gI z 2) (gI z 3) (gI z 4) (gI z 5) (gI z 6) d) (csN (gI z 6) d) (512 * p + 64 * q + 8 * b) (64 - 8 * b) (by
      intro x h1 h2
      refine okM_f (j := 2) (by omega) ?_
      show b ≤ x / 8 % 8
      omega)
    rw [show 512 * p + 64 * q + 8 * b + (64 - 8 * b) = 512 * p + 64 * q + 64 by omega] at this
    rw [this]
  | succ e ih =>
    intro b f hb hf
    obtain ⟨f, rfl⟩ : ∃ m, f = m + 1 := ⟨f - 1, by omega⟩
    have g1 : ∀ o, gI (wo z d D o) 1 0 = nI n := fun o => e1
    have hin := mend54 z hn h e1 hd hp hq hpq (show b < n by omega) hC1 D (fWays_mendBy_L39 (nI d) (nI p) (nI q) (nI (pr p q)) (nI (trK (gI z 5) (gI z 6) (gI z 4) (pr p q) d)) ((if gI z 6 (4 * d + 0) = nI p then 0 else 1) + (if gI z 6 (4 * d + 1) = nI q then 0 else 1)) f) n 0 LF (by omega) (by unfold LF; omega)
    rw [Nat.add_zero] at hin
    have hih := ih (b + 1) f (by omega) (by omega)
    rw [show 512 * p + 64 * q + 8 * (b + 1) = 512 * p + 64 * q + 8 * b + 8 by omega] at hih
    rw [fWays_mendBy_L39, g1, if_neg (nI_ge (by omega) (by omega))]
    exact hin.trans hih
theorem maySit_c {c : MS} (hA : ∀ p, p < 8 → lt (gI c 3 p) 1024) (hK : ∀ p, p < 8 → lt (gI c 2 p) 256) {p q d : Nat} (hp : p < 8) (hq : q < 8) (hd : d < 10) : fWays_maySit c (nI p) (nI q) (nI d) = some (if (!kbt (gI c 3 p) d && (!kbt (gI c 3 q) d && !kbt (gI c 2 p) q)) then 1 else 0) := by
  unfold fWays_maySit
  rw [isAway_c hA hp hd, obs, isAway_c hA hq hd, obs, areKin_c hK hp hq, obs]
  cases kbt (gI c 3 p) d <;> cases kbt (gI c 3 q) d <;> cases kbt (gI c 2 p) q <;> rfl
theorem mend20 (z : MS) {n : Nat} (hn : n ≤ 8) {F : Nat → Int32} (h : HV (nI n) (gI z 1 1) (gI z 2) (gI z 3) (gI z 4) (gI z 5) (gI z 6) (gI z 7) F) (e1 : gI z 1 0 = nI n) {d p : Nat} (hd : d < 10) (hp : p < n) (D : Int32) (Kn : MS → Int32 → Option (Int32 × MS)) :
    ∀ (e q f : Nat), q + e = n → e < f → fWays_mend_L20 Kn (nI d) (nI p) f (wo z d D (bF (okM n (gI z 1 1) (gI z 2) (gI z 3) (gI z 4) (gI z 5) (gI z 6) d) (csN (gI z 6) d) (512 * p + 64 * q))) (nI q) = Kn (wo z d D (bF (okM n (gI z 1 1) (gI z 2) (gI z 3) (gI z 4) (gI z 5) (gI z 6) d) (csN (gI z 6) d) (512 * p + 512))) (nI (p + 1)) := by
  obtain ⟨g, hg, eg, cg⟩ := HV_g h
  have hS := HV_SO h
  intro e
  induction e with
  | zero =>
    intro q f hq hf
    obtain ⟨f, rfl⟩ : ∃ m, f = m + 1 := ⟨f - 1, by omega⟩
    have hq : q = n := hq
    subst hq
    have g1 : ∀ o, gI (wo z d D o) 1 0 = nI q := fun o => e1
    rw [fWays_mend_L20, g1, if_pos (Int32.le_refl _), nI_s]
    have := bF_skip (okM q (gI z 1 1) (gI z 2) (gI z 3) (gI z 4) (gI z 5) (gI z 6) d) (csN (gI z 6) d) (512 * p + 64 * q) (512 - 64 * q) (by
      intro x h1 h2
      refine okM_f (j := 1) (by omega) ?_
      show q ≤ x / 64 % 8
      omega)
    rw [show 512 * p + 64 * q + (512 - 64 * q) = 512 * p + 512 by omega] at this
    rw [this]
  | succ e ih =>
    intro q f hq hf
    obtain ⟨f, rfl⟩ : ∃ m, f = m + 1 := ⟨f - 1, by omega⟩
    have hq8 : q < n := by omega
    have hih := ih (q + 1) f (by omega) (by omega)
    rw [show 512 * p + 64 * (q + 1) = 512 * p + 64 * q + 64 by omega] at hih
    have g1 : ∀ o, gI (wo z d D o) 1 0 = nI n := fun o => e1
    have nok : mC1 (gI z 2) (gI z 3) (gI z 5) (gI z 6) d p q = false → bF (okM n (gI z 1 1) (gI z 2) (gI z 3) (gI z 4) (gI z 5) (gI z 6) d) (csN (gI z 6) d) (512 * p + 64 * q + 64) = bF (okM n (gI z 1 1) (gI z 2) (gI z 3) (gI z 4) (gI z 5) (gI z 6) d) (csN (gI z 6) d) (512 * p + 64 * q) := by
      intro hc
      refine bF_skip _ _ _ 64 (fun x h1 h2 => ?_)
      have e0 : dgX x 0 = p := by
        show x / 512 % 8 = p
        omega
      have e2 : dgX x 1 = q := by
        show x / 64 % 8 = q
        omega
      unfold okM
      rw [e0, e2, hc, Bool.false_and, Bool.and_false]
    have ms : ∀ o, fWays_maySit (wo z d D o) (nI p) (nI q) (nI d) = some (if (!kbt (gI z 3 p) d && (!kbt (gI z 3 q) d && !kbt (gI z 2 p) q)) then 1 else 0) := fun o => maySit_c (c := wo z d D o) h.2.2.2.2.2.1 h.2.2.1 (by omega) (by omega) hd
    have sg : ∀ o, fHouse_satInGap (wo z d D o) (nI (pr p q)) (nI d) = some (if gpB (gI z 6) (pr p q) d g then 1 else 0) := fun o => satInGap_c (c := wo z d D o) hS hg eg (pr_64 (by omega) (by omega)) (by omega)
    rw [fWays_mend_L20, g1, if_neg (nI_ge hq8 (by omega)), ms, obs, pairOf_nI (by omega) (by omega), sg, obs, nI_s]
    have hC1 : mC1 (gI z 2) (gI z 3) (gI z 5) (gI z 6) d p q = (decide (¬ p = q) && ((!kbt (gI z 3 p) d && (!kbt (gI z 3 q) d && !kbt (gI z 2 p) q)) && !gpB (gI z 6) (pr p q) d g)) := by
      unfold mC1
      rw [cg]
      cases kbt (gI z 3 p) d <;> cases kbt (gI z 3 q) d <;> cases kbt (gI z 2 p) q <;> rfl
    by_cases cpq : p = q
    · rw [if_pos (by rw [cpq])]
      rw [nok (by rw [hC1, decide_eq_false (fun h => h cpq)]; rfl)] at hih
      exact hih
    · rw [if_neg (nI_ne cpq (by omega) (by omega))]
      rw [decide_eq_true cpq, Bool.true_and] at hC1
      cases f1 : (!kbt (gI z 3 p) d && (!kbt (gI z 3 q) d && !kbt (gI z 2 p) q)) with
      | false =>
        rw [if_pos (show (if false = true then (1 : Int32) else 0) = 0 from rfl)]
        rw [nok (by rw [hC1, f1]; rfl)] at hih
        exact hih
      | true =>
        rw [if_neg (show ¬ (if true = true then (1 : Int32) else 0) = 0 from one_ne)]
        rw [f1, Bool.true_and] at hC1
        cases f2 : gpB (gI z 6) (pr p q) d g with
        | true =>
          rw [if_neg (show ¬ (if true = true then (1 : Int32) else 0) = 0 from one_ne)]
          rw [nok (by rw [hC1, f2]; rfl)] at hih
          exact hih
        | false =>
          rw [if_pos (show (if false = true then (1 : Int32) else 0) = 0 from rfl)]
          rw [f2] at hC1
          generalize ho : bF (okM n (gI z 1 1) (gI z 2) (gI z 3) (gI z 4) (gI z 5) (gI z 6) d) (csN (gI z 6) d) (512 * p + 64 * q) = o at *
          have tr : fJudge_trustOfPair (wo z d D o) (nI (pr p q)) (nI d) = some (nI (trK (gI z 5) (gI z 6) (gI z 4) (pr p q) d)) := by
            have h' : HV (gI z 1 0) (gI z 1 1) (gI z 2) (gI z 3) (gI z 4) (gI z 5) (gI z 6) (gI z 7) F := by rw [e1]; exact h
            exact trust_c (c := wo z d D o) (F := F) h' (by omega) (by omega) cpq (by omega)
          have ch0 : fWays_change (wo z d D o) (nI d) 0 (nI p) = some (if gI z 6 (4 * d + 0) = nI p then 0 else 1) := change_c (c := wo z d D o) hd (show 0 < 4 by omega)
          have ch1 : fWays_change (wo z d D o) (nI d) 1 (nI q) = some (if gI z 6 (4 * d + 1) = nI q then 0 else 1) := change_c (c := wo z d D o) hd (show 1 < 4 by omega)
          have hm := mend39 z hn h e1 hd hp hq8 cpq hC1 D n 0 LF (by omega) (by unfold LF; omega)
          rw [show 512 * p + 64 * q + 8 * 0 = 512 * p + 64 * q from rfl, ho] at hm
          unfold fWays_mendBy
          rw [pairOf_nI (by omega) (by omega), tr, obs, ch0, obs, ch1, obs]
          have hm : fWays_mendBy_L39 (nI d) (nI p) (nI q) (nI (pr p q)) (nI (trK (gI z 5) (gI z 6) (gI z 4) (pr p q) d)) ((if gI z 6 (4 * d + 0) = nI p then 0 else 1) + (if gI z 6 (4 * d + 1) = nI q then 0 else 1)) LF (wo z d D o) 0 = _ := hm
          rw [hm, obs]
          exact hih
theorem mend_c (z : MS) {n : Nat} (hn : n ≤ 8) {F : Nat → Int32} (h : HV (nI n) (gI z 1 1) (gI z 2) (gI z 3) (gI z 4) (gI z 5) (gI z 6) (gI z 7) F) (e1 : gI z 1 0 = nI n) {d : Nat} (hd : d < 10) : fWays_mend z (nI d) = some (if bF (okM n (gI z 1 1) (gI z 2) (gI z 3) (gI z 4) (gI z 5) (gI z 6) d) (csN (gI z 6) d) 4096 = none then 0 else 1, wo z d (gI z 19 6) (bF (okM n (gI z 1 1) (gI z 2) (gI z 3) (gI z 4) (gI z 5) (gI z 6) d) (csN (gI z 6) d) 4096)) := by
  have key : ∀ (e p f : Nat), p + e = n → e < f → fWays_mend_L7 (nI d) f (wo z d (gI z 19 6) (bF (okM n (gI z 1 1) (gI z 2) (gI z 3) (gI z 4) (gI z 5) (gI z 6) d) (csN (gI z 6) d) (512 * p))) (nI p) = some (if bF (okM n (gI z 1 1) (gI z 2) (gI z 3) (gI z 4) (gI z 5) (gI z 6) d) (csN (gI z 6) d) 4096 = none then 0 else 1, wo z d (gI z 19 6) (bF (okM n (gI z 1 1) (gI z 2) (gI z 3) (gI z 4) (gI z 5) (gI z 6) d) (csN (gI z 6) d) 4096)) := by
    intro e
    induction e with
    | zero =>
      intro p f hp hf
      obtain ⟨f, rfl⟩ : ∃ m, f = m + 1 := ⟨f - 1, by omega⟩
      have hp : p = n := hp
      subst hp
      have g1 : ∀ o, gI (wo z d (gI z 19 6) o) 1 0 = nI p := fun o => e1
      have g2 : ∀ o, gI (wo z d (gI z 19 6) o) 19 5 = wC (gI z 6) d o := fun o => rfl
      have := bF_skip (okM p (gI z 1 1) (gI z 2) (gI z 3) (gI z 4) (gI z 5) (gI z 6) d) (csN (gI z 6) d) (512 * p) (4096 - 512 * p) (by
        intro x h1 h2
        refine okM_f (j := 0) (by omega) ?_
        show p ≤ x / 512 % 8
        omega)
      rw [show 512 * p + (4096 - 512 * p) = 4096 by omega] at this
      rw [fWays_mend_L7, g1, if_pos (Int32.le_refl _), g2, ← this]
      cases bF (okM p (gI z 1 1) (gI z 2) (gI z 3) (gI z 4) (gI z 5) (gI z 6) d) (csN (gI z 6) d) 4096 with
      | none => rfl
      | some k =>
        have := csN_le (gI z 6) d k
        rw [if_neg (show ¬ (4 : Int32) < wC (gI z 6) d (some k) from nI_nlt (a := 4) (by omega) (by omega))]
        rfl
    | succ e ih =>
      intro p f hp hf
      obtain ⟨f, rfl⟩ : ∃ m, f = m + 1 := ⟨f - 1, by omega⟩
      have g1 : ∀ o, gI (wo z d (gI z 19 6) o) 1 0 = nI n := fun o => e1
      have hin := mend20 z hn h e1 hd (show p < n by omega) (gI z 19 6) (fWays_mend_L7 (nI d) f) n 0 LF (by omega) (by unfold LF; omega)
      rw [Nat.mul_zero, Nat.add_zero] at hin
      have hih := ih (p + 1) f (by omega) (by omega)
      rw [show 512 * (p + 1) = 512 * p + 512 by omega] at hih
      rw [fWays_mend_L7, g1, if_neg (nI_ge (by omega) (by omega))]
      exact hin.trans hih
  have h0 := key n 0 LF (by omega) (by unfold LF; omega)
  have hm : pI z 19 5 5 = wo z d (gI z 19 6) none := by
    unfold wo wz
    exact (pI_same (pI z 19 5 5) 19 6 (gI z 19 6) rfl).symm
  unfold fWays_mend
  rw [hm]
  exact h0
