theorem loop1 {σ ρ : Type} (X : Nat → σ → Int32 → ρ) (N : Nat) (P : Nat → σ → Prop) (fx : σ → ρ)
    (h1 : ∀ n s i, i < N → P i s → ∃ s2, P (i + 1) s2 ∧ X (n + 1) s (nI i) = X n s2 (nI (i + 1)))
    (h2 : ∀ n s, P N s → X (n + 1) s (nI N) = fx s) :
    ∀ (d i : Nat) (s : σ) (n : Nat), i + d = N → d < n → P i s → ∃ s2, P N s2 ∧ X n s (nI i) = fx s2 := by
  intro d
  induction d with
  | zero =>
    intro i s n hi hn hs
    obtain ⟨m, rfl⟩ : ∃ m, n = m + 1 := ⟨n - 1, by omega⟩
    have hi : i = N := hi
    subst hi
    exact ⟨s, hs, h2 m s hs⟩
  | succ d ih =>
    intro i s n hi hn hs
    obtain ⟨m, rfl⟩ : ∃ m, n = m + 1 := ⟨n - 1, by omega⟩
    obtain ⟨s2, h3, e1⟩ := h1 m s i (by omega) hs
    rw [e1]
    exact ih (i + 1) s2 m (by omega) (by omega) h3
theorem loopK {σ ρ τ : Type} (X : Nat → σ → Int32 → ρ) (Y : Nat → σ → Int32 → τ) (N : Nat) (P : Nat → σ → Prop) (fx : σ → ρ) (fy : σ → τ)
    (h1 : ∀ n s i, i < N → P i s → ∃ s2, P (i + 1) s2 ∧ X (n + 1) s (nI i) = X n s2 (nI (i + 1)) ∧ Y (n + 1) s (nI i) = Y n s2 (nI (i + 1)))
    (h2 : ∀ n s, P N s → X (n + 1) s (nI N) = fx s ∧ Y (n + 1) s (nI N) = fy s) :
    ∀ (d i : Nat) (s : σ) (n : Nat), i + d = N → d < n → P i s → ∃ s2, P N s2 ∧ X n s (nI i) = fx s2 ∧ Y n s (nI i) = fy s2 := by
  intro d
  induction d with
  | zero =>
    intro i s n hi hn hs
    obtain ⟨m, rfl⟩ : ∃ m, n = m + 1 := ⟨n - 1, by omega⟩
    have hi : i = N := hi
    subst hi
    exact ⟨s, hs, h2 m s hs⟩
  | succ d ih =>
    intro i s n hi hn hs
    obtain ⟨m, rfl⟩ : ∃ m, n = m + 1 := ⟨n - 1, by omega⟩
    obtain ⟨s2, h3, e1, e2⟩ := h1 m s i (by omega) hs
    rw [e1, e2]
    exact ih (i + 1) s2 m (by omega) (by omega) h3
/-- the day below; -1 below the first -/
def dn : Nat → Int32
  | 0 => -1
  | e + 1 => nI e
theorem dn_s (e : Nat) : nI e + (-1) = dn e ∧ nI e - 1 = dn e := by
  have h2 : nI e - 1 = dn e := by
    cases e with
    | zero => rfl
    | succ e => exact pk_sub (a := e + 1) (b := 1) (by omega)
  exact ⟨by rw [← h2, Int32.sub_eq_add_neg], h2⟩
theorem dn_neg (e : Nat) (he : e < 100) : (dn e < 0 ↔ e = 0) := by
  cases e with
  | zero => exact ⟨fun _ => rfl, fun _ => by decide⟩
  | succ e => exact ⟨fun h => absurd h (nI_pos (show e < 2 ^ 31 by omega)), fun h => by omega⟩
/-- the last day ahead on which k sat, and 1 more; 0: never -/
def lsN (S : Nat → Int32) (k : Nat) : Nat → Nat
  | 0 => 0
  | d + 1 => if prN S d = k then d + 1 else lsN S k d
theorem lsN_le (S : Nat → Int32) (k d : Nat) : lsN S k d ≤ d := by
  induction d with
  | zero => exact Nat.le_refl 0
  | succ d ih =>
    rw [lsN]
    by_cases c : prN S d = k
    · rw [if_pos c]; exact Nat.le_refl _
    · rw [if_neg c]; omega
theorem lastDay_c {c : MS} (hS : SO (gI c 6)) {k : Nat} (hk : k < 64) {d : Nat} (hd : d ≤ 10) : fHouse_lastDayOf c (nI k) (nI d) = some (dn (lsN (gI c 6) k d)) := by
  have key : ∀ (e n : Nat), e ≤ 10 → e < n → fHouse_lastDayOf_L4 c (nI k) n (dn e) = some (dn (lsN (gI c 6) k e)) := by
    intro e
    induction e with
    | zero =>
      intro n _ hn
      obtain ⟨n, rfl⟩ : ∃ m, n = m + 1 := ⟨n - 1, by omega⟩
      rw [fHouse_lastDayOf_L4, if_pos (show dn 0 < 0 by decide)]
      rfl
    | succ e ih =>
      intro n he hn
      obtain ⟨n, rfl⟩ : ∃ m, n = m + 1 := ⟨n - 1, by omega⟩
      rw [fHouse_lastDayOf_L4, if_neg (fun h => absurd ((dn_neg (e + 1) (by omega)).mp h) (by omega))]
      show Option.bind (fHouse_pairOn c (nI e)) (fun w10 => if w10 = nI k then some (nI e) else fHouse_lastDayOf_L4 c (nI k) n (nI e + (-1))) = _
      rw [pairOn_c hS (by omega), Option.bind, lsN, (dn_s e).1]
      by_cases q : prN (gI c 6) e = k
      · rw [if_pos ((o64_eq (prN_le hS (by omega)) hk).mpr q), if_pos q]
        rfl
      · rw [if_neg (fun h => q ((o64_eq (prN_le hS (by omega)) hk).mp h)), if_neg q]
        exact ih n (by omega) (by omega)
  unfold fHouse_lastDayOf
  rw [(dn_s d).2]
  exact key d LF hd (by unfold LF; omega)
theorem gapI : ∀ d, d < 11 → ∀ g, g < 10 → ∀ e, e < 11 → (nI e < nI d - nI g ↔ e + g < d) := by decide +kernel
/-- k sat on one of g days ahead of d -/
def gpB (S : Nat → Int32) (k d g : Nat) : Bool := decide (¬ lsN S k d = 0 ∧ d + 1 ≤ lsN S k d + g)
theorem HV_g {n u : Int32} {K A T W S O F : Nat → Int32} (h : HV n u K A T W S O F) : ∃ g, g < 10 ∧ W 7 = nI g ∧ cl (W 7) = g := lt_ex (h.2.2.2.2.2.2.2.2.1 7 (by omega))
theorem satInGap_c {c : MS} (hS : SO (gI c 6)) {g : Nat} (hg : g < 10) (hW : gI c 5 7 = nI g) {k : Nat} (hk : k < 64) {d : Nat} (hd : d ≤ 10) : fHouse_satInGap c (nI k) (nI d) = some (if gpB (gI c 6) k d g then 1 else 0) := by
  unfold fHouse_satInGap gpB
  have hle := lsN_le (gI c 6) k d
  rw [lastDay_c hS hk hd, Option.bind, hW]
  generalize lsN (gI c 6) k d = e at *
  cases e with
  | zero => rw [if_pos (show dn 0 < 0 by decide), decide_eq_false (by omega)]; rfl
  | succ e =>
    show (if nI e < 0 then some 0 else (if nI e < nI d - nI g then some 0 else some 1)) = _
    rw [if_neg (nI_pos (by omega))]
    by_cases q : e + g < d
    · rw [if_pos ((gapI d (by omega) g hg e (by omega)).mpr q), decide_eq_false (by omega)]; rfl
    · rw [if_neg (fun h => q ((gapI d (by omega) g hg e (by omega)).mp h)), decide_eq_true (by omega)]; rfl
/-- who is at a post of a day is away -/
def awR (A S : Nat → Int32) (d : Nat) : Nat → Bool
  | 0 => false
  | s + 1 => awR A S d s || (if sv (S (4 * d + s)) = 8 then false else kbt (A (sv (S (4 * d + s)))) d)
def usN (S : Nat → Int32) (d : Nat) : Nat → Nat
  | 0 => 0
  | s + 1 => if sv (S (4 * d + s)) = 8 then usN S d s else usN S d s ||| 2 ^ sv (S (4 * d + s))
/-- somebody is at two of the first posts -/
def twR (S : Nat → Int32) (d : Nat) : Nat → Bool
  | 0 => false
  | s + 1 => twR S d s || (if sv (S (4 * d + s)) = 8 then false else (usN S d s).testBit (sv (S (4 * d + s))))
theorem usN_lt {S : Nat → Int32} (h : SO S) {d : Nat} (hd : d < 10) : ∀ s, s ≤ 4 → usN S d s < 256 := by
  intro s
  induction s with
  | zero => intro _; exact (by decide : 0 < 256)
  | succ s ih =>
    intro hs
    rw [usN]
    have h1 := (SO_sv h (show 4 * d + s < 40 by omega)).2
    by_cases c : sv (S (4 * d + s)) = 8
    · rw [if_pos c]; exact ih (by omega)
    · rw [if_neg c]
      exact Nat.or_lt_two_pow (n := 8) (ih (by omega)) (Nat.pow_lt_pow_right (by decide) (by omega))
theorem isAway_c {c : MS} (hA : ∀ p, p < 8 → lt (gI c 3 p) 1024) {p d : Nat} (hp : p < 8) (hd : d < 10) : fHouse_isAway c (nI p) (nI d) = some (if kbt (gI c 3 p) d then 1 else 0) := by
  unfold fHouse_isAway
  rw [if_neg (ix_ok hp (by omega)), nI_clamp (by omega), getB (hA p hp) (by omega) hd]
  cases kbt (gI c 3 p) d <;> rfl
theorem isAway_m {c : MS} (hA : ∀ p, p < 8 → lt (gI c 58 p) 1024) {p d : Nat} (hp : p < 8) (hd : d < 10) : fM_isAway c (nI p) (nI d) = some (if kbt (gI c 58 p) d then 1 else 0) := by
  unfold fM_isAway
  rw [if_neg (ix_ok hp (by omega)), nI_clamp (by omega), getB (hA p hp) (by omega) hd]
  cases kbt (gI c 58 p) d <;> rfl
theorem awR_mono {A S : Nat → Int32} {d s : Nat} (h : awR A S d s = true) : ∀ e, awR A S d (s + e) = true := by
  intro e
  induction e with
  | zero => exact h
  | succ e ih => rw [show s + (e + 1) = (s + e) + 1 by omega, awR, ih, Bool.true_or]
theorem twR_mono {S : Nat → Int32} {d s : Nat} (h : twR S d s = true) : ∀ e, twR S d (s + e) = true := by
  intro e
  induction e with
  | zero => exact h
  | succ e ih => rw [show s + (e + 1) = (s + e) + 1 by omega, twR, ih, Bool.true_or]
theorem away_c {c : MS} (hS : SO (gI c 6)) (hA : ∀ p, p < 8 → lt (gI c 3 p) 1024) {d : Nat} (hd : d < 10) : fJudge_somebodyIsAway c (nI d) = some (if awR (gI c 3) (gI c 6) d 4 then 1 else 0) := by
  have key : ∀ (e s n : Nat), s + e = 4 → e < n → awR (gI c 3) (gI c 6) d s = false → fJudge_somebodyIsAway_L2 c (nI d) n (nI s) = some (if awR (gI c 3) (gI c 6) d 4 then 1 else 0) := by
    intro e
    induction e with
    | zero =>
      intro s n hi hn ha
      obtain ⟨n, rfl⟩ : ∃ m, n = m + 1 := ⟨n - 1, by omega⟩
      have hi : s = 4 := hi
      subst hi
      rw [fJudge_somebodyIsAway_L2, if_pos (show (4 : Int32) ≤ nI 4 from Int32.le_refl _), ha]
      rfl
    | succ e ih =>
      intro s n hi hn ha
      obtain ⟨n, rfl⟩ : ∃ m, n = m + 1 := ⟨n - 1, by omega⟩
      obtain ⟨e1, e2⟩ := SO_sv hS (show 4 * d + s < 40 by omega)
      rw [fJudge_somebodyIsAway_L2, if_neg (ge4 (show s < 4 by omega)), at_c hd (by omega), Option.bind, nI_s]
      have hs1 : awR (gI c 3) (gI c 6) d (s + 1) = (awR (gI c 3) (gI c 6) d s || (if sv (gI c 6 (4 * d + s)) = 8 then false else kbt (gI c 3 (sv (gI c 6 (4 * d + s)))) d)) := rfl
      by_cases q : sv (gI c 6 (4 * d + s)) = 8
      · rw [q] at e1
        rw [if_pos q, ha] at hs1
        rw [if_pos (show gI c 6 (4 * d + s) = -1 from e1)]
        exact ih (s + 1) n (by omega) (by omega) hs1
      · have hx : sv (gI c 6 (4 * d + s)) < 8 := by omega
        rw [if_neg q, ha, Bool.false_or] at hs1
        rw [o8_lt hx] at e1
        generalize sv (gI c 6 (4 * d + s)) = x at *
        rw [e1, if_neg (o8_ne hx).1, isAway_c hA hx hd, Option.bind]
        cases hh : kbt (gI c 3 x) d with
        | false =>
          rw [if_pos (show (if false = true then (1 : Int32) else 0) = 0 from rfl)]
          exact ih (s + 1) n (by omega) (by omega) (hs1.trans hh)
        | true =>
          rw [if_neg (show ¬ (if true = true then (1 : Int32) else 0) = 0 from one_ne)]
          have := awR_mono (hs1.trans hh) e
          rw [show s + 1 + e = 4 by omega] at this
          rw [this]
          rfl
  exact key 4 0 LF rfl (by decide) rfl
theorem twice_c {c : MS} (hS : SO (gI c 6)) {d : Nat} (hd : d < 10) : fJudge_somebodyIsTwice c (nI d) = some (if twR (gI c 6) d 4 then 1 else 0) := by
  have key : ∀ (e s n : Nat), s + e = 4 → e < n → twR (gI c 6) d s = false → fJudge_somebodyIsTwice_L4 c (nI d) n (nI (usN (gI c 6) d s)) (nI s) = some (if twR (gI c 6) d 4 then 1 else 0) := by
    intro e
    induction e with
    | zero =>
      intro s n hi hn ha
      obtain ⟨n, rfl⟩ : ∃ m, n = m + 1 := ⟨n - 1, by omega⟩
      have hi : s = 4 := hi
      subst hi
      rw [fJudge_somebodyIsTwice_L4, if_pos (show (4 : Int32) ≤ nI 4 from Int32.le_refl _), ha]
      rfl
    | succ e ih =>
      intro s n hi hn ha
      obtain ⟨n, rfl⟩ : ∃ m, n = m + 1 := ⟨n - 1, by omega⟩
      obtain ⟨e1, e2⟩ := SO_sv hS (show 4 * d + s < 40 by omega)
      have hu := usN_lt hS hd s (by omega)
      have hih := ih (s + 1) n (by omega) (by omega)
      rw [fJudge_somebodyIsTwice_L4, if_neg (ge4 (show s < 4 by omega)), at_c hd (by omega), Option.bind, nI_s]
      have hs1 : twR (gI c 6) d (s + 1) = (twR (gI c 6) d s || (if sv (gI c 6 (4 * d + s)) = 8 then false else (usN (gI c 6) d s).testBit (sv (gI c 6 (4 * d + s))))) := rfl
      have hs2 : usN (gI c 6) d (s + 1) = if sv (gI c 6 (4 * d + s)) = 8 then usN (gI c 6) d s else usN (gI c 6) d s ||| 2 ^ sv (gI c 6 (4 * d + s)) := rfl
      by_cases q : sv (gI c 6 (4 * d + s)) = 8
      · rw [q] at e1
        rw [if_pos q, ha] at hs1
        rw [if_pos q] at hs2
        rw [if_pos (show gI c 6 (4 * d + s) = -1 from e1)]
        rw [hs2] at hih
        exact hih hs1
      · have hx : sv (gI c 6 (4 * d + s)) < 8 := by omega
        rw [if_neg q, ha, Bool.false_or] at hs1
        rw [if_neg q] at hs2
        rw [o8_lt hx] at e1
        generalize sv (gI c 6 (4 * d + s)) = x at *
        rw [e1, if_neg (o8_ne hx).1, getB (lt_nI hu (by omega)) (by omega) (show x < 10 by omega)]
        have hk : kbt (nI (usN (gI c 6) d s)) x = (usN (gI c 6) d s).testBit x := by unfold kbt; rw [cl_nI (by omega)]
        rw [hk]
        cases hh : (usN (gI c 6) d s).testBit x with
        | false =>
          rw [if_neg (show ¬ (if false = true then (1 : Int32) else 0) = 1 by decide), one_sh x (by omega), fa_or, ← hs2]
          exact hih (hs1.trans hh)
        | true =>
          rw [if_pos (show (if true = true then (1 : Int32) else 0) = 1 from rfl)]
          have := twR_mono (hs1.trans hh) e
          rw [show s + 1 + e = 4 by omega] at this
          rw [this]
          rfl
  exact key 4 0 LF rfl (by decide) rfl
def brN (u : Int32) (K A T W S : Nat → Int32) (d : Nat) : Nat :=
  if awR A S d 4 then 1 else if twR S d 4 then 2 else if prN S d = 64 then 0 else if kbt (K (prN S d / 8)) (prN S d % 8) then 3 else if gpB S (prN S d) d (cl (W 7)) then 4 else if payB (woD K W S T d (kbt u d)) (W 6) then 5 else 0
theorem brN_lt (u : Int32) (K A T W S : Nat → Int32) (d : Nat) : brN u K A T W S d < 6 := by
  unfold brN
  repeat' (first | omega | split)
theorem brokenOn_c {c : MS} {F : Nat → Int32} (h : HV (gI c 1 0) (gI c 1 1) (gI c 2) (gI c 3) (gI c 4) (gI c 5) (gI c 6) (gI c 7) F) {d : Nat} (hd : d < 10) :
    fJudge_brokenOn c (nI d) = some (nI (brN (gI c 1 1) (gI c 2) (gI c 3) (gI c 4) (gI c 5) (gI c 6) d)) := by
  have hS := HV_SO h
  have hle := prN_le hS hd
  obtain ⟨g, hg, eg, cg⟩ := HV_g h
  unfold fJudge_brokenOn brN
  rw [away_c hS h.2.2.2.2.2.1 hd, Option.bind]
  cases awR (gI c 3) (gI c 6) d 4 with
  | true => rfl
  | false =>
    rw [if_pos (show (if false = true then (1 : Int32) else 0) = 0 from rfl), twice_c hS hd, Option.bind, if_neg ftn]
    cases twR (gI c 6) d 4 with
    | true => rfl
    | false =>
      rw [if_pos (show (if false = true then (1 : Int32) else 0) = 0 from rfl), pairOn_c hS hd, Option.bind, if_neg ftn]
      by_cases hk : prN (gI c 6) d = 64
      · rw [if_pos ((o64_m1 hle).mpr hk), if_pos hk]; rfl
      · have hk64 : prN (gI c 6) d < 64 := by omega
        rw [if_neg (fun e => hk ((o64_m1 hle).mp e)), if_neg hk, o64_lt hk64, (div8 hk64).1, (div8 hk64).2, areKin_c h.2.2.1 (by omega) (by omega), Option.bind]
        cases kbt (gI c 2 (prN (gI c 6) d / 8)) (prN (gI c 6) d % 8) with
        | true => rfl
        | false =>
          rw [if_pos (show (if false = true then (1 : Int32) else 0) = 0 from rfl), satInGap_c hS hg eg hk64 (by omega), Option.bind, if_neg ftn, cg]
          cases gpB (gI c 6) (prN (gI c 6) d) d g with
          | true => rfl
          | false =>
            rw [if_pos (show (if false = true then (1 : Int32) else 0) = 0 from rfl), hasS_c h.2.1 hd, worthIf_c h hd hk, Option.bind, if_neg ftn, isPaying_c]
            cases payB (woD (gI c 2) (gI c 5) (gI c 6) (gI c 4) d (kbt (gI c 1 1) d)) (gI c 5 6) <;> rfl
theorem brokenOn_m {m : MS} {n u : Int32} {K A T W S O : Nat → Int32} (h : HM m n u K A T W S O) {d : Nat} (hd : d < 10) : fM_brokenOn m (nI d) = some (nI (brN u K A T W S d)) := by
  have hS := HV_SO h.1
  have hle := prN_le hS hd
  obtain ⟨g, hg, eg, cg⟩ := HV_g h.1
  have e62 : gI m 62 = W := h.2.2.2.2.2.1
  have e60 : gI m 60 = S := h.2.2.2.2.2.2.1
  have e58 : gI m 58 = A := h.2.2.2.2.1
  have e57 : gI m 57 = K := h.2.2.2.1
  have e56 : gI m 56 5 = u := h.2.2.1
  have hA : ∀ p, p < 8 → lt (gI m 58 p) 1024 := by rw [e58]; exact h.1.2.2.2.2.2.1
  have h158 : prN S d ≠ 64 → fM_brokenOn_J158 m (nI d) = some (nI (if payB (woD K W S T d (kbt u d)) (W 6) then 5 else 0)) := by
    intro hk
    unfold fM_brokenOn_J158
    rw [hasS_m (by rw [e56]; exact h.1.2.1) hd, e56, e62, paysBy_m h hd, Option.bind, paD, if_neg hk]
    cases payB (woD K W S T d (kbt u d)) (W 6) <;> rfl
  have h120 : prN S d ≠ 64 → ∀ (e n : Nat), e ≤ d → e < n → fM_brokenOn_L120 m (nI d) (nI (prN S d)) n (dn e) = if ¬ lsN S (prN S d) e = 0 ∧ d + 1 ≤ lsN S (prN S d) e + g then some 4 else fM_brokenOn_J158 m (nI d) := by
    intro hk e
    induction e with
    | zero =>
      intro n _ hn
      obtain ⟨n, rfl⟩ : ∃ m, n = m + 1 := ⟨n - 1, by omega⟩
      rw [fM_brokenOn_L120, if_pos (show dn 0 < 0 by decide), lsN, if_neg (by omega)]
    | succ e ih =>
      intro n he hn
      obtain ⟨n, rfl⟩ : ∃ m, n = m + 1 := ⟨n - 1, by omega⟩
      rw [fM_brokenOn_L120, if_neg (fun h => absurd ((dn_neg (e + 1) (by omega)).mp h) (by omega))]
      show (if nI e < nI d - gI m 62 7 then fM_brokenOn_J158 m (nI d) else Option.bind (fM_twoOn m (nI e)) (fun w142 => if w142 = nI (prN S d) then some 4 else fM_brokenOn_L120 m (nI d) (nI (prN S d)) n (nI e + (-1)))) = _
      rw [e62, eg]
      have hl := lsN_le S (prN S d) (e + 1)
      by_cases q : e + g < d
      · rw [if_pos ((gapI d (by omega) g hg e (by omega)).mpr q), if_neg (by omega)]
      · rw [if_neg (fun h => q ((gapI d (by omega) g hg e (by omega)).mp h)), two_m h (by omega), Option.bind, (dn_s e).1, lsN]
        by_cases q2 : prN S e = prN S d
        · rw [if_pos ((o64_eq (prN_le hS (by omega)) (by omega)).mpr q2), if_pos q2, if_pos (by omega)]
        · rw [if_neg (fun h => q2 ((o64_eq (prN_le hS (by omega)) (by omega)).mp h)), if_neg q2]
          exact ih n (by omega) (by omega)
  have h7 : ∀ (e s n : Nat), s + e = 4 → e < n → awR A S d s = false → fM_brokenOn_L7 m (nI d) n (nI (usN S d s)) (if twR S d s then 1 else 0) (nI s) = some (nI (brN u K A T W S d)) := by
    intro e
    induction e with
    | zero =>
      intro s n hi hn ha
      obtain ⟨n, rfl⟩ : ∃ m, n = m + 1 := ⟨n - 1, by omega⟩
      have hi : s = 4 := hi
      subst hi
      rw [fM_brokenOn_L7, if_pos (show (4 : Int32) ≤ nI 4 from Int32.le_refl _)]
      unfold brN
      rw [ha, if_neg ftn]
      cases twR S d 4 with
      | true => rfl
      | false =>
        rw [if_pos (show (if false = true then (1 : Int32) else 0) = 0 from rfl), if_neg ftn, two_m h hd, Option.bind]
        by_cases hk : prN S d = 64
        · rw [if_neg (fun e => (o64_neg hle).2.mp e hk), if_pos hk]; rfl
        · have hk64 : prN S d < 64 := by omega
          rw [if_pos ((o64_neg hle).2.mpr hk), if_neg hk, o64_lt hk64, (div8 hk64).1, (div8 hk64).2, areKin_m (by rw [e57]; exact h.1.2.2.1) (by omega) (by omega), Option.bind, e57]
          cases kbt (K (prN S d / 8)) (prN S d % 8) with
          | true => rfl
          | false =>
            rw [if_pos (show (if false = true then (1 : Int32) else 0) = 0 from rfl), (dn_s d).2, h120 hk d LF (Nat.le_refl _) (by unfold LF; omega), if_neg ftn, cg]
            unfold gpB
            by_cases q : ¬ lsN S (prN S d) d = 0 ∧ d + 1 ≤ lsN S (prN S d) d + g
            · rw [if_pos q, decide_eq_true q]; rfl
            · rw [if_neg q, decide_eq_false q, h158 hk, if_neg ftn]
    | succ e ih =>
      intro s n hi hn ha
      obtain ⟨n, rfl⟩ : ∃ m, n = m + 1 := ⟨n - 1, by omega⟩
      obtain ⟨e1, e2⟩ := SO_sv hS (show 4 * d + s < 40 by omega)
      have hu := usN_lt hS hd s (by omega)
      have hih := ih (s + 1) n (by omega) (by omega)
      rw [fM_brokenOn_L7, if_neg (ge4 (show s < 4 by omega)), (sIx hd (show s < 4 by omega)).2, if_neg (ix_ok (show 4 * d + s < 40 by omega) (by omega)), nI_clamp (show 4 * d + s < 2 ^ 31 by omega), e60]
      have hs0 : awR A S d (s + 1) = (awR A S d s || (if sv (S (4 * d + s)) = 8 then false else kbt (A (sv (S (4 * d + s)))) d)) := rfl
      have hs1 : twR S d (s + 1) = (twR S d s || (if sv (S (4 * d + s)) = 8 then false else (usN S d s).testBit (sv (S (4 * d + s))))) := rfl
      have hs2 : usN S d (s + 1) = if sv (S (4 * d + s)) = 8 then usN S d s else usN S d s ||| 2 ^ sv (S (4 * d + s)) := rfl
      by_cases q : sv (S (4 * d + s)) = 8
      · rw [q] at e1
        rw [if_pos q, ha] at hs0
        rw [if_pos q, Bool.or_false] at hs1
        rw [if_pos q] at hs2
        rw [if_pos (show S (4 * d + s) < 0 by rw [e1]; decide), nI_s]
        rw [hs2, hs1] at hih
        exact hih hs0
      · have hx : sv (S (4 * d + s)) < 8 := by omega
        rw [if_neg q, ha, Bool.false_or] at hs0
        rw [if_neg q] at hs1 hs2
        rw [o8_lt hx] at e1
        generalize sv (S (4 * d + s)) = x at *
        rw [e1, if_neg (o8_ne hx).2.1, isAway_m hA hx hd, Option.bind, e58]
        cases hh : kbt (A x) d with
        | true =>
          rw [if_neg (show ¬ (if true = true then (1 : Int32) else 0) = 0 from one_ne)]
          have := awR_mono (hs0.trans hh) e
          rw [show s + 1 + e = 4 by omega] at this
          unfold brN
          rw [this]
          rfl
        | false =>
          rw [if_pos (show (if false = true then (1 : Int32) else 0) = 0 from rfl), getB (lt_nI hu (by omega)) (by omega) (show x < 10 by omega)]
          have hk : kbt (nI (usN S d s)) x = (usN S d s).testBit x := by unfold kbt; rw [cl_nI (by omega)]
          rw [hk]
          have hih := hih (hs0.trans hh)
          rw [hs1, hs2, ← fa_or, ← one_sh x (by omega), ← nI_s] at hih
          unfold fM_brokenOn_J57 fM_brokenOn_J62
          cases h8 : twR S d s with
          | true =>
            rw [if_neg (show ¬ (if true = true then (1 : Int32) else 0) = 0 from one_ne)]
            rw [h8, Bool.true_or, if_pos rfl] at hih
            exact hih
          | false =>
            rw [if_pos (show (if false = true then (1 : Int32) else 0) = 0 from rfl)]
            rw [h8, Bool.false_or] at hih
            cases h9 : (usN S d s).testBit x with
            | true =>
              rw [if_pos (show (if true = true then (1 : Int32) else 0) = 1 from rfl)]
              rw [h9, if_pos rfl] at hih
              exact hih
            | false =>
              rw [if_neg (show ¬ (if false = true then (1 : Int32) else 0) = 1 by decide)]
              rw [h9, if_neg ftn] at hih
              exact hih
  exact h7 4 0 LF rfl (by decide) rfl
theorem o_broken (z : MS) (h : RR z z) (a0 : Int32) : O1 (fT_broken · a0) (fM_broken · a0) z := by
  by_cases h1 : ∃ d, d < 10 ∧ a0 = nI d
  · obtain ⟨d, hd, rfl⟩ := h1
    refine ⟨nI (brN (gI z 1 1) (gI z 2) (gI z 3) (gI z 4) (gI z 5) (gI z 6) d), ?_, ?_⟩
    rotate_left
    · simp only [fM_broken, (day_yes hd).2, one_ne, if_false, brokenOn_m (RR_HM h) hd, Option.bind]
    · simp only [fT_broken, (day_yes hd).1, one_ne, if_false, brokenOn_c h.1.1 hd, Option.bind]
  · exact ⟨-1, by simp only [fT_broken, (day_no h1).1, if_true], by simp only [fM_broken, (day_no h1).2, if_true]⟩
