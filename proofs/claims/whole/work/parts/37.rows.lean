theorem obs {α β : Type} (a : α) (f : α → Option β) : Option.bind (some a) f = f a := rfl
/-- what was found missing on the days of k -/
def loN (S O : Nat → Int32) (k : Nat) : Nat → Nat
  | 0 => 0
  | d + 1 => if prN S d = k then loN S O k d + cl (O d) else loN S O k d
theorem loN_le {n u : Int32} {K A T W S O F : Nat → Int32} (h : HV n u K A T W S O F) (k : Nat) : ∀ d, d ≤ 10 → loN S O k d ≤ 99 * d := by
  intro d
  induction d with
  | zero => intro _; exact Nat.le_refl 0
  | succ d ih =>
    intro hd
    have h1 := (h.2.2.2.2.2.2.2.2.2.2 d (by omega)).2
    have h2 := ih (by omega)
    rw [loN]
    by_cases c : prN S d = k
    · rw [if_pos c]; omega
    · rw [if_neg c]; omega
theorem lossOf_c {c : MS} {F : Nat → Int32} (h : HV (gI c 1 0) (gI c 1 1) (gI c 2) (gI c 3) (gI c 4) (gI c 5) (gI c 6) (gI c 7) F) {k : Nat} (hk : k < 64) :
    fHouse_lossOf c (nI k) = some (nI (loN (gI c 6) (gI c 7) k 10)) := by
  have hS := HV_SO h
  have key : ∀ (e i n : Nat), i + e = 10 → e < n → fHouse_lossOf_L4 c (nI k) n (nI (loN (gI c 6) (gI c 7) k i)) (nI i) = some (nI (loN (gI c 6) (gI c 7) k 10)) := by
    intro e
    induction e with
    | zero =>
      intro i n hi hn
      obtain ⟨n, rfl⟩ : ∃ m, n = m + 1 := ⟨n - 1, by omega⟩
      have hi : i = 10 := hi
      subst hi
      rw [fHouse_lossOf_L4, if_pos (show (10 : Int32) ≤ nI 10 from Int32.le_refl _)]
    | succ e ih =>
      intro i n hi hn
      obtain ⟨n, rfl⟩ : ∃ m, n = m + 1 := ⟨n - 1, by omega⟩
      have hi10 : i < 10 := by omega
      have hih := ih (i + 1) n (by omega) (by omega)
      obtain ⟨o, ho, eo, co⟩ := lt_ex (h.2.2.2.2.2.2.2.2.2.2 i hi10)
      rw [loN] at hih
      rw [fHouse_lossOf_L4, if_neg (ge10 hi10), pairOn_c hS hi10, Option.bind, nI_s]
      by_cases q : prN (gI c 6) i = k
      · rw [if_pos q, co] at hih
        rw [if_pos ((o64_eq (prN_le hS hi10) hk).mpr q), if_neg (ix_ok hi10 (by omega)), nI_clamp (by omega), eo, nI_add]
        exact hih
      · rw [if_neg q] at hih
        rw [if_neg (fun h => q ((o64_eq (prN_le hS hi10) hk).mp h))]
        exact hih
  exact key 10 0 LF rfl (by decide)
theorem lossOf_m {m : MS} {n u : Int32} {K A T W S O : Nat → Int32} (h : HM m n u K A T W S O) {p q : Nat} (hp : p < q) (hq : q < 8) (Kn : Int32 → Int32 → Int32 → Option Int32) (l2 l3 : Int32) :
    fM_suspects_L47 m Kn l2 l3 (nI p) (nI q) LF 0 0 = if nI (loN S O (8 * p + q) 10) ≤ l3 then Kn l2 l3 (nI (q + 1)) else Kn (nI (8 * p + q)) (nI (loN S O (8 * p + q) 10)) (nI (q + 1)) := by
  have hS := HV_SO h.1
  have hk : 8 * p + q < 64 := by omega
  have ek : (8 * nI p + nI q : Int32) = nI (8 * p + q) := by rw [show (8 : Int32) = nI 8 from rfl, pk_mul, nI_add]
  have key : ∀ (e i n : Nat), i + e = 10 → e < n → fM_suspects_L47 m Kn l2 l3 (nI p) (nI q) n (nI (loN S O (8 * p + q) i)) (nI i) = if nI (loN S O (8 * p + q) 10) ≤ l3 then Kn l2 l3 (nI (q + 1)) else Kn (nI (8 * p + q)) (nI (loN S O (8 * p + q) 10)) (nI (q + 1)) := by
    intro e
    induction e with
    | zero =>
      intro i n hi hn
      obtain ⟨n, rfl⟩ : ∃ m, n = m + 1 := ⟨n - 1, by omega⟩
      have hi : i = 10 := hi
      subst hi
      rw [fM_suspects_L47, if_pos (show (10 : Int32) ≤ nI 10 from Int32.le_refl _), ek, nI_s]
    | succ e ih =>
      intro i n hi hn
      obtain ⟨n, rfl⟩ : ∃ m, n = m + 1 := ⟨n - 1, by omega⟩
      have hi10 : i < 10 := by omega
      have hih := ih (i + 1) n (by omega) (by omega)
      obtain ⟨o, ho, eo, co⟩ := lt_ex (h.1.2.2.2.2.2.2.2.2.2.2 i hi10)
      rw [loN] at hih
      rw [fM_suspects_L47, if_neg (ge10 hi10), two_m h hi10, Option.bind, nI_s, ek]
      by_cases c : prN S i = 8 * p + q
      · rw [if_pos c, co] at hih
        rw [if_pos ((o64_eq (prN_le hS hi10) hk).mpr c), if_neg (ix_ok hi10 (by omega)), nI_clamp (by omega), h.2.2.2.2.2.2.2, eo, nI_add]
        exact hih
      · rw [if_neg c] at hih
        rw [if_neg (fun h => c ((o64_eq (prN_le hS hi10) hk).mp h)), Int32.add_zero]
        exact hih
  exact key 10 0 LF rfl (by decide)
/-- the best pair so far: its loss, its number on both sides -/
def sM (S O : Nat → Int32) : Option Nat → Int32
  | none => -1
  | some k => nI (loN S O k 10)
def sC : Option Nat → Int32
  | none => 0
  | some k => nI k
def sB : Option Nat → Int32
  | none => -3
  | some k => nI k
/-- below 64, if there is one -/
def s64 (s : Option Nat) : Prop := ∀ k, s = some k → k < 64
theorem o_suspects (z : MS) (h : RR z z) (a0 : Int32) : O1 (fT_suspects · a0) (fM_suspects · a0) z := by
  by_cases h1 : ∃ d, d < 2 ∧ a0 = nI d
  · obtain ⟨d, hd, rfl⟩ := h1
    obtain ⟨n, hn, e1, e2, e3⟩ := RR_n h
    have a1 : ¬ nI d < 0 := nI_pos (by omega)
    have a2 : nI d ≤ 1 := nI_le (b := 1) (by omega) (by omega)
    have inner : ∀ (Kc Km : Int32 → Int32 → Int32 → Option Int32) (p : Nat) (s : Option Nat), p < n → s64 s → ∃ s2, (s64 s2 ∧ (p + 1 < n ∨ ¬ s = none → ¬ s2 = none)) ∧ fHouse_pairOfMostLoss_L19 z Kc (nI p) LF (sM (gI z 6) (gI z 7) s) (sC s) (nI (p + 1)) = Kc (sM (gI z 6) (gI z 7) s2) (sC s2) (nI (p + 1)) ∧ fM_suspects_L32 z Km (nI p) LF (sB s) (sM (gI z 6) (gI z 7) s) (nI (p + 1)) = Km (sB s2) (sM (gI z 6) (gI z 7) s2) (nI (p + 1)) := by
      intro Kc Km p s hp hs
      obtain ⟨s2, hs2, r1, r2⟩ := loopK (fun f s i => fHouse_pairOfMostLoss_L19 z Kc (nI p) f (sM (gI z 6) (gI z 7) s) (sC s) i) (fun f s i => fM_suspects_L32 z Km (nI p) f (sB s) (sM (gI z 6) (gI z 7) s) i) n (fun i s2 => p + 1 ≤ i ∧ s64 s2 ∧ (p + 1 < i ∨ ¬ s = none → ¬ s2 = none)) (fun s => Kc (sM (gI z 6) (gI z 7) s) (sC s) (nI (p + 1))) (fun s => Km (sB s) (sM (gI z 6) (gI z 7) s) (nI (p + 1))) (by
        intro f s1 q hq hP
        obtain ⟨hpq, hs1, hne⟩ := hP
        have hk : pr p q < 64 := pr_64 (by omega) (by omega)
        have hl := loN_le h.1.1 (pr p q) 10 (by omega)
        have ep := (pr_lt (show p < q by omega)).1
        have m2 := lossOf_m (RR_HM h) (show p < q by omega) (show q < 8 by omega) (fM_suspects_L32 z Km (nI p) f) (sB s1) (sM (gI z 6) (gI z 7) s1)
        have x1 : fHouse_pairOfMostLoss_L19 z Kc (nI p) (f + 1) (sM (gI z 6) (gI z 7) s1) (sC s1) (nI q) = if nI (loN (gI z 6) (gI z 7) (pr p q) 10) ≤ sM (gI z 6) (gI z 7) s1 then fHouse_pairOfMostLoss_L19 z Kc (nI p) f (sM (gI z 6) (gI z 7) s1) (sC s1) (nI (q + 1)) else fHouse_pairOfMostLoss_L19 z Kc (nI p) f (nI (loN (gI z 6) (gI z 7) (pr p q) 10)) (nI (pr p q)) (nI (q + 1)) := by
          rw [fHouse_pairOfMostLoss_L19, e1, if_neg (nI_ge hq (by omega)), pairOf_nI (by omega) (by omega), lossOf_c h.1.1 hk, Option.bind, nI_s]
        have x2 : fM_suspects_L32 z Km (nI p) (f + 1) (sB s1) (sM (gI z 6) (gI z 7) s1) (nI q) = fM_suspects_L47 z (fM_suspects_L32 z Km (nI p) f) (sB s1) (sM (gI z 6) (gI z 7) s1) (nI p) (nI q) LF 0 0 := by
          rw [fM_suspects_L32, e2, if_neg (nI_ge hq (by omega))]
        rw [m2, ← ep] at x2
        show ∃ s2, _ ∧ fHouse_pairOfMostLoss_L19 z Kc (nI p) (f + 1) (sM (gI z 6) (gI z 7) s1) (sC s1) (nI q) = _ ∧ fM_suspects_L32 z Km (nI p) (f + 1) (sB s1) (sM (gI z 6) (gI z 7) s1) (nI q) = _
        rw [x1, x2]
        by_cases c : nI (loN (gI z 6) (gI z 7) (pr p q) 10) ≤ sM (gI z 6) (gI z 7) s1
        · refine ⟨s1, ⟨by omega, hs1, fun _ hn1 => ?_⟩, if_pos c, if_pos c⟩
          rw [hn1] at c
          have c : nI (loN (gI z 6) (gI z 7) (pr p q) 10) ≤ -1 := c
          exact absurd (Int32.lt_of_le_of_lt c (show (-1 : Int32) < 0 by decide)) (nI_pos (by omega))
        · exact ⟨some (pr p q), ⟨by omega, fun k e => by cases e; exact hk, fun _ e => by cases e⟩, if_neg c, if_neg c⟩) (by
        intro f s1 hP
        constructor
        · show fHouse_pairOfMostLoss_L19 z Kc (nI p) (f + 1) (sM (gI z 6) (gI z 7) s1) (sC s1) (nI n) = _
          rw [fHouse_pairOfMostLoss_L19, e1, if_pos (Int32.le_refl _), nI_s]
        · show fM_suspects_L32 z Km (nI p) (f + 1) (sB s1) (sM (gI z 6) (gI z 7) s1) (nI n) = _
          rw [fM_suspects_L32, e2, if_pos (Int32.le_refl _), nI_s]) (n - (p + 1)) (p + 1) s LF (by omega) (by unfold LF; omega) ⟨Nat.le_refl _, hs, fun h e => by
            rcases h with h | h
            · omega
            · exact h e⟩
      exact ⟨s2, ⟨hs2.2.1, hs2.2.2⟩, r1, r2⟩
    obtain ⟨s2, hs2, r1, r2⟩ := loopK (fun f s i => fHouse_pairOfMostLoss_L6 z f (sM (gI z 6) (gI z 7) s) (sC s) i) (fun f s i => fM_suspects_L17 z (nI d) f (sB s) (sM (gI z 6) (gI z 7) s) i) n (fun i s2 => s64 s2 ∧ (2 ≤ n ∧ 0 < i → ¬ s2 = none) ∧ (n < 2 → s2 = none)) (fun s => some (sC s)) (fun s => if sB s < 0 then some (sB s) else if nI d = 0 then some (sB s) else some (sM (gI z 6) (gI z 7) s)) (by
      intro f s p hp hP
      obtain ⟨s3, ⟨hs3, hne⟩, q1, q2⟩ := inner (fHouse_pairOfMostLoss_L6 z f) (fM_suspects_L17 z (nI d) f) p s hp hP.1
      have x1 : fHouse_pairOfMostLoss_L6 z (f + 1) (sM (gI z 6) (gI z 7) s) (sC s) (nI p) = fHouse_pairOfMostLoss_L6 z f (sM (gI z 6) (gI z 7) s3) (sC s3) (nI (p + 1)) := by
        rw [fHouse_pairOfMostLoss_L6, e1, if_neg (nI_ge hp (by omega)), nI_s, q1]
      have x2 : fM_suspects_L17 z (nI d) (f + 1) (sB s) (sM (gI z 6) (gI z 7) s) (nI p) = fM_suspects_L17 z (nI d) f (sB s3) (sM (gI z 6) (gI z 7) s3) (nI (p + 1)) := by
        rw [fM_suspects_L17, e2, if_neg (nI_ge hp (by omega)), nI_s, q2]
      by_cases hn2 : n < 2
      · have hs0 := hP.2.2 hn2
        subst hs0
        have y1 : fHouse_pairOfMostLoss_L19 z (fHouse_pairOfMostLoss_L6 z f) (nI p) LF (sM (gI z 6) (gI z 7) none) (sC none) (nI (p + 1)) = fHouse_pairOfMostLoss_L6 z f (sM (gI z 6) (gI z 7) none) (sC none) (nI (p + 1)) := by
          rw [LF_s, fHouse_pairOfMostLoss_L19, e1, if_pos (nI_le (by omega) (by omega)), nI_s]
        have y2 : fM_suspects_L32 z (fM_suspects_L17 z (nI d) f) (nI p) LF (sB none) (sM (gI z 6) (gI z 7) none) (nI (p + 1)) = fM_suspects_L17 z (nI d) f (sB none) (sM (gI z 6) (gI z 7) none) (nI (p + 1)) := by
          rw [LF_s, fM_suspects_L32, e2, if_pos (nI_le (by omega) (by omega)), nI_s]
        refine ⟨none, ⟨fun k e => (by cases e), fun h => by omega, fun _ => rfl⟩, ?_, ?_⟩
        · show fHouse_pairOfMostLoss_L6 z (f + 1) (sM (gI z 6) (gI z 7) none) (sC none) (nI p) = _
          rw [fHouse_pairOfMostLoss_L6, e1, if_neg (nI_ge hp (by omega)), nI_s, y1]
        · show fM_suspects_L17 z (nI d) (f + 1) (sB none) (sM (gI z 6) (gI z 7) none) (nI p) = _
          rw [fM_suspects_L17, e2, if_neg (nI_ge hp (by omega)), nI_s, y2]
      · refine ⟨s3, ⟨hs3, fun _ => ?_, fun h => absurd h hn2⟩, x1, x2⟩
        by_cases hp0 : p = 0
        · exact hne (Or.inl (by omega))
        · exact hne (Or.inr (hP.2.1 ⟨by omega, by omega⟩))) (by
      intro f s hP
      constructor
      · show fHouse_pairOfMostLoss_L6 z (f + 1) (sM (gI z 6) (gI z 7) s) (sC s) (nI n) = _
        rw [fHouse_pairOfMostLoss_L6, e1, if_pos (Int32.le_refl _)]
      · show fM_suspects_L17 z (nI d) (f + 1) (sB s) (sM (gI z 6) (gI z 7) s) (nI n) = _
        rw [fM_suspects_L17, e2, if_pos (Int32.le_refl _)]) n 0 none LF (by omega) (by unfold LF; omega) ⟨fun k e => (by cases e), fun h => by omega, fun _ => rfl⟩
    have r1 : fHouse_pairOfMostLoss z = some (sC s2) := r1
    have r2 : fM_suspects_L17 z (nI d) LF (-3) (-1) 0 = if sB s2 < 0 then some (sB s2) else if nI d = 0 then some (sB s2) else some (sM (gI z 6) (gI z 7) s2) := r2
    show ∃ r, fT_suspects z (nI d) = some r ∧ fM_suspects z (nI d) = some r
    unfold fT_suspects fM_suspects
    rw [(side_yes hd).2, if_neg one_ne, if_neg a1, if_pos a2, e1, r1, r2]
    by_cases hn2 : n < 2
    · have hs0 := hs2.2.2 hn2
      subst hs0
      rw [if_neg (show ¬ (2 : Int32) ≤ nI n from nI_ge (b := 2) hn2 (by omega)), if_pos (show sB none < 0 by decide)]
      exact ⟨-3, rfl, rfl⟩
    · rw [if_pos (show (2 : Int32) ≤ nI n from nI_le (a := 2) (by omega) (by omega))]
      have hs0 := hs2.2.1 ⟨by omega, by omega⟩
      cases s2 with
      | none => exact absurd rfl hs0
      | some k =>
        have hk := hs2.1 k rfl
        rw [if_neg (show ¬ sB (some k) < 0 from nI_pos (by omega))]
        show ∃ r, (if nI d = 0 then some (nI k) else Option.bind (fHouse_lossOf z (nI k)) fun w46 => some w46) = some r ∧ (if nI d = 0 then some (nI k) else some (nI (loN (gI z 6) (gI z 7) k 10))) = some r
        rw [lossOf_c h.1.1 hk]
        by_cases hd0 : nI d = 0
        · rw [if_pos hd0, if_pos hd0]; exact ⟨_, rfl, rfl⟩
        · rw [if_neg hd0, if_neg hd0]; exact ⟨_, rfl, rfl⟩
  · refine ⟨-1, ?_, by simp only [fM_suspects, (side_no h1).2, if_true]⟩
    rcases ag a0 1 (by omega) with ⟨h2, -⟩ | ⟨h2, h3, h4, h5, h6⟩ | ⟨i, hi, rfl⟩
    · simp only [fT_suspects, h2, if_true]
    · simp only [fT_suspects, h2, if_false, if_neg (show ¬ a0 ≤ (1 : Int32) from h5)]
    · exact absurd ⟨i, by omega, rfl⟩ h1
/-- what a row must hold -/
def duI (u : Int32) (K A T W S : Nat → Int32) (d w : Nat) : Int32 :=
  if w = 0 then o64 (prN S d) else if w = 1 then (if prN S d = 64 then 0 else nI (snD K W S d (kbt u d))) else nI (brN u K A T W S d)
def rwF (u : Int32) (K A T W S : Nat → Int32) (i : Nat) : Int32 := duI u K A T W S (i / 3) (i % 3)
theorem due_c {c : MS} {F : Nat → Int32} (h : HV (gI c 1 0) (gI c 1 1) (gI c 2) (gI c 3) (gI c 4) (gI c 5) (gI c 6) (gI c 7) F) {d w : Nat} (hd : d < 10) (hw : w < 3) :
    fRows_due c (nI d) (nI w) = some (rwF (gI c 1 1) (gI c 2) (gI c 3) (gI c 4) (gI c 5) (gI c 6) (3 * d + w)) := by
  have hS := HV_SO h
  have hle := prN_le hS hd
  unfold fRows_due rwF duI
  rw [pairOn_c hS hd, Option.bind, show (3 * d + w) / 3 = d by omega, show (3 * d + w) % 3 = w by omega]
  rcases (show w = 0 ∨ w = 1 ∨ w = 2 by omega) with rfl | rfl | rfl
  · rw [if_pos rfl, if_pos (show nI 0 = 0 from rfl)]
  · rw [if_neg (show ¬ nI 1 = 0 by decide), if_pos (show nI 1 = 1 from rfl), if_neg (show ¬ (1 : Nat) = 0 by decide), if_pos rfl]
    by_cases hk : prN (gI c 6) d = 64
    · rw [if_pos ((o64_m1 hle).mpr hk), if_pos hk]
    · rw [if_neg (fun e => hk ((o64_m1 hle).mp e)), if_neg hk, seenOn_c hS (HV_KO h) h.2.1 hd hk]
      rfl
  · rw [if_neg (show ¬ nI 2 = 0 by decide), if_neg (show ¬ nI 2 = 1 by decide), if_neg (show ¬ (2 : Nat) = 0 by decide), if_neg (show ¬ (2 : Nat) = 1 by decide), brokenOn_c h hd]
    rfl
theorem write_c {z : MS} (h : RR z z) : fRows_write z = some (10, pI (wI z 31 (fa_fill (rwF (gI z 1 1) (gI z 2) (gI z 3) (gI z 4) (gI z 5) (gI z 6)) (gI z 31) 30)) 30 3 10) := by
  have inner : ∀ (Kn : MS → Int32 → Option (Int32 × MS)) (d : Nat), d < 10 → ∀ (e w n : Nat), w + e = 3 → e < n → fRows_write_L10 Kn (nI d) n (wI z 31 (fa_fill (rwF (gI z 1 1) (gI z 2) (gI z 3) (gI z 4) (gI z 5) (gI z 6)) (gI z 31) (3 * d + w))) (nI w) = Kn (wI z 31 (fa_fill (rwF (gI z 1 1) (gI z 2) (gI z 3) (gI z 4) (gI z 5) (gI z 6)) (gI z 31) (3 * d + 3))) (nI (d + 1)) := by
    intro Kn d hd e
    induction e with
    | zero =>
      intro w n hi hn
      obtain ⟨n, rfl⟩ : ∃ m, n = m + 1 := ⟨n - 1, by omega⟩
      have hi : w = 3 := hi
      subst hi
      rw [fRows_write_L10, if_pos (show (3 : Int32) ≤ nI 3 from Int32.le_refl _), nI_s]
    | succ e ih =>
      intro w n hi hn
      obtain ⟨n, rfl⟩ : ∃ m, n = m + 1 := ⟨n - 1, by omega⟩
      have hw : w < 3 := by omega
      have hdu : fRows_due (wI z 31 (fa_fill (rwF (gI z 1 1) (gI z 2) (gI z 3) (gI z 4) (gI z 5) (gI z 6)) (gI z 31) (3 * d + w))) (nI d) (nI w) = some (rwF (gI z 1 1) (gI z 2) (gI z 3) (gI z 4) (gI z 5) (gI z 6) (3 * d + w)) := due_c (c := wI z 31 _) (F := gI z 59) h.1.1 hd hw
      rw [fRows_write_L10, if_neg (show ¬ (3 : Int32) ≤ nI w from nI_ge (b := 3) hw (by omega)), hdu, Option.bind, (rIx d w).1, if_neg (ix_ok (show 3 * d + w < 30 by omega) (by omega)), nI_clamp (by omega), pI_wI, fa_fill_succ, nI_s]
      exact ih (w + 1) n (by omega) (by omega)
  have outer : ∀ (e d n : Nat), d + e = 10 → e < n → fRows_write_L2 n (wI z 31 (fa_fill (rwF (gI z 1 1) (gI z 2) (gI z 3) (gI z 4) (gI z 5) (gI z 6)) (gI z 31) (3 * d))) (nI d) = some (10, pI (wI z 31 (fa_fill (rwF (gI z 1 1) (gI z 2) (gI z 3) (gI z 4) (gI z 5) (gI z 6)) (gI z 31) 30)) 30 3 10) := by
    intro e
    induction e with
    | zero =>
      intro d n hi hn
      obtain ⟨n, rfl⟩ : ∃ m, n = m + 1 := ⟨n - 1, by omega⟩
      have hi : d = 10 := hi
      subst hi
      rw [fRows_write_L2, if_pos (show (10 : Int32) ≤ nI 10 from Int32.le_refl _)]
      rfl
    | succ e ih =>
      intro d n hi hn
      obtain ⟨n, rfl⟩ : ∃ m, n = m + 1 := ⟨n - 1, by omega⟩
      have hi10 : d < 10 := by omega
      rw [fRows_write_L2, if_neg (ge10 hi10), show (0 : Int32) = nI 0 from rfl, show 3 * d = 3 * d + 0 from rfl, inner _ d hi10 3 0 LF rfl (by decide)]
      exact ih (d + 1) n (by omega) (by omega)
  have := outer 10 0 LF rfl (by decide)
  rw [show 3 * 0 = 0 from rfl, fa_fill_0, wI_self] at this
  exact this
theorem findRows_m {m : MS} {n u : Int32} {K A T W S O : Nat → Int32} (h : HM m n u K A T W S O) : fM_findRows m = some (wI m 76 (fa_fill (rwF u K A T W S) (gI m 76) 30)) := by
  have hS := HV_SO h.1
  have hw : ∀ F, HM (wI m 76 F) n u K A T W S O := fun F => h
  have outer : ∀ (e d f : Nat), d + e = 10 → e < f → fM_findRows_L2 f (wI m 76 (fa_fill (rwF u K A T W S) (gI m 76) (3 * d))) (nI d) = some (wI m 76 (fa_fill (rwF u K A T W S) (gI m 76) 30)) := by
    intro e
    induction e with
    | zero =>
      intro d f hi hn
      obtain ⟨f, rfl⟩ : ∃ m, f = m + 1 := ⟨f - 1, by omega⟩
      have hi : d = 10 := hi
      subst hi
      rw [fM_findRows_L2, if_pos (show (10 : Int32) ≤ nI 10 from Int32.le_refl _)]
    | succ e ih =>
      intro d f hi hn
      obtain ⟨f, rfl⟩ : ∃ m, f = m + 1 := ⟨f - 1, by omega⟩
      have hd : d < 10 := by omega
      have hle := prN_le hS hd
      have t1 : (3 * nI d : Int32) = nI (3 * d) := by rw [show (3 : Int32) = nI 3 from rfl, pk_mul]
      have t2 : (nI (3 * d) + 1 : Int32) = nI (3 * d + 1) := nI_add _ 1
      have t3 : (nI (3 * d) + 2 : Int32) = nI (3 * d + 2) := nI_add _ 2
      have r0 : rwF u K A T W S (3 * d) = o64 (prN S d) := by
        unfold rwF duI
        rw [show (3 * d) / 3 = d by omega, show (3 * d) % 3 = 0 by omega, if_pos rfl]
      have r1 : rwF u K A T W S (3 * d + 1) = if prN S d = 64 then 0 else nI (snD K W S d (kbt u d)) := by
        unfold rwF duI
        rw [show (3 * d + 1) / 3 = d by omega, show (3 * d + 1) % 3 = 1 by omega, if_neg (by decide), if_pos rfl]
      have r2 : rwF u K A T W S (3 * d + 2) = nI (brN u K A T W S d) := by
        unfold rwF duI
        rw [show (3 * d + 2) / 3 = d by omega, show (3 * d + 2) % 3 = 2 by omega, if_neg (by decide), if_neg (by decide)]
      have hJ : fM_findRows_J52 (wI m 76 (fa_fill (rwF u K A T W S) (gI m 76) (3 * d + 1))) (fM_findRows_L2 f) (nI d) (nI (3 * d + 1)) (rwF u K A T W S (3 * d + 1)) = some (wI m 76 (fa_fill (rwF u K A T W S) (gI m 76) 30)) := by
        unfold fM_findRows_J52
        rw [if_neg (ix_ok (show 3 * d + 1 < 30 by omega) (by omega)), nI_clamp (by omega), pI_wI, fa_fill_succ, brokenOn_m (hw _) hd, Option.bind, t1, t3, if_neg (ix_ok (show 3 * d + 2 < 30 by omega) (by omega)), nI_clamp (by omega), pI_wI, ← r2, fa_fill_succ, nI_s]
        exact ih (d + 1) f (by omega) (by omega)
      have hu : fM_isSurprise (wI m 76 (fa_fill (rwF u K A T W S) (gI m 76) (3 * d + 1))) (nI d) = if kbt u d then 1 else 0 := by
        have e5 : gI m 56 5 = u := h.2.2.1
        have := hasS_m (c := wI m 76 (fa_fill (rwF u K A T W S) (gI m 76) (3 * d + 1))) (show lt (gI m 56 5) 1024 by rw [e5]; exact h.1.2.1) hd
        rw [this]
        show (if kbt (gI m 56 5) d then (1 : Int32) else 0) = _
        rw [e5]
      rw [fM_findRows_L2, if_neg (ge10 hd), two_m (hw _) hd, Option.bind, t1, if_neg (ix_ok (show 3 * d < 30 by omega) (by omega)), nI_clamp (by omega), pI_wI, ← r0, fa_fill_succ, two_m (hw _) hd, Option.bind, t2]
      by_cases hk : prN S d = 64
      · rw [if_neg (fun e => (o64_neg hle).2.mp e hk)]
        rw [r1, if_pos hk] at hJ
        exact hJ
      · rw [if_pos ((o64_neg hle).2.mpr hk), hu, seen_m (hw _) hd hk]
        rw [r1, if_neg hk] at hJ
        exact hJ
  have := outer 10 0 LF rfl (by decide)
  rw [show 3 * 0 = 0 from rfl, fa_fill_0, wI_self] at this
  exact this
theorem o_prove (z : MS) (h : RR z z) : O2 fT_prove fM_prove z := by
  have hf : fM_findRows (pI (wI z 31 (fa_fill (rwF (gI z 1 1) (gI z 2) (gI z 3) (gI z 4) (gI z 5) (gI z 6)) (gI z 31) 30)) 30 3 10) = some (wI (pI (wI z 31 (fa_fill (rwF (gI z 1 1) (gI z 2) (gI z 3) (gI z 4) (gI z 5) (gI z 6)) (gI z 31) 30)) 30 3 10) 76 (fa_fill (rwF (gI z 1 1) (gI z 2) (gI z 3) (gI z 4) (gI z 5) (gI z 6)) (gI z 76) 30)) := findRows_m (m := (pI (wI z 31 (fa_fill (rwF (gI z 1 1) (gI z 2) (gI z 3) (gI z 4) (gI z 5) (gI z 6)) (gI z 31) 30)) 30 3 10)) (RR_HM h)
  have copy : ∀ (y : MS), (∀ i, i < 30 → gI y 76 i = rwF (gI z 1 1) (gI z 2) (gI z 3) (gI z 4) (gI z 5) (gI z 6) i) → ∀ (e i n : Nat), i + e = 30 → e < n → fM_prove_L12 n (wI y 75 (fa_fill (rwF (gI z 1 1) (gI z 2) (gI z 3) (gI z 4) (gI z 5) (gI z 6)) (gI y 75) i)) (nI i) = some (gI y 56 34, wI y 75 (fa_fill (rwF (gI z 1 1) (gI z 2) (gI z 3) (gI z 4) (gI z 5) (gI z 6)) (gI y 75) 30)) := by
    intro y hy e
    induction e with
    | zero =>
      intro i n hi hn
      obtain ⟨n, rfl⟩ : ∃ m, n = m + 1 := ⟨n - 1, by omega⟩
      have hi : i = 30 := hi
      subst hi
      rw [fM_prove_L12, if_pos (show (30 : Int32) ≤ nI 30 from Int32.le_refl _)]
      rfl
    | succ e ih =>
      intro i n hi hn
      obtain ⟨n, rfl⟩ : ∃ m, n = m + 1 := ⟨n - 1, by omega⟩
      have hi3 : i < 30 := by omega
      have hg : gI (wI y 75 (fa_fill (rwF (gI z 1 1) (gI z 2) (gI z 3) (gI z 4) (gI z 5) (gI z 6)) (gI y 75) i)) 76 i = rwF (gI z 1 1) (gI z 2) (gI z 3) (gI z 4) (gI z 5) (gI z 6) i := hy i hi3
      rw [fM_prove_L12, if_neg (show ¬ (30 : Int32) ≤ nI i from nI_ge (b := 30) hi3 (by omega)), if_neg (ix_ok hi3 (by omega)), if_neg (ix_ok hi3 (by omega)), nI_clamp (by omega), hg, pI_wI, fa_fill_succ, nI_s]
      exact ih (i + 1) n (by omega) (by omega)
  refine ⟨10, pI (wI z 31 (fa_fill (rwF (gI z 1 1) (gI z 2) (gI z 3) (gI z 4) (gI z 5) (gI z 6)) (gI z 31) 30)) 30 3 10, wI (pI (wI (pI (wI z 31 (fa_fill (rwF (gI z 1 1) (gI z 2) (gI z 3) (gI z 4) (gI z 5) (gI z 6)) (gI z 31) 30)) 30 3 10) 76 (fa_fill (rwF (gI z 1 1) (gI z 2) (gI z 3) (gI z 4) (gI z 5) (gI z 6)) (gI z 76) 30)) 56 34 10) 75 (fa_fill (rwF (gI z 1 1) (gI z 2) (gI z 3) (gI z 4) (gI z 5) (gI z 6)) (gI z 75) 30), ?_, ?_, ?_⟩
  rotate_left
  · show fM_prove (pI (wI z 31 (fa_fill (rwF (gI z 1 1) (gI z 2) (gI z 3) (gI z 4) (gI z 5) (gI z 6)) (gI z 31) 30)) 30 3 10) = _
    unfold fM_prove
    rw [hf]
    rw [obs]
    have hc := copy (pI (wI (pI (wI z 31 (fa_fill (rwF (gI z 1 1) (gI z 2) (gI z 3) (gI z 4) (gI z 5) (gI z 6)) (gI z 31) 30)) 30 3 10) 76 (fa_fill (rwF (gI z 1 1) (gI z 2) (gI z 3) (gI z 4) (gI z 5) (gI z 6)) (gI z 76) 30)) 56 34 10) (fun i hi => by
      show fa_fill _ _ 30 i = _
      exact fa_fill_in hi) 30 0 LF rfl (by decide)
    rw [fa_fill_0, wI_self] at hc
    exact hc
  · refine ⟨h.1, h.2.1, h.2.2.1, ⟨?_, rfl, Or.inr rfl⟩, h.2.2.2.2⟩
    show fa_fill _ (gI z 75) 30 = fa_fill _ (gI z 31) 30
    rw [h.2.2.2.1.1]
  · show fT_prove z = _
    unfold fT_prove
    rw [write_c h]
    rfl
def O3 (T : MS → Option Int32) (M : MS → Option (Int32 × MS)) (z : MS) : Prop := ∃ r z2, T z = some r ∧ M z = some (r, z2) ∧ RR z2 z2
/-- the first of r rows' numbers from k on that is wrong -/
def jdI (R G : Nat → Int32) : Nat → Nat → Int32
  | 0, _ => 0
  | r + 1, k => if R k = G k then jdI R G r (k + 1) else nI (k / 3 + 1)
theorem o_judge (z : MS) (h : RR z z) : O3 fT_judge fM_judge z := by
  have hf := findRows_m (RR_HM h)
  obtain ⟨e75, e34, hc⟩ := h.2.2.2.1
  obtain ⟨t, ht, et⟩ : ∃ t, t ≤ 10 ∧ gI z 30 3 = nI t := by
    rcases hc with hc | hc
    · exact ⟨0, by omega, hc⟩
    · exact ⟨10, by omega, hc⟩
  have cls : ∀ (e d n : Nat), d + e = t → e < n → fRows_firstWrong_L2 z n (nI d) = some (jdI (gI z 31) (rwF (gI z 1 1) (gI z 2) (gI z 3) (gI z 4) (gI z 5) (gI z 6)) (3 * e) (3 * d)) := by
    intro e
    induction e with
    | zero =>
      intro d n hi hn
      obtain ⟨n, rfl⟩ : ∃ m, n = m + 1 := ⟨n - 1, by omega⟩
      have hi : d = t := hi
      subst hi
      rw [fRows_firstWrong_L2, et, if_pos (Int32.le_refl _)]
      rfl
    | succ e ih =>
      intro d n hi hn
      obtain ⟨n, rfl⟩ : ∃ m, n = m + 1 := ⟨n - 1, by omega⟩
      have hd : d < 10 := by omega
      have inner : ∀ (a w f : Nat), w + a = 3 → a < f → fRows_firstWrong_L12 z (fRows_firstWrong_L2 z n) (nI d) f (nI w) = some (jdI (gI z 31) (rwF (gI z 1 1) (gI z 2) (gI z 3) (gI z 4) (gI z 5) (gI z 6)) (3 * e + a) (3 * d + w)) := by
        intro a
        induction a with
        | zero =>
          intro w f hi hn
          obtain ⟨f, rfl⟩ : ∃ m, f = m + 1 := ⟨f - 1, by omega⟩
          have hi : w = 3 := hi
          subst hi
          rw [fRows_firstWrong_L12, if_pos (show (3 : Int32) ≤ nI 3 from Int32.le_refl _), nI_s]
          exact ih (d + 1) n (by omega) (by omega)
        | succ a iha =>
          intro w f hi hn
          obtain ⟨f, rfl⟩ : ∃ m, f = m + 1 := ⟨f - 1, by omega⟩
          have hw : w < 3 := by omega
          rw [fRows_firstWrong_L12, if_neg (show ¬ (3 : Int32) ≤ nI w from nI_ge (b := 3) hw (by omega)), due_c h.1.1 hd hw, Option.bind, (rIx d w).1, if_neg (ix_ok (show 3 * d + w < 30 by omega) (by omega)), nI_clamp (by omega), nI_s, nI_s, show 3 * e + (a + 1) = (3 * e + a) + 1 by omega, jdI]
          by_cases q : gI z 31 (3 * d + w) = rwF (gI z 1 1) (gI z 2) (gI z 3) (gI z 4) (gI z 5) (gI z 6) (3 * d + w)
          · rw [if_pos q, if_pos q]
            exact iha (w + 1) f (by omega) (by omega)
          · rw [if_neg q, if_neg q, show (3 * d + w) / 3 = d by omega]
      rw [fRows_firstWrong_L2, et, if_neg (nI_ge (by omega) (by omega))]
      exact inner 3 0 LF rfl (by decide)
  refine ⟨jdI (gI z 31) (rwF (gI z 1 1) (gI z 2) (gI z 3) (gI z 4) (gI z 5) (gI z 6)) (3 * t) 0, wI z 76 (fa_fill (rwF (gI z 1 1) (gI z 2) (gI z 3) (gI z 4) (gI z 5) (gI z 6)) (gI z 76) 30), ?_, ?_, ⟨h.1, h.2.1, h.2.2.1, h.2.2.2.1, h.2.2.2.2⟩⟩
  · unfold fT_judge fRows_firstWrong
    have c0 := cls t 0 LF (by omega) (by unfold LF; omega)
    rw [Nat.mul_zero] at c0
    rw [show fRows_firstWrong_L2 z LF 0 = fRows_firstWrong_L2 z LF (nI 0) from rfl, c0]
    rfl
  · unfold fM_judge
    rw [hf, obs]
    have key : ∀ (e i n : Nat), i + e = 3 * t → e < n → fM_judge_L6 (wI z 76 (fa_fill (rwF (gI z 1 1) (gI z 2) (gI z 3) (gI z 4) (gI z 5) (gI z 6)) (gI z 76) 30)) n (nI i) = some (jdI (gI z 31) (rwF (gI z 1 1) (gI z 2) (gI z 3) (gI z 4) (gI z 5) (gI z 6)) e i, wI z 76 (fa_fill (rwF (gI z 1 1) (gI z 2) (gI z 3) (gI z 4) (gI z 5) (gI z 6)) (gI z 76) 30)) := by
      have g34 : gI (wI z 76 (fa_fill (rwF (gI z 1 1) (gI z 2) (gI z 3) (gI z 4) (gI z 5) (gI z 6)) (gI z 76) 30)) 56 34 = nI t := e34.trans et
      have t3 : (3 * nI t : Int32) = nI (3 * t) := by rw [show (3 : Int32) = nI 3 from rfl, pk_mul]
      intro e
      induction e with
      | zero =>
        intro i n hi hn
        obtain ⟨n, rfl⟩ : ∃ m, n = m + 1 := ⟨n - 1, by omega⟩
        have hi : i = 3 * t := hi
        subst hi
        rw [fM_judge_L6, g34, t3, if_pos (Int32.le_refl _)]
        rfl
      | succ e ih =>
        intro i n hi hn
        obtain ⟨n, rfl⟩ : ∃ m, n = m + 1 := ⟨n - 1, by omega⟩
        have hi3 : i < 30 := by omega
        have g76 : gI (wI z 76 (fa_fill (rwF (gI z 1 1) (gI z 2) (gI z 3) (gI z 4) (gI z 5) (gI z 6)) (gI z 76) 30)) 76 i = rwF (gI z 1 1) (gI z 2) (gI z 3) (gI z 4) (gI z 5) (gI z 6) i := fa_fill_in hi3
        have g75 : gI (wI z 76 (fa_fill (rwF (gI z 1 1) (gI z 2) (gI z 3) (gI z 4) (gI z 5) (gI z 6)) (gI z 76) 30)) 75 = gI z 31 := e75
        rw [fM_judge_L6, g34, t3, if_neg (nI_ge (by omega) (by omega)), if_neg (ix_ok hi3 (by omega)), if_neg (ix_ok hi3 (by omega)), nI_clamp (by omega), g75, g76, jdI, nI_s]
        by_cases q : gI z 31 i = rwF (gI z 1 1) (gI z 2) (gI z 3) (gI z 4) (gI z 5) (gI z 6) i
        · rw [if_pos q, if_pos q]
          exact ih (i + 1) n (by omega) (by omega)
        · rw [if_neg q, if_neg q, show nI i / 3 = nI (i / 3) from pk_div (d := 3) (by omega) (by omega) (by omega), nI_s]
    exact key (3 * t) 0 LF (by omega) (by unfold LF; omega)
