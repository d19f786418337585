/-- sat on one of g days ahead of D, before the day f -/
def igB (S : Nat → Int32) (t f D g : Nat) : Bool := decide (¬ lsN S t f = 0 ∧ D + 1 ≤ lsN S t f + g)
/-- the bound of a pair on the k-th day, and 1 more; 0: none -/
def bdN (u : Int32) (K A W S : Nat → Int32) (f k t : Nat) : Nat := if igB S t f (f + k) (cl (W 7)) then 0 else if bsB K A (f + k) t (sv (S (4 * (f + k) + 2))) (sv (S (4 * (f + k) + 3))) then mtN (pyB u K W (f + k) t (sv (S (4 * (f + k) + 2))) (sv (S (4 * (f + k) + 3)))) 10 else 0
def frA (z M : MS) : Prop := (∀ c, c ≠ 20 → c ≠ 22 → c ≠ 23 → c ≠ 24 → gI M c = gI z c) ∧ ∀ c, gJ M c = gJ z c
def dnA (z M : MS) (f n t : Nat) : Prop := gI M 20 t = nI (trK (gI z 5) (gI z 6) (gI z 4) t f) ∧ ∀ k, k < n → gI M (22 + k) t = dn (bdN (gI z 1 1) (gI z 2) (gI z 3) (gI z 5) (gI z 6) f k t)
theorem frA_HV {z M : MS} (h : frA z M) {F : Nat → Int32} (hv : HV (gI z 1 0) (gI z 1 1) (gI z 2) (gI z 3) (gI z 4) (gI z 5) (gI z 6) (gI z 7) F) : HV (gI M 1 0) (gI M 1 1) (gI M 2) (gI M 3) (gI M 4) (gI M 5) (gI M 6) (gI M 7) F := by
  rw [h.1 1 (by decide) (by decide) (by decide) (by decide), h.1 2 (by decide) (by decide) (by decide) (by decide), h.1 3 (by decide) (by decide) (by decide) (by decide), h.1 4 (by decide) (by decide) (by decide) (by decide), h.1 5 (by decide) (by decide) (by decide) (by decide), h.1 6 (by decide) (by decide) (by decide) (by decide), h.1 7 (by decide) (by decide) (by decide) (by decide)]
  exact hv
theorem frA_w {z M : MS} (h : frA z M) {c : Nat} (hc : c = 20 ∨ c = 22 ∨ c = 23 ∨ c = 24) (i : Nat) (v : Int32) : frA z (pI M c i v) := by
  refine ⟨fun a h1 h2 h3 h4 => ?_, fun a => h.2 a⟩
  rw [gI_pI, if_neg (by omega)]
  exact h.1 a h1 h2 h3 h4
theorem ah70 (z : MS) {F : Nat → Int32} (hv : HV (gI z 1 0) (gI z 1 1) (gI z 2) (gI z 3) (gI z 4) (gI z 5) (gI z 6) (gI z 7) F) {f n t q : Nat} (hn : n ≤ 3) (hf : f + n ≤ 10) (ht : t < 64) (hlt : t / 8 < t % 8) (K18 : MS → Int32 → Option (Int32 × MS)) :
    ∀ (e k g : Nat) (M : MS), k + e = n → e < g → frA z M → ∃ M2, frA z M2 ∧ (∀ i, gI M2 20 i = gI M 20 i) ∧ (∀ j i, i ≠ t → gI M2 (22 + j) i = gI M (22 + j) i) ∧ (∀ j, j < k → gI M2 (22 + j) t = gI M (22 + j) t) ∧ (∀ j, k ≤ j → j < n → gI M2 (22 + j) t = dn (bdN (gI z 1 1) (gI z 2) (gI z 3) (gI z 5) (gI z 6) f j t)) ∧ fWays_rowsAhead_L70 K18 (nI f) (nI n) (nI q) (nI t) (dn (lsN (gI z 6) t f)) g M (nI k) = K18 M2 (nI (q + 1)) := by
  obtain ⟨w7, hw, ew, cw⟩ := HV_g hv
  have hl := lsN_le (gI z 6) t f
  intro e
  induction e with
  | zero =>
    intro k g M hk hg hM
    obtain ⟨g, rfl⟩ : ∃ m, g = m + 1 := ⟨g - 1, by omega⟩
    have hk : k = n := hk
    subst hk
    refine ⟨M, hM, fun _ => rfl, fun _ _ _ => rfl, fun _ _ => rfl, fun j h1 h2 => by omega, ?_⟩
    rw [fWays_rowsAhead_L70, if_pos (Int32.le_refl _), nI_s]
  | succ e ih =>
    intro k g M hk hg hM
    obtain ⟨g, rfl⟩ : ∃ m, g = m + 1 := ⟨g - 1, by omega⟩
    have hk3 : k < 3 := by omega
    have h6 : gI M 6 = gI z 6 := hM.1 6 (by decide) (by decide) (by decide) (by decide)
    have h5 : gI M 5 = gI z 5 := hM.1 5 (by decide) (by decide) (by decide) (by decide)
    have h1 : gI M 1 = gI z 1 := hM.1 1 (by decide) (by decide) (by decide) (by decide)
    have h2 : gI M 2 = gI z 2 := hM.1 2 (by decide) (by decide) (by decide) (by decide)
    have h3 : gI M 3 = gI z 3 := hM.1 3 (by decide) (by decide) (by decide) (by decide)
    -- one bound written
    have wr : ∀ v, v = dn (bdN (gI z 1 1) (gI z 2) (gI z 3) (gI z 5) (gI z 6) f k t) → ∃ M2, frA z M2 ∧ (∀ i, gI M2 20 i = gI M 20 i) ∧ (∀ j i, i ≠ t → gI M2 (22 + j) i = gI M (22 + j) i) ∧ (∀ j, j < k → gI M2 (22 + j) t = gI M (22 + j) t) ∧ (∀ j, k ≤ j → j < n → gI M2 (22 + j) t = dn (bdN (gI z 1 1) (gI z 2) (gI z 3) (gI z 5) (gI z 6) f j t)) ∧ fWays_rowsAhead_L70 K18 (nI f) (nI n) (nI q) (nI t) (dn (lsN (gI z 6) t f)) g (pI M (22 + k) t v) (nI (k + 1)) = K18 M2 (nI (q + 1)) := by
      intro v hv2
      obtain ⟨M2, a1, a2, a3, a4, a5, a6⟩ := ih (k + 1) g (pI M (22 + k) t v) (by omega) (by omega) (frA_w hM (by omega) _ _)
      refine ⟨M2, a1, ?_, ?_, ?_, ?_, a6⟩
      · intro i
        rw [a2 i, gI_pI, if_neg (by omega)]
      · intro j i hi
        rw [a3 j i hi, gI_pI]
        by_cases c : 22 + j = 22 + k
        · rw [if_pos c, upd_a, if_neg hi, c]
        · rw [if_neg c]
      · intro j hj
        rw [a4 j (by omega), gI_pI, if_neg (by omega)]
      · intro j hj1 hj2
        by_cases c : j = k
        · subst c
          rw [a4 j (by omega), gI_pI, if_pos rfl, upd_a, if_pos rfl]
          exact hv2
        · exact a5 j (by omega) hj2
    have hbd : bdN (gI z 1 1) (gI z 2) (gI z 3) (gI z 5) (gI z 6) f k t = if igB (gI z 6) t f (f + k) w7 then 0 else if bsB (gI z 2) (gI z 3) (f + k) t (sv (gI z 6 (4 * (f + k) + 2))) (sv (gI z 6 (4 * (f + k) + 3))) then mtN (pyB (gI z 1 1) (gI z 2) (gI z 5) (f + k) t (sv (gI z 6 (4 * (f + k) + 2))) (sv (gI z 6 (4 * (f + k) + 3)))) 10 else 0 := by
      unfold bdN
      rw [cw]
    have no : igB (gI z 6) t f (f + k) w7 = false → ∃ M2, frA z M2 ∧ (∀ i, gI M2 20 i = gI M 20 i) ∧ (∀ j i, i ≠ t → gI M2 (22 + j) i = gI M (22 + j) i) ∧ (∀ j, j < k → gI M2 (22 + j) t = gI M (22 + j) t) ∧ (∀ j, k ≤ j → j < n → gI M2 (22 + j) t = dn (bdN (gI z 1 1) (gI z 2) (gI z 3) (gI z 5) (gI z 6) f j t)) ∧ fWays_rowsAhead_J105 M (fWays_rowsAhead_L70 K18 (nI f) (nI n) (nI q) (nI t) (dn (lsN (gI z 6) t f)) g) (nI f) (nI t) (nI k) = K18 M2 (nI (q + 1)) := by
      intro hig
      have hmt := most_c (c := M) (F := F) (frA_HV hM hv) ht hlt (show f + k < 10 by omega)
      rw [h6, h5, h1, h2, h3] at hmt
      obtain ⟨M2, a1, a2, a3, a4, a5, a6⟩ := wr _ (show _ = dn (bdN (gI z 1 1) (gI z 2) (gI z 3) (gI z 5) (gI z 6) f k t) from by rw [hbd, hig, if_neg ftn])
      refine ⟨M2, a1, a2, a3, a4, a5, ?_⟩
      unfold fWays_rowsAhead_J105 fWays_rowsAhead_J106
      rw [if_neg (ix_ok hk3 (by omega)), if_pos rfl, nI_add, hmt, obs, if_neg (ix_ok ht (by omega)), nI_clamp (show k < 2 ^ 31 by omega), nI_clamp (show t < 2 ^ 31 by omega), nI_s]
      exact a6
    have h57 : gI M 5 7 = nI w7 := by rw [h5]; exact ew
    rw [fWays_rowsAhead_L70, if_neg (nI_ge (by omega) (by omega)), h57, nI_add]
    by_cases c0 : lsN (gI z 6) t f = 0
    · rw [if_pos ((dn_neg _ (by omega)).mpr c0)]
      exact no (by unfold igB; rw [decide_eq_false (by omega)])
    · rw [if_neg (fun h => c0 ((dn_neg _ (by omega)).mp h))]
      obtain ⟨l, el⟩ : ∃ l, lsN (gI z 6) t f = l + 1 := ⟨lsN (gI z 6) t f - 1, by omega⟩
      have hdl : dn (lsN (gI z 6) t f) = nI l := by rw [el]; rfl
      have hgi := gapI (f + k) (by omega) w7 hw l (by omega)
      by_cases c1 : l + w7 < f + k
      · rw [if_pos (show dn (lsN (gI z 6) t f) < nI (f + k) - nI w7 by rw [hdl]; exact hgi.mpr c1)]
        exact no (by unfold igB; rw [decide_eq_false (by omega)])
      · rw [if_neg (show ¬ dn (lsN (gI z 6) t f) < nI (f + k) - nI w7 by rw [hdl]; exact fun h => c1 (hgi.mp h))]
        obtain ⟨M2, a1, a2, a3, a4, a5, a6⟩ := wr (-1) (show (-1 : Int32) = dn (bdN (gI z 1 1) (gI z 2) (gI z 3) (gI z 5) (gI z 6) f k t) from by
          rw [hbd, show igB (gI z 6) t f (f + k) w7 = true from by unfold igB; rw [decide_eq_true (by omega)], if_pos rfl]
          rfl)
        refine ⟨M2, a1, a2, a3, a4, a5, ?_⟩
        unfold fWays_rowsAhead_J106
        rw [if_neg (ix_ok hk3 (by omega)), if_neg one_ne, if_neg (ix_ok ht (by omega)), nI_clamp (show k < 2 ^ 31 by omega), nI_clamp (show t < 2 ^ 31 by omega), nI_s]
        exact a6
theorem dnA_cong {z M M2 : MS} {f n t : Nat} (h : dnA z M f n t) (h20 : gI M2 20 t = gI M 20 t) (h22 : ∀ k, gI M2 (22 + k) t = gI M (22 + k) t) : dnA z M2 f n t :=
  ⟨h20.trans h.1, fun k hk => (h22 k).trans (h.2 k hk)⟩
theorem ah18 (z : MS) {F : Nat → Int32} (hv : HV (gI z 1 0) (gI z 1 1) (gI z 2) (gI z 3) (gI z 4) (gI z 5) (gI z 6) (gI z 7) F) {m f n p : Nat} (hm : m ≤ 8) (e1 : gI z 1 0 = nI m) (hn : n ≤ 3) (hf : f + n ≤ 10) (hp : p < m) (K2 : MS → Int32 → Option (Int32 × MS)) :
    ∀ (e q g : Nat) (M : MS), q + e = m → e < g → p < q → frA z M → (∀ a b, a < b → b < m → (a < p ∨ (a = p ∧ b < q)) → dnA z M f n (8 * a + b)) → ∃ M2, frA z M2 ∧ (∀ a b, a < b → b < m → a < p + 1 → dnA z M2 f n (8 * a + b)) ∧ fWays_rowsAhead_L18 K2 (nI f) (nI n) (nI p) g M (nI q) = K2 M2 (nI (p + 1)) := by
  intro e
  induction e with
  | zero =>
    intro q g M hq hg hpq hM hD
    obtain ⟨g, rfl⟩ : ∃ m, g = m + 1 := ⟨g - 1, by omega⟩
    have hq : q = m := hq
    subst hq
    have g1 : gI M 1 0 = nI q := by rw [hM.1 1 (by decide) (by decide) (by decide) (by decide)]; exact e1
    refine ⟨M, hM, fun a b h1 h2 h3 => hD a b h1 h2 (by omega), ?_⟩
    rw [fWays_rowsAhead_L18, g1, if_pos (Int32.le_refl _), nI_s]
  | succ e ih =>
    intro q g M hq hg hpq hM hD
    obtain ⟨g, rfl⟩ : ∃ m, g = m + 1 := ⟨g - 1, by omega⟩
    have g1 : gI M 1 0 = nI m := by rw [hM.1 1 (by decide) (by decide) (by decide) (by decide)]; exact e1
    have h6 : gI M 6 = gI z 6 := hM.1 6 (by decide) (by decide) (by decide) (by decide)
    have h5 : gI M 5 = gI z 5 := hM.1 5 (by decide) (by decide) (by decide) (by decide)
    have h4 : gI M 4 = gI z 4 := hM.1 4 (by decide) (by decide) (by decide) (by decide)
    have ht : 8 * p + q < 64 := by omega
    have hpr : pr p q = 8 * p + q := (pr_lt hpq).1
    have htr := trust_c (c := M) (F := F) (frA_HV hM hv) (show p < 8 by omega) (show q < 8 by omega) (show p ≠ q by omega) (show f ≤ 10 by omega)
    rw [hpr, h6, h5, h4] at htr
    have hM1 : frA z (pI M 20 (8 * p + q) (nI (trK (gI z 5) (gI z 6) (gI z 4) (8 * p + q) f))) := frA_w hM (by omega) _ _
    have h61 : gI (pI M 20 (8 * p + q) (nI (trK (gI z 5) (gI z 6) (gI z 4) (8 * p + q) f))) 6 = gI z 6 := hM1.1 6 (by decide) (by decide) (by decide) (by decide)
    have hls := lastDay_c (c := pI M 20 (8 * p + q) (nI (trK (gI z 5) (gI z 6) (gI z 4) (8 * p + q) f))) (by rw [h61]; exact HV_SO hv) ht (show f ≤ 10 by omega)
    rw [h61] at hls
    obtain ⟨M2, a1, a2, a3, a4, a5, a6⟩ := ah70 z hv (f := f) (n := n) (t := 8 * p + q) (q := q) hn hf ht (by omega) (fWays_rowsAhead_L18 K2 (nI f) (nI n) (nI p) g) n 0 LF _ (by omega) (by unfold LF; omega) hM1
    obtain ⟨M3, b1, b2, b3⟩ := ih (q + 1) g M2 (by omega) (by omega) (by omega) a1 (by
      intro a b hab hb hc
      by_cases c : 8 * a + b = 8 * p + q
      · rw [c]
        refine ⟨?_, fun k hk => a5 k (by omega) hk⟩
        rw [a2, gI_pI, if_pos rfl, upd_a, if_pos rfl]
      · refine dnA_cong (hD a b hab hb (by omega)) ?_ ?_
        · rw [a2, gI_pI, if_pos rfl, upd_a, if_neg c]
        · intro k
          rw [a3 k _ c, gI_pI, if_neg (by omega)])
    refine ⟨M3, b1, b2, ?_⟩
    rw [fWays_rowsAhead_L18, g1, if_neg (nI_ge (by omega) (by omega)), pairOf_nI (by omega) (by omega), hpr, htr, obs, if_neg (ix_ok ht (by omega)), nI_clamp (show 8 * p + q < 2 ^ 31 by omega), hls, obs]
    exact a6.trans b3
theorem ah2 (z : MS) {F : Nat → Int32} (hv : HV (gI z 1 0) (gI z 1 1) (gI z 2) (gI z 3) (gI z 4) (gI z 5) (gI z 6) (gI z 7) F) {m f n : Nat} (hm : m ≤ 8) (e1 : gI z 1 0 = nI m) (hn : n ≤ 3) (hf : f + n ≤ 10) :
    ∃ M2, frA z M2 ∧ (∀ a b, a < b → b < m → dnA z M2 f n (8 * a + b)) ∧ fWays_rowsAhead z (nI f) (nI n) = ob2 (fWays_countRows 6 M2 0 (nI n)) (fun w158 zc158 => some (w158, zc158)) := by
  have key : ∀ (e p g : Nat) (M : MS), p + e = m → e < g → frA z M → (∀ a b, a < b → b < m → a < p → dnA z M f n (8 * a + b)) → ∃ M2, frA z M2 ∧ (∀ a b, a < b → b < m → dnA z M2 f n (8 * a + b)) ∧ fWays_rowsAhead_L2 (nI f) (nI n) g M (nI p) = ob2 (fWays_countRows 6 M2 0 (nI n)) (fun w158 zc158 => some (w158, zc158)) := by
    intro e
    induction e with
    | zero =>
      intro p g M hp hg hM hD
      obtain ⟨g, rfl⟩ : ∃ m, g = m + 1 := ⟨g - 1, by omega⟩
      have hp : p = m := hp
      subst hp
      have g1 : gI M 1 0 = nI p := by rw [hM.1 1 (by decide) (by decide) (by decide) (by decide)]; exact e1
      refine ⟨M, hM, fun a b h1 h2 => hD a b h1 h2 (by omega), ?_⟩
      rw [fWays_rowsAhead_L2, g1, if_pos (Int32.le_refl _)]
    | succ e ih =>
      intro p g M hp hg hM hD
      obtain ⟨g, rfl⟩ : ∃ m, g = m + 1 := ⟨g - 1, by omega⟩
      have g1 : gI M 1 0 = nI m := by rw [hM.1 1 (by decide) (by decide) (by decide) (by decide)]; exact e1
      obtain ⟨M2, a1, a2, a3⟩ := ah18 z hv hm e1 hn hf (show p < m by omega) (fWays_rowsAhead_L2 (nI f) (nI n) g) (m - (p + 1)) (p + 1) LF M (by omega) (by unfold LF; omega) (by omega) hM (by
        intro a b h1 h2 h3
        exact hD a b h1 h2 (by omega))
      obtain ⟨M3, b1, b2, b3⟩ := ih (p + 1) g M2 (by omega) (by omega) a1 a2
      refine ⟨M3, b1, b2, ?_⟩
      rw [fWays_rowsAhead_L2, g1, if_neg (nI_ge (by omega) (by omega)), nI_s]
      exact a3.trans b3
  exact key m 0 LF z (by omega) (by unfold LF; omega) ⟨fun _ _ _ _ _ => rfl, fun _ => rfl⟩ (fun a b _ _ h => by omega)
