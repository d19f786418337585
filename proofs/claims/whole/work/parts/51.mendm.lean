theorem keeps_m (y : MS) {d m : Nat} (hm : m ≤ 3) (hd : d + m ≤ 10) : fM_keepsPosts y (nI d) (nI m) = some (wI y 70 (fa_fill (fun k => gI y 60 (4 * d + k)) (gI y 70) (4 * m))) := by
  have t4 : (4 * nI m : Int32) = nI (4 * m) := by rw [show (4 : Int32) = nI 4 from rfl, pk_mul]
  have td : (4 * nI d : Int32) = nI (4 * d) := by rw [show (4 : Int32) = nI 4 from rfl, pk_mul]
  have key : ∀ (e i f : Nat), i + e = 4 * m → e < f → fM_keepsPosts_L2 (nI d) (nI m) f (wI y 70 (fa_fill (fun k => gI y 60 (4 * d + k)) (gI y 70) i)) (nI i) = some (wI y 70 (fa_fill (fun k => gI y 60 (4 * d + k)) (gI y 70) (4 * m))) := by
    intro e
    induction e with
    | zero =>
      intro i f hi hf
      obtain ⟨f, rfl⟩ : ∃ m, f = m + 1 := ⟨f - 1, by omega⟩
      have hi : i = 4 * m := hi
      subst hi
      rw [fM_keepsPosts_L2, t4, if_pos (Int32.le_refl _)]
    | succ e ih =>
      intro i f hi hf
      obtain ⟨f, rfl⟩ : ∃ m, f = m + 1 := ⟨f - 1, by omega⟩
      have g : ∀ F, gI (wI y 70 F) 60 (4 * d + i) = (fun k => gI y 60 (4 * d + k)) i := fun F => rfl
      rw [fM_keepsPosts_L2, t4, if_neg (nI_ge (by omega) (by omega)), td, nI_add, if_neg (ix_ok (show 4 * d + i < 40 by omega) (by omega)), if_neg (ix_ok (show i < 12 by omega) (by omega)), nI_clamp (by omega), nI_clamp (by omega), g, pI_wI, fa_fill_succ, nI_s]
      exact ih (i + 1) f (by omega) (by omega)
  have := key (4 * m) 0 LF (by omega) (by unfold LF; omega)
  rw [fa_fill_0, wI_self] at this
  exact this
theorem gives_m (y : MS) {d m : Nat} (hm : m ≤ 3) (hd : d + m ≤ 10) : fM_givesPosts y (nI d) (nI m) = some (wI y 60 (mvF (gI y 70) (gI y 60) (4 * d) (4 * m))) := by
  have t4 : (4 * nI m : Int32) = nI (4 * m) := by rw [show (4 : Int32) = nI 4 from rfl, pk_mul]
  have td : (4 * nI d : Int32) = nI (4 * d) := by rw [show (4 : Int32) = nI 4 from rfl, pk_mul]
  have key : ∀ (e i f : Nat), i + e = 4 * m → e < f → fM_givesPosts_L2 (nI d) (nI m) f (wI y 60 (mvF (gI y 70) (gI y 60) (4 * d) i)) (nI i) = some (wI y 60 (mvF (gI y 70) (gI y 60) (4 * d) (4 * m))) := by
    intro e
    induction e with
    | zero =>
      intro i f hi hf
      obtain ⟨f, rfl⟩ : ∃ m, f = m + 1 := ⟨f - 1, by omega⟩
      have hi : i = 4 * m := hi
      subst hi
      rw [fM_givesPosts_L2, t4, if_pos (Int32.le_refl _)]
    | succ e ih =>
      intro i f hi hf
      obtain ⟨f, rfl⟩ : ∃ m, f = m + 1 := ⟨f - 1, by omega⟩
      have g : ∀ F, gI (wI y 60 F) 70 i = gI y 70 i := fun F => rfl
      rw [fM_givesPosts_L2, t4, if_neg (nI_ge (by omega) (by omega)), td, nI_add, if_neg (ix_ok (show i < 12 by omega) (by omega)), if_neg (ix_ok (show 4 * d + i < 40 by omega) (by omega)), nI_clamp (show i < 2 ^ 31 by omega), nI_clamp (show 4 * d + i < 2 ^ 31 by omega), g, pI_wI, mvF_s, nI_s]
      exact ih (i + 1) f (by omega) (by omega)
  have := key (4 * m) 0 LF (by omega) (by unfold LF; omega)
  rw [mvF_0, wI_self] at this
  exact this
def uX (x : Nat) : Nat → Nat
  | 0 => 0
  | j + 1 => uX x j ||| 2 ^ dgX x j
def vX (n : Nat) (A : Nat → Int32) (d x : Nat) : Nat → Bool
  | 0 => true
  | j + 1 => vX n A d x j && (decide (dgX x j < n) && (!kbt (A (dgX x j)) d && !(uX x j).testBit (dgX x j)))
theorem uX_lt (x : Nat) : ∀ j, uX x j < 256 := by
  intro j
  induction j with
  | zero => exact (by decide : 0 < 256)
  | succ j ih => exact Nat.or_lt_two_pow (n := 8) ih (Nat.pow_lt_pow_right (by decide) (dgX_lt x j))
theorem vX_f {n : Nat} {A : Nat → Int32} {d x j : Nat} (h : vX n A d x j = false) : ∀ e, vX n A d x (j + e) = false := by
  intro e
  induction e with
  | zero => exact h
  | succ e ih => rw [show j + (e + 1) = (j + e) + 1 by omega, vX, ih, Bool.false_and]
theorem dgt {x : Nat} (hx : x < 4096) {j : Nat} (hj : j < 4) : ((nI x >>> ((3 * (3 - nI j)) &&& 31)) &&& 7) = nI (dgX x j) := by
  rcases (show j = 0 ∨ j = 1 ∨ j = 2 ∨ j = 3 by omega) with rfl | rfl | rfl | rfl
  · rw [pk_shrN (n := x) (by omega) ((3 * (3 - nI 0)) &&& 31) 9 (by decide), show (7 : Int32) = nI (2 ^ 3 - 1) from rfl, fa_mask]; rfl
  · rw [pk_shrN (n := x) (by omega) ((3 * (3 - nI 1)) &&& 31) 6 (by decide), show (7 : Int32) = nI (2 ^ 3 - 1) from rfl, fa_mask]; rfl
  · rw [pk_shrN (n := x) (by omega) ((3 * (3 - nI 2)) &&& 31) 3 (by decide), show (7 : Int32) = nI (2 ^ 3 - 1) from rfl, fa_mask]; rfl
  · rw [pk_shrN (n := x) (by omega) ((3 * (3 - nI 3)) &&& 31) 0 (by decide), show (7 : Int32) = nI (2 ^ 3 - 1) from rfl, fa_mask, show (2 : Nat) ^ 0 = 1 from rfl, Nat.div_one]; rfl
theorem isP_m : ∀ p, p < 8 → ∀ n, n < 9 → fM_in (nI p) 0 (nI n - 1) = if p < n then 1 else 0 := by decide +kernel
theorem comes_m {y : MS} {n : Nat} (hn : n ≤ 8) (e0 : gI y 56 0 = nI n) (hA : ∀ p, p < 8 → lt (gI y 58 p) 1024) {d x : Nat} (hd : d < 10) (hx : x < 4096) :
    ∀ (e j f : Nat) (G : Nat → Int32), j + e = 4 → e < f → vX n (gI y 58) d x j = true → ∃ G2, (∀ i, i < 4 * d + j ∨ 4 * d + 4 ≤ i → G2 i = G i) ∧ ((∀ i, i < 40 → G i = -1 ∨ lt (G i) n) → ∀ i, i < 40 → G2 i = -1 ∨ lt (G2 i) n) ∧ fM_comes_L5 (nI d) (nI x) f (wI y 60 G) (nI (uX x j)) (nI j) = some (if vX n (gI y 58) d x 4 then 1 else 0, wI y 60 G2) ∧ (vX n (gI y 58) d x 4 = true → ∀ i, j ≤ i → i < 4 → G2 (4 * d + i) = nI (dgX x i)) := by
  intro e
  induction e with
  | zero =>
    intro j f G hj hf hv
    obtain ⟨f, rfl⟩ : ∃ m, f = m + 1 := ⟨f - 1, by omega⟩
    have hj : j = 4 := hj
    subst hj
    refine ⟨G, fun _ _ => rfl, fun h => h, ?_, fun _ i h1 h2 => by omega⟩
    rw [fM_comes_L5, if_pos (show (4 : Int32) ≤ nI 4 from Int32.le_refl _), hv, if_pos rfl]
  | succ e ih =>
    intro j f G hj hf hv
    obtain ⟨f, rfl⟩ : ∃ m, f = m + 1 := ⟨f - 1, by omega⟩
    have hj4 : j < 4 := by omega
    have hp8 := dgX_lt x j
    have hu := uX_lt x j
    have hs : vX n (gI y 58) d x (j + 1) = (decide (dgX x j < n) && (!kbt (gI y 58 (dgX x j)) d && !(uX x j).testBit (dgX x j))) := by rw [vX, hv, Bool.true_and]
    have stop : vX n (gI y 58) d x (j + 1) = false → ∃ G2, (∀ i, i < 4 * d + j ∨ 4 * d + 4 ≤ i → G2 i = G i) ∧ ((∀ i, i < 40 → G i = -1 ∨ lt (G i) n) → ∀ i, i < 40 → G2 i = -1 ∨ lt (G2 i) n) ∧ some ((0 : Int32), wI y 60 G) = some (if vX n (gI y 58) d x 4 then 1 else 0, wI y 60 G2) ∧ (vX n (gI y 58) d x 4 = true → ∀ i, j ≤ i → i < 4 → G2 (4 * d + i) = nI (dgX x i)) := by
      intro hf
      have h4 := vX_f hf e
      rw [show j + 1 + e = 4 by omega] at h4
      refine ⟨G, fun _ _ => rfl, fun h => h, by rw [h4, if_neg ftn], fun h => by rw [h4] at h; cases h⟩
    have hper : ∀ G, fM_isPerson (wI y 60 G) (nI (dgX x j)) = if dgX x j < n then 1 else 0 := by
      intro G
      show fM_in (nI (dgX x j)) 0 (gI y 56 0 - 1) = _
      rw [e0]
      exact isP_m _ hp8 n (by omega)
    have haw : ∀ G, fM_isAway (wI y 60 G) (nI (dgX x j)) (nI d) = some (if kbt (gI y 58 (dgX x j)) d then 1 else 0) := fun G => isAway_m (c := wI y 60 G) hA hp8 hd
    have hkb : kbt (nI (uX x j)) (dgX x j) = (uX x j).testBit (dgX x j) := by unfold kbt; rw [cl_nI (by omega)]
    rw [fM_comes_L5, if_neg (ge4 hj4), dgt hx hj4, hper, haw, obs, getB (lt_nI hu (by omega)) (by omega) (show dgX x j < 10 by omega), hkb, (sIx hd hj4).2]
    by_cases c1 : dgX x j < n
    · rw [if_pos c1, if_neg one_ne]
      rw [decide_eq_true c1, Bool.true_and] at hs
      cases c2 : kbt (gI y 58 (dgX x j)) d with
      | true =>
        rw [if_neg (show ¬ (if true = true then (1 : Int32) else 0) = 0 from one_ne)]
        exact stop (by rw [hs, c2]; rfl)
      | false =>
        rw [if_pos (show (if false = true then (1 : Int32) else 0) = 0 from rfl)]
        cases c3 : (uX x j).testBit (dgX x j) with
        | true =>
          rw [if_pos (show (if true = true then (1 : Int32) else 0) = 1 from rfl)]
          exact stop (by rw [hs, c2, c3]; rfl)
        | false =>
          rw [if_neg (show ¬ (if false = true then (1 : Int32) else 0) = 1 by decide), if_neg (ix_ok (show 4 * d + j < 40 by omega) (by omega)), nI_clamp (by omega), pI_wI, one_sh _ (by omega), fa_or, nI_s]
          obtain ⟨G2, g1, g2, g3, g4⟩ := ih (j + 1) f (upd G (4 * d + j) (nI (dgX x j))) (by omega) (by omega) (by rw [hs, c2, c3]; rfl)
          refine ⟨G2, ?_, ?_, g3, ?_⟩
          · intro i hi
            rw [g1 i (by omega), upd_a, if_neg (by omega)]
          · intro hG
            apply g2
            intro i hi
            rw [upd_a]
            by_cases c : i = 4 * d + j
            · rw [if_pos c]; exact Or.inr (lt_nI c1 (by omega))
            · rw [if_neg c]; exact hG i hi
          · intro hv4 i h1 h2
            by_cases c : i = j
            · subst c
              rw [g1 _ (by omega), upd_a, if_pos rfl]
            · exact g4 hv4 i (by omega) h2
    · rw [if_neg c1, if_pos rfl]
      exact stop (by rw [hs, decide_eq_false c1]; rfl)
theorem sv_nI {p : Nat} (h : p < 8) : sv (nI p) = p := by
  unfold sv
  rw [if_neg (nI_pos (by omega)), cl_nI (by omega)]
theorem pr_dm {p q : Nat} (hp : p < 8) (hq : q < 8) (h : p ≠ q) : (pr p q / 8 = p ∧ pr p q % 8 = q) ∨ (pr p q / 8 = q ∧ pr p q % 8 = p) := by
  rcases Nat.lt_or_gt_of_ne h with h1 | h1
  · rw [(pr_lt h1).1]; left; omega
  · rw [(pr_lt h1).2]; right; omega
/-- what is broken, with four unlike people there -/
theorem brV {n : Nat} {u : Int32} {K A T W S G : Nat → Int32} {d x : Nat} (hd : d < 10) (hK : ∀ p q, p < 8 → q < 8 → kbt (K p) q = kbt (K q) p) (hG : ∀ i, i < 4 * d → G i = S i) (hV : ∀ j, j < 4 → G (4 * d + j) = nI (dgX x j)) (hv : vX n A d x 4 = true) :
    (brN u K A T W G d = 0 ↔ okM n u K A T W S d x = true) := by
  have h0 := dgX_lt x 0
  have h1 := dgX_lt x 1
  have h2 := dgX_lt x 2
  have h3 := dgX_lt x 3
  have s0 : sv (G (4 * d)) = dgX x 0 := by rw [show 4 * d = 4 * d + 0 from rfl, hV 0 (by omega), sv_nI h0]
  have s1 : sv (G (4 * d + 1)) = dgX x 1 := by rw [hV 1 (by omega), sv_nI h1]
  have s2 : sv (G (4 * d + 2)) = dgX x 2 := by rw [hV 2 (by omega), sv_nI h2]
  have s3 : sv (G (4 * d + 3)) = dgX x 3 := by rw [hV 3 (by omega), sv_nI h3]
  have hv' := hv
  simp only [vX, uX, Bool.and_eq_true, decide_eq_true_eq, Bool.not_eq_true', Bool.true_and, Nat.testBit_or, Bool.or_eq_false_iff, Nat.testBit_two_pow, decide_eq_false_iff_not, Nat.zero_or, Nat.zero_testBit] at hv'
  obtain ⟨⟨⟨v0, v1⟩, v2⟩, v3⟩ := hv'
  have s0' : sv (G (4 * d + 0)) = dgX x 0 := s0
  unfold okM mC1 mC2 mFr
  generalize dgX x 0 = p0 at *
  generalize dgX x 1 = p1 at *
  generalize dgX x 2 = p2 at *
  generalize dgX x 3 = p3 at *
  have aw : awR A G d 4 = false := by
    show ((((false || (if sv (G (4 * d + 0)) = 8 then false else kbt (A (sv (G (4 * d + 0)))) d)) || (if sv (G (4 * d + 1)) = 8 then false else kbt (A (sv (G (4 * d + 1)))) d)) || (if sv (G (4 * d + 2)) = 8 then false else kbt (A (sv (G (4 * d + 2)))) d)) || (if sv (G (4 * d + 3)) = 8 then false else kbt (A (sv (G (4 * d + 3)))) d)) = false
    rw [s0', s1, s2, s3, if_neg (by omega), if_neg (by omega), if_neg (by omega), if_neg (by omega), v0.2.1, v1.2.1, v2.2.1, v3.2.1]
    rfl
  have tw : twR G d 4 = false := by
    have e0 : usN G d 0 = 0 := rfl
    have e1 : usN G d 1 = 0 ||| 2 ^ p0 := by rw [usN, s0', if_neg (by omega)]; rfl
    have e2 : usN G d 2 = (0 ||| 2 ^ p0) ||| 2 ^ p1 := by rw [usN, s1, if_neg (by omega), e1]
    have e3 : usN G d 3 = ((0 ||| 2 ^ p0) ||| 2 ^ p1) ||| 2 ^ p2 := by rw [usN, s2, if_neg (by omega), e2]
    show ((((false || (if sv (G (4 * d + 0)) = 8 then false else (usN G d 0).testBit (sv (G (4 * d + 0))))) || (if sv (G (4 * d + 1)) = 8 then false else (usN G d 1).testBit (sv (G (4 * d + 1))))) || (if sv (G (4 * d + 2)) = 8 then false else (usN G d 2).testBit (sv (G (4 * d + 2))))) || (if sv (G (4 * d + 3)) = 8 then false else (usN G d 3).testBit (sv (G (4 * d + 3))))) = false
    rw [s0', s1, s2, s3, if_neg (by omega), if_neg (by omega), if_neg (by omega), if_neg (by omega), e0, e1, e2, e3]
    simp only [Nat.testBit_or, Nat.zero_testBit, Nat.testBit_two_pow, Bool.false_or]
    rw [decide_eq_false v1.2.2, decide_eq_false v2.2.2.1, decide_eq_false v2.2.2.2, decide_eq_false v3.2.2.1.1, decide_eq_false v3.2.2.1.2, decide_eq_false v3.2.2.2]
    rfl
  have hpr : prN G d = pr p0 p1 := by
    unfold prN
    rw [s0, s1, if_neg (by omega)]
  have h64 := pr_64 h0 h1
  have hpe : ∀ e, e < d → prN G e = prN S e := fun e he => prN_cong (hG _ (by omega)) (hG _ (by omega))
  have hkin : kbt (K (pr p0 p1 / 8)) (pr p0 p1 % 8) = kbt (K p0) p1 := by
    rcases pr_dm h0 h1 (fun h => v1.2.2 h) with ⟨r1, r2⟩ | ⟨r1, r2⟩
    · rw [r1, r2]
    · rw [r1, r2]; exact hK p1 p0 h1 h0
  have hgp : gpB G (pr p0 p1) d (cl (W 7)) = gpB S (pr p0 p1) d (cl (W 7)) := by
    unfold gpB
    rw [lsN_cong _ d hpe]
  have htr : trK W G T (pr p0 p1) d = trK W S T (pr p0 p1) d := trS_cong _ _ _ d hpe
  unfold brN woD snD
  rw [aw, tw, hpr, if_neg ftn, if_neg ftn, if_neg (show ¬ pr p0 p1 = 64 by omega), hkin, hgp, htr, s2, s3]
  rw [decide_eq_true v0.1, decide_eq_true v1.1, decide_eq_true v2.1, decide_eq_true v3.1, decide_eq_true (show ¬ p0 = p1 from v1.2.2), v0.2.1, v1.2.1, v2.2.1, v3.2.1, decide_eq_true (show ¬ p2 = p3 from v3.2.2.2), decide_eq_true (show ¬ p2 = p0 from fun h => v2.2.2.1 h.symm), decide_eq_true (show ¬ p2 = p1 from fun h => v2.2.2.2 h.symm), decide_eq_true (show ¬ p3 = p0 from fun h => v3.2.2.1.1 h.symm), decide_eq_true (show ¬ p3 = p1 from fun h => v3.2.2.1.2 h.symm)]
  cases kbt (K p0) p1 <;> cases gpB S (pr p0 p1) d (cl (W 7)) <;> cases payB (woI W (trK W S T (pr p0 p1) d) (snN K W (pr p0 p1) p2 p3 (kbt u d))) (W 6) <;> decide
theorem okM_v {n : Nat} {u : Int32} {K A T W S : Nat → Int32} {d x : Nat} (h : okM n u K A T W S d x = true) : vX n A d x 4 = true := by
  unfold okM mC1 mC2 mFr at h
  simp only [Bool.and_eq_true, decide_eq_true_eq, Bool.not_eq_true'] at h
  obtain ⟨⟨a0, a1, a2, a3⟩, ⟨b1, b2, b3, b4, b5⟩, c1, ⟨d1, d2, d3⟩, ⟨f1, f2, f3⟩, g⟩ := h
  simp only [vX, uX, Bool.and_eq_true, decide_eq_true_eq, Bool.not_eq_true', Bool.true_and, Nat.testBit_or, Bool.or_eq_false_iff, Nat.testBit_two_pow, decide_eq_false_iff_not, Nat.zero_or, Nat.zero_testBit]
  exact ⟨⟨⟨⟨a0, b2, trivial⟩, a1, b3, b1⟩, a2, d3, fun h => d1 h.symm, fun h => d2 h.symm⟩, a3, f3, ⟨fun h => f1 h.symm, fun h => f2 h.symm⟩, c1⟩
