theorem lc0 {a : Nat} (ha : a < 2 ^ 62) : (lg_cmp (lN a) 0 = 0) ↔ a = 0 := by
  unfold lg_cmp
  have e0 : (0 : Int64) = lN 0 := rfl
  rw [e0]
  by_cases c : a = 0
  · subst c
    rw [if_neg (fun h => absurd ((pk_lLT (by omega) (by omega)).mp h) (by omega)), if_pos rfl]
    exact ⟨fun _ => rfl, fun _ => rfl⟩
  · rw [if_pos (show lN 0 < lN a from (pk_lLT (by omega) (by omega)).mpr (by omega))]
    exact ⟨fun h => absurd h one_ne, fun h => absurd h c⟩
theorem lc1 {a : Nat} (ha : a < 2 ^ 62) : (lg_cmp (lN a) 1 ≤ 0) ↔ a ≤ 1 := by
  unfold lg_cmp
  have e0 : (1 : Int64) = lN 1 := rfl
  rw [e0]
  by_cases c : 1 < a
  · rw [if_pos (show lN 1 < lN a from (pk_lLT (by omega) (by omega)).mpr c)]
    exact ⟨fun h => absurd h (by decide), fun h => by omega⟩
  · rw [if_neg (fun h => c ((pk_lLT (by omega) (by omega)).mp h))]
    by_cases c2 : lN a = lN 1
    · rw [if_pos c2]; exact ⟨fun _ => by omega, fun _ => by decide⟩
    · rw [if_neg c2]; exact ⟨fun _ => by omega, fun _ => by decide⟩
theorem lne0 {a : Nat} (ha : a < 2 ^ 62) (h : 0 < a) : ¬ lN a = 0 := fun e => by
  have := (pk_lEQ (b := 0) (by omega) (by omega)).mp e
  omega
theorem lrmN {a b : Nat} (ha : a < 2 ^ 62) (h : 0 < b) (hb : b < 2 ^ 62) : lrm (lN a) (lN b) = lN (a % b) := pk_lRem (by omega) h (by omega)
theorem euc (z : MS) : ∀ (k a b : Nat), b < 2 ^ k → a < 2 ^ 62 → b < 2 ^ 62 → 0 < a + b → ∃ g, 0 < g ∧ g < 2 ^ 62 ∧ (∀ i n, i + 2 * k < 200 → 2 * k < n → fOdds_reduce_L13 z n (lN a) (lN b) (nI i) = fOdds_reduce_J43 z (lN g)) ∧ ∀ (y : MS) (A B : Int64) (n : Nat), 2 * k < n → fM_lowest_L6 y A B n (lN a) (lN b) = some (pJ (pJ y 56 25 (A / lN g)) 56 26 (B / lN g)) := by
  have base : ∀ a, a < 2 ^ 62 → 0 < a → (∀ i n, i < 200 → 0 < n → fOdds_reduce_L13 z n (lN a) (lN 0) (nI i) = fOdds_reduce_J43 z (lN a)) ∧ ∀ (y : MS) (A B : Int64) (n : Nat), 0 < n → fM_lowest_L6 y A B n (lN a) (lN 0) = some (pJ (pJ y 56 25 (A / lN a)) 56 26 (B / lN a)) := by
    intro a ha h0
    have hne := lne0 ha h0
    refine ⟨?_, ?_⟩
    · intro i n hi hn
      obtain ⟨n, rfl⟩ : ∃ m, n = m + 1 := ⟨n - 1, by omega⟩
      rw [fOdds_reduce_L13, if_neg (show ¬ (200 : Int32) ≤ nI i from nI_ge (b := 200) hi (by omega)), if_pos ((lc0 (by omega)).mpr rfl)]
    · intro y A B n hn
      obtain ⟨n, rfl⟩ : ∃ m, n = m + 1 := ⟨n - 1, by omega⟩
      rw [fM_lowest_L6, if_pos ((lc0 (by omega)).mpr rfl), if_neg hne, if_neg hne]
  have stepC : ∀ a b, a < 2 ^ 62 → b < 2 ^ 62 → 0 < b → ∀ i n, i < 200 → fOdds_reduce_L13 z (n + 1) (lN a) (lN b) (nI i) = fOdds_reduce_L13 z n (lN b) (lN (a % b)) (nI (i + 1)) := by
    intro a b ha hb h0 i n hi
    rw [fOdds_reduce_L13, if_neg (show ¬ (200 : Int32) ≤ nI i from nI_ge (b := 200) hi (by omega)), if_neg (fun e => by have := (lc0 hb).mp e; omega), if_neg (lne0 hb h0), lrmN ha h0 hb, nI_s]
  have stepM : ∀ a b, a < 2 ^ 62 → b < 2 ^ 62 → 0 < b → ∀ (y : MS) (A B : Int64) n, fM_lowest_L6 y A B (n + 1) (lN a) (lN b) = fM_lowest_L6 y A B n (lN b) (lN (a % b)) := by
    intro a b ha hb h0 y A B n
    rw [fM_lowest_L6, if_neg (fun e => by have := (lc0 hb).mp e; omega), if_neg (lne0 hb h0), lrmN ha h0 hb]
  intro k
  induction k with
  | zero =>
    intro a b hb ha hb2 h0
    have : b = 0 := by
      have : (2 : Nat) ^ 0 = 1 := rfl
      omega
    subst this
    obtain ⟨h1, h2⟩ := base a ha (by omega)
    exact ⟨a, by omega, ha, fun i n hi hn => h1 i n (by omega) (by omega), fun y A B n hn => h2 y A B n (by omega)⟩
  | succ k ih =>
    intro a b hb ha hb2 h0
    have hp : 2 ^ (k + 1) = 2 * 2 ^ k := by rw [Nat.pow_succ, Nat.mul_comm]
    by_cases b0 : b = 0
    · subst b0
      obtain ⟨h1, h2⟩ := base a ha (by omega)
      exact ⟨a, by omega, ha, fun i n hi hn => h1 i n (by omega) (by omega), fun y A B n hn => h2 y A B n (by omega)⟩
    · have hr : a % b < b := Nat.mod_lt _ (by omega)
      by_cases r0 : a % b = 0
      · obtain ⟨h1, h2⟩ := base b hb2 (by omega)
        refine ⟨b, by omega, hb2, ?_, ?_⟩
        · intro i n hi hn
          obtain ⟨n, rfl⟩ : ∃ m, n = m + 1 := ⟨n - 1, by omega⟩
          rw [stepC a b ha hb2 (by omega) i n (by omega), r0]
          exact h1 (i + 1) n (by omega) (by omega)
        · intro y A B n hn
          obtain ⟨n, rfl⟩ : ∃ m, n = m + 1 := ⟨n - 1, by omega⟩
          rw [stepM a b ha hb2 (by omega) y A B n, r0]
          exact h2 y A B n (by omega)
      · have hr2 : b % (a % b) < 2 ^ k := by
          have h1 : b % (a % b) < a % b := Nat.mod_lt _ (by omega)
          have h2 : b % (a % b) + a % b ≤ b := by
            have h3 := Nat.div_add_mod b (a % b)
            have h4 : 0 < b / (a % b) := Nat.div_pos (by omega) (by omega)
            have h5 : (a % b) * 1 ≤ (a % b) * (b / (a % b)) := Nat.mul_le_mul_left _ h4
            omega
          omega
        have hr1 : b % (a % b) < a % b := Nat.mod_lt _ (by omega)
        obtain ⟨g, g1, g2, g3, g4⟩ := ih (a % b) (b % (a % b)) hr2 (by omega) (by omega) (by omega)
        refine ⟨g, g1, g2, ?_, ?_⟩
        · intro i n hi hn
          obtain ⟨n, rfl⟩ : ∃ m, n = m + 1 + 1 := ⟨n - 2, by omega⟩
          rw [stepC a b ha hb2 (by omega) i (n + 1) (by omega), stepC b (a % b) hb2 (by omega) (by omega) (i + 1) n (by omega)]
          exact g3 (i + 1 + 1) n (by omega) (by omega)
        · intro y A B n hn
          obtain ⟨n, rfl⟩ : ∃ m, n = m + 1 + 1 := ⟨n - 2, by omega⟩
          rw [stepM a b ha hb2 (by omega) y A B (n + 1), stepM b (a % b) hb2 (by omega) (by omega) y A B n]
          exact g4 y A B n (by omega)
/-- the class' memory with a fraction -/
def bz (z : MS) (A B : Int64) : MS := pJ (pJ z 18 2 A) 18 3 B
theorem bz_bz (z : MS) (A B C D : Int64) : pJ (pJ (bz z A B) 18 2 C) 18 3 D = bz z C D := by
  unfold bz pJ
  rw [gJ_wJ, gJ_wJ, gJ_wJ, gJ_wJ, wJ_wJ, wJ_wJ, wJ_wJ, wJ_wJ]
  congr 1
  funext i
  simp only [updL_a]
  by_cases c : i = 3
  · rw [if_pos c, if_pos c]
  · rw [if_neg c, if_neg c, if_neg c]
    by_cases c2 : i = 2
    · rw [if_pos c2, if_pos c2]
    · rw [if_neg c2, if_neg c2, if_neg c2]
theorem low (z : MS) {a b : Nat} (ha : a < 2 ^ 62) (hb : b < 2 ^ 62) (h0 : 0 < b) : ∃ g, 0 < g ∧ fOdds_reduce (bz z (lN a) (lN b)) = some (bz z (lN (a / g)) (lN (b / g))) ∧ ∀ y, fM_lowest y (lN a) (lN b) = some (pJ (pJ y 56 25 (lN (a / g))) 56 26 (lN (b / g))) := by
  obtain ⟨g, g1, g2, g3, g4⟩ := euc (bz z (lN a) (lN b)) 62 a b hb ha hb (by omega)
  refine ⟨g, g1, ?_, ?_⟩
  · unfold fOdds_reduce
    have r : fOdds_reduce_L13 (bz z (lN a) (lN b)) LF (lN a) (lN b) (nI 0) = _ := g3 0 LF (by omega) (by unfold LF; omega)
    show fOdds_reduce_L13 (bz z (lN a) (lN b)) LF (lN a) (lN b) (nI 0) = _
    rw [r]
    unfold fOdds_reduce_J43
    by_cases c : g ≤ 1
    · have : g = 1 := by omega
      subst this
      rw [if_pos ((lc1 g2).mpr c), Nat.div_one, Nat.div_one]
    · rw [if_neg (fun h => c ((lc1 g2).mp h)), if_neg (lne0 g2 g1), if_neg (lne0 g2 g1)]
      have d1 : gJ (bz z (lN a) (lN b)) 18 2 = lN a := rfl
      have d2 : ∀ C, gJ (pJ (bz z (lN a) (lN b)) 18 2 C) 18 3 = lN b := fun C => rfl
      rw [d1, d2, bz_bz, pk_lDiv (by omega) g1 (by omega), pk_lDiv (by omega) g1 (by omega)]
  · intro y
    unfold fM_lowest
    rw [g4 y (lN a) (lN b) LF (by unfold LF; omega), pk_lDiv (by omega) g1 (by omega), pk_lDiv (by omega) g1 (by omega)]
def O2J (T M : MS → Option (Int64 × MS)) (z : MS) : Prop := ∃ r z1 z2, T z = some (r, z1) ∧ M z1 = some (r, z2) ∧ RR z2 z2
theorem side_cl {x : Int32} {d : Nat} (hd : d < 2) (e : x = nI d) : (x = 0 ↔ d = 0) := by
  subst e
  rcases (show d = 0 ∨ d = 1 by omega) with rfl | rfl
  · exact ⟨fun _ => rfl, fun _ => rfl⟩
  · exact ⟨fun h => absurd h (by decide), fun h => absurd h (by decide)⟩
theorem RR_J {z y : MS} (h : RR z z) (h1 : gI y = gI z) (h2 : gJ y 79 = gJ z 79) : RR y y := by
  unfold RR RH RP RT RO RS RV RA RK RC
  rw [h1, h2]
  exact h
theorem best_step {a b s w t v : Nat} (hs : s ≤ 12) (hw : w ≤ 20) (ht : t < 10) (hv : v < 100) (hb : b ≤ 61917364224) (ha : a ≤ 1800 * b) :
    ((((12 - nI s : Int32).toInt64) * ((((nI w).toInt64 * (nI t).toInt64) * lN b) + lN a)) - ((nI s).toInt64 * ((nI v).toInt64 * lN b)) = lN ((12 - s) * (w * t * b + a)) - lN (s * (v * b))) ∧ ((((12 - nI s : Int32).toInt64) * ((((nI w) * (nI t) : Int32).toInt64 * lN b) + lN a)) - (((nI s).toInt64 * (nI v).toInt64) * lN b) = lN ((12 - s) * (w * t * b + a)) - lN (s * (v * b))) ∧ s * (v * b) < 2 ^ 62 ∧ (12 - s) * (w * t * b + a) ≤ 12 * (180 * b + a) := by
  have hwt : w * t ≤ 180 := by
    have h1 : w * t ≤ 20 * 9 := Nat.mul_le_mul hw (by omega)
    omega
  have e12 : (12 - nI s : Int32) = nI (12 - s) := pk_sub (a := 12) hs
  rw [e12, nI_l (show 12 - s < 2 ^ 31 by omega), nI_l (show s < 2 ^ 31 by omega), nI_l (show w < 2 ^ 31 by omega), nI_l (show t < 2 ^ 31 by omega), nI_l (show v < 2 ^ 31 by omega), pk_mul, nI_l (show w * t < 2 ^ 31 by omega)]
  simp only [lN_mul, lN_add]
  have hsv : s * v ≤ 12 * 99 := Nat.mul_le_mul hs (by omega)
  refine ⟨trivial, by rw [Nat.mul_assoc s v b], ?_, ?_⟩
  · rw [← Nat.mul_assoc]
    have : s * v * b ≤ 1188 * 61917364224 := Nat.mul_le_mul hsv hb
    omega
  · refine Nat.mul_le_mul (by omega) ?_
    have := Nat.mul_le_mul_right b hwt
    omega
theorem lN_back {k q p : Nat} (hk : k < 2 ^ 63) (hq : q < 2 ^ 62) (hp : p < 2 ^ 63) (h : lN p - lN q = lN k) : k + q = p := by
  have h1 : lN (k + q) = lN p := by
    rw [← lN_add, ← h, Int64.sub_add_cancel]
  have h2 : (lN (k + q)).toBitVec.toNat = (lN p).toBitVec.toNat := by rw [h1]
  rwa [wb_tn (by omega), wb_tn (by omega)] at h2
theorem best_loop (z y : MS) {F : Nat → Int32} (h : HV (gI z 1 0) (gI z 1 1) (gI z 2) (gI z 3) (gI z 4) (gI z 5) (gI z 6) (gI z 7) F) (hm : ∀ A B, HM (bz z A B) (gI z 1 0) (gI z 1 1) (gI z 2) (gI z 3) (gI z 4) (gI z 5) (gI z 6) (gI z 7)) {p q : Nat} (hp : p < 8) (hq : q < 8) (hpq : p ≠ q) (part : Int32) :
    ∀ (e n j a : Nat), e ≤ 10 → e < n → j + e ≤ 10 → a ≤ 180 * j * 12 ^ j → ∃ a2 j2, j2 ≤ 10 ∧ a2 ≤ 180 * j2 * 12 ^ j2 ∧ fOdds_findBest_L13 (nI (pr p q)) n (bz z (lN a) (lN (12 ^ j))) (dn e) = Option.bind (fOdds_reduce (bz z (lN a2) (lN (12 ^ j2)))) (fun zc => some zc) ∧ ∀ C D, fM_best_L30 (bz z C D) (nI p) (nI q) part n (lN a) (lN (12 ^ j)) (dn e) = Option.bind (fM_lowest (bz z C D) (lN a2) (lN (12 ^ j2))) (fun zc => if part = 0 then some (gJ zc 56 25, zc) else some (gJ zc 56 26, zc)) := by
  have hS := HV_SO h
  have hk := pr_64 hp hq
  intro e
  induction e with
  | zero =>
    intro n j a _ hn hj ha
    obtain ⟨n, rfl⟩ : ∃ m, n = m + 1 := ⟨n - 1, by omega⟩
    refine ⟨a, j, by omega, ha, ?_, ?_⟩
    · rw [fOdds_findBest_L13, if_pos (show dn 0 < 0 by decide)]
    · intro C D
      rw [fM_best_L30, if_pos (show dn 0 < 0 by decide)]
  | succ e ih =>
    intro n j a he hn hj ha
    obtain ⟨n, rfl⟩ : ∃ m, n = m + 1 := ⟨n - 1, by omega⟩
    have he10 : e < 10 := by omega
    have hle := prN_le hS he10
    have hneg : ¬ dn (e + 1) < 0 := fun h => absurd ((dn_neg (e + 1) (by omega)).mp h) (by omega)
    have hpo : fHouse_pairOn (bz z (lN a) (lN (12 ^ j))) (nI e) = some (o64 (prN (gI z 6) e)) := pairOn_c (c := bz z (lN a) (lN (12 ^ j))) hS he10
    by_cases c : prN (gI z 6) e = pr p q
    · have hk64 : ¬ prN (gI z 6) e = 64 := by omega
      obtain ⟨w, hw, ew, -⟩ := lt_ex (h.2.2.2.2.2.2.2.2.1 0 (by omega))
      obtain ⟨v, hv, ev, -⟩ := lt_ex (h.2.2.2.2.2.2.2.2.1 1 (by omega))
      have hw : w < 21 := hw
      have hv : v < 100 := hv
      have hs := snD_le (gI z 2) (gI z 5) (gI z 6) e (kbt (gI z 1 1) e)
      have ht := trK_lt h hp hq hpq e
      have hcs := seenOn_c (c := bz z (lN a) (lN (12 ^ j))) hS (HV_KO h) h.2.1 he10 hk64
      have hct := trust_c (c := bz z (lN a) (lN (12 ^ j))) (F := F) h hp hq hpq (show e ≤ 10 by omega)
      have hpw : (12 : Nat) ^ j ≤ 61917364224 := Nat.pow_le_pow_right (n := 12) (by omega) (show j ≤ 10 by omega)
      have ha18 : a ≤ 1800 * 12 ^ j := by
        refine Nat.le_trans ha (Nat.mul_le_mul_right _ ?_)
        omega
      obtain ⟨b1, b2, b3, b4⟩ := best_step (a := a) (b := 12 ^ j) (s := snD (gI z 2) (gI z 5) (gI z 6) e (kbt (gI z 1 1) e)) (w := w) (t := trK (gI z 5) (gI z 6) (gI z 4) (pr p q) e) (v := v) hs (by omega) ht hv hpw ha18
      generalize hSe : snD (gI z 2) (gI z 5) (gI z 6) e (kbt (gI z 1 1) e) = se at *
      generalize hTe : trK (gI z 5) (gI z 6) (gI z 4) (pr p q) e = te at *
      have hP : (12 - se) * (w * te * 12 ^ j + a) < 2 ^ 62 := by omega
      have e12 : (12 : Int64) * lN a = lN (12 * a) := lN_mul 12 a
      -- the new value
      obtain ⟨a', ha', x1, x2⟩ : ∃ a', a' ≤ 180 * (j + 1) * 12 ^ (j + 1) ∧ mxJ (lN (12 * a)) (lN ((12 - se) * (w * te * 12 ^ j + a)) - lN (se * (v * 12 ^ j))) = lN a' ∧ (if lg_cmp (lN (12 * a)) (lN ((12 - se) * (w * te * 12 ^ j + a)) - lN (se * (v * 12 ^ j))) ≤ 0 then (lN ((12 - se) * (w * te * 12 ^ j + a)) - lN (se * (v * 12 ^ j))) else lN (12 * a)) = lN a' := by
        have hb1 : 12 * (180 * 12 ^ j + a) ≤ 180 * (j + 1) * 12 ^ (j + 1) := by
          have e1 : (12 : Nat) ^ (j + 1) = 12 * 12 ^ j := by rw [Nat.pow_succ, Nat.mul_comm]
          have e2 : 180 * (j + 1) * 12 ^ (j + 1) = 12 * (180 * 12 ^ j) + 12 * (180 * j * 12 ^ j) := by
            rw [e1, Nat.mul_add, Nat.mul_one, Nat.add_mul, Nat.mul_left_comm, Nat.mul_left_comm 180 12, Nat.add_comm]
          rw [e2]
          omega
        have hlg : ∀ X : Int64, (lg_cmp (lN (12 * a)) X ≤ 0 ↔ ¬ X < lN (12 * a)) := by
          intro X
          unfold lg_cmp
          by_cases c : X < lN (12 * a)
          · rw [if_pos c]; exact ⟨fun h => absurd h (by decide), fun h => absurd c h⟩
          · rw [if_neg c]
            refine ⟨fun _ => c, fun _ => ?_⟩
            by_cases c2 : lN (12 * a) = X
            · rw [if_pos c2]; decide
            · rw [if_neg c2]; decide
        generalize hX : lN ((12 - se) * (w * te * 12 ^ j + a)) - lN (se * (v * 12 ^ j)) = X at *
        unfold mxJ
        by_cases c : X < lN (12 * a)
        · exact ⟨12 * a, by omega, by rw [if_pos c], by rw [if_neg (fun h => (hlg X).mp h c)]⟩
        · have hx0 : ¬ X < 0 := fun h0 => c (by
            rw [Int64.lt_iff_toInt_lt] at h0 ⊢
            rw [pf_lI (by omega)]
            have : (0 : Int64).toInt = 0 := rfl
            omega)
          obtain ⟨k, hk63, ek⟩ := pk_lOf hx0
          have hkq := lN_back hk63 b3 (by omega) (hX.trans ek)
          exact ⟨k, by omega, by rw [if_neg c, ek], by rw [if_pos ((hlg X).mpr c), ek]⟩
      obtain ⟨a2, j2, hj2, ha2, y1, y2⟩ := ih n (j + 1) a' (by omega) (by omega) (by omega) ha'
      have e1 : (12 : Int64) * lN (12 ^ j) = lN (12 ^ (j + 1)) := by rw [show (12 : Int64) = lN 12 from rfl, lN_mul, Nat.pow_succ, Nat.mul_comm]
      have e2 : lN (12 ^ j) * (12 : Int64) = lN (12 ^ (j + 1)) := by rw [show (12 : Int64) = lN 12 from rfl, lN_mul, Nat.pow_succ]
      refine ⟨a2, j2, hj2, ha2, ?_, ?_⟩
      · rw [fOdds_findBest_L13, if_neg hneg]
        show Option.bind (fHouse_pairOn (bz z (lN a) (lN (12 ^ j))) (nI e)) (fun w22 => if w22 = nI (pr p q) then Option.bind (fJudge_seenOn (bz z (lN a) (lN (12 ^ j))) (nI e)) _ else _) = _
        rw [hpo, obs, if_pos (show o64 (prN (gI z 6) e) = nI (pr p q) from (o64_eq hle hk).mpr c)]
        rw [hcs, obs]
        show Option.bind (fJudge_trustOfPair (bz z (lN a) (lN (12 ^ j))) (nI (pr p q)) (nI e)) _ = _
        rw [hct, obs]
        have g1 : gJ (bz z (lN a) (lN (12 ^ j))) 18 2 = lN a := rfl
        have g2 : gJ (bz z (lN a) (lN (12 ^ j))) 18 3 = lN (12 ^ j) := rfl
        have g3 : ∀ C, gJ (pJ (bz z (lN a) (lN (12 ^ j))) 18 2 C) 18 3 = lN (12 ^ j) := fun C => rfl
        have g4 : gI (bz z (lN a) (lN (12 ^ j))) 5 0 = nI w := ew
        have g5 : gI (bz z (lN a) (lN (12 ^ j))) 5 1 = nI v := ev
        have s1 : snD (gI (bz z (lN a) (lN (12 ^ j))) 2) (gI (bz z (lN a) (lN (12 ^ j))) 5) (gI (bz z (lN a) (lN (12 ^ j))) 6) e (kbt (gI (bz z (lN a) (lN (12 ^ j))) 1 1) e) = se := hSe
        have s2 : trK (gI (bz z (lN a) (lN (12 ^ j))) 5) (gI (bz z (lN a) (lN (12 ^ j))) 6) (gI (bz z (lN a) (lN (12 ^ j))) 4) (pr p q) e = te := hTe
        rw [g1, g2, g3, g4, g5, s1, s2, b1, e12, x1, e1, bz_bz]
        show fOdds_findBest_L13 (nI (pr p q)) n (bz z (lN a') (lN (12 ^ (j + 1)))) (nI e + (-1)) = _
        rw [(dn_s e).1]
        exact y1
      · intro C D
        have hmC := hm C D
        have t2 := seen_m hmC he10 hk64 (kbt (gI z 1 1) e)
        have t3 := trust_m hmC hp hq hpq (show e ≤ 10 by omega)
        have e5 : gI (bz z C D) 56 5 = gI z 1 1 := hmC.2.2.1
        have t4 : fM_isSurprise (bz z C D) (nI e) = if kbt (gI z 1 1) e then 1 else 0 := by rw [hasS_m (by rw [e5]; exact h.2.1) he10, e5]
        have w62 : gI (bz z C D) 62 = gI z 5 := hmC.2.2.2.2.2.1
        rw [fM_best_L30, if_neg hneg]
        show Option.bind (fM_twoOn (bz z C D) (nI e)) (fun w38 => if w38 = fM_pair (nI p) (nI q) then Option.bind (fM_seenBy (bz z C D) (nI e) (fM_isSurprise (bz z C D) (nI e))) (fun w58 => Option.bind (fM_trustOf (bz z C D) (nI p) (nI q) (nI e)) _) else _) = _
        rw [two_m hmC he10, obs, pair_m hp hq, if_pos ((o64_eq hle hk).mpr c), t4, t2, obs, t3, obs, w62, ew, ev, hSe, hTe, b2, e12, e2]
        show (if _ ≤ 0 then fM_best_L30 (bz z C D) (nI p) (nI q) part n _ (lN (12 ^ (j + 1))) (nI e + (-1)) else fM_best_L30 (bz z C D) (nI p) (nI q) part n _ (lN (12 ^ (j + 1))) (nI e + (-1))) = _
        rw [(dn_s e).1, ← y2 C D, ← x2]
        by_cases c9 : lg_cmp (lN (12 * a)) (lN ((12 - se) * (w * te * 12 ^ j + a)) - lN (se * (v * 12 ^ j))) ≤ 0
        · rw [if_pos c9, if_pos c9]
        · rw [if_neg c9, if_neg c9]
    · obtain ⟨a2, j2, hj2, ha2, y1, y2⟩ := ih n j a (by omega) (by omega) (by omega) ha
      refine ⟨a2, j2, hj2, ha2, ?_, ?_⟩
      · rw [fOdds_findBest_L13, if_neg hneg]
        show Option.bind (fHouse_pairOn (bz z (lN a) (lN (12 ^ j))) (nI e)) (fun w22 => if w22 = nI (pr p q) then _ else fOdds_findBest_L13 (nI (pr p q)) n (bz z (lN a) (lN (12 ^ j))) (nI e + (-1))) = _
        rw [hpo, obs, if_neg (show ¬ o64 (prN (gI z 6) e) = nI (pr p q) from fun h => c ((o64_eq hle hk).mp h)), (dn_s e).1]
        exact y1
      · intro C D
        have hmC := hm C D
        rw [fM_best_L30, if_neg hneg]
        show Option.bind (fM_twoOn (bz z C D) (nI e)) (fun w38 => if w38 = fM_pair (nI p) (nI q) then _ else fM_best_L30 (bz z C D) (nI p) (nI q) part n (lN a) (lN (12 ^ j)) (nI e + (-1))) = _
        rw [two_m hmC he10, obs, pair_m hp hq, if_neg (fun h => c ((o64_eq hle hk).mp h)), (dn_s e).1]
        exact y2 C D
theorem o_best (z : MS) (h : RR z z) (a0 a1 a2 : Int32) : O2J (fT_best · a0 a1 a2) (fM_best · a0 a1 a2) z := by
  by_cases h0 : ∃ p q, p < cl (gI z 1 0) ∧ q < cl (gI z 1 0) ∧ p ≠ q ∧ a0 = nI p ∧ a1 = nI q
  · obtain ⟨p, q, hp, hq, hpq, rfl, rfl⟩ := h0
    have hn8 := RR_n8 h
    have hp8 : p < 8 := by omega
    have hq8 : q < 8 := by omega
    obtain ⟨y1, y2⟩ := two_yes h hp hq hpq
    by_cases h1 : ∃ d, d < 2 ∧ a2 = nI d
    · obtain ⟨d, hd, e2⟩ := h1
      have hs := side_yes hd
      rw [← e2] at hs
      obtain ⟨a, j, hj, ha, r1, r2⟩ := best_loop z z h.1.1 (fun A B => RR_HM h) hp8 hq8 hpq a2 10 LF 0 0 (by omega) (by unfold LF; omega) (by omega) (by omega)
      have hpw : (12 : Nat) ^ j ≤ 61917364224 := Nat.pow_le_pow_right (n := 12) (by omega) (show j ≤ 10 by omega)
      have ha2 : a < 2 ^ 62 := by
        have : 180 * j * 12 ^ j ≤ 1800 * 61917364224 := Nat.mul_le_mul (by omega) hpw
        omega
      obtain ⟨g, g0, g1, g2⟩ := low z ha2 (show 12 ^ j < 2 ^ 62 by omega) (Nat.pow_pos (by omega))
      rw [g1, obs] at r1
      have r1 : fOdds_findBest_L13 (nI (pr p q)) LF (bz z 0 1) 9 = _ := r1
      have r2 := r2 (lN (a / g)) (lN (12 ^ j / g))
      rw [g2, obs] at r2
      have r2 : fM_best_L30 (bz z (lN (a / g)) (lN (12 ^ j / g))) (nI p) (nI q) a2 LF 0 1 9 = _ := r2
      have y2' : fM_areTwo (bz z (lN (a / g)) (lN (12 ^ j / g))) (nI p) (nI q) = 1 := y2
      refine ⟨if a2 = 0 then lN (a / g) else lN (12 ^ j / g), bz z (lN (a / g)) (lN (12 ^ j / g)), pJ (pJ (bz z (lN (a / g)) (lN (12 ^ j / g))) 56 25 (lN (a / g))) 56 26 (lN (12 ^ j / g)), ?_, ?_, RR_J h rfl rfl⟩
      · show fT_best z (nI p) (nI q) a2 = _
        unfold fT_best fOdds_findBest
        rw [y1, if_neg one_ne, hs.1, if_neg one_ne, pairOf_nI hp8 hq8]
        show Option.bind (fOdds_findBest_L13 (nI (pr p q)) LF (bz z 0 1) 9) _ = _
        rw [r1, obs]
        by_cases c : a2 = 0
        · rw [if_pos c, if_pos c]; rfl
        · rw [if_neg c, if_neg c]; rfl
      · show fM_best (bz z (lN (a / g)) (lN (12 ^ j / g))) (nI p) (nI q) a2 = _
        unfold fM_best
        rw [y2', if_neg one_ne, hs.2, if_neg one_ne, r2]
        by_cases c : a2 = 0
        · rw [if_pos c, if_pos c]; rfl
        · rw [if_neg c, if_neg c]; rfl
    · exact ⟨-1, z, z, by show fT_best z (nI p) (nI q) a2 = _; unfold fT_best; rw [y1, if_neg one_ne, (side_no h1).1, if_pos rfl], by show fM_best z (nI p) (nI q) a2 = _; unfold fM_best; rw [y2, if_neg one_ne, (side_no h1).2, if_pos rfl], h⟩
  · exact ⟨-1, z, z, by show fT_best z a0 a1 a2 = _; unfold fT_best; rw [(two_no h h0).1, if_pos rfl], by show fM_best z a0 a1 a2 = _; unfold fM_best; rw [(two_no h h0).2, if_pos rfl], h⟩
