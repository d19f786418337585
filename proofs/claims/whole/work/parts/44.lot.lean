theorem daysOf_c {c : MS} (hS : SO (gI c 6)) {k : Nat} (hk : k < 64) : fHouse_daysOf c (nI k) = some (nI (psN (fun d => decide (prN (gI c 6) d = k)) 10)) := by
  have key : ∀ (e i n : Nat), i + e = 10 → e < n → fHouse_daysOf_L4 c (nI k) n (nI (psN (fun d => decide (prN (gI c 6) d = k)) i)) (nI i) = some (nI (psN (fun d => decide (prN (gI c 6) d = k)) 10)) := by
    intro e
    induction e with
    | zero =>
      intro i n hi hn
      obtain ⟨n, rfl⟩ : ∃ m, n = m + 1 := ⟨n - 1, by omega⟩
      have hi : i = 10 := hi
      subst hi
      rw [fHouse_daysOf_L4, if_pos (show (10 : Int32) ≤ nI 10 from Int32.le_refl _)]
    | succ e ih =>
      intro i n hi hn
      obtain ⟨n, rfl⟩ : ∃ m, n = m + 1 := ⟨n - 1, by omega⟩
      have hi10 : i < 10 := by omega
      have hb := bit_or (P := fun d => decide (prN (gI c 6) d = k)) hi10
      have hih := ih (i + 1) n (by omega) (by omega)
      rw [fHouse_daysOf_L4, if_neg (ge10 hi10), pairOn_c hS hi10, obs, nI_s]
      by_cases q : prN (gI c 6) i = k
      · rw [if_pos ((o64_eq (prN_le hS hi10) hk).mpr q), hb.1 (decide_eq_true q)]
        exact hih
      · rw [if_neg (fun h => q ((o64_eq (prN_le hS hi10) hk).mp h))]
        rw [hb.2 (decide_eq_false q)] at hih
        exact hih
  exact key 10 0 LF rfl (by decide)
theorem satOn_m {m : MS} {n u : Int32} {K A T W S O : Nat → Int32} (h : HM m n u K A T W S O) {p q : Nat} (hp : p < 8) (hq : q < 8) : fM_satOn m (nI p) (nI q) = some (nI (psN (fun d => decide (prN S d = pr p q)) 10)) := by
  have hS := HV_SO h.1
  have hk := pr_64 hp hq
  have key : ∀ (e i f : Nat), i + e = 10 → e < f → fM_satOn_L5 m (nI p) (nI q) f (nI (psN (fun d => decide (prN S d = pr p q)) i)) (nI i) = some (nI (psN (fun d => decide (prN S d = pr p q)) 10)) := by
    intro e
    induction e with
    | zero =>
      intro i f hi hn
      obtain ⟨f, rfl⟩ : ∃ m, f = m + 1 := ⟨f - 1, by omega⟩
      have hi : i = 10 := hi
      subst hi
      rw [fM_satOn_L5, if_pos (show (10 : Int32) ≤ nI 10 from Int32.le_refl _)]
    | succ e ih =>
      intro i f hi hn
      obtain ⟨f, rfl⟩ : ∃ m, f = m + 1 := ⟨f - 1, by omega⟩
      have hi10 : i < 10 := by omega
      have hb := bit_or (P := fun d => decide (prN S d = pr p q)) hi10
      have hih := ih (i + 1) f (by omega) (by omega)
      rw [fM_satOn_L5, if_neg (ge10 hi10), two_m h hi10, obs, pair_m hp hq, nI_s]
      by_cases c : prN S i = pr p q
      · rw [if_pos ((o64_eq (prN_le hS hi10) hk).mpr c), hb.1 (decide_eq_true c)]
        exact hih
      · rw [if_neg (fun h => c ((o64_eq (prN_le hS hi10) hk).mp h)), Int32.or_zero]
        rw [hb.2 (decide_eq_false c)] at hih
        exact hih
  exact key 10 0 LF rfl (by decide)
/-- on how many days two sit -/
def ctN (S : Nat → Int32) : Nat → Nat
  | 0 => 0
  | d + 1 => if prN S d = 64 then ctN S d else ctN S d + 1
theorem ctN_le (S : Nat → Int32) (d : Nat) : ctN S d ≤ d := by
  induction d with
  | zero => exact Nat.le_refl 0
  | succ d ih =>
    rw [ctN]
    by_cases c : prN S d = 64
    · rw [if_pos c]; omega
    · rw [if_neg c]; omega
theorem sittings_c {c : MS} (hS : SO (gI c 6)) : fHouse_sittings c = some (nI (ctN (gI c 6) 10)) := by
  have key : ∀ (e i n : Nat), i + e = 10 → e < n → fHouse_sittings_L4 c n (nI (ctN (gI c 6) i)) (nI i) = some (nI (ctN (gI c 6) 10)) := by
    intro e
    induction e with
    | zero =>
      intro i n hi hn
      obtain ⟨n, rfl⟩ : ∃ m, n = m + 1 := ⟨n - 1, by omega⟩
      have hi : i = 10 := hi
      subst hi
      rw [fHouse_sittings_L4, if_pos (show (10 : Int32) ≤ nI 10 from Int32.le_refl _)]
    | succ e ih =>
      intro i n hi hn
      obtain ⟨n, rfl⟩ : ∃ m, n = m + 1 := ⟨n - 1, by omega⟩
      have hi10 : i < 10 := by omega
      have hih := ih (i + 1) n (by omega) (by omega)
      rw [ctN] at hih
      rw [fHouse_sittings_L4, if_neg (ge10 hi10), pairOn_c hS hi10, obs, nI_s, nI_s]
      by_cases q : prN (gI c 6) i = 64
      · rw [if_pos q] at hih
        rw [if_pos ((o64_m1 (prN_le hS hi10)).mpr q)]
        exact hih
      · rw [if_neg q] at hih
        rw [if_neg (fun h => q ((o64_m1 (prN_le hS hi10)).mp h))]
        exact hih
  exact key 10 0 LF rfl (by decide)
theorem sitting_m {m : MS} {n u : Int32} {K A T W S O : Nat → Int32} (h : HM m n u K A T W S O) : fM_sitting m = some (nI (ctN S 10)) := by
  have hS := HV_SO h.1
  have key : ∀ (e i f : Nat), i + e = 10 → e < f → fM_sitting_L4 m f (nI (ctN S i)) (nI i) = some (nI (ctN S 10)) := by
    intro e
    induction e with
    | zero =>
      intro i f hi hn
      obtain ⟨f, rfl⟩ : ∃ m, f = m + 1 := ⟨f - 1, by omega⟩
      have hi : i = 10 := hi
      subst hi
      rw [fM_sitting_L4, if_pos (show (10 : Int32) ≤ nI 10 from Int32.le_refl _)]
    | succ e ih =>
      intro i f hi hn
      obtain ⟨f, rfl⟩ : ∃ m, f = m + 1 := ⟨f - 1, by omega⟩
      have hi10 : i < 10 := by omega
      have hih := ih (i + 1) f (by omega) (by omega)
      rw [ctN] at hih
      rw [fM_sitting_L4, if_neg (ge10 hi10), two_m h hi10, obs, nI_s, nI_s]
      by_cases q : prN S i = 64
      · rw [if_pos q] at hih
        rw [if_pos ((o64_neg (prN_le hS hi10)).1.mpr q), Int32.add_zero]
        exact hih
      · rw [if_neg q] at hih
        rw [if_neg (fun h => q ((o64_neg (prN_le hS hi10)).1.mp h))]
        exact hih
  exact key 10 0 LF rfl (by decide)
/-- the coefficients of (x + Q) to the k -/
def tN (Q : Nat) : Nat → Nat → Nat
  | 0, 0 => 1
  | 0, _ + 1 => 0
  | k + 1, 0 => tN Q k 0 * Q
  | k + 1, i + 1 => tN Q k (i + 1) * Q + tN Q k i
def bin : Nat → Nat → Nat
  | 0, 0 => 1
  | 0, _ + 1 => 0
  | _ + 1, 0 => 1
  | k + 1, i + 1 => bin k (i + 1) + bin k i
theorem bin_0 : ∀ n, bin n 0 = 1 := by
  intro n
  cases n <;> rfl
theorem bin_out : ∀ n m, n < m → bin n m = 0 := by
  intro n
  induction n with
  | zero =>
    intro m h
    cases m with
    | zero => omega
    | succ m => rfl
  | succ n ih =>
    intro m h
    cases m with
    | zero => omega
    | succ m => rw [bin, ih (m + 1) (by omega), ih m (by omega)]
theorem tN_out (Q : Nat) : ∀ n m, n < m → tN Q n m = 0 := by
  intro n
  induction n with
  | zero =>
    intro m h
    cases m with
    | zero => omega
    | succ m => rfl
  | succ n ih =>
    intro m h
    cases m with
    | zero => omega
    | succ m => rw [tN, ih (m + 1) (by omega), ih m (by omega), Nat.zero_mul]
theorem tN_bin (Q : Nat) : ∀ n m, m ≤ n → tN Q n m = bin n m * Q ^ (n - m) := by
  intro n
  induction n with
  | zero =>
    intro m h
    have : m = 0 := by omega
    subst this
    rfl
  | succ n ih =>
    intro m h
    cases m with
    | zero => rw [tN, ih 0 (by omega), bin_0, bin_0, Nat.one_mul, Nat.one_mul, Nat.sub_zero, Nat.sub_zero, Nat.pow_succ]
    | succ m =>
      rw [tN, bin, ih m (by omega), show n + 1 - (m + 1) = n - m by omega]
      by_cases c : m + 1 ≤ n
      · rw [ih (m + 1) c, Nat.mul_assoc, ← Nat.pow_succ, show (n - (m + 1)).succ = n - m by omega, Nat.add_mul]
      · rw [tN_out Q n (m + 1) (by omega), bin_out n (m + 1) (by omega), Nat.zero_mul, Nat.zero_add, Nat.zero_add]
theorem tN_le (Q : Nat) : ∀ n m, tN Q n m ≤ (Q + 1) ^ n := by
  intro n
  induction n with
  | zero =>
    intro m
    cases m with
    | zero => exact Nat.le_refl 1
    | succ m => exact Nat.zero_le _
  | succ n ih =>
    intro m
    rw [Nat.pow_succ, Nat.mul_add, Nat.mul_one]
    cases m with
    | zero =>
      rw [tN]
      exact Nat.le_trans (Nat.mul_le_mul_right Q (ih 0)) (Nat.le_add_right _ _)
    | succ m =>
      rw [tN]
      exact Nat.add_le_add (Nat.mul_le_mul_right Q (ih (m + 1))) (ih m)
theorem waysN : ∀ n, n < 11 → ∀ m, m < 11 → m ≤ n → fOdds_ways (nI n) (nI m) = some (lN (bin n m)) := by decide +kernel
theorem powN (b t : Nat) (ht : t < 1000) : fOdds_power (lN b) (nI t) = some (lN (b ^ t)) := by
  have key : ∀ (e i n : Nat), i + e = t → e < n → fOdds_power_L5 (lN b) (nI t) n (lN (b ^ i)) (nI i) = some (lN (b ^ t)) := by
    intro e
    induction e with
    | zero =>
      intro i n hi hn
      obtain ⟨n, rfl⟩ : ∃ m, n = m + 1 := ⟨n - 1, by omega⟩
      have hi : i = t := hi
      subst hi
      rw [fOdds_power_L5, if_pos (Int32.le_refl _)]
    | succ e ih =>
      intro i n hi hn
      obtain ⟨n, rfl⟩ : ∃ m, n = m + 1 := ⟨n - 1, by omega⟩
      rw [fOdds_power_L5, if_neg (nI_ge (by omega) (by omega)), lN_mul, ← Nat.pow_succ, nI_s]
      exact ih (i + 1) n (by omega) (by omega)
  exact key t 0 LF (by omega) (by unfold LF; omega)
def sT (Q n : Nat) : Nat → Nat → Nat
  | _, 0 => 0
  | i, r + 1 => tN Q n i + sT Q n (i + 1) r
theorem sT_le (Q n : Nat) : ∀ r i, sT Q n i r ≤ r * (Q + 1) ^ n := by
  intro r
  induction r with
  | zero => intro i; exact Nat.zero_le _
  | succ r ih =>
    intro i
    rw [sT, Nat.add_mul, Nat.one_mul, Nat.add_comm]
    exact Nat.add_le_add (ih (i + 1)) (tN_le Q n i)
theorem pJ_pJ (z : MS) (k i : Nat) (A B : Int64) : pJ (pJ z k i A) k i B = pJ z k i B := by
  unfold pJ
  rw [gJ_wJ, wJ_wJ]
  congr 1
  funext x
  simp only [updL_a]
  by_cases c : x = i
  · rw [if_pos c, if_pos c]
  · rw [if_neg c, if_neg c, if_neg c]
theorem lot_c (z : MS) {n Q : Nat} (hn : n ≤ 10) : ∀ (r i s f : Nat), (i + r = n + 1 ∨ (r = 0 ∧ n < i ∧ i ≤ 20)) → r < f → fOdds_findLot_L50 (nI n) (lN (Q + 1)) f (pJ z 18 2 (lN s)) (nI i) = Option.bind (fOdds_reduce (bz z (lN (s + sT Q n i r)) (lN ((Q + 1) ^ n)))) (fun zc100 => some zc100) := by
  intro r
  induction r with
  | zero =>
    intro i s f hi hf
    obtain ⟨f, rfl⟩ : ∃ m, f = m + 1 := ⟨f - 1, by omega⟩
    rw [fOdds_findLot_L50, if_pos (nI_lt (show n < i by omega) (by omega)), powN _ _ (by omega), obs]
    rfl
  | succ r ih =>
    intro i s f hi hf
    obtain ⟨f, rfl⟩ : ∃ m, f = m + 1 := ⟨f - 1, by omega⟩
    have hi : i + r + 1 = n + 1 := by omega
    have g : gJ (pJ z 18 2 (lN s)) 18 2 = lN s := rfl
    rw [fOdds_findLot_L50, if_neg (nI_nlt (show i ≤ n by omega) (by omega)), waysN n (by omega) i (by omega) (by omega), obs, pk_sub (show i ≤ n by omega), show (lN (Q + 1) - 1 : Int64) = lN Q from lN_sub (a := Q + 1) (b := 1) (by omega), powN _ _ (by omega), obs, g, lN_mul, lN_add, pJ_pJ, nI_s, ← tN_bin Q n i (by omega), ih (i + 1) (s + tN Q n i) f (by omega) (by omega), sT, Nat.add_assoc]
theorem lot_s (y : MS) (part : Int32) {n Q : Nat} (hn : n ≤ 10) {G : Nat → Int64} (hG : ∀ x, x ≤ n → G x = lN (tN Q n x)) : ∀ (r i s f : Nat), (i + r = n + 1 ∨ (r = 0 ∧ n < i ∧ i ≤ 20)) → r < f → fM_lot_L160 (wJ y 73 G) part (nI n) (lN ((Q + 1) ^ n)) f (lN s) (nI i) = Option.bind (fM_lowest (wJ y 73 G) (lN (s + sT Q n i r)) (lN ((Q + 1) ^ n))) (fun zc190 => if part = 0 then some (gJ zc190 56 25, zc190) else some (gJ zc190 56 26, zc190)) := by
  intro r
  induction r with
  | zero =>
    intro i s f hi hf
    obtain ⟨f, rfl⟩ : ∃ m, f = m + 1 := ⟨f - 1, by omega⟩
    rw [fM_lot_L160, if_pos (nI_lt (show n < i by omega) (by omega))]
    rfl
  | succ r ih =>
    intro i s f hi hf
    obtain ⟨f, rfl⟩ : ∃ m, f = m + 1 := ⟨f - 1, by omega⟩
    have g : gJ (wJ y 73 G) 73 i = lN (tN Q n i) := by rw [gJ_wJ]; exact hG i (by omega)
    rw [fM_lot_L160, if_neg (nI_nlt (show i ≤ n by omega) (by omega)), if_neg (ix_ok (show i < 11 by omega) (by omega)), nI_clamp (by omega), g, lN_add, nI_s, ih (i + 1) (s + tN Q n i) f (by omega) (by omega), sT, Nat.add_assoc]
theorem pJ_wJ (z : MS) (k i : Nat) (v : Int64) (F : Nat → Int64) : pJ (wJ z k F) k i v = wJ z k (vp_updL F i v) := by
  unfold pJ
  rw [gJ_wJ, wJ_wJ]
theorem lot_in (y : MS) {Q k : Nat} (hQ : Q < 100) (hk : k < 10) (Kn : MS → Int64 → Int32 → Option (Int64 × MS)) (l6 : Int64) : ∀ (i f : Nat) (F : Nat → Int64), i ≤ k + 1 → i < f → (∀ x, x ≤ i → F x = lN (tN Q k x)) → (∀ x, i < x → x ≤ k + 1 → F x = lN (tN Q (k + 1) x)) → ∃ G, (∀ x, x ≤ k + 1 → G x = lN (tN Q (k + 1) x)) ∧ fM_lot_L77 Kn (nI (Q + 1)) l6 (nI k) f (wJ y 73 F) (nI i) = Kn (wJ y 73 G) (l6 * lN (Q + 1)) (nI (k + 1)) := by
  have eQ : (nI (Q + 1) - 1 : Int32).toInt64 = lN Q := by
    rw [show (nI (Q + 1) - 1 : Int32) = nI Q from pk_sub (a := Q + 1) (b := 1) (by omega), nI_l (by omega)]
  have eP : (nI (Q + 1)).toInt64 = lN (Q + 1) := nI_l (by omega)
  intro i
  induction i with
  | zero =>
    intro f F _ hf h1 h2
    obtain ⟨f, rfl⟩ : ∃ m, f = m + 1 := ⟨f - 1, by omega⟩
    refine ⟨vp_updL F 0 (lN (tN Q (k + 1) 0)), ?_, ?_⟩
    · intro x hx
      rw [updL_a]
      by_cases c : x = 0
      · rw [if_pos c, c]
      · rw [if_neg c]; exact h2 x (by omega) hx
    · have g : gJ (wJ y 73 F) 73 0 = lN (tN Q k 0) := by rw [gJ_wJ]; exact h1 0 (by omega)
      rw [fM_lot_L77, if_pos (show nI 0 ≤ 0 from Int32.le_refl _), g, eQ, eP, lN_mul, pJ_wJ, nI_s]
      rfl
  | succ i ih =>
    intro f F hi hf h1 h2
    obtain ⟨f, rfl⟩ : ∃ m, f = m + 1 := ⟨f - 1, by omega⟩
    have g1 : gJ (wJ y 73 F) 73 (i + 1) = lN (tN Q k (i + 1)) := by rw [gJ_wJ]; exact h1 (i + 1) (by omega)
    have g2 : gJ (wJ y 73 F) 73 i = lN (tN Q k i) := by rw [gJ_wJ]; exact h1 i (by omega)
    obtain ⟨G, hG, e⟩ := ih f (vp_updL F (i + 1) (lN (tN Q (k + 1) (i + 1)))) (by omega) (by omega) (by
      intro x hx
      rw [updL_a, if_neg (by omega)]
      exact h1 x (by omega)) (by
      intro x hx hx2
      rw [updL_a]
      by_cases c : x = i + 1
      · rw [if_pos c, c]
      · rw [if_neg c]; exact h2 x (by omega) hx2)
    refine ⟨G, hG, ?_⟩
    have e1 : (nI (i + 1) - 1 : Int32) = nI i := pk_sub (a := i + 1) (b := 1) (by omega)
    have e2 : (nI (i + 1) + (-1) : Int32) = nI i := (dn_s (i + 1)).1
    rw [fM_lot_L77, if_neg (show ¬ nI (i + 1) ≤ 0 from nI_ge (a := 0) (by omega) (by omega)), e1, if_neg (ix_ok (show i + 1 < 11 by omega) (by omega)), if_neg (ix_ok (show i < 11 by omega) (by omega)), if_neg (ix_ok (show i + 1 < 11 by omega) (by omega)), nI_clamp (show i + 1 < 2 ^ 31 by omega), nI_clamp (show i < 2 ^ 31 by omega), g1, g2, eQ, lN_mul, lN_add, pJ_wJ, e2]
    exact e
theorem lot_out (y : MS) {n u : Int32} {K A T W S O : Nat → Int32} (h : HM y n u K A T W S O) {p q : Nat} (hp : p < 8) (hq : q < 8) (part : Int32) {t Q c : Nat} (ht : t ≤ 10) (hQ : Q < 100) (hc : fM_ones (nI (psN (fun d => decide (prN S d = pr p q)) 10)) = some (nI c)) : ∀ (e k f : Nat) (F : Nat → Int64), k + e = t → e < f → (∀ x, x ≤ k → F x = lN (tN Q k x)) → ∃ G, (∀ x, x ≤ t → G x = lN (tN Q t x)) ∧ fM_lot_L54 (nI p) (nI q) part (nI (Q + 1)) (nI t) f (wJ y 73 F) (lN ((Q + 1) ^ k)) (nI k) = fM_lot_L160 (wJ y 73 G) part (nI t) (lN ((Q + 1) ^ t)) LF 0 (nI c) := by
  intro e
  induction e with
  | zero =>
    intro k f F hk hf hF
    obtain ⟨f, rfl⟩ : ∃ m, f = m + 1 := ⟨f - 1, by omega⟩
    have hk : k = t := hk
    subst hk
    refine ⟨F, hF, ?_⟩
    have hs : fM_satOn (wJ y 73 F) (nI p) (nI q) = _ := satOn_m (m := wJ y 73 F) h hp hq
    rw [fM_lot_L54, if_pos (Int32.le_refl _), hs, obs, hc, obs]
  | succ e ih =>
    intro k f F hk hf hF
    obtain ⟨f, rfl⟩ : ∃ m, f = m + 1 := ⟨f - 1, by omega⟩
    obtain ⟨G, hG, e1⟩ := lot_in y hQ (show k < 10 by omega) (fM_lot_L54 (nI p) (nI q) part (nI (Q + 1)) (nI t) f) (lN ((Q + 1) ^ k)) (k + 1) LF (vp_updL F (k + 1) 0) (by omega) (by unfold LF; omega) (by
      intro x hx
      rw [updL_a]
      by_cases c : x = k + 1
      · rw [if_pos c, c, tN_out Q k (k + 1) (by omega)]; rfl
      · rw [if_neg c]; exact hF x (by omega)) (by
      intro x hx hx2
      omega)
    obtain ⟨G2, hG2, e2⟩ := ih (k + 1) f G (by omega) (by omega) hG
    refine ⟨G2, hG2, ?_⟩
    rw [fM_lot_L54, if_neg (nI_ge (show k < t by omega) (by omega)), nI_s, if_neg (ix_ok (show k + 1 < 11 by omega) (by omega)), nI_clamp (by omega), pJ_wJ, e1, lN_mul, ← Nat.pow_succ]
    exact e2
theorem ones10 : ∀ v, v < 1024 → fM_ones (nI v) = some (fJInt_bitCount (nI v)) ∧ fJInt_bitCount (nI v) = nI (cl (fJInt_bitCount (nI v))) ∧ cl (fJInt_bitCount (nI v)) ≤ 10 := by decide +kernel
theorem prs : ∀ n, n < 9 → 2 ≤ n → (nI n * (nI n - 1)) / 2 = nI (n * (n - 1) / 2 - 1 + 1) ∧ n * (n - 1) / 2 ≤ 28 := by decide +kernel
theorem o_lot (z : MS) (h : RR z z) (a0 a1 a2 : Int32) : O2J (fT_lot · a0 a1 a2) (fM_lot · a0 a1 a2) z := by
  by_cases h0 : ∃ p q, p < cl (gI z 1 0) ∧ q < cl (gI z 1 0) ∧ p ≠ q ∧ a0 = nI p ∧ a1 = nI q
  · obtain ⟨p, q, hp, hq, hpq, rfl, rfl⟩ := h0
    obtain ⟨n, hn, n1, n2, n3⟩ := RR_n h
    have hp8 : p < 8 := by omega
    have hq8 : q < 8 := by omega
    obtain ⟨y1, y2⟩ := two_yes h hp hq hpq
    by_cases h1 : ∃ d, d < 2 ∧ a2 = nI d
    · obtain ⟨d, hd, e2⟩ := h1
      have hs := side_yes hd
      rw [← e2] at hs
      have hS := (RR_SO h).1
      have hk := pr_64 hp8 hq8
      have ht := ctN_le (gI z 6) 10
      obtain ⟨o1, o2, o3⟩ := ones10 _ (psN_lt (fun d => decide (prN (gI z 6) d = pr p q)) 10)
      obtain ⟨pp1, pp2⟩ := prs n (by omega) (by omega)
      generalize hQ : n * (n - 1) / 2 - 1 = Q at *
      generalize hc : cl (fJInt_bitCount (nI (psN (fun d => decide (prN (gI z 6) d = pr p q)) 10))) = c at *
      rw [o2] at o1
      have hQ28 : Q + 1 ≤ 29 := by omega
      have hr : ∃ r, (c + r = ctN (gI z 6) 10 + 1 ∨ (r = 0 ∧ ctN (gI z 6) 10 < c ∧ c ≤ 20)) ∧ r ≤ 11 := by
        by_cases c9 : c ≤ ctN (gI z 6) 10
        · exact ⟨ctN (gI z 6) 10 + 1 - c, Or.inl (by omega), by omega⟩
        · exact ⟨0, Or.inr ⟨rfl, by omega, by omega⟩, by omega⟩
      obtain ⟨r, hr, hr11⟩ := hr
      have hpw : (Q + 1) ^ ctN (gI z 6) 10 ≤ 420707233300201 := by
        refine Nat.le_trans (Nat.pow_le_pow_left hQ28 _) (Nat.le_trans (Nat.pow_le_pow_right (by omega) ht) ?_)
        decide
      have hsum := sT_le Q (ctN (gI z 6) 10) r c
      have hsum2 : r * (Q + 1) ^ ctN (gI z 6) 10 ≤ 11 * 420707233300201 := Nat.mul_le_mul hr11 hpw
      obtain ⟨g, g0, g1, g2⟩ := low z (a := 0 + sT Q (ctN (gI z 6) 10) c r) (b := (Q + 1) ^ ctN (gI z 6) 10) (by omega) (by omega) (Nat.pow_pos (by omega))
      have L1 := lot_c z ht (Q := Q) r c 0 LF hr (by unfold LF; omega)
      rw [g1, obs] at L1
      generalize hA : lN ((0 + sT Q (ctN (gI z 6) 10) c r) / g) = AA at *
      generalize hB : lN ((Q + 1) ^ ctN (gI z 6) 10 / g) = BB at *
      have hmz : HM (bz z AA BB) (gI z 1 0) (gI z 1 1) (gI z 2) (gI z 3) (gI z 4) (gI z 5) (gI z 6) (gI z 7) := RR_HM h
      obtain ⟨G, hG, e3⟩ := lot_out (bz z AA BB) hmz hp8 hq8 a2 ht (show Q < 100 by omega) o1 (ctN (gI z 6) 10) 0 LF (vp_updL (gJ (bz z AA BB) 73) 0 1) (by omega) (by unfold LF; omega) (by
        intro x hx
        have : x = 0 := by omega
        subst this
        rfl)
      have L2 := lot_s (bz z AA BB) a2 ht hG r c 0 LF hr (by unfold LF; omega)
      rw [g2 (wJ (bz z AA BB) 73 G), obs] at L2
      refine ⟨if a2 = 0 then AA else BB, bz z AA BB, pJ (pJ (wJ (bz z AA BB) 73 G) 56 25 AA) 56 26 BB, ?_, ?_, RR_J h rfl rfl⟩
      · show fT_lot z (nI p) (nI q) a2 = _
        unfold fT_lot fOdds_findLot
        rw [y1, if_neg one_ne, hs.1, if_neg one_ne, pairOf_nI hp8 hq8, sittings_c hS, obs, daysOf_c hS hk, obs, n1, pp1, nI_l (show Q + 1 < 2 ^ 31 by omega), o2]
        have L1' : fOdds_findLot_L50 (nI (ctN (gI z 6) 10)) (lN (Q + 1)) LF (pJ z 18 2 0) (nI c) = some (bz z AA BB) := L1
        rw [L1', obs]
        by_cases c : a2 = 0
        · rw [if_pos c, if_pos c]; rfl
        · rw [if_neg c, if_neg c]; rfl
      · show fM_lot (bz z AA BB) (nI p) (nI q) a2 = _
        have y2' : fM_areTwo (bz z AA BB) (nI p) (nI q) = 1 := y2
        have n56 : gI (bz z AA BB) 56 0 = nI n := n2
        unfold fM_lot
        rw [y2', if_neg one_ne, hs.2, if_neg one_ne, sitting_m hmz, obs, n56, pp1]
        have e3' : fM_lot_L54 (nI p) (nI q) a2 (nI (Q + 1)) (nI (ctN (gI z 6) 10)) LF (pJ (bz z AA BB) 73 0 1) 1 0 = _ := e3
        rw [e3']
        have L2' : fM_lot_L160 (wJ (bz z AA BB) 73 G) a2 (nI (ctN (gI z 6) 10)) (lN ((Q + 1) ^ ctN (gI z 6) 10)) LF 0 (nI c) = _ := L2
        rw [L2']
        by_cases c : a2 = 0
        · rw [if_pos c, if_pos c]; rfl
        · rw [if_neg c, if_neg c]; rfl
    · exact ⟨-1, z, z, by show fT_lot z (nI p) (nI q) a2 = _; unfold fT_lot; rw [y1, if_neg one_ne, (side_no h1).1, if_pos rfl], by show fM_lot z (nI p) (nI q) a2 = _; unfold fM_lot; rw [y2, if_neg one_ne, (side_no h1).2, if_pos rfl], h⟩
  · exact ⟨-1, z, z, by show fT_lot z a0 a1 a2 = _; unfold fT_lot; rw [(two_no h h0).1, if_pos rfl], by show fM_lot z a0 a1 a2 = _; unfold fM_lot; rw [(two_no h h0).2, if_pos rfl], h⟩
