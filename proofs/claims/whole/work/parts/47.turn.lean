theorem deM (x y : Int32) : (x ||| y) ^^^ (-1) = (x ^^^ (-1)) &&& (y ^^^ (-1)) := by
  apply b_ext
  intro i hi
  rw [b_xor, b_or, b_and, b_xor, b_xor, b_m1' hi]
  cases bt x i <;> cases bt y i <;> rfl
theorem and_sub (u : Nat) (hu : u < 256) (X : Int32) : ∃ s, s < 256 ∧ nI u &&& X = nI s ∧ ∀ i, s.testBit i = true → u.testBit i = true := by
  obtain ⟨n, -, rfl⟩ := wb_of32 X
  refine ⟨u &&& n, Nat.lt_of_le_of_lt Nat.and_le_left hu, fa_and u n, fun i h => ?_⟩
  rw [Nat.testBit_and] at h
  exact (Bool.and_eq_true_iff.mp h).1
/-- three drawn, the fourth a stranger -/
theorem stranger {z : MS} {v : Nat} (hv : v < 256) (hK : ∀ p, p < 8 → lt (gI z 2 p) 256) (Z : Int32) (F : Nat → Int32) (hF : ∀ j, j < 4 → ∃ p, v.testBit p = true ∧ p < 8 ∧ F j = nI p) :
    ∃ F2, (∀ j, j < 4 → ∃ p, v.testBit p = true ∧ p < 8 ∧ F2 j = nI p) ∧ fPlans_seatStranger (dz z Z F) (nI v) = some (dz z Z F2) ∧ ∀ (y : MS) (G : Nat → Int32), gI y 57 = gI z 2 → (∀ j, j < 4 → G j = F j) → fM_fillsDraw y (nI v) = some (dm y Z G) → ∃ G2, (∀ j, j < 4 → G2 j = F2 j) ∧ fM_fillsCount y (nI v) = some (dm y Z G2) := by
  obtain ⟨p0, b0, h0, e0⟩ := hF 0 (by omega)
  obtain ⟨p1, b1, h1, e1⟩ := hF 1 (by omega)
  obtain ⟨p2, b2, h2, e2⟩ := hF 2 (by omega)
  obtain ⟨p3, b3, h3, e3⟩ := hF 3 (by omega)
  have r0 := rmD v hv p0 h0
  have r1 := rmD _ r0.2 p1 h1
  have r2 := rmD _ r1.2 p2 h2
  obtain ⟨s, hs, es, hsb⟩ := and_sub _ r2.2 ((gI z 2 p0 ||| gI z 2 p1) ^^^ (-1))
  have f0 : gI (dz z Z F) 29 0 = nI p0 := e0
  have f1 : gI (dz z Z F) 29 1 = nI p1 := e1
  have f2 : gI (dz z Z F) 29 2 = nI p2 := e2
  have k0 : ∀ p, gI (dz z Z F) 2 p = gI z 2 p := fun p => rfl
  have hFup : ∀ q, v.testBit q = true → q < 8 → ∀ j, j < 4 → ∃ p, v.testBit p = true ∧ p < 8 ∧ upd F 3 (nI q) j = nI p := by
    intro q hq hq8 j hj
    rw [upd_a]
    by_cases c : j = 3
    · rw [if_pos c]; exact ⟨q, hq, hq8, rfl⟩
    · rw [if_neg c]; exact hF j hj
  have mem : ∀ q, s.testBit q = true → v.testBit q = true := fun q hq => (rm_bit2 (rm_bit2 (rm_bit2 (hsb q hq)).1).1).1
  by_cases c : s = 0
  · refine ⟨F, hF, ?_, fun y G hy hG hd => ⟨upd G 3 (G 3), fun j hj => ?_, ?_⟩⟩
    · unfold fPlans_seatStranger
      rw [f0, f1, f2, if_neg (ix_ok h0 (by omega)), if_neg (ix_ok h1 (by omega)), nI_clamp (by omega), nI_clamp (by omega), k0, k0, r0.1, r1.1, r2.1, es, c, if_pos (show nI 0 = 0 from rfl)]
    · rw [upd_same G 3 _ rfl]; exact hG j hj
    · have g0 : gI (dm y Z G) 74 0 = nI p0 := (hG 0 (by omega)).trans e0
      have g1 : gI (dm y Z G) 74 1 = nI p1 := (hG 1 (by omega)).trans e1
      have g2 : gI (dm y Z G) 74 2 = nI p2 := (hG 2 (by omega)).trans e2
      have g57 : ∀ p, gI (dm y Z G) 57 p = gI z 2 p := fun p => by show gI y 57 p = _; rw [hy]
      unfold fM_fillsCount
      rw [hd, obs, g0, g1, g2, if_neg (ix_ok h0 (by omega)), if_neg (ix_ok h1 (by omega)), nI_clamp (by omega), nI_clamp (by omega), g57, g57, r0.1, r1.1, r2.1, ← deM, es, c, if_pos (show nI 0 = 0 from rfl)]
      show some (pI (dm y Z G) 74 3 (G 3)) = _
      rw [dm_F]
  · have hp := pcP s hs (by omega)
    obtain ⟨l1, l2, l3, l4⟩ := lsD s hs hp
    have hne : ¬ nI s = 0 := nI_ne (b := 0) c (by omega) (by omega)
    refine ⟨upd F 3 (nI (lsB s)), hFup _ (mem _ l4) l3, ?_, fun y G hy hG hd => ⟨upd G 3 (nI (lsB s)), fun j hj => ?_, ?_⟩⟩
    · unfold fPlans_seatStranger
      rw [f0, f1, f2, if_neg (ix_ok h0 (by omega)), if_neg (ix_ok h1 (by omega)), nI_clamp (by omega), nI_clamp (by omega), k0, k0, r0.1, r1.1, r2.1, es, if_neg hne, l1, obs, dz_F]
    · rw [upd_a, upd_a]
      by_cases c : j = 3
      · rw [if_pos c, if_pos c]
      · rw [if_neg c, if_neg c]; exact hG j hj
    · have g0 : gI (dm y Z G) 74 0 = nI p0 := (hG 0 (by omega)).trans e0
      have g1 : gI (dm y Z G) 74 1 = nI p1 := (hG 1 (by omega)).trans e1
      have g2 : gI (dm y Z G) 74 2 = nI p2 := (hG 2 (by omega)).trans e2
      have g57 : ∀ p, gI (dm y Z G) 57 p = gI z 2 p := fun p => by show gI y 57 p = _; rw [hy]
      unfold fM_fillsCount
      rw [hd, obs, g0, g1, g2, if_neg (ix_ok h0 (by omega)), if_neg (ix_ok h1 (by omega)), nI_clamp (by omega), nI_clamp (by omega), g57, g57, r0.1, r1.1, r2.1, ← deM, es, if_neg hne, l2, obs, dm_F]
/-- the first of those who last sat longest ahead -/
def bst (L : Nat → Nat) (t : Nat) : Option Nat → Option Nat
  | none => some t
  | some k => if L t < L k then some t else some k
def bF (C : Nat → Bool) (L : Nat → Nat) : Nat → Option Nat
  | 0 => none
  | t + 1 => if C t then bst L t (bF C L t) else bF C L t
theorem bF_in (C : Nat → Bool) (L : Nat → Nat) : ∀ t k, bF C L t = some k → C k = true ∧ k < t := by
  intro t
  induction t with
  | zero => intro k h; cases h
  | succ t ih =>
    intro k h
    rw [bF] at h
    cases c : C t with
    | false =>
      rw [c, if_neg ftn] at h
      have := ih k h
      exact ⟨this.1, by omega⟩
    | true =>
      rw [c, if_pos rfl] at h
      cases e : bF C L t with
      | none =>
        rw [e] at h
        cases h
        exact ⟨c, by omega⟩
      | some j =>
        rw [e, bst] at h
        by_cases q : L t < L j
        · rw [if_pos q] at h
          cases h
          exact ⟨c, by omega⟩
        · rw [if_neg q] at h
          have hjk := Option.some.inj h
          have := ih j e
          rw [← hjk]
          exact ⟨this.1, by omega⟩
theorem bF_some (C : Nat → Bool) (L : Nat → Nat) : ∀ t k, k < t → C k = true → bF C L t ≠ none := by
  intro t
  induction t with
  | zero => intro k h; omega
  | succ t ih =>
    intro k h hC
    rw [bF]
    cases c : C t with
    | true =>
      rw [if_pos rfl]
      cases bF C L t with
      | none => exact fun h => by cases h
      | some j =>
        rw [bst]
        by_cases q : L t < L j
        · rw [if_pos q]; exact fun h => by cases h
        · rw [if_neg q]; exact fun h => by cases h
    | false =>
      rw [if_neg ftn]
      refine ih k ?_ hC
      rcases Nat.lt_or_ge k t with h1 | h1
      · exact h1
      · have : k = t := by omega
        subst this
        rw [c] at hC
        cases hC
def cnT (any : Bool) (K : Nat → Int32) (v t : Nat) : Bool := decide (t / 8 < t % 8) && (v.testBit (t / 8) && (v.testBit (t % 8) && (any || !kbt (K (t / 8)) (t % 8))))
def oP : Option Nat → Int32
  | none => -1
  | some k => nI k
def oL (L : Nat → Nat) : Option Nat → Int32
  | none => 10
  | some k => dn (L k)
def oM (L : Nat → Nat) : Option Nat → Int32
  | none => 0
  | some k => dn (L k)
theorem dn_le : ∀ a, a < 11 → ∀ b, b < 11 → ((dn a ≤ dn b ↔ ¬ b < a) ∧ ¬ (10 : Int32) ≤ dn b) := by decide +kernel
theorem longest_c {c : MS} (hS : SO (gI c 6)) (hK : ∀ p, p < 8 → lt (gI c 2 p) 256) {v d : Nat} (hv : v < 256) (hd : d ≤ 10) (any : Bool) : fPlans_longestApart c (nI v) (nI d) (if any then 1 else 0) = some (oP (bF (cnT any (gI c 2) v) (fun t => lsN (gI c 6) t d) 64)) := by
  have hL : ∀ t, lsN (gI c 6) t d < 11 := fun t => by have := lsN_le (gI c 6) t d; omega
  have inner : ∀ (Kn : Int32 → Int32 → Int32 → Option Int32) (p : Nat), p < 8 → ∀ (e q f : Nat), q + e = 8 → e < f → p < q → fPlans_longestApart_L23 c Kn (nI v) (nI d) (if any then 1 else 0) (nI p) f (oP (bF (cnT any (gI c 2) v) (fun t => lsN (gI c 6) t d) (8 * p + q))) (oL (fun t => lsN (gI c 6) t d) (bF (cnT any (gI c 2) v) (fun t => lsN (gI c 6) t d) (8 * p + q))) (nI q) = Kn (oP (bF (cnT any (gI c 2) v) (fun t => lsN (gI c 6) t d) (8 * p + 8))) (oL (fun t => lsN (gI c 6) t d) (bF (cnT any (gI c 2) v) (fun t => lsN (gI c 6) t d) (8 * p + 8))) (nI (p + 1)) := by
    intro Kn p hp e
    induction e with
    | zero =>
      intro q f hq hf hpq
      obtain ⟨f, rfl⟩ : ∃ m, f = m + 1 := ⟨f - 1, by omega⟩
      have hq : q = 8 := hq
      subst hq
      rw [fPlans_longestApart_L23, if_pos (show (8 : Int32) ≤ nI 8 from Int32.le_refl _), nI_s]
    | succ e ih =>
      intro q f hq hf hpq
      obtain ⟨f, rfl⟩ : ∃ m, f = m + 1 := ⟨f - 1, by omega⟩
      have hq8 : q < 8 := by omega
      have hih := ih (q + 1) f (by omega) (by omega) (by omega)
      rw [show 8 * p + (q + 1) = (8 * p + q) + 1 by omega, bF] at hih
      have hcn : cnT any (gI c 2) v (8 * p + q) = (v.testBit p && (v.testBit q && (any || !kbt (gI c 2 p) q))) := by
        unfold cnT
        rw [show (8 * p + q) / 8 = p by omega, show (8 * p + q) % 8 = q by omega, decide_eq_true hpq]
        rfl
      rw [hcn] at hih
      have hJ : fPlans_longestApart_J63 c (fPlans_longestApart_L23 c Kn (nI v) (nI d) (if any then 1 else 0) (nI p) f) (nI d) (oP (bF (cnT any (gI c 2) v) (fun t => lsN (gI c 6) t d) (8 * p + q))) (oL (fun t => lsN (gI c 6) t d) (bF (cnT any (gI c 2) v) (fun t => lsN (gI c 6) t d) (8 * p + q))) (nI p) (nI q) = fPlans_longestApart_L23 c Kn (nI v) (nI d) (if any then 1 else 0) (nI p) f (oP (bst (fun t => lsN (gI c 6) t d) (8 * p + q) (bF (cnT any (gI c 2) v) (fun t => lsN (gI c 6) t d) (8 * p + q)))) (oL (fun t => lsN (gI c 6) t d) (bst (fun t => lsN (gI c 6) t d) (8 * p + q) (bF (cnT any (gI c 2) v) (fun t => lsN (gI c 6) t d) (8 * p + q)))) (nI (q + 1)) := by
        unfold fPlans_longestApart_J63
        rw [pairOf_nI (by omega) hq8, (pr_lt hpq).1, lastDay_c hS (by omega) hd, obs, nI_s]
        cases bF (cnT any (gI c 2) v) (fun t => lsN (gI c 6) t d) (8 * p + q) with
        | none =>
          rw [if_neg (show ¬ oL (fun t => lsN (gI c 6) t d) none ≤ dn (lsN (gI c 6) (8 * p + q) d) from (dn_le 0 (by omega) _ (hL _)).2)]
          rfl
        | some k =>
          have hd1 := (dn_le _ (hL k) _ (hL (8 * p + q))).1
          rw [bst]
          by_cases w : lsN (gI c 6) (8 * p + q) d < lsN (gI c 6) k d
          · rw [if_neg (show ¬ oL (fun t => lsN (gI c 6) t d) (some k) ≤ dn (lsN (gI c 6) (8 * p + q) d) from fun h => hd1.mp h w), if_pos w]
            rfl
          · rw [if_pos (show oL (fun t => lsN (gI c 6) t d) (some k) ≤ dn (lsN (gI c 6) (8 * p + q) d) from hd1.mpr w), if_neg w]
      rw [fPlans_longestApart_L23, if_neg (ge8 hq8), isIn_c hv hp, isIn_c hv hq8, nI_s, hJ, areKin_c hK hp hq8, obs]
      cases h1 : v.testBit p with
      | false =>
        rw [if_pos (show (if false = true then (1 : Int32) else 0) = 0 from rfl)]
        rw [h1, Bool.false_and, if_neg ftn] at hih
        exact hih
      | true =>
        rw [if_neg (show ¬ (if true = true then (1 : Int32) else 0) = 0 from one_ne)]
        rw [h1, Bool.true_and] at hih
        cases h2 : v.testBit q with
        | false =>
          rw [if_pos (show (if false = true then (1 : Int32) else 0) = 0 from rfl)]
          rw [h2, Bool.false_and, if_neg ftn] at hih
          exact hih
        | true =>
          rw [if_neg (show ¬ (if true = true then (1 : Int32) else 0) = 0 from one_ne)]
          rw [h2, Bool.true_and] at hih
          cases any with
          | true =>
            rw [if_neg (show ¬ (if true = true then (1 : Int32) else 0) = 0 from one_ne)]
            rw [Bool.true_or, if_pos rfl] at hih
            exact hih
          | false =>
            rw [if_pos (show (if false = true then (1 : Int32) else 0) = 0 from rfl)]
            rw [Bool.false_or] at hih
            cases h3 : kbt (gI c 2 p) q with
            | true =>
              rw [if_neg (show ¬ (if true = true then (1 : Int32) else 0) = 0 from one_ne)]
              rw [h3, Bool.not_true, if_neg ftn] at hih
              exact hih
            | false =>
              rw [if_pos (show (if false = true then (1 : Int32) else 0) = 0 from rfl)]
              rw [h3, Bool.not_false, if_pos rfl] at hih
              exact hih
  have skip : ∀ p, p < 8 → ∀ e, e ≤ p + 1 → bF (cnT any (gI c 2) v) (fun t => lsN (gI c 6) t d) (8 * p + e) = bF (cnT any (gI c 2) v) (fun t => lsN (gI c 6) t d) (8 * p) := by
    intro p hp e
    induction e with
    | zero => intro _; rfl
    | succ e ih =>
      intro he
      rw [show 8 * p + (e + 1) = (8 * p + e) + 1 by omega, bF]
      have : cnT any (gI c 2) v (8 * p + e) = false := by
        unfold cnT
        by_cases c8 : e < 8
        · rw [show (8 * p + e) / 8 = p by omega, show (8 * p + e) % 8 = e by omega, decide_eq_false (by omega)]; rfl
        · have : e = 8 := by omega
          omega
      rw [this, if_neg ftn]
      exact ih (by omega)
  have outer : ∀ (e p f : Nat), p + e = 8 → e < f → fPlans_longestApart_L10 c (nI v) (nI d) (if any then 1 else 0) f (oP (bF (cnT any (gI c 2) v) (fun t => lsN (gI c 6) t d) (8 * p))) (oL (fun t => lsN (gI c 6) t d) (bF (cnT any (gI c 2) v) (fun t => lsN (gI c 6) t d) (8 * p))) (nI p) = some (oP (bF (cnT any (gI c 2) v) (fun t => lsN (gI c 6) t d) 64)) := by
    intro e
    induction e with
    | zero =>
      intro p f hp hf
      obtain ⟨f, rfl⟩ : ∃ m, f = m + 1 := ⟨f - 1, by omega⟩
      have hp : p = 8 := hp
      subst hp
      rw [fPlans_longestApart_L10, if_pos (show (8 : Int32) ≤ nI 8 from Int32.le_refl _)]
    | succ e ih =>
      intro p f hp hf
      obtain ⟨f, rfl⟩ : ∃ m, f = m + 1 := ⟨f - 1, by omega⟩
      have hp8 : p < 8 := by omega
      have hin := inner (fPlans_longestApart_L10 c (nI v) (nI d) (if any then 1 else 0) f) p hp8 (8 - (p + 1)) (p + 1) LF (by omega) (by unfold LF; omega) (by omega)
      rw [skip p hp8 (p + 1) (Nat.le_refl _)] at hin
      rw [fPlans_longestApart_L10, if_neg (ge8 hp8), nI_s, hin]
      exact ih (p + 1) f (by omega) (by omega)
  exact outer 8 0 LF rfl (by decide)
theorem lastSat_m {m : MS} {n u : Int32} {K A T W S O : Nat → Int32} (h : HM m n u K A T W S O) {p q : Nat} (hp : p < 8) (hq : q < 8) {d : Nat} (hd : d ≤ 10) : fM_lastSat m (nI p) (nI q) (nI d) = some (dn (lsN S (pr p q) d)) := by
  have hS := HV_SO h.1
  have hk := pr_64 hp hq
  have key : ∀ (e i f : Nat), i + e = d → e < f → fM_lastSat_L6 m (nI p) (nI q) (nI d) f (dn (lsN S (pr p q) i)) (nI i) = some (dn (lsN S (pr p q) d)) := by
    intro e
    induction e with
    | zero =>
      intro i f hi hf
      obtain ⟨f, rfl⟩ : ∃ m, f = m + 1 := ⟨f - 1, by omega⟩
      have hi : i = d := hi
      subst hi
      rw [fM_lastSat_L6, if_pos (Int32.le_refl _)]
    | succ e ih =>
      intro i f hi hf
      obtain ⟨f, rfl⟩ : ∃ m, f = m + 1 := ⟨f - 1, by omega⟩
      have hih := ih (i + 1) f (by omega) (by omega)
      rw [lsN] at hih
      rw [fM_lastSat_L6, if_neg (nI_ge (by omega) (by omega)), two_m h (show i < 10 by omega), obs, pair_m hp hq, nI_s]
      by_cases c : prN S i = pr p q
      · rw [if_pos ((o64_eq (prN_le hS (by omega)) hk).mpr c)]
        rw [if_pos c] at hih
        exact hih
      · rw [if_neg (fun e => c ((o64_eq (prN_le hS (by omega)) hk).mp e))]
        rw [if_neg c] at hih
        exact hih
  exact key d 0 LF (by omega) (by unfold LF; omega)
theorem turnL_m {m : MS} {n u : Int32} {K A T W S O : Nat → Int32} (h : HM m n u K A T W S O) {v d : Nat} (hv : v < 256) (hd : d ≤ 10) (any : Bool) (K8 : Int32 → Int32 → Int32 → Option MS) : fM_fillsTurn_L21 m K8 (nI v) (nI d) (if any then 1 else 0) LF (-1) 0 0 = K8 (oP (bF (cnT any K v) (fun t => lsN S t d) 64)) (oM (fun t => lsN S t d) (bF (cnT any K v) (fun t => lsN S t d) 64)) ((if any then 1 else 0) + 1) := by
  have hL : ∀ t, lsN S t d < 11 := fun t => by have := lsN_le S t d; omega
  have e57 : gI m 57 = K := h.2.2.2.1
  have key : ∀ (e t f : Nat), t + e = 64 → e < f → fM_fillsTurn_L21 m K8 (nI v) (nI d) (if any then 1 else 0) f (oP (bF (cnT any K v) (fun t => lsN S t d) t)) (oM (fun t => lsN S t d) (bF (cnT any K v) (fun t => lsN S t d) t)) (nI t) = K8 (oP (bF (cnT any K v) (fun t => lsN S t d) 64)) (oM (fun t => lsN S t d) (bF (cnT any K v) (fun t => lsN S t d) 64)) ((if any then 1 else 0) + 1) := by
    intro e
    induction e with
    | zero =>
      intro t f ht hf
      obtain ⟨f, rfl⟩ : ∃ m, f = m + 1 := ⟨f - 1, by omega⟩
      have ht : t = 64 := ht
      subst ht
      rw [fM_fillsTurn_L21, if_pos (show (64 : Int32) ≤ nI 64 from Int32.le_refl _)]
    | succ e ih =>
      intro t f ht hf
      obtain ⟨f, rfl⟩ : ∃ m, f = m + 1 := ⟨f - 1, by omega⟩
      have ht64 : t < 64 := by omega
      have hp : t / 8 < 8 := by omega
      have hq : t % 8 < 8 := by omega
      have hih := ih (t + 1) f (by omega) (by omega)
      rw [bF] at hih
      have h90 : cnT any K v t = false → fM_fillsTurn_J90 m (fM_fillsTurn_L21 m K8 (nI v) (nI d) (if any then 1 else 0) f) (nI d) (oP (bF (cnT any K v) (fun t => lsN S t d) t)) (oM (fun t => lsN S t d) (bF (cnT any K v) (fun t => lsN S t d) t)) (nI t) (nI (t / 8)) (nI (t % 8)) = K8 (oP (bF (cnT any K v) (fun t => lsN S t d) 64)) (oM (fun t => lsN S t d) (bF (cnT any K v) (fun t => lsN S t d) 64)) ((if any then 1 else 0) + 1) := by
        intro hc
        unfold fM_fillsTurn_J90 fM_fillsTurn_J91 fM_fillsTurn_J111
        rw [if_pos rfl, if_pos rfl, nI_s]
        rw [hc, if_neg ftn] at hih
        exact hih
      have h86 : t / 8 < t % 8 → cnT any K v t = true → fM_fillsTurn_J86 m (fM_fillsTurn_L21 m K8 (nI v) (nI d) (if any then 1 else 0) f) (nI d) (oP (bF (cnT any K v) (fun t => lsN S t d) t)) (oM (fun t => lsN S t d) (bF (cnT any K v) (fun t => lsN S t d) t)) (nI t) (nI (t / 8)) (nI (t % 8)) = K8 (oP (bF (cnT any K v) (fun t => lsN S t d) 64)) (oM (fun t => lsN S t d) (bF (cnT any K v) (fun t => lsN S t d) 64)) ((if any then 1 else 0) + 1) := by
        intro hlt hc
        unfold fM_fillsTurn_J86 fM_fillsTurn_J91 fM_fillsTurn_J111
        rw [if_neg one_ne, lastSat_m h hp hq hd, obs, if_neg one_ne, nI_s, (pr_lt hlt).1, show 8 * (t / 8) + t % 8 = t by omega]
        rw [hc, if_pos rfl] at hih
        cases hb : bF (cnT any K v) (fun t => lsN S t d) t with
        | none =>
          rw [hb] at hih
          rw [if_pos (show oP none < 0 by decide)]
          exact hih
        | some k =>
          have hk := (bF_in _ _ _ _ hb).2
          rw [hb, bst] at hih
          have hd1 := (dn_le _ (hL k) _ (hL t)).1
          rw [if_neg (show ¬ oP (some k) < 0 from nI_pos (by omega))]
          by_cases w : lsN S t d < lsN S k d
          · rw [if_neg (show ¬ oM (fun t => lsN S t d) (some k) ≤ dn (lsN S t d) from fun h => hd1.mp h w)]
            rw [if_pos w] at hih
            exact hih
          · rw [if_pos (show oM (fun t => lsN S t d) (some k) ≤ dn (lsN S t d) from hd1.mpr w)]
            rw [if_neg w] at hih
            exact hih
      have hkb : ∀ p, kbt (nI v) p = v.testBit p := fun p => by unfold kbt; rw [cl_nI (by omega)]
      rw [fM_fillsTurn_L21, if_neg (show ¬ (64 : Int32) ≤ nI t from nI_ge (b := 64) ht64 (by omega)), (div8 ht64).1, (div8 ht64).2, getB (lt_nI hv (by omega)) (by omega) (show t / 8 < 10 by omega), getB (lt_nI hv (by omega)) (by omega) (show t % 8 < 10 by omega), hkb, hkb, areKin_m (by rw [e57]; exact h.1.2.2.1) hp hq, obs, e57]
      by_cases c1 : t % 8 ≤ t / 8
      · rw [if_pos (nI_le c1 (by omega))]
        exact h90 (by unfold cnT; rw [decide_eq_false (by omega)]; rfl)
      · have hlt : t / 8 < t % 8 := by omega
        rw [if_neg (nI_ge hlt (by omega))]
        have hcn : cnT any K v t = (v.testBit (t / 8) && (v.testBit (t % 8) && (any || !kbt (K (t / 8)) (t % 8)))) := by
          unfold cnT
          rw [decide_eq_true hlt]
          rfl
        cases h1 : v.testBit (t / 8) with
        | false =>
          rw [if_neg (show ¬ (if false = true then (1 : Int32) else 0) = 1 by decide)]
          exact h90 (by rw [hcn, h1]; rfl)
        | true =>
          rw [if_pos (show (if true = true then (1 : Int32) else 0) = 1 from rfl)]
          cases h2 : v.testBit (t % 8) with
          | false =>
            rw [if_neg (show ¬ (if false = true then (1 : Int32) else 0) = 1 by decide)]
            exact h90 (by rw [hcn, h1, h2]; rfl)
          | true =>
            rw [if_pos (show (if true = true then (1 : Int32) else 0) = 1 from rfl)]
            have hcn2 : cnT any K v t = (any || !kbt (K (t / 8)) (t % 8)) := by rw [hcn, h1, h2]; rfl
            clear hih ih
            cases any with
            | true =>
              rw [if_pos (show (if true = true then (1 : Int32) else 0) = 1 from rfl)]
              exact h86 hlt (by rw [hcn2]; rfl)
            | false =>
              rw [if_neg (show ¬ (if false = true then (1 : Int32) else 0) = 1 by decide)]
              cases h3 : kbt (K (t / 8)) (t % 8) with
              | true =>
                rw [if_neg (show ¬ (if true = true then (1 : Int32) else 0) = 0 from one_ne)]
                exact h90 (by rw [hcn2, h3]; rfl)
              | false =>
                rw [if_pos (show (if false = true then (1 : Int32) else 0) = 0 from rfl)]
                exact h86 hlt (by rw [hcn2, h3]; rfl)
  exact key 64 0 LF rfl (by decide)
