theorem prN_cong {S S2 : Nat → Int32} {e : Nat} (h0 : S2 (4 * e) = S (4 * e)) (h1 : S2 (4 * e + 1) = S (4 * e + 1)) : prN S2 e = prN S e := by
  unfold prN
  rw [h0, h1]
theorem lsN_cong {S S2 : Nat → Int32} (k : Nat) : ∀ d, (∀ e, e < d → prN S2 e = prN S e) → lsN S2 k d = lsN S k d := by
  intro d
  induction d with
  | zero => intro _; rfl
  | succ d ih =>
    intro h
    rw [lsN, lsN, h d (by omega), ih (fun e he => h e (by omega))]
theorem trS_cong {S S2 : Nat → Int32} (fd k t : Nat) : ∀ d, (∀ e, e < d → prN S2 e = prN S e) → trS fd k S2 t d = trS fd k S t d := by
  intro d
  induction d with
  | zero => intro _; rfl
  | succ d ih =>
    intro h
    rw [trS, trS, h d (by omega), ih (fun e he => h e (by omega))]
theorem bF_skip (C : Nat → Bool) (L : Nat → Nat) (a : Nat) : ∀ e, (∀ x, a ≤ x → x < a + e → C x = false) → bF C L (a + e) = bF C L a := by
  intro e
  induction e with
  | zero => intro _; rfl
  | succ e ih =>
    intro h
    rw [show a + (e + 1) = (a + e) + 1 by omega, bF, h (a + e) (by omega) (by omega), if_neg ftn]
    exact ih (fun x h1 h2 => h x h1 (by omega))
/-- the digits to the base 8, the highest first -/
def dgX (x j : Nat) : Nat := if j = 0 then x / 512 % 8 else if j = 1 then x / 64 % 8 else if j = 2 then x / 8 % 8 else x % 8
theorem dgX_lt (x j : Nat) : dgX x j < 8 := by
  unfold dgX
  by_cases c0 : j = 0
  · rw [if_pos c0]; exact Nat.mod_lt _ (by decide)
  · rw [if_neg c0]
    by_cases c1 : j = 1
    · rw [if_pos c1]; exact Nat.mod_lt _ (by decide)
    · rw [if_neg c1]
      by_cases c2 : j = 2
      · rw [if_pos c2]; exact Nat.mod_lt _ (by decide)
      · rw [if_neg c2]; exact Nat.mod_lt _ (by decide)
theorem dgX_of {p q b c : Nat} (hp : p < 8) (hq : q < 8) (hb : b < 8) (hc : c < 8) : dgX (512 * p + 64 * q + 8 * b + c) 0 = p ∧ dgX (512 * p + 64 * q + 8 * b + c) 1 = q ∧ dgX (512 * p + 64 * q + 8 * b + c) 2 = b ∧ dgX (512 * p + 64 * q + 8 * b + c) 3 = c := by
  refine ⟨?_, ?_, ?_, ?_⟩
  · show (512 * p + 64 * q + 8 * b + c) / 512 % 8 = p
    omega
  · show (512 * p + 64 * q + 8 * b + c) / 64 % 8 = q
    omega
  · show (512 * p + 64 * q + 8 * b + c) / 8 % 8 = b
    omega
  · show (512 * p + 64 * q + 8 * b + c) % 8 = c
    omega
/-- the two may sit -/
def mC1 (K A W S : Nat → Int32) (d p q : Nat) : Bool := decide (¬ p = q) && (!kbt (A p) d && (!kbt (A q) d && (!kbt (K p) q && !gpB S (pr p q) d (cl (W 7)))))
def mFr (A : Nat → Int32) (d p q x : Nat) : Bool := decide (¬ x = p) && (decide (¬ x = q) && !kbt (A x) d)
def mC2 (u : Int32) (K A T W S : Nat → Int32) (d p q b c : Nat) : Bool := decide (¬ b = c) && (mFr A d p q b && (mFr A d p q c && !payB (woI W (trK W S T (pr p q) d) (snN K W (pr p q) b c (kbt u d))) (W 6)))
/-- the way x of sitting is one -/
def okM (n : Nat) (u : Int32) (K A T W S : Nat → Int32) (d x : Nat) : Bool := (decide (dgX x 0 < n) && (decide (dgX x 1 < n) && (decide (dgX x 2 < n) && decide (dgX x 3 < n)))) && (mC1 K A W S d (dgX x 0) (dgX x 1) && mC2 u K A T W S d (dgX x 0) (dgX x 1) (dgX x 2) (dgX x 3))
def c1N (S : Nat → Int32) (d x j : Nat) : Nat := if S (4 * d + j) = nI (dgX x j) then 0 else 1
def csN (S : Nat → Int32) (d x : Nat) : Nat := c1N S d x 0 + c1N S d x 1 + c1N S d x 2 + c1N S d x 3
theorem c1N_le (S : Nat → Int32) (d x j : Nat) : c1N S d x j ≤ 1 := by
  unfold c1N
  by_cases c : S (4 * d + j) = nI (dgX x j)
  · rw [if_pos c]; omega
  · rw [if_neg c]; omega
theorem csN_le (S : Nat → Int32) (d x : Nat) : csN S d x ≤ 4 := by
  have h0 := c1N_le S d x 0
  have h1 := c1N_le S d x 1
  have h2 := c1N_le S d x 2
  have h3 := c1N_le S d x 3
  unfold csN
  omega
/-- the class' memory of the best way -/
def wz (z : MS) (a b : Int32) : MS := pI (pI z 19 5 a) 19 6 b
theorem wz_wz (z : MS) (a b c e : Int32) : pI (pI (wz z a b) 19 5 c) 19 6 e = wz z c e := by
  unfold wz pI wI gI
  refine Prod.ext (funext fun x => ?_) rfl
  by_cases h1 : x = 19
  · subst h1
    show upd (upd (upd (upd (z.1 19) 5 a) 6 b) 5 c) 6 e = upd (upd (z.1 19) 5 c) 6 e
    rw [fa_upd_swap _ (show (6 : Nat) ≠ 5 by decide), fa_upd_twice, fa_upd_twice]
  · simp only [if_neg h1]
def wC (S : Nat → Int32) (d : Nat) : Option Nat → Int32
  | none => 5
  | some x => nI (csN S d x)
def wD (D : Int32) : Option Nat → Int32
  | none => D
  | some x => dgM (nI (dgX x 0)) (nI (dgX x 1)) (nI (dgX x 2)) (nI (dgX x 3))
def wo (z : MS) (d : Nat) (D : Int32) (o : Option Nat) : MS := wz z (wC (gI z 6) d o) (wD D o)
theorem change_c {c : MS} {d s p : Nat} (hd : d < 10) (hs : s < 4) : fWays_change c (nI d) (nI s) (nI p) = some (if gI c 6 (4 * d + s) = nI p then 0 else 1) := by
  unfold fWays_change
  rw [at_c hd hs, obs]
  by_cases e : gI c 6 (4 * d + s) = nI p
  · rw [if_pos e, if_pos e]
  · rw [if_neg e, if_neg e]
theorem isFree_c {c : MS} (hA : ∀ p, p < 8 → lt (gI c 3 p) 1024) {p q x d : Nat} (hp : p < 8) (hq : q < 8) (hpq : p ≠ q) (hx : x < 8) (hd : d < 10) : fWays_isFree c (nI x) (nI (pr p q)) (nI d) = some (if mFr (gI c 3) d p q x then 1 else 0) := by
  have hk := pr_64 hp hq
  obtain ⟨a, b, h1, h2, h3, h4⟩ := pr_form hp hq hpq
  have hsym : mFr (gI c 3) d p q x = (decide (¬ x = a) && (decide (¬ x = b) && !kbt (gI c 3 x) d)) := by
    unfold mFr
    rcases h4 with ⟨r1, r2⟩ | ⟨r1, r2⟩
    · rw [r1, r2]
    · rw [r1, r2]
      cases decide (¬ x = p) <;> cases decide (¬ x = q) <;> rfl
  unfold fWays_isFree
  rw [hsym, (div8 hk).1, (div8 hk).2, isAway_c hA hx hd, obs, h3, show (8 * a + b) / 8 = a by omega, show (8 * a + b) % 8 = b by omega]
  by_cases c1 : x = a
  · rw [if_pos (by rw [c1]), decide_eq_false (fun h => h c1)]; rfl
  · rw [if_neg (nI_ne c1 (by omega) (by omega)), decide_eq_true c1]
    by_cases c2 : x = b
    · rw [if_pos (by rw [c2]), decide_eq_false (fun h => h c2)]; rfl
    · rw [if_neg (nI_ne c2 (by omega) (by omega)), decide_eq_true c2]
      cases kbt (gI c 3 x) d <;> rfl
theorem wouldPay_c {c : MS} (hK : KO (gI c 2) (gI c 5)) (hu : lt (gI c 1 1) 1024) {k t b x d : Nat} (hk : k < 64) (hb : b ≤ 8) (hx : x ≤ 8) (hd : d < 10) : fWays_wouldPay c (nI k) (nI t) (o8 b) (o8 x) (nI d) = some (if payB (woI (gI c 5) t (snN (gI c 2) (gI c 5) k b x (kbt (gI c 1 1) d))) (gI c 5 6) then 1 else 0) := by
  unfold fWays_wouldPay
  rw [hasS_c hu hd, seenOf_c hK hk hb hx, obs, isPaying_c]
  rfl
theorem mend54 (z : MS) {n : Nat} (hn : n ≤ 8) {F : Nat → Int32} (h : HV (nI n) (gI z 1 1) (gI z 2) (gI z 3) (gI z 4) (gI z 5) (gI z 6) (gI z 7) F) (e1 : gI z 1 0 = nI n) {d p q b : Nat} (hd : d < 10) (hp : p < n) (hq : q < n) (hpq : p ≠ q) (hb : b < n) (hC1 : mC1 (gI z 2) (gI z 3) (gI z 5) (gI z 6) d p q = true) (D : Int32) (Kn : MS → Int32 → Option MS) :
    ∀ (e c f : Nat), c + e = n → e < f → fWays_mendBy_L54 Kn (nI d) (nI p) (nI q) (nI (pr p q)) (nI (trK (gI z 5) (gI z 6) (gI z 4) (pr p q) d)) ((if gI z 6 (4 * d + 0) = nI p then 0 else 1) + (if gI z 6 (4 * d + 1) = nI q then 0 else 1)) (nI b) f (wo z d D (bF (okM n (gI z 1 1) (gI z 2) (gI z 3) (gI z 4) (gI z 5) (gI z 6) d) (csN (gI z 6) d) (512 * p + 64 * q + 8 * b + c))) (nI c) = Kn (wo z d D (bF (okM n (gI z 1 1) (gI z 2) (gI z 3) (gI z 4) (gI z 5) (gI z 6) d) (csN (gI z 6) d) (512 * p + 64 * q + 8 * b + 8))) (nI (b + 1)) := by
  intro e
  induction e with
  | zero =>
    intro c f hc hf
    obtain ⟨f, rfl⟩ : ∃ m, f = m + 1 := ⟨f - 1, by omega⟩
    have hc : c = n := hc
    subst hc
    have g1 : ∀ o, gI (wo z d D o) 1 0 = nI c := fun o => e1
    rw [fWays_mendBy_L54, g1, if_pos (Int32.le_refl _), nI_s]
    have := bF_skip (okM c (gI z 1 1) (gI z 2) (gI z 3) (gI z 4) (gI z 5) (gI z 6) d) (csN (gI z 6) d) (512 * p + 64 * q + 8 * b + c) (8 - c) (by
      intro x h1 h2
      have hx : x = 512 * p + 64 * q + 8 * b + (x - (512 * p + 64 * q + 8 * b)) := by omega
      have h3 := (dgX_of (p := p) (q := q) (b := b) (c := x - (512 * p + 64 * q + 8 * b)) (by omega) (by omega) (by omega) (by omega)).2.2.2
      rw [← hx] at h3
      unfold okM
      rw [h3, decide_eq_false (show ¬ x - (512 * p + 64 * q + 8 * b) < c by omega)]
      simp)
    rw [show 512 * p + 64 * q + 8 * b + c + (8 - c) = 512 * p + 64 * q + 8 * b + 8 by omega] at this
    rw [this]
  | succ e ih =>
    intro c f hc hf
    obtain ⟨f, rfl⟩ : ∃ m, f = m + 1 := ⟨f - 1, by omega⟩
    have hc8 : c < n := by omega
    have hih := ih (c + 1) f (by omega) (by omega)
    obtain ⟨d0, d1, d2, d3⟩ := dgX_of (p := p) (q := q) (b := b) (c := c) (by omega) (by omega) (by omega) (by omega)
    have hok : okM n (gI z 1 1) (gI z 2) (gI z 3) (gI z 4) (gI z 5) (gI z 6) d (512 * p + 64 * q + 8 * b + c) = mC2 (gI z 1 1) (gI z 2) (gI z 3) (gI z 4) (gI z 5) (gI z 6) d p q b c := by
      unfold okM
      rw [d0, d1, d2, d3, hC1, decide_eq_true hp, decide_eq_true hq, decide_eq_true hb, decide_eq_true hc8]
      rfl
    have hcs : csN (gI z 6) d (512 * p + 64 * q + 8 * b + c) = (if gI z 6 (4 * d + 0) = nI p then 0 else 1) + (if gI z 6 (4 * d + 1) = nI q then 0 else 1) + (if gI z 6 (4 * d + 2) = nI b then 0 else 1) + (if gI z 6 (4 * d + 3) = nI c then 0 else 1) := by
      unfold csN c1N
      rw [d0, d1, d2, d3]
    have hb8 : b < 8 := by omega
    have hcc8 : c < 8 := by omega
    rw [show 512 * p + 64 * q + 8 * b + (c + 1) = (512 * p + 64 * q + 8 * b + c) + 1 by omega, bF, hok] at hih
    generalize hx : 512 * p + 64 * q + 8 * b + c = x at *
    generalize ho : bF (okM n (gI z 1 1) (gI z 2) (gI z 3) (gI z 4) (gI z 5) (gI z 6) d) (csN (gI z 6) d) x = o at *
    have g1 : gI (wo z d D o) 1 0 = nI n := e1
    have ch2 : fWays_change (wo z d D o) (nI d) 2 (nI b) = some (if gI z 6 (4 * d + 2) = nI b then 0 else 1) := change_c (c := wo z d D o) hd (show 2 < 4 by omega)
    have ch3 : fWays_change (wo z d D o) (nI d) 3 (nI c) = some (if gI z 6 (4 * d + 3) = nI c then 0 else 1) := change_c (c := wo z d D o) hd (show 3 < 4 by omega)
    have fr1 : fWays_isFree (wo z d D o) (nI b) (nI (pr p q)) (nI d) = some (if mFr (gI z 3) d p q b then 1 else 0) := isFree_c (c := wo z d D o) h.2.2.2.2.2.1 (by omega) (by omega) hpq hb8 hd
    have fr2 : fWays_isFree (wo z d D o) (nI c) (nI (pr p q)) (nI d) = some (if mFr (gI z 3) d p q c then 1 else 0) := isFree_c (c := wo z d D o) h.2.2.2.2.2.1 (by omega) (by omega) hpq hcc8 hd
    have wp : fWays_wouldPay (wo z d D o) (nI (pr p q)) (nI (trK (gI z 5) (gI z 6) (gI z 4) (pr p q) d)) (nI b) (nI c) (nI d) = some (if payB (woI (gI z 5) (trK (gI z 5) (gI z 6) (gI z 4) (pr p q) d) (snN (gI z 2) (gI z 5) (pr p q) b c (kbt (gI z 1 1) d))) (gI z 5 6) then 1 else 0) := by
      have := wouldPay_c (c := wo z d D o) (HV_KO h) h.2.1 (k := pr p q) (t := trK (gI z 5) (gI z 6) (gI z 4) (pr p q) d) (b := b) (x := c) (pr_64 (by omega) (by omega)) (by omega) (by omega) hd
      rw [o8_lt hb8, o8_lt hcc8] at this
      exact this
    have g5 : gI (wo z d D o) 19 5 = wC (gI z 6) d o := rfl
    have hsum : (((if gI z 6 (4 * d + 0) = nI p then (0 : Int32) else 1) + (if gI z 6 (4 * d + 1) = nI q then 0 else 1)) + (if gI z 6 (4 * d + 2) = nI b then 0 else 1)) + (if gI z 6 (4 * d + 3) = nI c then 0 else 1) = nI (csN (gI z 6) d x) := by
      rw [hcs, ← nI_add, ← nI_add, ← nI_add]
      congr 1
      · congr 1
        · congr 1
          · by_cases c : gI z 6 (4 * d + 0) = nI p
            · rw [if_pos c, if_pos c]; rfl
            · rw [if_neg c, if_neg c]; rfl
          · by_cases c : gI z 6 (4 * d + 1) = nI q
            · rw [if_pos c, if_pos c]; rfl
            · rw [if_neg c, if_neg c]; rfl
        · by_cases c : gI z 6 (4 * d + 2) = nI b
          · rw [if_pos c, if_pos c]; rfl
          · rw [if_neg c, if_neg c]; rfl
      · by_cases c : gI z 6 (4 * d + 3) = nI c
        · rw [if_pos c, if_pos c]; rfl
        · rw [if_neg c, if_neg c]; rfl
    have h4 := csN_le (gI z 6) d x
    have hcmp : wC (gI z 6) d o ≤ nI (csN (gI z 6) d x) ↔ ∃ k, o = some k ∧ ¬ csN (gI z 6) d x < csN (gI z 6) d k := by
      cases o with
      | none =>
        refine ⟨fun hle => ?_, fun ⟨k, hk, _⟩ => by cases hk⟩
        exact absurd hle (show ¬ (5 : Int32) ≤ nI (csN (gI z 6) d x) from nI_ge (b := 5) (by omega) (by omega))
      | some k =>
        have h5 := csN_le (gI z 6) d k
        refine ⟨fun hle => ⟨k, rfl, fun hlt => absurd hle (nI_ge hlt (by omega))⟩, fun ⟨k2, hk2, hlt⟩ => ?_⟩
        cases hk2
        exact nI_le (by omega) (by omega)
    rw [fWays_mendBy_L54, g1, if_neg (nI_ge hc8 (by omega)), ch2, obs, ch3, obs, hsum, g5, fr1, obs, fr2, obs, wp, obs, nI_s]
    by_cases hskip : wC (gI z 6) d o ≤ nI (csN (gI z 6) d x)
    · obtain ⟨k, hk, hlt⟩ := hcmp.mp hskip
      rw [if_pos hskip]
      subst hk
      rw [bst, if_neg hlt] at hih
      have : (if mC2 (gI z 1 1) (gI z 2) (gI z 3) (gI z 4) (gI z 5) (gI z 6) d p q b c = true then some k else some k) = some k := by
        by_cases c : mC2 (gI z 1 1) (gI z 2) (gI z 3) (gI z 4) (gI z 5) (gI z 6) d p q b c = true
        · rw [if_pos c]
        · rw [if_neg c]
      rw [this] at hih
      exact hih
    · rw [if_neg hskip]
      have hbst : bst (csN (gI z 6) d) x o = some x := by
        cases o with
        | none => rfl
        | some k =>
          rw [bst]
          by_cases w : csN (gI z 6) d x < csN (gI z 6) d k
          · rw [if_pos w]
          · exact absurd (hcmp.mpr ⟨k, rfl, w⟩) hskip
      rw [hbst] at hih
      unfold mC2 at hih
      by_cases cbc : b = c
      · rw [if_pos (by rw [cbc])]
        rw [decide_eq_false (fun h => h cbc), Bool.false_and, if_neg ftn] at hih
        exact hih
      · rw [if_neg (nI_ne cbc (by omega) (by omega))]
        rw [decide_eq_true cbc, Bool.true_and] at hih
        cases f1 : mFr (gI z 3) d p q b with
        | false =>
          rw [if_pos (show (if false = true then (1 : Int32) else 0) = 0 from rfl)]
          rw [f1, Bool.false_and, if_neg ftn] at hih
          exact hih
        | true =>
          rw [if_neg (show ¬ (if true = true then (1 : Int32) else 0) = 0 from one_ne)]
          rw [f1, Bool.true_and] at hih
          cases f2 : mFr (gI z 3) d p q c with
          | false =>
            rw [if_pos (show (if false = true then (1 : Int32) else 0) = 0 from rfl)]
            rw [f2, Bool.false_and, if_neg ftn] at hih
            exact hih
          | true =>
            rw [if_neg (show ¬ (if true = true then (1 : Int32) else 0) = 0 from one_ne)]
            rw [f2, Bool.true_and] at hih
            cases f3 : payB (woI (gI z 5) (trK (gI z 5) (gI z 6) (gI z 4) (pr p q) d) (snN (gI z 2) (gI z 5) (pr p q) b c (kbt (gI z 1 1) d))) (gI z 5 6) with
            | true =>
              rw [if_neg (show ¬ (if true = true then (1 : Int32) else 0) = 0 from one_ne)]
              rw [f3, Bool.not_true, if_neg ftn] at hih
              exact hih
            | false =>
              rw [if_pos (show (if false = true then (1 : Int32) else 0) = 0 from rfl)]
              rw [f3, Bool.not_false, if_pos rfl] at hih
              have hmem : pI (pI (wo z d D o) 19 5 (nI (csN (gI z 6) d x))) 19 6 (((nI p ||| (nI q <<< ((3 : Int32) &&& 31))) ||| (nI b <<< ((6 : Int32) &&& 31))) ||| (nI c <<< ((9 : Int32) &&& 31))) = wo z d D (some x) := by
                unfold wo
                rw [wz_wz]
                show wz z (nI (csN (gI z 6) d x)) (dgM (nI p) (nI q) (nI b) (nI c)) = wz z (nI (csN (gI z 6) d x)) (dgM (nI (dgX x 0)) (nI (dgX x 1)) (nI (dgX x 2)) (nI (dgX x 3)))
                rw [d0, d1, d2, d3]
              rw [hmem]
              exact hih
