theorem nI_ne {a b : Nat} (h : a ≠ b) (ha : a < 2 ^ 31) (hb : b < 2 ^ 31) : ¬ nI a = nI b := fun e => h ((nI_eq ha hb).mp e)
theorem pcP : ∀ v, v < 256 → 0 < v → 0 < pcN v := by decide +kernel
theorem isIn_c {v p : Nat} (hv : v < 256) (hp : p < 8) : fPlans_isIn (nI v) (nI p) = if v.testBit p then 1 else 0 := by
  unfold fPlans_isIn
  rw [getB (lt_nI hv (by omega)) (by omega) (show p < 10 by omega)]
  unfold kbt
  rw [cl_nI (by omega)]
  cases v.testBit p <;> rfl
/-- who is there on a day, but r -/
def pvN (A : Nat → Int32) (d r n : Nat) : Nat := psN (fun p => decide (¬ p = r) && !kbt (A p) d) n
theorem pvN_lt (A : Nat → Int32) (d r : Nat) {n : Nat} (hn : n ≤ 8) : pvN A d r n < 256 := Nat.lt_of_lt_of_le (psN_lt _ n) (Nat.pow_le_pow_right (n := 2) (by omega) hn)
theorem pvN_bit {A : Nat → Int32} {d r n p : Nat} (h : (pvN A d r n).testBit p = true) : p < n := by
  unfold pvN at h
  rw [psN_bit] at h
  exact of_decide_eq_true (Bool.and_eq_true_iff.mp h).1
theorem present_c {c : MS} (hA : ∀ p, p < 8 → lt (gI c 3 p) 1024) {n : Nat} (hn : n ≤ 8) (e0 : gI c 1 0 = nI n) {d : Nat} (hd : d < 10) {l5 : Int32} {r : Nat} (hr : ∀ p, p < 8 → (nI p = l5 ↔ p = r)) : fPlans_presentFor_L41 c (nI d) l5 LF 0 0 = some (nI (pvN (gI c 3) d r n)) := by
  have key : ∀ (e i f : Nat), i + e = n → e < f → fPlans_presentFor_L41 c (nI d) l5 f (nI (pvN (gI c 3) d r i)) (nI i) = some (nI (pvN (gI c 3) d r n)) := by
    intro e
    induction e with
    | zero =>
      intro i f hi hf
      obtain ⟨f, rfl⟩ : ∃ m, f = m + 1 := ⟨f - 1, by omega⟩
      have hi : i = n := hi
      subst hi
      rw [fPlans_presentFor_L41, e0, if_pos (Int32.le_refl _)]
    | succ e ih =>
      intro i f hi hf
      obtain ⟨f, rfl⟩ : ∃ m, f = m + 1 := ⟨f - 1, by omega⟩
      have hih := ih (i + 1) f (by omega) (by omega)
      have hb := bit_or (P := fun p => decide (¬ p = r) && !kbt (gI c 3 p) d) (show i < 10 by omega)
      unfold pvN at *
      rw [fPlans_presentFor_L41, e0, if_neg (nI_ge (by omega) (by omega)), nI_s]
      by_cases c1 : i = r
      · rw [if_pos ((hr i (by omega)).mpr c1)]
        rw [hb.2 (by show (decide (¬ i = r) && _) = false; rw [decide_eq_false (fun h => h c1)]; rfl)] at hih
        exact hih
      · rw [if_neg (fun h => c1 ((hr i (by omega)).mp h)), isAway_c hA (by omega) hd, obs]
        cases h : kbt (gI c 3 i) d with
        | true =>
          rw [if_neg (show ¬ (if true = true then (1 : Int32) else 0) = 0 from one_ne)]
          rw [hb.2 (by show (_ && !kbt (gI c 3 i) d) = false; rw [h]; simp)] at hih
          exact hih
        | false =>
          rw [if_pos (show (if false = true then (1 : Int32) else 0) = 0 from rfl), hb.1 (by show (decide (¬ i = r) && !kbt (gI c 3 i) d) = true; rw [h, decide_eq_true c1]; rfl)]
          exact hih
  exact key n 0 LF (by omega) (by unfold LF; omega)
/-- who rests: 99 nobody -/
def rsN (k a d n : Nat) : Nat := if k = 4 then (if n = 0 then 99 else (a + d) % n) else 99
theorem presentFor_c {c : MS} (hA : ∀ p, p < 8 → lt (gI c 3 p) 1024) {n : Nat} (hn : n ≤ 8) (e0 : gI c 1 0 = nI n) {d i k a : Nat} (hd : d < 10) (hi : i < 4) (hk : k < 6) (ha : a < 4096) (ek : gI c 27 i = nI k) (ea : gI c 28 i = nI a) : fPlans_presentFor c (nI i) (nI d) = some (nI (pvN (gI c 3) d (rsN k a d n) n)) := by
  have none' : rsN k a d n = 99 → fPlans_presentFor_L41 c (nI d) (-1) LF 0 0 = some (nI (pvN (gI c 3) d (rsN k a d n) n)) := by
    intro e
    rw [e]
    exact present_c hA hn e0 hd (fun p hp => ⟨fun h => absurd h (o8_ne hp).1, fun h => by omega⟩)
  unfold fPlans_presentFor
  rw [if_neg (ix_ok hi (by omega)), if_neg (ix_ok hi (by omega)), nI_clamp (by omega), ek, ea, e0]
  by_cases c4 : k = 4
  · subst c4
    rw [if_pos (show nI 4 = 4 from rfl)]
    by_cases c0 : n = 0
    · subst c0
      rw [if_pos (show nI 0 ≤ 0 from Int32.le_refl _)]
      exact none' rfl
    · rw [if_neg (show ¬ nI n ≤ 0 from nI_ge (a := 0) (by omega) (by omega)), if_neg (show ¬ nI n = 0 from nI_ne (b := 0) c0 (by omega) (by omega)), nI_add, show irm (nI (a + d)) (nI n) = nI ((a + d) % n) from pk_rem (by omega) (by omega) (by omega)]
      have er : rsN 4 a d n = (a + d) % n := by unfold rsN; rw [if_pos rfl, if_neg c0]
      rw [er]
      have hlt : (a + d) % n < n := Nat.mod_lt _ (by omega)
      exact present_c hA hn e0 hd (fun p hp => nI_eq (by omega) (by omega))
  · rw [if_neg (show ¬ nI k = 4 from nI_ne (b := 4) c4 (by omega) (by omega))]
    exact none' (by unfold rsN; rw [if_neg c4])
def fEnd (z : MS) (l2 l3 l4 l5 : Int32) : Option (Int32 × MS) := if l3 = 5 then ob2 (fM_fillsTold z l4) (fun w121 zc121 => if w121 = 0 then some ((-3), zc121) else fM_fill_J142 zc121 l2 l3 l5) else Option.bind (fM_ones l5) (fun w132 => if 4 ≤ w132 then fM_fill_J142 z l2 l3 l5 else some ((-3), z))
theorem present_m {m : MS} (hA : ∀ p, p < 8 → lt (gI m 58 p) 1024) {n : Nat} (hn : n ≤ 8) (e0 : gI m 56 0 = nI n) {d k a : Nat} (hd : d < 10) (hk : k < 6) (ha : a < 4096) : fM_fill_L44 m (nI d) (nI k) (nI a) LF 0 0 = fEnd m (nI d) (nI k) (nI a) (nI (pvN (gI m 58) d (rsN k a d n) n)) := by
  have key : ∀ (e i f : Nat), i + e = n → e < f → fM_fill_L44 m (nI d) (nI k) (nI a) f (nI (pvN (gI m 58) d (rsN k a d n) i)) (nI i) = fEnd m (nI d) (nI k) (nI a) (nI (pvN (gI m 58) d (rsN k a d n) n)) := by
    intro e
    induction e with
    | zero =>
      intro i f hi hf
      obtain ⟨f, rfl⟩ : ∃ m, f = m + 1 := ⟨f - 1, by omega⟩
      have hi : i = n := hi
      subst hi
      rw [fM_fill_L44, e0, if_pos (Int32.le_refl _)]
      rfl
    | succ e ih =>
      intro i f hi hf
      obtain ⟨f, rfl⟩ : ∃ m, f = m + 1 := ⟨f - 1, by omega⟩
      have hih := ih (i + 1) f (by omega) (by omega)
      have hb := bit_or (P := fun p => decide (¬ p = rsN k a d n) && !kbt (gI m 58 p) d) (show i < 10 by omega)
      -- one turn
      have turn : ∀ s : Int32, (s = 0 ↔ ¬ i = rsN k a d n) → fM_fill_J77 m (fM_fill_L44 m (nI d) (nI k) (nI a) f) (nI d) (nI (pvN (gI m 58) d (rsN k a d n) i)) (nI i) s = fEnd m (nI d) (nI k) (nI a) (nI (pvN (gI m 58) d (rsN k a d n) n)) := by
        intro s hs
        unfold fM_fill_J77
        unfold pvN at *
        rw [isAway_m hA (show i < 8 by omega) hd, obs, nI_s, Int32.or_zero]
        cases h : kbt (gI m 58 i) d with
        | true =>
          rw [if_neg (show ¬ (if true = true then (1 : Int32) else 0) = 0 from one_ne)]
          rw [hb.2 (by show (_ && !kbt (gI m 58 i) d) = false; rw [h]; simp)] at hih
          exact hih
        | false =>
          rw [if_pos (show (if false = true then (1 : Int32) else 0) = 0 from rfl)]
          by_cases c1 : i = rsN k a d n
          · rw [if_neg (fun e => hs.mp e c1)]
            rw [hb.2 (by show (decide (¬ i = _) && _) = false; rw [decide_eq_false (fun h => h c1)]; rfl)] at hih
            exact hih
          · rw [if_pos (hs.mpr c1), hb.1 (by show (decide (¬ i = _) && !kbt (gI m 58 i) d) = true; rw [h, decide_eq_true c1]; rfl)]
            exact hih
      unfold fM_fill_J76 at *
      rw [fM_fill_L44, e0, if_neg (nI_ge (by omega) (by omega))]
      by_cases c4 : k = 4
      · subst c4
        have er : rsN 4 a d n = (a + d) % n := by unfold rsN; rw [if_pos rfl, if_neg (by omega)]
        have hlt : (a + d) % n < n := Nat.mod_lt _ (by omega)
        rw [if_pos (show nI 4 = 4 from rfl), if_neg (show ¬ nI n = 0 from nI_ne (b := 0) (by omega) (by omega) (by omega)), nI_add, show irm (nI (a + d)) (nI n) = nI ((a + d) % n) from pk_rem (by omega) (by omega) (by omega)]
        by_cases c1 : (a + d) % n = i
        · rw [if_pos (by rw [c1])]
          exact turn 1 ⟨fun h => absurd h one_ne, fun h => absurd (er.trans c1).symm h⟩
        · rw [if_neg (fun e => c1 ((nI_eq (by omega) (by omega)).mp e))]
          exact turn 0 ⟨fun _ h => c1 (er.symm.trans h.symm), fun _ => rfl⟩
      · rw [if_neg (show ¬ nI k = 4 from nI_ne (b := 4) c4 (by omega) (by omega))]
        refine turn 0 ⟨fun _ h => ?_, fun _ => rfl⟩
        unfold rsN at h
        rw [if_neg c4] at h
        omega
  exact key n 0 LF (by omega) (by unfold LF; omega)
/-- memory after drawing -/
def dz (z : MS) (Z : Int32) (F : Nat → Int32) : MS := pI (wI z 29 F) 26 4 Z
def dm (z : MS) (Z : Int32) (G : Nat → Int32) : MS := pI (wI z 74 G) 56 11 Z
theorem dz_Z (z : MS) (Z Y : Int32) (F : Nat → Int32) : pI (dz z Z F) 26 4 Y = dz z Y F := by
  unfold dz pI wI gI
  refine Prod.ext (funext fun b => ?_) rfl
  by_cases h1 : b = 26
  · subst h1
    show upd (upd (z.1 26) 4 Z) 4 Y = upd (z.1 26) 4 Y
    exact fa_upd_twice _ _ _ _
  · simp only [if_neg h1]
theorem dz_F (z : MS) (Z v : Int32) (F : Nat → Int32) (i : Nat) : pI (dz z Z F) 29 i v = dz z Z (upd F i v) := by
  unfold dz pI wI gI
  refine Prod.ext (funext fun b => ?_) rfl
  by_cases h1 : b = 29
  · subst h1; rfl
  · by_cases h2 : b = 26
    · subst h2; rfl
    · simp only [if_neg h1, if_neg h2]
theorem dm_Z (z : MS) (Z Y : Int32) (F : Nat → Int32) : pI (dm z Z F) 56 11 Y = dm z Y F := by
  unfold dm pI wI gI
  refine Prod.ext (funext fun b => ?_) rfl
  by_cases h1 : b = 56
  · subst h1
    show upd (upd (z.1 56) 11 Z) 11 Y = upd (z.1 56) 11 Y
    exact fa_upd_twice _ _ _ _
  · simp only [if_neg h1]
theorem dm_F (z : MS) (Z v : Int32) (F : Nat → Int32) (i : Nat) : pI (dm z Z F) 74 i v = dm z Z (upd F i v) := by
  unfold dm pI wI gI
  refine Prod.ext (funext fun b => ?_) rfl
  by_cases h1 : b = 74
  · subst h1; rfl
  · by_cases h2 : b = 56
    · subst h2; rfl
    · simp only [if_neg h1, if_neg h2]
theorem dz_self (z : MS) (F : Nat → Int32) : dz z (gI z 26 4) F = wI z 29 F := pI_same (wI z 29 F) 26 4 (gI z 26 4) rfl
theorem dm_self (z : MS) (F : Nat → Int32) : dm z (gI z 56 11) F = wI z 74 F := pI_same (wI z 74 F) 56 11 (gI z 56 11) rfl
/-- four people of a set, on both sides -/
def four (v : Nat) (F G : Nat → Int32) : Prop := ∀ j, j < 4 → ∃ p, v.testBit p = true ∧ p < 8 ∧ F j = nI p ∧ G j = nI p
theorem draws {z : MS} : ∀ (e i f v : Nat) (Z : Int32) (F : Nat → Int32), i + e = 4 → e < f → v < 256 → e ≤ pcN v → ∃ Z2 F2, (∀ j, j < i → F2 j = F j) ∧ fPlans_seatByDraw_L4 f (dz z Z F) (nI v) (nI i) = some (dz z Z2 F2) ∧ ∀ (y : MS) (G : Nat → Int32), ∃ G2, (∀ j, j < i → G2 j = G j) ∧ (∀ j, i ≤ j → j < 4 → ∃ p, v.testBit p = true ∧ p < 8 ∧ F2 j = nI p ∧ G2 j = nI p) ∧ fM_fillsDraw_L4 f (dm y Z G) (nI v) (nI i) = some (dm y Z2 G2) := by
  intro e
  induction e with
  | zero =>
    intro i f v Z F hi hf hv hp
    obtain ⟨f, rfl⟩ : ∃ m, f = m + 1 := ⟨f - 1, by omega⟩
    have hi : i = 4 := hi
    subst hi
    refine ⟨Z, F, fun _ _ => rfl, ?_, fun y G => ⟨G, fun _ _ => rfl, fun j h1 h2 => by omega, ?_⟩⟩
    · rw [fPlans_seatByDraw_L4, if_pos (show (4 : Int32) ≤ nI 4 from Int32.le_refl _)]
    · rw [fM_fillsDraw_L4, if_pos (show (4 : Int32) ≤ nI 4 from Int32.le_refl _)]
  | succ e ih =>
    intro i f v Z F hi hf hv hp
    obtain ⟨f, rfl⟩ : ∃ m, f = m + 1 := ⟨f - 1, by omega⟩
    have hi4 : i < 4 := by omega
    obtain ⟨k, t, d1, d2, d3, d4, d5, d6, d7, d8⟩ := draw1 hv (by omega) (Z * 1103515245 + 12345)
    have hpc := pcD v hv t d2 d3
    obtain ⟨Z2, F2, g1, g2, g3⟩ := ih (i + 1) f (rm v t) (Z * 1103515245 + 12345) (upd F i (nI t)) (by omega) (by omega) (rmD v hv t d2).2 (by omega)
    refine ⟨Z2, F2, ?_, ?_, ?_⟩
    · intro j hj
      rw [g1 j (by omega), upd_a, if_neg (by omega)]
    · have g26 : gI (dz z Z F) 26 4 = Z := rfl
      have g29 : ∀ Y, gI (dz z Y (upd F i (nI t))) 29 i = nI t := fun Y => by
        show upd F i (nI t) i = _
        rw [upd_a, if_pos rfl]
      rw [fPlans_seatByDraw_L4, if_neg (ge4 hi4), g26, dz_Z, d5 (dz z (Z * 1103515245 + 12345) F) rfl, obs, if_neg (ix_ok hi4 (by omega)), if_neg (ix_ok hi4 (by omega)), nI_clamp (by omega), dz_F, g29, (rmD v hv t d2).1, nI_s]
      exact g2
    · intro y G
      obtain ⟨G2, q1, q2, q3⟩ := g3 y (upd G i (nI t))
      refine ⟨G2, ?_, ?_, ?_⟩
      · intro j hj
        rw [q1 j (by omega), upd_a, if_neg (by omega)]
      · intro j h1 h2
        by_cases c : j = i
        · subst c
          refine ⟨t, d3, d2, ?_, ?_⟩
          · rw [g1 j (by omega), upd_a, if_pos rfl]
          · rw [q1 j (by omega), upd_a, if_pos rfl]
        · obtain ⟨p, p1, p2, p3, p4⟩ := q2 j (by omega) h2
          exact ⟨p, (rm_bit2 p1).1, p2, p3, p4⟩
      · have g56 : gI (dm y Z G) 56 11 = Z := rfl
        have g56b : ∀ Y, gI (dm y Y G) 56 11 = Y := fun Y => rfl
        rw [fM_fillsDraw_L4, if_neg (ge4 hi4), d6, obs, if_neg d7, g56, dm_Z, g56b, d8, ← d4]
        have hw := walk hv (dm y (Z * 1103515245 + 12345) G) (fM_fillsDraw_L4 f) (nI i) d2 d3 t 0 LF (by omega) (by unfold LF; omega)
        rw [if_neg (ix_ok hi4 (by omega)), nI_clamp (show i < 2 ^ 31 by omega), dm_F, nI_s] at hw
        exact hw.trans q3
