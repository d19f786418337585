theorem ls_iff (S : Nat → Int32) (t D g : Nat) : ∀ F, (¬ lsN S t F = 0 ∧ D + 1 ≤ lsN S t F + g) ↔ ∃ e, e < F ∧ D ≤ e + g ∧ prN S e = t := by
  intro F
  induction F with
  | zero => exact ⟨fun h => absurd rfl h.1, fun ⟨e, h, _⟩ => by omega⟩
  | succ F ih =>
    rw [lsN]
    by_cases c : prN S F = t
    · rw [if_pos c]
      refine ⟨fun h => ⟨F, by omega, by omega, c⟩, fun ⟨e, h1, h2, h3⟩ => ⟨by omega, by omega⟩⟩
    · rw [if_neg c, ih]
      refine ⟨fun ⟨e, h1, h2, h3⟩ => ⟨e, by omega, h2, h3⟩, fun ⟨e, h1, h2, h3⟩ => ⟨e, ?_, h2, h3⟩⟩
      rcases Nat.lt_or_ge e F with h4 | h4
      · exact h4
      · have : e = F := by omega
        subst this
        exact absurd h3 c
/-- seats with the first k chosen pairs from the day f on -/
def GS (S : Nat → Int32) (f : Nat) (ch : Nat → Nat) : Nat → Nat → Int32
  | 0 => S
  | k + 1 => upd (upd (GS S f ch k) (4 * (f + k)) (nI (ch k / 8))) (4 * (f + k) + 1) (nI (ch k % 8))
theorem GS_out (S : Nat → Int32) (f : Nat) (ch : Nat → Nat) (i : Nat) : ∀ k, (∀ j, j < k → i ≠ 4 * (f + j) ∧ i ≠ 4 * (f + j) + 1) → GS S f ch k i = S i := by
  intro k
  induction k with
  | zero => intro _; rfl
  | succ k ih =>
    intro h
    have := h k (by omega)
    rw [GS, upd_a, if_neg this.2, upd_a, if_neg this.1, ih (fun j hj => h j (by omega))]
theorem GS_in (S : Nat → Int32) (f : Nat) (ch : Nat → Nat) (j : Nat) : ∀ k, j < k → GS S f ch k (4 * (f + j)) = nI (ch j / 8) ∧ GS S f ch k (4 * (f + j) + 1) = nI (ch j % 8) := by
  intro k
  induction k with
  | zero => intro h; omega
  | succ k ih =>
    intro h
    rw [GS, upd_a, upd_a, upd_a, upd_a]
    by_cases c : j = k
    · subst c
      rw [if_neg (by omega), if_pos rfl, if_pos rfl]
      exact ⟨rfl, rfl⟩
    · rw [if_neg (by omega), if_neg (by omega), if_neg (by omega), if_neg (by omega)]
      exact ih (by omega)
theorem GS_pr (S : Nat → Int32) (f : Nat) {ch : Nat → Nat} {j k : Nat} (hj : j < k) (hc : ch j / 8 < ch j % 8) : prN (GS S f ch k) (f + j) = ch j := by
  obtain ⟨h0, h1⟩ := GS_in S f ch j k hj
  have hb : ch j % 8 < 8 := Nat.mod_lt _ (by decide)
  unfold prN
  rw [h0, h1, sv_nI (by omega), sv_nI hb, if_neg (by omega), (pr_lt hc).1]
  omega
theorem GS_pr0 (S : Nat → Int32) (f : Nat) (ch : Nat → Nat) (k : Nat) {e : Nat} (he : e < f) : prN (GS S f ch k) e = prN S e :=
  prN_cong (GS_out S f ch _ k (fun j _ => ⟨by omega, by omega⟩)) (GS_out S f ch _ k (fun j _ => ⟨by omega, by omega⟩))
/-- the k-th pair t can sit behind those chosen -/
def okA (m : Nat) (u : Int32) (K A T W S : Nat → Int32) (f k : Nat) (ch : Nat → Nat) (t : Nat) : Bool := (decide (t / 8 < t % 8) && decide (t % 8 < m)) && ((!kbt (A (t / 8)) (f + k) && !kbt (A (t % 8)) (f + k)) && decide (brN u K A T W (upd (upd (GS S f ch k) (4 * (f + k)) (nI (t / 8))) (4 * (f + k) + 1) (nI (t % 8))) (f + k) = 0))
/-- t was chosen within g days -/
def rcR (ch : Nat → Nat) (t k g : Nat) : Nat → Bool
  | 0 => false
  | j + 1 => rcR ch t k g j || (decide (ch j = t) && decide (k ≤ j + g))
theorem rcR_iff (ch : Nat → Nat) (t k g : Nat) : ∀ j, rcR ch t k g j = true ↔ ∃ i, i < j ∧ ch i = t ∧ k ≤ i + g := by
  intro j
  induction j with
  | zero => exact ⟨fun h => (by cases h), fun ⟨i, h, _⟩ => (by omega)⟩
  | succ j ih =>
    rw [rcR, Bool.or_eq_true, ih, Bool.and_eq_true, decide_eq_true_eq, decide_eq_true_eq]
    constructor
    · intro h
      rcases h with ⟨i, h1, h2, h3⟩ | ⟨h1, h2⟩
      · exact ⟨i, by omega, h2, h3⟩
      · exact ⟨j, by omega, h1, h2⟩
    · intro ⟨i, h1, h2, h3⟩
      rcases Nat.lt_or_ge i j with h4 | h4
      · exact Or.inl ⟨i, h4, h2, h3⟩
      · have : i = j := by omega
        subst this
        exact Or.inr ⟨h2, h3⟩
theorem pay_mono {n u : Int32} {K A T W S O F : Nat → Int32} (h : HV n u K A T W S O F) {a b s : Nat} (hab : a ≤ b) (hb : b < 10) (hs : s ≤ 12) (hp : payB (woI W a s) (W 6) = true) : payB (woI W b s) (W 6) = true := by
  obtain ⟨w, hw, ew, -⟩ := lt_ex (h.2.2.2.2.2.2.2.2.1 0 (by omega))
  obtain ⟨v, hv, ev, -⟩ := lt_ex (h.2.2.2.2.2.2.2.2.1 1 (by omega))
  have hw : w < 21 := hw
  have hv : v < 100 := hv
  have hI : ∀ t, t < 10 → (woI W t s).toInt = ((12 * w * t : Nat) : Int) - ((v * s : Nat) : Int) := by
    intro t ht
    unfold woI
    rw [ew, ev, show (12 : Int32) = nI 12 from rfl, pk_mul, pk_mul, pk_mul]
    have h1 : 12 * w * t ≤ 12 * 20 * 9 := Nat.mul_le_mul (Nat.mul_le_mul_left 12 (by omega)) (by omega)
    have h2 : v * s ≤ 99 * 12 := Nat.mul_le_mul (by omega) hs
    exact pk_sub_toInt (by omega) (by omega)
  have hle : (woI W a s).toInt ≤ (woI W b s).toInt := by
    rw [hI a (by omega), hI b hb]
    have : 12 * w * a ≤ 12 * w * b := Nat.mul_le_mul_left _ hab
    omega
  unfold payB at *
  by_cases c1 : woI W a s ≤ 0
  · rw [if_pos c1] at hp; cases hp
  · rw [if_neg c1] at hp
    by_cases c2 : woI W a s ≤ 24 * W 6
    · rw [if_pos c2] at hp; cases hp
    · rw [Int32.le_iff_toInt_le] at c1 c2
      rw [if_neg (by rw [Int32.le_iff_toInt_le]; omega), if_neg (by rw [Int32.le_iff_toInt_le]; omega)]
/-- what is broken with two at the till and who is at the book and the count -/
theorem brP {u : Int32} {K A T W G : Nat → Int32} {D p q bk ct : Nat} (hK : ∀ p q, p < 8 → q < 8 → kbt (K p) q = kbt (K q) p) (hp : p < q) (hq : q < 8) (g0 : G (4 * D) = nI p) (g1 : G (4 * D + 1) = nI q) (g2 : sv (G (4 * D + 2)) = bk) (g3 : sv (G (4 * D + 3)) = ct) (hb : bk ≤ 8) (hc : ct ≤ 8) :
    (!kbt (A p) D && !kbt (A q) D) = true → (brN u K A T W G D = 0 ↔ (bsB K A D (8 * p + q) bk ct = true ∧ gpB G (8 * p + q) D (cl (W 7)) = false ∧ payB (woI W (trK W G T (8 * p + q) D) (snN K W (8 * p + q) bk ct (kbt u D))) (W 6) = false)) := by
  intro haw
  rw [Bool.and_eq_true, Bool.not_eq_true', Bool.not_eq_true'] at haw
  obtain ⟨a0, a1⟩ := haw
  have s0 : sv (G (4 * D)) = p := by rw [g0, sv_nI (by omega)]
  have s1 : sv (G (4 * D + 1)) = q := by rw [g1, sv_nI hq]
  have s0' : sv (G (4 * D + 0)) = p := s0
  have hpr : prN G D = 8 * p + q := by
    unfold prN
    rw [s0, s1, if_neg (by omega), (pr_lt hp).1]
  have d8 : (8 * p + q) / 8 = p := by omega
  have m8 : (8 * p + q) % 8 = q := by omega
  have haw : awR A G D 4 = ((if bk = 8 then false else kbt (A bk) D) || (if ct = 8 then false else kbt (A ct) D)) := by
    show ((((false || (if sv (G (4 * D + 0)) = 8 then false else kbt (A (sv (G (4 * D + 0)))) D)) || (if sv (G (4 * D + 1)) = 8 then false else kbt (A (sv (G (4 * D + 1)))) D)) || (if sv (G (4 * D + 2)) = 8 then false else kbt (A (sv (G (4 * D + 2)))) D)) || (if sv (G (4 * D + 3)) = 8 then false else kbt (A (sv (G (4 * D + 3)))) D)) = _
    rw [s0', s1, g2, g3, if_neg (show ¬ p = 8 by omega), if_neg (show ¬ q = 8 by omega), a0, a1]
    rfl
  have e1 : usN G D 1 = 0 ||| 2 ^ p := by rw [usN, s0', if_neg (by omega)]; rfl
  have e2 : usN G D 2 = (0 ||| 2 ^ p) ||| 2 ^ q := by rw [usN, s1, if_neg (by omega), e1]
  have e3 : usN G D 3 = if bk = 8 then (0 ||| 2 ^ p) ||| 2 ^ q else ((0 ||| 2 ^ p) ||| 2 ^ q) ||| 2 ^ bk := by rw [usN, g2, e2]
  have htw : twR G D 4 = ((if bk = 8 then false else (decide (p = bk) || decide (q = bk))) || (if ct = 8 then false else ((decide (p = ct) || decide (q = ct)) || (if bk = 8 then false else decide (bk = ct))))) := by
    show ((((false || (if sv (G (4 * D + 0)) = 8 then false else (usN G D 0).testBit (sv (G (4 * D + 0))))) || (if sv (G (4 * D + 1)) = 8 then false else (usN G D 1).testBit (sv (G (4 * D + 1))))) || (if sv (G (4 * D + 2)) = 8 then false else (usN G D 2).testBit (sv (G (4 * D + 2))))) || (if sv (G (4 * D + 3)) = 8 then false else (usN G D 3).testBit (sv (G (4 * D + 3))))) = _
    rw [s0', s1, g2, g3, if_neg (show ¬ p = 8 by omega), if_neg (show ¬ q = 8 by omega), e1, e2, e3, show usN G D 0 = 0 from rfl]
    by_cases c : bk = 8
    · rw [if_pos c, if_pos c, if_pos c, if_pos c]
      simp only [Nat.testBit_or, Nat.zero_testBit, Nat.testBit_two_pow, Bool.false_or, Bool.or_false]
      rw [decide_eq_false (show ¬ p = q by omega), Bool.false_or]
    · rw [if_neg c, if_neg c, if_neg c, if_neg c]
      simp only [Nat.testBit_or, Nat.zero_testBit, Nat.testBit_two_pow, Bool.false_or, Bool.or_false]
      rw [decide_eq_false (show ¬ p = q by omega), Bool.false_or]
  have hbs : bsB K A D (8 * p + q) bk ct = (!awR A G D 4 && (!twR G D 4 && !kbt (K p) q)) := by
    unfold bsB mFr
    rw [d8, m8, haw, htw, a0, a1]
    by_cases c1 : bk = 8
    · rw [if_pos c1, if_pos c1, if_pos c1, decide_eq_true c1]
      by_cases c2 : ct = 8
      · rw [if_pos c2, if_pos c2, decide_eq_true c2]
        cases kbt (K p) q <;> rfl
      · rw [if_neg c2, if_neg c2, decide_eq_false c2]
        by_cases c3 : ct = p
        · rw [decide_eq_false (show ¬ ¬ ct = p from fun h => h c3), decide_eq_true (show p = ct from c3.symm)]
          cases kbt (K p) q <;> cases kbt (A ct) D <;> rfl
        · rw [decide_eq_true c3, decide_eq_false (show ¬ p = ct from fun h => c3 h.symm)]
          by_cases c4 : ct = q
          · rw [decide_eq_false (show ¬ ¬ ct = q from fun h => h c4), decide_eq_true (show q = ct from c4.symm)]
            cases kbt (K p) q <;> cases kbt (A ct) D <;> rfl
          · rw [decide_eq_true c4, decide_eq_false (show ¬ q = ct from fun h => c4 h.symm)]
            cases kbt (K p) q <;> cases kbt (A ct) D <;> rfl
    · rw [if_neg c1, if_neg c1, if_neg c1, decide_eq_false c1]
      have x1 : decide (¬ bk = p) = !decide (p = bk) := by
        by_cases c : bk = p
        · rw [decide_eq_false (fun h => h c), decide_eq_true c.symm]; rfl
        · rw [decide_eq_true c, decide_eq_false (fun h => c h.symm)]; rfl
      have x2 : decide (¬ bk = q) = !decide (q = bk) := by
        by_cases c : bk = q
        · rw [decide_eq_false (fun h => h c), decide_eq_true c.symm]; rfl
        · rw [decide_eq_true c, decide_eq_false (fun h => c h.symm)]; rfl
      by_cases c2 : ct = 8
      · rw [if_pos c2, if_pos c2, decide_eq_true c2, decide_eq_true (show ¬ bk = ct by omega), x1, x2]
        cases kbt (K p) q <;> cases kbt (A bk) D <;> cases decide (p = bk) <;> cases decide (q = bk) <;> rfl
      · have y1 : decide (¬ ct = p) = !decide (p = ct) := by
          by_cases c : ct = p
          · rw [decide_eq_false (fun h => h c), decide_eq_true c.symm]; rfl
          · rw [decide_eq_true c, decide_eq_false (fun h => c h.symm)]; rfl
        have y2 : decide (¬ ct = q) = !decide (q = ct) := by
          by_cases c : ct = q
          · rw [decide_eq_false (fun h => h c), decide_eq_true c.symm]; rfl
          · rw [decide_eq_true c, decide_eq_false (fun h => c h.symm)]; rfl
        have y3 : decide (¬ bk = ct) = !decide (bk = ct) := by
          by_cases c : bk = ct
          · rw [decide_eq_false (fun h => h c), decide_eq_true c]; rfl
          · rw [decide_eq_true c, decide_eq_false c]; rfl
        rw [if_neg c2, if_neg c2, decide_eq_false c2, x1, x2, y1, y2, y3]
        cases kbt (K p) q <;> cases kbt (A bk) D <;> cases kbt (A ct) D <;> cases decide (p = bk) <;> cases decide (q = bk) <;> cases decide (p = ct) <;> cases decide (q = ct) <;> cases decide (bk = ct) <;> rfl
  unfold brN woD snD
  rw [hbs, hpr, g2, g3, d8, m8, if_neg (show ¬ 8 * p + q = 64 by omega)]
  cases awR A G D 4 <;> cases twR G D 4 <;> cases kbt (K p) q <;> cases gpB G (8 * p + q) D (cl (W 7)) <;> cases payB (woI W (trK W G T (8 * p + q) D) (snN K W (8 * p + q) bk ct (kbt u D))) (W 6) <;> decide
