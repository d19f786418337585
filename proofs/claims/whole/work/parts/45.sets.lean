def pcN (v : Nat) : Nat := cl (fJInt_bitCount (nI v))
def rm (v p : Nat) : Nat := if v.testBit p then v ^^^ 2 ^ p else v
def lsB (v : Nat) : Nat := cl ((fPlans_leastOf (nI v)).getD 0)
def zz : MS := (fun _ _ => 0, fun _ _ => 0)
def ntB (v k : Nat) : Nat := cl ((fPlans_drawFrom_L26 zz (nI k) LF (nI v) 0).getD 0)
/-- bits of v in d places from p on -/
def cR (v : Nat) : Nat → Nat → Nat
  | _, 0 => 0
  | p, d + 1 => (if v.testBit p then 1 else 0) + cR v (p + 1) d
theorem rmD : ∀ v, v < 256 → ∀ p, p < 8 → (nI v &&& (((1 : Int32) <<< (nI p &&& 31)) ^^^ (-1))) = nI (rm v p) ∧ rm v p < 256 := by decide +kernel
theorem pcD : ∀ v, v < 256 → ∀ p, p < 8 → v.testBit p = true → pcN (rm v p) + 1 = pcN v := by decide +kernel
theorem lsD : ∀ v, v < 256 → 0 < pcN v → fPlans_leastOf (nI v) = some (nI (lsB v)) ∧ fM_leastOf (nI v) = some (nI (lsB v)) ∧ lsB v < 8 ∧ v.testBit (lsB v) = true := by decide +kernel
theorem ntD : ∀ v, v < 256 → ∀ k, k < 8 → k < pcN v → fPlans_drawFrom_L26 zz (nI k) LF (nI v) 0 = some (nI (ntB v k)) ∧ ntB v k < 8 ∧ v.testBit (ntB v k) = true ∧ cR v 0 (ntB v k) = k := by decide +kernel
theorem prD : ∀ v, v < 256 → 4 ≤ pcN v → ∃ t, t < 64 ∧ t / 8 < t % 8 ∧ v.testBit (t / 8) = true ∧ v.testBit (t % 8) = true := by decide +kernel
theorem pc8 : ∀ v, v < 256 → pcN v ≤ 8 := by decide +kernel
theorem pc00 : pcN 0 = 0 := by decide +kernel
theorem rm_bit {v p q : Nat} (h : q ≠ p) : (rm v p).testBit q = v.testBit q := by
  unfold rm
  cases v.testBit p with
  | false => rfl
  | true => rw [if_pos rfl, Nat.testBit_xor, Nat.testBit_two_pow, decide_eq_false (fun e => h e.symm), Bool.xor_false]
theorem rm_bit2 {v p q : Nat} (h : (rm v p).testBit q = true) : v.testBit q = true ∧ q ≠ p := by
  by_cases e : q = p
  · subst e
    unfold rm at h
    cases c : v.testBit q with
    | false => rw [c, if_neg ftn] at h; rw [h] at c; cases c
    | true => rw [c, if_pos rfl, Nat.testBit_xor, c, Nat.testBit_two_pow_self] at h; cases h
  · rw [rm_bit e] at h
    exact ⟨h, e⟩
theorem L26_z (z y : MS) (l3 : Int32) : ∀ (n : Nat) (l1 l4 : Int32), fPlans_drawFrom_L26 z l3 n l1 l4 = fPlans_drawFrom_L26 y l3 n l1 l4 := by
  intro n
  induction n with
  | zero => intro l1 l4; rfl
  | succ n ih =>
    intro l1 l4
    rw [fPlans_drawFrom_L26, fPlans_drawFrom_L26, ih]
theorem ush16 (x : Int32) : ∃ w, w < 65536 ∧ iush x 16 = nI w := by
  refine ⟨(x.toUInt32 >>> ((16 : Int32).toUInt32 &&& Int32.toUInt32 31)).toNat, ?_, ?_⟩
  · rw [UInt32.toNat_shiftRight, show ((16 : Int32).toUInt32 &&& Int32.toUInt32 31).toNat % 32 = 16 by decide, Nat.shiftRight_eq_div_pow]
    have := x.toUInt32.toNat_lt
    omega
  · unfold iush
    apply Int32.toBitVec_inj.mp
    show (x.toUInt32 >>> ((16 : Int32).toUInt32 &&& Int32.toUInt32 31)).toBitVec = BitVec.ofNat 32 (x.toUInt32 >>> ((16 : Int32).toUInt32 &&& Int32.toUInt32 31)).toNat
    apply BitVec.eq_of_toNat_eq
    rw [BitVec.toNat_ofNat]
    exact (Nat.mod_eq_of_lt (x.toUInt32 >>> ((16 : Int32).toUInt32 &&& Int32.toUInt32 31)).toNat_lt).symm
/-- one draw on both sides -/
theorem draw1 {v : Nat} (hv : v < 256) (h0 : 0 < pcN v) (Z : Int32) : ∃ k t, k < pcN v ∧ t < 8 ∧ v.testBit t = true ∧ cR v 0 t = k ∧ (∀ c : MS, gI c 26 4 = Z → fPlans_drawFrom c (nI v) = some (nI t)) ∧ fM_ones (nI v) = some (nI (pcN v)) ∧ ¬ nI (pcN v) = 0 ∧ irm (iush Z 16) (nI (pcN v)) = nI k := by
  obtain ⟨w, hw, ew⟩ := ush16 Z
  have hp8 := pc8 v hv
  have hk : w % pcN v < pcN v := Nat.mod_lt _ h0
  obtain ⟨r1, r2, r3, r4⟩ := ntD v hv (w % pcN v) (by omega) hk
  obtain ⟨o1, o2, o3⟩ := ones10 v (by omega)
  have hb : fJInt_bitCount (nI v) = nI (pcN v) := o2
  have hne : ¬ nI (pcN v) = 0 := fun e => by
    have := (nI_eq (b := 0) (by omega) (by omega)).mp e
    omega
  have hrem : irm (iush Z 16) (nI (pcN v)) = nI (w % pcN v) := by
    rw [ew]
    exact pk_rem (by omega) h0 (by omega)
  refine ⟨w % pcN v, ntB v (w % pcN v), hk, r2, r3, r4, ?_, by rw [o1, hb], hne, hrem⟩
  intro c hc
  unfold fPlans_drawFrom
  rw [hb, if_neg (show ¬ nI (pcN v) ≤ 0 from nI_ge (a := 0) h0 (by omega)), if_neg hne, hc, hrem, L26_z c zz]
  exact r1
/-- the model's walk to the bit t -/
theorem walk {v : Nat} (hv : v < 256) (z : MS) (K4 : MS → Int32 → Int32 → Option MS) (l3 : Int32) {t : Nat} (ht : t < 8) (hb : v.testBit t = true) : ∀ (d p f : Nat), p + d = t → d < f → fM_fillsDraw_L42 z K4 (nI v) l3 f (nI (cR v p d)) (nI p) = (if l3 < 0 ∨ 4 ≤ l3.toNatClampNeg then none else K4 (pI z 74 l3.toNatClampNeg (nI t)) (nI (rm v t)) (l3 + 1)) := by
  have hkb : ∀ p, kbt (nI v) p = v.testBit p := fun p => by unfold kbt; rw [cl_nI (by omega)]
  intro d
  induction d with
  | zero =>
    intro p f hp hf
    obtain ⟨f, rfl⟩ : ∃ m, f = m + 1 := ⟨f - 1, by omega⟩
    have hp : p = t := hp
    subst hp
    rw [fM_fillsDraw_L42, getB (lt_nI hv (by omega)) (by omega) (show p < 10 by omega), hkb, hb, if_neg (show ¬ (if true = true then (1 : Int32) else 0) = 0 from one_ne), if_pos (show nI (cR v p 0) ≤ 0 from Int32.le_refl _), (rmD v hv p ht).1]
  | succ d ih =>
    intro p f hp hf
    obtain ⟨f, rfl⟩ : ∃ m, f = m + 1 := ⟨f - 1, by omega⟩
    have hih := ih (p + 1) f (by omega) (by omega)
    rw [fM_fillsDraw_L42, getB (lt_nI hv (by omega)) (by omega) (show p < 10 by omega), hkb]
    unfold fM_fillsDraw_J56
    rw [getB (lt_nI hv (by omega)) (by omega) (show p < 10 by omega), hkb, nI_s, cR]
    cases h : v.testBit p with
    | false =>
      rw [if_pos (show (if false = true then (1 : Int32) else 0) = 0 from rfl), if_neg ftn, if_neg ftn, Nat.zero_add, Int32.sub_zero]
      exact hih
    | true =>
      rw [if_neg (show ¬ (if true = true then (1 : Int32) else 0) = 0 from one_ne), if_pos rfl, if_pos rfl]
      have hpos : ¬ nI (1 + cR v (p + 1) d) ≤ 0 := by
        have hc : cR v (p + 1) d ≤ d := by
          have key : ∀ d p, cR v p d ≤ d := by
            intro d
            induction d with
            | zero => intro p; exact Nat.le_refl 0
            | succ d ih =>
              intro p
              rw [cR]
              have := ih (p + 1)
              by_cases c : v.testBit p = true
              · rw [if_pos c]; omega
              · rw [if_neg c]; omega
          exact key d (p + 1)
        exact nI_ge (a := 0) (by omega) (by omega)
      rw [if_neg hpos, show (nI (1 + cR v (p + 1) d) - 1 : Int32) = nI (cR v (p + 1) d) from (pk_sub (a := 1 + cR v (p + 1) d) (b := 1) (by omega)).trans (by rw [show 1 + cR v (p + 1) d - 1 = cR v (p + 1) d by omega])]
      exact hih
