theorem wI_same (z : MS) (k : Nat) (F : Nat → Int32) (h : gI z k = F) : wI z k F = z := by
  unfold wI
  refine Prod.ext (funext fun a => ?_) rfl
  show (if a = k then F else z.1 a) = z.1 a
  by_cases e : a = k
  · rw [if_pos e, e]; exact h.symm
  · rw [if_neg e]
theorem upd_same (f : Nat → Int32) (i : Nat) (v : Int32) (h : f i = v) : upd f i v = f := by
  funext j
  rw [upd_a]
  by_cases e : j = i
  · rw [if_pos e, e, h]
  · rw [if_neg e]
theorem pI_same (z : MS) (k i : Nat) (v : Int32) (h : gI z k i = v) : pI z k i v = z := wI_same z k _ (upd_same _ _ _ h).symm
theorem gI_wIk (z : MS) (k : Nat) (F : Nat → Int32) : gI (wI z k F) k = F := by
  show (if k = k then F else _) = F
  rw [if_pos rfl]
theorem pI_wI (z : MS) (k i : Nat) (v : Int32) (F : Nat → Int32) : pI (wI z k F) k i v = wI z k (upd F i v) := by
  unfold pI
  rw [gI_wIk, wI_wI]
theorem b_m1' {i : Nat} (hi : i < 32) : bt (-1) i = true := b_m1 i hi
/-- a bit that is not there, taken away -/
theorem andN {x : Int32} {q : Nat} (hx : lt x 1024) (hq : q < 10) (h : kbt x q = false) : x &&& (((1 : Int32) <<< (nI q &&& 31)) ^^^ (-1)) = x := by
  obtain ⟨n, hn, rfl, hc⟩ := lt_ex hx
  unfold kbt at h
  rw [hc] at h
  rw [one_sh q hq]
  apply b_ext
  intro i hi
  rw [b_and, b_xor, b_m1' hi, bt_nI _ hi, bt_nI _ hi, Nat.testBit_two_pow]
  by_cases e : q = i
  · rw [← e, h, Bool.false_and]
  · rw [decide_eq_false e]
    cases n.testBit i <;> rfl
theorem kin_0 {n u : Int32} {K A T W S O F : Nat → Int32} (h : HV n u K A T W S O F) {p : Nat} (hp : p < 8) (hn : cl n ≤ p) : K p = 0 := by
  obtain ⟨a, ha, ea, ec⟩ := lt_ex (h.2.2.1 p hp)
  rw [ea]
  have : a = 0 := by
    apply Nat.eq_of_testBit_eq
    intro i
    rw [Nat.zero_testBit]
    by_cases hi : i < 8
    · cases e : a.testBit i with
      | false => rfl
      | true =>
        have := (h.2.2.2.2.1 p i hp hi (by unfold kbt; rw [ec]; exact e)).1
        omega
    · exact Nat.testBit_lt_two_pow (Nat.lt_of_lt_of_le (show a < 2 ^ 8 by omega) (Nat.pow_le_pow_right (by decide) (by omega)))
  rw [this]
  rfl
