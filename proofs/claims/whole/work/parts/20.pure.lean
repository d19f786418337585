theorem tt1 (p n : Nat) (hp : p < 8) (hn : n ≤ 8) (h : p < n) : (if nI p < (0 : Int32) then (0 : Int32) else if nI n - 1 < nI p then 0 else 1) = 1 := by
  simp (disch := omega) only [fa_lit, pk_sub, nI_ltI, Nat.not_lt_zero, if_false]
  rw [if_neg (by omega)]
theorem tt2 (z : MS) (d : Nat) (hd : d < 10) : fHouse_at z (nI d) (nI 1) = some (gI z 6 (4 * d + 1)) := by
  unfold fHouse_at
  simp (disch := omega) only [fa_lit, pk_mul, nI_add, nI_clamp, nI_ltI, Nat.not_lt_zero, false_or]
  rw [if_neg (by omega)]
  rw [Nat.mul_comm]
