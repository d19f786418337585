theorem bt_nI (n : Nat) {i : Nat} (hi : i < 32) : bt (nI n) i = n.testBit i := by
  show (BitVec.ofNat 32 n).getLsbD i = _
  rw [BitVec.getLsbD_ofNat]
  simp [hi]
theorem b_1 (i : Nat) : bt 1 i = decide (i = 0) := by
  by_cases hi : i < 32
  · rw [show (1 : Int32) = nI (2 ^ 0) from rfl, bt_nI _ hi, Nat.testBit_two_pow]
    exact decide_eq_decide.mpr ⟨fun e => e.symm, fun e => e.symm⟩
  · rw [b_big (by omega)]
    exact (decide_eq_false (by omega)).symm
/-- the bit q of x, as the programs read it -/
theorem getB {x : Int32} {m q : Nat} (hx : lt x m) (hm : m ≤ 1024) (hq : q < 10) : ((x >>> (nI q &&& 31)) &&& 1) = if kbt x q then 1 else 0 := by
  obtain ⟨n, hn, rfl, hc⟩ := lt_ex hx
  unfold kbt
  rw [hc]
  apply b_ext
  intro i hi
  rw [b_and, b_sshr q (by omega) _ hi, b_1]
  by_cases h0 : i = 0
  · subst h0
    rw [if_pos (by omega), bt_nI _ (by omega)]
    cases h : n.testBit (q + 0) with
    | true => rfl
    | false => rfl
  · rw [decide_eq_false h0, Bool.and_false]
    cases n.testBit q with
    | true => rw [if_pos rfl, b_1, decide_eq_false h0]
    | false => rw [if_neg (by decide), b_0]
theorem getB1 {x : Int32} {m q : Nat} (hx : lt x m) (hm : m ≤ 1024) (hq : q < 10) : ((x >>> (nI q &&& 31)) &&& 1) = 1 ↔ kbt x q = true := by
  rw [getB hx hm hq]
  cases kbt x q with
  | true => exact ⟨fun _ => rfl, fun _ => rfl⟩
  | false => exact ⟨fun h => absurd h (by decide), fun h => absurd h (by decide)⟩
theorem one_sh : ∀ q, q < 10 → ((1 : Int32) <<< (nI q &&& 31)) = nI (2 ^ q) := by decide +kernel
/-- the bit q of x, flipped -/
theorem flipB {x : Int32} {k q : Nat} (hx : lt x (2 ^ k)) (hk : k ≤ 10) (hq : q < k) : lt (x ^^^ ((1 : Int32) <<< (nI q &&& 31))) (2 ^ k) ∧ ∀ j, kbt (x ^^^ ((1 : Int32) <<< (nI q &&& 31))) j = (kbt x j ^^ decide (q = j)) := by
  obtain ⟨n, hn, rfl, hc⟩ := lt_ex hx
  rw [one_sh q (by omega), nx_xor]
  have h1 : 2 ^ q < 2 ^ k := Nat.pow_lt_pow_right (by decide) hq
  have h2 : 2 ^ k ≤ 2 ^ 10 := Nat.pow_le_pow_right (by decide) hk
  have h3 : n ^^^ 2 ^ q < 2 ^ k := Nat.xor_lt_two_pow hn h1
  refine ⟨lt_nI h3 (by omega), fun j => ?_⟩
  unfold kbt
  rw [cl_nI (by omega), cl_nI (by omega), Nat.testBit_xor, Nat.testBit_two_pow]
theorem o_surprise (z : MS) (h : RR z z) (a0 : Int32) (b : Bool) : O2 (fT_surprise · a0 (if b then 1 else 0)) (fM_surprise · a0 (if b then 1 else 0)) z := by
  by_cases h0 : ∃ d, d < 10 ∧ a0 = nI d
  · obtain ⟨d, hd, rfl⟩ := h0
    have hu : lt (gI z 1 1) 1024 := h.1.1.2.1
    have e5 : gI z 56 5 = gI z 1 1 := h.1.2.2.1
    have hT : fT_surprise z (nI d) (if b then 1 else 0) = if kbt (gI z 1 1) d = b then some (0, z) else some (1, pI z 1 1 ((gI z 1 1) ^^^ ((1 : Int32) <<< (nI d &&& 31)))) := by
      unfold fT_surprise fHouse_setSurprise fHouse_hasSurprise
      rw [(day_yes hd).1, if_neg one_ne, getB hu (by omega) hd]
      cases kbt (gI z 1 1) d <;> cases b <;> rfl
    have hM : ∀ z, lt (gI z 56 5) 1024 → fM_surprise z (nI d) (if b then 1 else 0) = if kbt (gI z 56 5) d = b then some (0, z) else some (1, pI z 56 5 ((gI z 56 5) ^^^ ((1 : Int32) <<< (nI d &&& 31)))) := by
      intro z hu
      unfold fM_surprise fM_surprise_J26
      rw [(day_yes hd).2, if_neg one_ne, getB hu (by omega) hd]
      cases kbt (gI z 56 5) d <;> cases b <;> rfl
    by_cases e : kbt (gI z 1 1) d = b
    · exact same2 0 h (hT.trans (if_pos e)) ((hM z (e5 ▸ hu)).trans (if_pos (by rw [e5]; exact e)))
    · refine ⟨1, _, pI (pI z 1 1 ((gI z 1 1) ^^^ ((1 : Int32) <<< (nI d &&& 31)))) 56 5 ((gI z 56 5) ^^^ ((1 : Int32) <<< (nI d &&& 31))), hT.trans (if_neg e), (hM (pI z 1 1 _) (show lt (gI z 56 5) 1024 from e5 ▸ hu)).trans (if_neg (show ¬ kbt (gI z 56 5) d = b by rw [e5]; exact e)), ?_⟩
      exact ⟨⟨⟨h.1.1.1, (flipB (k := 10) hu (by omega) hd).1, h.1.1.2.2⟩, h.1.2.1, by show _ ^^^ _ = _ ^^^ _; rw [e5], h.1.2.2.2⟩, h.2⟩
  · refine same2 (-1) h ?_ ?_
    · simp only [fT_surprise, (day_no h0).1, if_true]
    · simp only [fM_surprise, (day_no h0).2, if_true]
