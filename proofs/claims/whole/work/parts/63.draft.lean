/-- the word of one bit -/
def bB (q : Nat) : Int32 := (1 : Int32) <<< (nI q &&& 31)
theorem orW {x : Int32} {k q : Nat} (hx : lt x (2 ^ k)) (hk : k ≤ 10) (hq : q < k) : lt (x ||| bB q) (2 ^ k) ∧ (∀ j, kbt (x ||| bB q) j = (kbt x j || decide (q = j))) ∧ (x ||| bB q) = (if kbt x q = true then x else x ^^^ bB q) := by
  have h3 : (x ||| bB q) = (if kbt x q = true then x else x ^^^ bB q) := by
    obtain ⟨n, hn, rfl, hc⟩ := lt_ex hx
    unfold bB
    by_cases c : kbt (nI n) q = true
    · rw [if_pos c]
      unfold kbt at c
      rw [hc] at c
      rw [one_sh q (by omega)]
      apply b_ext
      intro i hi
      rw [b_or, bt_nI _ hi, bt_nI _ hi, Nat.testBit_two_pow]
      by_cases e : q = i
      · rw [← e, c]; rfl
      · rw [decide_eq_false e, Bool.or_false]
    · rw [if_neg c]
      have c : kbt (nI n) q = false := Bool.eq_false_iff.mpr c
      unfold kbt at c
      rw [hc] at c
      rw [one_sh q (by omega)]
      apply b_ext
      intro i hi
      rw [b_or, b_xor, bt_nI _ hi, bt_nI _ hi, Nat.testBit_two_pow]
      by_cases e : q = i
      · rw [← e, c, decide_eq_true rfl]; rfl
      · rw [decide_eq_false e, Bool.or_false, Bool.xor_false]
  have hf := flipB hx hk hq
  refine ⟨?_, ?_, h3⟩
  · rw [h3]
    by_cases c : kbt x q = true
    · rw [if_pos c]; exact hx
    · rw [if_neg c]; exact hf.1
  · intro j
    rw [h3]
    by_cases c : kbt x q = true
    · rw [if_pos c]
      by_cases e : q = j
      · rw [← e, c]; rfl
      · rw [decide_eq_false e, Bool.or_false]
    · rw [if_neg c]
      refine (hf.2 j).trans ?_
      by_cases e : q = j
      · rw [← e, Bool.eq_false_iff.mpr c, decide_eq_true rfl]; rfl
      · rw [decide_eq_false e, Bool.or_false, Bool.xor_false]
theorem orL {x y : Int32} {k : Nat} (hk : k ≤ 10) (hx : lt x (2 ^ k)) (hy : lt y (2 ^ k)) : lt (x ||| y) (2 ^ k) := by
  obtain ⟨n, hn, rfl, -⟩ := lt_ex hx
  obtain ⟨m, hm, rfl, -⟩ := lt_ex hy
  have h : (nI n ||| nI m) = nI (n ||| m) := by
    apply b_ext
    intro i hi
    rw [b_or, bt_nI _ hi, bt_nI _ hi, bt_nI _ hi, Nat.testBit_or]
  rw [h]
  have h2 : 2 ^ k ≤ 2 ^ 10 := Nat.pow_le_pow_right (by decide) hk
  exact lt_nI (Nat.or_lt_two_pow hn hm) (Nat.le_trans h2 (by decide))
theorem bB_lt {q : Nat} (hq : q < 10) : lt (bB q) (2 ^ 10) := by
  unfold bB
  rw [one_sh q hq]
  exact lt_nI (Nat.pow_lt_pow_right (by decide) hq) (by decide)
theorem or0 (x : Int32) : x ||| 0 = x := by
  apply b_ext
  intro i hi
  rw [b_or, show (0 : Int32) = nI 0 from rfl, bt_nI _ hi, Nat.zero_testBit, Bool.or_false]
theorem orA (x y w : Int32) : (x ||| y) ||| w = x ||| (y ||| w) := by
  apply b_ext
  intro i hi
  rw [b_or, b_or, b_or, b_or, Bool.or_assoc]
def kinU (K : Nat → Int32) (p q : Nat) : Nat → Int32 := upd (upd K p (K p ||| bB q)) q (K q ||| bB p)
def awU (A : Nat → Int32) (p : Nat) (m : Int32) : Nat → Int32 := upd A p (A p ||| m)
/-- the two drafts -/
def DR (n : Nat) (K A T G K' A' T' G' : Nat → Int32) : Prop := n ≤ 8 ∧ HV (nI n) 0 K A T G (fun _ => -1) (fun _ => 0) T' ∧ ∀ i, i < 8 → K' i = K i ∧ A' i = A i ∧ G' i = G i
theorem DR_person {n : Nat} {K A T G K' A' T' G' : Nat → Int32} (h : DR n K A T G K' A' T' G') (hn : n < 8) : DR (n + 1) K A T G K' A' T' G' := by
  obtain ⟨h8, hv, he⟩ := h
  have hc : cl (nI (n + 1)) = n + 1 := cl_nI (by omega)
  have hc0 : cl (nI n) = n := cl_nI (by omega)
  refine ⟨by omega, ⟨lt_nI (by omega) (by omega), hv.2.1, hv.2.2.1, hv.2.2.2.1, ?_, hv.2.2.2.2.2.1, ?_, ?_, hv.2.2.2.2.2.2.2.2.1, fun i _ => Or.inl rfl, hv.2.2.2.2.2.2.2.2.2.2⟩, he⟩
  · intro p q hp hq hb
    obtain ⟨b1, b2, b3⟩ := hv.2.2.2.2.1 p q hp hq hb
    rw [hc]
    rw [hc0] at b1 b2
    exact ⟨by omega, by omega, b3⟩
  · intro p hp hq
    rw [hc] at hq
    exact hv.2.2.2.2.2.2.1 p hp (by rw [hc0]; omega)
  · intro p q hpq hq
    obtain ⟨b1, b2, b3, b4⟩ := hv.2.2.2.2.2.2.2.1 p q hpq hq
    rw [hc]
    exact ⟨b1, b2, b3, fun hle => b4 (by rw [hc0]; omega)⟩
theorem kinU_k {K : Nat → Int32} (hu : ∀ p, p < 8 → lt (K p) 256) {p q : Nat} (hp : p < 8) (hq : q < 8) (hpq : p ≠ q) : (∀ i, i < 8 → lt (kinU K p q i) 256) ∧ ∀ i j, i < 8 → kbt (kinU K p q i) j = (kbt (K i) j || (decide (i = p ∧ j = q) || decide (i = q ∧ j = p))) := by
  have f1 := orW (k := 8) (q := q) (hu p hp) (by omega) hq
  have f2 := orW (k := 8) (q := p) (hu q hq) (by omega) hp
  refine ⟨lt_up (b := fun _ => 256) (lt_up (b := fun _ => 256) hu f1.1) f2.1, ?_⟩
  intro i j hi
  unfold kinU
  rw [upd_a, upd_a]
  by_cases i1 : i = q
  · rw [if_pos i1, f2.2.1, i1]
    congr 1
    have : ¬ q = p := fun e => hpq e.symm
    simp [this, eq_comm]
  · rw [if_neg i1]
    by_cases i2 : i = p
    · rw [if_pos i2, f1.2.1, i2]
      congr 1
      simp [hpq, eq_comm]
    · rw [if_neg i2]
      simp [i1, i2]
theorem DR_kin {n : Nat} {K A T G K' A' T' G' : Nat → Int32} (h : DR n K A T G K' A' T' G') {p q : Nat} (hp : p < n) (hq : q < n) (hpq : p ≠ q) : DR n (kinU K p q) A T G (kinU K' p q) A' T' G' := by
  obtain ⟨h8, hv, he⟩ := h
  have hc0 : cl (nI n) = n := cl_nI (by omega)
  obtain ⟨k1, k2⟩ := kinU_k hv.2.2.1 (show p < 8 by omega) (show q < 8 by omega) hpq
  refine ⟨h8, HV_K hv k1 ?_ ?_, ?_⟩
  · intro i j hi hj
    have h9 := hv.2.2.2.1 i j hi hj
    rw [k2 i j hi, k2 j i hj, h9]
    congr 1
    rw [Bool.or_comm]
    congr 1 <;> exact decide_eq_decide.mpr ⟨fun e => ⟨e.2, e.1⟩, fun e => ⟨e.2, e.1⟩⟩
  · intro i j hi hj hb
    rw [k2 i j hi] at hb
    rw [hc0]
    by_cases c1 : i = p ∧ j = q
    · rw [c1.1, c1.2]; exact ⟨hp, hq, hpq⟩
    · by_cases c2 : i = q ∧ j = p
      · rw [c2.1, c2.2]; exact ⟨hq, hp, fun e => hpq e.symm⟩
      · rw [decide_eq_false c1, decide_eq_false c2, Bool.or_false, Bool.or_false] at hb
        have := hv.2.2.2.2.1 i j hi hj hb
        rw [hc0] at this
        exact this
  · intro i hi
    refine ⟨?_, (he i hi).2⟩
    unfold kinU
    rw [upd_a, upd_a, upd_a, upd_a, (he i hi).1, (he p (by omega)).1, (he q (by omega)).1]
theorem DR_away {n : Nat} {K A T G K' A' T' G' : Nat → Int32} (h : DR n K A T G K' A' T' G') {p : Nat} (hp : p < n) {m : Int32} (hm : lt m (2 ^ 10)) : DR n K (awU A p m) T G K' (awU A' p m) T' G' := by
  obtain ⟨h8, hv, he⟩ := h
  have hc0 : cl (nI n) = n := cl_nI (by omega)
  refine ⟨h8, HV_A hv (lt_up (b := fun _ => 1024) hv.2.2.2.2.2.1 (orL (k := 10) (by omega) (hv.2.2.2.2.2.1 p (by omega)) hm)) ?_, ?_⟩
  · intro i hi hle
    unfold awU
    rw [hc0] at hle
    rw [upd_a, if_neg (by omega)]
    exact hv.2.2.2.2.2.2.1 i hi (by rw [hc0]; exact hle)
  · intro i hi
    refine ⟨(he i hi).1, ?_, (he i hi).2.2⟩
    unfold awU
    rw [upd_a, upd_a, (he i hi).2.1, (he p (by omega)).2.1]
theorem DR_law {n : Nat} {K A T G K' A' T' G' : Nat → Int32} (h : DR n K A T G K' A' T' G') {j v : Nat} (hj : j < 8) (hv : v < most j + 1) (hm : v < 100) : DR n K A T (upd G j (nI v)) K' A' T' (upd G' j (nI v)) := by
  obtain ⟨h8, hV, he⟩ := h
  have hmo : most j ≤ 99 := by
    unfold most
    split <;> omega
  refine ⟨h8, HV_W hV (lt_up hV.2.2.2.2.2.2.2.2.1 (lt_nI hv (by omega))), ?_⟩
  intro i hi
  refine ⟨(he i hi).1, (he i hi).2.1, ?_⟩
  rw [upd_a, upd_a, (he i hi).2.2]
theorem DR_trust {n : Nat} {K A T G K' A' T' G' : Nat → Int32} (h : DR n K A T G K' A' T' G') {p q v : Nat} (hp : p < n) (hq : q < n) (hpq : p ≠ q) (hv : v < 10) : DR n K A (upd T (pr p q) (nI v)) G K' A' (upd (upd T' (8 * p + q) (nI v)) (8 * q + p) (nI v)) G' := by
  obtain ⟨h8, hV, he⟩ := h
  have hc0 : cl (nI n) = n := cl_nI (by omega)
  refine ⟨h8, HV_T hV ?_, he⟩
  intro i j hij hj
  obtain ⟨b1, b2, b3, b4⟩ := hV.2.2.2.2.2.2.2.1 i j hij hj
  simp only [upd_a]
  by_cases c : (i = p ∧ j = q) ∨ (i = q ∧ j = p)
  · have ce : 8 * i + j = pr p q := by
      rcases c with ⟨rfl, rfl⟩ | ⟨rfl, rfl⟩
      · exact (pr_lt hij).1.symm
      · exact (pr_lt hij).2.symm
    rw [if_pos ce]
    refine ⟨lt_nI (by omega) (by omega), ?_, ?_, fun hle => by rw [hc0] at hle; omega⟩
    · rcases c with ⟨rfl, rfl⟩ | ⟨rfl, rfl⟩
      · rw [if_neg (by omega), if_pos rfl]
      · rw [if_pos rfl]
    · rcases c with ⟨rfl, rfl⟩ | ⟨rfl, rfl⟩
      · rw [if_pos rfl]
      · rw [if_neg (by omega), if_pos rfl]
  · have ce : ¬ 8 * i + j = pr p q := by
      rcases Nat.lt_or_gt_of_ne hpq with h1 | h1
      · rw [(pr_lt h1).1]; omega
      · rw [(pr_lt h1).2]; omega
    rw [if_neg ce, if_neg (by omega), if_neg (by omega), if_neg (by omega), if_neg (by omega)]
    exact ⟨b1, b2, b3, b4⟩
/-- the class sets kin and away -/
theorem setKin_c (z : MS) (a : Nat) (ft : Int32) (n : Nat) {K : Nat → Int32} (A T G : Nat → Int32) (hu : ∀ p, p < 8 → lt (K p) 256) (hsy : ∀ p q, p < 8 → q < 8 → kbt (K p) q = kbt (K q) p) {p q : Nat} (hp : p < 8) (hq : q < 8) (hpq : p ≠ q) : ∃ w, fHouse10_setKin (dh z a ft n K A T G) (nI p) (nI q) 1 = some (w, dh z a ft n (kinU K p q) A T G) := by
  have f1 := (orW (k := 8) (q := q) (hu p hp) (by omega) hq).2.2
  have f2 := (orW (k := 8) (q := p) (hu q hq) (by omega) hp).2.2
  have g11 : gI (dh z a ft n K A T G) 11 = K := rfl
  have e1 : fHouse10_areKin (dh z a ft n K A T G) (nI p) (nI q) = some (if kbt (K p) q = true then 1 else 0) := by
    unfold fHouse10_areKin
    rw [if_neg (ix_ok hp (by omega)), g11, nI_clamp (by omega), getB (hu p hp) (by omega) (show q < 10 by omega)]
    cases kbt (K p) q <;> rfl
  unfold fHouse10_setKin
  rw [e1, obs]
  by_cases c : kbt (K p) q = true
  · rw [if_pos c] at f1 ⊢
    rw [← hsy p q hp hq, if_pos c] at f2
    refine ⟨0, ?_⟩
    have hK : kinU K p q = K := by
      unfold kinU
      rw [f1, f2, upd_same K p _ rfl, upd_same K q _ rfl]
    rw [if_pos rfl, hK]
  · rw [if_neg c] at f1 ⊢
    rw [← hsy p q hp hq, if_neg c] at f2
    refine ⟨1, ?_⟩
    have eg : ∀ v, gI (dh z a ft n (upd K p v) A T G) 11 q = K q := fun v => upd_ne (fun e => hpq e.symm)
    rw [if_neg (show ¬ (0 : Int32) = 1 by decide), if_neg (ix_ok hp (by omega)), if_neg (ix_ok hp (by omega)), if_neg (ix_ok hq (by omega)), if_neg (ix_ok hq (by omega)), nI_clamp (show p < 2 ^ 31 by omega), nI_clamp (show q < 2 ^ 31 by omega), dh_K, eg, dh_K]
    unfold kinU
    rw [f1, f2]
    rfl
theorem setAway_c (z : MS) (a : Nat) (ft : Int32) (n : Nat) (K : Nat → Int32) {A : Nat → Int32} (T G : Nat → Int32) {p d : Nat} (hp : p < 8) (hu : lt (A p) 1024) (hd : d < 10) : ∃ w, fHouse10_setAway (dh z a ft n K A T G) (nI p) (nI d) 1 = some (w, dh z a ft n K (awU A p (bB d)) T G) := by
  have f1 := (orW (k := 10) (q := d) hu (by omega) hd).2.2
  have g12 : gI (dh z a ft n K A T G) 12 = A := rfl
  have e1 : fHouse10_isAway (dh z a ft n K A T G) (nI p) (nI d) = some (if kbt (A p) d = true then 1 else 0) := by
    unfold fHouse10_isAway
    rw [if_neg (ix_ok hp (by omega)), g12, nI_clamp (by omega), getB hu (by omega) hd]
    cases kbt (A p) d <;> rfl
  unfold fHouse10_setAway
  rw [e1, obs]
  by_cases c : kbt (A p) d = true
  · rw [if_pos c] at f1 ⊢
    refine ⟨0, ?_⟩
    have hA : awU A p (bB d) = A := by
      unfold awU
      rw [f1, upd_same A p _ rfl]
    rw [if_pos rfl, hA]
  · rw [if_neg c] at f1 ⊢
    refine ⟨1, ?_⟩
    rw [if_neg (show ¬ (0 : Int32) = 1 by decide), if_neg (ix_ok hp (by omega)), if_neg (ix_ok hp (by omega)), nI_clamp (show p < 2 ^ 31 by omega), dh_A]
    unfold awU
    rw [f1]
    rfl
