/-- the model's memory with these parts of a house -/
def HM (m : MS) (n u : Int32) (K A T W S O : Nat → Int32) : Prop := HV n u K A T W S O (gI m 59) ∧ gI m 56 0 = n ∧ gI m 56 5 = u ∧ gI m 57 = K ∧ gI m 58 = A ∧ gI m 62 = W ∧ gI m 60 = S ∧ gI m 61 = O
theorem RR_HM {c m : MS} (h : RR c m) : HM m (gI c 1 0) (gI c 1 1) (gI c 2) (gI c 3) (gI c 4) (gI c 5) (gI c 6) (gI c 7) := h.1
theorem HV_fd {n u : Int32} {K A T W S O F : Nat → Int32} (h : HV n u K A T W S O F) : ∃ fd, fd < 4 ∧ W 5 = nI fd ∧ cl (W 5) = fd := lt_ex (h.2.2.2.2.2.2.2.2.1 5 (by omega))
/-- trust of the pair k on the day d -/
def trK (W S T : Nat → Int32) (k d : Nat) : Nat := trS (cl (W 5)) k S (cl (T k)) d
theorem trust_c {c : MS} {F : Nat → Int32} (h : HV (gI c 1 0) (gI c 1 1) (gI c 2) (gI c 3) (gI c 4) (gI c 5) (gI c 6) (gI c 7) F) {p q : Nat} (hp : p < 8) (hq : q < 8) (hpq : p ≠ q) {d : Nat} (hd : d ≤ 10) :
    fJudge_trustOfPair c (nI (pr p q)) (nI d) = some (nI (trK (gI c 5) (gI c 6) (gI c 4) (pr p q) d)) := by
  obtain ⟨fd, h1, h2, h3⟩ := HV_fd h
  obtain ⟨t, h4, h5, h6⟩ := lt_ex (HV_t h hp hq hpq).1
  unfold trK
  rw [h3, h6]
  exact trustOf_c (HV_SO h) (pr_64 hp hq) h2 h1 h4 h5 hd
theorem trust_m {m : MS} {n u : Int32} {K A T W S O : Nat → Int32} (h : HM m n u K A T W S O) {p q : Nat} (hp : p < 8) (hq : q < 8) (hpq : p ≠ q) {d : Nat} (hd : d ≤ 10) :
    fM_trustOf m (nI p) (nI q) (nI d) = some (nI (trK W S T (pr p q) d)) := by
  obtain ⟨h0, -, -, -, -, rfl, rfl, -⟩ := h
  obtain ⟨fd, h1, h2, h3⟩ := HV_fd h0
  obtain ⟨t, h4, h5, h6⟩ := lt_ex (HV_t h0 hp hq hpq).1
  unfold trK
  rw [h3, h6]
  exact trustOf_m (HV_SO h0) hp hq h2 h1 h4 ((HV_t h0 hp hq hpq).2.trans h5) hd
theorem trK_lt {n u : Int32} {K A T W S O F : Nat → Int32} (h : HV n u K A T W S O F) {p q : Nat} (hp : p < 8) (hq : q < 8) (hpq : p ≠ q) (d : Nat) : trK W S T (pr p q) d < 10 := trS_lt (HV_t h hp hq hpq).1.2 d
/-- the pair of a day and its two -/
theorem HV_k {n u : Int32} {K A T W S O F : Nat → Int32} (h : HV n u K A T W S O F) {d : Nat} (hd : d < 10) : prN S d = 64 ∨ ∃ a b, a < b ∧ b < 8 ∧ b < cl n ∧ prN S d = 8 * a + b ∧ prN S d = pr a b ∧ prN S d / 8 = a ∧ prN S d % 8 = b := by
  rcases prN_form (HV_SO h) hd with e | ⟨a, b, h1, h2, e, h3⟩
  · exact Or.inl e
  · refine Or.inr ⟨a, b, h1, h2, ?_, e, by rw [e, (pr_lt h1).1], by omega, by omega⟩
    have key : ∀ i, i < 40 → S i = nI b → b < cl n := by
      intro i hi he
      rcases h.2.2.2.2.2.2.2.2.2.1 i hi with h4 | h4
      · rw [he] at h4
        exact absurd h4 (o8_ne h2).1
      · have := h4.2
        rw [he, cl_nI (by omega)] at this
        exact this
    rcases h3 with ⟨r1, r2⟩ | ⟨r1, r2⟩
    · exact key (4 * d + 1) (by omega) r2
    · exact key (4 * d) (by omega) r1
def woI (W : Nat → Int32) (t s : Nat) : Int32 := 12 * W 0 * nI t - W 1 * nI s
def woD (K W S T : Nat → Int32) (d : Nat) (su : Bool) : Int32 := woI W (trK W S T (prN S d) d) (snD K W S d su)
theorem worthIf_c {c : MS} {F : Nat → Int32} (h : HV (gI c 1 0) (gI c 1 1) (gI c 2) (gI c 3) (gI c 4) (gI c 5) (gI c 6) (gI c 7) F) {d : Nat} (hd : d < 10) (hk : ¬ prN (gI c 6) d = 64) (su : Bool) :
    fJudge_worthIf c (nI d) (if su then 1 else 0) = some (woD (gI c 2) (gI c 5) (gI c 6) (gI c 4) d su) := by
  have hs := seenIf_c (HV_SO h) (HV_KO h) hd hk su
  rcases HV_k h hd with e | ⟨a, b, h1, h2, -, -, e, -⟩
  · exact absurd e hk
  · have ht := trust_c h (show a < 8 by omega) h2 (show a ≠ b by omega) (show d ≤ 10 by omega)
    rw [← e] at ht
    have hk64 : prN (gI c 6) d < 64 := by have := prN_le (HV_SO h) hd; omega
    unfold fJudge_worthIf
    rw [pairOn_c (HV_SO h) hd, show fHouse_at c (nI d) 2 = _ from at_c hd (show 2 < 4 by omega), show fHouse_at c (nI d) 3 = _ from at_c hd (show 3 < 4 by omega)] at hs ⊢
    have hs : fJudge_seenOf c (o64 (prN (gI c 6) d)) (gI c 6 (4 * d + 2)) (gI c 6 (4 * d + 3)) (if su then 1 else 0) = _ := hs
    show Option.bind (fJudge_seenOf c (o64 (prN (gI c 6) d)) (gI c 6 (4 * d + 2)) (gI c 6 (4 * d + 3)) (if su then 1 else 0)) (fun w30 => Option.bind (fJudge_trustOfPair c (o64 (prN (gI c 6) d)) (nI d)) _) = _
    rw [hs, o64_lt hk64, ht]
    rfl
theorem HM_SO {m : MS} {n u : Int32} {K A T W S O : Nat → Int32} (h : HM m n u K A T W S O) : SO (gI m 60) := by rw [h.2.2.2.2.2.2.1]; exact HV_SO h.1
theorem HM_KO {m : MS} {n u : Int32} {K A T W S O : Nat → Int32} (h : HM m n u K A T W S O) : KO (gI m 57) (gI m 62) := by rw [h.2.2.2.1, h.2.2.2.2.2.1]; exact HV_KO h.1
theorem two_m {m : MS} {n u : Int32} {K A T W S O : Nat → Int32} (h : HM m n u K A T W S O) {d : Nat} (hd : d < 10) : fM_twoOn m (nI d) = some (o64 (prN S d)) := by
  rw [twoOn_m (HM_SO h) hd, h.2.2.2.2.2.2.1]
theorem seen_m {m : MS} {n u : Int32} {K A T W S O : Nat → Int32} (h : HM m n u K A T W S O) {d : Nat} (hd : d < 10) (hk : ¬ prN S d = 64) (su : Bool) : fM_seenBy m (nI d) (if su then 1 else 0) = some (nI (snD K W S d su)) := by
  rw [seenBy_m (HM_SO h) (HM_KO h) hd (by rw [h.2.2.2.2.2.2.1]; exact hk) su, h.2.2.2.2.2.2.1, h.2.2.2.1, h.2.2.2.2.2.1]
theorem worthBy_m {m : MS} {n u : Int32} {K A T W S O : Nat → Int32} (h : HM m n u K A T W S O) {d : Nat} (hd : d < 10) (hk : ¬ prN S d = 64) (su : Bool) :
    fM_worthBy m (nI d) (if su then 1 else 0) = some (woD K W S T d su) := by
  have hs := seen_m h hd hk su
  rcases HV_k h.1 hd with e | ⟨a, b, h1, h2, -, -, e, e1, e2⟩
  · exact absurd e hk
  · have ht := trust_m h (show a < 8 by omega) h2 (show a ≠ b by omega) (show d ≤ 10 by omega)
    rw [← e] at ht
    have hk64 : prN S d < 64 := by have := prN_le (HV_SO h.1) hd; omega
    unfold fM_worthBy
    rw [two_m h hd, Option.bind, o64_lt hk64, (div8 hk64).1, (div8 hk64).2, e1, e2, ht, Option.bind, hs, Option.bind, h.2.2.2.2.2.1]
    rfl
def payB (x tell : Int32) : Bool := if x ≤ 0 then false else if x ≤ 24 * tell then false else true
theorem isPaying_c (x tell : Int32) : fJudge_isPaying x tell = if payB x tell then 1 else 0 := by
  unfold fJudge_isPaying payB
  by_cases c1 : x ≤ 0
  · rw [if_pos c1, if_pos c1]; rfl
  · rw [if_neg c1, if_neg c1]
    by_cases c2 : x ≤ 24 * tell
    · rw [if_pos c2, if_pos c2]; rfl
    · rw [if_neg c2, if_neg c2]; rfl
/-- it pays on a day -/
def paD (K W S T : Nat → Int32) (d : Nat) (su : Bool) (tell : Int32) : Bool := if prN S d = 64 then false else payB (woD K W S T d su) tell
theorem paysBy_m {m : MS} {n u : Int32} {K A T W S O : Nat → Int32} (h : HM m n u K A T W S O) {d : Nat} (hd : d < 10) (su : Bool) (tell : Int32) :
    fM_paysBy m (nI d) (if su then 1 else 0) tell = some (if paD K W S T d su tell then 1 else 0) := by
  unfold fM_paysBy paD
  rw [two_m h hd, Option.bind]
  by_cases hk : prN S d = 64
  · rw [if_neg (fun e => (o64_neg (prN_le (HV_SO h.1) hd)).2.mp e hk), if_pos hk]
    rfl
  · rw [if_pos ((o64_neg (prN_le (HV_SO h.1) hd)).2.mpr hk), if_neg hk, worthBy_m h hd hk su, Option.bind]
    unfold payB
    by_cases c1 : woD K W S T d su ≤ 0
    · rw [if_pos c1, if_pos c1]; rfl
    · rw [if_neg c1, if_neg c1]
      by_cases c2 : woD K W S T d su ≤ 24 * tell
      · rw [if_pos c2, if_pos c2]; rfl
      · rw [if_neg c2, if_neg c2]; rfl
theorem RR_u {c m : MS} (h : RR c m) {d : Nat} (hd : d < 10) : fHouse_hasSurprise c (nI d) = (if kbt (gI c 1 1) d then 1 else 0) ∧ fM_isSurprise m (nI d) = (if kbt (gI c 1 1) d then 1 else 0) := by
  refine ⟨hasS_c h.1.1.2.1 hd, ?_⟩
  have h5 : gI m 56 5 = gI c 1 1 := h.1.2.2.1
  rw [hasS_m (by rw [h5]; exact h.1.1.2.1) hd, h5]
theorem o_trustOn (z : MS) (h : RR z z) (a0 a1 a2 : Int32) : O1 (fT_trustOn · a0 a1 a2) (fM_trustOn · a0 a1 a2) z := by
  by_cases h0 : ∃ p q, p < cl (gI z 1 0) ∧ q < cl (gI z 1 0) ∧ p ≠ q ∧ a0 = nI p ∧ a1 = nI q
  · obtain ⟨p, q, hp, hq, hpq, rfl, rfl⟩ := h0
    have hn8 := RR_n8 h
    have hp8 : p < 8 := by omega
    have hq8 : q < 8 := by omega
    obtain ⟨y1, y2⟩ := two_yes h hp hq hpq
    by_cases h1 : ∃ d, d < 10 ∧ a2 = nI d
    · obtain ⟨d, hd, rfl⟩ := h1
      refine ⟨nI (trK (gI z 5) (gI z 6) (gI z 4) (pr p q) d), ?_, ?_⟩
      · simp only [fT_trustOn, y1, one_ne, if_false, (day_yes hd).1, pairOf_nI hp8 hq8, trust_c h.1.1 hp8 hq8 hpq (show d ≤ 10 by omega), Option.bind]
      · simp only [fM_trustOn, y2, one_ne, if_false, (day_yes hd).2, trust_m (RR_HM h) hp8 hq8 hpq (show d ≤ 10 by omega), Option.bind]
    · exact ⟨-1, by simp only [fT_trustOn, y1, one_ne, if_false, (day_no h1).1, if_true], by simp only [fM_trustOn, y2, one_ne, if_false, (day_no h1).2, if_true]⟩
  · exact ⟨-1, by simp only [fT_trustOn, (two_no h h0).1, if_true], by simp only [fM_trustOn, (two_no h h0).2, if_true]⟩
theorem o_seen (z : MS) (h : RR z z) (a0 : Int32) : O1 (fT_seen · a0) (fM_seen · a0) z := by
  by_cases h1 : ∃ d, d < 10 ∧ a0 = nI d
  · obtain ⟨d, hd, rfl⟩ := h1
    obtain ⟨t1, t2⟩ := RR_tw h hd
    have hle := prN_le (RR_SO h).1 hd
    by_cases hk : prN (gI z 6) d = 64
    · refine ⟨-3, ?_, ?_⟩
      · simp only [fT_seen, (day_yes hd).1, one_ne, if_false, t1, Option.bind, if_pos ((o64_m1 hle).mpr hk)]
      · simp only [fM_seen, (day_yes hd).2, one_ne, if_false, t2, Option.bind, if_neg (fun e => (o64_neg hle).2.mp e hk)]
    · refine ⟨nI (snD (gI z 2) (gI z 5) (gI z 6) d (kbt (gI z 1 1) d)), ?_, ?_⟩
      rotate_left
      · simp only [fM_seen, (day_yes hd).2, one_ne, if_false, t2, Option.bind, if_pos ((o64_neg hle).2.mpr hk), (RR_u h hd).2, seen_m (RR_HM h) hd hk (kbt (gI z 1 1) d)]
      · simp only [fT_seen, (day_yes hd).1, one_ne, if_false, t1, Option.bind, if_neg (fun e => hk ((o64_m1 hle).mp e)), seenOn_c (RR_SO h).1 (HV_KO h.1.1) h.1.1.2.1 hd hk]
  · exact ⟨-1, by simp only [fT_seen, (day_no h1).1, if_true], by simp only [fM_seen, (day_no h1).2, if_true]⟩
theorem worthOn_c {c : MS} {F : Nat → Int32} (h : HV (gI c 1 0) (gI c 1 1) (gI c 2) (gI c 3) (gI c 4) (gI c 5) (gI c 6) (gI c 7) F) {d : Nat} (hd : d < 10) (hk : ¬ prN (gI c 6) d = 64) :
    fJudge_worthOn c (nI d) = some (woD (gI c 2) (gI c 5) (gI c 6) (gI c 4) d (kbt (gI c 1 1) d)) := by
  unfold fJudge_worthOn
  rw [hasS_c h.2.1 hd, worthIf_c h hd hk]
  rfl
theorem o_worth (z : MS) (h : RR z z) (a0 : Int32) : O1 (fT_worth · a0) (fM_worth · a0) z := by
  by_cases h1 : ∃ d, d < 10 ∧ a0 = nI d
  · obtain ⟨d, hd, rfl⟩ := h1
    obtain ⟨t1, t2⟩ := RR_tw h hd
    have hle := prN_le (RR_SO h).1 hd
    by_cases hk : prN (gI z 6) d = 64
    · refine ⟨-3, ?_, ?_⟩
      · simp only [fT_worth, (day_yes hd).1, one_ne, if_false, t1, Option.bind, if_pos ((o64_m1 hle).mpr hk)]
      · simp only [fM_worth, (day_yes hd).2, one_ne, if_false, t2, Option.bind, if_neg (fun e => (o64_neg hle).2.mp e hk)]
    · refine ⟨10000 + woD (gI z 2) (gI z 5) (gI z 6) (gI z 4) d (kbt (gI z 1 1) d), ?_, ?_⟩
      rotate_left
      · simp only [fM_worth, (day_yes hd).2, one_ne, if_false, t2, Option.bind, if_pos ((o64_neg hle).2.mpr hk), (RR_u h hd).2, worthBy_m (RR_HM h) hd hk (kbt (gI z 1 1) d)]
      · simp only [fT_worth, (day_yes hd).1, one_ne, if_false, t1, Option.bind, if_neg (fun e => hk ((o64_m1 hle).mp e)), worthOn_c h.1.1 hd hk]
        rw [Int32.add_comm]
  · exact ⟨-1, by simp only [fT_worth, (day_no h1).1, if_true], by simp only [fM_worth, (day_no h1).2, if_true]⟩
/-- a set of days -/
def psN (P : Nat → Bool) : Nat → Nat
  | 0 => 0
  | d + 1 => psN P d ||| (if P d then 2 ^ d else 0)
theorem psN_bit (P : Nat → Bool) (d i : Nat) : (psN P d).testBit i = (decide (i < d) && P i) := by
  induction d with
  | zero => rw [psN, Nat.zero_testBit, decide_eq_false (by omega)]; rfl
  | succ d ih =>
    rw [psN, Nat.testBit_or, ih]
    by_cases e : i = d
    · subst e
      rw [decide_eq_false (show ¬ i < i by omega), decide_eq_true (show i < i + 1 by omega)]
      cases P i with
      | true => rw [if_pos rfl, Nat.testBit_two_pow_self]; rfl
      | false => rw [if_neg ftn, Nat.zero_testBit]; rfl
    · have : (if P d = true then 2 ^ d else 0).testBit i = false := by
        cases P d with
        | true => rw [if_pos rfl, Nat.testBit_two_pow]; exact decide_eq_false (by omega)
        | false => rw [if_neg ftn, Nat.zero_testBit]
      rw [this, Bool.or_false]
      congr 1
      exact decide_eq_decide.mpr ⟨fun _ => by omega, fun _ => by omega⟩
theorem psN_lt (P : Nat → Bool) (d : Nat) : psN P d < 2 ^ d := by
  apply Nat.lt_pow_two_of_testBit
  intro i hi
  rw [psN_bit, decide_eq_false (by omega)]
  rfl
theorem psN_0 (P : Nat → Bool) (d : Nat) : psN P d = 0 ↔ ∀ i, i < d → P i = false := by
  constructor
  · intro h i hi
    have := psN_bit P d i
    rw [h, Nat.zero_testBit, decide_eq_true hi] at this
    exact this.symm
  · intro h
    apply Nat.eq_of_testBit_eq
    intro i
    rw [psN_bit, Nat.zero_testBit]
    by_cases hi : i < d
    · rw [h i hi, Bool.and_false]
    · rw [decide_eq_false hi]; rfl
theorem bit_or {P : Nat → Bool} {i : Nat} (hi : i < 10) : (P i = true → nI (psN P i) ||| ((1 : Int32) <<< (nI i &&& 31)) = nI (psN P (i + 1))) ∧ (P i = false → psN P (i + 1) = psN P i) := by
  refine ⟨fun h => ?_, fun h => ?_⟩
  · rw [one_sh i hi, fa_or, psN, if_pos h]
  · rw [psN, h, if_neg ftn, Nat.or_zero]
theorem payingDays_c {c : MS} {F : Nat → Int32} (h : HV (gI c 1 0) (gI c 1 1) (gI c 2) (gI c 3) (gI c 4) (gI c 5) (gI c 6) (gI c 7) F) (tell : Int32) :
    fJudge_payingDaysBy c tell = some (nI (psN (fun d => paD (gI c 2) (gI c 5) (gI c 6) (gI c 4) d (kbt (gI c 1 1) d) tell) 10)) := by
  have key : ∀ (e i n : Nat), i + e = 10 → e < n → fJudge_payingDaysBy_L4 c tell n (nI (psN (fun d => paD (gI c 2) (gI c 5) (gI c 6) (gI c 4) d (kbt (gI c 1 1) d) tell) i)) (nI i) = some (nI (psN (fun d => paD (gI c 2) (gI c 5) (gI c 6) (gI c 4) d (kbt (gI c 1 1) d) tell) 10)) := by
    intro e
    induction e with
    | zero =>
      intro i n hi hn
      obtain ⟨n, rfl⟩ : ∃ m, n = m + 1 := ⟨n - 1, by omega⟩
      have hi : i = 10 := hi
      subst hi
      rw [fJudge_payingDaysBy_L4, if_pos (show (10 : Int32) ≤ nI 10 from Int32.le_refl _)]
    | succ e ih =>
      intro i n hi hn
      obtain ⟨n, rfl⟩ : ∃ m, n = m + 1 := ⟨n - 1, by omega⟩
      have hi10 : i < 10 := by omega
      have hle := prN_le (HV_SO h) hi10
      have hb := bit_or (P := fun d => paD (gI c 2) (gI c 5) (gI c 6) (gI c 4) d (kbt (gI c 1 1) d) tell) hi10
      have hih := ih (i + 1) n (by omega) (by omega)
      rw [fJudge_payingDaysBy_L4, if_neg (ge10 hi10), pairOn_c (HV_SO h) hi10, Option.bind, nI_s]
      by_cases hk : prN (gI c 6) i = 64
      · rw [if_pos ((o64_m1 hle).mpr hk)]
        rw [hb.2 (show paD _ _ _ _ _ _ _ = false from if_pos hk)] at hih
        exact hih
      · rw [if_neg (fun e => hk ((o64_m1 hle).mp e)), worthOn_c h hi10 hk, Option.bind, isPaying_c]
        cases hp : payB (woD (gI c 2) (gI c 5) (gI c 6) (gI c 4) i (kbt (gI c 1 1) i)) tell with
        | true =>
          rw [if_neg (show ¬ (if true = true then (1 : Int32) else 0) = 0 from one_ne), hb.1 (show paD _ _ _ _ _ _ _ = true from (if_neg hk).trans hp)]
          exact hih
        | false =>
          rw [if_pos (show (if false = true then (1 : Int32) else 0) = 0 from rfl)]
          rw [hb.2 (show paD _ _ _ _ _ _ _ = false from (if_neg hk).trans hp)] at hih
          exact hih
  exact key 10 0 LF rfl (by decide)
theorem o_pays (z : MS) (h : RR z z) : O1 fT_pays fM_pays z := by
  have e6 : gI z 62 6 = gI z 5 6 := by rw [h.1.2.2.2.2.2.1]
  refine ⟨nI (psN (fun d => paD (gI z 2) (gI z 5) (gI z 6) (gI z 4) d (kbt (gI z 1 1) d) (gI z 5 6)) 10), ?_, ?_⟩
  · unfold fT_pays fJudge_payingDays
    rw [payingDays_c h.1.1]
    rfl
  · have key : ∀ (e i n : Nat), i + e = 10 → e < n → fM_pays_L4 z n (nI (psN (fun d => paD (gI z 2) (gI z 5) (gI z 6) (gI z 4) d (kbt (gI z 1 1) d) (gI z 5 6)) i)) (nI i) = some (nI (psN (fun d => paD (gI z 2) (gI z 5) (gI z 6) (gI z 4) d (kbt (gI z 1 1) d) (gI z 5 6)) 10)) := by
      intro e
      induction e with
      | zero =>
        intro i n hi hn
        obtain ⟨n, rfl⟩ : ∃ m, n = m + 1 := ⟨n - 1, by omega⟩
        have hi : i = 10 := hi
        subst hi
        rw [fM_pays_L4, if_pos (show (10 : Int32) ≤ nI 10 from Int32.le_refl _)]
      | succ e ih =>
        intro i n hi hn
        obtain ⟨n, rfl⟩ : ∃ m, n = m + 1 := ⟨n - 1, by omega⟩
        have hi10 : i < 10 := by omega
        have hb := bit_or (P := fun d => paD (gI z 2) (gI z 5) (gI z 6) (gI z 4) d (kbt (gI z 1 1) d) (gI z 5 6)) hi10
        have hih := ih (i + 1) n (by omega) (by omega)
        rw [fM_pays_L4, if_neg (ge10 hi10), (RR_u h hi10).2, e6, paysBy_m (RR_HM h) hi10, Option.bind, nI_s]
        cases hp : paD (gI z 2) (gI z 5) (gI z 6) (gI z 4) i (kbt (gI z 1 1) i) (gI z 5 6) with
        | true =>
          rw [if_neg (show ¬ (if true = true then (1 : Int32) else 0) = 0 from one_ne), hb.1 hp]
          exact hih
        | false =>
          rw [if_pos (show (if false = true then (1 : Int32) else 0) = 0 from rfl), Int32.or_zero]
          rw [hb.2 hp] at hih
          exact hih
    exact key 10 0 LF rfl (by decide)
theorem o_enough (z : MS) (h : RR z z) : O1 fT_enough fM_enough z := by
  have inner : ∀ (K : Int32 → Option Int32) (t : Nat), t < 100 → fM_enough_L12 z K (nI t) LF 1 0 = if psN (fun d => paD (gI z 2) (gI z 5) (gI z 6) (gI z 4) d (kbt (gI z 1 1) d) (nI t)) 10 = 0 then some (nI t) else K (nI (t + 1)) := by
    intro K t ht
    have key : ∀ (e i n : Nat), i + e = 10 → e < n → fM_enough_L12 z K (nI t) n (if psN (fun d => paD (gI z 2) (gI z 5) (gI z 6) (gI z 4) d (kbt (gI z 1 1) d) (nI t)) i = 0 then 1 else 0) (nI i) = if psN (fun d => paD (gI z 2) (gI z 5) (gI z 6) (gI z 4) d (kbt (gI z 1 1) d) (nI t)) 10 = 0 then some (nI t) else K (nI (t + 1)) := by
      intro e
      induction e with
      | zero =>
        intro i n hi hn
        obtain ⟨n, rfl⟩ : ∃ m, n = m + 1 := ⟨n - 1, by omega⟩
        have hi : i = 10 := hi
        subst hi
        rw [fM_enough_L12, if_pos (show (10 : Int32) ≤ nI 10 from Int32.le_refl _), nI_s]
        by_cases c : psN (fun d => paD (gI z 2) (gI z 5) (gI z 6) (gI z 4) d (kbt (gI z 1 1) d) (nI t)) 10 = 0
        · rw [if_pos c, if_pos c, if_neg one_ne]
        · rw [if_neg c, if_neg c, if_pos rfl]
      | succ e ih =>
        intro i n hi hn
        obtain ⟨n, rfl⟩ : ∃ m, n = m + 1 := ⟨n - 1, by omega⟩
        have hi10 : i < 10 := by omega
        have hih := ih (i + 1) n (by omega) (by omega)
        rw [fM_enough_L12, if_neg (ge10 hi10), nI_s]
        by_cases c : psN (fun d => paD (gI z 2) (gI z 5) (gI z 6) (gI z 4) d (kbt (gI z 1 1) d) (nI t)) i = 0
        · rw [if_pos c, if_neg one_ne, (RR_u h hi10).2, paysBy_m (RR_HM h) hi10, Option.bind]
          have c2 := (psN_0 _ _).mp c
          cases hp : paD (gI z 2) (gI z 5) (gI z 6) (gI z 4) i (kbt (gI z 1 1) i) (nI t) with
          | true =>
            rw [if_neg (show ¬ (if true = true then (1 : Int32) else 0) = 0 from one_ne)]
            rw [if_neg (fun e => by have := (psN_0 _ _).mp e i (by omega); rw [hp] at this; cases this)] at hih
            exact hih
          | false =>
            rw [if_pos (show (if false = true then (1 : Int32) else 0) = 0 from rfl)]
            rw [if_pos ((psN_0 _ _).mpr (fun j hj => by
              rcases Nat.lt_or_ge j i with h1 | h1
              · exact c2 j h1
              · have : j = i := by omega
                subst this
                exact hp))] at hih
            exact hih
        · rw [if_neg c, if_pos rfl]
          rw [if_neg (fun e => c ((psN_0 _ _).mpr (fun j hj => (psN_0 _ _).mp e j (by omega))))] at hih
          exact hih
    exact key 10 0 LF rfl (by decide)
  obtain ⟨r, -, e1, e2⟩ := loop2 (σ := Unit) (fun n _ i => fJudge_leastTell_L2 z n i) (fun n _ i => fM_enough_L2 z n i) 100 (fun _ _ => True) (fun _ => True) (by
    intro n _ i hi _
    have hb := psN_lt (fun d => paD (gI z 2) (gI z 5) (gI z 6) (gI z 4) d (kbt (gI z 1 1) d) (nI i)) 10
    show (∃ r, True ∧ fJudge_leastTell_L2 z (n + 1) (nI i) = some r ∧ fM_enough_L2 z (n + 1) (nI i) = some r) ∨ ∃ _, True ∧ fJudge_leastTell_L2 z (n + 1) (nI i) = fJudge_leastTell_L2 z n (nI (i + 1)) ∧ fM_enough_L2 z (n + 1) (nI i) = fM_enough_L2 z n (nI (i + 1))
    rw [fJudge_leastTell_L2, fM_enough_L2, if_neg (show ¬ (99 : Int32) < nI i from nI_nlt (a := 99) (by omega) (by omega)), if_neg (show ¬ (100 : Int32) ≤ nI i from nI_ge (b := 100) hi (by omega)), payingDays_c h.1.1, Option.bind, inner _ i hi, nI_s]
    by_cases c : psN (fun d => paD (gI z 2) (gI z 5) (gI z 6) (gI z 4) d (kbt (gI z 1 1) d) (nI i)) 10 = 0
    · exact Or.inl ⟨nI i, trivial, by rw [if_pos (show nI (psN _ 10) = 0 by rw [c]; rfl)], if_pos c⟩
    · exact Or.inr ⟨(), trivial, by rw [if_neg (show ¬ nI (psN _ 10) = 0 from fun e => c ((nI_eq (b := 0) (by omega) (by omega)).mp e))], if_neg c⟩) (by
    intro n _ _
    exact ⟨-3, trivial, by show fJudge_leastTell_L2 z (n + 1) (nI 100) = _; rw [fJudge_leastTell_L2, if_pos (show (99 : Int32) < nI 100 by decide)], by show fM_enough_L2 z (n + 1) (nI 100) = _; rw [fM_enough_L2, if_pos (show (100 : Int32) ≤ nI 100 by decide)]⟩) 100 0 () LF rfl (by decide) trivial
  refine ⟨r, ?_, e2⟩
  unfold fT_enough fJudge_leastTell
  rw [show fJudge_leastTell_L2 z LF 0 = some r from e1]
  rfl
theorem o_needed (z : MS) (h : RR z z) : O1 fT_needed fM_needed z := by
  have e6 : gI z 62 6 = gI z 5 6 := by rw [h.1.2.2.2.2.2.1]
  obtain ⟨r, -, e1, e2⟩ := loop2 (fJudge_surprisesNeeded_L15 z (gI z 5 6)) (fM_needed_L4 z) 10 (fun _ _ => True) (fun _ => True) (by
    intro n s i hi _
    obtain ⟨t1, t2⟩ := RR_tw h hi
    have hle := prN_le (RR_SO h).1 hi
    have p0 := paysBy_m (RR_HM h) hi false (gI z 5 6)
    have p1 := paysBy_m (RR_HM h) hi true (gI z 5 6)
    rw [if_neg ftn] at p0
    rw [if_pos rfl] at p1
    rw [fJudge_surprisesNeeded_L15, fM_needed_L4, if_neg (ge10 hi), if_neg (ge10 hi), t1, e6, p0, p1, Option.bind, Option.bind, Option.bind, nI_s]
    unfold paD
    by_cases hk : prN (gI z 6) i = 64
    · rw [if_pos ((o64_m1 hle).mpr hk), if_pos hk, if_pos (show (if false = true then (1 : Int32) else 0) = 0 from rfl)]
      exact Or.inr ⟨s, trivial, rfl, rfl⟩
    · have w0 := worthIf_c h.1.1 hi hk false
      have w1 := worthIf_c h.1.1 hi hk true
      rw [if_neg ftn] at w0
      rw [if_pos rfl] at w1
      rw [if_neg (fun e => hk ((o64_m1 hle).mp e)), if_neg hk, if_neg hk, w0, w1, Option.bind, Option.bind, isPaying_c, isPaying_c]
      cases payB (woD (gI z 2) (gI z 5) (gI z 6) (gI z 4) i false) (gI z 5 6) with
      | false => exact Or.inr ⟨s, trivial, if_pos rfl, if_pos rfl⟩
      | true =>
        rw [if_neg (show ¬ (if true = true then (1 : Int32) else 0) = 0 from one_ne), if_neg (show ¬ (if true = true then (1 : Int32) else 0) = 0 from one_ne)]
        cases payB (woD (gI z 2) (gI z 5) (gI z 6) (gI z 4) i true) (gI z 5 6) with
        | false => exact Or.inr ⟨_, trivial, if_pos rfl, if_pos rfl⟩
        | true => exact Or.inl ⟨-3, trivial, rfl, rfl⟩) (by
    intro n s _
    exact ⟨s, trivial, by rw [fJudge_surprisesNeeded_L15, if_pos (show (10 : Int32) ≤ nI 10 from Int32.le_refl _)], by rw [fM_needed_L4, if_pos (show (10 : Int32) ≤ nI 10 from Int32.le_refl _)]⟩) 10 0 0 LF rfl (by decide) trivial
  refine ⟨r, ?_, e2⟩
  unfold fT_needed fJudge_surprisesNeeded
  rw [show fJudge_surprisesNeeded_L15 z (gI z 5 6) LF 0 0 = some r from e1]
  rfl
theorem o_many (z : MS) (h : RR z z) (a0 : Int32) : O1 (fT_many · a0) (fM_many · a0) z := by
  obtain ⟨r, -, e1, e2⟩ := loop2 (fHouse_sittings_L4 z) (fM_sitting_L4 z) 10 (fun _ _ => True) (fun _ => True) (by
    intro n s i hi _
    obtain ⟨t1, t2⟩ := RR_tw h hi
    have hle := prN_le (RR_SO h).1 hi
    rw [fHouse_sittings_L4, fM_sitting_L4, if_neg (ge10 hi), if_neg (ge10 hi), t1, t2, Option.bind, Option.bind, nI_s]
    by_cases hk : prN (gI z 6) i = 64
    · rw [if_pos ((o64_m1 hle).mpr hk), if_pos ((o64_neg hle).1.mpr hk), Int32.add_zero]
      exact Or.inr ⟨s, trivial, rfl, rfl⟩
    · rw [if_neg (fun e => hk ((o64_m1 hle).mp e)), if_neg (fun e => hk ((o64_neg hle).1.mp e))]
      exact Or.inr ⟨s + 1, trivial, rfl, rfl⟩) (by
    intro n s _
    exact ⟨s, trivial, by rw [fHouse_sittings_L4, if_pos (show (10 : Int32) ≤ nI 10 from Int32.le_refl _)], by rw [fM_sitting_L4, if_pos (show (10 : Int32) ≤ nI 10 from Int32.le_refl _)]⟩) 10 0 0 LF rfl (by decide) trivial
  have q1 : gI z 56 0 = gI z 1 0 := h.1.2.1
  have q2 : gI z 56 9 = gI z 26 3 := h.2.1.1
  have q3 : gI z 56 34 = gI z 30 3 := h.2.2.2.1.2.1
  have q4 : gI z 56 13 = gI z 8 2 := h.2.2.1.2.1
  have q5 : gI z 56 45 = gI z 32 1 := h.2.2.2.2.2.2.1.2.1
  have s1 : fHouse_sittings z = some r := e1
  have s2 : fM_sitting z = some r := e2
  show ∃ r, fT_many z a0 = some r ∧ fM_many z a0 = some r
  unfold fT_many fM_many
  rw [q1, q2, q3, q4, q5, s1, s2]
  by_cases k0 : a0 = 0
  · rw [if_pos k0]; exact ⟨_, rfl, rfl⟩
  · rw [if_neg k0]
    by_cases k1 : a0 = 1
    · rw [if_pos k1]; exact ⟨_, rfl, rfl⟩
    · rw [if_neg k1]
      by_cases k2 : a0 = 2
      · rw [if_pos k2]; exact ⟨_, rfl, rfl⟩
      · rw [if_neg k2]
        by_cases k3 : a0 = 3
        · rw [if_pos k3]; exact ⟨_, rfl, rfl⟩
        · rw [if_neg k3]
          by_cases k4 : a0 = 4
          · rw [if_pos k4]; exact ⟨_, rfl, rfl⟩
          · rw [if_neg k4]
            by_cases k5 : a0 = 5
            · rw [if_pos k5]; exact ⟨_, rfl, rfl⟩
            · rw [if_neg k5]; exact ⟨_, rfl, rfl⟩
