/-- seats hold nobody or one of eight -/
def SO (S : Nat → Int32) : Prop := ∀ i, i < 40 → S i = -1 ∨ lt (S i) 8
theorem HV_SO {n u : Int32} {K A T W S O F : Nat → Int32} (h : HV n u K A T W S O F) : SO S := by
  intro i hi
  rcases h.2.2.2.2.2.2.2.2.2.1 i hi with h1 | h1
  · exact Or.inl h1
  · exact Or.inr ⟨h1.1, by have := h1.2; have := h.1.2; omega⟩
def o8 (p : Nat) : Int32 := if p = 8 then -1 else nI p
def o64 (k : Nat) : Int32 := if k = 64 then -1 else nI k
theorem o8_8 : o8 8 = -1 := rfl
theorem o8_lt {p : Nat} (h : p < 8) : o8 p = nI p := if_neg (by omega)
theorem o64_64 : o64 64 = -1 := rfl
theorem o64_lt {p : Nat} (h : p < 64) : o64 p = nI p := if_neg (by omega)
theorem SO_sv {S : Nat → Int32} (h : SO S) {i : Nat} (hi : i < 40) : S i = o8 (sv (S i)) ∧ sv (S i) ≤ 8 := by
  rcases h i hi with h1 | h1
  · rw [h1]; exact ⟨rfl, Nat.le_refl 8⟩
  · obtain ⟨p, hp, e, -⟩ := lt_ex h1
    rw [e]
    unfold sv
    rw [if_neg (nI_pos (by omega)), cl_nI (by omega), o8_lt hp]
    exact ⟨rfl, by omega⟩
theorem o8_ne {p : Nat} (h : p < 8) : ¬ nI p = (-1 : Int32) ∧ ¬ nI p < 0 ∧ (0 : Int32) ≤ nI p := ⟨fun e => nI_pos (show p < 2 ^ 31 by omega) (by rw [e]; decide), nI_pos (by omega), Int32.not_lt.mp (nI_pos (by omega))⟩
theorem o64_eq {a b : Nat} (ha : a ≤ 64) (hb : b < 64) : o64 a = nI b ↔ a = b := by
  by_cases e : a = 64
  · subst e
    rw [o64_64]
    refine ⟨fun h => ?_, fun h => by omega⟩
    exact absurd (show nI b < 0 by rw [← h]; decide) (nI_pos (by omega))
  · rw [o64_lt (by omega), nI_eq (by omega) (by omega)]
theorem o64_o64 {a b : Nat} (ha : a ≤ 64) (hb : b ≤ 64) : o64 a = o64 b ↔ a = b := by
  by_cases e : b = 64
  · subst e
    by_cases e : a = 64
    · subst e; exact ⟨fun _ => rfl, fun _ => rfl⟩
    · rw [o64_64, o64_lt (by omega)]
      exact ⟨fun h => absurd (show nI a < 0 by rw [h]; decide) (nI_pos (by omega)), fun h => absurd h e⟩
  · rw [o64_lt (show b < 64 by omega), o64_eq ha (by omega)]
theorem o64_m1 {a : Nat} (ha : a ≤ 64) : o64 a = -1 ↔ a = 64 := by rw [← o64_64, o64_o64 ha (Nat.le_refl 64)]
theorem o64_neg {a : Nat} (ha : a ≤ 64) : (o64 a < 0 ↔ a = 64) ∧ ((0 : Int32) ≤ o64 a ↔ ¬ a = 64) := by
  by_cases e : a = 64
  · subst e; exact ⟨⟨fun _ => rfl, fun _ => by decide⟩, ⟨fun h => absurd h (by decide), fun h => absurd rfl h⟩⟩
  · rw [o64_lt (by omega)]
    have h := nI_pos (show a < 2 ^ 31 by omega)
    exact ⟨⟨fun h1 => absurd h1 h, fun h1 => absurd h1 e⟩, ⟨fun _ => e, fun _ => Int32.not_lt.mp h⟩⟩
/-- the pair on a day; 64: none -/
def prN (S : Nat → Int32) (d : Nat) : Nat := if sv (S (4 * d)) = 8 ∨ sv (S (4 * d + 1)) = 8 ∨ sv (S (4 * d)) = sv (S (4 * d + 1)) then 64 else pr (sv (S (4 * d))) (sv (S (4 * d + 1)))
theorem pr_form {p q : Nat} (hp : p < 8) (hq : q < 8) (h : p ≠ q) : ∃ a b, a < b ∧ b < 8 ∧ pr p q = 8 * a + b ∧ ((a = p ∧ b = q) ∨ (a = q ∧ b = p)) := by
  rcases Nat.lt_or_gt_of_ne h with h1 | h1
  · exact ⟨p, q, h1, hq, (pr_lt h1).1, Or.inl ⟨rfl, rfl⟩⟩
  · exact ⟨q, p, h1, hp, (pr_lt h1).2, Or.inr ⟨rfl, rfl⟩⟩
theorem prN_form {S : Nat → Int32} (h : SO S) {d : Nat} (hd : d < 10) : prN S d = 64 ∨ ∃ a b, a < b ∧ b < 8 ∧ prN S d = 8 * a + b ∧ ((S (4 * d) = nI a ∧ S (4 * d + 1) = nI b) ∨ (S (4 * d) = nI b ∧ S (4 * d + 1) = nI a)) := by
  obtain ⟨e1, h1⟩ := SO_sv h (show 4 * d < 40 by omega)
  obtain ⟨e2, h2⟩ := SO_sv h (show 4 * d + 1 < 40 by omega)
  unfold prN
  by_cases c : sv (S (4 * d)) = 8 ∨ sv (S (4 * d + 1)) = 8 ∨ sv (S (4 * d)) = sv (S (4 * d + 1))
  · rw [if_pos c]; exact Or.inl rfl
  · rw [if_neg c]
    have c1 : ¬ sv (S (4 * d)) = 8 := fun e => c (Or.inl e)
    have c2 : ¬ sv (S (4 * d + 1)) = 8 := fun e => c (Or.inr (Or.inl e))
    have c3 : ¬ sv (S (4 * d)) = sv (S (4 * d + 1)) := fun e => c (Or.inr (Or.inr e))
    obtain ⟨a, b, h3, h4, h5, h6⟩ := pr_form (show sv (S (4 * d)) < 8 by omega) (show sv (S (4 * d + 1)) < 8 by omega) c3
    refine Or.inr ⟨a, b, h3, h4, h5, ?_⟩
    rw [o8_lt (by omega)] at e1 e2
    rcases h6 with ⟨r1, r2⟩ | ⟨r1, r2⟩
    · rw [r1, r2]; exact Or.inl ⟨e1, e2⟩
    · rw [r1, r2]; exact Or.inr ⟨e1, e2⟩
theorem prN_le {S : Nat → Int32} (h : SO S) {d : Nat} (hd : d < 10) : prN S d ≤ 64 := by
  rcases prN_form h hd with e | ⟨a, b, h1, h2, e, -⟩ <;> omega
theorem pairOf_eq {p q : Nat} (hp : p < 8) (hq : q < 8) (S : Nat → Int32) : (if nI q ≤ nI p then 8 * nI q + nI p else 8 * nI p + nI q) = nI (pr p q) := pairOf_nI hp hq
theorem pairOn_c {c : MS} (hS : SO (gI c 6)) {d : Nat} (hd : d < 10) : fHouse_pairOn c (nI d) = some (o64 (prN (gI c 6) d)) := by
  obtain ⟨e1, h1⟩ := SO_sv hS (show 4 * d < 40 by omega)
  obtain ⟨e2, h2⟩ := SO_sv hS (show 4 * d + 1 < 40 by omega)
  have t1 : (nI d * 4 : Int32) = nI (4 * d) := by rw [show (4 : Int32) = nI 4 from rfl, pk_mul, Nat.mul_comm]
  have t2 : (nI (4 * d) + 1 : Int32) = nI (4 * d + 1) := nI_add _ 1
  unfold fHouse_pairOn
  rw [t1, t2, if_neg (ix_ok (show 4 * d < 40 by omega) (by omega)), if_neg (ix_ok (show 4 * d + 1 < 40 by omega) (by omega)), nI_clamp (by omega), nI_clamp (by omega)]
  unfold prN
  by_cases c1 : sv (gI c 6 (4 * d)) = 8
  · rw [c1] at e1
    rw [if_pos (show gI c 6 (4 * d) = -1 from e1), if_pos (Or.inl c1)]; rfl
  · rw [o8_lt (by omega)] at e1
    have n1 := (o8_ne (show sv (gI c 6 (4 * d)) < 8 by omega)).1
    rw [if_neg (show ¬ gI c 6 (4 * d) = -1 by rw [e1]; exact n1)]
    by_cases c2 : sv (gI c 6 (4 * d + 1)) = 8
    · rw [c2] at e2
      rw [if_pos (show gI c 6 (4 * d + 1) = -1 from e2), if_pos (Or.inr (Or.inl c2))]; rfl
    · rw [o8_lt (by omega)] at e2
      have n2 := (o8_ne (show sv (gI c 6 (4 * d + 1)) < 8 by omega)).1
      rw [if_neg (show ¬ gI c 6 (4 * d + 1) = -1 by rw [e2]; exact n2)]
      by_cases c3 : sv (gI c 6 (4 * d)) = sv (gI c 6 (4 * d + 1))
      · rw [if_pos (show gI c 6 (4 * d) = gI c 6 (4 * d + 1) by rw [e1, e2, c3]), if_pos (Or.inr (Or.inr c3))]; rfl
      · rw [if_neg (show ¬ gI c 6 (4 * d) = gI c 6 (4 * d + 1) by rw [e1, e2, nI_eq (by omega) (by omega)]; exact c3), if_neg (by omega)]
        have h3 := pr_64 (show sv (gI c 6 (4 * d)) < 8 by omega) (show sv (gI c 6 (4 * d + 1)) < 8 by omega)
        rw [o64_lt h3, ← pairOf_nI (by omega) (by omega), ← e1, ← e2]
theorem twoOn_m {m : MS} (hS : SO (gI m 60)) {d : Nat} (hd : d < 10) : fM_twoOn m (nI d) = some (o64 (prN (gI m 60) d)) := by
  obtain ⟨e1, h1⟩ := SO_sv hS (show 4 * d < 40 by omega)
  obtain ⟨e2, h2⟩ := SO_sv hS (show 4 * d + 1 < 40 by omega)
  have t1 : (4 * nI d : Int32) = nI (4 * d) := by rw [show (4 : Int32) = nI 4 from rfl, pk_mul]
  have t2 : (nI (4 * d) + 1 : Int32) = nI (4 * d + 1) := nI_add _ 1
  unfold fM_twoOn
  rw [t1, t2, if_neg (ix_ok (show 4 * d < 40 by omega) (by omega)), if_neg (ix_ok (show 4 * d + 1 < 40 by omega) (by omega)), nI_clamp (by omega), nI_clamp (by omega)]
  unfold prN
  by_cases c1 : sv (gI m 60 (4 * d)) = 8
  · rw [c1] at e1
    rw [if_pos (show gI m 60 (4 * d) < 0 by rw [e1]; decide), if_pos (Or.inl c1)]; rfl
  · rw [o8_lt (by omega)] at e1
    have n1 := (o8_ne (show sv (gI m 60 (4 * d)) < 8 by omega)).2.1
    rw [if_neg (show ¬ gI m 60 (4 * d) < 0 by rw [e1]; exact n1)]
    by_cases c2 : sv (gI m 60 (4 * d + 1)) = 8
    · rw [c2] at e2
      rw [if_pos (show gI m 60 (4 * d + 1) < 0 by rw [e2]; decide), if_pos (Or.inr (Or.inl c2))]; rfl
    · rw [o8_lt (by omega)] at e2
      have n2 := (o8_ne (show sv (gI m 60 (4 * d + 1)) < 8 by omega)).2.1
      rw [if_neg (show ¬ gI m 60 (4 * d + 1) < 0 by rw [e2]; exact n2)]
      by_cases c3 : sv (gI m 60 (4 * d)) = sv (gI m 60 (4 * d + 1))
      · rw [if_pos (show gI m 60 (4 * d) = gI m 60 (4 * d + 1) by rw [e1, e2, c3]), if_pos (Or.inr (Or.inr c3))]; rfl
      · rw [if_neg (show ¬ gI m 60 (4 * d) = gI m 60 (4 * d + 1) by rw [e1, e2, nI_eq (by omega) (by omega)]; exact c3), if_neg (show ¬ (sv (gI m 60 (4 * d)) = 8 ∨ sv (gI m 60 (4 * d + 1)) = 8 ∨ sv (gI m 60 (4 * d)) = sv (gI m 60 (4 * d + 1))) by omega)]
        have h3 := pr_64 (show sv (gI m 60 (4 * d)) < 8 by omega) (show sv (gI m 60 (4 * d + 1)) < 8 by omega)
        rw [o64_lt h3, ← pairOf_nI (by omega) (by omega), ← e1, ← e2]
        unfold fHouse_pairOf
        by_cases c4 : gI m 60 (4 * d + 1) ≤ gI m 60 (4 * d)
        · rw [if_pos c4, if_pos c4]
        · rw [if_neg c4, if_neg c4]
theorem pair_m {p q : Nat} (hp : p < 8) (hq : q < 8) : fM_pair (nI p) (nI q) = nI (pr p q) := pairOf_nI hp hq
theorem div8 {k : Nat} (hk : k < 64) : nI k / 8 = nI (k / 8) ∧ irm (nI k) 8 = nI (k % 8) := ⟨pk_div (d := 8) (by omega) (by omega) (by omega), pk_rem (d := 8) (by omega) (by omega) (by omega)⟩
/-- two loops, side by side -/
theorem loop2 {σ ρ : Type} (X Y : Nat → σ → Int32 → Option ρ) (N : Nat) (P : Nat → σ → Prop) (Q : ρ → Prop)
    (h1 : ∀ n s i, i < N → P i s → (∃ r, Q r ∧ X (n + 1) s (nI i) = some r ∧ Y (n + 1) s (nI i) = some r) ∨ ∃ s2, P (i + 1) s2 ∧ X (n + 1) s (nI i) = X n s2 (nI (i + 1)) ∧ Y (n + 1) s (nI i) = Y n s2 (nI (i + 1)))
    (h2 : ∀ n s, P N s → ∃ r, Q r ∧ X (n + 1) s (nI N) = some r ∧ Y (n + 1) s (nI N) = some r) :
    ∀ (d i : Nat) (s : σ) (n : Nat), i + d = N → d < n → P i s → ∃ r, Q r ∧ X n s (nI i) = some r ∧ Y n s (nI i) = some r := by
  intro d
  induction d with
  | zero =>
    intro i s n hi hn hs
    obtain ⟨m, rfl⟩ : ∃ m, n = m + 1 := ⟨n - 1, by omega⟩
    have hi : i = N := hi
    subst hi
    exact h2 m s hs
  | succ d ih =>
    intro i s n hi hn hs
    obtain ⟨m, rfl⟩ : ∃ m, n = m + 1 := ⟨n - 1, by omega⟩
    rcases h1 m s i (by omega) hs with h3 | ⟨s2, h3, e1, e2⟩
    · exact h3
    · rw [e1, e2]
      exact ih (i + 1) s2 m (by omega) (by omega) h3
theorem nI_s (i : Nat) : nI i + 1 = nI (i + 1) := nI_add i 1
theorem ge10 {i : Nat} (h : i < 10) : ¬ (10 : Int32) ≤ nI i := nI_ge (b := 10) h (by omega)
theorem ge4 {i : Nat} (h : i < 4) : ¬ (4 : Int32) ≤ nI i := nI_ge (b := 4) h (by omega)
theorem ge8 {i : Nat} (h : i < 8) : ¬ (8 : Int32) ≤ nI i := nI_ge (b := 8) h (by omega)
theorem RR_SO {c m : MS} (h : RR c m) : SO (gI c 6) ∧ SO (gI m 60) := ⟨HV_SO h.1.1, by rw [h.1.2.2.2.2.2.2.1]; exact HV_SO h.1.1⟩
theorem RR_tw {c m : MS} (h : RR c m) {d : Nat} (hd : d < 10) : fHouse_pairOn c (nI d) = some (o64 (prN (gI c 6) d)) ∧ fM_twoOn m (nI d) = some (o64 (prN (gI c 6) d)) := by
  refine ⟨pairOn_c (RR_SO h).1 hd, ?_⟩
  rw [twoOn_m (RR_SO h).2 hd, h.1.2.2.2.2.2.2.1]
theorem o_sat (z : MS) (h : RR z z) (a0 a1 : Int32) : O1 (fT_sat · a0 a1) (fM_sat · a0 a1) z := by
  by_cases h0 : ∃ p q, p < cl (gI z 1 0) ∧ q < cl (gI z 1 0) ∧ p ≠ q ∧ a0 = nI p ∧ a1 = nI q
  · obtain ⟨p, q, hp, hq, hpq, rfl, rfl⟩ := h0
    have hn8 := RR_n8 h
    have hp8 : p < 8 := by omega
    have hq8 : q < 8 := by omega
    obtain ⟨y1, y2⟩ := two_yes h hp hq hpq
    have k64 := pr_64 hp8 hq8
    obtain ⟨r, -, e1, e2⟩ := loop2 (fHouse_daysOf_L4 z (nI (pr p q))) (fM_satOn_L5 z (nI p) (nI q)) 10 (fun _ _ => True) (fun _ => True) (by
      intro n s i hi _
      right
      obtain ⟨t1, t2⟩ := RR_tw h hi
      by_cases c : o64 (prN (gI z 6) i) = nI (pr p q)
      · refine ⟨s ||| ((1 : Int32) <<< (nI i &&& 31)), trivial, ?_, ?_⟩
        · rw [fHouse_daysOf_L4, if_neg (ge10 hi), t1, Option.bind, if_pos c, nI_s]
        · rw [fM_satOn_L5, if_neg (ge10 hi), t2, Option.bind, pair_m hp8 hq8, if_pos c, nI_s]
      · refine ⟨s, trivial, ?_, ?_⟩
        · rw [fHouse_daysOf_L4, if_neg (ge10 hi), t1, Option.bind, if_neg c, nI_s]
        · rw [fM_satOn_L5, if_neg (ge10 hi), t2, Option.bind, pair_m hp8 hq8, if_neg c, nI_s, Int32.or_zero]) (by
      intro n s _
      refine ⟨s, trivial, ?_, ?_⟩
      · rw [fHouse_daysOf_L4, if_pos (show (10 : Int32) ≤ nI 10 from Int32.le_refl _)]
      · rw [fM_satOn_L5, if_pos (show (10 : Int32) ≤ nI 10 from Int32.le_refl _)]) 10 0 0 LF rfl (by decide) trivial
    refine ⟨r, ?_, ?_⟩
    · simp only [fT_sat, y1, one_ne, if_false, pairOf_nI hp8 hq8]
      unfold fHouse_daysOf
      rw [show fHouse_daysOf_L4 z (nI (pr p q)) LF 0 0 = some r from e1]
      rfl
    · simp only [fM_sat, y2, one_ne, if_false]
      unfold fM_satOn
      rw [show fM_satOn_L5 z (nI p) (nI q) LF 0 0 = some r from e2]
      rfl
  · exact ⟨-1, by simp only [fT_sat, (two_no h h0).1, if_true], by simp only [fM_sat, (two_no h h0).2, if_true]⟩
