/-- how many trusts from 0 on do not pay, looked for from above -/
def mtN (P : Nat → Bool) : Nat → Nat
  | 0 => 0
  | t + 1 => if P t then mtN P t else t + 1
theorem mtN_le (P : Nat → Bool) : ∀ m, mtN P m ≤ m := by
  intro m
  induction m with
  | zero => exact Nat.le_refl 0
  | succ m ih =>
    rw [mtN]
    cases P m with
    | true => rw [if_pos rfl]; omega
    | false => rw [if_neg ftn]; exact Nat.le_refl _
theorem mtN_iff {P : Nat → Bool} (hmono : ∀ a b, a ≤ b → b < 10 → P a = true → P b = true) : ∀ m, m ≤ 10 → ∀ t, t < m → (t < mtN P m ↔ P t = false) := by
  intro m
  induction m with
  | zero => intro _ t h; omega
  | succ m ih =>
    intro hm t ht
    rw [mtN]
    cases h : P m with
    | false =>
      rw [if_neg ftn]
      refine ⟨fun _ => ?_, fun _ => ht⟩
      cases e : P t with
      | false => rfl
      | true =>
        have := hmono t m (by omega) (by omega) e
        rw [h] at this
        cases this
    | true =>
      rw [if_pos rfl]
      by_cases c : t = m
      · subst c
        refine ⟨fun h2 => ?_, fun h2 => by rw [h] at h2; cases h2⟩
        have := mtN_le P t
        omega
      · exact ih (by omega) t (by omega)
/-- the two, the book and the count may be there -/
def bsB (K A : Nat → Int32) (D t bk ct : Nat) : Bool := (!kbt (A (t / 8)) D && (!kbt (A (t % 8)) D && !kbt (K (t / 8)) (t % 8))) && ((decide (bk = 8) || mFr A D (t / 8) (t % 8) bk) && ((decide (ct = 8) || mFr A D (t / 8) (t % 8) ct) && (decide (bk = 8) || decide (¬ bk = ct))))
def pyB (u : Int32) (K W : Nat → Int32) (D t bk ct tau : Nat) : Bool := payB (woI W tau (snN K W t bk ct (kbt u D))) (W 6)
theorem most_c {c : MS} {F : Nat → Int32} (h : HV (gI c 1 0) (gI c 1 1) (gI c 2) (gI c 3) (gI c 4) (gI c 5) (gI c 6) (gI c 7) F) {t D : Nat} (ht : t < 64) (hlt : t / 8 < t % 8) (hD : D < 10) : fWays_mostTrust c (nI t) (nI D) = some (dn (if bsB (gI c 2) (gI c 3) D t (sv (gI c 6 (4 * D + 2))) (sv (gI c 6 (4 * D + 3))) then mtN (pyB (gI c 1 1) (gI c 2) (gI c 5) D t (sv (gI c 6 (4 * D + 2))) (sv (gI c 6 (4 * D + 3)))) 10 else 0)) := by
  have hS := HV_SO h
  obtain ⟨e2, b2⟩ := SO_sv hS (show 4 * D + 2 < 40 by omega)
  obtain ⟨e3, b3⟩ := SO_sv hS (show 4 * D + 3 < 40 by omega)
  have hp : t / 8 < 8 := by omega
  have hq : t % 8 < 8 := by omega
  have hpr : pr (t / 8) (t % 8) = t := by rw [(pr_lt hlt).1]; omega
  unfold fWays_mostTrust
  rw [show fHouse_at c (nI D) 2 = _ from at_c hD (show 2 < 4 by omega), obs, show fHouse_at c (nI D) 3 = _ from at_c hD (show 3 < 4 by omega), obs, (div8 ht).1, (div8 ht).2, maySit_c h.2.2.2.2.2.1 h.2.2.1 hp hq hD, obs, e2, e3]
  have sv2 : sv (o8 (sv (gI c 6 (4 * D + 2)))) = sv (gI c 6 (4 * D + 2)) := by rw [← e2]
  have sv3 : sv (o8 (sv (gI c 6 (4 * D + 3)))) = sv (gI c 6 (4 * D + 3)) := by rw [← e3]
  rw [sv2, sv3]
  generalize sv (gI c 6 (4 * D + 2)) = bk at *
  generalize sv (gI c 6 (4 * D + 3)) = ct at *
  have hno : fWays_mostTrust_J84 c (nI t) (nI D) (o8 bk) (o8 ct) = some (dn 0) := rfl
  have hloop : ∀ (m f : Nat), m ≤ 10 → m < f → fWays_mostTrust_L98 c (nI t) (nI D) (o8 bk) (o8 ct) f (dn m) = some (dn (mtN (pyB (gI c 1 1) (gI c 2) (gI c 5) D t bk ct) m)) := by
    intro m
    induction m with
    | zero =>
      intro f _ hf
      obtain ⟨f, rfl⟩ : ∃ m, f = m + 1 := ⟨f - 1, by omega⟩
      rw [fWays_mostTrust_L98, if_pos (show dn 0 < 0 by decide)]
      rfl
    | succ m ih =>
      intro f hm hf
      obtain ⟨f, rfl⟩ : ∃ m, f = m + 1 := ⟨f - 1, by omega⟩
      rw [fWays_mostTrust_L98, if_neg (fun h => absurd ((dn_neg (m + 1) (by omega)).mp h) (by omega))]
      show Option.bind (fWays_wouldPay c (nI t) (nI m) (o8 bk) (o8 ct) (nI D)) (fun w111 => if w111 = 0 then some (nI m) else fWays_mostTrust_L98 c (nI t) (nI D) (o8 bk) (o8 ct) f (nI m + (-1))) = _
      rw [wouldPay_c (HV_KO h) h.2.1 ht b2 b3 hD, obs, (dn_s m).1, mtN]
      cases hh : pyB (gI c 1 1) (gI c 2) (gI c 5) D t bk ct m with
      | true =>
        unfold pyB at hh
        rw [hh, if_neg (show ¬ (if true = true then (1 : Int32) else 0) = 0 from one_ne), if_pos rfl]
        exact ih f (by omega) (by omega)
      | false =>
        unfold pyB at hh
        rw [hh, if_pos (show (if false = true then (1 : Int32) else 0) = 0 from rfl), if_neg ftn]
        rfl
  have hyes : fWays_mostTrust_J80 c (nI t) (nI D) (o8 bk) (o8 ct) = some (dn (mtN (pyB (gI c 1 1) (gI c 2) (gI c 5) D t bk ct) 10)) := by
    unfold fWays_mostTrust_J80 fWays_mostTrust_J85
    rw [if_neg one_ne]
    exact hloop 10 LF (Nat.le_refl _) (by decide)
  have m8 : ∀ x, x ≤ 8 → (o8 x = -1 ↔ x = 8) := by
    intro x hx
    by_cases c8 : x = 8
    · subst c8; exact ⟨fun _ => rfl, fun _ => rfl⟩
    · rw [o8_lt (by omega)]
      exact ⟨fun h => absurd h (o8_ne (by omega)).1, fun h => absurd h c8⟩
  have h69 : fWays_mostTrust_J69 c (nI t) (nI D) (o8 bk) (o8 ct) = some (dn (if (decide (bk = 8) || decide (¬ bk = ct)) then mtN (pyB (gI c 1 1) (gI c 2) (gI c 5) D t bk ct) 10 else 0)) := by
    unfold fWays_mostTrust_J69
    by_cases c8 : bk = 8
    · rw [if_pos ((m8 bk b2).mpr c8), hyes, decide_eq_true c8, Bool.true_or, if_pos rfl]
    · rw [if_neg (fun h => c8 ((m8 bk b2).mp h)), decide_eq_false c8, Bool.false_or]
      by_cases ce : bk = ct
      · rw [if_pos (by rw [ce]), hno, decide_eq_false (fun h => h ce), if_neg ftn]
      · have : ¬ o8 bk = o8 ct := by
          rw [o8_lt (show bk < 8 by omega)]
          by_cases c9 : ct = 8
          · rw [c9, o8_8]; exact (o8_ne (by omega)).1
          · rw [o8_lt (by omega)]; exact nI_ne ce (by omega) (by omega)
        rw [if_neg this, hyes, decide_eq_true ce, if_pos rfl]
  have h52 : fWays_mostTrust_J52 c (nI t) (nI D) (o8 bk) (o8 ct) = some (dn (if ((decide (ct = 8) || mFr (gI c 3) D (t / 8) (t % 8) ct) && (decide (bk = 8) || decide (¬ bk = ct))) then mtN (pyB (gI c 1 1) (gI c 2) (gI c 5) D t bk ct) 10 else 0)) := by
    unfold fWays_mostTrust_J52
    by_cases c8 : ct = 8
    · rw [if_pos ((m8 ct b3).mpr c8), h69, decide_eq_true c8, Bool.true_or, Bool.true_and]
    · rw [if_neg (fun h => c8 ((m8 ct b3).mp h)), decide_eq_false c8, Bool.false_or]
      have hfr := isFree_c (c := c) h.2.2.2.2.2.1 hp hq (by omega) (show ct < 8 by omega) hD
      rw [hpr] at hfr
      rw [o8_lt (show ct < 8 by omega)] at h69 hno ⊢
      rw [hfr, obs]
      cases mFr (gI c 3) D (t / 8) (t % 8) ct with
      | false => rw [if_pos (show (if false = true then (1 : Int32) else 0) = 0 from rfl), hno, Bool.false_and, if_neg ftn]
      | true => rw [if_neg (show ¬ (if true = true then (1 : Int32) else 0) = 0 from one_ne), h69, Bool.true_and]
  unfold bsB
  cases hms : (!kbt (gI c 3 (t / 8)) D && (!kbt (gI c 3 (t % 8)) D && !kbt (gI c 2 (t / 8)) (t % 8))) with
  | false => rw [if_pos (show (if false = true then (1 : Int32) else 0) = 0 from rfl), hno, Bool.false_and, if_neg ftn]
  | true =>
    rw [if_neg (show ¬ (if true = true then (1 : Int32) else 0) = 0 from one_ne), Bool.true_and]
    by_cases c8 : bk = 8
    · rw [if_pos ((m8 bk b2).mpr c8), h52, decide_eq_true c8]
      simp only [Bool.true_or, Bool.true_and]
    · rw [if_neg (fun h => c8 ((m8 bk b2).mp h)), decide_eq_false c8, Bool.false_or]
      have hfr := isFree_c (c := c) h.2.2.2.2.2.1 hp hq (by omega) (show bk < 8 by omega) hD
      rw [hpr] at hfr
      rw [decide_eq_false c8, Bool.false_or] at h52
      rw [o8_lt (show bk < 8 by omega)] at h52 hno ⊢
      rw [hfr, obs]
      cases mFr (gI c 3) D (t / 8) (t % 8) bk with
      | false => rw [if_pos (show (if false = true then (1 : Int32) else 0) = 0 from rfl), hno, Bool.false_and, if_neg ftn]
      | true => rw [if_neg (show ¬ (if true = true then (1 : Int32) else 0) = 0 from one_ne), h52, Bool.true_and, Bool.false_or]
