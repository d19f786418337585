def chO (k : Nat) (ch : Nat → Nat) : Prop := ∀ j, j < k → ch j < 64 ∧ ch j / 8 < ch j % 8
theorem GS_trust {W S T : Nat → Int32} {f : Nat} {ch : Nat → Nat} {k : Nat} (hc : chO k ch) (t : Nat) {fd : Nat} (hfd : cl (W 5) = fd) : ∀ j, j < k → trK W (GS S f ch k) T t (f + (j + 1)) = stp fd (decide (ch j = t)) (trK W (GS S f ch k) T t (f + j)) := by
  intro j hj
  unfold trK
  rw [show f + (j + 1) = (f + j) + 1 by omega, trS, GS_pr S f hj (hc j hj).2, hfd]
theorem okA_iff {n u : Int32} {K A T W S O F : Nat → Int32} (h : HV n u K A T W S O F) {m f k : Nat} (hk : f + k < 10) {ch : Nat → Nat} (hc : chO k ch) {p q : Nat} (hp : p < q) (hq : q < 8) (hqm : q < m) : okA m u K A T W S f k ch (8 * p + q) = (!rcR ch (8 * p + q) k (cl (W 7)) k && decide (trK W (GS S f ch k) T (8 * p + q) (f + k) < bdN u K A W S f k (8 * p + q))) := by
  have hS := HV_SO h
  have b2 := (SO_sv hS (show 4 * (f + k) + 2 < 40 by omega)).2
  have b3 := (SO_sv hS (show 4 * (f + k) + 3 < 40 by omega)).2
  have d8 : (8 * p + q) / 8 = p := by omega
  have m8 : (8 * p + q) % 8 = q := by omega
  -- the seats with the pair
  have g0 : upd (upd (GS S f ch k) (4 * (f + k)) (nI p)) (4 * (f + k) + 1) (nI q) (4 * (f + k)) = nI p := by rw [upd_a, if_neg (by omega), upd_a, if_pos rfl]
  have g1 : upd (upd (GS S f ch k) (4 * (f + k)) (nI p)) (4 * (f + k) + 1) (nI q) (4 * (f + k) + 1) = nI q := by rw [upd_a, if_pos rfl]
  have g2 : sv (upd (upd (GS S f ch k) (4 * (f + k)) (nI p)) (4 * (f + k) + 1) (nI q) (4 * (f + k) + 2)) = sv (S (4 * (f + k) + 2)) := by
    rw [upd_a, if_neg (by omega), upd_a, if_neg (by omega), GS_out S f ch _ k (fun j _ => ⟨by omega, by omega⟩)]
  have g3 : sv (upd (upd (GS S f ch k) (4 * (f + k)) (nI p)) (4 * (f + k) + 1) (nI q) (4 * (f + k) + 3)) = sv (S (4 * (f + k) + 3)) := by
    rw [upd_a, if_neg (by omega), upd_a, if_neg (by omega), GS_out S f ch _ k (fun j _ => ⟨by omega, by omega⟩)]
  have hpe : ∀ e, e < f + k → prN (upd (upd (GS S f ch k) (4 * (f + k)) (nI p)) (4 * (f + k) + 1) (nI q)) e = prN (GS S f ch k) e := by
    intro e he
    refine prN_cong ?_ ?_
    · rw [upd_a, if_neg (by omega), upd_a, if_neg (by omega)]
    · rw [upd_a, if_neg (by omega), upd_a, if_neg (by omega)]
  have htr : trK W (upd (upd (GS S f ch k) (4 * (f + k)) (nI p)) (4 * (f + k) + 1) (nI q)) T (8 * p + q) (f + k) = trK W (GS S f ch k) T (8 * p + q) (f + k) := trS_cong _ _ _ _ hpe
  have hgp : gpB (upd (upd (GS S f ch k) (4 * (f + k)) (nI p)) (4 * (f + k) + 1) (nI q)) (8 * p + q) (f + k) (cl (W 7)) = (igB S (8 * p + q) f (f + k) (cl (W 7)) || rcR ch (8 * p + q) k (cl (W 7)) k) := by
    have e1 : gpB (upd (upd (GS S f ch k) (4 * (f + k)) (nI p)) (4 * (f + k) + 1) (nI q)) (8 * p + q) (f + k) (cl (W 7)) = true ↔ ∃ e, e < f + k ∧ f + k ≤ e + cl (W 7) ∧ prN (upd (upd (GS S f ch k) (4 * (f + k)) (nI p)) (4 * (f + k) + 1) (nI q)) e = 8 * p + q := by
      unfold gpB
      rw [decide_eq_true_eq]
      exact ls_iff _ _ _ _ _
    have e2 : igB S (8 * p + q) f (f + k) (cl (W 7)) = true ↔ ∃ e, e < f ∧ f + k ≤ e + cl (W 7) ∧ prN S e = 8 * p + q := by
      unfold igB
      rw [decide_eq_true_eq]
      exact ls_iff _ _ _ _ _
    have e3 := rcR_iff ch (8 * p + q) k (cl (W 7)) k
    rw [Bool.eq_iff_iff, e1, Bool.or_eq_true, e2, e3]
    constructor
    · intro ⟨e, h1, h2, h3⟩
      rw [hpe e h1] at h3
      by_cases c : e < f
      · rw [GS_pr0 S f ch k c] at h3
        exact Or.inl ⟨e, c, h2, h3⟩
      · have hj : e - f < k := by omega
        have := GS_pr S f hj (hc _ hj).2
        rw [show f + (e - f) = e by omega] at this
        exact Or.inr ⟨e - f, hj, this.symm.trans h3, by omega⟩
    · intro hh
      rcases hh with ⟨e, h1, h2, h3⟩ | ⟨i, h1, h2, h3⟩
      · exact ⟨e, by omega, h2, by rw [hpe e (by omega), GS_pr0 S f ch k h1]; exact h3⟩
      · refine ⟨f + i, by omega, by omega, ?_⟩
        rw [hpe _ (by omega), GS_pr S f h1 (hc i h1).2]
        exact h2
  have ht10 : trK W (GS S f ch k) T (8 * p + q) (f + k) < 10 := by
    have := (HV_t h (show p < 8 by omega) hq (show p ≠ q by omega)).1
    rw [(pr_lt hp).1] at this
    exact trS_lt this.2 _
  have hmt := mtN_iff (P := pyB u K W (f + k) (8 * p + q) (sv (S (4 * (f + k) + 2))) (sv (S (4 * (f + k) + 3)))) (fun a b hab hb hpa => pay_mono h hab hb (Nat.min_le_left _ _) hpa) 10 (Nat.le_refl _) (trK W (GS S f ch k) T (8 * p + q) (f + k)) ht10
  unfold okA bdN
  rw [d8, m8, decide_eq_true hp, decide_eq_true hqm, Bool.true_and, Bool.true_and]
  cases haw : (!kbt (A p) (f + k) && !kbt (A q) (f + k)) with
  | false =>
    rw [Bool.false_and]
    have : bsB K A (f + k) (8 * p + q) (sv (S (4 * (f + k) + 2))) (sv (S (4 * (f + k) + 3))) = false := by
      unfold bsB
      rw [d8, m8]
      cases h1 : kbt (A p) (f + k) with
      | true => rfl
      | false =>
        cases h2 : kbt (A q) (f + k) with
        | true => rfl
        | false => rw [h1, h2] at haw; cases haw
    rw [this, if_neg ftn]
    have hz : (if igB S (8 * p + q) f (f + k) (cl (W 7)) = true then 0 else 0) = 0 := by
      by_cases c : igB S (8 * p + q) f (f + k) (cl (W 7)) = true
      · rw [if_pos c]
      · rw [if_neg c]
    rw [hz, decide_eq_false (show ¬ trK W (GS S f ch k) T (8 * p + q) (f + k) < 0 by omega), Bool.and_false]
  | true =>
    have hbr := brP (u := u) (T := T) (W := W) h.2.2.2.1 hp hq g0 g1 g2 g3 b2 b3 haw
    rw [hgp, htr] at hbr
    rw [Bool.true_and, Bool.eq_iff_iff, decide_eq_true_eq, hbr]
    have hpy : pyB u K W (f + k) (8 * p + q) (sv (S (4 * (f + k) + 2))) (sv (S (4 * (f + k) + 3))) (trK W (GS S f ch k) T (8 * p + q) (f + k)) = payB (woI W (trK W (GS S f ch k) T (8 * p + q) (f + k)) (snN K W (8 * p + q) (sv (S (4 * (f + k) + 2))) (sv (S (4 * (f + k) + 3))) (kbt u (f + k)))) (W 6) := rfl
    rw [← hpy, ← hmt]
    cases igB S (8 * p + q) f (f + k) (cl (W 7)) with
    | true => simp
    | false =>
      rw [if_neg ftn, Bool.false_or]
      cases bsB K A (f + k) (8 * p + q) (sv (S (4 * (f + k) + 2))) (sv (S (4 * (f + k) + 3))) with
      | false => simp
      | true =>
        rw [if_pos rfl]
        cases rcR ch (8 * p + q) k (cl (W 7)) k <;> simp
def updN (ch : Nat → Nat) (k t : Nat) : Nat → Nat := fun j => if j = k then t else ch j
def smA (R : Nat → Nat) : Nat → Nat
  | 0 => 0
  | t + 1 => smA R t + R t
/-- how many ways go on from the k-th day, r days left -/
def cnA (OK : Nat → (Nat → Nat) → Nat → Bool) : Nat → Nat → (Nat → Nat) → Nat
  | 0, _, _ => 1
  | r + 1, k, ch => smA (fun t => if OK k ch t then cnA OK r (k + 1) (updN ch k t) else 0) 64
theorem smA_skip (R : Nat → Nat) (a : Nat) : ∀ e, (∀ x, a ≤ x → x < a + e → R x = 0) → smA R (a + e) = smA R a := by
  intro e
  induction e with
  | zero => intro _; rfl
  | succ e ih =>
    intro h
    rw [show a + (e + 1) = (a + e) + 1 by omega, smA, h (a + e) (by omega) (by omega), Nat.add_zero]
    exact ih (fun x h1 h2 => h x h1 (by omega))
theorem okA_f {m : Nat} {u : Int32} {K A T W S : Nat → Int32} {f k : Nat} {ch : Nat → Nat} {t : Nat} (h : ¬ (t / 8 < t % 8 ∧ t % 8 < m)) : okA m u K A T W S f k ch t = false := by
  unfold okA
  by_cases c1 : t / 8 < t % 8
  · rw [decide_eq_false (show ¬ t % 8 < m from fun h2 => h ⟨c1, h2⟩), Bool.and_false, Bool.false_and]
  · rw [decide_eq_false c1, Bool.false_and, Bool.false_and]
/-- the class' memory with the chosen ones -/
def az (B : MS) (H : Nat → Int32) : MS := wI B 25 H
theorem stands_c {z B : MS} {F : Nat → Int32} (hv : HV (gI z 1 0) (gI z 1 1) (gI z 2) (gI z 3) (gI z 4) (gI z 5) (gI z 6) (gI z 7) F) {f n : Nat} (hn : n ≤ 3) (hB : frA z B) {p q : Nat} (hp : p < q) (hq : q < 8) (hd : dnA z B f n (8 * p + q)) {k : Nat} (hk : k < n) {ch : Nat → Nat} (hc : chO k ch) {H : Nat → Int32} (hH : ∀ j, j < k → H j = nI (ch j)) :
    fWays_standsBehindChosen (az B H) (nI (8 * p + q)) (nI k) = some (if (!rcR ch (8 * p + q) k (cl (gI z 5 7)) k && decide (trK (gI z 5) (GS (gI z 6) f ch k) (gI z 4) (8 * p + q) (f + k) < bdN (gI z 1 1) (gI z 2) (gI z 3) (gI z 5) (gI z 6) f k (8 * p + q))) then 1 else 0) := by
  obtain ⟨fd, hfd, ef, cf⟩ := HV_fd hv
  obtain ⟨g, hg, eg, cg⟩ := HV_g hv
  have h5 : gI B 5 = gI z 5 := hB.1 5 (by decide) (by decide) (by decide) (by decide)
  have ht64 : 8 * p + q < 64 := by omega
  have hT := (HV_t hv (show p < 8 by omega) hq (show p ≠ q by omega)).1
  rw [(pr_lt hp).1] at hT
  have hlt : ∀ d, trK (gI z 5) (GS (gI z 6) f ch k) (gI z 4) (8 * p + q) d < 10 := fun d => trS_lt hT.2 d
  have hbd : bdN (gI z 1 1) (gI z 2) (gI z 3) (gI z 5) (gI z 6) f k (8 * p + q) ≤ 10 := by
    unfold bdN
    by_cases c1 : igB (gI z 6) (8 * p + q) f (f + k) (cl (gI z 5 7)) = true
    · rw [if_pos c1]; omega
    · rw [if_neg c1]
      by_cases c2 : bsB (gI z 2) (gI z 3) (f + k) (8 * p + q) (sv (gI z 6 (4 * (f + k) + 2))) (sv (gI z 6 (4 * (f + k) + 3))) = true
      · rw [if_pos c2]; exact mtN_le _ _
      · rw [if_neg c2]; omega
  have key : ∀ (e j a : Nat), j + e = k → e < a → rcR ch (8 * p + q) k (cl (gI z 5 7)) j = false → fWays_standsBehindChosen_L10 (az B H) (nI (8 * p + q)) (nI k) a (nI (trK (gI z 5) (GS (gI z 6) f ch k) (gI z 4) (8 * p + q) (f + j))) (nI j) = some (if (!rcR ch (8 * p + q) k (cl (gI z 5 7)) k && decide (trK (gI z 5) (GS (gI z 6) f ch k) (gI z 4) (8 * p + q) (f + k) < bdN (gI z 1 1) (gI z 2) (gI z 3) (gI z 5) (gI z 6) f k (8 * p + q))) then 1 else 0) := by
    intro e
    induction e with
    | zero =>
      intro j a hj ha hr
      obtain ⟨a, rfl⟩ : ∃ m, a = m + 1 := ⟨a - 1, by omega⟩
      have hj : j = k := hj
      subst hj
      have gb : gI (az B H) (22 + j) (8 * p + q) = dn (bdN (gI z 1 1) (gI z 2) (gI z 3) (gI z 5) (gI z 6) f j (8 * p + q)) := by
        show gI (wI B 25 H) (22 + j) (8 * p + q) = _
        rw [gI_wI', if_neg (by omega)]
        exact hd.2 j hk
      rw [fWays_standsBehindChosen_L10, if_pos (Int32.le_refl _), if_neg (ix_ok (show j < 3 by omega) (by omega)), if_neg (ix_ok ht64 (by omega)), nI_clamp (show j < 2 ^ 31 by omega), nI_clamp (show 8 * p + q < 2 ^ 31 by omega), gb, hr, Bool.not_false, Bool.true_and]
      have hl := hlt (f + j)
      generalize trK (gI z 5) (GS (gI z 6) f ch j) (gI z 4) (8 * p + q) (f + j) = tau at *
      generalize bdN (gI z 1 1) (gI z 2) (gI z 3) (gI z 5) (gI z 6) f j (8 * p + q) = bd at *
      cases bd with
      | zero =>
        rw [if_pos (show dn 0 < nI tau from Int32.lt_of_lt_of_le (show (-1 : Int32) < 0 by decide) (Int32.not_lt.mp (nI_pos (by omega)))), decide_eq_false (by omega)]
        rfl
      | succ b =>
        by_cases c : tau < b + 1
        · rw [if_neg (show ¬ dn (b + 1) < nI tau from nI_nlt (show tau ≤ b by omega) (by omega)), decide_eq_true c]
          rfl
        · rw [if_pos (show dn (b + 1) < nI tau from nI_lt (show b < tau by omega) (by omega)), decide_eq_false c]
          rfl
    | succ e ih =>
      intro j a hj ha hr
      obtain ⟨a, rfl⟩ : ∃ m, a = m + 1 := ⟨a - 1, by omega⟩
      have hjk : j < k := by omega
      have hcj := (hc j hjk).1
      have g25 : gI (az B H) 25 j = nI (ch j) := by
        show gI (wI B 25 H) 25 j = _
        rw [gI_wIk]
        exact hH j hjk
      have hstep := GS_trust (S := gI z 6) (T := gI z 4) (f := f) hc (8 * p + q) cf j hjk
      have hta := trustAfter_c (c := az B H) (fd := fd) (t := trK (gI z 5) (GS (gI z 6) f ch k) (gI z 4) (8 * p + q) (f + j)) (by show gI B 5 5 = _; rw [h5]; exact ef) hfd (hlt _) (decide (ch j = 8 * p + q))
      rw [← hstep] at hta
      have hrs : rcR ch (8 * p + q) k (cl (gI z 5 7)) (j + 1) = (decide (ch j = 8 * p + q) && decide (k ≤ j + cl (gI z 5 7))) := by rw [rcR, hr, Bool.false_or]
      have hih := ih (j + 1) a (by omega) (by omega)
      have h57 : gI (az B H) 5 7 = nI g := by show gI B 5 7 = _; rw [h5]; exact eg
      rw [fWays_standsBehindChosen_L10, if_neg (nI_ge hjk (by omega)), if_neg (ix_ok (show j < 3 by omega) (by omega)), nI_clamp (show j < 2 ^ 31 by omega), g25]
      unfold fWays_standsBehindChosen_J32 fWays_standsBehindChosen_J58
      rw [h57, pk_sub (show j ≤ k by omega), nI_s]
      by_cases c : ch j = 8 * p + q
      · rw [decide_eq_true c] at hta hrs
        rw [if_pos (by rw [c]), if_neg one_ne]
        rw [Bool.true_and, cg] at hrs
        by_cases c2 : k ≤ j + g
        · rw [if_neg (show ¬ nI g < nI (k - j) from nI_nlt (by omega) (by omega))]
          rw [decide_eq_true c2] at hrs
          have hall : rcR ch (8 * p + q) k (cl (gI z 5 7)) k = true := (rcR_iff _ _ _ _ _).mpr ⟨j, hjk, c, by rw [cg]; exact c2⟩
          rw [hall]
          rfl
        · rw [if_pos (show nI g < nI (k - j) from nI_lt (by omega) (by omega))]
          rw [decide_eq_false c2] at hrs
          rw [show fJudge_trustAfter (az B H) (nI (trK (gI z 5) (GS (gI z 6) f ch k) (gI z 4) (8 * p + q) (f + j))) 1 = _ from hta]
          exact hih (by rw [cg]; exact hrs)
      · rw [decide_eq_false c] at hta hrs
        rw [if_neg (nI_ne c (by omega) (by omega)), if_pos rfl]
        rw [show fJudge_trustAfter (az B H) (nI (trK (gI z 5) (GS (gI z 6) f ch k) (gI z 4) (8 * p + q) (f + j))) 0 = _ from hta]
        exact hih hrs
  have h0 := key k 0 LF (by omega) (by unfold LF; omega) rfl
  have e0 : trK (gI z 5) (GS (gI z 6) f ch k) (gI z 4) (8 * p + q) (f + 0) = trK (gI z 5) (gI z 6) (gI z 4) (8 * p + q) f := trS_cong _ _ _ _ (fun e he => GS_pr0 (gI z 6) f ch k he)
  rw [e0] at h0
  have g20 : gI (az B H) 20 (8 * p + q) = nI (trK (gI z 5) (gI z 6) (gI z 4) (8 * p + q) f) := hd.1
  unfold fWays_standsBehindChosen
  rw [if_neg (ix_ok ht64 (by omega)), nI_clamp (by omega), g20]
  exact h0
theorem count_c {z B : MS} {F : Nat → Int32} (hv : HV (gI z 1 0) (gI z 1 1) (gI z 2) (gI z 3) (gI z 4) (gI z 5) (gI z 6) (gI z 7) F) {m f n : Nat} (hm : m ≤ 8) (e1 : gI z 1 0 = nI m) (hn : n ≤ 3) (hf : f + n ≤ 10) (hB : frA z B) (hD : ∀ a b, a < b → b < m → dnA z B f n (8 * a + b)) :
    ∀ (r k a : Nat) (ch : Nat → Nat) (H : Nat → Int32), k + r = n → r < a → chO k ch → (∀ j, j < k → H j = nI (ch j)) → ∃ H2, (∀ j, j < k → H2 j = H j) ∧ fWays_countRows a (az B H) (nI k) (nI n) = some (nI (cnA (okA m (gI z 1 1) (gI z 2) (gI z 3) (gI z 4) (gI z 5) (gI z 6) f) r k ch), az B H2) := by
  intro r
  induction r with
  | zero =>
    intro k a ch H hk ha hc hH
    obtain ⟨a, rfl⟩ : ∃ m, a = m + 1 := ⟨a - 1, by omega⟩
    have hk : k = n := hk
    subst hk
    refine ⟨H, fun _ _ => rfl, ?_⟩
    rw [fWays_countRows, if_pos (Int32.le_refl _)]
    rfl
  | succ r ih =>
    intro k a ch H hk ha hc hH
    obtain ⟨a, rfl⟩ : ∃ m, a = m + 1 := ⟨a - 1, by omega⟩
    have hk3 : k < 3 := by omega
    have hkn : k < n := by omega
    have g1 : ∀ H, gI (az B H) 1 0 = nI m := fun H => by
      show gI B 1 0 = _
      rw [hB.1 1 (by decide) (by decide) (by decide) (by decide)]
      exact e1
    generalize hR : (fun t => if okA m (gI z 1 1) (gI z 2) (gI z 3) (gI z 4) (gI z 5) (gI z 6) f k ch t = true then cnA (okA m (gI z 1 1) (gI z 2) (gI z 3) (gI z 4) (gI z 5) (gI z 6) f) r (k + 1) (updN ch k t) else 0) = R
    have hR0 : ∀ t, ¬ (t / 8 < t % 8 ∧ t % 8 < m) → R t = 0 := by
      intro t ht
      rw [← hR]
      show (if okA m (gI z 1 1) (gI z 2) (gI z 3) (gI z 4) (gI z 5) (gI z 6) f k ch t = true then _ else 0) = 0
      rw [okA_f ht, if_neg ftn]
    have inner : ∀ (K17 : MS → Int32 → Int32 → Option (Int32 × MS)) (p : Nat), p < m → ∀ (e q g : Nat) (H : Nat → Int32), q + e = m → e < g → p < q → (∀ j, j < k → H j = nI (ch j)) → ∃ H2, (∀ j, j < k → H2 j = H j) ∧ fWays_countRows_L35 (fWays_countRows a) K17 (nI k) (nI n) (nI p) g (az B H) (nI (smA R (8 * p + q))) (nI q) = K17 (az B H2) (nI (smA R (8 * p + 8))) (nI (p + 1)) := by
      intro K17 p hp e
      induction e with
      | zero =>
        intro q g H hq hg hpq hH
        obtain ⟨g, rfl⟩ : ∃ m, g = m + 1 := ⟨g - 1, by omega⟩
        have hq : q = m := hq
        subst hq
        refine ⟨H, fun _ _ => rfl, ?_⟩
        have := smA_skip R (8 * p + q) (8 - q) (fun x h1 h2 => hR0 x (by omega))
        rw [show 8 * p + q + (8 - q) = 8 * p + 8 by omega] at this
        rw [fWays_countRows_L35, g1, if_pos (Int32.le_refl _), nI_s, this]
      | succ e ihe =>
        intro q g H hq hg hpq hH
        obtain ⟨g, rfl⟩ : ∃ m, g = m + 1 := ⟨g - 1, by omega⟩
        have hq8 : q < 8 := by omega
        have ht : 8 * p + q < 64 := by omega
        have hpr : pr p q = 8 * p + q := (pr_lt hpq).1
        have hok := okA_iff hv (m := m) (show f + k < 10 by omega) hc hpq hq8 (show q < m by omega)
        have hst := stands_c hv hn hB hpq hq8 (hD p q hpq (by omega)) hkn hc hH
        rw [← hok] at hst
        have gb : gI (az B H) (22 + k) (8 * p + q) = dn (bdN (gI z 1 1) (gI z 2) (gI z 3) (gI z 5) (gI z 6) f k (8 * p + q)) := by
          show gI (wI B 25 H) (22 + k) (8 * p + q) = _
          rw [gI_wI', if_neg (by omega)]
          exact (hD p q hpq (by omega)).2 k hkn
        have hbd : bdN (gI z 1 1) (gI z 2) (gI z 3) (gI z 5) (gI z 6) f k (8 * p + q) ≤ 10 := by
          unfold bdN
          by_cases c1 : igB (gI z 6) (8 * p + q) f (f + k) (cl (gI z 5 7)) = true
          · rw [if_pos c1]; omega
          · rw [if_neg c1]
            by_cases c2 : bsB (gI z 2) (gI z 3) (f + k) (8 * p + q) (sv (gI z 6 (4 * (f + k) + 2))) (sv (gI z 6 (4 * (f + k) + 3))) = true
            · rw [if_pos c2]; exact mtN_le _ _
            · rw [if_neg c2]; omega
        have hRt : R (8 * p + q) = if okA m (gI z 1 1) (gI z 2) (gI z 3) (gI z 4) (gI z 5) (gI z 6) f k ch (8 * p + q) = true then cnA (okA m (gI z 1 1) (gI z 2) (gI z 3) (gI z 4) (gI z 5) (gI z 6) f) r (k + 1) (updN ch k (8 * p + q)) else 0 := by rw [← hR]
        have hsm : smA R (8 * p + (q + 1)) = smA R (8 * p + q) + R (8 * p + q) := by
          rw [show 8 * p + (q + 1) = (8 * p + q) + 1 by omega, smA]
        rw [fWays_countRows_L35, g1, if_neg (nI_ge (by omega) (by omega)), if_neg (ix_ok hk3 (by omega)), pairOf_nI (by omega) hq8, hpr, if_neg (ix_ok ht (by omega)), nI_clamp (show k < 2 ^ 31 by omega), nI_clamp (show 8 * p + q < 2 ^ 31 by omega), gb, hst, obs, if_neg (ix_n hk3 (by omega)), nI_s, nI_s]
        cases ho : okA m (gI z 1 1) (gI z 2) (gI z 3) (gI z 4) (gI z 5) (gI z 6) f k ch (8 * p + q) with
        | false =>
          rw [ho, if_neg ftn] at hRt
          obtain ⟨H2, q1, q2⟩ := ihe (q + 1) g H (by omega) (by omega) (by omega) hH
          rw [hsm, hRt, Nat.add_zero] at q2
          refine ⟨H2, q1, ?_⟩
          rw [if_pos (show (if false = true then (1 : Int32) else 0) = 0 from rfl)]
          by_cases cb : dn (bdN (gI z 1 1) (gI z 2) (gI z 3) (gI z 5) (gI z 6) f k (8 * p + q)) < 0
          · rw [if_pos cb]; exact q2
          · rw [if_neg cb]; exact q2
        | true =>
          rw [ho, if_pos rfl] at hRt
          have hb0 : ¬ dn (bdN (gI z 1 1) (gI z 2) (gI z 3) (gI z 5) (gI z 6) f k (8 * p + q)) < 0 := by
            intro h0
            have h1 := (dn_neg _ (by omega)).mp h0
            rw [ho, h1] at hok
            rw [decide_eq_false (show ¬ trK (gI z 5) (GS (gI z 6) f ch k) (gI z 4) (8 * p + q) (f + k) < 0 by omega), Bool.and_false] at hok
            cases hok
          rw [if_neg hb0, if_neg (show ¬ (if true = true then (1 : Int32) else 0) = 0 from one_ne)]
          obtain ⟨H3, c1, c2⟩ := ih (k + 1) a (updN ch k (8 * p + q)) (upd H k (nI (8 * p + q))) (by omega) (by omega) (by
            intro j hj
            unfold updN
            by_cases c : j = k
            · rw [if_pos c]; exact ⟨ht, by omega⟩
            · rw [if_neg c]; exact hc j (by omega)) (by
            intro j hj
            rw [upd_a]
            unfold updN
            by_cases c : j = k
            · rw [if_pos c, if_pos c]
            · rw [if_neg c, if_neg c]; exact hH j (by omega))
          have hH3 : ∀ j, j < k → H3 j = H j := by
            intro j hj
            rw [c1 j (by omega), upd_a, if_neg (by omega)]
          have hm25 : pI (az B H) 25 k (nI (8 * p + q)) = az B (upd H k (nI (8 * p + q))) := pI_wI _ _ _ _ _
          rw [hm25, c2, ob2s, nI_add]
          obtain ⟨H2, q1, q2⟩ := ihe (q + 1) g H3 (by omega) (by omega) (by omega) (by
            intro j hj
            rw [hH3 j hj]
            exact hH j hj)
          rw [hsm, hRt] at q2
          refine ⟨H2, ?_, q2⟩
          intro j hj
          rw [q1 j hj, hH3 j hj]
    have outer : ∀ (e p g : Nat) (H : Nat → Int32), p + e = m → e < g → (∀ j, j < k → H j = nI (ch j)) → ∃ H2, (∀ j, j < k → H2 j = H j) ∧ fWays_countRows_L17 (fWays_countRows a) (nI k) (nI n) g (az B H) (nI (smA R (8 * p))) (nI p) = some (nI (smA R 64), az B H2) := by
      intro e
      induction e with
      | zero =>
        intro p g H hp hg hH
        obtain ⟨g, rfl⟩ : ∃ m, g = m + 1 := ⟨g - 1, by omega⟩
        have hp : p = m := hp
        subst hp
        refine ⟨H, fun _ _ => rfl, ?_⟩
        have := smA_skip R (8 * p) (64 - 8 * p) (fun x h1 h2 => hR0 x (by omega))
        rw [show 8 * p + (64 - 8 * p) = 64 by omega] at this
        rw [fWays_countRows_L17, g1, if_pos (Int32.le_refl _), this]
      | succ e ihe =>
        intro p g H hp hg hH
        obtain ⟨g, rfl⟩ : ∃ m, g = m + 1 := ⟨g - 1, by omega⟩
        have hs := smA_skip R (8 * p) (p + 1) (fun x h1 h2 => hR0 x (by omega))
        obtain ⟨H2, c1, c2⟩ := inner (fWays_countRows_L17 (fWays_countRows a) (nI k) (nI n) g) p (by omega) (m - (p + 1)) (p + 1) LF H (by omega) (by unfold LF; omega) (by omega) hH
        rw [hs] at c2
        obtain ⟨H3, d1, d2⟩ := ihe (p + 1) g H2 (by omega) (by omega) (fun j hj => by rw [c1 j hj]; exact hH j hj)
        rw [show 8 * (p + 1) = 8 * p + 8 by omega] at d2
        refine ⟨H3, fun j hj => by rw [d1 j hj, c1 j hj], ?_⟩
        rw [fWays_countRows_L17, g1, if_neg (nI_ge (by omega) (by omega)), nI_s]
        exact c2.trans d2
    obtain ⟨H2, c1, c2⟩ := outer m 0 LF H (by omega) (by unfold LF; omega) hH
    refine ⟨H2, c1, ?_⟩
    rw [fWays_countRows, if_neg (nI_ge hkn (by omega)), if_pos (show nI k < 3 from nI_lt (b := 3) hk3 (by omega)), cnA, hR]
    exact c2
