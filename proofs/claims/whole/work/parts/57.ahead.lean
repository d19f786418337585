theorem awR_cong {A S S2 : Nat → Int32} {d : Nat} : ∀ s, (∀ j, j < s → S2 (4 * d + j) = S (4 * d + j)) → awR A S2 d s = awR A S d s := by
  intro s
  induction s with
  | zero => intro _; rfl
  | succ s ih =>
    intro h
    rw [awR, awR, ih (fun j hj => h j (by omega)), h s (by omega)]
theorem usN_cong {S S2 : Nat → Int32} {d : Nat} : ∀ s, (∀ j, j < s → S2 (4 * d + j) = S (4 * d + j)) → usN S2 d s = usN S d s := by
  intro s
  induction s with
  | zero => intro _; rfl
  | succ s ih =>
    intro h
    rw [usN, usN, ih (fun j hj => h j (by omega)), h s (by omega)]
theorem twR_cong {S S2 : Nat → Int32} {d : Nat} : ∀ s, (∀ j, j < s → S2 (4 * d + j) = S (4 * d + j)) → twR S2 d s = twR S d s := by
  intro s
  induction s with
  | zero => intro _; rfl
  | succ s ih =>
    intro h
    rw [twR, twR, ih (fun j hj => h j (by omega)), h s (by omega), usN_cong s (fun j hj => h j (by omega))]
theorem brN_cong (u : Int32) (K A T W : Nat → Int32) {S S2 : Nat → Int32} {d : Nat} (h : ∀ i, i < 4 * d + 4 → S2 i = S i) : brN u K A T W S2 d = brN u K A T W S d := by
  have hp : ∀ e, e ≤ d → prN S2 e = prN S e := fun e he => prN_cong (h _ (by omega)) (h _ (by omega))
  have hk : ∀ k, trK W S2 T k d = trK W S T k d := fun k => trS_cong _ _ _ _ (fun e he => hp e (by omega))
  unfold brN woD snD gpB
  rw [awR_cong 4 (fun j hj => h _ (by omega)), twR_cong 4 (fun j hj => h _ (by omega)), hp d (Nat.le_refl _), lsN_cong _ d (fun e he => hp e (by omega)), hk, h (4 * d + 2) (by omega), h (4 * d + 3) (by omega)]
theorem GS_cong (S : Nat → Int32) (f : Nat) {ch ch2 : Nat → Nat} : ∀ k, (∀ j, j < k → ch2 j = ch j) → GS S f ch2 k = GS S f ch k := by
  intro k
  induction k with
  | zero => intro _; rfl
  | succ k ih =>
    intro h
    rw [GS, GS, ih (fun j hj => h j (by omega)), h k (by omega)]
/-- the model's memory on its way -/
def pm (y : MS) (P Q : Nat → Int32) : MS := wI (wI y 72 Q) 60 P
theorem pm_Q (y : MS) (P Q : Nat → Int32) (j : Nat) (v : Int32) : pI (pm y P Q) 72 j v = pm y P (upd Q j v) := by
  unfold pm pI wI gI
  refine Prod.ext (funext fun b => ?_) rfl
  by_cases h1 : b = 60
  · subst h1; rfl
  · by_cases h2 : b = 72
    · subst h2; rfl
    · simp only [if_neg h1, if_neg h2]
theorem pm_P (y : MS) (P Q : Nat → Int32) (j : Nat) (v : Int32) : pI (pm y P Q) 60 j v = pm y (upd P j v) Q := pI_wI _ _ _ _ _
/-- whether t may sit on the day D, by the seats P -/
def siB (m : Nat) (u : Int32) (K A T W P : Nat → Int32) (D t : Nat) : Bool := (decide (t / 8 < t % 8) && decide (t % 8 < m)) && ((!kbt (A (t / 8)) D && !kbt (A (t % 8)) D) && decide (brN u K A T W (upd (upd P (4 * D) (nI (t / 8))) (4 * D + 1) (nI (t % 8))) D = 0))
theorem sits_m (y : MS) {m : Nat} {u : Int32} {K A T W S O : Nat → Int32} (hm8 : m ≤ 8) (hm : HM y (nI m) u K A T W S O) {D t : Nat} (hD : D < 10) (ht : t < 64) (P Q : Nat → Int32) (hP : ∀ i, i < 40 → P i = -1 ∨ lt (P i) m) : ∃ P2, (P2 = P ∨ P2 = upd (upd P (4 * D) (nI (t / 8))) (4 * D + 1) (nI (t % 8))) ∧ (∀ i, i < 40 → P2 i = -1 ∨ lt (P2 i) m) ∧ (siB m u K A T W P D t = true → P2 = upd (upd P (4 * D) (nI (t / 8))) (4 * D + 1) (nI (t % 8))) ∧ fM_sits (pm y P Q) (nI D) (nI t) = some (if siB m u K A T W P D t then 1 else 0, pm y P2 Q) := by
  have e58 : gI y 58 = A := hm.2.2.2.2.1
  have hp8 : t / 8 < 8 := by omega
  have hq8 : t % 8 < 8 := by omega
  have hA : ∀ p, p < 8 → lt (gI (pm y P Q) 58 p) 1024 := by
    show ∀ p, p < 8 → lt (gI y 58 p) 1024
    rw [e58]; exact hm.1.2.2.2.2.2.1
  have hper : fM_isPerson (pm y P Q) (nI (t % 8)) = if t % 8 < m then 1 else 0 := by
    show fM_in (nI (t % 8)) 0 (gI y 56 0 - 1) = _
    rw [hm.2.1]
    exact isP_m _ hq8 m (by omega)
  have aw1 : fM_isAway (pm y P Q) (nI (t / 8)) (nI D) = some (if kbt (A (t / 8)) D then 1 else 0) := by
    have := isAway_m hA hp8 hD
    rw [this]
    show some (if kbt (gI y 58 (t / 8)) D = true then (1 : Int32) else 0) = _
    rw [e58]
  have aw2 : fM_isAway (pm y P Q) (nI (t % 8)) (nI D) = some (if kbt (A (t % 8)) D then 1 else 0) := by
    have := isAway_m hA hq8 hD
    rw [this]
    show some (if kbt (gI y 58 (t % 8)) D = true then (1 : Int32) else 0) = _
    rw [e58]
  have stay : siB m u K A T W P D t = false → ∃ P2, (P2 = P ∨ P2 = upd (upd P (4 * D) (nI (t / 8))) (4 * D + 1) (nI (t % 8))) ∧ (∀ i, i < 40 → P2 i = -1 ∨ lt (P2 i) m) ∧ (siB m u K A T W P D t = true → P2 = upd (upd P (4 * D) (nI (t / 8))) (4 * D + 1) (nI (t % 8))) ∧ some ((0 : Int32), pm y P Q) = some (if siB m u K A T W P D t then 1 else 0, pm y P2 Q) := by
    intro hs
    exact ⟨P, Or.inl rfl, hP, fun h => (by rw [hs] at h; cases h), by rw [hs, if_neg ftn]⟩
  unfold fM_sits
  rw [(div8 ht).1, (div8 ht).2, hper, aw1, obs, aw2, obs]
  by_cases c1 : t % 8 ≤ t / 8
  · rw [if_pos (nI_le c1 (by omega))]
    exact stay (by unfold siB; rw [decide_eq_false (show ¬ t / 8 < t % 8 by omega), Bool.false_and, Bool.false_and])
  · rw [if_neg (nI_ge (by omega) (by omega))]
    by_cases c2 : t % 8 < m
    · rw [if_pos c2, if_neg one_ne]
      cases c3 : kbt (A (t / 8)) D with
      | true =>
        rw [if_neg (show ¬ (if true = true then (1 : Int32) else 0) = 0 from one_ne)]
        exact stay (by unfold siB; rw [c3]; simp)
      | false =>
        rw [if_pos (show (if false = true then (1 : Int32) else 0) = 0 from rfl)]
        cases c4 : kbt (A (t % 8)) D with
        | true =>
          rw [if_neg (show ¬ (if true = true then (1 : Int32) else 0) = 0 from one_ne)]
          exact stay (by unfold siB; rw [c4]; simp)
        | false =>
          rw [if_pos (show (if false = true then (1 : Int32) else 0) = 0 from rfl)]
          have tD : (4 * nI D : Int32) = nI (4 * D) := by rw [show (4 : Int32) = nI 4 from rfl, pk_mul]
          have hP2 : ∀ i, i < 40 → upd (upd P (4 * D) (nI (t / 8))) (4 * D + 1) (nI (t % 8)) i = -1 ∨ lt (upd (upd P (4 * D) (nI (t / 8))) (4 * D + 1) (nI (t % 8)) i) m := by
            intro i hi
            rw [upd_a]
            by_cases d1 : i = 4 * D + 1
            · rw [if_pos d1]; exact Or.inr (lt_nI c2 (by omega))
            · rw [if_neg d1, upd_a]
              by_cases d2 : i = 4 * D
              · rw [if_pos d2]; exact Or.inr (lt_nI (by omega) (by omega))
              · rw [if_neg d2]; exact hP i hi
          have hM2 : HM (pm y (upd (upd P (4 * D) (nI (t / 8))) (4 * D + 1) (nI (t % 8))) Q) (nI m) u K A T W (upd (upd P (4 * D) (nI (t / 8))) (4 * D + 1) (nI (t % 8))) O := ⟨HV_S hm.1 (by rw [cl_nI (by omega)]; exact hP2), hm.2.1, hm.2.2.1, hm.2.2.2.1, hm.2.2.2.2.1, hm.2.2.2.2.2.1, rfl, hm.2.2.2.2.2.2.2⟩
          have hbr := brokenOn_m hM2 hD
          have hbl := brN_lt u K A T W (upd (upd P (4 * D) (nI (t / 8))) (4 * D + 1) (nI (t % 8))) D
          rw [tD, nI_s, if_neg (ix_ok (show 4 * D < 40 by omega) (by omega)), if_neg (ix_ok (show 4 * D + 1 < 40 by omega) (by omega)), nI_clamp (show 4 * D < 2 ^ 31 by omega), nI_clamp (show 4 * D + 1 < 2 ^ 31 by omega), pm_P, pm_P, hbr, obs]
          have hsi : siB m u K A T W P D t = decide (brN u K A T W (upd (upd P (4 * D) (nI (t / 8))) (4 * D + 1) (nI (t % 8))) D = 0) := by
            unfold siB
            rw [decide_eq_true (show t / 8 < t % 8 by omega), decide_eq_true c2, c3, c4]
            rfl
          refine ⟨_, Or.inr rfl, hP2, fun _ => rfl, ?_⟩
          rw [hsi]
          by_cases c5 : brN u K A T W (upd (upd P (4 * D) (nI (t / 8))) (4 * D + 1) (nI (t % 8))) D = 0
          · rw [c5, if_pos (show nI 0 = 0 from rfl)]; rfl
          · rw [if_neg (show ¬ nI (brN u K A T W (upd (upd P (4 * D) (nI (t / 8))) (4 * D + 1) (nI (t % 8))) D) = 0 from nI_ne (b := 0) c5 (by omega) (by omega)), decide_eq_false c5]
            rfl
    · rw [if_neg c2, if_pos rfl]
      exact stay (by unfold siB; rw [decide_eq_false c2]; simp)
/-- the seats P are those chosen, but at the till from the k-th day on -/
def agA (S : Nat → Int32) (f n k : Nat) (ch : Nat → Nat) (P : Nat → Int32) : Prop := ∀ i, (∀ j, k ≤ j → j < n → i ≠ 4 * (f + j) ∧ i ≠ 4 * (f + j) + 1) → P i = GS S f ch k i
theorem si_ok {m : Nat} {u : Int32} {K A T W S P : Nat → Int32} {f n k : Nat} {ch : Nat → Nat} (hP : agA S f n k ch P) (hk : k < n) (t : Nat) : siB m u K A T W P (f + k) t = okA m u K A T W S f k ch t := by
  unfold siB okA
  rw [brN_cong u K A T W (S := upd (upd (GS S f ch k) (4 * (f + k)) (nI (t / 8))) (4 * (f + k) + 1) (nI (t % 8))) (fun i hi => ?_)]
  simp only [upd_a]
  by_cases c1 : i = 4 * (f + k) + 1
  · rw [if_pos c1, if_pos c1]
  · rw [if_neg c1, if_neg c1]
    by_cases c2 : i = 4 * (f + k)
    · rw [if_pos c2, if_pos c2]
    · rw [if_neg c2, if_neg c2]
      exact hP i (fun j h1 h2 => ⟨by omega, by omega⟩)
def Fb : Nat → Nat
  | 0 => 0
  | r + 1 => 65 + 64 * Fb r
theorem odo (y : MS) {m : Nat} {u : Int32} {K A T W S O : Nat → Int32} (hm8 : m ≤ 8) (hm : HM y (nI m) u K A T W S O) {f n : Nat} (hn : n ≤ 3) (hf : f + n ≤ 10) :
    ∀ (r k : Nat) (ch : Nat → Nat), k + r + 1 = n → ∀ (e t M0 a : Nat) (P Q : Nat → Int32), t + e = 64 → e + 1 + e * Fb r < a → agA S f n k ch P → (∀ i, i < 40 → P i = -1 ∨ lt (P i) m) → Q k = dn t →
      ∃ (a2 : Nat) (P2 Q2 : Nat → Int32), a ≤ a2 + (e + 1 + e * Fb r) ∧ agA S f n k ch P2 ∧ (∀ i, i < 40 → P2 i = -1 ∨ lt (P2 i) m) ∧ (∀ j, j < k → Q2 j = Q j) ∧ fM_ahead_L44 (nI f) (nI n) a (pm y P Q) (nI (M0 + smA (fun t => if okA m u K A T W S f k ch t then cnA (okA m u K A T W S f) r (k + 1) (updN ch k t) else 0) t)) (nI k) = fM_ahead_L44 (nI f) (nI n) a2 (pm y P2 Q2) (nI (M0 + cnA (okA m u K A T W S f) (r + 1) k ch)) (dn k) := by
  intro r
  induction r with
  | zero =>
    intro k ch hk e
    induction e with
    | zero =>
      intro t M0 a P Q ht ha hP hV hQ
      obtain ⟨a, rfl⟩ : ∃ m, a = m + 1 := ⟨a - 1, by omega⟩
      have ht : t = 64 := ht
      subst ht
      have hk3 : k < 3 := by omega
      have g72 : gI (pm y P Q) 72 k = nI 63 := hQ
      refine ⟨a, P, upd Q k (nI 64), by omega, hP, hV, fun j hj => by rw [upd_a, if_neg (by omega)], ?_⟩
      have g72b : gI (pm y P (upd Q k (nI 64))) 72 k = nI 64 := by
        show upd Q k (nI 64) k = _
        rw [upd_a, if_pos rfl]
      rw [fM_ahead_L44, if_neg (nI_pos (by omega)), if_neg (ix_ok hk3 (by omega)), if_neg (ix_ok hk3 (by omega)), if_neg (ix_ok hk3 (by omega)), nI_clamp (show k < 2 ^ 31 by omega), g72, nI_s, pm_Q, show 63 + 1 = 64 from rfl, g72b, if_pos (show nI 64 = 64 from rfl), (dn_s k).1]
      rfl
    | succ e ihe =>
      intro t M0 a P Q ht ha hP hV hQ
      obtain ⟨a, rfl⟩ : ∃ m, a = m + 1 := ⟨a - 1, by omega⟩
      have hk3 : k < 3 := by omega
      have g72 : gI (pm y P Q) 72 k = dn t := hQ
      have edn : dn t + 1 = nI t := by
        cases t with
        | zero => rfl
        | succ t => exact nI_s t
      have g72b : gI (pm y P (upd Q k (nI t))) 72 k = nI t := by
        show upd Q k (nI t) k = _
        rw [upd_a, if_pos rfl]
      obtain ⟨P2, q1, q2, q3, q4⟩ := sits_m y hm8 hm (D := f + k) (t := t) (by omega) (by omega) P (upd Q k (nI t)) hV
      rw [si_ok hP (by omega)] at q3 q4
      have hP2 : agA S f n k ch P2 := by
        rcases q1 with q1 | q1
        · rw [q1]; exact hP
        · rw [q1]
          intro i hi
          rw [upd_a, if_neg (hi k (Nat.le_refl _) (by omega)).2, upd_a, if_neg (hi k (Nat.le_refl _) (by omega)).1]
          exact hP i hi
      have hstart : ∀ l3, fM_ahead_L44 (nI f) (nI n) (a + 1) (pm y P Q) l3 (nI k) = if (if okA m u K A T W S f k ch t = true then (1 : Int32) else 0) = 0 then fM_ahead_L44 (nI f) (nI n) a (pm y P2 (upd Q k (nI t))) l3 (nI k) else fM_ahead_L44 (nI f) (nI n) a (pm y P2 (upd Q k (nI t))) (l3 + 1) (nI k) := by
        intro l3
        rw [fM_ahead_L44, if_neg (nI_pos (by omega)), if_neg (ix_ok hk3 (by omega)), if_neg (ix_ok hk3 (by omega)), if_neg (ix_ok hk3 (by omega)), if_neg (ix_ok hk3 (by omega)), nI_clamp (show k < 2 ^ 31 by omega), g72, edn, pm_Q, g72b, if_neg (show ¬ nI t = 64 from nI_ne (b := 64) (by omega) (by omega) (by omega)), nI_add, q4, ob2s, show (nI n - 1 : Int32) = nI (n - 1) from pk_sub (a := n) (b := 1) (by omega), if_pos (show nI k = nI (n - 1) by rw [show k = n - 1 by omega])]
      have hsm : smA (fun t => if okA m u K A T W S f k ch t then cnA (okA m u K A T W S f) 0 (k + 1) (updN ch k t) else 0) (t + 1) = smA (fun t => if okA m u K A T W S f k ch t then cnA (okA m u K A T W S f) 0 (k + 1) (updN ch k t) else 0) t + (if okA m u K A T W S f k ch t then 1 else 0) := rfl
      obtain ⟨a2, P3, Q3, r1, r2, r3, r4, r5⟩ := ihe (t + 1) M0 a P2 (upd Q k (nI t)) (by omega) (by rw [Fb] at *; omega) hP2 q2 (by rw [upd_a, if_pos rfl]; rfl)
      refine ⟨a2, P3, Q3, by rw [Fb] at *; omega, r2, r3, fun j hj => by rw [r4 j hj, upd_a, if_neg (by omega)], ?_⟩
      rw [hstart, ← r5, hsm]
      cases okA m u K A T W S f k ch t with
      | false => rw [if_pos (show (if false = true then (1 : Int32) else 0) = 0 from rfl), if_neg ftn]; rfl
      | true => rw [if_neg (show ¬ (if true = true then (1 : Int32) else 0) = 0 from one_ne), if_pos rfl, nI_s, Nat.add_assoc]
  | succ r ih =>
    intro k ch hk e
    induction e with
    | zero =>
      intro t M0 a P Q ht ha hP hV hQ
      obtain ⟨a, rfl⟩ : ∃ m, a = m + 1 := ⟨a - 1, by omega⟩
      have ht : t = 64 := ht
      subst ht
      have hk3 : k < 3 := by omega
      have g72 : gI (pm y P Q) 72 k = nI 63 := hQ
      refine ⟨a, P, upd Q k (nI 64), by omega, hP, hV, fun j hj => by rw [upd_a, if_neg (by omega)], ?_⟩
      have g72b : gI (pm y P (upd Q k (nI 64))) 72 k = nI 64 := by
        show upd Q k (nI 64) k = _
        rw [upd_a, if_pos rfl]
      rw [fM_ahead_L44, if_neg (nI_pos (by omega)), if_neg (ix_ok hk3 (by omega)), if_neg (ix_ok hk3 (by omega)), if_neg (ix_ok hk3 (by omega)), nI_clamp (show k < 2 ^ 31 by omega), g72, nI_s, pm_Q, show 63 + 1 = 64 from rfl, g72b, if_pos (show nI 64 = 64 from rfl), (dn_s k).1]
      rfl
    | succ e ihe =>
      intro t M0 a P Q ht ha hP hV hQ
      obtain ⟨a, rfl⟩ : ∃ m, a = m + 1 := ⟨a - 1, by omega⟩
      have hk3 : k < 3 := by omega
      have hk3' : k + 1 < 3 := by omega
      have g72 : gI (pm y P Q) 72 k = dn t := hQ
      have edn : dn t + 1 = nI t := by
        cases t with
        | zero => rfl
        | succ t => exact nI_s t
      have g72b : gI (pm y P (upd Q k (nI t))) 72 k = nI t := by
        show upd Q k (nI t) k = _
        rw [upd_a, if_pos rfl]
      have hmul : (e + 1) * Fb (r + 1) = e * Fb (r + 1) + Fb (r + 1) := by rw [Nat.add_mul, Nat.one_mul]
      have hFb : Fb (r + 1) = 65 + 64 * Fb r := rfl
      obtain ⟨P2, q1, q2, q3, q4⟩ := sits_m y hm8 hm (D := f + k) (t := t) (by omega) (by omega) P (upd Q k (nI t)) hV
      rw [si_ok hP (by omega)] at q3 q4
      have hP2 : agA S f n k ch P2 := by
        rcases q1 with q1 | q1
        · rw [q1]; exact hP
        · rw [q1]
          intro i hi
          rw [upd_a, if_neg (hi k (Nat.le_refl _) (by omega)).2, upd_a, if_neg (hi k (Nat.le_refl _) (by omega)).1]
          exact hP i hi
      have hstart : ∀ l3, fM_ahead_L44 (nI f) (nI n) (a + 1) (pm y P Q) l3 (nI k) = if (if okA m u K A T W S f k ch t = true then (1 : Int32) else 0) = 0 then fM_ahead_L44 (nI f) (nI n) a (pm y P2 (upd Q k (nI t))) l3 (nI k) else fM_ahead_L44 (nI f) (nI n) a (pm y P2 (upd (upd Q k (nI t)) (k + 1) (-1))) l3 (nI (k + 1)) := by
        intro l3
        rw [fM_ahead_L44, if_neg (nI_pos (by omega)), if_neg (ix_ok hk3 (by omega)), if_neg (ix_ok hk3 (by omega)), if_neg (ix_ok hk3 (by omega)), if_neg (ix_ok hk3 (by omega)), nI_clamp (show k < 2 ^ 31 by omega), g72, edn, pm_Q, g72b, if_neg (show ¬ nI t = 64 from nI_ne (b := 64) (by omega) (by omega) (by omega)), nI_add, q4, ob2s, show (nI n - 1 : Int32) = nI (n - 1) from pk_sub (a := n) (b := 1) (by omega), if_neg (show ¬ nI k = nI (n - 1) from nI_ne (by omega) (by omega) (by omega)), nI_s, if_neg (ix_ok hk3' (by omega)), nI_clamp (show k + 1 < 2 ^ 31 by omega), pm_Q]
      have hsm : smA (fun t => if okA m u K A T W S f k ch t then cnA (okA m u K A T W S f) (r + 1) (k + 1) (updN ch k t) else 0) (t + 1) = smA (fun t => if okA m u K A T W S f k ch t then cnA (okA m u K A T W S f) (r + 1) (k + 1) (updN ch k t) else 0) t + (if okA m u K A T W S f k ch t then cnA (okA m u K A T W S f) (r + 1) (k + 1) (updN ch k t) else 0) := rfl
      cases ho : okA m u K A T W S f k ch t with
      | false =>
        rw [ho, if_neg ftn] at hsm
        obtain ⟨a2, P3, Q3, r1, r2, r3, r4, r5⟩ := ihe (t + 1) M0 a P2 (upd Q k (nI t)) (by omega) (by omega) hP2 q2 (by rw [upd_a, if_pos rfl]; rfl)
        refine ⟨a2, P3, Q3, by omega, r2, r3, fun j hj => by rw [r4 j hj, upd_a, if_neg (by omega)], ?_⟩
        rw [hstart, ← r5, hsm, ho, if_pos (show (if false = true then (1 : Int32) else 0) = 0 from rfl)]
        rfl
      | true =>
        rw [ho, if_pos rfl] at hsm
        have hPe := q3 ho
        have hg1 : GS S f (updN ch k t) k = GS S f ch k := GS_cong S f k (fun j hj => by unfold updN; rw [if_neg (by omega)])
        have hP2' : agA S f n (k + 1) (updN ch k t) P2 := by
          intro i hi
          rw [hPe, GS, hg1, show updN ch k t k = t from if_pos rfl]
          simp only [upd_a]
          by_cases c1 : i = 4 * (f + k) + 1
          · rw [if_pos c1, if_pos c1]
          · rw [if_neg c1, if_neg c1]
            by_cases c2 : i = 4 * (f + k)
            · rw [if_pos c2, if_pos c2]
            · rw [if_neg c2, if_neg c2]
              refine hP i (fun j h1 h2 => ?_)
              by_cases c3 : j = k
              · subst c3; exact ⟨c2, c1⟩
              · exact hi j (by omega) h2
        obtain ⟨a2, P3, Q3, r1, r2, r3, r4, r5⟩ := ih (k + 1) (updN ch k t) (by omega) 64 0 (M0 + smA (fun t => if okA m u K A T W S f k ch t then cnA (okA m u K A T W S f) (r + 1) (k + 1) (updN ch k t) else 0) t) a P2 (upd (upd Q k (nI t)) (k + 1) (-1)) rfl (by omega) hP2' q2 (by rw [upd_a, if_pos rfl]; rfl)
        have hP3 : agA S f n k ch P3 := by
          intro i hi
          have h9 := hi k (Nat.le_refl _) (by omega)
          rw [r2 i (fun j h1 h2 => hi j (by omega) h2), GS, hg1, upd_a, if_neg h9.2, upd_a, if_neg h9.1]
        obtain ⟨a3, P4, Q4, s1, s2, s3, s4, s5⟩ := ihe (t + 1) M0 a2 P3 Q3 (by omega) (by omega) hP3 r3 (by
          rw [r4 k (by omega), upd_a, if_neg (by omega), upd_a, if_pos rfl]
          rfl)
        refine ⟨a3, P4, Q4, by omega, s2, s3, ?_, ?_⟩
        · intro j hj
          rw [s4 j hj, r4 j (by omega), upd_a, if_neg (by omega), upd_a, if_neg (by omega)]
        · rw [hstart, ← s5, hsm, ho, if_neg (show ¬ (if true = true then (1 : Int32) else 0) = 0 from one_ne), ← Nat.add_assoc]
          exact r5
theorem RR_same2 {z y : MS} (h : RR z z) (hk : ∀ k, k < 19 ∨ (25 < k ∧ k < 70) ∨ 74 < k → gI y k = gI z k) (hJ : gJ y 79 = gJ z 79) : RR y y := by
  unfold RR RH RP RT RO RS RV RA RK RC
  rw [hJ, hk 0 (by omega), hk 1 (by omega), hk 2 (by omega), hk 3 (by omega), hk 4 (by omega), hk 5 (by omega), hk 6 (by omega), hk 7 (by omega), hk 8 (by omega), hk 9 (by omega), hk 26 (by omega), hk 27 (by omega), hk 28 (by omega), hk 30 (by omega), hk 31 (by omega), hk 32 (by omega), hk 33 (by omega), hk 35 (by omega), hk 36 (by omega), hk 38 (by omega), hk 39 (by omega), hk 40 (by omega), hk 41 (by omega), hk 42 (by omega), hk 43 (by omega), hk 44 (by omega), hk 45 (by omega), hk 46 (by omega), hk 47 (by omega), hk 48 (by omega), hk 49 (by omega), hk 50 (by omega), hk 51 (by omega), hk 52 (by omega), hk 53 (by omega), hk 54 (by omega), hk 56 (by omega), hk 57 (by omega), hk 58 (by omega), hk 59 (by omega), hk 60 (by omega), hk 61 (by omega), hk 62 (by omega), hk 63 (by omega), hk 64 (by omega), hk 65 (by omega), hk 75 (by omega), hk 77 (by omega), hk 78 (by omega), hk 80 (by omega), hk 81 (by omega), hk 82 (by omega), hk 83 (by omega), hk 84 (by omega)]
  exact h
theorem o_ahead (z : MS) (h : RR z z) (a0 a1 : Int32) : O2 (fT_ahead · a0 a1) (fM_ahead · a0 a1) z := by
  by_cases h0 : ∃ d, d < 10 ∧ a0 = nI d
  · obtain ⟨f, hf, rfl⟩ := h0
    by_cases h1 : ∃ n, 0 < n ∧ n < 4 ∧ a1 = nI n
    · obtain ⟨n, hn0, hn, rfl⟩ := h1
      have c1 : ¬ nI n < 1 := nI_nlt (b := 1) (by omega) (by omega)
      have c2 : ¬ (3 : Int32) < nI n := nI_nlt (a := 3) (by omega) (by omega)
      have c3 : fM_in (nI n) 1 3 = 1 := by unfold fM_in; rw [if_neg c1, if_neg c2]
      by_cases c4 : f + n ≤ 10
      · have c4' : nI f + nI n ≤ 10 := by rw [nI_add]; exact nI_le (b := 10) c4 (by omega)
        obtain ⟨m, hm, m1, m2, m3⟩ := RR_n h
        obtain ⟨B, hB, hD, hC⟩ := ah2 z h.1.1 hm m1 (show n ≤ 3 by omega) c4
        obtain ⟨H2, -, hcn⟩ := count_c h.1.1 hm m1 (show n ≤ 3 by omega) c4 hB hD n 0 6 (fun _ => 0) (gI B 25) (by omega) (by omega) (fun j hj => by omega) (fun j hj => by omega)
        have haz : az B (gI B 25) = B := wI_self _ _
        rw [haz] at hcn
        have hz1 : ∀ k, k < 19 ∨ (25 < k) → gI (az B H2) k = gI z k := by
          intro k hk
          show gI (wI B 25 H2) k = _
          rw [gI_wI', if_neg (by omega)]
          exact hB.1 k (by omega) (by omega) (by omega) (by omega)
        have hJ1 : gJ (az B H2) 79 = gJ z 79 := hB.2 79
        generalize hz : az B H2 = z1 at *
        have e60 : gI z1 60 = gI z 6 := (hz1 60 (by omega)).trans h.1.2.2.2.2.2.2.1
        have hmz : HM z1 (nI m) (gI z 1 1) (gI z 2) (gI z 3) (gI z 4) (gI z 5) (gI z 6) (gI z 7) := by
          have := RR_HM h
          rw [m1] at this
          unfold HM at *
          rw [hz1 59 (by omega), hz1 56 (by omega), hz1 57 (by omega), hz1 58 (by omega), hz1 62 (by omega), hz1 60 (by omega), hz1 61 (by omega)]
          exact this
        have hk := keeps_m z1 (d := f) (m := n) (by omega) c4
        generalize hF : fa_fill (fun k => gI z1 60 (4 * f + k)) (gI z1 70) (4 * n) = F70 at *
        have hmy : HM (wI z1 70 F70) (nI m) (gI z 1 1) (gI z 2) (gI z 3) (gI z 4) (gI z 5) (gI z 6) (gI z 7) := hmz
        have hst : pI (wI z1 70 F70) 72 0 (-1) = pm (wI z1 70 F70) (gI z 6) (upd (gI z1 72) 0 (-1)) := by
          unfold pm
          rw [wI_same (wI (wI z1 70 F70) 72 (upd (gI z1 72) 0 (-1))) 60 (gI z 6) e60]
          rfl
        obtain ⟨r, hr⟩ : ∃ r, 0 + r + 1 = n := ⟨n - 1, by omega⟩
        have hFb : ∀ r, r < 3 → 64 + 1 + 64 * Fb r < 999999 := by decide
        obtain ⟨a2, P2, Q2, q1, q2, q3, q4, q5⟩ := odo (wI z1 70 F70) hm hmy (show n ≤ 3 by omega) c4 r 0 (fun _ => 0) hr 64 0 0 LF (gI z 6) (upd (gI z1 72) 0 (-1)) rfl (by have := hFb r (by omega); unfold LF; omega) (fun i _ => rfl) (fun i hi => by
          have := RR_seat h hi
          rw [m1, cl_nI (by omega)] at this
          exact this) rfl
        obtain ⟨a2, rfl⟩ : ∃ m, a2 = m + 1 := ⟨a2 - 1, by have := hFb r (by omega); unfold LF at q1; omega⟩
        rw [Nat.zero_add, Nat.zero_add, show r + 1 = n by omega] at q5
        have hgv := gives_m (pm (wI z1 70 F70) P2 Q2) (d := f) (m := n) (by omega) c4
        have hback : mvF (gI (pm (wI z1 70 F70) P2 Q2) 70) (gI (pm (wI z1 70 F70) P2 Q2) 60) (4 * f) (4 * n) = gI z 6 := by
          funext i
          by_cases c : 4 * f ≤ i ∧ i < 4 * f + 4 * n
          · rw [mvF_in c]
            show F70 (i - 4 * f) = _
            rw [← hF, fa_fill_in (show i - 4 * f < 4 * n by omega)]
            show gI z1 60 (4 * f + (i - 4 * f)) = _
            rw [e60, show 4 * f + (i - 4 * f) = i by omega]
          · rw [mvF_out c]
            exact q2 i (fun j h1 h2 => ⟨by omega, by omega⟩)
        rw [hback] at hgv
        refine ⟨nI (cnA (okA m (gI z 1 1) (gI z 2) (gI z 3) (gI z 4) (gI z 5) (gI z 6) f) n 0 (fun _ => 0)), z1, wI (pm (wI z1 70 F70) P2 Q2) 60 (gI z 6), ?_, ?_, ?_⟩
        · show fT_ahead z (nI f) (nI n) = _
          unfold fT_ahead
          have hcn' : fWays_countRows 6 B 0 (nI n) = _ := hcn
          rw [(day_yes hf).1, if_neg one_ne, if_neg c1, if_neg c2, if_pos c4', hC, ob2_eta, ob2_eta, hcn']
        · show fM_ahead z1 (nI f) (nI n) = _
          unfold fM_ahead
          have q5' : fM_ahead_L44 (nI f) (nI n) LF (pm (wI z1 70 F70) (gI z 6) (upd (gI z1 72) 0 (-1))) 0 0 = _ := q5
          rw [(day_yes hf).2, if_neg one_ne, c3, if_neg one_ne, if_pos c4', hk, obs, hst, q5', fM_ahead_L44, if_pos (show dn 0 < 0 by decide), hgv, obs, Nat.zero_add (cnA _ _ _ _)]
        · refine RR_same2 h ?_ hJ1
          intro k hk
          by_cases c : k = 60
          · subst c
            rw [gI_wIk]
            exact h.1.2.2.2.2.2.2.1.symm
          · rw [gI_wI', if_neg c]
            show gI (wI (wI (wI z1 70 F70) 72 Q2) 60 P2) k = _
            rw [gI_wI', if_neg c, gI_wI', if_neg (by omega), gI_wI', if_neg (by omega)]
            exact hz1 k (by omega)
      · have c4' : ¬ nI f + nI n ≤ 10 := by rw [nI_add]; exact nI_ge (a := 10) (by omega) (by omega)
        exact same2 (-1) h (by show fT_ahead z (nI f) (nI n) = _; unfold fT_ahead; rw [(day_yes hf).1, if_neg one_ne, if_neg c1, if_neg c2, if_neg c4']) (by show fM_ahead z (nI f) (nI n) = _; unfold fM_ahead; rw [(day_yes hf).2, if_neg one_ne, c3, if_neg one_ne, if_neg c4'])
    · have hb : a1 < 1 ∨ (¬ a1 < 1 ∧ (3 : Int32) < a1) := by
        rcases ag a1 3 (by omega) with ⟨h2, -⟩ | ⟨h2, h3, h4, h5, h6⟩ | ⟨i, hi, rfl⟩
        · exact Or.inl (Int32.lt_trans h2 (by decide))
        · exact Or.inr ⟨fun h7 => h5 (Int32.le_of_lt (Int32.lt_trans h7 (by decide))), h4⟩
        · have : i = 0 := Classical.byContradiction fun e => h1 ⟨i, by omega, by omega, rfl⟩
          subst this
          exact Or.inl (by decide)
      rcases hb with hb | ⟨hb, hb2⟩
      · exact same2 (-1) h (by show fT_ahead z (nI f) a1 = _; unfold fT_ahead; rw [(day_yes hf).1, if_neg one_ne, if_pos hb]) (by show fM_ahead z (nI f) a1 = _; unfold fM_ahead; rw [(day_yes hf).2, if_neg one_ne, in_lo hb, if_pos rfl])
      · exact same2 (-1) h (by show fT_ahead z (nI f) a1 = _; unfold fT_ahead; rw [(day_yes hf).1, if_neg one_ne, if_neg hb, if_pos hb2]) (by show fM_ahead z (nI f) a1 = _; unfold fM_ahead; rw [(day_yes hf).2, if_neg one_ne, in_hi hb2, if_pos rfl])
  · exact same2 (-1) h (by show fT_ahead z a0 a1 = _; unfold fT_ahead; rw [(day_no h0).1, if_pos rfl]) (by show fM_ahead z a0 a1 = _; unfold fM_ahead; rw [(day_no h0).2, if_pos rfl])
