theorem ftn : ¬ (false = true) := Bool.false_ne_true
/-- trust after one more day -/
def stp (fd : Nat) (b : Bool) (t : Nat) : Nat := if b then (if t < 9 then t + 1 else 9) else t - fd
/-- trust of the pair k after d days, from t -/
def trS (fd k : Nat) (S : Nat → Int32) (t : Nat) : Nat → Nat
  | 0 => t
  | d + 1 => stp fd (decide (prN S d = k)) (trS fd k S t d)
theorem stp_lt {fd t : Nat} {b : Bool} (h : t < 10) : stp fd b t < 10 := by
  unfold stp
  cases b with
  | true => rw [if_pos rfl]; by_cases c : t < 9
            · rw [if_pos c]; omega
            · rw [if_neg c]; omega
  | false => rw [if_neg ftn]; omega
theorem trS_lt {fd k : Nat} {S : Nat → Int32} {t : Nat} (h : t < 10) (d : Nat) : trS fd k S t d < 10 := by
  induction d with
  | zero => exact h
  | succ d ih => exact stp_lt ih
theorem trustAfter_c {c : MS} {fd t : Nat} (hf : gI c 5 5 = nI fd) (hfd : fd < 4) (ht : t < 10) (b : Bool) : fJudge_trustAfter c (nI t) (if b then 1 else 0) = nI (stp fd b t) := by
  unfold fJudge_trustAfter stp mxI mnI
  rw [hf]
  cases b with
  | true =>
    rw [if_neg (show ¬ (if true = true then (1 : Int32) else 0) = 0 from one_ne), if_pos rfl, nI_s]
    by_cases c : t < 9
    · rw [if_pos c, if_neg (show ¬ (9 : Int32) < nI (t + 1) from nI_nlt (a := 9) (b := t + 1) (by omega) (by omega))]
    · rw [if_neg c, if_pos (show (9 : Int32) < nI (t + 1) from nI_lt (a := 9) (by omega) (by omega))]
      rfl
  | false =>
    rw [if_pos (show (if false = true then (1 : Int32) else 0) = 0 from rfl), if_neg ftn]
    by_cases c : fd ≤ t
    · rw [pk_sub c, if_neg (nI_pos (by omega))]
    · rw [show t - fd = 0 by omega]
      have h1 : nI t - nI fd < 0 := by
        have : ∀ t fd, t < 10 → fd < 4 → t < fd → nI t - nI fd < 0 := by
          intro t fd _ h2 h3
          rcases (show fd = 1 ∨ fd = 2 ∨ fd = 3 by omega) with rfl | rfl | rfl
          · rcases (show t = 0 by omega) with rfl; decide
          · rcases (show t = 0 ∨ t = 1 by omega) with rfl | rfl <;> decide
          · rcases (show t = 0 ∨ t = 1 ∨ t = 2 by omega) with rfl | rfl | rfl <;> decide
        exact this t fd ht hfd (by omega)
      rw [if_pos h1]
      rfl
theorem trustOf_c {c : MS} {k : Nat} (hS : SO (gI c 6)) (hk : k < 64) {fd t : Nat} (hf : gI c 5 5 = nI fd) (hfd : fd < 4) (ht : t < 10) (hT : gI c 4 k = nI t) {d : Nat} (hd : d ≤ 10) :
    fJudge_trustOfPair c (nI k) (nI d) = some (nI (trS fd k (gI c 6) t d)) := by
  have key : ∀ (e i n : Nat), i + e = d → e < n → fJudge_trustOfPair_L13 c (nI k) (nI d) n (nI (trS fd k (gI c 6) t i)) (nI i) = some (nI (trS fd k (gI c 6) t d)) := by
    intro e
    induction e with
    | zero =>
      intro i n hi hn
      obtain ⟨n, rfl⟩ : ∃ m, n = m + 1 := ⟨n - 1, by omega⟩
      have hi : i = d := hi
      subst hi
      rw [fJudge_trustOfPair_L13, if_pos (Int32.le_refl _)]
    | succ e ih =>
      intro i n hi hn
      obtain ⟨n, rfl⟩ : ∃ m, n = m + 1 := ⟨n - 1, by omega⟩
      rw [fJudge_trustOfPair_L13, if_neg (nI_ge (by omega) (by omega)), pairOn_c hS (show i < 10 by omega), Option.bind]
      unfold fJudge_trustOfPair_J39
      have hl := trS_lt (fd := fd) (k := k) (S := gI c 6) ht i
      have h1 := trustAfter_c hf hfd hl (decide (prN (gI c 6) i = k))
      rw [nI_s]
      by_cases q : prN (gI c 6) i = k
      · rw [if_pos ((o64_eq (prN_le hS (by omega)) hk).mpr q)]
        rw [decide_eq_true q] at h1
        rw [show fJudge_trustAfter c (nI (trS fd k (gI c 6) t i)) 1 = nI (trS fd k (gI c 6) t (i + 1)) from h1.trans (by rw [trS, decide_eq_true q])]
        exact ih (i + 1) n (by omega) (by omega)
      · rw [if_neg (fun e => q ((o64_eq (prN_le hS (by omega)) hk).mp e))]
        rw [decide_eq_false q] at h1
        rw [show fJudge_trustAfter c (nI (trS fd k (gI c 6) t i)) 0 = nI (trS fd k (gI c 6) t (i + 1)) from h1.trans (by rw [trS, decide_eq_false q])]
        exact ih (i + 1) n (by omega) (by omega)
  unfold fJudge_trustOfPair
  rw [if_neg (ix_ok hk (by omega)), nI_clamp (by omega), hT]
  exact key d 0 LF (by omega) (by unfold LF; omega)
theorem trustOf_m {m : MS} {p q : Nat} (hS : SO (gI m 60)) (hp : p < 8) (hq : q < 8) {fd t : Nat} (hf : gI m 62 5 = nI fd) (hfd : fd < 4) (ht : t < 10) (hT : gI m 59 (8 * p + q) = nI t) {d : Nat} (hd : d ≤ 10) :
    fM_trustOf m (nI p) (nI q) (nI d) = some (nI (trS fd (pr p q) (gI m 60) t d)) := by
  have hk := pr_64 hp hq
  have key : ∀ (e i n : Nat), i + e = d → e < n → fM_trustOf_L16 m (nI p) (nI q) (nI d) n (nI (trS fd (pr p q) (gI m 60) t i)) (nI i) = some (nI (trS fd (pr p q) (gI m 60) t d)) := by
    intro e
    induction e with
    | zero =>
      intro i n hi hn
      obtain ⟨n, rfl⟩ : ∃ m, n = m + 1 := ⟨n - 1, by omega⟩
      have hi : i = d := hi
      subst hi
      rw [fM_trustOf_L16, if_pos (Int32.le_refl _)]
    | succ e ih =>
      intro i n hi hn
      obtain ⟨n, rfl⟩ : ∃ m, n = m + 1 := ⟨n - 1, by omega⟩
      rw [fM_trustOf_L16, if_neg (nI_ge (by omega) (by omega)), twoOn_m hS (show i < 10 by omega), Option.bind, pair_m hp hq]
      have hl := trS_lt (fd := fd) (k := pr p q) (S := gI m 60) ht i
      have hn := ih (i + 1) n (by omega) (by omega)
      rw [nI_s, nI_s, hf]
      by_cases c : prN (gI m 60) i = pr p q
      · rw [if_pos ((o64_eq (prN_le hS (by omega)) hk).mpr c)]
        rw [trS, decide_eq_true c, stp, if_pos rfl] at hn
        by_cases c2 : trS fd (pr p q) (gI m 60) t i < 9
        · rw [if_pos c2] at hn
          rw [if_neg (show ¬ (9 : Int32) ≤ nI (trS fd (pr p q) (gI m 60) t i) from nI_ge (b := 9) c2 (by omega))]
          exact hn
        · rw [if_neg c2] at hn
          rw [if_pos (show (9 : Int32) ≤ nI (trS fd (pr p q) (gI m 60) t i) from nI_le (a := 9) (by omega) (by omega))]
          exact hn
      · rw [if_neg (fun e => c ((o64_eq (prN_le hS (by omega)) hk).mp e))]
        rw [trS, decide_eq_false c, stp, if_neg ftn] at hn
        by_cases c2 : trS fd (pr p q) (gI m 60) t i ≤ fd
        · rw [show trS fd (pr p q) (gI m 60) t i - fd = 0 by omega] at hn
          rw [if_pos (nI_le c2 (by omega))]
          exact hn
        · rw [if_neg (nI_ge (by omega) (by omega)), pk_sub (by omega)]
          exact hn
  unfold fM_trustOf
  rw [show (8 * nI p + nI q : Int32) = nI (8 * p + q) by rw [show (8 : Int32) = nI 8 from rfl, pk_mul, nI_add], if_neg (ix_ok (show 8 * p + q < 64 by omega) (by omega)), nI_clamp (by omega), hT]
  exact key d 0 LF (by omega) (by unfold LF; omega)
/-- kin of one of the pair k -/
def knB (K : Nat → Int32) (k x : Nat) : Bool := kbt (K (k / 8)) x || kbt (K (k % 8)) x
def adN (K : Nat → Int32) (k s w : Nat) : Nat := if s = 8 then 0 else if knB K k s then 0 else w
def snN (K W : Nat → Int32) (k b c : Nat) (su : Bool) : Nat := min 12 (cl (W 2) + adN K k c (cl (W 3)) + adN K k b (cl (W 4)) + (if su then 6 else 0))
/-- kin, laws as they must be -/
def KO (K W : Nat → Int32) : Prop := (∀ p, p < 8 → lt (K p) 256) ∧ (∀ p q, p < 8 → q < 8 → kbt (K p) q = kbt (K q) p) ∧ (∀ j, j < 8 → lt (W j) (most j + 1))
theorem HV_KO {n u : Int32} {K A T W S O F : Nat → Int32} (h : HV n u K A T W S O F) : KO K W := ⟨h.2.2.1, h.2.2.2.1, h.2.2.2.2.2.2.2.2.1⟩
theorem KO_W {K W : Nat → Int32} (h : KO K W) : ∃ w2 w3 w4, W 2 = nI w2 ∧ W 3 = nI w3 ∧ W 4 = nI w4 ∧ w2 ≤ 12 ∧ w3 ≤ 12 ∧ w4 ≤ 12 ∧ cl (W 2) = w2 ∧ cl (W 3) = w3 ∧ cl (W 4) = w4 := by
  obtain ⟨a, ha, ea, ca⟩ := lt_ex (h.2.2 2 (by omega))
  obtain ⟨b, hb, eb, cb⟩ := lt_ex (h.2.2 3 (by omega))
  obtain ⟨c, hc, ec, cc⟩ := lt_ex (h.2.2 4 (by omega))
  have ha : a < 13 := ha
  have hb : b < 13 := hb
  have hc : c < 13 := hc
  exact ⟨a, b, c, ea, eb, ec, by omega, by omega, by omega, ca, cb, cc⟩
theorem orB {x y : Int32} {q : Nat} (hx : lt x 256) (hy : lt y 256) (hq : q < 8) : (((x ||| y) >>> (nI q &&& 31)) &&& 1) = if (kbt x q || kbt y q) then 1 else 0 := by
  obtain ⟨a, ha, rfl, ca⟩ := lt_ex hx
  obtain ⟨b, hb, rfl, cb⟩ := lt_ex hy
  have h1 : a ||| b < 2 ^ 8 := Nat.or_lt_two_pow ha hb
  rw [fa_or, getB (x := nI (a ||| b)) (m := 256) (lt_nI h1 (by omega)) (by omega) (by omega)]
  unfold kbt
  rw [ca, cb, cl_nI (by omega), Nat.testBit_or]
theorem bool_if0 (b : Bool) : ((if b then (1 : Int32) else 0) = 0) ↔ b = false := by cases b <;> decide
theorem bool_if1 (b : Bool) : ((if b then (1 : Int32) else 0) = 1) ↔ b = true := by cases b <;> decide
theorem mn12 {a : Nat} (ha : a < 100) : mnI (nI a) 12 = nI (min 12 a) := by
  unfold mnI
  by_cases c : 12 < a
  · rw [if_pos (show (12 : Int32) < nI a from nI_lt (a := 12) c (by omega)), Nat.min_eq_left (by omega)]; rfl
  · rw [if_neg (show ¬ (12 : Int32) < nI a from nI_nlt (a := 12) (by omega) (by omega)), Nat.min_eq_right (by omega)]
theorem seenOf_c {c : MS} (hK : KO (gI c 2) (gI c 5)) {k : Nat} (hk : k < 64) {b x : Nat} (hb : b ≤ 8) (hx : x ≤ 8) (su : Bool) :
    fJudge_seenOf c (nI k) (o8 b) (o8 x) (if su then 1 else 0) = some (nI (snN (gI c 2) (gI c 5) k b x su)) := by
  obtain ⟨w2, w3, w4, e2, e3, e4, l2, l3, l4, c2, c3, c4⟩ := KO_W hK
  have hp : k / 8 < 8 := by omega
  have hq : k % 8 < 8 := by omega
  have kp := hK.1 _ hp
  have kq := hK.1 _ hq
  have hJ : ∀ a, a < 60 → ∀ r, r = a + adN (gI c 2) k b w4 + (if su then 6 else 0) → fJudge_seenOf_J66 c (o8 b) (if su then 1 else 0) (gI c 2 (k / 8) ||| gI c 2 (k % 8)) (nI a) = some (nI (min 12 r)) := by
    intro a ha r hr
    subst hr
    have h94 : ∀ a, a < 80 → fJudge_seenOf_J94 c (if su then 1 else 0) (nI a) = some (nI (min 12 (a + (if su then 6 else 0)))) := by
      intro a ha
      unfold fJudge_seenOf_J94 fJudge_seenOf_J102
      cases su with
      | true =>
        rw [if_neg (show ¬ (if true = true then (1 : Int32) else 0) = 0 from one_ne), show nI a + 6 = nI (a + 6) from nI_add a 6, mn12 (by omega)]
        rfl
      | false =>
        rw [if_pos (show (if false = true then (1 : Int32) else 0) = 0 from rfl), mn12 (by omega)]
        rfl
    unfold fJudge_seenOf_J66 adN
    by_cases c1 : b = 8
    · subst c1
      rw [if_pos o8_8, if_pos rfl, h94 a (by omega)]
      rfl
    · have hb8 : b < 8 := by omega
      rw [o8_lt hb8, if_neg (o8_ne hb8).1, if_neg c1, orB kp kq hb8, e4]
      unfold knB
      cases hh : (kbt (gI c 2 (k / 8)) b || kbt (gI c 2 (k % 8)) b) with
      | true =>
        rw [if_neg (show ¬ (if true = true then (1 : Int32) else 0) = 0 from one_ne), h94 a (by omega), if_pos rfl]
        rfl
      | false =>
        rw [if_pos (show (if false = true then (1 : Int32) else 0) = 0 from rfl), nI_add, h94 (a + w4) (by omega), if_neg ftn]
  unfold fJudge_seenOf
  rw [(div8 hk).1, (div8 hk).2, if_neg (ix_ok hp (by omega)), if_neg (ix_ok hq (by omega)), nI_clamp (show k / 8 < 2 ^ 31 by omega), nI_clamp (show k % 8 < 2 ^ 31 by omega)]
  unfold snN
  rw [c2, c3, c4]
  by_cases c1 : x = 8
  · subst c1
    rw [if_pos o8_8, e2, hJ w2 (by omega) _ rfl]
    rw [show adN (gI c 2) k 8 w3 = 0 from if_pos rfl, Nat.add_zero]
  · have hx8 : x < 8 := by omega
    rw [o8_lt hx8, if_neg (o8_ne hx8).1, orB kp kq hx8, e2, e3]
    unfold adN
    rw [if_neg c1]
    cases hh : (kbt (gI c 2 (k / 8)) x || kbt (gI c 2 (k % 8)) x) with
    | true =>
      rw [if_neg (show ¬ (if true = true then (1 : Int32) else 0) = 0 from one_ne), hJ w2 (by omega) _ rfl, show knB (gI c 2) k x = true from hh, if_pos rfl, Nat.add_zero]
      rfl
    | false =>
      rw [if_pos (show (if false = true then (1 : Int32) else 0) = 0 from rfl), nI_add, hJ (w2 + w3) (by omega) _ rfl, show knB (gI c 2) k x = false from hh]
      rw [if_neg ftn]
      rfl
theorem areKin_m {m : MS} (hK : ∀ p, p < 8 → lt (gI m 57 p) 256) {p q : Nat} (hp : p < 8) (hq : q < 8) : fM_areKin m (nI p) (nI q) = some (if kbt (gI m 57 p) q then 1 else 0) := by
  unfold fM_areKin
  rw [if_neg (ix_ok hp (by omega)), nI_clamp (by omega), getB (hK p hp) (by omega) (by omega)]
  cases kbt (gI m 57 p) q <;> rfl
theorem areKin_c {m : MS} (hK : ∀ p, p < 8 → lt (gI m 2 p) 256) {p q : Nat} (hp : p < 8) (hq : q < 8) : fHouse_areKin m (nI p) (nI q) = some (if kbt (gI m 2 p) q then 1 else 0) := by
  unfold fHouse_areKin
  rw [if_neg (ix_ok hp (by omega)), nI_clamp (by omega), getB (hK p hp) (by omega) (by omega)]
  cases kbt (gI m 2 p) q <;> rfl
theorem neither_m {m : MS} (hS : SO (gI m 60)) (hK : KO (gI m 57) (gI m 62)) {d s : Nat} (hd : d < 10) (hs : s < 4) {k : Nat} (hk : k < 64) :
    fM_isNeither m (nI d) (nI s) (nI k) = some (if sv (gI m 60 (4 * d + s)) = 8 then 0 else if knB (gI m 57) k (sv (gI m 60 (4 * d + s))) then 0 else 1) := by
  have hi : 4 * d + s < 40 := by omega
  obtain ⟨e1, h1⟩ := SO_sv hS hi
  have hp : k / 8 < 8 := by omega
  have hq : k % 8 < 8 := by omega
  unfold fM_isNeither
  rw [(sIx hd hs).2, if_neg (ix_ok hi (by omega)), nI_clamp (by omega)]
  by_cases c1 : sv (gI m 60 (4 * d + s)) = 8
  · rw [c1] at e1
    rw [if_pos (show gI m 60 (4 * d + s) < 0 by rw [e1]; decide), if_pos c1]
  · have hx : sv (gI m 60 (4 * d + s)) < 8 := by omega
    rw [o8_lt hx] at e1
    rw [if_neg c1]
    generalize sv (gI m 60 (4 * d + s)) = x at *
    rw [e1, if_neg (o8_ne hx).2.1, if_pos (o8_ne hx).2.2]
    unfold fM_isNeither_J29 fM_isNeither_J51 knB
    rw [(div8 hk).1, (div8 hk).2, areKin_m hK.1 hx hp, areKin_m hK.1 hx hq, Option.bind, hK.2.1 x (k / 8) hx hp, hK.2.1 x (k % 8) hx hq, if_pos (o8_ne hx).2.2]
    cases kbt (gI m 57 (k / 8)) x <;> cases kbt (gI m 57 (k % 8)) x <;> rfl
def snD (K W S : Nat → Int32) (d : Nat) (su : Bool) : Nat := snN K W (prN S d) (sv (S (4 * d + 2))) (sv (S (4 * d + 3))) su
theorem seenBy_m {m : MS} (hS : SO (gI m 60)) (hK : KO (gI m 57) (gI m 62)) {d : Nat} (hd : d < 10) (hk : ¬ prN (gI m 60) d = 64) (su : Bool) :
    fM_seenBy m (nI d) (if su then 1 else 0) = some (nI (snD (gI m 57) (gI m 62) (gI m 60) d su)) := by
  obtain ⟨w2, w3, w4, e2, e3, e4, l2, l3, l4, c2, c3, c4⟩ := KO_W hK
  have hk64 : prN (gI m 60) d < 64 := by have := prN_le hS hd; omega
  have h72 : ∀ a b, a < 60 → b < 20 → fM_seenBy_J72 m (nI a) (nI b) = some (nI (min 12 (a + b))) := by
    intro a b ha hb
    unfold fM_seenBy_J72
    rw [nI_add]
    by_cases c : a + b ≤ 12
    · rw [if_pos (show nI (a + b) ≤ (12 : Int32) from nI_le (b := 12) c (by omega)), Nat.min_eq_right c]
    · rw [if_neg (show ¬ nI (a + b) ≤ (12 : Int32) from nI_ge (a := 12) (by omega) (by omega)), Nat.min_eq_left (by omega)]; rfl
  have h47 : ∀ a b, a < 40 → b < 20 → fM_seenBy_J47 m (nI d) (nI (prN (gI m 60) d)) (nI a) (nI b) = some (nI (min 12 (a + b + adN (gI m 57) (prN (gI m 60) d) (sv (gI m 60 (4 * d + 2))) w4))) := by
    intro a b ha hb
    unfold fM_seenBy_J47
    rw [show fM_isNeither m (nI d) 2 (nI (prN (gI m 60) d)) = _ from neither_m hS hK hd (show 2 < 4 by omega) hk64, Option.bind, nI_add, e4]
    unfold adN
    by_cases c : sv (gI m 60 (4 * d + 2)) = 8
    · rw [if_pos c, if_pos c, if_pos rfl]
      exact h72 (a + b) 0 (by omega) (by omega)
    · rw [if_neg c, if_neg c]
      cases knB (gI m 57) (prN (gI m 60) d) (sv (gI m 60 (4 * d + 2))) with
      | true => exact h72 (a + b) 0 (by omega) (by omega)
      | false => exact h72 (a + b) w4 (by omega) (by omega)
  have h22 : ∀ b, b < 20 → fM_seenBy_J22 m (nI d) (nI (prN (gI m 60) d)) (nI w2) (nI b) = some (nI (min 12 (w2 + b + adN (gI m 57) (prN (gI m 60) d) (sv (gI m 60 (4 * d + 3))) w3 + adN (gI m 57) (prN (gI m 60) d) (sv (gI m 60 (4 * d + 2))) w4))) := by
    intro b hb
    unfold fM_seenBy_J22
    rw [show fM_isNeither m (nI d) 3 (nI (prN (gI m 60) d)) = _ from neither_m hS hK hd (show 3 < 4 by omega) hk64, Option.bind, nI_add, e3]
    rw [show adN (gI m 57) (prN (gI m 60) d) (sv (gI m 60 (4 * d + 3))) w3 = if sv (gI m 60 (4 * d + 3)) = 8 then 0 else if knB (gI m 57) (prN (gI m 60) d) (sv (gI m 60 (4 * d + 3))) then 0 else w3 from rfl]
    by_cases c : sv (gI m 60 (4 * d + 3)) = 8
    · rw [if_pos c, if_pos c, if_pos rfl]
      exact h47 (w2 + b) 0 (by omega) (by omega)
    · rw [if_neg c, if_neg c]
      cases knB (gI m 57) (prN (gI m 60) d) (sv (gI m 60 (4 * d + 3))) with
      | true => exact h47 (w2 + b) 0 (by omega) (by omega)
      | false => exact h47 (w2 + b) w3 (by omega) (by omega)
  unfold fM_seenBy
  rw [twoOn_m hS hd, Option.bind, o64_lt hk64, e2]
  unfold snD snN
  rw [c2, c3, c4]
  cases su with
  | true =>
    rw [if_neg (show ¬ (if true = true then (1 : Int32) else 0) = 0 from one_ne)]
    refine (h22 6 (by omega)).trans ?_
    rw [if_pos rfl]
    congr 3
    omega
  | false =>
    rw [if_pos (show (if false = true then (1 : Int32) else 0) = 0 from rfl)]
    refine (h22 0 (by omega)).trans ?_
    rw [if_neg ftn]
    simp only [Nat.add_zero]
theorem at_c {c : MS} {d s : Nat} (hd : d < 10) (hs : s < 4) : fHouse_at c (nI d) (nI s) = some (gI c 6 (4 * d + s)) := by
  unfold fHouse_at
  rw [(sIx hd hs).1, if_neg (ix_ok (show 4 * d + s < 40 by omega) (by omega)), nI_clamp (by omega)]
theorem hasS_c {c : MS} (hu : lt (gI c 1 1) 1024) {d : Nat} (hd : d < 10) : fHouse_hasSurprise c (nI d) = if kbt (gI c 1 1) d then 1 else 0 := by
  unfold fHouse_hasSurprise
  rw [getB hu (by omega) hd]
  cases kbt (gI c 1 1) d <;> rfl
theorem hasS_m {c : MS} (hu : lt (gI c 56 5) 1024) {d : Nat} (hd : d < 10) : fM_isSurprise c (nI d) = if kbt (gI c 56 5) d then 1 else 0 := by
  unfold fM_isSurprise
  rw [getB hu (by omega) hd]
  cases kbt (gI c 56 5) d <;> rfl
theorem seenIf_c {c : MS} (hS : SO (gI c 6)) (hK : KO (gI c 2) (gI c 5)) {d : Nat} (hd : d < 10) (hk : ¬ prN (gI c 6) d = 64) (su : Bool) :
    Option.bind (fHouse_pairOn c (nI d)) (fun w5 => Option.bind (fHouse_at c (nI d) 2) (fun w17 => Option.bind (fHouse_at c (nI d) 3) (fun w26 => fJudge_seenOf c w5 w17 w26 (if su then 1 else 0)))) = some (nI (snD (gI c 2) (gI c 5) (gI c 6) d su)) := by
  have hk64 : prN (gI c 6) d < 64 := by have := prN_le hS hd; omega
  obtain ⟨e2, h2⟩ := SO_sv hS (show 4 * d + 2 < 40 by omega)
  obtain ⟨e3, h3⟩ := SO_sv hS (show 4 * d + 3 < 40 by omega)
  rw [pairOn_c hS hd, show fHouse_at c (nI d) 2 = _ from at_c hd (show 2 < 4 by omega), show fHouse_at c (nI d) 3 = _ from at_c hd (show 3 < 4 by omega)]
  show fJudge_seenOf c (o64 (prN (gI c 6) d)) (gI c 6 (4 * d + 2)) (gI c 6 (4 * d + 3)) _ = _
  rw [e2, e3, o64_lt hk64]
  exact seenOf_c hK hk64 h2 h3 su
theorem snD_le (K W S : Nat → Int32) (d : Nat) (su : Bool) : snD K W S d su ≤ 12 := Nat.min_le_left _ _
theorem seenOn_c {c : MS} (hS : SO (gI c 6)) (hK : KO (gI c 2) (gI c 5)) (hu : lt (gI c 1 1) 1024) {d : Nat} (hd : d < 10) (hk : ¬ prN (gI c 6) d = 64) :
    fJudge_seenOn c (nI d) = some (nI (snD (gI c 2) (gI c 5) (gI c 6) d (kbt (gI c 1 1) d))) := by
  have h := seenIf_c hS hK hd hk (kbt (gI c 1 1) d)
  unfold fJudge_seenOn
  rw [hasS_c hu hd]
  rw [pairOn_c hS hd, show fHouse_at c (nI d) 2 = _ from at_c hd (show 2 < 4 by omega), show fHouse_at c (nI d) 3 = _ from at_c hd (show 3 < 4 by omega)] at h ⊢
  have h : fJudge_seenOf c (o64 (prN (gI c 6) d)) (gI c 6 (4 * d + 2)) (gI c 6 (4 * d + 3)) (if kbt (gI c 1 1) d then 1 else 0) = _ := h
  show Option.bind (fJudge_seenOf c (o64 (prN (gI c 6) d)) (gI c 6 (4 * d + 2)) (gI c 6 (4 * d + 3)) (if kbt (gI c 1 1) d then 1 else 0)) _ = _
  rw [h]
  rfl
