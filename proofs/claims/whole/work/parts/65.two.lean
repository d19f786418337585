theorem nI_m1 {v : Nat} (hv : v < 1000) : nI v ≠ -1 := by
  intro e
  have h := congrArg Int32.toInt e
  rw [nI_toInt (by omega)] at h
  have h2 : (-1 : Int32).toInt = -1 := by decide
  omega
theorem nn_le {f : Nat} (hf : f < 1000) : (0 : Int32) ≤ nI f := nI_le (a := 0) (Nat.zero_le _) (by omega)
theorem m1_nn : ¬ (0 : Int32) ≤ -1 := by decide
theorem J75_b {y : MS} (K A T G : Nat → Int32) {X : Nat → Int32} {W : Nat → Int64} (h19 : X 19 = 0) (l1 l2 l3 s0 : Int32) : fM_wantTwo_J75 (mh y X W K A T G) l1 l2 l3 s0 = some (mh y X W K A T G) := by
  unfold fM_wantTwo_J75 fM_wantTwo_J121
  rw [Mend_b K A T G h19, obs, mh_gX, h19, if_pos rfl, if_pos rfl]
theorem J45_0 (y : MS) (K A T G X : Nat → Int32) (W : Nat → Int64) (l1 l2 : Int32) : fM_wantTwo_J45 (mh y X W K A T G) l1 l2 0 = some (mh y (upd X 19 0) W K A T G) := by
  have h19 : upd X 19 0 19 = 0 := upd_eq _ _ _
  unfold fM_wantTwo_J45
  rw [if_pos (Or.inl rfl), mh_X, Mnum_b K A T G h19, ob2s]
  by_cases c : l1 = 0
  · rw [if_pos c, J75_b K A T G h19]
  · rw [if_neg c, Mnum_b K A T G h19, ob2s, J75_b K A T G h19]
theorem nm_tok {B : Nat → Int32} {l a p : Nat} (hp : p < 100) {X : Nat → Int32} {W : Nat → Int64} (ht : tok B l a X W) : (X 14 = 2 ∧ X 18 = nI p) ↔ nmO B l a = some p := by
  obtain ⟨t14, t15, t16, t18, t17⟩ := ht
  constructor
  · intro ⟨h1, h2⟩
    have s2 : sN B l a = 2 := by
      rw [t14] at h1
      exact (nI_eq (b := 2) (by unfold sN; repeat' (first | split | omega)) (by omega)).mp h1
    rw [t18] at h2
    unfold vI at h2
    rw [if_pos s2] at h2
    cases hn : nmO B l a with
    | none =>
      rw [hn] at h2
      exact absurd h2.symm (nI_m1 (by omega))
    | some v =>
      rw [hn] at h2
      have h2 : nI v = nI p := h2
      have hv := (nmO_100 hn).1
      rw [(nI_eq (by omega) (by omega)).mp h2]
  · intro h
    obtain ⟨s2, -⟩ := num_sN h
    refine ⟨by rw [t14, s2]; rfl, ?_⟩
    rw [t18]
    unfold vI
    rw [if_pos s2, h]
    rfl
theorem two_1b {B : Nat → Int32} {l a n : Nat} {y : MS} {X : Nat → Int32} {W : Nat → Int64} (h : MG B l a n y X W) (ha : a ≤ l) (hn8 : n ≤ 8) {si : Nat} (hs : si < 14) (hw : wB B l a si = true) (K A T G : Nat → Int32) (l1 : Int32) (hb : ∀ v, nmO B l (skB B l (enW B l a)) = some v → v < n → False) : ∃ X2 W2, fM_wantTwo (mh y X W K A T G) l1 = some (mh y X2 W2 K A T G) ∧ MB (skB B l (enW B l a)) X X2 := by
  obtain ⟨X1, W1, q1, q2, q3⟩ := adv_w h ha hs hw K A T G
  refine ⟨upd X1 19 0, W1, ?_, MB_u q2 q3⟩
  unfold fM_wantTwo
  rw [q1, obs, mh_gX, q2.2.2.2.2.2, Mnum_bad q2.1 K A T G (show n ≤ 200 by omega) q2.2.2.1 q2.2.2.2.2.1 hb, ob2s, mh_gX, upd_eq, if_pos rfl]
  unfold fM_wantTwo_J44
  rw [J45_0, upd_same _ 19 0 (upd_eq _ _ _)]
theorem two_1g {B : Nat → Int32} {l a n : Nat} {y : MS} {X : Nat → Int32} {W : Nat → Int64} (h : MG B l a n y X W) (ha : a ≤ l) (hn8 : n ≤ 8) {si : Nat} (hs : si < 14) (hw : wB B l a si = true) (K A T G : Nat → Int32) (l1 : Int32) {p : Nat} (hp : nmO B l (skB B l (enW B l a)) = some p) (hpn : p < n) : ∃ X2 W2, fM_wantTwo (mh y X W K A T G) l1 = (if nmO B l (skB B l (enD B l (skB B l (enW B l a)))) = some p then some (mh y (upd X2 19 0) W2 K A T G) else fM_wantTwo_J45 (mh y X2 W2 K A T G) l1 (nI p) 1) ∧ MG B l (skB B l (enD B l (skB B l (enW B l a)))) n y X2 W2 ∧ kpX X X2 := by
  obtain ⟨X1, W1, q1, q2, q3⟩ := adv_w h ha hs hw K A T G
  have h0 : enW B l a ≤ l := rnT_le _ _ _ ha
  have h1 : skB B l (enW B l a) ≤ l := rnT_le _ _ _ h0
  obtain ⟨X2, W2, r1, r2, r3⟩ := Mnum_ok q2.1 K A T G h1 (show n ≤ 200 by omega) q2.2.2.1 q2.2.2.2.1 q2.2.2.2.2.1 hp hpn
  have m2 := MG_s q2 r3 r2
  refine ⟨X2, W2, ?_, m2, kpX_t q3 (kpX_k r3)⟩
  unfold fM_wantTwo
  rw [q1, obs, mh_gX, q2.2.2.2.2.2, r1, ob2s, mh_gX, m2.2.2.2.2.1, if_neg one_ne]
  have ht := nm_tok (nmO_100 hp).1 r2
  unfold fM_wantTwo_J44 fM_wantTwo_J40
  rw [J45_0]
  by_cases c : nmO B l (skB B l (enD B l (skB B l (enW B l a)))) = some p
  · obtain ⟨c1, c2⟩ := ht.mpr c
    rw [if_pos c, if_pos c1, if_pos c2]
  · rw [if_neg c]
    by_cases c1 : X2 14 = 2
    · rw [if_pos c1, if_neg (fun c2 => c (ht.mp ⟨c1, c2⟩))]
    · rw [if_neg c1]
theorem two_2b {B : Nat → Int32} {l a n : Nat} {y : MS} {X : Nat → Int32} {W : Nat → Int64} (h : MG B l a n y X W) (hn8 : n ≤ 8) (K A T G : Nat → Int32) (l1 l2 : Int32) (hb : ∀ v, nmO B l a = some v → v < n → False) : fM_wantTwo_J45 (mh y X W K A T G) l1 l2 1 = some (mh y (upd X 19 0) W K A T G) := by
  have h19 : upd X 19 0 19 = 0 := upd_eq _ _ _
  unfold fM_wantTwo_J45
  rw [if_pos (Or.inr rfl), mh_X, upd_same X 19 1 h.2.2.2.2.1, mh_gX, h.2.2.2.2.2, Mnum_bad h.1 K A T G (show n ≤ 200 by omega) h.2.2.1 h.2.2.2.2.1 hb, ob2s]
  by_cases c : l1 = 0
  · rw [if_pos c, J75_b K A T G h19]
  · rw [if_neg c, Mnum_b K A T G h19, ob2s, J75_b K A T G h19]
theorem two_2g {B : Nat → Int32} {l a n : Nat} {y : MS} {X : Nat → Int32} {W : Nat → Int64} (h : MG B l a n y X W) (ha : a ≤ l) (hn8 : n ≤ 8) (K A T G : Nat → Int32) (l1 l2 : Int32) {q : Nat} (hq : nmO B l a = some q) (hqn : q < n) : ∃ X2 W2, fM_wantTwo_J45 (mh y X W K A T G) l1 l2 1 = (if l1 = 0 then fM_wantTwo_J75 (mh y X2 W2 K A T G) l1 l2 (nI q) 0 else ob2 (fM_wantNumber (mh y X2 W2 K A T G) 0 (nI 10 - 1)) (fun w68 zc68 => fM_wantTwo_J75 zc68 l1 l2 (nI q) w68)) ∧ MG B l (skB B l (enD B l a)) n y X2 W2 ∧ kpX X X2 := by
  obtain ⟨X2, W2, r1, r2, r3⟩ := Mnum_ok h.1 K A T G ha (show n ≤ 200 by omega) h.2.2.1 h.2.2.2.1 h.2.2.2.2.1 hq hqn
  refine ⟨X2, W2, ?_, MG_s h r3 r2, kpX_k r3⟩
  unfold fM_wantTwo_J45
  rw [if_pos (Or.inr rfl), mh_X, upd_same X 19 1 h.2.2.2.2.1, mh_gX, h.2.2.2.2.2, r1, ob2s]
  rfl
theorem two_c {B : Nat → Int32} {l a n : Nat} {y : MS} {X : Nat → Int32} {W : Nat → Int64} (h : MG B l a n y X W) {k : Nat} (hk : k = 1 ∨ k = 2) (hn : ∀ j, j < k → wB B l a j = false) (hy : wB B l a k = true) (K A T G : Nat → Int32) : fM_wantClause (mh y X W K A T G) = Option.bind (fM_wantTwo (mh y X W K A T G) (if k = 1 then 0 else 1)) (fun zc95 => some zc95) := by
  obtain ⟨w0, w1, w2, -⟩ := isW_m h K A T G
  unfold fM_wantClause fM_wantClause_J87
  rcases hk with rfl | rfl
  · have h2 : wB B l a 2 = false := by
      unfold wB at *
      rw [of_decide_eq_true hy]
      exact decide_eq_false (by decide +kernel)
    rw [w0, w1, w2, hn 0 (by omega), hy, h2, if_pos iw0, if_neg iw1, if_pos rfl]
    rfl
  · rw [w0, w1, w2, hn 0 (by omega), hn 1 (by omega), hy, if_pos iw0, if_pos iw0, if_neg iw1, if_neg (show ¬ (2 : Nat) = 1 by decide), if_pos rfl]
theorem two_e {B : Nat → Int32} {l a n : Nat} {y : MS} {X : Nat → Int32} {W : Nat → Int64} (h : MG B l a n y X W) (ha : a ≤ l) (K A T G : Nat → Int32) {p q : Nat} (hp : p < 8) (hq : q < 8) (hpq : p ≠ q) (t : Nat) : (enB B l a = true → ∃ X2 W2, fM_wantTwo_J75 (mh y X W K A T G) 0 (nI p) (nI q) 0 = some (mh y X2 W2 (kinU K p q) A T G) ∧ fM_wantTwo_J75 (mh y X W K A T G) 1 (nI p) (nI q) (nI t) = some (mh y X2 W2 K A (upd (upd T (8 * p + q) (nI t)) (8 * q + p) (nI t)) G) ∧ MG B l (skB B l (a + 1)) n y X2 W2 ∧ kpX X X2) ∧ (enB B l a = false → ∀ l1 l2 l3 s0, fM_wantTwo_J75 (mh y X W K A T G) l1 l2 l3 s0 = some (mh y (upd X 19 0) W K A T G)) := by
  have he := Mend h.1 K A T G ha h.2.2.1 h.2.2.2.1 h.2.2.2.2.1
  constructor
  · intro hb
    obtain ⟨X2, W2, r1, r2, r3⟩ := he.1 hb
    have m2 := MG_s h r3 r2
    refine ⟨X2, W2, ?_, ?_, m2, kpX_k r3⟩
    · have g66 : gI (mh y X2 W2 K A T G) 66 = K := rfl
      have g66' : gI (mh y X2 W2 (upd K p (K p ||| ((1 : Int32) <<< (nI q &&& 31)))) A T G) 66 q = K q := upd_ne (fun e => hpq e.symm)
      unfold fM_wantTwo_J75 fM_wantTwo_J121
      rw [r1, obs, mh_gX, m2.2.2.2.2.1, if_neg one_ne, if_pos rfl, if_neg one_ne, if_neg (ix_ok hp (by omega)), if_neg (ix_ok hp (by omega)), if_neg (ix_ok hq (by omega)), if_neg (ix_ok hq (by omega)), nI_clamp (show p < 2 ^ 31 by omega), nI_clamp (show q < 2 ^ 31 by omega), g66, mh_K, g66', mh_K]
      rfl
    · have e1 : (8 * nI p + nI q : Int32) = nI (8 * p + q) := by rw [show (8 : Int32) = nI 8 from rfl, pk_mul, nI_add]
      have e2 : (8 * nI q + nI p : Int32) = nI (8 * q + p) := by rw [show (8 : Int32) = nI 8 from rfl, pk_mul, nI_add]
      unfold fM_wantTwo_J75
      rw [r1, obs, mh_gX, m2.2.2.2.2.1, if_neg one_ne, if_neg one_ne, e1, e2, if_neg (ix_ok (show 8 * p + q < 64 by omega) (by omega)), if_neg (ix_ok (show 8 * q + p < 64 by omega) (by omega)), nI_clamp (show 8 * p + q < 2 ^ 31 by omega), nI_clamp (show 8 * q + p < 2 ^ 31 by omega), mh_T, mh_T]
  · intro hb l1 l2 l3 s0
    unfold fM_wantTwo_J75 fM_wantTwo_J121
    rw [he.2 hb, obs, mh_gX, upd_eq, if_pos rfl, if_pos rfl]
