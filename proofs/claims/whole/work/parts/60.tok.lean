theorem upd_eq (f : Nat → Int32) (i : Nat) (v : Int32) : upd f i v i = v := by rw [upd_a, if_pos rfl]
theorem upd_ne {f : Nat → Int32} {i j : Nat} {v : Int32} (h : j ≠ i) : upd f i v j = f j := by rw [upd_a, if_neg h]
/-- the model's memory while it reads -/
def mh (y : MS) (X : Nat → Int32) (W : Nat → Int64) (K A T G : Nat → Int32) : MS := wI (wI (wI (wI (wJ (wI y 56 X) 56 W) 66 K) 67 A) 68 T) 69 G
theorem mh_X (y : MS) (X : Nat → Int32) (W : Nat → Int64) (K A T G : Nat → Int32) (i : Nat) (v : Int32) : pI (mh y X W K A T G) 56 i v = mh y (upd X i v) W K A T G := by
  unfold mh pI wI wJ gI
  refine Prod.ext (funext fun x => ?_) rfl
  by_cases h1 : x = 56
  · subst h1; rfl
  · simp only [if_neg h1]
theorem mh_W (y : MS) (X : Nat → Int32) (W : Nat → Int64) (K A T G : Nat → Int32) (i : Nat) (v : Int64) : pJ (mh y X W K A T G) 56 i v = mh y X (vp_updL W i v) K A T G := by
  unfold mh pJ wI wJ gJ
  refine Prod.ext rfl (funext fun x => ?_)
  by_cases h1 : x = 56
  · subst h1; rfl
  · simp only [if_neg h1]
theorem mh_K (y : MS) (X : Nat → Int32) (W : Nat → Int64) (K A T G : Nat → Int32) (i : Nat) (v : Int32) : pI (mh y X W K A T G) 66 i v = mh y X W (upd K i v) A T G := by
  unfold mh pI wI wJ gI
  refine Prod.ext (funext fun x => ?_) rfl
  by_cases h1 : x = 66
  · subst h1; rfl
  · simp only [if_neg h1]
theorem mh_A (y : MS) (X : Nat → Int32) (W : Nat → Int64) (K A T G : Nat → Int32) (i : Nat) (v : Int32) : pI (mh y X W K A T G) 67 i v = mh y X W K (upd A i v) T G := by
  unfold mh pI wI wJ gI
  refine Prod.ext (funext fun x => ?_) rfl
  by_cases h1 : x = 67
  · subst h1; rfl
  · simp only [if_neg h1]
theorem mh_T (y : MS) (X : Nat → Int32) (W : Nat → Int64) (K A T G : Nat → Int32) (i : Nat) (v : Int32) : pI (mh y X W K A T G) 68 i v = mh y X W K A (upd T i v) G := by
  unfold mh pI wI wJ gI
  refine Prod.ext (funext fun x => ?_) rfl
  by_cases h1 : x = 68
  · subst h1; rfl
  · simp only [if_neg h1]
theorem mh_G (y : MS) (X : Nat → Int32) (W : Nat → Int64) (K A T G : Nat → Int32) (i : Nat) (v : Int32) : pI (mh y X W K A T G) 69 i v = mh y X W K A T (upd G i v) := pI_wI _ _ _ _ _
theorem mh_gX (y : MS) (X : Nat → Int32) (W : Nat → Int64) (K A T G : Nat → Int32) : gI (mh y X W K A T G) 56 = X := rfl
theorem mh_gW (y : MS) (X : Nat → Int32) (W : Nat → Int64) (K A T G : Nat → Int32) : gJ (mh y X W K A T G) 56 = W := rfl
def tpM (y : MS) (B : Nat → Int32) (l : Nat) : Prop := gI y 65 = B ∧ l ≤ 200 ∧ ∀ i, i < 200 → lt (B i) 256
theorem byteM {y : MS} {B : Nat → Int32} {l : Nat} (hy : tpM y B l) {X : Nat → Int32} (h13 : X 13 = nI l) (W : Nat → Int64) (K A T G : Nat → Int32) {i : Nat} (hi : i < 1000) : fM_byteAt (mh y X W K A T G) (nI i) = some (if i < l then B i else -1) := by
  obtain ⟨h65, hl, hB⟩ := hy
  unfold fM_byteAt
  rw [mh_gX, h13]
  by_cases c : i < l
  · rw [if_neg (nI_ge c (by omega)), if_neg (ix_ok (show i < 200 by omega) (by omega)), nI_clamp (by omega), if_pos c]
    show some (gI y 65 i) = _
    rw [h65]
  · rw [if_pos (nI_le (by omega) (by omega)), if_neg c]
theorem letM {B : Nat → Int32} (hB : ∀ i, i < 200 → lt (B i) 256) {l : Nat} (hl : l ≤ 200) (i : Nat) : fM_isLetter (if i < l then B i else -1) = (if i < l ∧ isL B i = true then 1 else 0) ∧ fM_isDigit (if i < l then B i else -1) = (if i < l ∧ isD B i = true then 1 else 0) := by
  by_cases c : i < l
  · obtain ⟨b1, b2⟩ := by_eq hB (show i < 200 by omega)
    rw [if_pos c]
    unfold fM_isLetter fM_isDigit fM_in isL isD
    rw [b1, cl_nI (by omega)]
    constructor
    · by_cases c1 : cl (B i) < 97
      · rw [if_pos (show nI (cl (B i)) < 97 from nI_lt (b := 97) c1 (by omega)), if_neg (fun h => by have := h.2; simp only [Bool.and_eq_true, decide_eq_true_eq] at this; omega)]
      · rw [if_neg (show ¬ nI (cl (B i)) < 97 from nI_nlt (b := 97) (by omega) (by omega))]
        by_cases c2 : 122 < cl (B i)
        · rw [if_pos (show (122 : Int32) < nI (cl (B i)) from nI_lt (a := 122) c2 (by omega)), if_neg (fun h => by have := h.2; simp only [Bool.and_eq_true, decide_eq_true_eq] at this; omega)]
        · rw [if_neg (show ¬ (122 : Int32) < nI (cl (B i)) from nI_nlt (a := 122) (by omega) (by omega)), if_pos ⟨c, by simp only [Bool.and_eq_true, decide_eq_true_eq]; omega⟩]
    · by_cases c1 : cl (B i) < 48
      · rw [if_pos (show nI (cl (B i)) < 48 from nI_lt (b := 48) c1 (by omega)), if_neg (fun h => by have := h.2; simp only [Bool.and_eq_true, decide_eq_true_eq] at this; omega)]
      · rw [if_neg (show ¬ nI (cl (B i)) < 48 from nI_nlt (b := 48) (by omega) (by omega))]
        by_cases c2 : 57 < cl (B i)
        · rw [if_pos (show (57 : Int32) < nI (cl (B i)) from nI_lt (a := 57) c2 (by omega)), if_neg (fun h => by have := h.2; simp only [Bool.and_eq_true, decide_eq_true_eq] at this; omega)]
        · rw [if_neg (show ¬ (57 : Int32) < nI (cl (B i)) from nI_nlt (a := 57) (by omega) (by omega)), if_pos ⟨c, by simp only [Bool.and_eq_true, decide_eq_true_eq]; omega⟩]
  · rw [if_neg c, if_neg (fun h => c h.1), if_neg (fun h => c h.1)]
    exact ⟨by decide, by decide⟩
/-- the token at a: sort, end, value, word -/
def sN (B : Nat → Int32) (l a : Nat) : Nat := if a < l then (if isL B a then 1 else if isD B a then 2 else 3) else 0
def tE (B : Nat → Int32) (l a : Nat) : Nat := if a < l then (if isL B a then enW B l a else if isD B a then enD B l a else a + 1) else a
def vO : Option Nat → Int32
  | none => -1
  | some v => nI v
def vI (B : Nat → Int32) (l a : Nat) : Int32 := if sN B l a = 2 then vO (nmO B l a) else if a < l then B a else -1
def wJ' (B : Nat → Int32) (l a : Nat) : Int64 := if sN B l a = 1 then (if enW B l a - a ≤ 8 then lN (cdN B l a) else -1) else 0
def tok (B : Nat → Int32) (l a : Nat) (X : Nat → Int32) (W : Nat → Int64) : Prop := X 14 = nI (sN B l a) ∧ X 15 = nI a ∧ X 16 = nI (tE B l a) ∧ X 18 = vI B l a ∧ W 17 = wJ' B l a
theorem L207_m {y : MS} {B : Nat → Int32} {l : Nat} (hy : tpM y B l) (K A T G : Nat → Int32) {a : Nat} (ha : a < l) (W : Nat → Int64) : ∀ (e i f : Nat) (X : Nat → Int32), l - i ≤ e → e < f → a ≤ i → i ≤ l → X 13 = nI l → X 14 = 2 → X 15 = nI a → X 16 = nI i → (i = a → X 18 = 0) → (i = a + 1 → X 18 = nI (cl (B a) - 48)) → (i = a + 2 → X 18 = nI (10 * (cl (B a) - 48) + (cl (B (a + 1)) - 48))) → (a + 3 ≤ i → X 18 = -1) → (∀ j, a ≤ j → j < i → isD B j = true) →
    ∃ X2, fM_advance_L207 f (mh y X W K A T G) = some (mh y X2 W K A T G) ∧ X2 16 = nI (enD B l i) ∧ (isD B a = true → X2 18 = vO (nmO B l a)) ∧ (∀ j, j ≠ 16 → j ≠ 18 → X2 j = X j) := by
  obtain ⟨h65, hl, hB⟩ := hy
  intro e
  induction e with
  | zero =>
    intro i f X he hf hai hil h13 h14 h15 h16 v0 v1 v2 v3 hall
    obtain ⟨f, rfl⟩ : ∃ m, f = m + 1 := ⟨f - 1, by omega⟩
    have hb := byteM (y := y) ⟨h65, hl, hB⟩ h13 W K A T G (show i < 1000 by omega)
    have hend : enD B l i = i := rnT_n (by omega)
    refine ⟨X, ?_, by rw [hend]; exact h16, ?_, fun _ _ _ => rfl⟩
    · rw [fM_advance_L207, mh_gX, h14, if_pos rfl, h16, hb, obs, (letM hB hl i).2, if_neg (show ¬ (i < l ∧ isD B i = true) by omega), if_pos rfl]
    · intro hda
      unfold nmO
      rw [if_pos ⟨ha, hda⟩]
      have : i = l := by omega
      by_cases d1 : a + 1 < l
      · rw [if_pos ⟨d1, hall (a + 1) (by omega) (by omega)⟩]
        by_cases d2 : a + 2 < l
        · rw [if_pos ⟨d2, hall (a + 2) (by omega) (by omega)⟩]
          exact v3 (by omega)
        · rw [if_neg (fun h => d2 h.1)]
          exact v2 (by omega)
      · rw [if_neg (fun h => d1 h.1)]
        exact v1 (by omega)
  | succ e ih =>
    intro i f X he hf hai hil h13 h14 h15 h16 v0 v1 v2 v3 hall
    obtain ⟨f, rfl⟩ : ∃ m, f = m + 1 := ⟨f - 1, by omega⟩
    have hb := byteM (y := y) ⟨h65, hl, hB⟩ h13 W K A T G (show i < 1000 by omega)
    by_cases c : i < l ∧ isD B i = true
    · have hd := isD_d c.2
      obtain ⟨b1, b2⟩ := by_eq hB (show i < 200 by omega)
      have hen : enD B l i = enD B l (i + 1) := rnT_y c.1 c.2
      have hall' : ∀ j, a ≤ j → j < i + 1 → isD B j = true := by
        intro j h1 h2
        by_cases cj : j = i
        · rw [cj]; exact c.2
        · exact hall j h1 (by omega)
      have stp : ∀ v, (i + 1 = a + 1 → v = nI (cl (B a) - 48)) → (i + 1 = a + 2 → v = nI (10 * (cl (B a) - 48) + (cl (B (a + 1)) - 48))) → (a + 3 ≤ i + 1 → v = -1) → ∃ X2, fM_advance_J266 (mh y X W K A T G) (fM_advance_L207 f) v = some (mh y X2 W K A T G) ∧ X2 16 = nI (enD B l i) ∧ (isD B a = true → X2 18 = vO (nmO B l a)) ∧ (∀ j, j ≠ 16 → j ≠ 18 → X2 j = X j) := by
        intro v w1 w2 w3
        obtain ⟨X2, q1, q2, q3, q4⟩ := ih (i + 1) f (upd (upd X 18 v) 16 (nI (i + 1))) (by omega) (by omega) (by omega) (by omega)
          (by rw [upd_ne (by decide), upd_ne (by decide)]; exact h13) (by rw [upd_ne (by decide), upd_ne (by decide)]; exact h14) (by rw [upd_ne (by decide), upd_ne (by decide)]; exact h15) (upd_eq _ _ _)
          (fun h => by omega) (fun h => by rw [upd_ne (by decide), upd_eq]; exact w1 h) (fun h => by rw [upd_ne (by decide), upd_eq]; exact w2 h) (fun h => by rw [upd_ne (by decide), upd_eq]; exact w3 h) hall'
        refine ⟨X2, ?_, by rw [hen]; exact q2, q3, ?_⟩
        · unfold fM_advance_J266
          rw [mh_X, mh_gX, upd_ne (show 16 ≠ 18 by decide), h16, nI_s, mh_X]
          exact q1
        · intro j h1 h2
          rw [q4 j h1 h2, upd_ne h1, upd_ne h2]
      have hstart : fM_advance_L207 (f + 1) (mh y X W K A T G) = if 2 ≤ i - a then fM_advance_J266 (mh y X W K A T G) (fM_advance_L207 f) (-1) else fM_advance_J266 (mh y X W K A T G) (fM_advance_L207 f) (((10 * X 18) + B i) - 48) := by
        rw [fM_advance_L207, mh_gX, h14, if_pos rfl, h16, hb, obs, (letM hB hl i).2, if_pos c, if_neg one_ne, h15, pk_sub hai, obs, if_pos c.1]
        by_cases c2 : 2 ≤ i - a
        · rw [if_pos (show (2 : Int32) ≤ nI (i - a) from nI_le (a := 2) c2 (by omega)), if_pos c2]
        · rw [if_neg (show ¬ (2 : Int32) ≤ nI (i - a) from nI_ge (b := 2) (by omega) (by omega)), if_neg c2]
      by_cases c2 : 2 ≤ i - a
      · rw [if_pos c2] at hstart
        obtain ⟨X2, q⟩ := stp (-1) (fun h => by omega) (fun h => by omega) (fun _ => rfl)
        exact ⟨X2, hstart.trans q.1, q.2⟩
      · rw [if_neg c2] at hstart
        have e10 : ∀ x, (10 * nI x : Int32) = nI (10 * x) := fun x => by rw [show (10 : Int32) = nI 10 from rfl, pk_mul]
        by_cases c0 : i = a
        · subst c0
          have hv : ((10 * X 18) + B i) - 48 = nI (cl (B i) - 48) := by
            rw [v0 rfl, b1, show (0 : Int32) = nI 0 from rfl, e10, nI_add, show (48 : Int32) = nI 48 from rfl, pk_sub (by omega), cl_nI (by omega)]
            congr 1
            omega
          rw [hv] at hstart
          obtain ⟨X2, q⟩ := stp _ (fun _ => rfl) (fun h => by omega) (fun h => by omega)
          exact ⟨X2, hstart.trans q.1, q.2⟩
        · have c1 : i = a + 1 := by omega
          subst c1
          have hda := isD_d (hall a (Nat.le_refl _) (by omega))
          have hv : ((10 * X 18) + B (a + 1)) - 48 = nI (10 * (cl (B a) - 48) + (cl (B (a + 1)) - 48)) := by
            rw [v1 rfl, b1, e10, nI_add, show (48 : Int32) = nI 48 from rfl, pk_sub (by omega), cl_nI (by omega)]
            congr 1
            omega
          rw [hv] at hstart
          obtain ⟨X2, q⟩ := stp _ (fun h => by omega) (fun _ => rfl) (fun h => by omega)
          exact ⟨X2, hstart.trans q.1, q.2⟩
    · have hend : enD B l i = i := rnT_n c
      refine ⟨X, ?_, by rw [hend]; exact h16, ?_, fun _ _ _ => rfl⟩
      · rw [fM_advance_L207, mh_gX, h14, if_pos rfl, h16, hb, obs, (letM hB hl i).2, if_neg c, if_pos rfl]
      · intro hda
        unfold nmO
        rw [if_pos ⟨ha, hda⟩]
        by_cases c0 : i = a
        · subst c0
          exact absurd ⟨ha, hda⟩ c
        · by_cases c1 : i = a + 1
          · rw [if_neg (by rw [← c1]; exact c)]
            exact v1 c1
          · rw [if_pos ⟨by omega, hall (a + 1) (by omega) (by omega)⟩]
            by_cases c2 : i = a + 2
            · rw [if_neg (by rw [← c2]; exact c)]
              exact v2 c2
            · rw [if_pos ⟨by omega, hall (a + 2) (by omega) (by omega)⟩]
              exact v3 (by omega)
theorem cod_lt {f : Nat → Nat} : ∀ n, (∀ i, i < n → f i ≤ 26) → cod f n < 27 ^ n := by
  intro n
  induction n with
  | zero => intro _; exact (by decide : 0 < 27 ^ 0)
  | succ n ih =>
    intro h
    have h1 := ih (fun i hi => h i (by omega))
    have h2 := h n (by omega)
    rw [cod, Nat.pow_succ]
    omega
theorem L126_m {y : MS} {B : Nat → Int32} {l : Nat} (hy : tpM y B l) (K A T G : Nat → Int32) {a : Nat} : ∀ (e i f : Nat) (X : Nat → Int32) (W : Nat → Int64), l - i ≤ e → e < f → a ≤ i → i ≤ l → enW B l i = enW B l a → X 13 = nI l → X 14 = 1 → X 15 = nI a → X 16 = nI i → W 17 = (if i - a ≤ 8 then lN (cod (fun j => cl (B (a + j)) - 96) (i - a)) else -1) →
    ∃ X2 W2, fM_advance_L126 f (mh y X W K A T G) = some (mh y X2 W2 K A T G) ∧ X2 16 = nI (enW B l a) ∧ W2 17 = (if enW B l a - a ≤ 8 then lN (cdN B l a) else -1) ∧ (∀ j, j ≠ 16 → X2 j = X j) := by
  obtain ⟨h65, hl, hB⟩ := hy
  intro e
  have stop : ∀ (i f : Nat) (X : Nat → Int32) (W : Nat → Int64), ¬ (i < l ∧ isL B i = true) → a ≤ i → i ≤ l → enW B l i = enW B l a → X 13 = nI l → X 14 = 1 → X 15 = nI a → X 16 = nI i → W 17 = (if i - a ≤ 8 then lN (cod (fun j => cl (B (a + j)) - 96) (i - a)) else -1) → ∃ X2 W2, fM_advance_L126 (f + 1) (mh y X W K A T G) = some (mh y X2 W2 K A T G) ∧ X2 16 = nI (enW B l a) ∧ W2 17 = (if enW B l a - a ≤ 8 then lN (cdN B l a) else -1) ∧ (∀ j, j ≠ 16 → X2 j = X j) := by
    intro i f X W c hai hil hen h13 h14 h15 h16 hW
    have hb := byteM (y := y) ⟨h65, hl, hB⟩ h13 W K A T G (show i < 1000 by omega)
    have hend : enW B l i = i := rnT_n c
    rw [hend] at hen
    refine ⟨X, W, ?_, by rw [← hen]; exact h16, ?_, fun _ _ => rfl⟩
    · rw [fM_advance_L126, mh_gX, h14, if_pos rfl, h16, hb, obs, (letM hB hl i).1, if_neg c, if_pos rfl, LF_s, fM_advance_L207, mh_gX, h14, if_neg (show ¬ (1 : Int32) = 2 by decide)]
    · rw [hW, ← hen]
      by_cases c8 : i - a ≤ 8
      · rw [if_pos c8, if_pos c8]
        unfold cdN
        rw [← hen, if_pos c8]
      · rw [if_neg c8, if_neg c8]
  induction e with
  | zero =>
    intro i f X W he hf hai hil hen h13 h14 h15 h16 hW
    obtain ⟨f, rfl⟩ : ∃ m, f = m + 1 := ⟨f - 1, by omega⟩
    exact stop i f X W (by omega) hai hil hen h13 h14 h15 h16 hW
  | succ e ih =>
    intro i f X W he hf hai hil hen h13 h14 h15 h16 hW
    obtain ⟨f, rfl⟩ : ∃ m, f = m + 1 := ⟨f - 1, by omega⟩
    by_cases c : i < l ∧ isL B i = true
    · have hb := byteM (y := y) ⟨h65, hl, hB⟩ h13 W K A T G (show i < 1000 by omega)
      obtain ⟨b1, b2⟩ := by_eq hB (show i < 200 by omega)
      have hlt := c.2
      unfold isL at hlt
      simp only [Bool.and_eq_true, decide_eq_true_eq] at hlt
      have hen2 : enW B l (i + 1) = enW B l a := by rw [← hen]; exact (rnT_y c.1 c.2).symm
      have stp : ∀ v, v = (if i + 1 - a ≤ 8 then lN (cod (fun j => cl (B (a + j)) - 96) (i + 1 - a)) else -1) → ∃ X2 W2, fM_advance_J191 (mh y X W K A T G) (fM_advance_L126 f) v = some (mh y X2 W2 K A T G) ∧ X2 16 = nI (enW B l a) ∧ W2 17 = (if enW B l a - a ≤ 8 then lN (cdN B l a) else -1) ∧ (∀ j, j ≠ 16 → X2 j = X j) := by
        intro v hv
        obtain ⟨X2, W2, q1, q2, q3, q4⟩ := ih (i + 1) f (upd X 16 (nI (i + 1))) (vp_updL W 17 v) (by omega) (by omega) (by omega) (by omega) hen2 (by rw [upd_ne (by decide)]; exact h13) (by rw [upd_ne (by decide)]; exact h14) (by rw [upd_ne (by decide)]; exact h15) (upd_eq _ _ _) (by rw [updL_a, if_pos rfl]; exact hv)
        refine ⟨X2, W2, ?_, q2, q3, fun j hj => by rw [q4 j hj, upd_ne hj]⟩
        unfold fM_advance_J191
        rw [mh_W, mh_gX, h16, nI_s, mh_X]
        exact q1
      have hstart : fM_advance_L126 (f + 1) (mh y X W K A T G) = if 8 ≤ i - a then fM_advance_J191 (mh y X W K A T G) (fM_advance_L126 f) (-1) else fM_advance_J191 (mh y X W K A T G) (fM_advance_L126 f) (((27 * (W 17)) + (B i).toInt64) - 96) := by
        rw [fM_advance_L126, mh_gX, h14, if_pos rfl, h16, hb, obs, (letM hB hl i).1, if_pos c, if_neg one_ne, h15, pk_sub hai, obs, if_pos c.1, mh_gW]
        by_cases c2 : 8 ≤ i - a
        · rw [if_pos (show (8 : Int32) ≤ nI (i - a) from nI_le (a := 8) c2 (by omega)), if_pos c2]
        · rw [if_neg (show ¬ (8 : Int32) ≤ nI (i - a) from nI_ge (b := 8) (by omega) (by omega)), if_neg c2]
      by_cases c2 : 8 ≤ i - a
      · rw [if_pos c2] at hstart
        obtain ⟨X2, W2, q⟩ := stp (-1) (by rw [if_neg (by omega)])
        exact ⟨X2, W2, hstart.trans q.1, q.2⟩
      · rw [if_neg c2] at hstart
        have hv : ((27 * (W 17)) + (B i).toInt64) - 96 = lN (cod (fun j => cl (B (a + j)) - 96) (i + 1 - a)) := by
          rw [hW, if_pos (by omega), b1, nI_l (by omega), show (27 : Int64) = lN 27 from rfl, lN_mul, lN_add, show (96 : Int64) = lN 96 from rfl, lN_sub (by omega), show i + 1 - a = (i - a) + 1 by omega, cod]
          congr 1
          rw [show a + (i - a) = i by omega]
          omega
        rw [hv] at hstart
        obtain ⟨X2, W2, q⟩ := stp _ (by rw [if_pos (by omega)])
        exact ⟨X2, W2, hstart.trans q.1, q.2⟩
    · exact stop i f X W c hai hil hen h13 h14 h15 h16 hW
