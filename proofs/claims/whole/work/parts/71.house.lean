def mxi (n i : Nat) (P Q : Nat → Int32) (j : Nat) : Int32 := if i ≤ j ∧ j < n then P j else Q j
theorem mxi_s {n i : Nat} (h : i < n) (P Q : Nat → Int32) : mxi n (i + 1) P (upd Q i (P i)) = mxi n i P Q := by
  funext j
  unfold mxi
  rw [upd_a]
  by_cases c : j = i
  · subst c
    rw [if_neg (by omega), if_pos rfl, if_pos (by omega)]
  · rw [if_neg c]
    by_cases d : i ≤ j ∧ j < n
    · rw [if_pos d, if_pos (by omega)]
    · rw [if_neg d, if_neg (by omega)]
theorem mxi_n (n : Nat) (P Q : Nat → Int32) : mxi n n P Q = Q := by
  funext j
  unfold mxi
  rw [if_neg (by omega)]
theorem mxi_0 (n : Nat) (P Q : Nat → Int32) : mxi n 0 P Q = mx n P Q := by
  funext j
  unfold mxi mx
  by_cases d : j < n
  · rw [if_pos d, if_pos (by omega)]
  · rw [if_neg d, if_neg (by omega)]
theorem mx_in {n i : Nat} (h : i < n) (f g : Nat → Int32) : mx n f g i = f i := if_pos h
theorem mx_c {n : Nat} {f g f' g' : Nat → Int32} (h : ∀ i, i < n → f i = f' i) (hg : g = g') (i : Nat) : mx n f g i = mx n f' g' i := by
  subst hg
  unfold mx
  by_cases d : i < n
  · rw [if_pos d, if_pos d, h i d]
  · rw [if_neg d, if_neg d]
def k0 : Nat → Int32 := fun _ => 0
/-- the model's drafts at the start -/
theorem L17_m (y : MS) (X : Nat → Int32) (W : Nat → Int64) (T : Nat → Int32) : ∀ (e i f : Nat) (K A G : Nat → Int32), i + e = 8 → e < f → fM_house_L17 f (mh y X W K A T G) (nI i) = fM_house_L57 LF (mh y X W (mxi 8 i k0 K) (mxi 8 i k0 A) T (mxi 8 i (gI y 62) G)) 0 := by
  intro e
  induction e with
  | zero =>
    intro i f K A G hi hf
    obtain ⟨f, rfl⟩ : ∃ m, f = m + 1 := ⟨f - 1, by omega⟩
    have hi : i = 8 := hi
    subst hi
    rw [fM_house_L17, if_pos (show (8 : Int32) ≤ nI 8 from Int32.le_refl _), mxi_n, mxi_n, mxi_n]
  | succ e ih =>
    intro i f K A G hi hf
    obtain ⟨f, rfl⟩ : ∃ m, f = m + 1 := ⟨f - 1, by omega⟩
    have hi8 : i < 8 := by omega
    have q1 := ih (i + 1) f (upd K i (k0 i)) (upd A i (k0 i)) (upd G i (gI y 62 i)) (by omega) (by omega)
    rw [mxi_s hi8, mxi_s hi8, mxi_s hi8] at q1
    have g62 : ∀ K A, gI (mh y X W K A T G) 62 i = gI y 62 i := fun _ _ => rfl
    rw [fM_house_L17, if_neg (show ¬ (8 : Int32) ≤ nI i from nI_ge (b := 8) hi8 (by omega)), if_neg (ix_ok hi8 (by omega)), if_neg (ix_ok hi8 (by omega)), if_neg (ix_ok hi8 (by omega)), if_neg (ix_ok hi8 (by omega)), nI_clamp (show i < 2 ^ 31 by omega), mh_K, mh_A, g62, mh_G, nI_s]
    exact q1
theorem L57_m (y : MS) (X : Nat → Int32) (W : Nat → Int64) (K A G : Nat → Int32) : ∀ (e i f : Nat) (T : Nat → Int32), i + e = 64 → e < f → fM_house_L57 f (mh y X W K A T G) (nI i) = Option.bind (fM_advance (mh y X W K A (mxi 64 i k0 T) G)) (fun zc77 => fM_house_L80 LF zc77) := by
  intro e
  induction e with
  | zero =>
    intro i f T hi hf
    obtain ⟨f, rfl⟩ : ∃ m, f = m + 1 := ⟨f - 1, by omega⟩
    have hi : i = 64 := hi
    subst hi
    rw [fM_house_L57, if_pos (show (64 : Int32) ≤ nI 64 from Int32.le_refl _), mxi_n]
  | succ e ih =>
    intro i f T hi hf
    obtain ⟨f, rfl⟩ : ∃ m, f = m + 1 := ⟨f - 1, by omega⟩
    have hi8 : i < 64 := by omega
    have q1 := ih (i + 1) f (upd T i (k0 i)) (by omega) (by omega)
    rw [mxi_s hi8] at q1
    rw [fM_house_L57, if_neg (show ¬ (64 : Int32) ≤ nI i from nI_ge (b := 64) hi8 (by omega)), if_neg (ix_ok hi8 (by omega)), nI_clamp (show i < 2 ^ 31 by omega), mh_T, nI_s]
    exact q1
theorem start_m {y : MS} {B K A T G : Nat → Int32} {l : Nat} (hy : tpM y B l) (h63 : gI y 63 = (fun j => cST1.getD j 0)) (h13 : gI y 56 13 = nI l) (hK : gI y 66 = K) (hA : gI y 67 = A) (hT : gI y 68 = T) (hG : gI y 69 = G) : ∃ X W, fM_house y = fM_house_L80 LF (mh y X W (mx 8 k0 K) (mx 8 k0 A) (mx 64 k0 T) (mx 8 (gI y 62) G)) ∧ MG B l (skB B l 0) 0 y X W ∧ kpX (gI y 56) X := by
  have e0 : pI (pI (pI y 56 16 0) 56 19 1) 56 20 0 = mh y (upd (upd (upd (gI y 56) 16 0) 19 1) 20 0) (gJ y 56) K A T G := by
    refine (congrArg (fun m => pI (pI (pI m 56 16 0) 56 19 1) 56 20 0) (mh_id y)).trans ?_
    show pI (pI (pI (mh y (gI y 56) (gJ y 56) (gI y 66) (gI y 67) (gI y 68) (gI y 69)) 56 16 0) 56 19 1) 56 20 0 = _
    rw [mh_X, mh_X, mh_X, hK, hA, hT, hG]
  obtain ⟨X2, W2, q1, q2, q3⟩ := adv_m hy (mx 8 k0 K) (mx 8 k0 A) (mx 64 k0 T) (mx 8 (gI y 62) G) (Nat.zero_le l) (upd (upd (upd (gI y 56) 16 0) 19 1) 20 0) (gJ y 56) (by rw [upd_ne (by decide), upd_ne (by decide), upd_ne (by decide)]; exact h13) (by rw [upd_ne (by decide), upd_ne (by decide), upd_eq]; rfl)
  have r1 : fM_house_L17 LF (mh y (upd (upd (upd (gI y 56) 16 0) 19 1) 20 0) (gJ y 56) K A T G) 0 = _ := L17_m y (upd (upd (upd (gI y 56) 16 0) 19 1) 20 0) (gJ y 56) T 8 0 LF K A G (by omega) (by decide)
  have r2 : ∀ K A G, fM_house_L57 LF (mh y (upd (upd (upd (gI y 56) 16 0) 19 1) 20 0) (gJ y 56) K A T G) 0 = _ := fun K A G => L57_m y (upd (upd (upd (gI y 56) 16 0) 19 1) 20 0) (gJ y 56) K A G 64 0 LF T (by omega) (by decide)
  refine ⟨X2, W2, ?_, ⟨hy, h63, q2, ?_, ?_, ?_⟩, kpX_t (kpX_t (kpX_t (kpX_u (by omega) _) (kpX_u (by omega) _)) (kpX_u (by omega) _)) (kpX_k q3)⟩
  · unfold fM_house
    rw [e0, r1, r2, mxi_0, mxi_0, mxi_0, mxi_0, q1, obs]
  · rw [q3 13 (by omega) (by omega) (by omega) (by omega), upd_ne (by decide), upd_ne (by decide), upd_ne (by decide)]
    exact h13
  · rw [q3 19 (by omega) (by omega) (by omega) (by omega), upd_ne (by decide), upd_eq]
  · rw [q3 20 (by omega) (by omega) (by omega) (by omega), upd_eq]
    rfl
/-- the model takes its drafts over -/
theorem L228_m : ∀ (e i f : Nat) (M : MS), i + e = 10 → e < f → fM_house_L228 f M (nI i) = some (gI M 56 0, pI (pI (wI M 61 (mxi 10 i k0 (gI M 61))) 56 5 0) 56 34 0) := by
  intro e
  induction e with
  | zero =>
    intro i f M hi hf
    obtain ⟨f, rfl⟩ : ∃ m, f = m + 1 := ⟨f - 1, by omega⟩
    have hi : i = 10 := hi
    subst hi
    rw [fM_house_L228, if_pos (show (10 : Int32) ≤ nI 10 from Int32.le_refl _), mxi_n, wI_self]
    rfl
  | succ e ih =>
    intro i f M hi hf
    obtain ⟨f, rfl⟩ : ∃ m, f = m + 1 := ⟨f - 1, by omega⟩
    have hi8 : i < 10 := by omega
    rw [fM_house_L228, if_neg (show ¬ (10 : Int32) ≤ nI i from nI_ge (b := 10) hi8 (by omega)), if_neg (ix_ok hi8 (by omega)), nI_clamp (show i < 2 ^ 31 by omega), nI_s, ih (i + 1) f _ (by omega) (by omega)]
    have e1 : gI (pI M 61 i 0) 61 = upd (gI M 61) i (k0 i) := rfl
    have e2 : gI (pI M 61 i 0) 56 0 = gI M 56 0 := rfl
    have e3 : ∀ F, wI (pI M 61 i 0) 61 F = wI M 61 F := fun F => by
      unfold pI
      rw [wI_wI]
    rw [e1, e2, mxi_s hi8, e3]
theorem L207_h : ∀ (e i f : Nat) (M : MS), i + e = 40 → e < f → fM_house_L207 f M (nI i) = fM_house_L228 LF (wI M 60 (mxi 40 i (fun _ => -1) (gI M 60))) 0 := by
  intro e
  induction e with
  | zero =>
    intro i f M hi hf
    obtain ⟨f, rfl⟩ : ∃ m, f = m + 1 := ⟨f - 1, by omega⟩
    have hi : i = 40 := hi
    subst hi
    rw [fM_house_L207, if_pos (show (40 : Int32) ≤ nI 40 from Int32.le_refl _), mxi_n, wI_self]
  | succ e ih =>
    intro i f M hi hf
    obtain ⟨f, rfl⟩ : ∃ m, f = m + 1 := ⟨f - 1, by omega⟩
    have hi8 : i < 40 := by omega
    rw [fM_house_L207, if_neg (show ¬ (40 : Int32) ≤ nI i from nI_ge (b := 40) hi8 (by omega)), if_neg (ix_ok hi8 (by omega)), nI_clamp (show i < 2 ^ 31 by omega), nI_s, ih (i + 1) f _ (by omega) (by omega)]
    have e1 : gI (pI M 60 i (-1)) 60 = upd (gI M 60) i ((fun _ => -1 : Nat → Int32) i) := rfl
    rw [e1, mxi_s hi8]
    unfold pI
    rw [wI_wI]
theorem L181_m : ∀ (e i f : Nat) (M : MS), i + e = 64 → e < f → fM_house_L181 f M (nI i) = fM_house_L207 LF (wI M 59 (mxi 64 i (gI M 68) (gI M 59))) 0 := by
  intro e
  induction e with
  | zero =>
    intro i f M hi hf
    obtain ⟨f, rfl⟩ : ∃ m, f = m + 1 := ⟨f - 1, by omega⟩
    have hi : i = 64 := hi
    subst hi
    rw [fM_house_L181, if_pos (show (64 : Int32) ≤ nI 64 from Int32.le_refl _), mxi_n, wI_self]
  | succ e ih =>
    intro i f M hi hf
    obtain ⟨f, rfl⟩ : ∃ m, f = m + 1 := ⟨f - 1, by omega⟩
    have hi8 : i < 64 := by omega
    rw [fM_house_L181, if_neg (show ¬ (64 : Int32) ≤ nI i from nI_ge (b := 64) hi8 (by omega)), if_neg (ix_ok hi8 (by omega)), if_neg (ix_ok hi8 (by omega)), nI_clamp (show i < 2 ^ 31 by omega), nI_s, ih (i + 1) f _ (by omega) (by omega)]
    have e1 : gI (pI M 59 i (gI M 68 i)) 59 = upd (gI M 59) i (gI M 68 i) := rfl
    have e2 : gI (pI M 59 i (gI M 68 i)) 68 = gI M 68 := rfl
    rw [e1, e2, mxi_s hi8]
    unfold pI
    rw [wI_wI]
def t3 (M : MS) (P Q R : Nat → Int32) : MS := wI (wI (wI M 57 P) 58 Q) 62 R
theorem t3_s (M : MS) (P Q R : Nat → Int32) (i : Nat) (a b c : Int32) : pI (pI (pI (t3 M P Q R) 57 i a) 58 i b) 62 i c = t3 M (upd P i a) (upd Q i b) (upd R i c) := by
  unfold t3 pI wI gI
  refine Prod.ext (funext fun x => ?_) rfl
  by_cases h1 : x = 62
  · subst h1; rfl
  by_cases h2 : x = 58
  · subst h2; rfl
  by_cases h3 : x = 57
  · subst h3; rfl
  simp only [if_neg h1, if_neg h2, if_neg h3]
theorem L131_m (M : MS) : ∀ (e i f : Nat) (P Q R : Nat → Int32), i + e = 8 → e < f → fM_house_L131 f (t3 M P Q R) (nI i) = fM_house_L181 LF (t3 M (mxi 8 i (gI M 66) P) (mxi 8 i (gI M 67) Q) (mxi 8 i (gI M 69) R)) 0 := by
  intro e
  induction e with
  | zero =>
    intro i f P Q R hi hf
    obtain ⟨f, rfl⟩ : ∃ m, f = m + 1 := ⟨f - 1, by omega⟩
    have hi : i = 8 := hi
    subst hi
    rw [fM_house_L131, if_pos (show (8 : Int32) ≤ nI 8 from Int32.le_refl _), mxi_n, mxi_n, mxi_n]
  | succ e ih =>
    intro i f P Q R hi hf
    obtain ⟨f, rfl⟩ : ∃ m, f = m + 1 := ⟨f - 1, by omega⟩
    have hi8 : i < 8 := by omega
    have q1 := ih (i + 1) f (upd P i (gI M 66 i)) (upd Q i (gI M 67 i)) (upd R i (gI M 69 i)) (by omega) (by omega)
    rw [mxi_s hi8, mxi_s hi8, mxi_s hi8] at q1
    have g1 : gI (t3 M P Q R) 66 i = gI M 66 i := rfl
    have g2 : ∀ a, gI (pI (t3 M P Q R) 57 i a) 67 i = gI M 67 i := fun _ => rfl
    have g3 : ∀ a b, gI (pI (pI (t3 M P Q R) 57 i a) 58 i b) 69 i = gI M 69 i := fun _ _ => rfl
    rw [fM_house_L131, if_neg (show ¬ (8 : Int32) ≤ nI i from nI_ge (b := 8) hi8 (by omega)), if_neg (ix_ok hi8 (by omega)), if_neg (ix_ok hi8 (by omega)), if_neg (ix_ok hi8 (by omega)), if_neg (ix_ok hi8 (by omega)), if_neg (ix_ok hi8 (by omega)), if_neg (ix_ok hi8 (by omega)), nI_clamp (show i < 2 ^ 31 by omega), nI_s, g1, g2, g3, t3_s]
    exact q1
theorem t3_id (M : MS) : t3 M (gI M 57) (gI M 58) (gI M 62) = M := by
  unfold t3
  rw [wI_self, wI_self, wI_self]
theorem take_m (M : MS) : ∃ M2, fM_house_L131 LF M 0 = some (gI M 56 0, M2) ∧ (∀ k, k < 56 ∨ 62 < k → gI M2 k = gI M k) ∧ (∀ k, gJ M2 k = gJ M k) ∧ gI M2 56 = upd (upd (gI M 56) 5 0) 34 0 ∧ gI M2 57 = mx 8 (gI M 66) (gI M 57) ∧ gI M2 58 = mx 8 (gI M 67) (gI M 58) ∧ gI M2 59 = mx 64 (gI M 68) (gI M 59) ∧ gI M2 60 = mx 40 (fun _ => -1) (gI M 60) ∧ gI M2 61 = mx 10 k0 (gI M 61) ∧ gI M2 62 = mx 8 (gI M 69) (gI M 62) := by
  have r1 : fM_house_L131 LF (t3 M (gI M 57) (gI M 58) (gI M 62)) 0 = _ := L131_m M 8 0 LF (gI M 57) (gI M 58) (gI M 62) (by omega) (by decide)
  rw [t3_id, mxi_0, mxi_0, mxi_0] at r1
  have r2 : ∀ M, fM_house_L181 LF M 0 = _ := fun M => L181_m 64 0 LF M (by omega) (by decide)
  have r3 : ∀ M, fM_house_L207 LF M 0 = _ := fun M => L207_h 40 0 LF M (by omega) (by decide)
  have r4 : ∀ M, fM_house_L228 LF M 0 = _ := fun M => L228_m 10 0 LF M (by omega) (by decide)
  rw [r2, r3, r4, mxi_0, mxi_0, mxi_0] at r1
  refine ⟨_, r1, ?_, fun k => rfl, rfl, rfl, rfl, rfl, rfl, rfl, rfl⟩
  intro k hk
  unfold pI t3
  rw [gI_wI', if_neg (by omega), gI_wI', if_neg (by omega), gI_wI', if_neg (by omega), gI_wI', if_neg (by omega), gI_wI', if_neg (by omega), gI_wI', if_neg (by omega), gI_wI', if_neg (by omega), gI_wI', if_neg (by omega)]
