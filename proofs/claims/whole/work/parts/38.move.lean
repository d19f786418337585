theorem mvK (z : MS) (F : Nat → Int32) (x : Int32) (a : Nat) (v y : Int32) : pI (pI (pI (wI z 84 F) 56 49 x) 84 a v) 56 49 y = pI (wI z 84 (upd F a v)) 56 49 y := by
  unfold pI wI gI
  refine Prod.ext (funext fun b => ?_) rfl
  by_cases h1 : b = 84
  · subst h1; rfl
  · by_cases h2 : b = 56
    · subst h2
      show upd (upd (z.1 56) 49 x) 49 y = upd (z.1 56) 49 y
      exact fa_upd_twice _ _ _ _
    · simp only [if_neg h1, if_neg h2]
/-- n numbers of f from t on -/
def mvF (f g : Nat → Int32) (t n : Nat) : Nat → Int32 := fun j => if t ≤ j ∧ j < t + n then f (j - t) else g j
theorem mvF_0 (f g : Nat → Int32) (t : Nat) : mvF f g t 0 = g := funext fun j => if_neg (by omega)
theorem mvF_s (f g : Nat → Int32) (t n : Nat) : upd (mvF f g t n) (t + n) (f n) = mvF f g t (n + 1) := by
  funext j
  rw [upd_a]
  unfold mvF
  by_cases e : j = t + n
  · rw [if_pos e, if_pos (by omega), show j - t = n by omega]
  · rw [if_neg e]
    by_cases c : t ≤ j ∧ j < t + n
    · rw [if_pos c, if_pos (by omega)]
    · rw [if_neg c, if_neg (by omega)]
theorem mvF_in {f g : Nat → Int32} {t n j : Nat} (h : t ≤ j ∧ j < t + n) : mvF f g t n j = f (j - t) := if_pos h
theorem mvF_out {f g : Nat → Int32} {t n j : Nat} (h : ¬ (t ≤ j ∧ j < t + n)) : mvF f g t n j = g j := if_neg h
theorem mvW (z : MS) (x : Int32) (h : gI z 56 49 = x) : pI (wI z 84 (gI z 84)) 56 49 x = z := by
  rw [wI_self]
  exact pI_same _ _ _ _ h
theorem keep_85 (z : MS) {t : Nat} (h : gI z 56 49 = nI t) (ht : t + 4 ≤ 200) : fM_move_85 z 4 1 = some (pI (wI z 84 (mvF (gI z 85) (gI z 84) t 4)) 56 49 (nI (t + 4))) := by
  have key : ∀ (e i f : Nat), i + e = 4 → e < f → fM_move_85_L3 4 1 f (pI (wI z 84 (mvF (gI z 85) (gI z 84) t i)) 56 49 (nI (t + i))) (nI i) = some (pI (wI z 84 (mvF (gI z 85) (gI z 84) t 4)) 56 49 (nI (t + 4))) := by
    intro e
    induction e with
    | zero =>
      intro i f hi hn
      obtain ⟨f, rfl⟩ : ∃ m, f = m + 1 := ⟨f - 1, by omega⟩
      have hi : i = 4 := hi
      subst hi
      rw [fM_move_85_L3, if_pos (show (4 : Int32) ≤ nI 4 from Int32.le_refl _)]
    | succ e ih =>
      intro i f hi hn
      obtain ⟨f, rfl⟩ : ∃ m, f = m + 1 := ⟨f - 1, by omega⟩
      have g49 : ∀ F y, gI (pI (wI z 84 F) 56 49 y) 56 49 = y := fun F y => rfl
      have gk : ∀ F y, gI (pI (wI z 84 F) 56 49 y) 85 i = gI z 85 i := fun F y => rfl
      have g49b : ∀ F y a v, gI (pI (pI (wI z 84 F) 56 49 y) 84 a v) 56 49 = y := fun F y a v => rfl
      rw [fM_move_85_L3, if_neg (show ¬ (4 : Int32) ≤ nI i from nI_ge (b := 4) (by omega) (by omega)), if_neg one_ne, if_neg (ix_ok (show i < 4 by omega) (by omega)), g49, if_neg (ix_ok (show t + i < 200 by omega) (by omega)), nI_clamp (show i < 2 ^ 31 by omega), nI_clamp (show t + i < 2 ^ 31 by omega), gk]
      unfold fM_move_85_J42
      rw [g49b, nI_s, nI_s, mvK, mvF_s]
      exact ih (i + 1) f (by omega) (by omega)
  have := key 4 0 LF rfl (by decide)
  rw [mvF_0, show t + 0 = t from rfl, mvW z _ h] at this
  exact this
theorem again_85 (z : MS) {t : Nat} (h : gI z 56 49 = nI t) (ht : t + 4 ≤ 200) : fM_move_85 z 4 0 = some (pI (wI z 85 (fa_fill (fun j => gI z 84 (t + j)) (gI z 85) 4)) 56 49 (nI (t + 4))) := by
  have key : ∀ (e i f : Nat), i + e = 4 → e < f → fM_move_85_L3 4 0 f (pI (wI z 85 (fa_fill (fun j => gI z 84 (t + j)) (gI z 85) i)) 56 49 (nI (t + i))) (nI i) = some (pI (wI z 85 (fa_fill (fun j => gI z 84 (t + j)) (gI z 85) 4)) 56 49 (nI (t + 4))) := by
    intro e
    induction e with
    | zero =>
      intro i f hi hn
      obtain ⟨f, rfl⟩ : ∃ m, f = m + 1 := ⟨f - 1, by omega⟩
      have hi : i = 4 := hi
      subst hi
      rw [fM_move_85_L3, if_pos (show (4 : Int32) ≤ nI 4 from Int32.le_refl _)]
    | succ e ih =>
      intro i f hi hn
      obtain ⟨f, rfl⟩ : ∃ m, f = m + 1 := ⟨f - 1, by omega⟩
      have g49 : ∀ F y, gI (pI (wI z 85 F) 56 49 y) 56 49 = y := fun F y => rfl
      have gk : ∀ F y a, gI (pI (wI z 85 F) 56 49 y) 84 a = gI z 84 a := fun F y a => rfl
      have g49b : ∀ F y a v, gI (pI (pI (wI z 85 F) 56 49 y) 85 a v) 56 49 = y := fun F y a v => rfl
      have mk : ∀ F x v y, pI (pI (pI (wI z 85 F) 56 49 x) 85 i v) 56 49 y = pI (wI z 85 (upd F i v)) 56 49 y := by
        intro F x v y
        unfold pI wI gI
        refine Prod.ext (funext fun b => ?_) rfl
        by_cases h1 : b = 85
        · subst h1; rfl
        · by_cases h2 : b = 56
          · subst h2
            show upd (upd (z.1 56) 49 x) 49 y = upd (z.1 56) 49 y
            exact fa_upd_twice _ _ _ _
          · simp only [if_neg h1, if_neg h2]
      rw [fM_move_85_L3, if_neg (show ¬ (4 : Int32) ≤ nI i from nI_ge (b := 4) (by omega) (by omega)), if_pos rfl, g49, if_neg (ix_ok (show t + i < 200 by omega) (by omega)), if_neg (ix_ok (show i < 4 by omega) (by omega)), nI_clamp (show i < 2 ^ 31 by omega), nI_clamp (show t + i < 2 ^ 31 by omega), gk]
      unfold fM_move_85_J42
      rw [g49b, nI_s, nI_s, mk, fa_fill_succ (fun j => gI z 84 (t + j)) (gI z 85) i]
      exact ih (i + 1) f (by omega) (by omega)
  have := key 4 0 LF rfl (by decide)
  rw [fa_fill_0, show t + 0 = t from rfl, wI_self, pI_same _ _ _ _ h] at this
  exact this
theorem keep_57 (z : MS) {t : Nat} (h : gI z 56 49 = nI t) (ht : t + 8 ≤ 200) : fM_move_57 z 8 1 = some (pI (wI z 84 (mvF (gI z 57) (gI z 84) t 8)) 56 49 (nI (t + 8))) := by
  have key : ∀ (e i f : Nat), i + e = 8 → e < f → fM_move_57_L3 8 1 f (pI (wI z 84 (mvF (gI z 57) (gI z 84) t i)) 56 49 (nI (t + i))) (nI i) = some (pI (wI z 84 (mvF (gI z 57) (gI z 84) t 8)) 56 49 (nI (t + 8))) := by
    intro e
    induction e with
    | zero =>
      intro i f hi hn
      obtain ⟨f, rfl⟩ : ∃ m, f = m + 1 := ⟨f - 1, by omega⟩
      have hi : i = 8 := hi
      subst hi
      rw [fM_move_57_L3, if_pos (show (8 : Int32) ≤ nI 8 from Int32.le_refl _)]
    | succ e ih =>
      intro i f hi hn
      obtain ⟨f, rfl⟩ : ∃ m, f = m + 1 := ⟨f - 1, by omega⟩
      have g49 : ∀ F y, gI (pI (wI z 84 F) 56 49 y) 56 49 = y := fun F y => rfl
      have gk : ∀ F y, gI (pI (wI z 84 F) 56 49 y) 57 i = gI z 57 i := fun F y => rfl
      have g49b : ∀ F y a v, gI (pI (pI (wI z 84 F) 56 49 y) 84 a v) 56 49 = y := fun F y a v => rfl
      rw [fM_move_57_L3, if_neg (show ¬ (8 : Int32) ≤ nI i from nI_ge (b := 8) (by omega) (by omega)), if_neg one_ne, if_neg (ix_ok (show i < 8 by omega) (by omega)), g49, if_neg (ix_ok (show t + i < 200 by omega) (by omega)), nI_clamp (show i < 2 ^ 31 by omega), nI_clamp (show t + i < 2 ^ 31 by omega), gk]
      unfold fM_move_57_J42
      rw [g49b, nI_s, nI_s, mvK, mvF_s]
      exact ih (i + 1) f (by omega) (by omega)
  have := key 8 0 LF rfl (by decide)
  rw [mvF_0, show t + 0 = t from rfl, mvW z _ h] at this
  exact this
theorem again_57 (z : MS) {t : Nat} (h : gI z 56 49 = nI t) (ht : t + 8 ≤ 200) : fM_move_57 z 8 0 = some (pI (wI z 57 (fa_fill (fun j => gI z 84 (t + j)) (gI z 57) 8)) 56 49 (nI (t + 8))) := by
  have key : ∀ (e i f : Nat), i + e = 8 → e < f → fM_move_57_L3 8 0 f (pI (wI z 57 (fa_fill (fun j => gI z 84 (t + j)) (gI z 57) i)) 56 49 (nI (t + i))) (nI i) = some (pI (wI z 57 (fa_fill (fun j => gI z 84 (t + j)) (gI z 57) 8)) 56 49 (nI (t + 8))) := by
    intro e
    induction e with
    | zero =>
      intro i f hi hn
      obtain ⟨f, rfl⟩ : ∃ m, f = m + 1 := ⟨f - 1, by omega⟩
      have hi : i = 8 := hi
      subst hi
      rw [fM_move_57_L3, if_pos (show (8 : Int32) ≤ nI 8 from Int32.le_refl _)]
    | succ e ih =>
      intro i f hi hn
      obtain ⟨f, rfl⟩ : ∃ m, f = m + 1 := ⟨f - 1, by omega⟩
      have g49 : ∀ F y, gI (pI (wI z 57 F) 56 49 y) 56 49 = y := fun F y => rfl
      have gk : ∀ F y a, gI (pI (wI z 57 F) 56 49 y) 84 a = gI z 84 a := fun F y a => rfl
      have g49b : ∀ F y a v, gI (pI (pI (wI z 57 F) 56 49 y) 57 a v) 56 49 = y := fun F y a v => rfl
      have mk : ∀ F x v y, pI (pI (pI (wI z 57 F) 56 49 x) 57 i v) 56 49 y = pI (wI z 57 (upd F i v)) 56 49 y := by
        intro F x v y
        unfold pI wI gI
        refine Prod.ext (funext fun b => ?_) rfl
        by_cases h1 : b = 57
        · subst h1; rfl
        · by_cases h2 : b = 56
          · subst h2
            show upd (upd (z.1 56) 49 x) 49 y = upd (z.1 56) 49 y
            exact fa_upd_twice _ _ _ _
          · simp only [if_neg h1, if_neg h2]
      rw [fM_move_57_L3, if_neg (show ¬ (8 : Int32) ≤ nI i from nI_ge (b := 8) (by omega) (by omega)), if_pos rfl, g49, if_neg (ix_ok (show t + i < 200 by omega) (by omega)), if_neg (ix_ok (show i < 8 by omega) (by omega)), nI_clamp (show i < 2 ^ 31 by omega), nI_clamp (show t + i < 2 ^ 31 by omega), gk]
      unfold fM_move_57_J42
      rw [g49b, nI_s, nI_s, mk, fa_fill_succ (fun j => gI z 84 (t + j)) (gI z 57) i]
      exact ih (i + 1) f (by omega) (by omega)
  have := key 8 0 LF rfl (by decide)
  rw [fa_fill_0, show t + 0 = t from rfl, wI_self, pI_same _ _ _ _ h] at this
  exact this
theorem keep_58 (z : MS) {t : Nat} (h : gI z 56 49 = nI t) (ht : t + 8 ≤ 200) : fM_move_58 z 8 1 = some (pI (wI z 84 (mvF (gI z 58) (gI z 84) t 8)) 56 49 (nI (t + 8))) := by
  have key : ∀ (e i f : Nat), i + e = 8 → e < f → fM_move_58_L3 8 1 f (pI (wI z 84 (mvF (gI z 58) (gI z 84) t i)) 56 49 (nI (t + i))) (nI i) = some (pI (wI z 84 (mvF (gI z 58) (gI z 84) t 8)) 56 49 (nI (t + 8))) := by
    intro e
    induction e with
    | zero =>
      intro i f hi hn
      obtain ⟨f, rfl⟩ : ∃ m, f = m + 1 := ⟨f - 1, by omega⟩
      have hi : i = 8 := hi
      subst hi
      rw [fM_move_58_L3, if_pos (show (8 : Int32) ≤ nI 8 from Int32.le_refl _)]
    | succ e ih =>
      intro i f hi hn
      obtain ⟨f, rfl⟩ : ∃ m, f = m + 1 := ⟨f - 1, by omega⟩
      have g49 : ∀ F y, gI (pI (wI z 84 F) 56 49 y) 56 49 = y := fun F y => rfl
      have gk : ∀ F y, gI (pI (wI z 84 F) 56 49 y) 58 i = gI z 58 i := fun F y => rfl
      have g49b : ∀ F y a v, gI (pI (pI (wI z 84 F) 56 49 y) 84 a v) 56 49 = y := fun F y a v => rfl
      rw [fM_move_58_L3, if_neg (show ¬ (8 : Int32) ≤ nI i from nI_ge (b := 8) (by omega) (by omega)), if_neg one_ne, if_neg (ix_ok (show i < 8 by omega) (by omega)), g49, if_neg (ix_ok (show t + i < 200 by omega) (by omega)), nI_clamp (show i < 2 ^ 31 by omega), nI_clamp (show t + i < 2 ^ 31 by omega), gk]
      unfold fM_move_58_J42
      rw [g49b, nI_s, nI_s, mvK, mvF_s]
      exact ih (i + 1) f (by omega) (by omega)
  have := key 8 0 LF rfl (by decide)
  rw [mvF_0, show t + 0 = t from rfl, mvW z _ h] at this
  exact this
theorem again_58 (z : MS) {t : Nat} (h : gI z 56 49 = nI t) (ht : t + 8 ≤ 200) : fM_move_58 z 8 0 = some (pI (wI z 58 (fa_fill (fun j => gI z 84 (t + j)) (gI z 58) 8)) 56 49 (nI (t + 8))) := by
  have key : ∀ (e i f : Nat), i + e = 8 → e < f → fM_move_58_L3 8 0 f (pI (wI z 58 (fa_fill (fun j => gI z 84 (t + j)) (gI z 58) i)) 56 49 (nI (t + i))) (nI i) = some (pI (wI z 58 (fa_fill (fun j => gI z 84 (t + j)) (gI z 58) 8)) 56 49 (nI (t + 8))) := by
    intro e
    induction e with
    | zero =>
      intro i f hi hn
      obtain ⟨f, rfl⟩ : ∃ m, f = m + 1 := ⟨f - 1, by omega⟩
      have hi : i = 8 := hi
      subst hi
      rw [fM_move_58_L3, if_pos (show (8 : Int32) ≤ nI 8 from Int32.le_refl _)]
    | succ e ih =>
      intro i f hi hn
      obtain ⟨f, rfl⟩ : ∃ m, f = m + 1 := ⟨f - 1, by omega⟩
      have g49 : ∀ F y, gI (pI (wI z 58 F) 56 49 y) 56 49 = y := fun F y => rfl
      have gk : ∀ F y a, gI (pI (wI z 58 F) 56 49 y) 84 a = gI z 84 a := fun F y a => rfl
      have g49b : ∀ F y a v, gI (pI (pI (wI z 58 F) 56 49 y) 58 a v) 56 49 = y := fun F y a v => rfl
      have mk : ∀ F x v y, pI (pI (pI (wI z 58 F) 56 49 x) 58 i v) 56 49 y = pI (wI z 58 (upd F i v)) 56 49 y := by
        intro F x v y
        unfold pI wI gI
        refine Prod.ext (funext fun b => ?_) rfl
        by_cases h1 : b = 58
        · subst h1; rfl
        · by_cases h2 : b = 56
          · subst h2
            show upd (upd (z.1 56) 49 x) 49 y = upd (z.1 56) 49 y
            exact fa_upd_twice _ _ _ _
          · simp only [if_neg h1, if_neg h2]
      rw [fM_move_58_L3, if_neg (show ¬ (8 : Int32) ≤ nI i from nI_ge (b := 8) (by omega) (by omega)), if_pos rfl, g49, if_neg (ix_ok (show t + i < 200 by omega) (by omega)), if_neg (ix_ok (show i < 8 by omega) (by omega)), nI_clamp (show i < 2 ^ 31 by omega), nI_clamp (show t + i < 2 ^ 31 by omega), gk]
      unfold fM_move_58_J42
      rw [g49b, nI_s, nI_s, mk, fa_fill_succ (fun j => gI z 84 (t + j)) (gI z 58) i]
      exact ih (i + 1) f (by omega) (by omega)
  have := key 8 0 LF rfl (by decide)
  rw [fa_fill_0, show t + 0 = t from rfl, wI_self, pI_same _ _ _ _ h] at this
  exact this
theorem keep_59 (z : MS) {t : Nat} (h : gI z 56 49 = nI t) (ht : t + 64 ≤ 200) : fM_move_59 z 64 1 = some (pI (wI z 84 (mvF (gI z 59) (gI z 84) t 64)) 56 49 (nI (t + 64))) := by
  have key : ∀ (e i f : Nat), i + e = 64 → e < f → fM_move_59_L3 64 1 f (pI (wI z 84 (mvF (gI z 59) (gI z 84) t i)) 56 49 (nI (t + i))) (nI i) = some (pI (wI z 84 (mvF (gI z 59) (gI z 84) t 64)) 56 49 (nI (t + 64))) := by
    intro e
    induction e with
    | zero =>
      intro i f hi hn
      obtain ⟨f, rfl⟩ : ∃ m, f = m + 1 := ⟨f - 1, by omega⟩
      have hi : i = 64 := hi
      subst hi
      rw [fM_move_59_L3, if_pos (show (64 : Int32) ≤ nI 64 from Int32.le_refl _)]
    | succ e ih =>
      intro i f hi hn
      obtain ⟨f, rfl⟩ : ∃ m, f = m + 1 := ⟨f - 1, by omega⟩
      have g49 : ∀ F y, gI (pI (wI z 84 F) 56 49 y) 56 49 = y := fun F y => rfl
      have gk : ∀ F y, gI (pI (wI z 84 F) 56 49 y) 59 i = gI z 59 i := fun F y => rfl
      have g49b : ∀ F y a v, gI (pI (pI (wI z 84 F) 56 49 y) 84 a v) 56 49 = y := fun F y a v => rfl
      rw [fM_move_59_L3, if_neg (show ¬ (64 : Int32) ≤ nI i from nI_ge (b := 64) (by omega) (by omega)), if_neg one_ne, if_neg (ix_ok (show i < 64 by omega) (by omega)), g49, if_neg (ix_ok (show t + i < 200 by omega) (by omega)), nI_clamp (show i < 2 ^ 31 by omega), nI_clamp (show t + i < 2 ^ 31 by omega), gk]
      unfold fM_move_59_J42
      rw [g49b, nI_s, nI_s, mvK, mvF_s]
      exact ih (i + 1) f (by omega) (by omega)
  have := key 64 0 LF rfl (by decide)
  rw [mvF_0, show t + 0 = t from rfl, mvW z _ h] at this
  exact this
theorem again_59 (z : MS) {t : Nat} (h : gI z 56 49 = nI t) (ht : t + 64 ≤ 200) : fM_move_59 z 64 0 = some (pI (wI z 59 (fa_fill (fun j => gI z 84 (t + j)) (gI z 59) 64)) 56 49 (nI (t + 64))) := by
  have key : ∀ (e i f : Nat), i + e = 64 → e < f → fM_move_59_L3 64 0 f (pI (wI z 59 (fa_fill (fun j => gI z 84 (t + j)) (gI z 59) i)) 56 49 (nI (t + i))) (nI i) = some (pI (wI z 59 (fa_fill (fun j => gI z 84 (t + j)) (gI z 59) 64)) 56 49 (nI (t + 64))) := by
    intro e
    induction e with
    | zero =>
      intro i f hi hn
      obtain ⟨f, rfl⟩ : ∃ m, f = m + 1 := ⟨f - 1, by omega⟩
      have hi : i = 64 := hi
      subst hi
      rw [fM_move_59_L3, if_pos (show (64 : Int32) ≤ nI 64 from Int32.le_refl _)]
    | succ e ih =>
      intro i f hi hn
      obtain ⟨f, rfl⟩ : ∃ m, f = m + 1 := ⟨f - 1, by omega⟩
      have g49 : ∀ F y, gI (pI (wI z 59 F) 56 49 y) 56 49 = y := fun F y => rfl
      have gk : ∀ F y a, gI (pI (wI z 59 F) 56 49 y) 84 a = gI z 84 a := fun F y a => rfl
      have g49b : ∀ F y a v, gI (pI (pI (wI z 59 F) 56 49 y) 59 a v) 56 49 = y := fun F y a v => rfl
      have mk : ∀ F x v y, pI (pI (pI (wI z 59 F) 56 49 x) 59 i v) 56 49 y = pI (wI z 59 (upd F i v)) 56 49 y := by
        intro F x v y
        unfold pI wI gI
        refine Prod.ext (funext fun b => ?_) rfl
        by_cases h1 : b = 59
        · subst h1; rfl
        · by_cases h2 : b = 56
          · subst h2
            show upd (upd (z.1 56) 49 x) 49 y = upd (z.1 56) 49 y
            exact fa_upd_twice _ _ _ _
          · simp only [if_neg h1, if_neg h2]
      rw [fM_move_59_L3, if_neg (show ¬ (64 : Int32) ≤ nI i from nI_ge (b := 64) (by omega) (by omega)), if_pos rfl, g49, if_neg (ix_ok (show t + i < 200 by omega) (by omega)), if_neg (ix_ok (show i < 64 by omega) (by omega)), nI_clamp (show i < 2 ^ 31 by omega), nI_clamp (show t + i < 2 ^ 31 by omega), gk]
      unfold fM_move_59_J42
      rw [g49b, nI_s, nI_s, mk, fa_fill_succ (fun j => gI z 84 (t + j)) (gI z 59) i]
      exact ih (i + 1) f (by omega) (by omega)
  have := key 64 0 LF rfl (by decide)
  rw [fa_fill_0, show t + 0 = t from rfl, wI_self, pI_same _ _ _ _ h] at this
  exact this
theorem keep_60 (z : MS) {t : Nat} (h : gI z 56 49 = nI t) (ht : t + 40 ≤ 200) : fM_move_60 z 40 1 = some (pI (wI z 84 (mvF (gI z 60) (gI z 84) t 40)) 56 49 (nI (t + 40))) := by
  have key : ∀ (e i f : Nat), i + e = 40 → e < f → fM_move_60_L3 40 1 f (pI (wI z 84 (mvF (gI z 60) (gI z 84) t i)) 56 49 (nI (t + i))) (nI i) = some (pI (wI z 84 (mvF (gI z 60) (gI z 84) t 40)) 56 49 (nI (t + 40))) := by
    intro e
    induction e with
    | zero =>
      intro i f hi hn
      obtain ⟨f, rfl⟩ : ∃ m, f = m + 1 := ⟨f - 1, by omega⟩
      have hi : i = 40 := hi
      subst hi
      rw [fM_move_60_L3, if_pos (show (40 : Int32) ≤ nI 40 from Int32.le_refl _)]
    | succ e ih =>
      intro i f hi hn
      obtain ⟨f, rfl⟩ : ∃ m, f = m + 1 := ⟨f - 1, by omega⟩
      have g49 : ∀ F y, gI (pI (wI z 84 F) 56 49 y) 56 49 = y := fun F y => rfl
      have gk : ∀ F y, gI (pI (wI z 84 F) 56 49 y) 60 i = gI z 60 i := fun F y => rfl
      have g49b : ∀ F y a v, gI (pI (pI (wI z 84 F) 56 49 y) 84 a v) 56 49 = y := fun F y a v => rfl
      rw [fM_move_60_L3, if_neg (show ¬ (40 : Int32) ≤ nI i from nI_ge (b := 40) (by omega) (by omega)), if_neg one_ne, if_neg (ix_ok (show i < 40 by omega) (by omega)), g49, if_neg (ix_ok (show t + i < 200 by omega) (by omega)), nI_clamp (show i < 2 ^ 31 by omega), nI_clamp (show t + i < 2 ^ 31 by omega), gk]
      unfold fM_move_60_J42
      rw [g49b, nI_s, nI_s, mvK, mvF_s]
      exact ih (i + 1) f (by omega) (by omega)
  have := key 40 0 LF rfl (by decide)
  rw [mvF_0, show t + 0 = t from rfl, mvW z _ h] at this
  exact this
theorem again_60 (z : MS) {t : Nat} (h : gI z 56 49 = nI t) (ht : t + 40 ≤ 200) : fM_move_60 z 40 0 = some (pI (wI z 60 (fa_fill (fun j => gI z 84 (t + j)) (gI z 60) 40)) 56 49 (nI (t + 40))) := by
  have key : ∀ (e i f : Nat), i + e = 40 → e < f → fM_move_60_L3 40 0 f (pI (wI z 60 (fa_fill (fun j => gI z 84 (t + j)) (gI z 60) i)) 56 49 (nI (t + i))) (nI i) = some (pI (wI z 60 (fa_fill (fun j => gI z 84 (t + j)) (gI z 60) 40)) 56 49 (nI (t + 40))) := by
    intro e
    induction e with
    | zero =>
      intro i f hi hn
      obtain ⟨f, rfl⟩ : ∃ m, f = m + 1 := ⟨f - 1, by omega⟩
      have hi : i = 40 := hi
      subst hi
      rw [fM_move_60_L3, if_pos (show (40 : Int32) ≤ nI 40 from Int32.le_refl _)]
    | succ e ih =>
      intro i f hi hn
      obtain ⟨f, rfl⟩ : ∃ m, f = m + 1 := ⟨f - 1, by omega⟩
      have g49 : ∀ F y, gI (pI (wI z 60 F) 56 49 y) 56 49 = y := fun F y => rfl
      have gk : ∀ F y a, gI (pI (wI z 60 F) 56 49 y) 84 a = gI z 84 a := fun F y a => rfl
      have g49b : ∀ F y a v, gI (pI (pI (wI z 60 F) 56 49 y) 60 a v) 56 49 = y := fun F y a v => rfl
      have mk : ∀ F x v y, pI (pI (pI (wI z 60 F) 56 49 x) 60 i v) 56 49 y = pI (wI z 60 (upd F i v)) 56 49 y := by
        intro F x v y
        unfold pI wI gI
        refine Prod.ext (funext fun b => ?_) rfl
        by_cases h1 : b = 60
        · subst h1; rfl
        · by_cases h2 : b = 56
          · subst h2
            show upd (upd (z.1 56) 49 x) 49 y = upd (z.1 56) 49 y
            exact fa_upd_twice _ _ _ _
          · simp only [if_neg h1, if_neg h2]
      rw [fM_move_60_L3, if_neg (show ¬ (40 : Int32) ≤ nI i from nI_ge (b := 40) (by omega) (by omega)), if_pos rfl, g49, if_neg (ix_ok (show t + i < 200 by omega) (by omega)), if_neg (ix_ok (show i < 40 by omega) (by omega)), nI_clamp (show i < 2 ^ 31 by omega), nI_clamp (show t + i < 2 ^ 31 by omega), gk]
      unfold fM_move_60_J42
      rw [g49b, nI_s, nI_s, mk, fa_fill_succ (fun j => gI z 84 (t + j)) (gI z 60) i]
      exact ih (i + 1) f (by omega) (by omega)
  have := key 40 0 LF rfl (by decide)
  rw [fa_fill_0, show t + 0 = t from rfl, wI_self, pI_same _ _ _ _ h] at this
  exact this
theorem keep_61 (z : MS) {t : Nat} (h : gI z 56 49 = nI t) (ht : t + 10 ≤ 200) : fM_move_61 z 10 1 = some (pI (wI z 84 (mvF (gI z 61) (gI z 84) t 10)) 56 49 (nI (t + 10))) := by
  have key : ∀ (e i f : Nat), i + e = 10 → e < f → fM_move_61_L3 10 1 f (pI (wI z 84 (mvF (gI z 61) (gI z 84) t i)) 56 49 (nI (t + i))) (nI i) = some (pI (wI z 84 (mvF (gI z 61) (gI z 84) t 10)) 56 49 (nI (t + 10))) := by
    intro e
    induction e with
    | zero =>
      intro i f hi hn
      obtain ⟨f, rfl⟩ : ∃ m, f = m + 1 := ⟨f - 1, by omega⟩
      have hi : i = 10 := hi
      subst hi
      rw [fM_move_61_L3, if_pos (show (10 : Int32) ≤ nI 10 from Int32.le_refl _)]
    | succ e ih =>
      intro i f hi hn
      obtain ⟨f, rfl⟩ : ∃ m, f = m + 1 := ⟨f - 1, by omega⟩
      have g49 : ∀ F y, gI (pI (wI z 84 F) 56 49 y) 56 49 = y := fun F y => rfl
      have gk : ∀ F y, gI (pI (wI z 84 F) 56 49 y) 61 i = gI z 61 i := fun F y => rfl
      have g49b : ∀ F y a v, gI (pI (pI (wI z 84 F) 56 49 y) 84 a v) 56 49 = y := fun F y a v => rfl
      rw [fM_move_61_L3, if_neg (show ¬ (10 : Int32) ≤ nI i from nI_ge (b := 10) (by omega) (by omega)), if_neg one_ne, if_neg (ix_ok (show i < 10 by omega) (by omega)), g49, if_neg (ix_ok (show t + i < 200 by omega) (by omega)), nI_clamp (show i < 2 ^ 31 by omega), nI_clamp (show t + i < 2 ^ 31 by omega), gk]
      unfold fM_move_61_J42
      rw [g49b, nI_s, nI_s, mvK, mvF_s]
      exact ih (i + 1) f (by omega) (by omega)
  have := key 10 0 LF rfl (by decide)
  rw [mvF_0, show t + 0 = t from rfl, mvW z _ h] at this
  exact this
theorem again_61 (z : MS) {t : Nat} (h : gI z 56 49 = nI t) (ht : t + 10 ≤ 200) : fM_move_61 z 10 0 = some (pI (wI z 61 (fa_fill (fun j => gI z 84 (t + j)) (gI z 61) 10)) 56 49 (nI (t + 10))) := by
  have key : ∀ (e i f : Nat), i + e = 10 → e < f → fM_move_61_L3 10 0 f (pI (wI z 61 (fa_fill (fun j => gI z 84 (t + j)) (gI z 61) i)) 56 49 (nI (t + i))) (nI i) = some (pI (wI z 61 (fa_fill (fun j => gI z 84 (t + j)) (gI z 61) 10)) 56 49 (nI (t + 10))) := by
    intro e
    induction e with
    | zero =>
      intro i f hi hn
      obtain ⟨f, rfl⟩ : ∃ m, f = m + 1 := ⟨f - 1, by omega⟩
      have hi : i = 10 := hi
      subst hi
      rw [fM_move_61_L3, if_pos (show (10 : Int32) ≤ nI 10 from Int32.le_refl _)]
    | succ e ih =>
      intro i f hi hn
      obtain ⟨f, rfl⟩ : ∃ m, f = m + 1 := ⟨f - 1, by omega⟩
      have g49 : ∀ F y, gI (pI (wI z 61 F) 56 49 y) 56 49 = y := fun F y => rfl
      have gk : ∀ F y a, gI (pI (wI z 61 F) 56 49 y) 84 a = gI z 84 a := fun F y a => rfl
      have g49b : ∀ F y a v, gI (pI (pI (wI z 61 F) 56 49 y) 61 a v) 56 49 = y := fun F y a v => rfl
      have mk : ∀ F x v y, pI (pI (pI (wI z 61 F) 56 49 x) 61 i v) 56 49 y = pI (wI z 61 (upd F i v)) 56 49 y := by
        intro F x v y
        unfold pI wI gI
        refine Prod.ext (funext fun b => ?_) rfl
        by_cases h1 : b = 61
        · subst h1; rfl
        · by_cases h2 : b = 56
          · subst h2
            show upd (upd (z.1 56) 49 x) 49 y = upd (z.1 56) 49 y
            exact fa_upd_twice _ _ _ _
          · simp only [if_neg h1, if_neg h2]
      rw [fM_move_61_L3, if_neg (show ¬ (10 : Int32) ≤ nI i from nI_ge (b := 10) (by omega) (by omega)), if_pos rfl, g49, if_neg (ix_ok (show t + i < 200 by omega) (by omega)), if_neg (ix_ok (show i < 10 by omega) (by omega)), nI_clamp (show i < 2 ^ 31 by omega), nI_clamp (show t + i < 2 ^ 31 by omega), gk]
      unfold fM_move_61_J42
      rw [g49b, nI_s, nI_s, mk, fa_fill_succ (fun j => gI z 84 (t + j)) (gI z 61) i]
      exact ih (i + 1) f (by omega) (by omega)
  have := key 10 0 LF rfl (by decide)
  rw [fa_fill_0, show t + 0 = t from rfl, wI_self, pI_same _ _ _ _ h] at this
  exact this
theorem keep_62 (z : MS) {t : Nat} (h : gI z 56 49 = nI t) (ht : t + 8 ≤ 200) : fM_move_62 z 8 1 = some (pI (wI z 84 (mvF (gI z 62) (gI z 84) t 8)) 56 49 (nI (t + 8))) := by
  have key : ∀ (e i f : Nat), i + e = 8 → e < f → fM_move_62_L3 8 1 f (pI (wI z 84 (mvF (gI z 62) (gI z 84) t i)) 56 49 (nI (t + i))) (nI i) = some (pI (wI z 84 (mvF (gI z 62) (gI z 84) t 8)) 56 49 (nI (t + 8))) := by
    intro e
    induction e with
    | zero =>
      intro i f hi hn
      obtain ⟨f, rfl⟩ : ∃ m, f = m + 1 := ⟨f - 1, by omega⟩
      have hi : i = 8 := hi
      subst hi
      rw [fM_move_62_L3, if_pos (show (8 : Int32) ≤ nI 8 from Int32.le_refl _)]
    | succ e ih =>
      intro i f hi hn
      obtain ⟨f, rfl⟩ : ∃ m, f = m + 1 := ⟨f - 1, by omega⟩
      have g49 : ∀ F y, gI (pI (wI z 84 F) 56 49 y) 56 49 = y := fun F y => rfl
      have gk : ∀ F y, gI (pI (wI z 84 F) 56 49 y) 62 i = gI z 62 i := fun F y => rfl
      have g49b : ∀ F y a v, gI (pI (pI (wI z 84 F) 56 49 y) 84 a v) 56 49 = y := fun F y a v => rfl
      rw [fM_move_62_L3, if_neg (show ¬ (8 : Int32) ≤ nI i from nI_ge (b := 8) (by omega) (by omega)), if_neg one_ne, if_neg (ix_ok (show i < 8 by omega) (by omega)), g49, if_neg (ix_ok (show t + i < 200 by omega) (by omega)), nI_clamp (show i < 2 ^ 31 by omega), nI_clamp (show t + i < 2 ^ 31 by omega), gk]
      unfold fM_move_62_J42
      rw [g49b, nI_s, nI_s, mvK, mvF_s]
      exact ih (i + 1) f (by omega) (by omega)
  have := key 8 0 LF rfl (by decide)
  rw [mvF_0, show t + 0 = t from rfl, mvW z _ h] at this
  exact this
theorem again_62 (z : MS) {t : Nat} (h : gI z 56 49 = nI t) (ht : t + 8 ≤ 200) : fM_move_62 z 8 0 = some (pI (wI z 62 (fa_fill (fun j => gI z 84 (t + j)) (gI z 62) 8)) 56 49 (nI (t + 8))) := by
  have key : ∀ (e i f : Nat), i + e = 8 → e < f → fM_move_62_L3 8 0 f (pI (wI z 62 (fa_fill (fun j => gI z 84 (t + j)) (gI z 62) i)) 56 49 (nI (t + i))) (nI i) = some (pI (wI z 62 (fa_fill (fun j => gI z 84 (t + j)) (gI z 62) 8)) 56 49 (nI (t + 8))) := by
    intro e
    induction e with
    | zero =>
      intro i f hi hn
      obtain ⟨f, rfl⟩ : ∃ m, f = m + 1 := ⟨f - 1, by omega⟩
      have hi : i = 8 := hi
      subst hi
      rw [fM_move_62_L3, if_pos (show (8 : Int32) ≤ nI 8 from Int32.le_refl _)]
    | succ e ih =>
      intro i f hi hn
      obtain ⟨f, rfl⟩ : ∃ m, f = m + 1 := ⟨f - 1, by omega⟩
      have g49 : ∀ F y, gI (pI (wI z 62 F) 56 49 y) 56 49 = y := fun F y => rfl
      have gk : ∀ F y a, gI (pI (wI z 62 F) 56 49 y) 84 a = gI z 84 a := fun F y a => rfl
      have g49b : ∀ F y a v, gI (pI (pI (wI z 62 F) 56 49 y) 62 a v) 56 49 = y := fun F y a v => rfl
      have mk : ∀ F x v y, pI (pI (pI (wI z 62 F) 56 49 x) 62 i v) 56 49 y = pI (wI z 62 (upd F i v)) 56 49 y := by
        intro F x v y
        unfold pI wI gI
        refine Prod.ext (funext fun b => ?_) rfl
        by_cases h1 : b = 62
        · subst h1; rfl
        · by_cases h2 : b = 56
          · subst h2
            show upd (upd (z.1 56) 49 x) 49 y = upd (z.1 56) 49 y
            exact fa_upd_twice _ _ _ _
          · simp only [if_neg h1, if_neg h2]
      rw [fM_move_62_L3, if_neg (show ¬ (8 : Int32) ≤ nI i from nI_ge (b := 8) (by omega) (by omega)), if_pos rfl, g49, if_neg (ix_ok (show t + i < 200 by omega) (by omega)), if_neg (ix_ok (show i < 8 by omega) (by omega)), nI_clamp (show i < 2 ^ 31 by omega), nI_clamp (show t + i < 2 ^ 31 by omega), gk]
      unfold fM_move_62_J42
      rw [g49b, nI_s, nI_s, mk, fa_fill_succ (fun j => gI z 84 (t + j)) (gI z 62) i]
      exact ih (i + 1) f (by omega) (by omega)
  have := key 8 0 LF rfl (by decide)
  rw [fa_fill_0, show t + 0 = t from rfl, wI_self, pI_same _ _ _ _ h] at this
  exact this
theorem keep_64 (z : MS) {t : Nat} (h : gI z 56 49 = nI t) (ht : t + 8 ≤ 200) : fM_move_64 z 8 1 = some (pI (wI z 84 (mvF (gI z 64) (gI z 84) t 8)) 56 49 (nI (t + 8))) := by
  have key : ∀ (e i f : Nat), i + e = 8 → e < f → fM_move_64_L3 8 1 f (pI (wI z 84 (mvF (gI z 64) (gI z 84) t i)) 56 49 (nI (t + i))) (nI i) = some (pI (wI z 84 (mvF (gI z 64) (gI z 84) t 8)) 56 49 (nI (t + 8))) := by
    intro e
    induction e with
    | zero =>
      intro i f hi hn
      obtain ⟨f, rfl⟩ : ∃ m, f = m + 1 := ⟨f - 1, by omega⟩
      have hi : i = 8 := hi
      subst hi
      rw [fM_move_64_L3, if_pos (show (8 : Int32) ≤ nI 8 from Int32.le_refl _)]
    | succ e ih =>
      intro i f hi hn
      obtain ⟨f, rfl⟩ : ∃ m, f = m + 1 := ⟨f - 1, by omega⟩
      have g49 : ∀ F y, gI (pI (wI z 84 F) 56 49 y) 56 49 = y := fun F y => rfl
      have gk : ∀ F y, gI (pI (wI z 84 F) 56 49 y) 64 i = gI z 64 i := fun F y => rfl
      have g49b : ∀ F y a v, gI (pI (pI (wI z 84 F) 56 49 y) 84 a v) 56 49 = y := fun F y a v => rfl
      rw [fM_move_64_L3, if_neg (show ¬ (8 : Int32) ≤ nI i from nI_ge (b := 8) (by omega) (by omega)), if_neg one_ne, if_neg (ix_ok (show i < 8 by omega) (by omega)), g49, if_neg (ix_ok (show t + i < 200 by omega) (by omega)), nI_clamp (show i < 2 ^ 31 by omega), nI_clamp (show t + i < 2 ^ 31 by omega), gk]
      unfold fM_move_64_J42
      rw [g49b, nI_s, nI_s, mvK, mvF_s]
      exact ih (i + 1) f (by omega) (by omega)
  have := key 8 0 LF rfl (by decide)
  rw [mvF_0, show t + 0 = t from rfl, mvW z _ h] at this
  exact this
theorem again_64 (z : MS) {t : Nat} (h : gI z 56 49 = nI t) (ht : t + 8 ≤ 200) : fM_move_64 z 8 0 = some (pI (wI z 64 (fa_fill (fun j => gI z 84 (t + j)) (gI z 64) 8)) 56 49 (nI (t + 8))) := by
  have key : ∀ (e i f : Nat), i + e = 8 → e < f → fM_move_64_L3 8 0 f (pI (wI z 64 (fa_fill (fun j => gI z 84 (t + j)) (gI z 64) i)) 56 49 (nI (t + i))) (nI i) = some (pI (wI z 64 (fa_fill (fun j => gI z 84 (t + j)) (gI z 64) 8)) 56 49 (nI (t + 8))) := by
    intro e
    induction e with
    | zero =>
      intro i f hi hn
      obtain ⟨f, rfl⟩ : ∃ m, f = m + 1 := ⟨f - 1, by omega⟩
      have hi : i = 8 := hi
      subst hi
      rw [fM_move_64_L3, if_pos (show (8 : Int32) ≤ nI 8 from Int32.le_refl _)]
    | succ e ih =>
      intro i f hi hn
      obtain ⟨f, rfl⟩ : ∃ m, f = m + 1 := ⟨f - 1, by omega⟩
      have g49 : ∀ F y, gI (pI (wI z 64 F) 56 49 y) 56 49 = y := fun F y => rfl
      have gk : ∀ F y a, gI (pI (wI z 64 F) 56 49 y) 84 a = gI z 84 a := fun F y a => rfl
      have g49b : ∀ F y a v, gI (pI (pI (wI z 64 F) 56 49 y) 64 a v) 56 49 = y := fun F y a v => rfl
      have mk : ∀ F x v y, pI (pI (pI (wI z 64 F) 56 49 x) 64 i v) 56 49 y = pI (wI z 64 (upd F i v)) 56 49 y := by
        intro F x v y
        unfold pI wI gI
        refine Prod.ext (funext fun b => ?_) rfl
        by_cases h1 : b = 64
        · subst h1; rfl
        · by_cases h2 : b = 56
          · subst h2
            show upd (upd (z.1 56) 49 x) 49 y = upd (z.1 56) 49 y
            exact fa_upd_twice _ _ _ _
          · simp only [if_neg h1, if_neg h2]
      rw [fM_move_64_L3, if_neg (show ¬ (8 : Int32) ≤ nI i from nI_ge (b := 8) (by omega) (by omega)), if_pos rfl, g49, if_neg (ix_ok (show t + i < 200 by omega) (by omega)), if_neg (ix_ok (show i < 8 by omega) (by omega)), nI_clamp (show i < 2 ^ 31 by omega), nI_clamp (show t + i < 2 ^ 31 by omega), gk]
      unfold fM_move_64_J42
      rw [g49b, nI_s, nI_s, mk, fa_fill_succ (fun j => gI z 84 (t + j)) (gI z 64) i]
      exact ih (i + 1) f (by omega) (by omega)
  have := key 8 0 LF rfl (by decide)
  rw [fa_fill_0, show t + 0 = t from rfl, wI_self, pI_same _ _ _ _ h] at this
  exact this
