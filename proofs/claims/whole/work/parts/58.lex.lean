/-- from a on as long as P holds, l at most -/
def rnE (P : Nat → Bool) : Nat → Nat → Nat
  | 0, a => a
  | d + 1, a => if P a then rnE P d (a + 1) else a
def rnT (P : Nat → Bool) (l a : Nat) : Nat := rnE P (l - a) a
theorem rnT_y {P : Nat → Bool} {l a : Nat} (h : a < l) (hp : P a = true) : rnT P l a = rnT P l (a + 1) := by
  unfold rnT
  obtain ⟨d, hd⟩ : ∃ d, l - a = d + 1 := ⟨l - a - 1, by omega⟩
  rw [hd, rnE, hp, if_pos rfl, show l - (a + 1) = d by omega]
theorem rnT_n {P : Nat → Bool} {l a : Nat} (h : ¬ (a < l ∧ P a = true)) : rnT P l a = a := by
  unfold rnT
  by_cases c : a < l
  · obtain ⟨d, hd⟩ : ∃ d, l - a = d + 1 := ⟨l - a - 1, by omega⟩
    have hp : P a = false := by
      cases e : P a with
      | false => rfl
      | true => exact absurd ⟨c, e⟩ h
    rw [hd, rnE, hp, if_neg ftn]
  · rw [show l - a = 0 by omega]
    rfl
theorem rnT_ge (P : Nat → Bool) (l : Nat) : ∀ e a, l - a = e → a ≤ rnT P l a ∧ (a ≤ l → rnT P l a ≤ l) := by
  intro e
  induction e with
  | zero =>
    intro a h
    rw [rnT_n (by omega)]
    exact ⟨Nat.le_refl _, fun h => h⟩
  | succ e ih =>
    intro a h
    by_cases c : a < l ∧ P a = true
    · rw [rnT_y c.1 c.2]
      have := ih (a + 1) (by omega)
      exact ⟨by omega, fun _ => this.2 (by omega)⟩
    · rw [rnT_n c]
      exact ⟨Nat.le_refl _, fun h => h⟩
theorem rnT_ge' (P : Nat → Bool) (l a : Nat) : a ≤ rnT P l a := (rnT_ge P l _ a rfl).1
theorem rnT_le (P : Nat → Bool) (l a : Nat) (h : a ≤ l) : rnT P l a ≤ l := (rnT_ge P l _ a rfl).2 h
theorem rnT_in (P : Nat → Bool) (l : Nat) : ∀ e a, l - a = e → ∀ i, a ≤ i → i < rnT P l a → i < l ∧ P i = true := by
  intro e
  induction e with
  | zero =>
    intro a h i h1 h2
    rw [rnT_n (by omega)] at h2
    omega
  | succ e ih =>
    intro a h i h1 h2
    by_cases c : a < l ∧ P a = true
    · rw [rnT_y c.1 c.2] at h2
      by_cases ci : i = a
      · subst ci; exact c
      · exact ih (a + 1) (by omega) i (by omega) h2
    · rw [rnT_n c] at h2
      omega
theorem rnT_end (P : Nat → Bool) (l : Nat) : ∀ e a, l - a = e → ¬ (rnT P l a < l ∧ P (rnT P l a) = true) := by
  intro e
  induction e with
  | zero =>
    intro a h
    rw [rnT_n (by omega)]
    omega
  | succ e ih =>
    intro a h
    by_cases c : a < l ∧ P a = true
    · rw [rnT_y c.1 c.2]
      exact ih (a + 1) (by omega)
    · rw [rnT_n c]
      exact c
/-- blanks, letters, digits -/
def isB (B : Nat → Int32) (i : Nat) : Bool := decide (cl (B i) = 32)
def isL (B : Nat → Int32) (i : Nat) : Bool := decide (97 ≤ cl (B i)) && decide (cl (B i) ≤ 122)
def isD (B : Nat → Int32) (i : Nat) : Bool := decide (48 ≤ cl (B i)) && decide (cl (B i) ≤ 57)
def skB (B : Nat → Int32) (l a : Nat) : Nat := rnT (isB B) l a
def enW (B : Nat → Int32) (l a : Nat) : Nat := rnT (isL B) l a
def enD (B : Nat → Int32) (l a : Nat) : Nat := rnT (isD B) l a
theorem skB_skB (B : Nat → Int32) (l a : Nat) : skB B l (skB B l a) = skB B l a := rnT_n (rnT_end (isB B) l _ a rfl)
/-- the class' memory while it reads -/
def dh (z : MS) (a : Nat) (ft : Int32) (n : Nat) (K A T G : Nat → Int32) : MS := wI (wI (wI (wI (wI (wI z 8 (upd (upd (gI z 8) 3 (nI a)) 4 ft)) 10 (upd (gI z 10) 0 (nI n))) 11 K) 12 A) 13 T) 14 G
theorem dh_at (z : MS) (a b : Nat) (ft : Int32) (n : Nat) (K A T G : Nat → Int32) : pI (dh z a ft n K A T G) 8 3 (nI b) = dh z b ft n K A T G := by
  unfold dh pI wI gI
  refine Prod.ext (funext fun x => ?_) rfl
  by_cases h1 : x = 8
  · subst h1
    show upd (upd (upd (z.1 8) 3 (nI a)) 4 ft) 3 (nI b) = upd (upd (z.1 8) 3 (nI b)) 4 ft
    rw [fa_upd_swap _ (show (4 : Nat) ≠ 3 by decide), fa_upd_twice]
  · simp only [if_neg h1]
theorem dh_ft (z : MS) (a : Nat) (ft v : Int32) (n : Nat) (K A T G : Nat → Int32) : pI (dh z a ft n K A T G) 8 4 v = dh z a v n K A T G := by
  unfold dh pI wI gI
  refine Prod.ext (funext fun x => ?_) rfl
  by_cases h1 : x = 8
  · subst h1
    show upd (upd (upd (z.1 8) 3 (nI a)) 4 ft) 4 v = upd (upd (z.1 8) 3 (nI a)) 4 v
    rw [fa_upd_twice]
  · simp only [if_neg h1]
theorem dh_n (z : MS) (a : Nat) (ft : Int32) (n m : Nat) (K A T G : Nat → Int32) : pI (dh z a ft n K A T G) 10 0 (nI m) = dh z a ft m K A T G := by
  unfold dh pI wI gI
  refine Prod.ext (funext fun x => ?_) rfl
  by_cases h1 : x = 10
  · subst h1
    show upd (upd (z.1 10) 0 (nI n)) 0 (nI m) = upd (z.1 10) 0 (nI m)
    rw [fa_upd_twice]
  · simp only [if_neg h1]
theorem dh_K (z : MS) (a : Nat) (ft : Int32) (n : Nat) (K A T G : Nat → Int32) (i : Nat) (v : Int32) : pI (dh z a ft n K A T G) 11 i v = dh z a ft n (upd K i v) A T G := by
  unfold dh pI wI gI
  refine Prod.ext (funext fun x => ?_) rfl
  by_cases h1 : x = 11
  · subst h1; rfl
  · simp only [if_neg h1]
theorem dh_A (z : MS) (a : Nat) (ft : Int32) (n : Nat) (K A T G : Nat → Int32) (i : Nat) (v : Int32) : pI (dh z a ft n K A T G) 12 i v = dh z a ft n K (upd A i v) T G := by
  unfold dh pI wI gI
  refine Prod.ext (funext fun x => ?_) rfl
  by_cases h1 : x = 12
  · subst h1; rfl
  · simp only [if_neg h1]
theorem dh_T (z : MS) (a : Nat) (ft : Int32) (n : Nat) (K A T G : Nat → Int32) (i : Nat) (v : Int32) : pI (dh z a ft n K A T G) 13 i v = dh z a ft n K A (upd T i v) G := by
  unfold dh pI wI gI
  refine Prod.ext (funext fun x => ?_) rfl
  by_cases h1 : x = 13
  · subst h1; rfl
  · simp only [if_neg h1]
theorem dh_G (z : MS) (a : Nat) (ft : Int32) (n : Nat) (K A T G : Nat → Int32) (i : Nat) (v : Int32) : pI (dh z a ft n K A T G) 14 i v = dh z a ft n K A T (upd G i v) := pI_wI _ _ _ _ _
/-- the tape of the class -/
def tpC (z : MS) (B : Nat → Int32) (l : Nat) : Prop := gI z 9 = B ∧ gI z 8 2 = nI l ∧ l ≤ 200 ∧ ∀ i, i < 200 → lt (B i) 256
theorem dh_g (z : MS) (a : Nat) (ft : Int32) (n : Nat) (K A T G : Nat → Int32) : gI (dh z a ft n K A T G) 8 3 = nI a ∧ gI (dh z a ft n K A T G) 8 4 = ft ∧ gI (dh z a ft n K A T G) 8 2 = gI z 8 2 ∧ gI (dh z a ft n K A T G) 9 = gI z 9 ∧ gI (dh z a ft n K A T G) 10 0 = nI n ∧ gI (dh z a ft n K A T G) 11 = K ∧ gI (dh z a ft n K A T G) 12 = A ∧ gI (dh z a ft n K A T G) 13 = T ∧ gI (dh z a ft n K A T G) 14 = G := ⟨rfl, rfl, rfl, rfl, rfl, rfl, rfl, rfl, rfl⟩
theorem by_eq {B : Nat → Int32} (hB : ∀ i, i < 200 → lt (B i) 256) {i : Nat} (hi : i < 200) : B i = nI (cl (B i)) ∧ cl (B i) < 256 := hB i hi
theorem skip_c {z : MS} {B : Nat → Int32} {l : Nat} (hz : tpC z B l) (ft : Int32) (n : Nat) (K A T G : Nat → Int32) : ∀ (e a f : Nat), l - a ≤ e → e < f → a < 1000 → fTape_skipBlanks_L0 f (dh z a ft n K A T G) = some (dh z (skB B l a) ft n K A T G) := by
  obtain ⟨h9, h8, hl, hB⟩ := hz
  intro e
  induction e with
  | zero =>
    intro a f he hf ha
    obtain ⟨f, rfl⟩ : ∃ m, f = m + 1 := ⟨f - 1, by omega⟩
    obtain ⟨g3, g4, g2, g9, -⟩ := dh_g z a ft n K A T G
    unfold skB
    rw [fTape_skipBlanks_L0, g3, g2, h8, if_pos (nI_le (by omega) (by omega)), rnT_n (by omega)]
  | succ e ih =>
    intro a f he hf ha
    obtain ⟨f, rfl⟩ : ∃ m, f = m + 1 := ⟨f - 1, by omega⟩
    obtain ⟨g3, g4, g2, g9, -⟩ := dh_g z a ft n K A T G
    by_cases c : a < l
    · obtain ⟨b1, b2⟩ := by_eq hB (show a < 200 by omega)
      rw [fTape_skipBlanks_L0, g3, g2, g9, h8, h9, if_neg (nI_ge c (by omega)), if_neg (ix_ok (show a < 200 by omega) (by omega)), nI_clamp (by omega), nI_s, dh_at]
      unfold skB
      by_cases cb : cl (B a) = 32
      · rw [if_pos (by rw [b1, cb]; rfl), rnT_y c (by unfold isB; exact decide_eq_true cb)]
        exact ih (a + 1) f (by omega) (by omega) (by omega)
      · rw [if_neg (show ¬ B a = 32 from fun h => cb (by rw [h]; rfl)), rnT_n (fun h => cb (by have := h.2; unfold isB at this; exact of_decide_eq_true this))]
    · unfold skB
      rw [fTape_skipBlanks_L0, g3, g2, h8, if_pos (nI_le (by omega) (by omega)), rnT_n (by omega)]
theorem skipB {z : MS} {B : Nat → Int32} {l : Nat} (hz : tpC z B l) {a : Nat} (ha : a < 1000) (ft : Int32) (n : Nat) (K A T G : Nat → Int32) : fTape_skipBlanks (dh z a ft n K A T G) = some (dh z (skB B l a) ft n K A T G) := by
  have := hz.2.2.1
  exact skip_c hz ft n K A T G 200 a LF (by omega) (by decide) ha
theorem endW {z : MS} {B : Nat → Int32} {l : Nat} (hz : tpC z B l) {a : Nat} (ha : a < 1000) (ft : Int32) (n : Nat) (K A T G : Nat → Int32) : fTape_endOfName (dh z a ft n K A T G) = some (nI (enW B l a)) := by
  obtain ⟨h9, h8, hl, hB⟩ := hz
  obtain ⟨g3, g4, g2, g9, -⟩ := dh_g z a ft n K A T G
  have key : ∀ (e i f : Nat), l - i ≤ e → e < f → i < 1000 → fTape_endOfName_L5 (dh z a ft n K A T G) f (nI i) = some (nI (enW B l i)) := by
    intro e
    induction e with
    | zero =>
      intro i f he hf hi
      obtain ⟨f, rfl⟩ : ∃ m, f = m + 1 := ⟨f - 1, by omega⟩
      unfold enW
      rw [fTape_endOfName_L5, g2, h8, if_pos (nI_le (by omega) (by omega)), rnT_n (by omega)]
    | succ e ih =>
      intro i f he hf hi
      obtain ⟨f, rfl⟩ : ∃ m, f = m + 1 := ⟨f - 1, by omega⟩
      unfold enW at *
      by_cases c : i < l
      · obtain ⟨b1, b2⟩ := by_eq hB (show i < 200 by omega)
        rw [fTape_endOfName_L5, g2, g9, h8, h9, if_neg (nI_ge c (by omega)), if_neg (ix_ok (show i < 200 by omega) (by omega)), if_neg (ix_ok (show i < 200 by omega) (by omega)), nI_clamp (by omega), nI_s]
        by_cases c1 : cl (B i) < 97
        · rw [if_pos (show B i < 97 by rw [b1]; exact nI_lt (b := 97) c1 (by omega)), rnT_n (fun h => by have := h.2; unfold isL at this; simp only [Bool.and_eq_true, decide_eq_true_eq] at this; omega)]
        · rw [if_neg (show ¬ B i < 97 by rw [b1]; exact nI_nlt (b := 97) (by omega) (by omega))]
          by_cases c2 : 122 < cl (B i)
          · rw [if_pos (show (122 : Int32) < B i by rw [b1]; exact nI_lt (a := 122) c2 (by omega)), rnT_n (fun h => by have := h.2; unfold isL at this; simp only [Bool.and_eq_true, decide_eq_true_eq] at this; omega)]
          · rw [if_neg (show ¬ (122 : Int32) < B i by rw [b1]; exact nI_nlt (a := 122) (by omega) (by omega)), rnT_y c (by unfold isL; rw [decide_eq_true (by omega), decide_eq_true (by omega)]; rfl)]
            exact ih (i + 1) f (by omega) (by omega) (by omega)
      · rw [fTape_endOfName_L5, g2, h8, if_pos (nI_le (by omega) (by omega)), rnT_n (by omega)]
  unfold fTape_endOfName
  rw [g3]
  exact key 200 a LF (by omega) (by decide) ha
/-- words as numbers to the base 27 -/
def cod (f : Nat → Nat) : Nat → Nat
  | 0 => 0
  | n + 1 => 27 * cod f n + f n
theorem cod_inj {f g : Nat → Nat} : ∀ (n m : Nat), (∀ i, i < n → 1 ≤ f i ∧ f i ≤ 26) → (∀ i, i < m → 1 ≤ g i ∧ g i ≤ 26) → cod f n = cod g m → n = m ∧ ∀ i, i < n → f i = g i := by
  intro n
  induction n with
  | zero =>
    intro m _ hg h
    cases m with
    | zero => exact ⟨rfl, fun i hi => by omega⟩
    | succ m =>
      have := hg m (by omega)
      rw [cod, cod] at h
      omega
  | succ n ih =>
    intro m hf hg h
    cases m with
    | zero =>
      have := hf n (by omega)
      rw [cod, cod] at h
      omega
    | succ m =>
      have h1 := hf n (by omega)
      have h2 := hg m (by omega)
      rw [cod, cod] at h
      obtain ⟨e1, e2⟩ := ih m (fun i hi => hf i (by omega)) (fun i hi => hg i (by omega)) (by omega)
      subst e1
      refine ⟨rfl, fun i hi => ?_⟩
      rcases Nat.lt_or_ge i n with c | c
      · exact e2 i c
      · have : i = n := by omega
        subst this
        omega
theorem cod_cong {f g : Nat → Nat} : ∀ n, (∀ i, i < n → f i = g i) → cod f n = cod g n := by
  intro n
  induction n with
  | zero => intro _; rfl
  | succ n ih =>
    intro h
    rw [cod, cod, ih (fun i hi => h i (by omega)), h n (by omega)]
/-- the code of the word at a; 0: none, or too long -/
def cdN (B : Nat → Int32) (l a : Nat) : Nat := if enW B l a - a ≤ 8 then cod (fun i => cl (B (a + i)) - 96) (enW B l a - a) else 0
/-- the words of the class -/
def wch (si i : Nat) : Nat := cl ((stB.getD si []).getD i 0) - 96
def wln (si : Nat) : Nat := (stB.getD si []).length
def wcd (si : Nat) : Nat := cod (wch si) (wln si)
theorem wrdD : ∀ si, si < 14 → wln si ≤ 7 ∧ 0 < wln si ∧ stL.getD si 0 = wln si ∧ sLen si = nI (wln si) ∧ 0 < wcd si ∧ ∀ i, i < wln si → sChr si (nI i) = nI (wch si i + 96) ∧ 1 ≤ wch si i ∧ wch si i ≤ 26 := by decide +kernel
