/-- the class' and the model's memory in an act: b bodies, p parted, Y the trace -/
def cs (z : MS) (X : Nat → Int32) (b : Nat) (p : Int32) (Y : Nat → Int32) : MS := wI (wI z 32 (upd (upd X 1 (nI b)) 5 p)) 33 Y
def ms (z : MS) (X : Nat → Int32) (b : Nat) (p : Int32) (Y : Nat → Int32) : MS := wI (wI z 56 (upd (upd X 45 (nI b)) 46 p)) 83 Y
def nb (b : Nat) : Nat := if b < 30 then b + 1 else b
def nY (b : Nat) (Y : Nat → Int32) (w : Int32) : Nat → Int32 := if b < 30 then upd Y b w else Y
theorem nb_le {b : Nat} (h : b ≤ 30) : nb b ≤ 30 := by
  unfold nb
  by_cases c : b < 30
  · rw [if_pos c]; omega
  · rw [if_neg c]; omega
theorem note_cs (z : MS) (X : Nat → Int32) {b : Nat} (hb : b ≤ 30) (p : Int32) (Y : Nat → Int32) (w : Int32) : fActs_note (cs z X b p Y) w = some (cs z X (nb b) p (nY b Y w)) := by
  have g1 : gI (cs z X b p Y) 32 1 = nI b := rfl
  unfold fActs_note nb nY
  rw [g1]
  by_cases c : b < 30
  · have g2 : gI (pI (cs z X b p Y) 33 b w) 32 1 = nI b := rfl
    rw [if_neg (show ¬ (30 : Int32) ≤ nI b from nI_ge (b := 30) c (by omega)), if_neg (ix_ok c (by omega)), nI_clamp (by omega), g2, nI_s, if_pos c, if_pos c]
    congr 1
    unfold cs pI wI gI
    refine Prod.ext (funext fun a => ?_) rfl
    by_cases h1 : a = 33
    · subst h1; rfl
    · by_cases h2 : a = 32
      · subst h2
        show upd (upd (upd X 1 (nI b)) 5 p) 1 (nI (b + 1)) = upd (upd X 1 (nI (b + 1))) 5 p
        rw [fa_upd_swap _ (show (5 : Nat) ≠ 1 by decide), fa_upd_twice]
      · simp only [if_neg h1, if_neg h2]
  · have : b = 30 := by omega
    subst this
    rw [if_pos (show (30 : Int32) ≤ nI 30 from Int32.le_refl _), if_neg c, if_neg c]
theorem ran_ms (z : MS) (X : Nat → Int32) {b : Nat} (hb : b ≤ 30) (p : Int32) (Y : Nat → Int32) (w : Int32) : fM_ran (ms z X b p Y) w = some (ms z X (nb b) p (nY b Y w)) := by
  have g1 : gI (ms z X b p Y) 56 45 = nI b := rfl
  unfold fM_ran nb nY
  rw [g1]
  by_cases c : b < 30
  · have g2 : gI (pI (ms z X b p Y) 83 b w) 56 45 = nI b := rfl
    rw [if_neg (show ¬ (30 : Int32) ≤ nI b from nI_ge (b := 30) c (by omega)), if_neg (ix_ok c (by omega)), nI_clamp (by omega), g2, nI_s, if_pos c, if_pos c]
    congr 1
    unfold ms pI wI gI
    refine Prod.ext (funext fun a => ?_) rfl
    by_cases h1 : a = 83
    · subst h1; rfl
    · by_cases h2 : a = 56
      · subst h2
        show upd (upd (upd X 45 (nI b)) 46 p) 45 (nI (b + 1)) = upd (upd X 45 (nI (b + 1))) 46 p
        rw [fa_upd_swap _ (show (46 : Nat) ≠ 45 by decide), fa_upd_twice]
      · simp only [if_neg h1, if_neg h2]
  · have : b = 30 := by omega
    subst this
    rw [if_pos (show (30 : Int32) ≤ nI 30 from Int32.le_refl _), if_neg c, if_neg c]
theorem ob2s {α β γ : Type} (a : α) (b : β) (f : α → β → Option γ) : ob2 (some (a, b)) f = f a b := rfl
/-- kind, number and A on both sides -/
def AX (X XM : Nat → Int32) (k : Nat) : Prop := X 2 = nI k ∧ XM 41 = nI k ∧ XM 42 = X 3 ∧ XM 43 = X 4 ∧ ∃ i a, X 3 = nI i ∧ X 4 = nI a ∧ i < 4 ∧ a < 4096
def E0 (z y : MS) (X XM : Nat → Int32) (C M : MS → Option (Int32 × MS)) : Prop := ∀ (b : Nat) (Y : Nat → Int32), b ≤ 30 → ∃ r b2 Y2, b2 ≤ 30 ∧ C (cs z X b 0 Y) = some (r, cs z X b2 0 Y2) ∧ M (ms y XM b 0 Y) = some (r, ms y XM b2 0 Y2)
def E1 (z y : MS) (X XM : Nat → Int32) (C M : MS → Option (Int32 × MS)) : Prop := ∀ (b : Nat) (Y : Nat → Int32), b ≤ 30 → ∃ r b2 p Y2, b2 ≤ 30 ∧ (p = 0 ∨ p = 1) ∧ C (cs z X b 0 Y) = some (r, cs z X b2 p Y2) ∧ M (ms y XM b 0 Y) = some (r, ms y XM b2 p Y2)
theorem E0_1 {z y : MS} {X XM : Nat → Int32} {C M : MS → Option (Int32 × MS)} (h : E0 z y X XM C M) : E1 z y X XM C M := by
  intro b Y hb
  obtain ⟨r, b2, Y2, h1, h2, h3⟩ := h b Y hb
  exact ⟨r, b2, 0, Y2, h1, Or.inl rfl, h2, h3⟩
theorem rn_10 (z : MS) (X : Nat → Int32) {b : Nat} (hb : b ≤ 30) (Y : Nat → Int32) (n : Nat) (x : Int32) {e : Nat} (he : e ≤ 40) : fActs_run (n + 1) (cs z X b 0 Y) 10 x (nI e) = some (x + X 3, (cs z X (nb b) 0 (nY b Y 10))) := by
  rw [fActs_run, if_pos (show gI (cs z X b 0 Y) 32 5 = 0 from rfl), if_pos (show nI e ≤ (40 : Int32) from nI_le (b := 40) he (by omega)), note_cs z X hb, obs, if_pos rfl]
  rfl
theorem rn_11 (z : MS) (X : Nat → Int32) {b : Nat} (hb : b ≤ 30) (Y : Nat → Int32) (n : Nat) (x : Int32) {e : Nat} (he : e ≤ 40) : fActs_run (n + 1) (cs z X b 0 Y) 11 x (nI e) = Option.bind (fActs_bodyOf (X 2) 0) (fun w => ob2 (fActs_run n (cs z X (nb b) 0 (nY b Y 11)) w x (nI (e + 1))) (fun w zc => some (w * 2, zc))) := by
  rw [fActs_run, if_pos (show gI (cs z X b 0 Y) 32 5 = 0 from rfl), if_pos (show nI e ≤ (40 : Int32) from nI_le (b := 40) he (by omega)), note_cs z X hb, obs, if_neg (show ¬ (11 : Int32) = 10 by decide), if_pos rfl, nI_s]
  rfl
theorem rn_12 (z : MS) (X : Nat → Int32) {b : Nat} (hb : b ≤ 30) (Y : Nat → Int32) (n : Nat) (x : Int32) {e : Nat} (he : e ≤ 40) : fActs_run (n + 1) (cs z X b 0 Y) 12 x (nI e) = ob2 (fActs_share (cs z X (nb b) 0 (nY b Y 12)) x) (fun w zc => some (w, zc)) := by
  rw [fActs_run, if_pos (show gI (cs z X b 0 Y) 32 5 = 0 from rfl), if_pos (show nI e ≤ (40 : Int32) from nI_le (b := 40) he (by omega)), note_cs z X hb, obs, if_neg (show ¬ (12 : Int32) = 10 by decide), if_neg (show ¬ (12 : Int32) = 11 by decide), if_pos rfl]
theorem rn_13 (z : MS) (X : Nat → Int32) {b : Nat} (hb : b ≤ 30) (Y : Nat → Int32) (n : Nat) (x : Int32) {e : Nat} (he : e ≤ 40) : fActs_run (n + 1) (cs z X b 0 Y) 13 x (nI e) = Option.bind (fActs_bodyOf (X 2) 1) (fun w => ob2 (fActs_run n (cs z X (nb b) 0 (nY b Y 13)) w x (nI (e + 1))) (fun w zc => some (w ^^^ (gI zc 32 4), zc))) := by
  rw [fActs_run, if_pos (show gI (cs z X b 0 Y) 32 5 = 0 from rfl), if_pos (show nI e ≤ (40 : Int32) from nI_le (b := 40) he (by omega)), note_cs z X hb, obs, if_neg (show ¬ (13 : Int32) = 10 by decide), if_neg (show ¬ (13 : Int32) = 11 by decide), if_neg (show ¬ (13 : Int32) = 12 by decide), if_pos rfl, nI_s]
  rfl
theorem rn_20 (z : MS) (X : Nat → Int32) {b : Nat} (hb : b ≤ 30) (Y : Nat → Int32) (n : Nat) (x : Int32) {e : Nat} (he : e ≤ 40) : fActs_run (n + 1) (cs z X b 0 Y) 20 x (nI e) = Option.bind (fActs_bodyOf 0 1) (fun w => ob2 (fActs_run n (cs z X (nb b) 0 (nY b Y 20)) w x (nI (e + 1))) (fun w zc => some (w - (gI zc 32 4), zc))) := by
  rw [fActs_run, if_pos (show gI (cs z X b 0 Y) 32 5 = 0 from rfl), if_pos (show nI e ≤ (40 : Int32) from nI_le (b := 40) he (by omega)), note_cs z X hb, obs, if_neg (show ¬ (20 : Int32) = 10 by decide), if_neg (show ¬ (20 : Int32) = 11 by decide), if_neg (show ¬ (20 : Int32) = 12 by decide), if_neg (show ¬ (20 : Int32) = 13 by decide), if_pos rfl, nI_s]
theorem rn_30 (z : MS) (X : Nat → Int32) {b : Nat} (hb : b ≤ 30) (Y : Nat → Int32) (n : Nat) (x : Int32) {e : Nat} (he : e ≤ 40) : fActs_run (n + 1) (cs z X b 0 Y) 30 x (nI e) = Option.bind (fActs_bodyOf 0 0) (fun w => ob2 (fActs_run n (cs z X (nb b) 0 (nY b Y 30)) w x (nI (e + 1))) (fun w zc => some (w * 3, zc))) := by
  rw [fActs_run, if_pos (show gI (cs z X b 0 Y) 32 5 = 0 from rfl), if_pos (show nI e ≤ (40 : Int32) from nI_le (b := 40) he (by omega)), note_cs z X hb, obs, if_neg (show ¬ (30 : Int32) = 10 by decide), if_neg (show ¬ (30 : Int32) = 11 by decide), if_neg (show ¬ (30 : Int32) = 12 by decide), if_neg (show ¬ (30 : Int32) = 13 by decide), if_neg (show ¬ (30 : Int32) = 20 by decide), if_pos rfl, nI_s]
theorem rn_31 (z : MS) (X : Nat → Int32) {b : Nat} (hb : b ≤ 30) (Y : Nat → Int32) (n : Nat) (x : Int32) {e : Nat} (he : e ≤ 40) : fActs_run (n + 1) (cs z X b 0 Y) 31 x (nI e) = Option.bind (fActs_bodyOf 0 3) (fun w => ob2 (fActs_run n (cs z X (nb b) 0 (nY b Y 31)) w x (nI (e + 1))) (fun w zc => Option.bind (fActs_bodyOf (gI zc 32 2) 2) (fun v => ob2 (fActs_run n zc v (gI zc 32 3) (nI (e + 1))) (fun v zd => some (w + v, zd))))) := by
  rw [fActs_run, if_pos (show gI (cs z X b 0 Y) 32 5 = 0 from rfl), if_pos (show nI e ≤ (40 : Int32) from nI_le (b := 40) he (by omega)), note_cs z X hb, obs, if_neg (show ¬ (31 : Int32) = 10 by decide), if_neg (show ¬ (31 : Int32) = 11 by decide), if_neg (show ¬ (31 : Int32) = 12 by decide), if_neg (show ¬ (31 : Int32) = 13 by decide), if_neg (show ¬ (31 : Int32) = 20 by decide), if_neg (show ¬ (31 : Int32) = 30 by decide), if_pos rfl, nI_s]
theorem rn_40 (z : MS) (X : Nat → Int32) {b : Nat} (hb : b ≤ 30) (Y : Nat → Int32) (n : Nat) (x : Int32) {e : Nat} (he : e ≤ 40) : fActs_run (n + 1) (cs z X b 0 Y) 40 x (nI e) = Option.bind (fActs_bodyOf 2 0) (fun w => ob2 (fActs_run n (cs z X (nb b) 0 (nY b Y 40)) w x (nI (e + 1))) (fun w zc => some (0 - w, zc))) := by
  rw [fActs_run, if_pos (show gI (cs z X b 0 Y) 32 5 = 0 from rfl), if_pos (show nI e ≤ (40 : Int32) from nI_le (b := 40) he (by omega)), note_cs z X hb, obs, if_neg (show ¬ (40 : Int32) = 10 by decide), if_neg (show ¬ (40 : Int32) = 11 by decide), if_neg (show ¬ (40 : Int32) = 12 by decide), if_neg (show ¬ (40 : Int32) = 13 by decide), if_neg (show ¬ (40 : Int32) = 20 by decide), if_neg (show ¬ (40 : Int32) = 30 by decide), if_neg (show ¬ (40 : Int32) = 31 by decide), if_pos rfl, nI_s]
theorem rn_41 (z : MS) (X : Nat → Int32) {b : Nat} (hb : b ≤ 30) (Y : Nat → Int32) (n : Nat) (x : Int32) {e : Nat} (he : e ≤ 40) : fActs_run (n + 1) (cs z X b 0 Y) 41 x (nI e) = Option.bind (fActs_bodyOf 2 1) (fun w => ob2 (fActs_run n (cs z X (nb b) 0 (nY b Y 41)) w x (nI (e + 1))) (fun w zc => Option.bind (fActs_bodyOf (gI zc 32 2) 0) (fun v => ob2 (fActs_run n zc v (gI zc 32 3) (nI (e + 1))) (fun v zd => some (w + v, zd))))) := by
  rw [fActs_run, if_pos (show gI (cs z X b 0 Y) 32 5 = 0 from rfl), if_pos (show nI e ≤ (40 : Int32) from nI_le (b := 40) he (by omega)), note_cs z X hb, obs, if_neg (show ¬ (41 : Int32) = 10 by decide), if_neg (show ¬ (41 : Int32) = 11 by decide), if_neg (show ¬ (41 : Int32) = 12 by decide), if_neg (show ¬ (41 : Int32) = 13 by decide), if_neg (show ¬ (41 : Int32) = 20 by decide), if_neg (show ¬ (41 : Int32) = 30 by decide), if_neg (show ¬ (41 : Int32) = 31 by decide), if_neg (show ¬ (41 : Int32) = 40 by decide), if_pos rfl, nI_s]
theorem rn_50 (z : MS) (X : Nat → Int32) {b : Nat} (hb : b ≤ 30) (Y : Nat → Int32) (n : Nat) (x : Int32) {e : Nat} (he : e ≤ 40) : fActs_run (n + 1) (cs z X b 0 Y) 50 x (nI e) = Option.bind (fActs_bodyOf 1 2) (fun w => ob2 (fActs_run n (cs z X (nb b) 0 (nY b Y 50)) w (x + 2) (nI (e + 1))) (fun w zc => some (w ^^^ 1, zc))) := by
  rw [fActs_run, if_pos (show gI (cs z X b 0 Y) 32 5 = 0 from rfl), if_pos (show nI e ≤ (40 : Int32) from nI_le (b := 40) he (by omega)), note_cs z X hb, obs, if_neg (show ¬ (50 : Int32) = 10 by decide), if_neg (show ¬ (50 : Int32) = 11 by decide), if_neg (show ¬ (50 : Int32) = 12 by decide), if_neg (show ¬ (50 : Int32) = 13 by decide), if_neg (show ¬ (50 : Int32) = 20 by decide), if_neg (show ¬ (50 : Int32) = 30 by decide), if_neg (show ¬ (50 : Int32) = 31 by decide), if_neg (show ¬ (50 : Int32) = 40 by decide), if_neg (show ¬ (50 : Int32) = 41 by decide), if_pos rfl, nI_s]
theorem rn_51 (z : MS) (X : Nat → Int32) {b : Nat} (hb : b ≤ 30) (Y : Nat → Int32) (n : Nat) (x : Int32) {e : Nat} (he : e ≤ 40) : fActs_run (n + 1) (cs z X b 0 Y) 51 x (nI e) = Option.bind (fActs_bodyOf 1 0) (fun w => ob2 (fActs_run n (cs z X (nb b) 0 (nY b Y 51)) w x (nI (e + 1))) (fun w zc => some (w - (gI zc 32 3), zc))) := by
  rw [fActs_run, if_pos (show gI (cs z X b 0 Y) 32 5 = 0 from rfl), if_pos (show nI e ≤ (40 : Int32) from nI_le (b := 40) he (by omega)), note_cs z X hb, obs, if_neg (show ¬ (51 : Int32) = 10 by decide), if_neg (show ¬ (51 : Int32) = 11 by decide), if_neg (show ¬ (51 : Int32) = 12 by decide), if_neg (show ¬ (51 : Int32) = 13 by decide), if_neg (show ¬ (51 : Int32) = 20 by decide), if_neg (show ¬ (51 : Int32) = 30 by decide), if_neg (show ¬ (51 : Int32) = 31 by decide), if_neg (show ¬ (51 : Int32) = 40 by decide), if_neg (show ¬ (51 : Int32) = 41 by decide), if_neg (show ¬ (51 : Int32) = 50 by decide), if_pos rfl, nI_s]
theorem rn_60 (z : MS) (X : Nat → Int32) {b : Nat} (hb : b ≤ 30) (Y : Nat → Int32) (n : Nat) (x : Int32) {e : Nat} (he : e ≤ 40) : fActs_run (n + 1) (cs z X b 0 Y) 60 x (nI e) = Option.bind (fActs_bodyOf 0 3) (fun w => ob2 (fActs_run n (cs z X (nb b) 0 (nY b Y 60)) w x (nI (e + 1))) (fun w zc => some (w * 2, zc))) := by
  rw [fActs_run, if_pos (show gI (cs z X b 0 Y) 32 5 = 0 from rfl), if_pos (show nI e ≤ (40 : Int32) from nI_le (b := 40) he (by omega)), note_cs z X hb, obs, if_neg (show ¬ (60 : Int32) = 10 by decide), if_neg (show ¬ (60 : Int32) = 11 by decide), if_neg (show ¬ (60 : Int32) = 12 by decide), if_neg (show ¬ (60 : Int32) = 13 by decide), if_neg (show ¬ (60 : Int32) = 20 by decide), if_neg (show ¬ (60 : Int32) = 30 by decide), if_neg (show ¬ (60 : Int32) = 31 by decide), if_neg (show ¬ (60 : Int32) = 40 by decide), if_neg (show ¬ (60 : Int32) = 41 by decide), if_neg (show ¬ (60 : Int32) = 50 by decide), if_neg (show ¬ (60 : Int32) = 51 by decide), if_pos rfl, nI_s]
theorem rn_61 (z : MS) (X : Nat → Int32) {b : Nat} (hb : b ≤ 30) (Y : Nat → Int32) (n : Nat) (x : Int32) {e : Nat} (he : e ≤ 40) : fActs_run (n + 1) (cs z X b 0 Y) 61 x (nI e) = Option.bind (fActs_bodyOf 0 2) (fun w => ob2 (fActs_run n (cs z X (nb b) 0 (nY b Y 61)) w x (nI (e + 1))) (fun w zc => Option.bind (fActs_bodyOf (gI zc 32 2) 0) (fun v => ob2 (fActs_run n zc v (gI zc 32 4) (nI (e + 1))) (fun v zd => some (w + v, zd))))) := by
  rw [fActs_run, if_pos (show gI (cs z X b 0 Y) 32 5 = 0 from rfl), if_pos (show nI e ≤ (40 : Int32) from nI_le (b := 40) he (by omega)), note_cs z X hb, obs, if_neg (show ¬ (61 : Int32) = 10 by decide), if_neg (show ¬ (61 : Int32) = 11 by decide), if_neg (show ¬ (61 : Int32) = 12 by decide), if_neg (show ¬ (61 : Int32) = 13 by decide), if_neg (show ¬ (61 : Int32) = 20 by decide), if_neg (show ¬ (61 : Int32) = 30 by decide), if_neg (show ¬ (61 : Int32) = 31 by decide), if_neg (show ¬ (61 : Int32) = 40 by decide), if_neg (show ¬ (61 : Int32) = 41 by decide), if_neg (show ¬ (61 : Int32) = 50 by decide), if_neg (show ¬ (61 : Int32) = 51 by decide), if_neg (show ¬ (61 : Int32) = 60 by decide), if_pos rfl, nI_s]
theorem rn_p (z : MS) (X : Nat → Int32) (b : Nat) (Y : Nat → Int32) (n : Nat) (w x d : Int32) : fActs_run (n + 1) (cs z X b 1 Y) w x d = some (0, cs z X b 1 Y) := by
  rw [fActs_run, if_neg (show ¬ gI (cs z X b 1 Y) 32 5 = 0 from one_ne)]
theorem bod : fActs_bodyOf 0 0 = some 10 ∧ fActs_bodyOf 0 1 = some 11 ∧ fActs_bodyOf 0 2 = some 12 ∧ fActs_bodyOf 0 3 = some 13 ∧ fActs_bodyOf 2 0 = some 30 ∧ fActs_bodyOf 2 1 = some 11 ∧ fActs_bodyOf 1 2 = some 12 ∧ fActs_bodyOf 1 0 = some 10 := by decide +kernel
theorem bod1 : fActs_bodyOf (nI 1) 0 = some 10 ∧ fActs_bodyOf (nI 1) 1 = some 20 ∧ fActs_bodyOf (nI 1) 2 = some 12 ∧ fActs_bodyOf (nI 1) 3 = some 13 := by decide +kernel
theorem bod2 : fActs_bodyOf (nI 2) 0 = some 30 ∧ fActs_bodyOf (nI 2) 1 = some 11 ∧ fActs_bodyOf (nI 2) 2 = some 12 ∧ fActs_bodyOf (nI 2) 3 = some 31 := by decide +kernel
theorem bod3 : fActs_bodyOf (nI 3) 0 = some 40 ∧ fActs_bodyOf (nI 3) 1 = some 41 ∧ fActs_bodyOf (nI 3) 2 = some 12 ∧ fActs_bodyOf (nI 3) 3 = some 31 := by decide +kernel
theorem bod4 : fActs_bodyOf (nI 4) 0 = some 51 ∧ fActs_bodyOf (nI 4) 1 = some 20 ∧ fActs_bodyOf (nI 4) 2 = some 50 ∧ fActs_bodyOf (nI 4) 3 = some 13 := by decide +kernel
theorem bod5 : fActs_bodyOf (nI 5) 0 = some 10 ∧ fActs_bodyOf (nI 5) 1 = some 11 ∧ fActs_bodyOf (nI 5) 2 = some 61 ∧ fActs_bodyOf (nI 5) 3 = some 60 := by decide +kernel
theorem p10 {z y : MS} {X XM : Nat → Int32} {k : Nat} (hx : AX X XM k) (n : Nat) (x : Int32) {e : Nat} (he : e ≤ 40) : E0 z y X XM (fActs_run (n + 1) · 10 x (nI e)) (fM_plainSits · x) := by
  intro b Y hb
  refine ⟨x + X 3, nb b, nY b Y 10, nb_le hb, rn_10 z X hb Y n x he, ?_⟩
  show fM_plainSits _ x = _
  unfold fM_plainSits
  rw [ran_ms y XM hb, obs]
  show some (x + XM 42, _) = _
  rw [hx.2.2.1]
/-- sits(x) of a kind -/
theorem sits_k {z y : MS} {X XM : Nat → Int32} {k : Nat} (hx : AX X XM k) (hk : 0 < k ∧ k < 6) (n : Nat) (x : Int32) {e : Nat} (he : e + 2 ≤ 40) : ∃ bd, fActs_bodyOf (nI k) 0 = some bd ∧ E0 z y X XM (fActs_run (n + 3) · bd x (nI e)) (fM_sitsIt · x) := by
  have h41 : ∀ b Y, gI (ms y XM b 0 Y) 56 41 = nI k := fun b Y => hx.2.1
  have h42 : ∀ b Y, gI (ms y XM b 0 Y) 56 42 = X 3 := fun b Y => hx.2.2.1
  rcases (show k = 1 ∨ k = 2 ∨ k = 3 ∨ k = 4 ∨ k = 5 by omega) with rfl | rfl | rfl | rfl | rfl
  · refine ⟨10, bod1.1, fun b Y hb => ?_⟩
    obtain ⟨r, b2, Y2, h1, h2, h3⟩ := p10 (z := z) (y := y) hx (n + 2) x (show e ≤ 40 by omega) b Y hb
    refine ⟨r, b2, Y2, h1, h2, ?_⟩
    show fM_sitsIt _ x = _
    unfold fM_sitsIt
    rw [h41, if_neg (show ¬ nI 1 = 2 by decide), if_neg (show ¬ nI 1 = 3 by decide), if_neg (show ¬ nI 1 = 4 by decide), ob2_eta]
    exact h3
  · refine ⟨30, bod2.1, fun b Y hb => ?_⟩
    obtain ⟨r, b2, Y2, h1, h2, h3⟩ := p10 (z := z) (y := y) hx (n + 1) x (show e + 1 ≤ 40 by omega) (nb b) (nY b Y 30) (nb_le hb)
    have h2 : fActs_run (n + 1 + 1) _ 10 x (nI (e + 1)) = _ := h2
    have h3 : fM_plainSits _ x = _ := h3
    refine ⟨r * 3, b2, Y2, h1, ?_, ?_⟩
    · show fActs_run (n + 2 + 1) _ 30 x (nI e) = _
      rw [rn_30 z X hb Y (n + 2) x (by omega), bod.1, obs, h2, ob2s]
    · show fM_sitsIt _ x = _
      unfold fM_sitsIt
      rw [h41, if_pos (show nI 2 = 2 from rfl), ran_ms y XM hb, obs, h3, ob2s]
  · refine ⟨40, bod3.1, fun b Y hb => ?_⟩
    obtain ⟨r, b2, Y2, h1, h2, h3⟩ := p10 (z := z) (y := y) hx n x (show e + 1 + 1 ≤ 40 by omega) (nb (nb b)) (nY (nb b) (nY b Y 40) 30) (nb_le (nb_le hb))
    have h2 : fActs_run (n + 1) _ 10 x (nI (e + 1 + 1)) = _ := h2
    have h3 : fM_plainSits _ x = _ := h3
    refine ⟨0 - r * 3, b2, Y2, h1, ?_, ?_⟩
    · show fActs_run (n + 2 + 1) _ 40 x (nI e) = _
      rw [rn_40 z X hb Y (n + 2) x (by omega), bod.2.2.2.2.1, obs, rn_30 z X (nb_le hb) _ (n + 1) x (by omega), bod.1, obs, h2, ob2s, ob2s]
    · show fM_sitsIt _ x = _
      unfold fM_sitsIt
      rw [h41, if_neg (show ¬ nI 3 = 2 by decide), if_pos (show nI 3 = 3 from rfl), ran_ms y XM hb, obs, ran_ms y XM (nb_le hb), obs, h3, ob2s]
  · refine ⟨51, bod4.1, fun b Y hb => ?_⟩
    obtain ⟨r, b2, Y2, h1, h2, h3⟩ := p10 (z := z) (y := y) hx (n + 1) x (show e + 1 ≤ 40 by omega) (nb b) (nY b Y 51) (nb_le hb)
    have h2 : fActs_run (n + 1 + 1) _ 10 x (nI (e + 1)) = _ := h2
    have h3 : fM_plainSits _ x = _ := h3
    refine ⟨r - X 3, b2, Y2, h1, ?_, ?_⟩
    · show fActs_run (n + 2 + 1) _ 51 x (nI e) = _
      rw [rn_51 z X hb Y (n + 2) x (by omega), bod.2.2.2.2.2.2.2, obs, h2, ob2s]
      rfl
    · show fM_sitsIt _ x = _
      unfold fM_sitsIt
      rw [h41, if_neg (show ¬ nI 4 = 2 by decide), if_neg (show ¬ nI 4 = 3 by decide), if_pos (show nI 4 = 4 from rfl), ran_ms y XM hb, obs, h3, ob2s, h42]
  · refine ⟨10, bod5.1, fun b Y hb => ?_⟩
    obtain ⟨r, b2, Y2, h1, h2, h3⟩ := p10 (z := z) (y := y) hx (n + 2) x (show e ≤ 40 by omega) b Y hb
    refine ⟨r, b2, Y2, h1, h2, ?_⟩
    show fM_sitsIt _ x = _
    unfold fM_sitsIt
    rw [h41, if_neg (show ¬ nI 5 = 2 by decide), if_neg (show ¬ nI 5 = 3 by decide), if_neg (show ¬ nI 5 = 4 by decide), ob2_eta]
    exact h3
theorem p11 {z y : MS} {X XM : Nat → Int32} {k : Nat} (hx : AX X XM k) (hk : 0 < k ∧ k < 6) (n : Nat) (x : Int32) {e : Nat} (he : e + 3 ≤ 40) : E0 z y X XM (fActs_run (n + 4) · 11 x (nI e)) (fM_plainCounts · x) := by
  intro b Y hb
  obtain ⟨bd, hbd, hs⟩ := sits_k (z := z) (y := y) hx hk n x (show e + 1 + 2 ≤ 40 by omega)
  obtain ⟨r, b2, Y2, h1, h2, h3⟩ := hs (nb b) (nY b Y 11) (nb_le hb)
  have h2 : fActs_run (n + 3) _ bd x (nI (e + 1)) = _ := h2
  have h3 : fM_sitsIt _ x = _ := h3
  refine ⟨r * 2, b2, Y2, h1, ?_, ?_⟩
  · show fActs_run (n + 3 + 1) _ 11 x (nI e) = _
    rw [rn_11 z X hb Y (n + 3) x (by omega), hx.1, hbd, obs, h2, ob2s]
  · show fM_plainCounts _ x = _
    unfold fM_plainCounts
    rw [ran_ms y XM hb, obs, h3, ob2s]
theorem counts_k {z y : MS} {X XM : Nat → Int32} {k : Nat} (hx : AX X XM k) (hk : 0 < k ∧ k < 6) (n : Nat) (x : Int32) {e : Nat} (he : e + 4 ≤ 40) : ∃ bd, fActs_bodyOf (nI k) 1 = some bd ∧ E0 z y X XM (fActs_run (n + 5) · bd x (nI e)) (fM_countsIt · x) := by
  have h41 : ∀ b Y, gI (ms y XM b 0 Y) 56 41 = nI k := fun b Y => hx.2.1
  have h43 : ∀ b Y, gI (ms y XM b 0 Y) 56 43 = X 4 := fun b Y => hx.2.2.2.1
  have h42 : ∀ b Y, gI (ms y XM b 0 Y) 56 42 = X 3 := fun b Y => hx.2.2.1
  have turn : E0 z y X XM (fActs_run (n + 5) · 20 x (nI e)) (fM_countsIt_J47 · x) := by
    intro b Y hb
    obtain ⟨r, b2, Y2, h1, h2, h3⟩ := p11 (z := z) (y := y) hx hk n x (show e + 1 + 3 ≤ 40 by omega) (nb b) (nY b Y 20) (nb_le hb)
    have h2 : fActs_run (n + 4) _ 11 x (nI (e + 1)) = _ := h2
    have h3 : fM_plainCounts _ x = _ := h3
    refine ⟨r - X 4, b2, Y2, h1, ?_, ?_⟩
    · show fActs_run (n + 4 + 1) _ 20 x (nI e) = _
      rw [rn_20 z X hb Y (n + 4) x (by omega), bod.2.1, obs, h2, ob2s]
      rfl
    · show fM_countsIt_J47 _ x = _
      unfold fM_countsIt_J47 fM_turnCounts
      rw [ran_ms y XM hb, obs, h3, ob2s, ob2s, h43]
  have plain : E0 z y X XM (fActs_run (n + 5) · 11 x (nI e)) (fM_plainCounts · x) := p11 (z := z) (y := y) hx hk (n + 1) x (by omega)
  rcases (show k = 1 ∨ k = 2 ∨ k = 3 ∨ k = 4 ∨ k = 5 by omega) with rfl | rfl | rfl | rfl | rfl
  · refine ⟨20, bod1.2.1, fun b Y hb => ?_⟩
    obtain ⟨r, b2, Y2, h1, h2, h3⟩ := turn b Y hb
    refine ⟨r, b2, Y2, h1, h2, ?_⟩
    show fM_countsIt _ x = _
    unfold fM_countsIt
    rw [h41, if_neg (show ¬ nI 1 = 3 by decide), if_pos (show nI 1 = 1 from rfl)]
    exact h3
  · refine ⟨11, bod2.2.1, fun b Y hb => ?_⟩
    obtain ⟨r, b2, Y2, h1, h2, h3⟩ := plain b Y hb
    refine ⟨r, b2, Y2, h1, h2, ?_⟩
    show fM_countsIt _ x = _
    unfold fM_countsIt
    rw [h41, if_neg (show ¬ nI 2 = 3 by decide), if_neg (show ¬ nI 2 = 1 by decide), if_neg (show ¬ nI 2 = 4 by decide), ob2_eta]
    exact h3
  · refine ⟨41, bod3.2.1, fun b Y hb => ?_⟩
    obtain ⟨r, b2, Y2, h1, h2, h3⟩ := p11 (z := z) (y := y) hx hk n x (show e + 1 + 3 ≤ 40 by omega) (nb b) (nY b Y 41) (nb_le hb)
    have h2 : fActs_run (n + 4) _ 11 x (nI (e + 1)) = _ := h2
    have h3 : fM_plainCounts _ x = _ := h3
    obtain ⟨bd, hbd, hs⟩ := sits_k (z := z) (y := y) hx hk (n + 1) (X 3) (show e + 1 + 2 ≤ 40 by omega)
    obtain ⟨q, b3, Y3, g1, g2, g3⟩ := hs b2 Y2 h1
    have g2 : fActs_run (n + 4) _ bd (X 3) (nI (e + 1)) = _ := g2
    have g3 : fM_sitsIt _ (X 3) = _ := g3
    refine ⟨r + q, b3, Y3, g1, ?_, ?_⟩
    · show fActs_run (n + 4 + 1) _ 41 x (nI e) = _
      rw [rn_41 z X hb Y (n + 4) x (by omega), bod.2.2.2.2.2.1, obs, h2, ob2s, show gI (cs z X b2 0 Y2) 32 2 = nI 3 from hx.1, hbd, obs, show gI (cs z X b2 0 Y2) 32 3 = X 3 from rfl, g2, ob2s]
    · show fM_countsIt _ x = _
      unfold fM_countsIt
      rw [h41, if_pos (show nI 3 = 3 from rfl), ran_ms y XM hb, obs, h3, ob2s, h42, g3, ob2s]
  · refine ⟨20, bod4.2.1, fun b Y hb => ?_⟩
    obtain ⟨r, b2, Y2, h1, h2, h3⟩ := turn b Y hb
    refine ⟨r, b2, Y2, h1, h2, ?_⟩
    show fM_countsIt _ x = _
    unfold fM_countsIt
    rw [h41, if_neg (show ¬ nI 4 = 3 by decide), if_neg (show ¬ nI 4 = 1 by decide), if_pos (show nI 4 = 4 from rfl)]
    exact h3
  · refine ⟨11, bod5.2.1, fun b Y hb => ?_⟩
    obtain ⟨r, b2, Y2, h1, h2, h3⟩ := plain b Y hb
    refine ⟨r, b2, Y2, h1, h2, ?_⟩
    show fM_countsIt _ x = _
    unfold fM_countsIt
    rw [h41, if_neg (show ¬ nI 5 = 3 by decide), if_neg (show ¬ nI 5 = 1 by decide), if_neg (show ¬ nI 5 = 4 by decide), ob2_eta]
    exact h3
theorem p12 {z y : MS} {X XM : Nat → Int32} {k : Nat} (hx : AX X XM k) (n : Nat) (x : Int32) {e : Nat} (he : e ≤ 40) : ∀ (b : Nat) (Y : Nat → Int32), b ≤ 30 → ∃ r p, (p = 0 ∨ p = 1) ∧ (p = 1 → r = 0) ∧ fActs_run (n + 1) (cs z X b 0 Y) 12 x (nI e) = some (r, cs z X (nb b) p (nY b Y 12)) ∧ fM_plainShares (ms y XM b 0 Y) x = some (r, ms y XM (nb b) p (nY b Y 12)) := by
  intro b Y hb
  obtain ⟨i, a, ei, ea, hi, ha⟩ := hx.2.2.2.2
  have h42 : ∀ b Y, gI (ms y XM b 0 Y) 56 42 = X 3 := fun b Y => hx.2.2.1
  have h43 : ∀ b Y, gI (ms y XM b 0 Y) 56 43 = X 4 := fun b Y => hx.2.2.2.1
  have c3 : ∀ b Y, gI (cs z X b 0 Y) 32 3 = X 3 := fun b Y => rfl
  have c4 : ∀ b Y, gI (cs z X b 0 Y) 32 4 = X 4 := fun b Y => rfl
  rw [rn_12 z X hb Y n x he]
  unfold fActs_share fM_plainShares
  rw [c3, c4, ran_ms y XM hb, obs, h42, h43]
  by_cases c : X 4 = X 3
  · have s0 : X 4 - X 3 = 0 := by rw [c]; exact Int32.sub_self _
    refine ⟨0, 1, Or.inr rfl, fun _ => rfl, ?_, ?_⟩
    · rw [if_pos s0, ob2s]
      congr 2
      unfold cs pI wI gI
      refine Prod.ext (funext fun q => ?_) rfl
      by_cases h1 : q = 32
      · subst h1
        show upd (upd (upd X 1 _) 5 0) 5 1 = upd (upd X 1 _) 5 1
        exact fa_upd_twice _ _ _ _
      · simp only [if_neg h1]
    · rw [if_pos c]
      congr 2
      unfold ms pI wI gI
      refine Prod.ext (funext fun q => ?_) rfl
      by_cases h1 : q = 56
      · subst h1
        show upd (upd (upd XM 45 _) 46 0) 46 1 = upd (upd XM 45 _) 46 1
        exact fa_upd_twice _ _ _ _
      · simp only [if_neg h1]
  · have s0 : ¬ X 4 - X 3 = 0 := by
      intro h0
      apply c
      have : X 4 - X 3 + X 3 = 0 + X 3 := by rw [h0]
      rw [Int32.sub_add_cancel, Int32.zero_add] at this
      exact this
    refine ⟨x / (X 4 - X 3), 0, Or.inl rfl, fun h => absurd h (by decide), ?_, ?_⟩
    · rw [if_neg s0, if_neg s0, ob2s]
    · rw [if_neg c, if_neg s0]
theorem shares_k {z y : MS} {X XM : Nat → Int32} {k : Nat} (hx : AX X XM k) (hk : 0 < k ∧ k < 6) (n : Nat) (x : Int32) {e : Nat} (he : e + 4 ≤ 40) : ∃ bd, fActs_bodyOf (nI k) 2 = some bd ∧ E1 z y X XM (fActs_run (n + 5) · bd x (nI e)) (fM_sharesIt · x) := by
  have h41 : ∀ b Y, gI (ms y XM b 0 Y) 56 41 = nI k := fun b Y => hx.2.1
  have h43 : ∀ b Y, gI (ms y XM b 0 Y) 56 43 = X 4 := fun b Y => hx.2.2.2.1
  have plain : ¬ nI k = 4 → ¬ nI k = 5 → E1 z y X XM (fActs_run (n + 5) · 12 x (nI e)) (fM_sharesIt · x) := by
    intro k4 k5 b Y hb
    obtain ⟨r, p, h0, -, h2, h3⟩ := p12 (z := z) (y := y) hx (n + 4) x (show e ≤ 40 by omega) b Y hb
    refine ⟨r, nb b, p, nY b Y 12, nb_le hb, h0, h2, ?_⟩
    show fM_sharesIt _ x = _
    unfold fM_sharesIt
    rw [h41, if_neg k4, if_neg k5, ob2_eta]
    exact h3
  rcases (show k = 1 ∨ k = 2 ∨ k = 3 ∨ k = 4 ∨ k = 5 by omega) with rfl | rfl | rfl | rfl | rfl
  · exact ⟨12, bod1.2.2.1, plain (by decide) (by decide)⟩
  · exact ⟨12, bod2.2.2.1, plain (by decide) (by decide)⟩
  · exact ⟨12, bod3.2.2.1, plain (by decide) (by decide)⟩
  · refine ⟨50, bod4.2.2.1, fun b Y hb => ?_⟩
    obtain ⟨r, p, h0, -, h2, h3⟩ := p12 (z := z) (y := y) hx (n + 3) (x + 2) (show e + 1 ≤ 40 by omega) (nb b) (nY b Y 50) (nb_le hb)
    refine ⟨r ^^^ 1, nb (nb b), p, nY (nb b) (nY b Y 50) 12, nb_le (nb_le hb), h0, ?_, ?_⟩
    rotate_left
    · show fM_sharesIt _ x = _
      unfold fM_sharesIt
      rw [h41, if_pos (show nI 4 = 4 from rfl), ran_ms y XM hb, obs, h3, ob2s]
    · show fActs_run (n + 4 + 1) _ 50 x (nI e) = _
      rw [rn_50 z X hb Y (n + 4) x (by omega), bod.2.2.2.2.2.2.1, obs, h2, ob2s]
  · refine ⟨61, bod5.2.2.1, fun b Y hb => ?_⟩
    obtain ⟨r, p, h0, h00, h2, h3⟩ := p12 (z := z) (y := y) hx (n + 3) x (show e + 1 ≤ 40 by omega) (nb b) (nY b Y 61) (nb_le hb)
    rcases h0 with rfl | rfl
    · obtain ⟨bd, hbd, hs⟩ := sits_k (z := z) (y := y) hx hk (n + 1) (X 4) (show e + 1 + 2 ≤ 40 by omega)
      obtain ⟨q, b3, Y3, g1, g2, g3⟩ := hs (nb (nb b)) (nY (nb b) (nY b Y 61) 12) (nb_le (nb_le hb))
      have g2 : fActs_run (n + 4) _ bd (X 4) (nI (e + 1)) = _ := g2
      have g3 : fM_sitsIt _ (X 4) = _ := g3
      refine ⟨r + q, b3, 0, Y3, g1, Or.inl rfl, ?_, ?_⟩
      · show fActs_run (n + 4 + 1) _ 61 x (nI e) = _
        rw [rn_61 z X hb Y (n + 4) x (by omega), bod.2.2.1, obs, h2, ob2s, show gI (cs z X (nb (nb b)) 0 (nY (nb b) (nY b Y 61) 12)) 32 2 = nI 5 from hx.1, hbd, obs, show gI (cs z X (nb (nb b)) 0 (nY (nb b) (nY b Y 61) 12)) 32 4 = X 4 from rfl, g2, ob2s]
      · show fM_sharesIt _ x = _
        unfold fM_sharesIt
        rw [h41, if_neg (show ¬ nI 5 = 4 by decide), if_pos (show nI 5 = 5 from rfl), ran_ms y XM hb, obs, h3, ob2s, if_pos (show gI (ms y XM (nb (nb b)) 0 (nY (nb b) (nY b Y 61) 12)) 56 46 = 0 from rfl), h43, g3, ob2s]
    · have r0 := h00 rfl
      subst r0
      refine ⟨0, nb (nb b), 1, nY (nb b) (nY b Y 61) 12, nb_le (nb_le hb), Or.inr rfl, ?_, ?_⟩
      · show fActs_run (n + 4 + 1) _ 61 x (nI e) = _
        rw [rn_61 z X hb Y (n + 4) x (by omega), bod.2.2.1, obs, h2, ob2s, show gI (cs z X (nb (nb b)) 1 (nY (nb b) (nY b Y 61) 12)) 32 2 = nI 5 from hx.1, bod5.1, obs, rn_p, ob2s]
        rfl
      · show fM_sharesIt _ x = _
        unfold fM_sharesIt
        rw [h41, if_neg (show ¬ nI 5 = 4 by decide), if_pos (show nI 5 = 5 from rfl), ran_ms y XM hb, obs, h3, ob2s, if_neg (show ¬ gI (ms y XM (nb (nb b)) 1 (nY (nb b) (nY b Y 61) 12)) 56 46 = 0 from one_ne)]
theorem p13 {z y : MS} {X XM : Nat → Int32} {k : Nat} (hx : AX X XM k) (hk : 0 < k ∧ k < 6) (n : Nat) (x : Int32) {e : Nat} (he : e + 5 ≤ 40) : E0 z y X XM (fActs_run (n + 6) · 13 x (nI e)) (fM_plainTells · x) := by
  intro b Y hb
  have h43 : ∀ b Y, gI (ms y XM b 0 Y) 56 43 = X 4 := fun b Y => hx.2.2.2.1
  obtain ⟨bd, hbd, hs⟩ := counts_k (z := z) (y := y) hx hk n x (show e + 1 + 4 ≤ 40 by omega)
  obtain ⟨r, b2, Y2, h1, h2, h3⟩ := hs (nb b) (nY b Y 13) (nb_le hb)
  have h2 : fActs_run (n + 5) _ bd x (nI (e + 1)) = _ := h2
  have h3 : fM_countsIt _ x = _ := h3
  refine ⟨r ^^^ X 4, b2, Y2, h1, ?_, ?_⟩
  · show fActs_run (n + 5 + 1) _ 13 x (nI e) = _
    rw [rn_13 z X hb Y (n + 5) x (by omega), hx.1, hbd, obs, h2, ob2s]
    rfl
  · show fM_plainTells _ x = _
    unfold fM_plainTells
    rw [ran_ms y XM hb, obs, h3, ob2s, h43]
theorem tells_k {z y : MS} {X XM : Nat → Int32} {k : Nat} (hx : AX X XM k) (hk : 0 < k ∧ k < 6) (n : Nat) (x : Int32) {e : Nat} (he : e + 6 ≤ 40) : ∃ bd, fActs_bodyOf (nI k) 3 = some bd ∧ E1 z y X XM (fActs_run (n + 7) · bd x (nI e)) (fM_tellsIt · x) := by
  have h41 : ∀ b Y, gI (ms y XM b 0 Y) 56 41 = nI k := fun b Y => hx.2.1
  have h42 : ∀ b Y, gI (ms y XM b 0 Y) 56 42 = X 3 := fun b Y => hx.2.2.1
  have plain : E0 z y X XM (fActs_run (n + 7) · 13 x (nI e)) (fM_plainTells · x) := p13 (z := z) (y := y) hx hk (n + 1) x (by omega)
  have draw : E1 z y X XM (fActs_run (n + 7) · 31 x (nI e)) (fM_tellsIt_J16 · x) := by
    intro b Y hb
    obtain ⟨r, b2, Y2, h1, h2, h3⟩ := p13 (z := z) (y := y) hx hk n x (show e + 1 + 5 ≤ 40 by omega) (nb b) (nY b Y 31) (nb_le hb)
    have h2 : fActs_run (n + 6) _ 13 x (nI (e + 1)) = _ := h2
    have h3 : fM_plainTells _ x = _ := h3
    obtain ⟨bd, hbd, hs⟩ := shares_k (z := z) (y := y) hx hk (n + 1) (X 3) (show e + 1 + 4 ≤ 40 by omega)
    obtain ⟨q, b3, p, Y3, g0, g1, g2, g3⟩ := hs b2 Y2 h1
    have g2 : fActs_run (n + 6) _ bd (X 3) (nI (e + 1)) = _ := g2
    have g3 : fM_sharesIt _ (X 3) = _ := g3
    refine ⟨r + q, b3, p, Y3, g0, g1, ?_, ?_⟩
    · show fActs_run (n + 6 + 1) _ 31 x (nI e) = _
      rw [rn_31 z X hb Y (n + 6) x (by omega), bod.2.2.2.1, obs, h2, ob2s, show gI (cs z X b2 0 Y2) 32 2 = nI k from hx.1, hbd, obs, show gI (cs z X b2 0 Y2) 32 3 = X 3 from rfl, g2, ob2s]
    · show fM_tellsIt_J16 _ x = _
      unfold fM_tellsIt_J16
      rw [ran_ms y XM hb, obs, h3, ob2s, h42, g3, ob2s]
  rcases (show k = 1 ∨ k = 2 ∨ k = 3 ∨ k = 4 ∨ k = 5 by omega) with rfl | rfl | rfl | rfl | rfl
  · refine ⟨13, bod1.2.2.2, fun b Y hb => ?_⟩
    obtain ⟨r, b2, p, Y2, h1, h0, h2, h3⟩ := E0_1 plain b Y hb
    refine ⟨r, b2, p, Y2, h1, h0, h2, ?_⟩
    show fM_tellsIt _ x = _
    unfold fM_tellsIt
    rw [h41, if_neg (show ¬ nI 1 = 2 by decide), if_neg (show ¬ nI 1 = 3 by decide), if_neg (show ¬ nI 1 = 5 by decide), ob2_eta]
    exact h3
  · refine ⟨31, bod2.2.2.2, fun b Y hb => ?_⟩
    obtain ⟨r, b2, p, Y2, h1, h0, h2, h3⟩ := draw b Y hb
    refine ⟨r, b2, p, Y2, h1, h0, h2, ?_⟩
    show fM_tellsIt _ x = _
    unfold fM_tellsIt
    rw [h41, if_pos (show nI 2 = 2 from rfl)]
    exact h3
  · refine ⟨31, bod3.2.2.2, fun b Y hb => ?_⟩
    obtain ⟨r, b2, p, Y2, h1, h0, h2, h3⟩ := draw b Y hb
    refine ⟨r, b2, p, Y2, h1, h0, h2, ?_⟩
    show fM_tellsIt _ x = _
    unfold fM_tellsIt
    rw [h41, if_neg (show ¬ nI 3 = 2 by decide), if_pos (show nI 3 = 3 from rfl)]
    exact h3
  · refine ⟨13, bod4.2.2.2, fun b Y hb => ?_⟩
    obtain ⟨r, b2, p, Y2, h1, h0, h2, h3⟩ := E0_1 plain b Y hb
    refine ⟨r, b2, p, Y2, h1, h0, h2, ?_⟩
    show fM_tellsIt _ x = _
    unfold fM_tellsIt
    rw [h41, if_neg (show ¬ nI 4 = 2 by decide), if_neg (show ¬ nI 4 = 3 by decide), if_neg (show ¬ nI 4 = 5 by decide), ob2_eta]
    exact h3
  · refine ⟨60, bod5.2.2.2, fun b Y hb => ?_⟩
    obtain ⟨r, b2, Y2, h1, h2, h3⟩ := p13 (z := z) (y := y) hx hk n x (show e + 1 + 5 ≤ 40 by omega) (nb b) (nY b Y 60) (nb_le hb)
    have h2 : fActs_run (n + 6) _ 13 x (nI (e + 1)) = _ := h2
    have h3 : fM_plainTells _ x = _ := h3
    refine ⟨r * 2, b2, 0, Y2, h1, Or.inl rfl, ?_, ?_⟩
    · show fActs_run (n + 6 + 1) _ 60 x (nI e) = _
      rw [rn_60 z X hb Y (n + 6) x (by omega), bod.2.2.2.1, obs, h2, ob2s]
    · show fM_tellsIt _ x = _
      unfold fM_tellsIt
      rw [h41, if_neg (show ¬ nI 5 = 2 by decide), if_neg (show ¬ nI 5 = 3 by decide), if_pos (show nI 5 = 5 from rfl), ran_ms y XM hb, obs, h3, ob2s]
