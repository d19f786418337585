theorem letters {B : Nat → Int32} {l a i : Nat} (h : i < enW B l a - a) : 1 ≤ cl (B (a + i)) - 96 ∧ cl (B (a + i)) - 96 ≤ 26 ∧ 97 ≤ cl (B (a + i)) ∧ a + i < l := by
  have := rnT_in (isL B) l _ a rfl (a + i) (by omega) (by unfold enW at h; omega)
  obtain ⟨h1, h2⟩ := this
  unfold isL at h2
  simp only [Bool.and_eq_true, decide_eq_true_eq] at h2
  omega
/-- the word si stands at a -/
def wB (B : Nat → Int32) (l a si : Nat) : Bool := decide (cdN B l a = wcd si)
theorem wB_iff {B : Nat → Int32} {l a si : Nat} (hs : si < 14) : wB B l a si = true ↔ (enW B l a - a = wln si ∧ ∀ i, i < wln si → cl (B (a + i)) = wch si i + 96) := by
  obtain ⟨w1, w2, w3, w4, w5, w6⟩ := wrdD si hs
  unfold wB cdN
  rw [decide_eq_true_eq]
  by_cases c : enW B l a - a ≤ 8
  · rw [if_pos c]
    constructor
    · intro h
      obtain ⟨e1, e2⟩ := cod_inj _ _ (fun i hi => ⟨(letters hi).1, (letters hi).2.1⟩) (fun i hi => (w6 i hi).2) h
      refine ⟨e1, fun i hi => ?_⟩
      have h3 := e2 i (by omega)
      have h4 := (letters (B := B) (l := l) (a := a) (i := i) (by omega)).2.2.1
      have h3 : cl (B (a + i)) - 96 = wch si i := h3
      omega
    · intro ⟨e1, e2⟩
      rw [e1]
      refine cod_cong _ (fun i hi => ?_)
      have := e2 i hi
      show cl (B (a + i)) - 96 = wch si i
      omega
  · rw [if_neg c]
    constructor
    · intro h; omega
    · intro ⟨e1, e2⟩; omega
theorem standsC {z : MS} {B : Nat → Int32} {l : Nat} (hz : tpC z B l) {a : Nat} (ha : a < 1000) (ft : Int32) (n : Nat) (K A T G : Nat → Int32) {si : Nat} (hs : si < 14) : fTape_stands (dh z a ft n K A T G) si (nI (enW B l a)) = some (if wB B l a si then 1 else 0) := by
  obtain ⟨h9, h8, hl, hB⟩ := hz
  obtain ⟨g3, g4, g2, g9, -⟩ := dh_g z a ft n K A T G
  obtain ⟨w1, w2, w3, w4, w5, w6⟩ := wrdD si hs
  have hge := rnT_ge' (isL B) l a
  have hge : a ≤ enW B l a := hge
  have hle : enW B l a ≤ 1000 := by
    by_cases c : a ≤ l
    · have : enW B l a ≤ l := rnT_le (isL B) l a c
      omega
    · have : enW B l a = a := rnT_n (by omega)
      omega
  have hiff := wB_iff (B := B) (l := l) (a := a) hs
  unfold fTape_stands
  rw [if_pos hs, g3, w4, pk_sub hge]
  by_cases c : enW B l a - a = wln si
  · rw [c, if_pos rfl]
    have key : ∀ (e i f : Nat), i + e = wln si → e < f → (∀ j, j < i → cl (B (a + j)) = wch si j + 96) → fTape_stands_L17 (dh z a ft n K A T G) si f (nI i) = some (if wB B l a si then 1 else 0) := by
      intro e
      induction e with
      | zero =>
        intro i f hi hf hall
        obtain ⟨f, rfl⟩ : ∃ m, f = m + 1 := ⟨f - 1, by omega⟩
        have hi : i = wln si := hi
        subst hi
        rw [fTape_stands_L17, if_pos hs, w4, if_pos (Int32.le_refl _), hiff.mpr ⟨c, hall⟩, if_pos rfl]
      | succ e ih =>
        intro i f hi hf hall
        obtain ⟨f, rfl⟩ : ∃ m, f = m + 1 := ⟨f - 1, by omega⟩
        have hil : i < wln si := by omega
        have hlt := (letters (B := B) (l := l) (a := a) (i := i) (by omega)).2.2.2
        obtain ⟨b1, b2⟩ := by_eq hB (show a + i < 200 by omega)
        have h26 := (w6 i hil).2
        rw [fTape_stands_L17, if_pos hs, w4, if_neg (nI_ge hil (by omega)), g3, nI_add, if_neg (ix_ok (show a + i < 200 by omega) (by omega)), if_pos hs, w3, if_neg (ix_ok hil (by omega)), nI_clamp (by omega), g9, h9, (w6 i hil).1, nI_s]
        by_cases ce : cl (B (a + i)) = wch si i + 96
        · rw [if_pos (by rw [b1, ce])]
          refine ih (i + 1) f (by omega) (by omega) (fun j hj => ?_)
          rcases Nat.lt_or_ge j i with h1 | h1
          · exact hall j h1
          · have : j = i := by omega
            subst this
            exact ce
        · rw [if_neg (show ¬ B (a + i) = nI (wch si i + 96) from fun h => ce (by rw [h, cl_nI (by omega)]))]
          have : wB B l a si = false := by
            cases h : wB B l a si with
            | false => rfl
            | true => exact absurd ((hiff.mp h).2 i hil) ce
          rw [this, if_neg ftn]
    exact key (wln si) 0 LF (by omega) (by unfold LF; omega) (fun j hj => by omega)
  · rw [if_neg (nI_ne c (by omega) (by omega))]
    have : wB B l a si = false := by
      cases h : wB B l a si with
      | false => rfl
      | true => exact absurd (hiff.mp h).1 c
    rw [this, if_neg ftn]
theorem fail_g {z : MS} {B : Nat → Int32} {l : Nat} (hz : tpC z B l) {a : Nat} (n : Nat) (K A T G : Nat → Int32) {f : Nat} (hf : f ≤ l) : fTape_fail (dh z a (-1) n K A T G) (nI f) = some (dh z a (nI f) n K A T G) := by
  obtain ⟨h9, h8, hl, hB⟩ := hz
  obtain ⟨g3, g4, g2, g9, -⟩ := dh_g z a (-1) n K A T G
  unfold fTape_fail mnI
  rw [g4, if_neg (show ¬ (0 : Int32) ≤ -1 by decide), g2, h8, if_neg (nI_nlt (by omega) (by omega)), dh_ft]
theorem fail_b (z : MS) (a : Nat) (n : Nat) (K A T G : Nat → Int32) {f : Nat} (hf : f < 1000) (x : Int32) : fTape_fail (dh z a (nI f) n K A T G) x = some (dh z a (nI f) n K A T G) := by
  obtain ⟨g3, g4, g2, g9, -⟩ := dh_g z a (nI f) n K A T G
  unfold fTape_fail
  rw [g4, if_pos (Int32.not_lt.mp (nI_pos (by omega)))]
/-- a number of one or two digits at a -/
def nmO (B : Nat → Int32) (l a : Nat) : Option Nat :=
  if a < l ∧ isD B a = true then (if a + 1 < l ∧ isD B (a + 1) = true then (if a + 2 < l ∧ isD B (a + 2) = true then none else some (10 * (cl (B a) - 48) + (cl (B (a + 1)) - 48))) else some (cl (B a) - 48)) else none
theorem isD_d {B : Nat → Int32} {i : Nat} (h : isD B i = true) : 48 ≤ cl (B i) ∧ cl (B i) ≤ 57 := by
  unfold isD at h
  simp only [Bool.and_eq_true, decide_eq_true_eq] at h
  exact h
theorem isDig {B : Nat → Int32} (hB : ∀ i, i < 200 → lt (B i) 256) {i : Nat} (hi : i < 200) : fTape_isDigit (B i) = if isD B i then 1 else 0 := by
  obtain ⟨b1, b2⟩ := by_eq hB hi
  unfold fTape_isDigit isD
  by_cases c1 : cl (B i) < 48
  · rw [if_pos (show B i < 48 by rw [b1]; exact nI_lt (b := 48) c1 (by omega)), decide_eq_false (by omega)]; rfl
  · rw [if_neg (show ¬ B i < 48 by rw [b1]; exact nI_nlt (b := 48) (by omega) (by omega)), decide_eq_true (by omega)]
    by_cases c2 : 57 < cl (B i)
    · rw [if_pos (show (57 : Int32) < B i by rw [b1]; exact nI_lt (a := 57) c2 (by omega)), decide_eq_false (by omega)]; rfl
    · rw [if_neg (show ¬ (57 : Int32) < B i by rw [b1]; exact nI_nlt (a := 57) (by omega) (by omega)), decide_eq_true (by omega)]; rfl
theorem num_step {z : MS} {B : Nat → Int32} {l : Nat} (hz : tpC z B l) (ft : Int32) (n : Nat) (K A T G : Nat → Int32) (l1 l2 l3 : Int32) (f : Nat) (a : Nat) (ha : a < 1000) (v : Int32) : fTape_readNumber_L12 l1 l2 l3 (f + 1) (dh z a ft n K A T G) v = if a < l ∧ isD B a = true then fTape_readNumber_L12 l1 l2 l3 f (dh z (a + 1) ft n K A T G) (mnI (((v * 10) + B a) - 48) 1000) else fTape_readNumber_J77 (dh z a ft n K A T G) l1 l2 l3 v := by
  obtain ⟨h9, h8, hl, hB⟩ := hz
  obtain ⟨g3, g4, g2, g9, -⟩ := dh_g z a ft n K A T G
  by_cases c : a < l
  · rw [fTape_readNumber_L12, g3, g2, g9, h8, h9, if_neg (nI_ge c (by omega)), if_neg (ix_ok (show a < 200 by omega) (by omega)), if_neg (ix_ok (show a < 200 by omega) (by omega)), nI_clamp (by omega), isDig hB (by omega), nI_s, dh_at]
    cases hd : isD B a with
    | false => rw [if_pos (show (if false = true then (1 : Int32) else 0) = 0 from rfl), if_neg (fun h => by cases h.2)]
    | true => rw [if_neg (show ¬ (if true = true then (1 : Int32) else 0) = 0 from one_ne), if_pos ⟨c, rfl⟩]
  · rw [fTape_readNumber_L12, g3, g2, h8, if_pos (nI_le (by omega) (by omega)), if_neg (fun h => c h.1)]
theorem num_any {z : MS} {B : Nat → Int32} {l : Nat} (hz : tpC z B l) (ft : Int32) (n : Nat) (K A T G : Nat → Int32) (l1 l2 l3 : Int32) : ∀ (e a f : Nat) (v : Int32), l - a ≤ e → e < f → a < 1000 → ∃ v2, fTape_readNumber_L12 l1 l2 l3 f (dh z a ft n K A T G) v = fTape_readNumber_J77 (dh z (enD B l a) ft n K A T G) l1 l2 l3 v2 := by
  have hl := hz.2.2.1
  intro e
  induction e with
  | zero =>
    intro a f v he hf ha
    obtain ⟨f, rfl⟩ : ∃ m, f = m + 1 := ⟨f - 1, by omega⟩
    refine ⟨v, ?_⟩
    unfold enD
    rw [num_step hz ft n K A T G l1 l2 l3 f a ha v, if_neg (by omega), rnT_n (by omega)]
  | succ e ih =>
    intro a f v he hf ha
    obtain ⟨f, rfl⟩ : ∃ m, f = m + 1 := ⟨f - 1, by omega⟩
    rw [num_step hz ft n K A T G l1 l2 l3 f a ha v]
    by_cases c : a < l ∧ isD B a = true
    · rw [if_pos c]
      obtain ⟨v2, h2⟩ := ih (a + 1) f (mnI (((v * 10) + B a) - 48) 1000) (by omega) (by omega) (by omega)
      refine ⟨v2, ?_⟩
      rw [h2]
      unfold enD
      rw [rnT_y c.1 c.2]
    · rw [if_neg c]
      refine ⟨v, ?_⟩
      unfold enD
      rw [rnT_n c]
theorem dval : ∀ x, x < 100 → ∀ b, b < 58 → 48 ≤ b → mnI (((nI x * 10) + nI b) - 48) 1000 = nI (10 * x + (b - 48)) ∨ 100 ≤ 10 * x + (b - 48) := by
  intro x hx b hb hb2
  left
  have e10 : (nI x * 10 : Int32) = nI (10 * x) := by rw [show (10 : Int32) = nI 10 from rfl, pk_mul, Nat.mul_comm]
  unfold mnI
  rw [e10, nI_add, show (48 : Int32) = nI 48 from rfl, pk_sub (by omega), show 10 * x + b - 48 = 10 * x + (b - 48) by omega, if_neg (show ¬ (1000 : Int32) < nI (10 * x + (b - 48)) from nI_nlt (a := 1000) (by omega) (by omega))]
/-- the class reads a number: fine, or at fault -/
theorem num_c {z : MS} {B : Nat → Int32} {l : Nat} (hz : tpC z B l) (n : Nat) (K A T G : Nat → Int32) {a : Nat} (ha : a ≤ l) (most bn : Int32) :
    (∀ v, nmO B l (skB B l a) = some v → nI v ≤ most → nI v ≠ bn → fTape_readNumber (dh z a (-1) n K A T G) most bn = some (nI v, dh z (enD B l (skB B l a)) (-1) n K A T G)) ∧
    ((∀ v, nmO B l (skB B l a) = some v → nI v ≤ most → nI v ≠ bn → False) → ∃ w, fTape_readNumber (dh z a (-1) n K A T G) most bn = some (w, dh z (enD B l (skB B l a)) (nI (skB B l a)) n K A T G)) := by
  have hl := hz.2.2.1
  have hB := hz.2.2.2
  have hs : skB B l a ≤ l := rnT_le _ _ _ ha
  have hsk := skipB hz (show a < 1000 by omega) (-1) n K A T G
  generalize skB B l a = s at *
  obtain ⟨g3, -⟩ := dh_g z s (-1) n K A T G
  have hge : s ≤ enD B l s := rnT_ge' _ _ _
  have hle : enD B l s ≤ l := rnT_le _ _ _ hs
  have h109 : ∀ w, fTape_readNumber_J109 (dh z (enD B l s) (-1) n K A T G) (nI s) w = some (w, dh z (enD B l s) (nI s) n K A T G) := by
    intro w
    unfold fTape_readNumber_J109
    rw [fail_g hz n K A T G hs, obs]
  obtain ⟨ge3, -⟩ := dh_g z (enD B l s) (-1) n K A T G
  have hJ : ∀ w, fTape_readNumber_J77 (dh z (enD B l s) (-1) n K A T G) most bn (nI s) w = if enD B l s - s < 1 ∨ 2 < enD B l s - s ∨ most < w ∨ w = bn then some (w, dh z (enD B l s) (nI s) n K A T G) else some (w, dh z (enD B l s) (-1) n K A T G) := by
    intro w
    unfold fTape_readNumber_J77
    rw [ge3, pk_sub hge, h109]
    by_cases c1 : enD B l s - s < 1
    · rw [if_pos (show nI (enD B l s - s) < 1 from nI_lt (b := 1) c1 (by omega)), if_pos (Or.inl c1)]
    · rw [if_neg (show ¬ nI (enD B l s - s) < 1 from nI_nlt (b := 1) (by omega) (by omega))]
      by_cases c2 : 2 < enD B l s - s
      · rw [if_pos (show (2 : Int32) < nI (enD B l s - s) from nI_lt (a := 2) c2 (by omega)), if_pos (Or.inr (Or.inl c2))]
      · rw [if_neg (show ¬ (2 : Int32) < nI (enD B l s - s) from nI_nlt (a := 2) (by omega) (by omega))]
        by_cases c3 : most < w
        · rw [if_pos c3, if_pos (Or.inr (Or.inr (Or.inl c3)))]
        · rw [if_neg c3]
          by_cases c4 : w = bn
          · rw [if_pos c4, if_pos (Or.inr (Or.inr (Or.inr c4)))]
          · rw [if_neg c4, if_neg (fun h => h.elim c1 (fun h => h.elim c2 (fun h => h.elim c3 c4)))]
  have start : fTape_readNumber (dh z a (-1) n K A T G) most bn = fTape_readNumber_L12 most bn (nI s) LF (dh z s (-1) n K A T G) 0 := by
    unfold fTape_readNumber
    rw [hsk, obs, g3]
  rw [start]
  by_cases d0 : s < l ∧ isD B s = true
  · have v0 := isD_d d0.2
    obtain ⟨b1, b2⟩ := by_eq hB (show s < 200 by omega)
    have e0 : mnI (((0 * 10) + B s) - 48) 1000 = nI (cl (B s) - 48) := by
      have := dval 0 (by omega) (cl (B s)) (by omega) v0.1
      rw [← b1] at this
      rcases this with h | h
      · rw [Nat.mul_zero, Nat.zero_add] at h; exact h
      · omega
    have st0 := num_step hz (-1) n K A T G most bn (nI s) 999999 s (by omega) 0
    rw [if_pos d0, e0] at st0
    have st0 : fTape_readNumber_L12 most bn (nI s) LF (dh z s (-1) n K A T G) 0 = _ := st0
    by_cases d1 : s + 1 < l ∧ isD B (s + 1) = true
    · have v1 := isD_d d1.2
      obtain ⟨c1, c2⟩ := by_eq hB (show s + 1 < 200 by omega)
      have e1 : mnI (((nI (cl (B s) - 48) * 10) + B (s + 1)) - 48) 1000 = nI (10 * (cl (B s) - 48) + (cl (B (s + 1)) - 48)) := by
        have := dval (cl (B s) - 48) (by omega) (cl (B (s + 1))) (by omega) v1.1
        rw [← c1] at this
        rcases this with h | h
        · exact h
        · omega
      have st1 := num_step hz (-1) n K A T G most bn (nI s) 999998 (s + 1) (by omega) (nI (cl (B s) - 48))
      rw [if_pos d1, e1] at st1
      by_cases d2 : s + 2 < l ∧ isD B (s + 2) = true
      · have hnm : nmO B l s = none := by unfold nmO; rw [if_pos d0, if_pos d1, if_pos d2]
        have hd3 : enD B l s = enD B l (s + 3) := by
          unfold enD
          rw [rnT_y d0.1 d0.2, rnT_y d1.1 d1.2, rnT_y d2.1 d2.2]
        have hg3 : s + 3 ≤ enD B l s := by rw [hd3]; exact rnT_ge' _ _ _
        obtain ⟨w, hw⟩ := num_any hz (-1) n K A T G most bn (nI s) 200 s LF 0 (by omega) (by decide) (by omega)
        rw [hw, hJ, if_pos (Or.inr (Or.inl (by omega)))]
        refine ⟨fun v hv => (by rw [hnm] at hv; cases hv), fun _ => ⟨w, rfl⟩⟩
      · have hnm : nmO B l s = some (10 * (cl (B s) - 48) + (cl (B (s + 1)) - 48)) := by unfold nmO; rw [if_pos d0, if_pos d1, if_neg d2]
        have hd2 : enD B l s = s + 2 := by
          unfold enD
          rw [rnT_y d0.1 d0.2, rnT_y d1.1 d1.2, rnT_n d2]
        have st2 := num_step hz (-1) n K A T G most bn (nI s) 999997 (s + 2) (by omega) (nI (10 * (cl (B s) - 48) + (cl (B (s + 1)) - 48)))
        rw [if_neg d2, ← hd2, hJ] at st2
        rw [st0, st1, ← hd2, st2]
        constructor
        · intro v hv h1 h2
          rw [hnm] at hv
          cases hv
          rw [if_neg (fun h => h.elim (fun h => by omega) (fun h => h.elim (fun h => by omega) (fun h => h.elim (fun h => absurd h (Int32.not_lt.mpr h1)) h2)))]
        · intro hno
          refine ⟨nI (10 * (cl (B s) - 48) + (cl (B (s + 1)) - 48)), ?_⟩
          · rw [if_pos]
            by_cases h1 : most < nI (10 * (cl (B s) - 48) + (cl (B (s + 1)) - 48))
            · exact Or.inr (Or.inr (Or.inl h1))
            · by_cases h2 : nI (10 * (cl (B s) - 48) + (cl (B (s + 1)) - 48)) = bn
              · exact Or.inr (Or.inr (Or.inr h2))
              · exact absurd (hno _ hnm (Int32.not_lt.mp h1) h2) id
    · have hnm : nmO B l s = some (cl (B s) - 48) := by unfold nmO; rw [if_pos d0, if_neg d1]
      have hd1 : enD B l s = s + 1 := by
        unfold enD
        rw [rnT_y d0.1 d0.2, rnT_n d1]
      have st1 := num_step hz (-1) n K A T G most bn (nI s) 999998 (s + 1) (by omega) (nI (cl (B s) - 48))
      rw [if_neg d1, ← hd1, hJ] at st1
      rw [st0, ← hd1, st1]
      constructor
      · intro v hv h1 h2
        rw [hnm] at hv
        cases hv
        rw [if_neg (fun h => h.elim (fun h => by omega) (fun h => h.elim (fun h => by omega) (fun h => h.elim (fun h => absurd h (Int32.not_lt.mpr h1)) h2)))]
      · intro hno
        refine ⟨nI (cl (B s) - 48), ?_⟩
        · rw [if_pos]
          by_cases h1 : most < nI (cl (B s) - 48)
          · exact Or.inr (Or.inr (Or.inl h1))
          · by_cases h2 : nI (cl (B s) - 48) = bn
            · exact Or.inr (Or.inr (Or.inr h2))
            · exact absurd (hno _ hnm (Int32.not_lt.mp h1) h2) id
  · have hnm : nmO B l s = none := by unfold nmO; rw [if_neg d0]
    have hd0 : enD B l s = s := rnT_n d0
    have st0 := num_step hz (-1) n K A T G most bn (nI s) 999999 s (by omega) 0
    rw [if_neg d0, show dh z s (-1) n K A T G = dh z (enD B l s) (-1) n K A T G by rw [hd0], hJ, if_pos (Or.inl (by omega))] at st0
    have st0 : fTape_readNumber_L12 most bn (nI s) LF (dh z (enD B l s) (-1) n K A T G) 0 = _ := st0
    rw [show dh z s (-1) n K A T G = dh z (enD B l s) (-1) n K A T G by rw [hd0], st0]
    exact ⟨fun v hv => (by rw [hnm] at hv; cases hv), fun _ => ⟨0, rfl⟩⟩
/-- behind a fault a number only runs out -/
theorem num_b {z : MS} {B : Nat → Int32} {l : Nat} (hz : tpC z B l) (n : Nat) (K A T G : Nat → Int32) {a f : Nat} (ha : a < 500) (hf : f < 1000) (most bn : Int32) : ∃ w b, b < 500 ∧ fTape_readNumber (dh z a (nI f) n K A T G) most bn = some (w, dh z b (nI f) n K A T G) := by
  have hl := hz.2.2.1
  have hsk := skipB hz (show a < 1000 by omega) (nI f) n K A T G
  have hs : skB B l a < 500 := by
    by_cases c : a ≤ l
    · have : skB B l a ≤ l := rnT_le _ _ _ c
      omega
    · have : skB B l a = a := rnT_n (by omega)
      omega
  have hs2 : enD B l (skB B l a) < 500 := by
    by_cases c : skB B l a ≤ l
    · have : enD B l (skB B l a) ≤ l := rnT_le _ _ _ c
      omega
    · have : enD B l (skB B l a) = skB B l a := rnT_n (by omega)
      omega
  obtain ⟨w, hw⟩ := num_any hz (nI f) n K A T G most bn (nI (skB B l a)) 200 (skB B l a) LF 0 (by omega) (by decide) (by omega)
  obtain ⟨g3, -⟩ := dh_g z (skB B l a) (nI f) n K A T G
  refine ⟨w, enD B l (skB B l a), hs2, ?_⟩
  unfold fTape_readNumber
  rw [hsk, obs, g3, hw]
  have h109 : fTape_readNumber_J109 (dh z (enD B l (skB B l a)) (nI f) n K A T G) (nI (skB B l a)) w = some (w, dh z (enD B l (skB B l a)) (nI f) n K A T G) := by
    unfold fTape_readNumber_J109
    rw [fail_b z _ n K A T G hf, obs]
  unfold fTape_readNumber_J77
  rw [h109]
  repeat' split
  all_goals rfl
