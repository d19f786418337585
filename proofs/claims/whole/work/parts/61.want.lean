/-- what stays of the model's numbers when it goes on by a token -/
def keepX (X X2 : Nat → Int32) : Prop := ∀ j, j ≠ 14 → j ≠ 15 → j ≠ 16 → j ≠ 18 → X2 j = X j
theorem adv_m {y : MS} {B : Nat → Int32} {l : Nat} (hy : tpM y B l) (K A T G : Nat → Int32) {e : Nat} (he : e ≤ l) (X : Nat → Int32) (W : Nat → Int64) (h13 : X 13 = nI l) (h16 : X 16 = nI e) : ∃ X2 W2, fM_advance (mh y X W K A T G) = some (mh y X2 W2 K A T G) ∧ tok B l (skB B l e) X2 W2 ∧ keepX X X2 := by
  obtain ⟨h65, hl, hB⟩ := hy
  have hsl : skB B l e ≤ l := rnT_le _ _ _ he
  have hsk := skB_skB B l e
  -- blanks
  have blanks : ∀ (d i f : Nat) (X : Nat → Int32), l - i ≤ d → d < f → i ≤ l → X 13 = nI l → X 15 = nI i → fM_advance_L8 f (mh y X W K A T G) = fM_advance_L8 1 (mh y (upd X 15 (nI (skB B l i))) W K A T G) := by
    intro d
    induction d with
    | zero =>
      intro i f X hd hf hi h13 h15
      obtain ⟨f, rfl⟩ : ∃ m, f = m + 1 := ⟨f - 1, by omega⟩
      have hb := byteM (y := y) ⟨h65, hl, hB⟩ h13 W K A T G (show i < 1000 by omega)
      have es : skB B l i = i := rnT_n (by omega)
      rw [es, upd_same X 15 (nI i) h15]
      rw [if_neg (show ¬ i < l by omega)] at hb
      rw [fM_advance_L8, fM_advance_L8, mh_gX, h15, hb, obs, obs, if_neg (show ¬ (-1 : Int32) = 32 by decide), if_neg (show ¬ (-1 : Int32) = 32 by decide)]
    | succ d ih =>
      intro i f X hd hf hi h13 h15
      obtain ⟨f, rfl⟩ : ∃ m, f = m + 1 := ⟨f - 1, by omega⟩
      have hb := byteM (y := y) ⟨h65, hl, hB⟩ h13 W K A T G (show i < 1000 by omega)
      by_cases c : i < l ∧ isB B i = true
      · have c32 : B i = 32 := by
          have := c.2
          unfold isB at this
          rw [(by_eq hB (show i < 200 by omega)).1, of_decide_eq_true this]
          rfl
        rw [if_pos c.1] at hb
        have hih := ih (i + 1) f (upd X 15 (nI (i + 1))) (by omega) (by omega) (by omega) (by rw [upd_ne (by decide)]; exact h13) (upd_eq _ _ _)
        rw [fa_upd_twice] at hih
        have es : skB B l i = skB B l (i + 1) := rnT_y c.1 c.2
        rw [fM_advance_L8, mh_gX, h15, hb, obs, if_pos c32, nI_s, mh_X, hih, es]
      · have es : skB B l i = i := rnT_n c
        have hnb : ¬ (if i < l then B i else -1) = 32 := by
          by_cases ci : i < l
          · rw [if_pos ci]
            intro h32
            exact c ⟨ci, by unfold isB; rw [h32]; rfl⟩
          · rw [if_neg ci]; decide
        rw [es, upd_same X 15 (nI i) h15]
        rw [fM_advance_L8, fM_advance_L8, mh_gX, h15, hb, obs, obs, if_neg hnb, if_neg hnb]
  have h0 := blanks 200 e LF (upd X 15 (nI e)) (by omega) (by decide) he (by rw [upd_ne (by decide)]; exact h13) (upd_eq _ _ _)
  rw [fa_upd_twice] at h0
  generalize hs : skB B l e = s at *
  have hb0 := byteM (y := y) ⟨h65, hl, hB⟩ (X := upd X 15 (nI s)) (by rw [upd_ne (by decide)]; exact h13) W K A T G (show s < 1000 by omega)
  have hb1 := byteM (y := y) ⟨h65, hl, hB⟩ (X := upd (upd X 15 (nI s)) 16 (nI s)) (by rw [upd_ne (by decide), upd_ne (by decide)]; exact h13) W K A T G (show s < 1000 by omega)
  have hnb : ¬ (if s < l then B s else -1) = 32 := by
    by_cases ci : s < l
    · rw [if_pos ci]
      intro h32
      have := rnT_end (isB B) l _ s rfl
      rw [show rnT (isB B) l s = s from hsk] at this
      exact this ⟨ci, by unfold isB; rw [h32]; rfl⟩
    · rw [if_neg ci]; decide
  have hstart : fM_advance (mh y X W K A T G) = if 0 ≤ (if s < l then B s else -1) then (if (fM_isLetter (if s < l then B s else -1)) = 0 then (if (fM_isDigit (if s < l then B s else -1)) = 0 then fM_advance_J83 (mh y (upd (upd X 15 (nI s)) 16 (nI s)) W K A T G) (if s < l then B s else -1) 3 else fM_advance_J83 (mh y (upd (upd X 15 (nI s)) 16 (nI s)) W K A T G) (if s < l then B s else -1) 2) else fM_advance_J83 (mh y (upd (upd X 15 (nI s)) 16 (nI s)) W K A T G) (if s < l then B s else -1) 1) else fM_advance_J83 (mh y (upd (upd X 15 (nI s)) 16 (nI s)) W K A T G) (if s < l then B s else -1) 0 := by
    unfold fM_advance
    rw [mh_gX, h16, mh_X, h0, fM_advance_L8, mh_gX, upd_eq, hb0, obs, if_neg hnb, mh_X, mh_gX, upd_ne (show 15 ≠ 16 by decide), upd_eq, hb1, obs]
  rw [(letM hB hl s).1, (letM hB hl s).2] at hstart
  have hJ : ∀ (v : Int32) (so : Nat), so < 4 → fM_advance_J83 (mh y (upd (upd X 15 (nI s)) 16 (nI s)) W K A T G) v (nI so) = if so = 3 then fM_advance_L126 LF (mh y (upd (upd (upd (upd (upd X 15 (nI s)) 16 (nI s)) 14 (nI so)) 18 v) 16 (nI (s + 1))) (vp_updL W 17 0) K A T G) else fM_advance_L126 LF (mh y (upd (upd (upd (upd X 15 (nI s)) 16 (nI s)) 14 (nI so)) 18 (if so = 2 then 0 else v)) (vp_updL W 17 0) K A T G) := by
    intro v so hso
    unfold fM_advance_J83 fM_advance_J105
    simp (disch := decide) only [mh_X, mh_W, mh_gX, upd_eq, upd_ne, nI_s]
    rcases (show so = 0 ∨ so = 1 ∨ so = 2 ∨ so = 3 by omega) with rfl | rfl | rfl | rfl
    · rw [if_neg (show ¬ nI 0 = 2 by decide), if_neg (show ¬ nI 0 = 3 by decide), if_neg (by decide), if_neg (by decide)]
    · rw [if_neg (show ¬ nI 1 = 2 by decide), if_neg (show ¬ nI 1 = 3 by decide), if_neg (by decide), if_neg (by decide)]
    · rw [if_pos (show nI 2 = 2 from rfl), if_neg (show ¬ nI 2 = 3 by decide), if_neg (by decide), if_pos rfl]
    · rw [if_neg (show ¬ nI 3 = 2 by decide), if_pos (show nI 3 = 3 from rfl), if_pos rfl]
  have L126_0 : ∀ (X : Nat → Int32) (W : Nat → Int64), ¬ X 14 = 1 → ¬ X 14 = 2 → fM_advance_L126 LF (mh y X W K A T G) = some (mh y X W K A T G) := by
    intro X W c1 c2
    rw [LF_s, fM_advance_L126, mh_gX, if_neg c1, LF_s, fM_advance_L207, mh_gX, if_neg c2]
  by_cases ci : s < l
  · obtain ⟨b1, b2⟩ := by_eq hB (show s < 200 by omega)
    rw [if_pos ci] at hstart
    rw [if_pos (show (0 : Int32) ≤ B s by rw [b1]; exact Int32.not_lt.mp (nI_pos (by omega)))] at hstart
    by_cases cL : isL B s = true
    · rw [show (if s < l ∧ isL B s = true then (1 : Int32) else 0) = 1 from if_pos ⟨ci, cL⟩, if_neg one_ne, show (1 : Int32) = nI 1 from rfl, hJ (B s) 1 (by omega), if_neg (by decide), if_neg (by decide)] at hstart
      obtain ⟨X2, W2, q1, q2, q3, q4⟩ := L126_m (y := y) ⟨h65, hl, hB⟩ K A T G (a := s) 200 s LF (upd (upd (upd (upd X 15 (nI s)) 16 (nI s)) 14 (nI 1)) 18 (B s)) (vp_updL W 17 0) (by omega) (by decide) (Nat.le_refl _) hsl rfl
        (by rw [upd_ne (by decide), upd_ne (by decide), upd_ne (by decide), upd_ne (by decide)]; exact h13)
        (by rw [upd_ne (by decide), upd_eq]; rfl)
        (by rw [upd_ne (by decide), upd_ne (by decide), upd_ne (by decide), upd_eq])
        (by rw [upd_ne (by decide), upd_ne (by decide), upd_eq])
        (by rw [updL_a, if_pos rfl, Nat.sub_self, if_pos (by omega)]; rfl)
      have hsN : sN B l s = 1 := by unfold sN; rw [if_pos ci, if_pos cL]
      refine ⟨X2, W2, hstart.trans q1, ⟨?_, ?_, ?_, ?_, ?_⟩, ?_⟩
      · rw [q4 14 (by decide), upd_ne (by decide), upd_eq, hsN]
      · rw [q4 15 (by decide), upd_ne (by decide), upd_ne (by decide), upd_ne (by decide), upd_eq]
      · rw [q2]; unfold tE; rw [if_pos ci, if_pos cL]
      · rw [q4 18 (by decide), upd_eq]; unfold vI; rw [hsN, if_neg (by decide), if_pos ci]
      · rw [q3]; unfold wJ'; rw [hsN, if_pos rfl]
      · intro j j1 j2 j3 j4
        rw [q4 j j3, upd_ne j4, upd_ne j1, upd_ne j3, upd_ne j2]
    · by_cases cD : isD B s = true
      · rw [show (if s < l ∧ isL B s = true then (1 : Int32) else 0) = 0 from if_neg (fun h => cL h.2), if_pos rfl, show (if s < l ∧ isD B s = true then (1 : Int32) else 0) = 1 from if_pos ⟨ci, cD⟩, if_neg one_ne, show (2 : Int32) = nI 2 from rfl, hJ (B s) 2 (by omega), if_neg (by decide), if_pos rfl] at hstart
        obtain ⟨X2, q1, q2, q3, q4⟩ := L207_m (y := y) ⟨h65, hl, hB⟩ K A T G ci (vp_updL W 17 0) 200 s LF (upd (upd (upd (upd X 15 (nI s)) 16 (nI s)) 14 (nI 2)) 18 0) (by omega) (by decide) (Nat.le_refl _) hsl
          (by rw [upd_ne (by decide), upd_ne (by decide), upd_ne (by decide), upd_ne (by decide)]; exact h13)
          (by rw [upd_ne (by decide), upd_eq]; rfl)
          (by rw [upd_ne (by decide), upd_ne (by decide), upd_ne (by decide), upd_eq])
          (by rw [upd_ne (by decide), upd_ne (by decide), upd_eq])
          (fun _ => upd_eq _ _ _) (fun h => by omega) (fun h => by omega) (fun h => by omega) (fun j h1 h2 => by omega)
        have hsN : sN B l s = 2 := by unfold sN; rw [if_pos ci, if_neg cL, if_pos cD]
        have hL : fM_advance_L126 LF (mh y (upd (upd (upd (upd X 15 (nI s)) 16 (nI s)) 14 (nI 2)) 18 0) (vp_updL W 17 0) K A T G) = fM_advance_L207 LF (mh y (upd (upd (upd (upd X 15 (nI s)) 16 (nI s)) 14 (nI 2)) 18 0) (vp_updL W 17 0) K A T G) := by
          rw [LF_s, fM_advance_L126, mh_gX, if_neg (show ¬ upd (upd (upd (upd X 15 (nI s)) 16 (nI s)) 14 (nI 2)) 18 0 14 = 1 by rw [upd_ne (by decide), upd_eq]; decide)]
          rfl
        refine ⟨X2, vp_updL W 17 0, hstart.trans (hL.trans q1), ⟨?_, ?_, ?_, ?_, ?_⟩, ?_⟩
        · rw [q4 14 (by decide) (by decide), upd_ne (by decide), upd_eq, hsN]
        · rw [q4 15 (by decide) (by decide), upd_ne (by decide), upd_ne (by decide), upd_ne (by decide), upd_eq]
        · rw [q2]; unfold tE; rw [if_pos ci, if_neg cL, if_pos cD]
        · rw [q3 cD]; unfold vI; rw [hsN, if_pos rfl]
        · rw [updL_a, if_pos rfl]; unfold wJ'; rw [hsN, if_neg (by decide)]
        · intro j j1 j2 j3 j4
          rw [q4 j j3 j4, upd_ne j4, upd_ne j1, upd_ne j3, upd_ne j2]
      · rw [show (if s < l ∧ isL B s = true then (1 : Int32) else 0) = 0 from if_neg (fun h => cL h.2), if_pos rfl, show (if s < l ∧ isD B s = true then (1 : Int32) else 0) = 0 from if_neg (fun h => cD h.2), if_pos rfl, show (3 : Int32) = nI 3 from rfl, hJ (B s) 3 (by omega), if_pos rfl] at hstart
        rw [L126_0 _ _ (by rw [upd_ne (by decide), upd_ne (by decide), upd_eq]; decide) (by rw [upd_ne (by decide), upd_ne (by decide), upd_eq]; decide)] at hstart
        have hsN : sN B l s = 3 := by unfold sN; rw [if_pos ci, if_neg cL, if_neg cD]
        refine ⟨_, _, hstart, ⟨?_, ?_, ?_, ?_, ?_⟩, ?_⟩
        · rw [upd_ne (by decide), upd_ne (by decide), upd_eq, hsN]
        · rw [upd_ne (by decide), upd_ne (by decide), upd_ne (by decide), upd_ne (by decide), upd_eq]
        · rw [upd_eq]; unfold tE; rw [if_pos ci, if_neg cL, if_neg cD]
        · rw [upd_ne (by decide), upd_eq]; unfold vI; rw [hsN, if_neg (by decide), if_pos ci]
        · rw [updL_a, if_pos rfl]; unfold wJ'; rw [hsN, if_neg (by decide)]
        · intro j j1 j2 j3 j4
          rw [upd_ne j3, upd_ne j4, upd_ne j1, upd_ne j3, upd_ne j2]
  · rw [if_neg ci, if_neg m1_n0, show (0 : Int32) = nI 0 from rfl, hJ (-1) 0 (by omega), if_neg (by decide), if_neg (by decide)] at hstart
    rw [L126_0 _ _ (by rw [upd_ne (by decide), upd_eq]; decide) (by rw [upd_ne (by decide), upd_eq]; decide)] at hstart
    have hsN : sN B l s = 0 := by unfold sN; rw [if_neg ci]
    refine ⟨_, _, hstart, ⟨?_, ?_, ?_, ?_, ?_⟩, ?_⟩
    · rw [upd_ne (by decide), upd_eq, hsN]
    · rw [upd_ne (by decide), upd_ne (by decide), upd_ne (by decide), upd_eq]
    · rw [upd_ne (by decide), upd_ne (by decide), upd_eq]; unfold tE; rw [if_neg ci]
    · rw [upd_eq]; unfold vI; rw [hsN, if_neg (by decide), if_neg ci]
    · rw [updL_a, if_pos rfl]; unfold wJ'; rw [hsN, if_neg (by decide)]
    · intro j j1 j2 j3 j4
      rw [upd_ne j4, upd_ne j1, upd_ne j3, upd_ne j2]
theorem lg0 (x y : Int64) : lg_cmp x y = 0 ↔ x = y := by
  unfold lg_cmp
  by_cases c1 : x > y
  · rw [if_pos c1]
    refine ⟨fun h => absurd h one_ne, fun h => ?_⟩
    rw [h] at c1
    exact absurd c1 Int64.lt_irrefl
  · rw [if_neg c1]
    by_cases c2 : x = y
    · rw [if_pos c2]; exact ⟨fun _ => c2, fun _ => rfl⟩
    · rw [if_neg c2]; exact ⟨fun h => absurd h (by decide), fun h => absurd h c2⟩
theorem wrdL : ∀ si, si < 14 → wcd si < 27 ^ 7 := by decide +kernel
theorem isWord_m {y : MS} {B : Nat → Int32} {l a : Nat} {X : Nat → Int32} {W : Nat → Int64} (K A T G : Nat → Int32) (ht : tok B l a X W) {si : Nat} (hs : si < 14) : fM_isWord (mh y X W K A T G) (lN (wcd si)) = if wB B l a si then 1 else 0 := by
  obtain ⟨t14, t15, t16, t18, t17⟩ := ht
  have hw := (wrdD si hs).2.2.2.2.1
  have hwl := wrdL si hs
  have h7 : (27 : Nat) ^ 7 = 10460353203 := by decide
  unfold fM_isWord wB
  rw [mh_gX, mh_gW, t14, t17]
  by_cases c1 : sN B l a = 1
  · rw [c1, if_pos (show nI 1 = 1 from rfl)]
    unfold wJ'
    rw [if_pos c1]
    by_cases c8 : enW B l a - a ≤ 8
    · rw [if_pos c8]
      have hcd : cdN B l a < 27 ^ 8 := by
        unfold cdN
        rw [if_pos c8]
        have := cod_lt (f := fun i => cl (B (a + i)) - 96) (enW B l a - a) (fun i hi => (letters hi).2.1)
        exact Nat.lt_of_lt_of_le this (Nat.pow_le_pow_right (by omega) c8)
      have h8 : (27 : Nat) ^ 8 = 282429536481 := by decide
      by_cases ce : cdN B l a = wcd si
      · rw [decide_eq_true ce, ce, if_pos ((lg0 _ _).mpr rfl), if_pos rfl]
      · rw [decide_eq_false ce, if_neg (fun h => ce ((pk_lEQ (by omega) (by omega)).mp ((lg0 _ _).mp h))), if_neg ftn]
    · rw [if_neg c8]
      have h0 : cdN B l a = 0 := by unfold cdN; rw [if_neg c8]
      rw [decide_eq_false (show ¬ cdN B l a = wcd si by omega), if_neg ftn, if_neg]
      intro h
      have e := (lg0 _ _).mp h
      have e2 : (-1 : Int64).toInt = (lN (wcd si)).toInt := by rw [e]
      rw [pf_lI (by omega)] at e2
      have : (-1 : Int64).toInt = -1 := rfl
      omega
  · have h14 : ¬ nI (sN B l a) = 1 := nI_ne (b := 1) c1 (by unfold sN; repeat' (first | split | omega)) (by omega)
    have hen : enW B l a = a := rnT_n (fun h => c1 (by unfold sN; rw [if_pos h.1, if_pos h.2]))
    have h0 : cdN B l a = 0 := by unfold cdN; rw [hen, Nat.sub_self, if_pos (by omega)]; rfl
    rw [if_neg h14, decide_eq_false (show ¬ cdN B l a = wcd si by omega), if_neg ftn]
