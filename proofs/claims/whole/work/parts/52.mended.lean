/-- the model's memory in mended -/
def mm (y : MS) (G H : Nat → Int32) : MS := wI (wI y 71 H) 60 G
theorem mm_H (y : MS) (G H : Nat → Int32) (j : Nat) (v : Int32) : pI (mm y G H) 71 j v = mm y G (upd H j v) := by
  unfold mm pI wI gI
  refine Prod.ext (funext fun b => ?_) rfl
  by_cases h1 : b = 60
  · subst h1; rfl
  · by_cases h2 : b = 71
    · subst h2; rfl
    · simp only [if_neg h1, if_neg h2]
def fB (S : Nat → Int32) (d : Nat) : Option Nat → Int32
  | none => -3
  | some k => nI (csN S d k)
theorem st60 (z : MS) (Kn : MS → Int32 → Int32 → Option (Int32 × MS)) {S : Nat → Int32} {d x : Nat} (hd : d < 10) (l3 l4 : Int32) (h60 : ∀ j, j < 4 → gI z 60 (4 * d + j) = nI (dgX x j)) (h70 : ∀ j, j < 4 → gI z 70 j = S (4 * d + j)) : fM_mended_L60 z Kn (nI d) l3 l4 LF 0 0 = if l3 < 0 then fM_mended_L119 Kn (nI d) (nI (csN S d x)) l4 LF z 0 else (if l3 ≤ nI (csN S d x) then Kn z l3 (l4 + 1) else fM_mended_L119 Kn (nI d) (nI (csN S d x)) l4 LF z 0) := by
  have step : ∀ (f acc j : Nat), j < 4 → fM_mended_L60 z Kn (nI d) l3 l4 (f + 1) (nI acc) (nI j) = fM_mended_L60 z Kn (nI d) l3 l4 f (nI (acc + c1N S d x j)) (nI (j + 1)) := by
    intro f acc j hj
    rw [fM_mended_L60, if_neg (ge4 hj), (sIx hd hj).2, if_neg (ix_ok (show 4 * d + j < 40 by omega) (by omega)), if_neg (ix_ok (show j < 12 by omega) (by omega)), nI_clamp (show 4 * d + j < 2 ^ 31 by omega), nI_clamp (show j < 2 ^ 31 by omega), h60 j hj, h70 j hj, nI_s, nI_s, Int32.add_zero]
    unfold c1N
    by_cases c : S (4 * d + j) = nI (dgX x j)
    · rw [if_pos c.symm, if_pos c]; rfl
    · rw [if_neg (fun h => c h.symm), if_neg c]
  show fM_mended_L60 z Kn (nI d) l3 l4 (999995 + 1 + 1 + 1 + 1 + 1) (nI 0) (nI 0) = _
  rw [step _ _ 0 (by omega), step _ _ 1 (by omega), step _ _ 2 (by omega), step _ _ 3 (by omega), fM_mended_L60, if_pos (show (4 : Int32) ≤ nI (3 + 1) from Int32.le_refl _), Nat.zero_add]
  rfl
theorem st119 (y : MS) (Kn : MS → Int32 → Int32 → Option (Int32 × MS)) {d : Nat} (hd : d < 10) (l3 l4 : Int32) (G H : Nat → Int32) : fM_mended_L119 Kn (nI d) l3 l4 LF (mm y G H) 0 = Kn (mm y G (upd (upd (upd (upd H 0 (G (4 * d + 0))) 1 (G (4 * d + 1))) 2 (G (4 * d + 2))) 3 (G (4 * d + 3)))) l3 (l4 + 1) := by
  have step : ∀ (f : Nat) (H : Nat → Int32) (j : Nat), j < 4 → fM_mended_L119 Kn (nI d) l3 l4 (f + 1) (mm y G H) (nI j) = fM_mended_L119 Kn (nI d) l3 l4 f (mm y G (upd H j (G (4 * d + j)))) (nI (j + 1)) := by
    intro f H j hj
    have g : gI (mm y G H) 60 (4 * d + j) = G (4 * d + j) := rfl
    rw [fM_mended_L119, if_neg (ge4 hj), (sIx hd hj).2, if_neg (ix_ok (show 4 * d + j < 40 by omega) (by omega)), if_neg (ix_ok hj (by omega)), nI_clamp (show 4 * d + j < 2 ^ 31 by omega), nI_clamp (show j < 2 ^ 31 by omega), g, mm_H, nI_s]
  show fM_mended_L119 Kn (nI d) l3 l4 (999995 + 1 + 1 + 1 + 1 + 1) (mm y G H) (nI 0) = _
  rw [step _ _ 0 (by omega), step _ _ 1 (by omega), step _ _ 2 (by omega), step _ _ 3 (by omega), fM_mended_L119, if_pos (show (4 : Int32) ≤ nI (3 + 1) from Int32.le_refl _)]
theorem mendL (y : MS) {n : Nat} {u : Int32} {K A T W S O : Nat → Int32} (hn : n ≤ 8) (hm : HM y (nI n) u K A T W S O) {d : Nat} (hd : d < 10) (h70 : ∀ j, j < 4 → gI y 70 j = S (4 * d + j)) (l2 : Int32) :
    ∀ (e x f : Nat) (G H : Nat → Int32), x + e = 4096 → e < f → (∀ i, i < 4 * d ∨ 4 * d + 4 ≤ i → G i = S i) → (∀ i, i < 40 → G i = -1 ∨ lt (G i) n) → (∀ k, bF (okM n u K A T W S d) (csN S d) x = some k → ∀ j, j < 4 → H j = nI (dgX k j)) →
      ∃ (G2 H2 : Nat → Int32) (f2 : Nat), (∀ i, i < 4 * d ∨ 4 * d + 4 ≤ i → G2 i = S i) ∧ (∀ k, bF (okM n u K A T W S d) (csN S d) 4096 = some k → ∀ j, j < 4 → H2 j = nI (dgX k j)) ∧ fM_mended_L28 (nI d) l2 f (mm y G H) (fB S d (bF (okM n u K A T W S d) (csN S d) x)) (nI x) = fM_mended_L28 (nI d) l2 (f2 + 1) (mm y G2 H2) (fB S d (bF (okM n u K A T W S d) (csN S d) 4096)) (nI 4096) := by
  have e58 : gI y 58 = A := hm.2.2.2.2.1
  intro e
  induction e with
  | zero =>
    intro x f G H hx hf hG hok hH
    obtain ⟨f, rfl⟩ : ∃ m, f = m + 1 := ⟨f - 1, by omega⟩
    have hx : x = 4096 := hx
    subst hx
    exact ⟨G, H, f, hG, hH, rfl⟩
  | succ e ih =>
    intro x f G H hx hf hG hok hH
    obtain ⟨f, rfl⟩ : ∃ m, f = m + 1 := ⟨f - 1, by omega⟩
    have hx4 : x < 4096 := by omega
    obtain ⟨G2, g1, g2, g3, g4⟩ := comes_m (y := wI y 71 H) hn (show gI (wI y 71 H) 56 0 = nI n from hm.2.1) (by show ∀ p, p < 8 → lt (gI y 58 p) 1024; rw [e58]; exact hm.1.2.2.2.2.2.1) hd hx4 4 0 LF G rfl (by decide) rfl
    have g2 := g2 hok
    have gA : gI (wI y 71 H) 58 = A := e58
    rw [gA] at g3 g4
    have g3 : fM_comes (mm y G H) (nI d) (nI x) = some (if vX n A d x 4 = true then 1 else 0, mm y G2 H) := g3
    have hG2 : ∀ i, i < 4 * d ∨ 4 * d + 4 ≤ i → G2 i = S i := fun i hi => by rw [g1 i (by omega)]; exact hG i hi
    have hM2 : HM (mm y G2 H) (nI n) u K A T W G2 O := ⟨HV_S hm.1 (by rw [cl_nI (by omega)]; exact g2), hm.2.1, hm.2.2.1, hm.2.2.2.1, hm.2.2.2.2.1, hm.2.2.2.2.2.1, rfl, hm.2.2.2.2.2.2.2⟩
    have hbr := brokenOn_m hM2 hd
    have hbl := brN_lt u K A T W G2 d
    -- not one
    have no : okM n u K A T W S d x = false → fM_mended_L28 (nI d) l2 (f + 1) (mm y G H) (fB S d (bF (okM n u K A T W S d) (csN S d) x)) (nI x) = fM_mended_L28 (nI d) l2 f (mm y G2 H) (fB S d (bF (okM n u K A T W S d) (csN S d) x)) (nI (x + 1)) → ∃ (G2 H2 : Nat → Int32) (f2 : Nat), (∀ i, i < 4 * d ∨ 4 * d + 4 ≤ i → G2 i = S i) ∧ (∀ k, bF (okM n u K A T W S d) (csN S d) 4096 = some k → ∀ j, j < 4 → H2 j = nI (dgX k j)) ∧ fM_mended_L28 (nI d) l2 (f + 1) (mm y G H) (fB S d (bF (okM n u K A T W S d) (csN S d) x)) (nI x) = fM_mended_L28 (nI d) l2 (f2 + 1) (mm y G2 H2) (fB S d (bF (okM n u K A T W S d) (csN S d) 4096)) (nI 4096) := by
      intro hno hstep
      have hbf : bF (okM n u K A T W S d) (csN S d) (x + 1) = bF (okM n u K A T W S d) (csN S d) x := by rw [bF, hno, if_neg ftn]
      obtain ⟨G3, H3, f3, q1, q2, q3⟩ := ih (x + 1) f G2 H (by omega) (by omega) hG2 g2 (by rw [hbf]; exact hH)
      rw [hbf] at q3
      exact ⟨G3, H3, f3, q1, q2, hstep.trans q3⟩
    have hstart : fM_mended_L28 (nI d) l2 (f + 1) (mm y G H) (fB S d (bF (okM n u K A T W S d) (csN S d) x)) (nI x) = if (if vX n A d x 4 = true then (1 : Int32) else 0) = 0 then fM_mended_L28 (nI d) l2 f (mm y G2 H) (fB S d (bF (okM n u K A T W S d) (csN S d) x)) (nI (x + 1)) else (if nI (brN u K A T W G2 d) = 0 then fM_mended_L60 (mm y G2 H) (fM_mended_L28 (nI d) l2 f) (nI d) (fB S d (bF (okM n u K A T W S d) (csN S d) x)) (nI x) LF 0 0 else fM_mended_L28 (nI d) l2 f (mm y G2 H) (fB S d (bF (okM n u K A T W S d) (csN S d) x)) (nI (x + 1))) := by
      rw [fM_mended_L28, if_neg (show ¬ (4096 : Int32) ≤ nI x from nI_ge (b := 4096) hx4 (by omega)), g3, ob2s, hbr, obs, nI_s]
    cases hv : vX n A d x 4 with
    | false =>
      rw [hv, if_pos (show (if false = true then (1 : Int32) else 0) = 0 from rfl)] at hstart
      refine no ?_ hstart
      cases ho : okM n u K A T W S d x with
      | false => rfl
      | true => rw [okM_v ho] at hv; cases hv
    | true =>
      rw [hv, if_neg (show ¬ (if true = true then (1 : Int32) else 0) = 0 from one_ne)] at hstart
      have hV : ∀ j, j < 4 → G2 (4 * d + j) = nI (dgX x j) := fun j hj => g4 hv j (by omega) hj
      have hiff := brV (u := u) (T := T) (W := W) (S := S) hd hm.1.2.2.2.1 (fun i hi => hG2 i (Or.inl hi)) hV hv
      by_cases hb0 : brN u K A T W G2 d = 0
      · have ho := hiff.mp hb0
        rw [hb0, if_pos (show nI 0 = 0 from rfl)] at hstart
        rw [st60 (mm y G2 H) (fM_mended_L28 (nI d) l2 f) (S := S) (x := x) hd _ _ hV h70, st119 y _ hd, nI_s] at hstart
        have hbf : bF (okM n u K A T W S d) (csN S d) (x + 1) = bst (csN S d) x (bF (okM n u K A T W S d) (csN S d) x) := by rw [bF, ho, if_pos rfl]
        have h4 := csN_le S d x
        -- the new best
        have new : ∀ k, some x = some k → ∀ j, j < 4 → upd (upd (upd (upd H 0 (G2 (4 * d + 0))) 1 (G2 (4 * d + 1))) 2 (G2 (4 * d + 2))) 3 (G2 (4 * d + 3)) j = nI (dgX k j) := by
          intro k hk j hj
          cases hk
          rcases (show j = 0 ∨ j = 1 ∨ j = 2 ∨ j = 3 by omega) with rfl | rfl | rfl | rfl
          · exact hV 0 (by omega)
          · exact hV 1 (by omega)
          · exact hV 2 (by omega)
          · exact hV 3 (by omega)
        cases hbo : bF (okM n u K A T W S d) (csN S d) x with
        | none =>
          rw [hbo, bst] at hbf
          rw [hbo, if_pos (show fB S d none < 0 by show (-3 : Int32) < 0; decide)] at hstart
          obtain ⟨G3, H3, f3, q1, q2, q3⟩ := ih (x + 1) f G2 _ (by omega) (by omega) hG2 g2 (by rw [hbf]; exact new)
          rw [hbf] at q3
          exact ⟨G3, H3, f3, q1, q2, hstart.trans q3⟩
        | some k =>
          have h5 := csN_le S d k
          rw [hbo, bst] at hbf
          rw [hbo, if_neg (show ¬ fB S d (some k) < 0 from nI_pos (by omega))] at hstart
          by_cases w : csN S d x < csN S d k
          · rw [if_pos w] at hbf
            rw [if_neg (show ¬ fB S d (some k) ≤ nI (csN S d x) from nI_ge w (by omega))] at hstart
            obtain ⟨G3, H3, f3, q1, q2, q3⟩ := ih (x + 1) f G2 _ (by omega) (by omega) hG2 g2 (by rw [hbf]; exact new)
            rw [hbf] at q3
            exact ⟨G3, H3, f3, q1, q2, hstart.trans q3⟩
          · rw [if_neg w] at hbf
            rw [if_pos (show fB S d (some k) ≤ nI (csN S d x) from nI_le (by omega) (by omega))] at hstart
            obtain ⟨G3, H3, f3, q1, q2, q3⟩ := ih (x + 1) f G2 H (by omega) (by omega) hG2 g2 (by rw [hbf, ← hbo]; exact hH)
            rw [hbf] at q3
            exact ⟨G3, H3, f3, q1, q2, hstart.trans q3⟩
      · rw [if_neg (show ¬ nI (brN u K A T W G2 d) = 0 from nI_ne (b := 0) hb0 (by omega) (by omega))] at hstart
        refine no ?_ hstart
        cases ho : okM n u K A T W S d x with
        | false => rfl
        | true => exact absurd (hiff.mpr ho) hb0
theorem o_mended (z : MS) (h : RR z z) (a0 a1 : Int32) : O2 (fT_mended · a0 a1) (fM_mended · a0 a1) z := by
  by_cases h0 : ∃ d, d < 10 ∧ a0 = nI d
  · obtain ⟨d, hd, rfl⟩ := h0
    by_cases h1 : ∃ t, t < 2 ∧ a1 = nI t
    · obtain ⟨t, ht, rfl⟩ := h1
      obtain ⟨n, hn, n1, n2, n3⟩ := RR_n h
      have hv := h.1.1
      rw [n1] at hv
      have hc := mend_c z hn hv n1 hd
      have hm1 : ∀ y : MS, (∀ k, 56 ≤ k → gI y k = gI z k) → HM y (nI n) (gI z 1 1) (gI z 2) (gI z 3) (gI z 4) (gI z 5) (gI z 6) (gI z 7) := by
        intro y hy
        have := RR_HM h
        rw [n1] at this
        unfold HM at *
        rw [hy 59 (by omega), hy 56 (by omega), hy 57 (by omega), hy 58 (by omega), hy 62 (by omega), hy 60 (by omega), hy 61 (by omega)]
        exact this
      have e60 : gI z 60 = gI z 6 := h.1.2.2.2.2.2.2.1
      generalize ho : bF (okM n (gI z 1 1) (gI z 2) (gI z 3) (gI z 4) (gI z 5) (gI z 6) d) (csN (gI z 6) d) 4096 = o at *
      have hyz : ∀ k, 56 ≤ k → gI (wo z d (gI z 19 6) o) k = gI z k := by
        intro k hk
        show (pI (pI z 19 5 _) 19 6 _).1 k = z.1 k
        have q : k ≠ 19 := by omega
        simp only [pI, wI, q, if_false]
      generalize hz1 : wo z d (gI z 19 6) o = z1 at *
      have hk := keeps_m z1 (d := d) (m := 1) (by omega) (by omega)
      have hmy : HM (wI z1 70 (fa_fill (fun k => gI z1 60 (4 * d + k)) (gI z1 70) 4)) (nI n) (gI z 1 1) (gI z 2) (gI z 3) (gI z 4) (gI z 5) (gI z 6) (gI z 7) := hm1 z1 hyz
      have h70 : ∀ j, j < 4 → gI (wI z1 70 (fa_fill (fun k => gI z1 60 (4 * d + k)) (gI z1 70) 4)) 70 j = gI z 6 (4 * d + j) := by
        intro j hj
        rw [gI_wIk, fa_fill_in hj, hyz 60 (by omega), e60]
      have g60 : gI (wI z1 70 (fa_fill (fun k => gI z1 60 (4 * d + k)) (gI z1 70) 4)) 60 = gI z 6 := (hyz 60 (by omega)).trans e60
      obtain ⟨G, H, f2, q1, q2, q3⟩ := mendL (wI z1 70 (fa_fill (fun k => gI z1 60 (4 * d + k)) (gI z1 70) 4)) hn hmy hd h70 (nI t) 4096 0 LF (gI z 6) (gI z1 71) rfl (by decide) (fun _ _ => rfl) (fun i hi => by
        have := RR_seat h hi
        rw [n1, cl_nI (by omega)] at this
        exact this) (fun k hk => by cases hk)
      have hst : mm (wI z1 70 (fa_fill (fun k => gI z1 60 (4 * d + k)) (gI z1 70) 4)) (gI z 6) (gI z1 71) = wI z1 70 (fa_fill (fun k => gI z1 60 (4 * d + k)) (gI z1 70) 4) := by
        unfold mm
        rw [wI_same (wI z1 70 (fa_fill (fun k => gI z1 60 (4 * d + k)) (gI z1 70) 4)) 71 (gI z1 71) rfl, wI_same _ 60 (gI z 6) g60]
      rw [hst] at q3
      have hgv := gives_m (mm (wI z1 70 (fa_fill (fun k => gI z1 60 (4 * d + k)) (gI z1 70) 4)) G H) (d := d) (m := 1) (by omega) (by omega)
      have hback : mvF (gI (mm (wI z1 70 (fa_fill (fun k => gI z1 60 (4 * d + k)) (gI z1 70) 4)) G H) 70) (gI (mm (wI z1 70 (fa_fill (fun k => gI z1 60 (4 * d + k)) (gI z1 70) 4)) G H) 60) (4 * d) (4 * 1) = gI z 6 := by
        funext i
        by_cases c : 4 * d ≤ i ∧ i < 4 * d + 4
        · rw [mvF_in c]
          have := h70 (i - 4 * d) (by omega)
          rw [show 4 * d + (i - 4 * d) = i by omega] at this
          exact this
        · rw [mvF_out c]
          exact q1 i (by omega)
      rw [hback] at hgv
      have hfin : wI (mm (wI z1 70 (fa_fill (fun k => gI z1 60 (4 * d + k)) (gI z1 70) 4)) G H) 60 (gI z 6) = mm (wI z1 70 (fa_fill (fun k => gI z1 60 (4 * d + k)) (gI z1 70) 4)) (gI z 6) H := by
        unfold mm
        rw [wI_wI]
      rw [hfin] at hgv
      rw [ho] at q2 q3
      refine ⟨if o = none then -3 else if nI t = 0 then wC (gI z 6) d o else wD (gI z 19 6) o, z1, mm (wI z1 70 (fa_fill (fun k => gI z1 60 (4 * d + k)) (gI z1 70) 4)) (gI z 6) H, ?_, ?_, ?_⟩
      · show fT_mended z (nI d) (nI t) = _
        unfold fT_mended
        rw [(day_yes hd).1, if_neg one_ne, if_neg (nI_pos (by omega)), if_pos (show nI t ≤ 1 from nI_le (b := 1) (by omega) (by omega)), hc, ob2s]
        have g5 : gI z1 19 5 = wC (gI z 6) d o := by rw [← hz1]; rfl
        have g6 : gI z1 19 6 = wD (gI z 19 6) o := by rw [← hz1]; rfl
        rw [g5, g6]
        cases o with
        | none => rfl
        | some k =>
          rw [if_neg (show ¬ (if some k = none then (0 : Int32) else 1) = 0 from one_ne), if_neg (show ¬ some k = none from fun h => by cases h)]
          by_cases c : nI t = 0
          · rw [if_pos c, if_pos c]
          · rw [if_neg c, if_neg c]
      · show fM_mended z1 (nI d) (nI t) = _
        unfold fM_mended
        rw [(day_yes hd).2, if_neg one_ne, (side_yes ht).2, if_neg one_ne]
        have hk' : fM_keepsPosts z1 (nI d) 1 = _ := hk
        rw [hk', obs]
        have q3' : fM_mended_L28 (nI d) (nI t) LF (wI z1 70 (fa_fill (fun k => gI z1 60 (4 * d + k)) (gI z1 70) (4 * 1))) (-3) 0 = _ := q3
        have hgv' : fM_givesPosts (mm (wI z1 70 (fa_fill (fun k => gI z1 60 (4 * d + k)) (gI z1 70) 4)) G H) (nI d) 1 = _ := hgv
        rw [q3', fM_mended_L28, if_pos (show (4096 : Int32) ≤ nI 4096 from Int32.le_refl _), hgv', obs]
        cases o with
        | none => rfl
        | some k =>
          have hH := q2 k rfl
          have h4 := csN_le (gI z 6) d k
          have gH : gI (mm (wI z1 70 (fa_fill (fun k => gI z1 60 (4 * d + k)) (gI z1 70) 4)) (gI z 6) H) 71 = H := rfl
          rw [if_neg (show ¬ fB (gI z 6) d (some k) < 0 from nI_pos (by omega)), gH, hH 0 (by omega), hH 1 (by omega), hH 2 (by omega), hH 3 (by omega), if_neg (show ¬ some k = none from fun h => by cases h)]
          by_cases c : nI t = 0
          · rw [if_pos c, if_pos c]; rfl
          · rw [if_neg c, if_neg c]; rfl
      · rw [← hz1]
        exact ⟨⟨h.1.1, h.1.2.1, h.1.2.2.1, h.1.2.2.2.1, h.1.2.2.2.2.1, h.1.2.2.2.2.2.1, rfl, h.1.2.2.2.2.2.2.2⟩, h.2⟩
    · have hs := (side_no h1).2
      refine same2 (-1) h ?_ (by show fM_mended z (nI d) a1 = _; unfold fM_mended; rw [(day_yes hd).2, if_neg one_ne, hs, if_pos rfl])
      show fT_mended z (nI d) a1 = _
      unfold fT_mended
      rw [(day_yes hd).1, if_neg one_ne]
      rcases ag a1 1 (by omega) with ⟨h2, -⟩ | ⟨h2, h3, h4, h5, h6⟩ | ⟨i, hi, rfl⟩
      · rw [if_pos h2]
      · rw [if_neg h2, if_neg (show ¬ a1 ≤ (1 : Int32) from h5)]
      · exact absurd ⟨i, by omega, rfl⟩ h1
  · exact same2 (-1) h (by show fT_mended z a0 a1 = _; unfold fT_mended; rw [(day_no h0).1, if_pos rfl]) (by show fM_mended z a0 a1 = _; unfold fM_mended; rw [(day_no h0).2, if_pos rfl])
