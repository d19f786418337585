def up4 (S : Nat → Int32) (d : Nat) (V : Nat → Int32) : Nat → Int32 := upd (upd (upd (upd S (4 * d + 0) (V 0)) (4 * d + 1) (V 1)) (4 * d + 2) (V 2)) (4 * d + 3) (V 3)
theorem up4_ok {S V : Nat → Int32} {d n : Nat} (hS : ∀ i, i < 40 → S i = -1 ∨ lt (S i) n) (hV : ∀ j, j < 4 → lt (V j) n) : ∀ i, i < 40 → up4 S d V i = -1 ∨ lt (up4 S d V i) n := by
  intro i hi
  unfold up4
  simp only [upd_a]
  by_cases c3 : i = 4 * d + 3
  · rw [if_pos c3]; exact Or.inr (hV 3 (by omega))
  · rw [if_neg c3]
    by_cases c2 : i = 4 * d + 2
    · rw [if_pos c2]; exact Or.inr (hV 2 (by omega))
    · rw [if_neg c2]
      by_cases c1 : i = 4 * d + 1
      · rw [if_pos c1]; exact Or.inr (hV 1 (by omega))
      · rw [if_neg c1]
        by_cases c0 : i = 4 * d + 0
        · rw [if_pos c0]; exact Or.inr (hV 0 (by omega))
        · rw [if_neg c0]; exact hS i hi
theorem pI_0 (z : MS) (k i : Nat) (v : Int32) : pI z k i v = wI z k (upd (gI z k) i v) := rfl
def dgM (v0 v1 v2 v3 : Int32) : Int32 := ((v0 ||| (v1 <<< ((3 : Int32) &&& 31))) ||| (v2 <<< ((6 : Int32) &&& 31))) ||| (v3 <<< ((9 : Int32) &&& 31))
theorem sit_c (z : MS) {d : Nat} (hd : d < 10) : fPlans_sitDown z (nI d) = some (((((0 ||| ((gI z 29 0) <<< ((3 * nI 0) &&& 31))) ||| ((gI z 29 1) <<< ((3 * nI 1) &&& 31))) ||| ((gI z 29 2) <<< ((3 * nI 2) &&& 31))) ||| ((gI z 29 3) <<< ((3 * nI 3) &&& 31))), wI z 6 (up4 (gI z 6) d (gI z 29))) := by
  have step : ∀ (n : Nat) (z : MS) (acc : Int32) (i : Nat), i < 4 → fPlans_sitDown_L5 (nI d) (n + 1) z acc (nI i) = fPlans_sitDown_L5 (nI d) n (pI z 6 (4 * d + i) (gI z 29 i)) (acc ||| ((gI z 29 i) <<< ((3 * nI i) &&& 31))) (nI (i + 1)) := by
    intro n z acc i hi
    have hs : fHouse_seat z (nI d) (nI i) (gI z 29 i) = some (pI z 6 (4 * d + i) (gI z 29 i)) := by
      unfold fHouse_seat
      rw [(sIx hd hi).1, if_neg (ix_ok (show 4 * d + i < 40 by omega) (by omega)), nI_clamp (by omega)]
    have g : gI (pI z 6 (4 * d + i) (gI z 29 i)) 29 i = gI z 29 i := rfl
    rw [fPlans_sitDown_L5, if_neg (ge4 hi), if_neg (ix_ok hi (by omega)), nI_clamp (show i < 2 ^ 31 by omega), hs, obs, if_neg (ix_n hi (by omega)), g, nI_s]
  unfold fPlans_sitDown
  show fPlans_sitDown_L5 (nI d) (999995 + 1 + 1 + 1 + 1 + 1) z 0 (nI 0) = _
  rw [step _ _ _ 0 (by omega), step _ _ _ 1 (by omega), step _ _ _ 2 (by omega), step _ _ _ 3 (by omega), fPlans_sitDown_L5, if_pos (show (4 : Int32) ≤ nI (3 + 1) from Int32.le_refl _)]
  rw [pI_0 z, pI_wI, pI_wI, pI_wI]
  rfl
theorem sit_m (z : MS) {d : Nat} (hd : d < 10) : fM_fill_L190 (nI d) LF z 0 = some (dgM (gI z 74 0) (gI z 74 1) (gI z 74 2) (gI z 74 3), wI z 60 (up4 (gI z 60) d (gI z 74))) := by
  have step : ∀ (n : Nat) (z : MS) (i : Nat), i < 4 → fM_fill_L190 (nI d) (n + 1) z (nI i) = fM_fill_L190 (nI d) n (pI z 60 (4 * d + i) (gI z 74 i)) (nI (i + 1)) := by
    intro n z i hi
    rw [fM_fill_L190, if_neg (ge4 hi), if_neg (ix_ok hi (by omega)), (sIx hd hi).2, if_neg (ix_ok (show 4 * d + i < 40 by omega) (by omega)), nI_clamp (show 4 * d + i < 2 ^ 31 by omega), nI_clamp (show i < 2 ^ 31 by omega), nI_s]
  show fM_fill_L190 (nI d) (999995 + 1 + 1 + 1 + 1 + 1) z (nI 0) = _
  rw [step _ _ 0 (by omega), step _ _ 1 (by omega), step _ _ 2 (by omega), step _ _ 3 (by omega), fM_fill_L190, if_pos (show (4 : Int32) ≤ nI (3 + 1) from Int32.le_refl _)]
  rw [pI_0 z, pI_wI, pI_wI, pI_wI]
  rfl
theorem dig0 : ∀ p, p < 8 → ((0 : Int32) ||| ((nI p) <<< ((3 * nI 0) &&& 31))) = nI p := by decide +kernel
theorem fill_end {z : MS} (h : RR z z) {i d : Nat} (hd : d < 10) (x : Int32) (Z : Int32) (F : Nat → Int32) (hF : ∀ j, j < 4 → ∃ p, p < cl (gI z 1 0) ∧ F j = nI p)
    (hC : fT_fill z x (nI d) = fPlans_fillDay_J94 (dz z Z F) (nI d)) (hM : ∀ y : MS, (∀ k, 56 ≤ k → gI y k = gI z k) → ∃ G, (∀ j, j < 4 → G j = F j) ∧ fM_fill y x (nI d) = fM_fill_L190 (nI d) LF (dm y Z G) 0) : O2 (fT_fill · x (nI d)) (fM_fill · x (nI d)) z := by
  have h8 := RR_n8 h
  obtain ⟨G, hG, eM⟩ := hM (wI (dz z Z F) 6 (up4 (gI z 6) d F)) (by
    intro k hk
    show (wI (pI (wI z 29 F) 26 4 Z) 6 (up4 (gI z 6) d F)).1 k = z.1 k
    have q1 : k ≠ 6 := by omega
    have q2 : k ≠ 26 := by omega
    have q3 : k ≠ 29 := by omega
    simp only [pI, wI, q1, q2, q3, if_false])
  obtain ⟨p0, b0, e0⟩ := hF 0 (by omega)
  obtain ⟨p1, b1, e1⟩ := hF 1 (by omega)
  obtain ⟨p2, b2, e2⟩ := hF 2 (by omega)
  obtain ⟨p3, b3, e3⟩ := hF 3 (by omega)
  have hV : ∀ j, j < 4 → lt (F j) (cl (gI z 1 0)) := by
    intro j hj
    obtain ⟨p, hp, e⟩ := hF j hj
    rw [e]
    exact lt_nI hp (by omega)
  have e60 : gI z 60 = gI z 6 := h.1.2.2.2.2.2.2.1
  have eup : up4 (gI z 6) d G = up4 (gI z 6) d F := by
    unfold up4
    rw [hG 0 (by omega), hG 1 (by omega), hG 2 (by omega), hG 3 (by omega)]
  refine ⟨dgM (nI p0) (nI p1) (nI p2) (nI p3), wI (dz z Z F) 6 (up4 (gI z 6) d F), wI (dm (wI (dz z Z F) 6 (up4 (gI z 6) d F)) Z G) 60 (up4 (gI z 6) d F), ?_, ?_, ?_⟩
  · show fT_fill z x (nI d) = _
    rw [hC]
    unfold fPlans_fillDay_J94
    rw [sit_c _ hd, ob2s]
    have g0 : gI (dz z Z F) 29 0 = nI p0 := e0
    have g1 : gI (dz z Z F) 29 1 = nI p1 := e1
    have g2 : gI (dz z Z F) 29 2 = nI p2 := e2
    have g3 : gI (dz z Z F) 29 3 = nI p3 := e3
    rw [g0, g1, g2, g3, dig0 p0 (by omega)]
    rfl
  · show fM_fill (wI (dz z Z F) 6 (up4 (gI z 6) d F)) x (nI d) = _
    rw [eM, sit_m _ hd]
    have g0 : gI (dm (wI (dz z Z F) 6 (up4 (gI z 6) d F)) Z G) 74 = G := rfl
    have g6 : gI (dm (wI (dz z Z F) 6 (up4 (gI z 6) d F)) Z G) 60 = gI z 6 := e60
    rw [g0, g6, eup, hG 0 (by omega), hG 1 (by omega), hG 2 (by omega), hG 3 (by omega), e0, e1, e2, e3]
  · refine ⟨⟨HV_S h.1.1 (up4_ok (fun i hi => RR_seat h hi) hV), h.1.2.1, h.1.2.2.1, h.1.2.2.2.1, h.1.2.2.2.2.1, h.1.2.2.2.2.2.1, rfl, h.1.2.2.2.2.2.2.2⟩, ⟨h.2.1.1, rfl, h.2.1.2.2⟩, h.2.2⟩
/-- a turn, both sides -/
theorem turn_seat {z : MS} (h : RR z z) {v d : Nat} (hv : v < 256) (hd : d < 10) (hp : 4 ≤ pcN v) : ∃ F, (∀ j, j < 4 → ∃ p, v.testBit p = true ∧ F j = nI p) ∧ fPlans_seatByTurn z (nI v) (nI d) = some (wI z 29 F) ∧ ∀ y : MS, (∀ k, 56 ≤ k → gI y k = gI z k) → ∃ G, (∀ j, j < 4 → G j = F j) ∧ fM_fillsTurn y (nI v) (nI d) = some (wI y 74 G) := by
  have hS := (RR_SO h).1
  have hK := h.1.1.2.2.1
  -- the pair
  obtain ⟨t, ht64, htlt, hb1, hb2, hcl, hml⟩ : ∃ t, t < 64 ∧ t / 8 < t % 8 ∧ v.testBit (t / 8) = true ∧ v.testBit (t % 8) = true ∧ (fPlans_seatByTurn z (nI v) (nI d) = fPlans_seatByTurn_J24 z (nI v) (nI t)) ∧ ∀ y : MS, (∀ k, 56 ≤ k → gI y k = gI z k) → fM_fillsTurn y (nI v) (nI d) = fM_fillsTurn_J148 y (nI v) (nI t) := by
    have c0 : fPlans_longestApart z (nI v) (nI d) 0 = _ := longest_c hS hK hv (show d ≤ 10 by omega) false
    have c1 : fPlans_longestApart z (nI v) (nI d) 1 = _ := longest_c hS hK hv (show d ≤ 10 by omega) true
    have hin : ∀ any t, bF (cnT any (gI z 2) v) (fun t => lsN (gI z 6) t d) 64 = some t → t < 64 ∧ t / 8 < t % 8 ∧ v.testBit (t / 8) = true ∧ v.testBit (t % 8) = true := by
      intro any t e
      obtain ⟨q1, q2⟩ := bF_in _ _ _ _ e
      unfold cnT at q1
      simp only [Bool.and_eq_true, decide_eq_true_eq] at q1
      exact ⟨q2, q1.1, q1.2.1, q1.2.2.1⟩
    have hmy : ∀ y : MS, (∀ k, 56 ≤ k → gI y k = gI z k) → HM y (gI z 1 0) (gI z 1 1) (gI z 2) (gI z 3) (gI z 4) (gI z 5) (gI z 6) (gI z 7) := by
      intro y hy
      unfold HM
      rw [hy 59 (by omega), hy 56 (by omega), hy 57 (by omega), hy 58 (by omega), hy 62 (by omega), hy 60 (by omega), hy 61 (by omega)]
      exact RR_HM h
    have m0 : ∀ y : MS, (∀ k, 56 ≤ k → gI y k = gI z k) → fM_fillsTurn y (nI v) (nI d) = fM_fillsTurn_L8 y (nI v) (nI d) 999999 (oP (bF (cnT false (gI z 2) v) (fun t => lsN (gI z 6) t d) 64)) (oM (fun t => lsN (gI z 6) t d) (bF (cnT false (gI z 2) v) (fun t => lsN (gI z 6) t d) 64)) 1 := by
      intro y hy
      have hl : fM_fillsTurn_L21 y (fM_fillsTurn_L8 y (nI v) (nI d) 999999) (nI v) (nI d) 0 LF (-1) 0 0 = _ := turnL_m (hmy y hy) hv (show d ≤ 10 by omega) false (fM_fillsTurn_L8 y (nI v) (nI d) 999999)
      unfold fM_fillsTurn
      rw [LF_s, fM_fillsTurn_L8, if_neg (show ¬ (2 : Int32) ≤ 0 by decide), if_neg (show ¬ (0 : Int32) ≤ -1 by decide), hl]
      rfl
    cases e0 : bF (cnT false (gI z 2) v) (fun t => lsN (gI z 6) t d) 64 with
    | some t =>
      obtain ⟨q1, q2, q3, q4⟩ := hin false t e0
      refine ⟨t, q1, q2, q3, q4, ?_, ?_⟩
      · unfold fPlans_seatByTurn
        rw [c0, e0, obs, if_neg (show ¬ oP (some t) = -1 from fun e => nI_pos (show t < 2 ^ 31 by omega) (by rw [show nI t = -1 from e]; decide))]
        rfl
      · intro y hy
        rw [m0 y hy, e0, show (999999 : Nat) = 999998 + 1 from rfl, fM_fillsTurn_L8, if_neg (show ¬ (2 : Int32) ≤ 1 by decide), if_pos (show (0 : Int32) ≤ oP (some t) from Int32.not_lt.mp (nI_pos (show t < 2 ^ 31 by omega)))]
        rfl
    | none =>
      obtain ⟨t0, w1, w2, w3, w4⟩ := prD v hv hp
      have hne := bF_some (cnT true (gI z 2) v) (fun t => lsN (gI z 6) t d) 64 t0 w1 (by
        unfold cnT
        rw [decide_eq_true w2, w3, w4]
        rfl)
      cases e1 : bF (cnT true (gI z 2) v) (fun t => lsN (gI z 6) t d) 64 with
      | none => exact absurd e1 hne
      | some t =>
        obtain ⟨q1, q2, q3, q4⟩ := hin true t e1
        refine ⟨t, q1, q2, q3, q4, ?_, ?_⟩
        · unfold fPlans_seatByTurn
          rw [c0, e0, obs, if_pos (show oP none = -1 from rfl), c1, e1, obs]
          rfl
        · intro y hy
          have hl : fM_fillsTurn_L21 y (fM_fillsTurn_L8 y (nI v) (nI d) 999998) (nI v) (nI d) 1 LF (-1) 0 0 = _ := turnL_m (hmy y hy) hv (show d ≤ 10 by omega) true (fM_fillsTurn_L8 y (nI v) (nI d) 999998)
          rw [m0 y hy, e0, show (999999 : Nat) = 999998 + 1 from rfl, fM_fillsTurn_L8, if_neg (show ¬ (2 : Int32) ≤ 1 by decide), if_neg (show ¬ (0 : Int32) ≤ oP none by decide)]
          show fM_fillsTurn_L21 y (fM_fillsTurn_L8 y (nI v) (nI d) 999998) (nI v) (nI d) 1 LF (-1) 0 0 = _
          rw [hl, e1, show (999998 : Nat) = 999997 + 1 from rfl, fM_fillsTurn_L8, if_pos (show (2 : Int32) ≤ (if true = true then 1 else 0) + 1 by decide)]
          rfl
  have hp8 : t / 8 < 8 := by omega
  have hq8 : t % 8 < 8 := by omega
  have hpq : t % 8 ≠ t / 8 := by omega
  have r1 := rmD v hv (t / 8) hp8
  have r2 := rmD _ r1.2 (t % 8) hq8
  have n1 := pcD v hv (t / 8) hp8 hb1
  have n2 := pcD _ r1.2 (t % 8) hq8 (by rw [rm_bit hpq]; exact hb2)
  obtain ⟨l1, l2, l3, l4⟩ := lsD _ r2.2 (by omega)
  have r3 := rmD _ r2.2 _ l3
  have n3 := pcD _ r2.2 _ l3 l4
  obtain ⟨k1, k2, k3, k4⟩ := lsD _ r3.2 (by omega)
  have lb := (rm_bit2 (rm_bit2 l4).1).1
  have kb := (rm_bit2 (rm_bit2 (rm_bit2 k4).1).1).1
  refine ⟨upd (upd (upd (upd (gI z 29) 0 (nI (t / 8))) 1 (nI (t % 8))) 2 (nI (lsB (rm (rm v (t / 8)) (t % 8))))) 3 (nI (lsB (rm (rm (rm v (t / 8)) (t % 8)) (lsB (rm (rm v (t / 8)) (t % 8)))))), ?_, ?_, ?_⟩
  · intro j hj
    rcases (show j = 0 ∨ j = 1 ∨ j = 2 ∨ j = 3 by omega) with rfl | rfl | rfl | rfl
    · exact ⟨_, hb1, rfl⟩
    · exact ⟨_, hb2, rfl⟩
    · exact ⟨_, lb, rfl⟩
    · exact ⟨_, kb, rfl⟩
  · rw [hcl]
    unfold fPlans_seatByTurn_J24
    rw [(div8 ht64).1, (div8 ht64).2]
    show Option.bind (fPlans_leastOf ((nI v &&& (((1 : Int32) <<< (nI (t / 8) &&& 31)) ^^^ (-1))) &&& (((1 : Int32) <<< (nI (t % 8) &&& 31)) ^^^ (-1)))) (fun w78 => Option.bind (fPlans_leastOf (((nI v &&& (((1 : Int32) <<< (nI (t / 8) &&& 31)) ^^^ (-1))) &&& (((1 : Int32) <<< (nI (t % 8) &&& 31)) ^^^ (-1))) &&& (((1 : Int32) <<< (w78 &&& 31)) ^^^ (-1)))) (fun w100 => some (pI (pI (pI (pI z 29 0 (nI (t / 8))) 29 1 (nI (t % 8))) 29 2 w78) 29 3 w100))) = _
    rw [r1.1, r2.1, l1, obs, r3.1, k1, obs, pI_0 z, pI_wI, pI_wI, pI_wI]
  · intro y hy
    refine ⟨upd (upd (upd (upd (gI y 74) 0 (nI (t / 8))) 1 (nI (t % 8))) 2 (nI (lsB (rm (rm v (t / 8)) (t % 8))))) 3 (nI (lsB (rm (rm (rm v (t / 8)) (t % 8)) (lsB (rm (rm v (t / 8)) (t % 8)))))), ?_, ?_⟩
    · intro j hj
      rcases (show j = 0 ∨ j = 1 ∨ j = 2 ∨ j = 3 by omega) with rfl | rfl | rfl | rfl <;> rfl
    · rw [hml y hy]
      unfold fM_fillsTurn_J148
      rw [(div8 ht64).1, (div8 ht64).2]
      show Option.bind (fM_leastOf ((nI v &&& (((1 : Int32) <<< (nI (t / 8) &&& 31)) ^^^ (-1))) &&& (((1 : Int32) <<< (nI (t % 8) &&& 31)) ^^^ (-1)))) (fun w78 => Option.bind (fM_leastOf (((nI v &&& (((1 : Int32) <<< (nI (t / 8) &&& 31)) ^^^ (-1))) &&& (((1 : Int32) <<< (nI (t % 8) &&& 31)) ^^^ (-1))) &&& (((1 : Int32) <<< (w78 &&& 31)) ^^^ (-1)))) (fun w100 => some (pI (pI (pI (pI y 74 0 (nI (t / 8))) 74 1 (nI (t % 8))) 74 2 w78) 74 3 w100))) = _
      rw [r1.1, r2.1, l2, obs, r3.1, k2, obs, pI_0 y, pI_wI, pI_wI, pI_wI]
/-- the digits of A -/
def xsI (a i : Nat) : Int32 := ((nI a >>> ((3 * nI i) &&& 31)) &&& 7)
theorem told_c {z : MS} {a : Nat} : ∀ (e i f : Nat) (F : Nat → Int32), i + e = 4 → e < f → ((∀ j, i ≤ j → j < 4 → ¬ fHouse_isPerson z (xsI a j) = 0) → ∃ F2, (∀ j, j < i → F2 j = F j) ∧ (∀ j, i ≤ j → j < 4 → F2 j = xsI a j) ∧ fPlans_seatTold_L2 (nI a) f (wI z 29 F) (nI i) = some (1, wI z 29 F2)) ∧ ((∃ j, i ≤ j ∧ j < 4 ∧ fHouse_isPerson z (xsI a j) = 0) → ∃ F2, fPlans_seatTold_L2 (nI a) f (wI z 29 F) (nI i) = some (0, wI z 29 F2)) := by
  intro e
  induction e with
  | zero =>
    intro i f F hi hf
    obtain ⟨f, rfl⟩ : ∃ m, f = m + 1 := ⟨f - 1, by omega⟩
    have hi : i = 4 := hi
    subst hi
    refine ⟨fun _ => ⟨F, fun _ _ => rfl, fun j h1 h2 => by omega, ?_⟩, fun ⟨j, h1, h2, _⟩ => by omega⟩
    rw [fPlans_seatTold_L2, if_pos (show (4 : Int32) ≤ nI 4 from Int32.le_refl _)]
  | succ e ih =>
    intro i f F hi hf
    obtain ⟨f, rfl⟩ : ∃ m, f = m + 1 := ⟨f - 1, by omega⟩
    have hi4 : i < 4 := by omega
    have g : gI (wI z 29 (upd F i (xsI a i))) 29 i = xsI a i := by rw [gI_wIk, upd_a, if_pos rfl]
    have hp : ∀ F x, fHouse_isPerson (wI z 29 F) x = fHouse_isPerson z x := fun F x => rfl
    have step : fPlans_seatTold_L2 (nI a) (f + 1) (wI z 29 F) (nI i) = if fHouse_isPerson z (xsI a i) = 0 then some (0, wI z 29 (upd F i (xsI a i))) else fPlans_seatTold_L2 (nI a) f (wI z 29 (upd F i (xsI a i))) (nI (i + 1)) := by
      rw [fPlans_seatTold_L2, if_neg (ge4 hi4), if_neg (ix_ok hi4 (by omega)), if_neg (ix_ok hi4 (by omega)), nI_clamp (by omega), pI_wI, show ((nI a >>> ((3 * nI i) &&& 31)) &&& 7) = xsI a i from rfl, g, hp, nI_s]
    obtain ⟨h1, h2⟩ := ih (i + 1) f (upd F i (xsI a i)) (by omega) (by omega)
    rw [step]
    constructor
    · intro hall
      rw [if_neg (hall i (Nat.le_refl _) hi4)]
      obtain ⟨F2, q1, q2, q3⟩ := h1 (fun j hj => hall j (by omega))
      refine ⟨F2, ?_, ?_, q3⟩
      · intro j hj
        rw [q1 j (by omega), upd_a, if_neg (by omega)]
      · intro j hj hj4
        by_cases c : j = i
        · subst c
          rw [q1 j (by omega), upd_a, if_pos rfl]
        · exact q2 j (by omega) hj4
    · intro ⟨j, hj1, hj2, hj3⟩
      by_cases c : fHouse_isPerson z (xsI a i) = 0
      · rw [if_pos c]; exact ⟨_, rfl⟩
      · rw [if_neg c]
        refine h2 ⟨j, ?_, hj2, hj3⟩
        rcases Nat.lt_or_ge i j with h9 | h9
        · omega
        · have : j = i := by omega
          subst this
          exact absurd hj3 c
theorem told_m {z y : MS} (hy : ∀ x, fM_isPerson y x = fHouse_isPerson z x) {a : Nat} : ∀ (e i f : Nat) (G : Nat → Int32), i + e = 4 → e < f → ((∀ j, i ≤ j → j < 4 → ¬ fHouse_isPerson z (xsI a j) = 0) → ∃ G2, (∀ j, j < i → G2 j = G j) ∧ (∀ j, i ≤ j → j < 4 → G2 j = xsI a j) ∧ fM_fillsTold_L4 (nI a) f (wI y 74 G) 1 (nI i) = some (1, wI y 74 G2)) ∧ ((∃ j, i ≤ j ∧ j < 4 ∧ fHouse_isPerson z (xsI a j) = 0) → ∃ G2, fM_fillsTold_L4 (nI a) f (wI y 74 G) 1 (nI i) = some (0, wI y 74 G2)) ∧ ∃ G2, fM_fillsTold_L4 (nI a) f (wI y 74 G) 0 (nI i) = some (0, wI y 74 G2) := by
  intro e
  induction e with
  | zero =>
    intro i f G hi hf
    obtain ⟨f, rfl⟩ : ∃ m, f = m + 1 := ⟨f - 1, by omega⟩
    have hi : i = 4 := hi
    subst hi
    refine ⟨fun _ => ⟨G, fun _ _ => rfl, fun j h1 h2 => by omega, ?_⟩, fun ⟨j, h1, h2, _⟩ => by omega, G, ?_⟩
    · rw [fM_fillsTold_L4, if_pos (show (4 : Int32) ≤ nI 4 from Int32.le_refl _), if_pos (Or.inr rfl)]
    · rw [fM_fillsTold_L4, if_pos (show (4 : Int32) ≤ nI 4 from Int32.le_refl _), if_pos (Or.inl rfl)]
  | succ e ih =>
    intro i f G hi hf
    obtain ⟨f, rfl⟩ : ∃ m, f = m + 1 := ⟨f - 1, by omega⟩
    have hi4 : i < 4 := by omega
    have g : gI (wI y 74 (upd G i (xsI a i))) 74 i = xsI a i := by rw [gI_wIk, upd_a, if_pos rfl]
    have hp : ∀ G x, fM_isPerson (wI y 74 G) x = fHouse_isPerson z x := fun G x => hy x
    have step1 : fM_fillsTold_L4 (nI a) (f + 1) (wI y 74 G) 1 (nI i) = if fHouse_isPerson z (xsI a i) = 0 then fM_fillsTold_L4 (nI a) f (wI y 74 (upd G i (xsI a i))) 0 (nI (i + 1)) else fM_fillsTold_L4 (nI a) f (wI y 74 (upd G i (xsI a i))) 1 (nI (i + 1)) := by
      rw [fM_fillsTold_L4, if_neg (ge4 hi4), if_neg (ix_ok hi4 (by omega)), if_neg one_ne, if_neg (ix_ok hi4 (by omega)), nI_clamp (by omega), pI_wI, show ((nI a >>> ((3 * nI i) &&& 31)) &&& 7) = xsI a i from rfl, g, hp, nI_s]
    have step0 : fM_fillsTold_L4 (nI a) (f + 1) (wI y 74 G) 0 (nI i) = fM_fillsTold_L4 (nI a) f (wI y 74 (upd G i (xsI a i))) 0 (nI (i + 1)) := by
      rw [fM_fillsTold_L4, if_neg (ge4 hi4), if_neg (ix_ok hi4 (by omega)), if_pos rfl, nI_clamp (by omega), pI_wI, show ((nI a >>> ((3 * nI i) &&& 31)) &&& 7) = xsI a i from rfl, nI_s]
    obtain ⟨h1, h2, h3⟩ := ih (i + 1) f (upd G i (xsI a i)) (by omega) (by omega)
    rw [step1, step0]
    refine ⟨?_, ?_, h3⟩
    · intro hall
      rw [if_neg (hall i (Nat.le_refl _) hi4)]
      obtain ⟨F2, q1, q2, q3⟩ := h1 (fun j hj => hall j (by omega))
      refine ⟨F2, ?_, ?_, q3⟩
      · intro j hj
        rw [q1 j (by omega), upd_a, if_neg (by omega)]
      · intro j hj hj4
        by_cases c : j = i
        · subst c
          rw [q1 j (by omega), upd_a, if_pos rfl]
        · exact q2 j (by omega) hj4
    · intro ⟨j, hj1, hj2, hj3⟩
      by_cases c : fHouse_isPerson z (xsI a i) = 0
      · rw [if_pos c]; exact h3
      · rw [if_neg c]
        refine h2 ⟨j, ?_, hj2, hj3⟩
        rcases Nat.lt_or_ge i j with h9 | h9
        · omega
        · have : j = i := by omega
          subst this
          exact absurd hj3 c
theorem o_fill (z : MS) (h : RR z z) (a0 a1 : Int32) : O2 (fT_fill · a0 a1) (fM_fill · a0 a1) z := by
  rcases plan_has h a0 with ⟨i, hic, hi, rfl, c1, c2⟩ | ⟨c1, c2, -⟩
  · by_cases h1 : ∃ d, d < 10 ∧ a1 = nI d
    · obtain ⟨d, hd, rfl⟩ := h1
      obtain ⟨q1, q2, q3, q4⟩ := h.2.1.2.2.2 i hi
      obtain ⟨q5, q6⟩ := q4 hic
      obtain ⟨k, hk, ek, ck⟩ := lt_ex q5
      obtain ⟨a, ha, ea, -⟩ := lt_ex q3
      have hk0 : 0 < k := by omega
      obtain ⟨n, hn, n1, n2, n3⟩ := RR_n h
      have m1 : gI z 64 (2 * i) = nI k := q1.trans ek
      have m2 : gI z 64 (2 * i + 1) = nI a := q2.trans ea
      have e58 : gI z 58 = gI z 3 := h.1.2.2.2.2.1
      -- the model up to the kinds
      have hMod : ∀ y : MS, (∀ k, 56 ≤ k → gI y k = gI z k) → fM_fill y (nI i) (nI d) = fEnd y (nI d) (nI k) (nI a) (nI (pvN (gI z 3) d (rsN k a d n) n)) := by
        intro y hy
        have t1 : (2 * nI i : Int32) = nI (2 * i) := by rw [show (2 : Int32) = nI 2 from rfl, pk_mul]
        have y58 : gI y 58 = gI z 3 := (hy 58 (by omega)).trans e58
        have hp := present_m (m := y) (by rw [y58]; exact h.1.1.2.2.2.2.2.1) hn (by rw [hy 56 (by omega)]; exact n2) hd hk ha
        rw [y58] at hp
        have c2' : fM_isPlan y (nI i) = 1 := by
          unfold fM_isPlan at *
          rw [hy 56 (by omega)]
          exact c2
        unfold fM_fill
        rw [c2', if_neg one_ne, (day_yes hd).2, if_neg one_ne, t1, nI_s, if_neg (ix_ok (show 2 * i < 8 by omega) (by omega)), if_neg (ix_ok (show 2 * i + 1 < 8 by omega) (by omega)), nI_clamp (show 2 * i < 2 ^ 31 by omega), nI_clamp (show 2 * i + 1 < 2 ^ 31 by omega), hy 64 (by omega), m1, m2]
        exact hp
      have hCls : fT_fill z (nI i) (nI d) = fPlans_fillDay z (nI i) (nI d) := by
        unfold fT_fill
        rw [c1, if_neg one_ne, (day_yes hd).1, if_neg one_ne, ob2_eta]
      have hv := pvN_lt (gI z 3) d (rsN k a d n) hn
      have hvb : ∀ p, (pvN (gI z 3) d (rsN k a d n) n).testBit p = true → p < n := fun p hp => pvN_bit hp
      generalize hV : pvN (gI z 3) d (rsN k a d n) n = v at *
      by_cases k5 : k = 5
      · subst k5
        have hC5 : fPlans_fillDay z (nI i) (nI d) = ob2 (fPlans_seatTold z (nI a)) (fun w22 zc22 => if w22 = 0 then some ((-3), zc22) else fPlans_fillDay_J94 zc22 (nI d)) := by
          unfold fPlans_fillDay
          rw [if_neg (ix_ok hi (by omega)), if_neg (ix_ok hi (by omega)), nI_clamp (by omega), ek, ea, if_pos (show nI 5 = 5 from rfl)]
        have hper : ∀ y : MS, (∀ k, 56 ≤ k → gI y k = gI z k) → ∀ x, fM_isPerson y x = fHouse_isPerson z x := by
          intro y hy x
          rw [← person_same h]
          unfold fM_isPerson
          rw [hy 56 (by omega)]
        by_cases hall : ∀ j, 0 ≤ j → j < 4 → ¬ fHouse_isPerson z (xsI a j) = 0
        · obtain ⟨F, -, f2, f3⟩ := (told_c (z := z) (a := a) 4 0 LF (gI z 29) rfl (by decide)).1 hall
          rw [wI_self] at f3
          have f3 : fPlans_seatTold z (nI a) = some (1, wI z 29 F) := f3
          refine fill_end h (i := i) hd (nI i) (gI z 26 4) F ?_ ?_ ?_
          · intro j hj
            rw [f2 j (by omega) hj]
            by_cases hx : ∃ p, p < cl (gI z 1 0) ∧ xsI a j = nI p
            · exact hx
            · exact absurd (person_no h hx).1 (hall j (by omega) hj)
          · rw [hCls, hC5, f3, ob2s, if_neg one_ne, dz_self]
          · intro y hy
            obtain ⟨G, -, g2, g3⟩ := (told_m (z := z) (y := y) (hper y hy) (a := a) 4 0 LF (gI y 74) rfl (by decide)).1 hall
            rw [wI_self] at g3
            have g3 : fM_fillsTold y (nI a) = some (1, wI y 74 G) := g3
            refine ⟨G, fun j hj => by rw [g2 j (by omega) hj, f2 j (by omega) hj], ?_⟩
            rw [hMod y hy]
            unfold fEnd fM_fill_J142
            rw [if_pos (show nI 5 = 5 from rfl), g3, ob2s, if_neg one_ne, if_neg (show ¬ nI 5 = 1 by decide), if_neg (show ¬ nI 5 = 4 by decide), if_neg (show ¬ nI 5 = 2 by decide), if_neg (show ¬ nI 5 = 3 by decide), show gI z 26 4 = gI y 56 11 from by rw [hy 56 (by omega)]; exact h.2.1.2.1.symm, dm_self]
        · have hex : ∃ j, 0 ≤ j ∧ j < 4 ∧ fHouse_isPerson z (xsI a j) = 0 := by
            apply Classical.byContradiction
            intro hne
            apply hall
            intro j h1 h2 h3
            exact hne ⟨j, h1, h2, h3⟩
          obtain ⟨F, f3⟩ := (told_c (z := z) (a := a) 4 0 LF (gI z 29) rfl (by decide)).2 hex
          rw [wI_self] at f3
          have f3 : fPlans_seatTold z (nI a) = some (0, wI z 29 F) := f3
          have hy : ∀ k, 56 ≤ k → gI (wI z 29 F) k = gI z k := by
            intro k hk
            rw [gI_wI', if_neg (by omega)]
          obtain ⟨G, g3⟩ := (told_m (z := z) (y := wI z 29 F) (hper _ hy) (a := a) 4 0 LF (gI (wI z 29 F) 74) rfl (by decide)).2.1 hex
          rw [wI_self] at g3
          have g3 : fM_fillsTold (wI z 29 F) (nI a) = some (0, wI (wI z 29 F) 74 G) := g3
          refine ⟨-3, wI z 29 F, wI (wI z 29 F) 74 G, ?_, ?_, ⟨h.1, h.2⟩⟩
          · show fT_fill z (nI i) (nI d) = _
            rw [hCls, hC5, f3, ob2s, if_pos rfl]
          · show fM_fill (wI z 29 F) (nI i) (nI d) = _
            rw [hMod _ hy]
            unfold fEnd
            rw [if_pos (show nI 5 = 5 from rfl), g3, ob2s, if_pos rfl]
      · have nk5 : ¬ nI k = 5 := nI_ne (b := 5) k5 (by omega) (by omega)
        have hpr : fPlans_presentFor z (nI i) (nI d) = some (nI v) := by
          rw [← hV]
          exact presentFor_c h.1.1.2.2.2.2.2.1 hn n1 hd hi hk ha ek ea
        obtain ⟨o1, o2, -⟩ := ones10 v (by omega)
        have hb : fJInt_bitCount (nI v) = nI (pcN v) := o2
        have hp8 := pc8 v hv
        have hC : fPlans_fillDay z (nI i) (nI d) = if 4 ≤ nI (pcN v) then (if nI k = 1 then fPlans_fillDay_J64 z (nI d) (nI v) else (if nI k = 4 then fPlans_fillDay_J64 z (nI d) (nI v) else Option.bind (fPlans_seatByDraw z (nI v)) (fun zc78 => if nI k = 3 then Option.bind (fPlans_seatStranger zc78 (nI v)) (fun zc91 => fPlans_fillDay_J94 zc91 (nI d)) else fPlans_fillDay_J94 zc78 (nI d)))) else some ((-3), z) := by
          unfold fPlans_fillDay
          rw [if_neg (ix_ok hi (by omega)), nI_clamp (by omega), ek, if_neg nk5, hpr, obs, hb]
        have hE : ∀ y : MS, (∀ k, 56 ≤ k → gI y k = gI z k) → fM_fill y (nI i) (nI d) = if 4 ≤ nI (pcN v) then fM_fill_J142 y (nI d) (nI k) (nI v) else some ((-3), y) := by
          intro y hy
          rw [hMod y hy]
          unfold fEnd
          rw [if_neg nk5, o1, obs, hb]
        by_cases c4 : 4 ≤ pcN v
        · have c4' : (4 : Int32) ≤ nI (pcN v) := nI_le (a := 4) c4 (by omega)
          rw [if_pos c4'] at hC
          by_cases kt : k = 1 ∨ k = 4
          · obtain ⟨F, f1, f2, f3⟩ := turn_seat h hv hd c4
            have hC2 : fPlans_fillDay z (nI i) (nI d) = fPlans_fillDay_J64 z (nI d) (nI v) := by
              rw [hC]
              rcases kt with rfl | rfl
              · rw [if_pos (show nI 1 = 1 from rfl)]
              · rw [if_neg (show ¬ nI 4 = 1 by decide), if_pos (show nI 4 = 4 from rfl)]
            refine fill_end h (i := i) hd (nI i) (gI z 26 4) F ?_ ?_ ?_
            · intro j hj
              obtain ⟨p, p1, p2⟩ := f1 j hj
              exact ⟨p, by rw [n3]; exact hvb p p1, p2⟩
            · rw [hCls, hC2]
              unfold fPlans_fillDay_J64
              rw [f2, obs, dz_self]
            · intro y hy
              obtain ⟨G, g1, g2⟩ := f3 y hy
              refine ⟨G, g1, ?_⟩
              rw [hE y hy, if_pos c4']
              have hJ : fM_fill_J142 y (nI d) (nI k) (nI v) = fM_fill_J152 y (nI d) (nI v) := by
                unfold fM_fill_J142
                rcases kt with rfl | rfl
                · rw [if_pos (show nI 1 = 1 from rfl)]
                · rw [if_neg (show ¬ nI 4 = 1 by decide), if_pos (show nI 4 = 4 from rfl)]
              rw [hJ]
              unfold fM_fill_J152
              rw [g2, obs, show gI z 26 4 = gI y 56 11 from by rw [hy 56 (by omega)]; exact h.2.1.2.1.symm, dm_self]
          · have k1 : ¬ nI k = 1 := nI_ne (b := 1) (by omega) (by omega) (by omega)
            have k4 : ¬ nI k = 4 := nI_ne (b := 4) (by omega) (by omega) (by omega)
            rw [if_neg k1, if_neg k4] at hC
            obtain ⟨Z, F, -, d2, d3⟩ := draws (z := z) 4 0 LF v (gI z 26 4) (gI z 29) rfl (by decide) hv c4
            rw [dz_self, wI_self] at d2
            have d2 : fPlans_seatByDraw z (nI v) = some (dz z Z F) := d2
            rw [d2, obs] at hC
            have hF : ∀ j, j < 4 → ∃ p, v.testBit p = true ∧ p < 8 ∧ F j = nI p := by
              intro j hj
              obtain ⟨G, -, g2, -⟩ := d3 z (gI z 74)
              obtain ⟨p, p1, p2, p3, -⟩ := g2 j (by omega) hj
              exact ⟨p, p1, p2, p3⟩
            have hdy : ∀ y : MS, (∀ k, 56 ≤ k → gI y k = gI z k) → ∃ G, (∀ j, j < 4 → G j = F j) ∧ fM_fillsDraw y (nI v) = some (dm y Z G) := by
              intro y hy
              obtain ⟨G, -, g2, g3⟩ := d3 y (gI y 74)
              rw [show gI z 26 4 = gI y 56 11 from by rw [hy 56 (by omega)]; exact h.2.1.2.1.symm, dm_self, wI_self] at g3
              refine ⟨G, ?_, g3⟩
              intro j hj
              obtain ⟨p, -, -, p3, p4⟩ := g2 j (by omega) hj
              rw [p3, p4]
            by_cases k3 : k = 3
            · subst k3
              rw [if_pos (show nI 3 = 3 from rfl)] at hC
              obtain ⟨F2, s1, s2, s3⟩ := stranger (z := z) hv h.1.1.2.2.1 Z F hF
              rw [s2, obs] at hC
              refine fill_end h (i := i) hd (nI i) Z F2 ?_ (hCls.trans hC) ?_
              · intro j hj
                obtain ⟨p, p1, -, p2⟩ := s1 j hj
                exact ⟨p, by rw [n3]; exact hvb p p1, p2⟩
              · intro y hy
                obtain ⟨G, g1, g2⟩ := hdy y hy
                obtain ⟨G2, g3, g4⟩ := s3 y G ((hy 57 (by omega)).trans h.1.2.2.2.1) g1 g2
                refine ⟨G2, g3, ?_⟩
                rw [hE y hy, if_pos c4']
                unfold fM_fill_J142
                rw [if_neg k1, if_neg k4, if_neg (show ¬ nI 3 = 2 by decide), if_pos (show nI 3 = 3 from rfl), g4, obs]
            · have k2 : k = 2 := by omega
              subst k2
              rw [if_neg (show ¬ nI 2 = 3 by decide)] at hC
              refine fill_end h (i := i) hd (nI i) Z F ?_ (hCls.trans hC) ?_
              · intro j hj
                obtain ⟨p, p1, -, p2⟩ := hF j hj
                exact ⟨p, by rw [n3]; exact hvb p p1, p2⟩
              · intro y hy
                obtain ⟨G, g1, g2⟩ := hdy y hy
                refine ⟨G, g1, ?_⟩
                rw [hE y hy, if_pos c4']
                unfold fM_fill_J142
                rw [if_neg k1, if_neg k4, if_pos (show nI 2 = 2 from rfl), g2, obs]
        · have c4' : ¬ (4 : Int32) ≤ nI (pcN v) := nI_ge (b := 4) (by omega) (by omega)
          rw [if_neg c4'] at hC
          refine same2 (-3) h (hCls.trans hC) ?_
          show fM_fill z (nI i) (nI d) = _
          rw [hE z (fun _ _ => rfl), if_neg c4']
    · exact same2 (-1) h (by simp only [fT_fill, c1, one_ne, if_false, (day_no h1).1, if_true]) (by simp only [fM_fill, c2, one_ne, if_false, (day_no h1).2, if_true])
  · exact same2 (-1) h (by simp only [fT_fill, c1, if_true]) (by simp only [fM_fill, c2, if_true])
