theorem lc_self (x : Int64) : lg_cmp x x = 0 := by
  unfold lg_cmp
  rw [if_neg (show ¬ x > x from Int64.lt_irrefl), if_pos rfl]
set_option maxRecDepth 4000 in
theorem law_step (xs : Nat → Int32) (L n : Nat) (z : MS) (l3 : Int32) (h : RR z z) (hi : ¬ ((nI L) - 4) < l3) (b0 : ¬ (l3 < 0 ∨ L ≤ l3.toNatClampNeg)) (b1 : ¬ ((l3 + 1) < 0 ∨ L ≤ (l3 + 1).toNatClampNeg)) (b2 : ¬ ((l3 + 2) < 0 ∨ L ≤ (l3 + 2).toNatClampNeg)) (b3 : ¬ ((l3 + 3) < 0 ∨ L ≤ (l3 + 3).toNatClampNeg)) : ∃ z2, RR z2 z2 ∧ fLaw_L18 xs L (n + 1) z l3 = fLaw_L18 xs L n z2 (l3 + 4) := by
  rw [fLaw_L18, if_neg hi, if_neg b0]
  by_cases k0 : ((xs l3.toNatClampNeg) &&& 63) = 0
  · rw [if_pos k0, if_neg b1, if_neg b2, if_neg b3]
    obtain ⟨r, z1, z2, e1, e2, e3⟩ := o_feed z h ((jshl ((xs (l3 + 1).toNatClampNeg).toInt64) 32) ||| (((xs (l3 + 2).toNatClampNeg).toInt64) &&& 4294967295)) (xs (l3 + 3).toNatClampNeg)
    have e1 : fT_feed z ((jshl ((xs (l3 + 1).toNatClampNeg).toInt64) 32) ||| (((xs (l3 + 2).toNatClampNeg).toInt64) &&& 4294967295)) (xs (l3 + 3).toNatClampNeg) = some (r, z1) := e1
    have e2 : fM_feed z1 ((jshl ((xs (l3 + 1).toNatClampNeg).toInt64) 32) ||| (((xs (l3 + 2).toNatClampNeg).toInt64) &&& 4294967295)) (xs (l3 + 3).toNatClampNeg) = some (r, z2) := e2
    refine ⟨z2, e3, ?_⟩
    rw [e1, ob2s, if_neg b1, if_neg b2, if_neg b3, e2, ob2s, if_pos rfl]
  rw [if_neg k0]
  by_cases k1 : ((xs l3.toNatClampNeg) &&& 63) = 1
  · rw [if_pos k1]
    obtain ⟨r, z1, z2, e1, e2, e3⟩ := o_house z h
    have e1 : fT_house z = some (r, z1) := e1
    have e2 : fM_house z1 = some (r, z2) := e2
    refine ⟨z2, e3, ?_⟩
    rw [e1, ob2s, e2, ob2s, if_pos rfl]
  rw [if_neg k1]
  by_cases k2 : ((xs l3.toNatClampNeg) &&& 63) = 2
  · rw [if_pos k2]
    obtain ⟨r, z1, z2, e1, e2, e3⟩ := o_person z h
    have e1 : fT_person z = some (r, z1) := e1
    have e2 : fM_person z1 = some (r, z2) := e2
    refine ⟨z2, e3, ?_⟩
    rw [e1, ob2s, e2, ob2s, if_pos rfl]
  rw [if_neg k2]
  by_cases k3 : ((xs l3.toNatClampNeg) &&& 63) = 3
  · rw [if_pos k3, if_neg b1, if_neg b2, if_neg b3]
    by_cases q : (xs (l3 + 3).toNatClampNeg) = 0
    · obtain ⟨r, z1, z2, e1, e2, e3⟩ := o_kin z h (xs (l3 + 1).toNatClampNeg) (xs (l3 + 2).toNatClampNeg) false
      have e1 : fT_kin z (xs (l3 + 1).toNatClampNeg) (xs (l3 + 2).toNatClampNeg) 0 = some (r, z1) := e1
      have e2 : fM_kin z1 (xs (l3 + 1).toNatClampNeg) (xs (l3 + 2).toNatClampNeg) 0 = some (r, z2) := e2
      refine ⟨z2, e3, ?_⟩
      rw [if_pos q]
      unfold fLaw_J337
      rw [e1, ob2s, if_neg b1, if_neg b2, if_neg b3, if_pos q]
      unfold fLaw_J364
      rw [e2, ob2s, if_pos rfl]
    · obtain ⟨r, z1, z2, e1, e2, e3⟩ := o_kin z h (xs (l3 + 1).toNatClampNeg) (xs (l3 + 2).toNatClampNeg) true
      have e1 : fT_kin z (xs (l3 + 1).toNatClampNeg) (xs (l3 + 2).toNatClampNeg) 1 = some (r, z1) := e1
      have e2 : fM_kin z1 (xs (l3 + 1).toNatClampNeg) (xs (l3 + 2).toNatClampNeg) 1 = some (r, z2) := e2
      refine ⟨z2, e3, ?_⟩
      rw [if_neg q]
      unfold fLaw_J337
      rw [e1, ob2s, if_neg b1, if_neg b2, if_neg b3, if_neg q]
      unfold fLaw_J364
      rw [e2, ob2s, if_pos rfl]
  rw [if_neg k3]
  by_cases k4 : ((xs l3.toNatClampNeg) &&& 63) = 4
  · rw [if_pos k4, if_neg b1, if_neg b2, if_neg b3]
    obtain ⟨r, z1, z2, e1, e2, e3⟩ := o_trust z h (xs (l3 + 1).toNatClampNeg) (xs (l3 + 2).toNatClampNeg) (xs (l3 + 3).toNatClampNeg)
    have e1 : fT_trust z (xs (l3 + 1).toNatClampNeg) (xs (l3 + 2).toNatClampNeg) (xs (l3 + 3).toNatClampNeg) = some (r, z1) := e1
    have e2 : fM_trust z1 (xs (l3 + 1).toNatClampNeg) (xs (l3 + 2).toNatClampNeg) (xs (l3 + 3).toNatClampNeg) = some (r, z2) := e2
    refine ⟨z2, e3, ?_⟩
    rw [e1, ob2s, if_neg b1, if_neg b2, if_neg b3, e2, ob2s, if_pos rfl]
  rw [if_neg k4]
  by_cases k5 : ((xs l3.toNatClampNeg) &&& 63) = 5
  · rw [if_pos k5, if_neg b1, if_neg b2, if_neg b3]
    by_cases q : (xs (l3 + 3).toNatClampNeg) = 0
    · obtain ⟨r, z1, z2, e1, e2, e3⟩ := o_away z h (xs (l3 + 1).toNatClampNeg) (xs (l3 + 2).toNatClampNeg) false
      have e1 : fT_away z (xs (l3 + 1).toNatClampNeg) (xs (l3 + 2).toNatClampNeg) 0 = some (r, z1) := e1
      have e2 : fM_away z1 (xs (l3 + 1).toNatClampNeg) (xs (l3 + 2).toNatClampNeg) 0 = some (r, z2) := e2
      refine ⟨z2, e3, ?_⟩
      rw [if_pos q]
      unfold fLaw_J439
      rw [e1, ob2s, if_neg b1, if_neg b2, if_neg b3, if_pos q]
      unfold fLaw_J466
      rw [e2, ob2s, if_pos rfl]
    · obtain ⟨r, z1, z2, e1, e2, e3⟩ := o_away z h (xs (l3 + 1).toNatClampNeg) (xs (l3 + 2).toNatClampNeg) true
      have e1 : fT_away z (xs (l3 + 1).toNatClampNeg) (xs (l3 + 2).toNatClampNeg) 1 = some (r, z1) := e1
      have e2 : fM_away z1 (xs (l3 + 1).toNatClampNeg) (xs (l3 + 2).toNatClampNeg) 1 = some (r, z2) := e2
      refine ⟨z2, e3, ?_⟩
      rw [if_neg q]
      unfold fLaw_J439
      rw [e1, ob2s, if_neg b1, if_neg b2, if_neg b3, if_neg q]
      unfold fLaw_J466
      rw [e2, ob2s, if_pos rfl]
  rw [if_neg k5]
  by_cases k6 : ((xs l3.toNatClampNeg) &&& 63) = 6
  · rw [if_pos k6, if_neg b1, if_neg b2]
    obtain ⟨r, z1, z2, e1, e2, e3⟩ := o_set z h (xs (l3 + 1).toNatClampNeg) (xs (l3 + 2).toNatClampNeg)
    have e1 : fT_set z (xs (l3 + 1).toNatClampNeg) (xs (l3 + 2).toNatClampNeg) = some (r, z1) := e1
    have e2 : fM_set z1 (xs (l3 + 1).toNatClampNeg) (xs (l3 + 2).toNatClampNeg) = some (r, z2) := e2
    refine ⟨z2, e3, ?_⟩
    rw [e1, ob2s, if_neg b1, if_neg b2, e2, ob2s, if_pos rfl]
  rw [if_neg k6]
  by_cases k7 : ((xs l3.toNatClampNeg) &&& 63) = 7
  · rw [if_pos k7, if_neg b1]
    obtain ⟨r, e1, e2⟩ := o_law z h (xs (l3 + 1).toNatClampNeg)
    have e1 : fT_law z (xs (l3 + 1).toNatClampNeg) = some r := e1
    have e2 : fM_law z (xs (l3 + 1).toNatClampNeg) = some r := e2
    refine ⟨z, h, ?_⟩
    rw [e1, obs, if_neg b1, e2, obs, if_pos rfl]
  rw [if_neg k7]
  by_cases k8 : ((xs l3.toNatClampNeg) &&& 63) = 8
  · rw [if_pos k8, if_neg b1, if_neg b2, if_neg b3]
    obtain ⟨r, z1, z2, e1, e2, e3⟩ := o_post z h (xs (l3 + 1).toNatClampNeg) (xs (l3 + 2).toNatClampNeg) (xs (l3 + 3).toNatClampNeg)
    have e1 : fT_post z (xs (l3 + 1).toNatClampNeg) (xs (l3 + 2).toNatClampNeg) (xs (l3 + 3).toNatClampNeg) = some (r, z1) := e1
    have e2 : fM_post z1 (xs (l3 + 1).toNatClampNeg) (xs (l3 + 2).toNatClampNeg) (xs (l3 + 3).toNatClampNeg) = some (r, z2) := e2
    refine ⟨z2, e3, ?_⟩
    rw [e1, ob2s, if_neg b1, if_neg b2, if_neg b3, e2, ob2s, if_pos rfl]
  rw [if_neg k8]
  by_cases k9 : ((xs l3.toNatClampNeg) &&& 63) = 9
  · rw [if_pos k9, if_neg b1, if_neg b2]
    obtain ⟨r, e1, e2⟩ := o_postOf z h (xs (l3 + 1).toNatClampNeg) (xs (l3 + 2).toNatClampNeg)
    have e1 : fT_postOf z (xs (l3 + 1).toNatClampNeg) (xs (l3 + 2).toNatClampNeg) = some r := e1
    have e2 : fM_postOf z (xs (l3 + 1).toNatClampNeg) (xs (l3 + 2).toNatClampNeg) = some r := e2
    refine ⟨z, h, ?_⟩
    rw [e1, obs, if_neg b1, if_neg b2, e2, obs, if_pos rfl]
  rw [if_neg k9]
  by_cases k10 : ((xs l3.toNatClampNeg) &&& 63) = 10
  · rw [if_pos k10, if_neg b1, if_neg b2]
    by_cases q : (xs (l3 + 2).toNatClampNeg) = 0
    · obtain ⟨r, z1, z2, e1, e2, e3⟩ := o_surprise z h (xs (l3 + 1).toNatClampNeg) false
      have e1 : fT_surprise z (xs (l3 + 1).toNatClampNeg) 0 = some (r, z1) := e1
      have e2 : fM_surprise z1 (xs (l3 + 1).toNatClampNeg) 0 = some (r, z2) := e2
      refine ⟨z2, e3, ?_⟩
      rw [if_pos q]
      unfold fLaw_J625
      rw [e1, ob2s, if_neg b1, if_neg b2, if_pos q]
      unfold fLaw_J647
      rw [e2, ob2s, if_pos rfl]
    · obtain ⟨r, z1, z2, e1, e2, e3⟩ := o_surprise z h (xs (l3 + 1).toNatClampNeg) true
      have e1 : fT_surprise z (xs (l3 + 1).toNatClampNeg) 1 = some (r, z1) := e1
      have e2 : fM_surprise z1 (xs (l3 + 1).toNatClampNeg) 1 = some (r, z2) := e2
      refine ⟨z2, e3, ?_⟩
      rw [if_neg q]
      unfold fLaw_J625
      rw [e1, ob2s, if_neg b1, if_neg b2, if_neg q]
      unfold fLaw_J647
      rw [e2, ob2s, if_pos rfl]
  rw [if_neg k10]
  by_cases k11 : ((xs l3.toNatClampNeg) &&& 63) = 11
  · rw [if_pos k11, if_neg b1, if_neg b2]
    obtain ⟨r, z1, z2, e1, e2, e3⟩ := o_loss z h (xs (l3 + 1).toNatClampNeg) (xs (l3 + 2).toNatClampNeg)
    have e1 : fT_loss z (xs (l3 + 1).toNatClampNeg) (xs (l3 + 2).toNatClampNeg) = some (r, z1) := e1
    have e2 : fM_loss z1 (xs (l3 + 1).toNatClampNeg) (xs (l3 + 2).toNatClampNeg) = some (r, z2) := e2
    refine ⟨z2, e3, ?_⟩
    rw [e1, ob2s, if_neg b1, if_neg b2, e2, ob2s, if_pos rfl]
  rw [if_neg k11]
  by_cases k12 : ((xs l3.toNatClampNeg) &&& 63) = 12
  · rw [if_pos k12, if_neg b1, if_neg b2, if_neg b3]
    obtain ⟨r, e1, e2⟩ := o_trustOn z h (xs (l3 + 1).toNatClampNeg) (xs (l3 + 2).toNatClampNeg) (xs (l3 + 3).toNatClampNeg)
    have e1 : fT_trustOn z (xs (l3 + 1).toNatClampNeg) (xs (l3 + 2).toNatClampNeg) (xs (l3 + 3).toNatClampNeg) = some r := e1
    have e2 : fM_trustOn z (xs (l3 + 1).toNatClampNeg) (xs (l3 + 2).toNatClampNeg) (xs (l3 + 3).toNatClampNeg) = some r := e2
    refine ⟨z, h, ?_⟩
    rw [e1, obs, if_neg b1, if_neg b2, if_neg b3, e2, obs, if_pos rfl]
  rw [if_neg k12]
  by_cases k13 : ((xs l3.toNatClampNeg) &&& 63) = 13
  · rw [if_pos k13, if_neg b1]
    obtain ⟨r, e1, e2⟩ := o_seen z h (xs (l3 + 1).toNatClampNeg)
    have e1 : fT_seen z (xs (l3 + 1).toNatClampNeg) = some r := e1
    have e2 : fM_seen z (xs (l3 + 1).toNatClampNeg) = some r := e2
    refine ⟨z, h, ?_⟩
    rw [e1, obs, if_neg b1, e2, obs, if_pos rfl]
  rw [if_neg k13]
  by_cases k14 : ((xs l3.toNatClampNeg) &&& 63) = 14
  · rw [if_pos k14, if_neg b1]
    obtain ⟨r, e1, e2⟩ := o_worth z h (xs (l3 + 1).toNatClampNeg)
    have e1 : fT_worth z (xs (l3 + 1).toNatClampNeg) = some r := e1
    have e2 : fM_worth z (xs (l3 + 1).toNatClampNeg) = some r := e2
    refine ⟨z, h, ?_⟩
    rw [e1, obs, if_neg b1, e2, obs, if_pos rfl]
  rw [if_neg k14]
  by_cases k15 : ((xs l3.toNatClampNeg) &&& 63) = 15
  · rw [if_pos k15]
    obtain ⟨r, e1, e2⟩ := o_pays z h
    have e1 : fT_pays z = some r := e1
    have e2 : fM_pays z = some r := e2
    refine ⟨z, h, ?_⟩
    rw [e1, obs, e2, obs, if_pos rfl]
  rw [if_neg k15]
  by_cases k16 : ((xs l3.toNatClampNeg) &&& 63) = 16
  · rw [if_pos k16, if_neg b1, if_neg b2, if_neg b3]
    obtain ⟨r, z1, z2, e1, e2, e3⟩ := o_best z h (xs (l3 + 1).toNatClampNeg) (xs (l3 + 2).toNatClampNeg) (xs (l3 + 3).toNatClampNeg)
    have e1 : fT_best z (xs (l3 + 1).toNatClampNeg) (xs (l3 + 2).toNatClampNeg) (xs (l3 + 3).toNatClampNeg) = some (r, z1) := e1
    have e2 : fM_best z1 (xs (l3 + 1).toNatClampNeg) (xs (l3 + 2).toNatClampNeg) (xs (l3 + 3).toNatClampNeg) = some (r, z2) := e2
    refine ⟨z2, e3, ?_⟩
    rw [e1, ob2s, if_neg b1, if_neg b2, if_neg b3, e2, ob2s, if_pos (lc_self r)]
  rw [if_neg k16]
  by_cases k17 : ((xs l3.toNatClampNeg) &&& 63) = 17
  · rw [if_pos k17]
    obtain ⟨r, e1, e2⟩ := o_enough z h
    have e1 : fT_enough z = some r := e1
    have e2 : fM_enough z = some r := e2
    refine ⟨z, h, ?_⟩
    rw [e1, obs, e2, obs, if_pos rfl]
  rw [if_neg k17]
  by_cases k18 : ((xs l3.toNatClampNeg) &&& 63) = 18
  · rw [if_pos k18]
    obtain ⟨r, e1, e2⟩ := o_needed z h
    have e1 : fT_needed z = some r := e1
    have e2 : fM_needed z = some r := e2
    refine ⟨z, h, ?_⟩
    rw [e1, obs, e2, obs, if_pos rfl]
  rw [if_neg k18]
  by_cases k19 : ((xs l3.toNatClampNeg) &&& 63) = 19
  · rw [if_pos k19, if_neg b1]
    obtain ⟨r, e1, e2⟩ := o_broken z h (xs (l3 + 1).toNatClampNeg)
    have e1 : fT_broken z (xs (l3 + 1).toNatClampNeg) = some r := e1
    have e2 : fM_broken z (xs (l3 + 1).toNatClampNeg) = some r := e2
    refine ⟨z, h, ?_⟩
    rw [e1, obs, if_neg b1, e2, obs, if_pos rfl]
  rw [if_neg k19]
  by_cases k20 : ((xs l3.toNatClampNeg) &&& 63) = 20
  · rw [if_pos k20, if_neg b1, if_neg b2]
    obtain ⟨r, z1, z2, e1, e2, e3⟩ := o_mended z h (xs (l3 + 1).toNatClampNeg) (xs (l3 + 2).toNatClampNeg)
    have e1 : fT_mended z (xs (l3 + 1).toNatClampNeg) (xs (l3 + 2).toNatClampNeg) = some (r, z1) := e1
    have e2 : fM_mended z1 (xs (l3 + 1).toNatClampNeg) (xs (l3 + 2).toNatClampNeg) = some (r, z2) := e2
    refine ⟨z2, e3, ?_⟩
    rw [e1, ob2s, if_neg b1, if_neg b2, e2, ob2s, if_pos rfl]
  rw [if_neg k20]
  by_cases k21 : ((xs l3.toNatClampNeg) &&& 63) = 21
  · rw [if_pos k21, if_neg b1, if_neg b2]
    obtain ⟨r, z1, z2, e1, e2, e3⟩ := o_ahead z h (xs (l3 + 1).toNatClampNeg) (xs (l3 + 2).toNatClampNeg)
    have e1 : fT_ahead z (xs (l3 + 1).toNatClampNeg) (xs (l3 + 2).toNatClampNeg) = some (r, z1) := e1
    have e2 : fM_ahead z1 (xs (l3 + 1).toNatClampNeg) (xs (l3 + 2).toNatClampNeg) = some (r, z2) := e2
    refine ⟨z2, e3, ?_⟩
    rw [e1, ob2s, if_neg b1, if_neg b2, e2, ob2s, if_pos rfl]
  rw [if_neg k21]
  by_cases k22 : ((xs l3.toNatClampNeg) &&& 63) = 22
  · rw [if_pos k22, if_neg b1, if_neg b2, if_neg b3]
    obtain ⟨r, z1, z2, e1, e2, e3⟩ := o_lot z h (xs (l3 + 1).toNatClampNeg) (xs (l3 + 2).toNatClampNeg) (xs (l3 + 3).toNatClampNeg)
    have e1 : fT_lot z (xs (l3 + 1).toNatClampNeg) (xs (l3 + 2).toNatClampNeg) (xs (l3 + 3).toNatClampNeg) = some (r, z1) := e1
    have e2 : fM_lot z1 (xs (l3 + 1).toNatClampNeg) (xs (l3 + 2).toNatClampNeg) (xs (l3 + 3).toNatClampNeg) = some (r, z2) := e2
    refine ⟨z2, e3, ?_⟩
    rw [e1, ob2s, if_neg b1, if_neg b2, if_neg b3, e2, ob2s, if_pos (lc_self r)]
  rw [if_neg k22]
  by_cases k23 : ((xs l3.toNatClampNeg) &&& 63) = 23
  · rw [if_pos k23, if_neg b1, if_neg b2]
    obtain ⟨r, e1, e2⟩ := o_sat z h (xs (l3 + 1).toNatClampNeg) (xs (l3 + 2).toNatClampNeg)
    have e1 : fT_sat z (xs (l3 + 1).toNatClampNeg) (xs (l3 + 2).toNatClampNeg) = some r := e1
    have e2 : fM_sat z (xs (l3 + 1).toNatClampNeg) (xs (l3 + 2).toNatClampNeg) = some r := e2
    refine ⟨z, h, ?_⟩
    rw [e1, obs, if_neg b1, if_neg b2, e2, obs, if_pos rfl]
  rw [if_neg k23]
  by_cases k24 : ((xs l3.toNatClampNeg) &&& 63) = 24
  · rw [if_pos k24, if_neg b1]
    obtain ⟨r, e1, e2⟩ := o_suspects z h (xs (l3 + 1).toNatClampNeg)
    have e1 : fT_suspects z (xs (l3 + 1).toNatClampNeg) = some r := e1
    have e2 : fM_suspects z (xs (l3 + 1).toNatClampNeg) = some r := e2
    refine ⟨z, h, ?_⟩
    rw [e1, obs, if_neg b1, e2, obs, if_pos rfl]
  rw [if_neg k24]
  by_cases k25 : ((xs l3.toNatClampNeg) &&& 63) = 25
  · rw [if_pos k25, if_neg b1, if_neg b2]
    obtain ⟨r, z1, z2, e1, e2, e3⟩ := o_plan z h (xs (l3 + 1).toNatClampNeg) (xs (l3 + 2).toNatClampNeg)
    have e1 : fT_plan z (xs (l3 + 1).toNatClampNeg) (xs (l3 + 2).toNatClampNeg) = some (r, z1) := e1
    have e2 : fM_plan z1 (xs (l3 + 1).toNatClampNeg) (xs (l3 + 2).toNatClampNeg) = some (r, z2) := e2
    refine ⟨z2, e3, ?_⟩
    rw [e1, ob2s, if_neg b1, if_neg b2, e2, ob2s, if_pos rfl]
  rw [if_neg k25]
  by_cases k26 : ((xs l3.toNatClampNeg) &&& 63) = 26
  · rw [if_pos k26, if_neg b1, if_neg b2]
    obtain ⟨r, e1, e2⟩ := o_planOf z h (xs (l3 + 1).toNatClampNeg) (xs (l3 + 2).toNatClampNeg)
    have e1 : fT_planOf z (xs (l3 + 1).toNatClampNeg) (xs (l3 + 2).toNatClampNeg) = some r := e1
    have e2 : fM_planOf z (xs (l3 + 1).toNatClampNeg) (xs (l3 + 2).toNatClampNeg) = some r := e2
    refine ⟨z, h, ?_⟩
    rw [e1, obs, if_neg b1, if_neg b2, e2, obs, if_pos rfl]
  rw [if_neg k26]
  by_cases k27 : ((xs l3.toNatClampNeg) &&& 63) = 27
  · rw [if_pos k27, if_neg b1, if_neg b2]
    obtain ⟨r, z1, z2, e1, e2, e3⟩ := o_fill z h (xs (l3 + 1).toNatClampNeg) (xs (l3 + 2).toNatClampNeg)
    have e1 : fT_fill z (xs (l3 + 1).toNatClampNeg) (xs (l3 + 2).toNatClampNeg) = some (r, z1) := e1
    have e2 : fM_fill z1 (xs (l3 + 1).toNatClampNeg) (xs (l3 + 2).toNatClampNeg) = some (r, z2) := e2
    refine ⟨z2, e3, ?_⟩
    rw [e1, ob2s, if_neg b1, if_neg b2, e2, ob2s, if_pos rfl]
  rw [if_neg k27]
  by_cases k28 : ((xs l3.toNatClampNeg) &&& 63) = 28
  · rw [if_pos k28, if_neg b1]
    obtain ⟨r, z1, z2, e1, e2, e3⟩ := o_seed z h (xs (l3 + 1).toNatClampNeg)
    have e1 : fT_seed z (xs (l3 + 1).toNatClampNeg) = some (r, z1) := e1
    have e2 : fM_seed z1 (xs (l3 + 1).toNatClampNeg) = some (r, z2) := e2
    refine ⟨z2, e3, ?_⟩
    rw [e1, ob2s, if_neg b1, e2, ob2s, if_pos rfl]
  rw [if_neg k28]
  by_cases k29 : ((xs l3.toNatClampNeg) &&& 63) = 29
  · rw [if_pos k29]
    obtain ⟨r, z1, z2, e1, e2, e3⟩ := o_prove z h
    have e1 : fT_prove z = some (r, z1) := e1
    have e2 : fM_prove z1 = some (r, z2) := e2
    refine ⟨z2, e3, ?_⟩
    rw [e1, ob2s, e2, ob2s, if_pos rfl]
  rw [if_neg k29]
  by_cases k30 : ((xs l3.toNatClampNeg) &&& 63) = 30
  · rw [if_pos k30, if_neg b1, if_neg b2]
    obtain ⟨r, e1, e2⟩ := o_row z h (xs (l3 + 1).toNatClampNeg) (xs (l3 + 2).toNatClampNeg)
    have e1 : fT_row z (xs (l3 + 1).toNatClampNeg) (xs (l3 + 2).toNatClampNeg) = some r := e1
    have e2 : fM_row z (xs (l3 + 1).toNatClampNeg) (xs (l3 + 2).toNatClampNeg) = some r := e2
    refine ⟨z, h, ?_⟩
    rw [e1, obs, if_neg b1, if_neg b2, e2, obs, if_pos rfl]
  rw [if_neg k30]
  by_cases k31 : ((xs l3.toNatClampNeg) &&& 63) = 31
  · rw [if_pos k31, if_neg b1, if_neg b2, if_neg b3]
    obtain ⟨r, z1, z2, e1, e2, e3⟩ := o_alterRow z h (xs (l3 + 1).toNatClampNeg) (xs (l3 + 2).toNatClampNeg) (xs (l3 + 3).toNatClampNeg)
    have e1 : fT_alterRow z (xs (l3 + 1).toNatClampNeg) (xs (l3 + 2).toNatClampNeg) (xs (l3 + 3).toNatClampNeg) = some (r, z1) := e1
    have e2 : fM_alterRow z1 (xs (l3 + 1).toNatClampNeg) (xs (l3 + 2).toNatClampNeg) (xs (l3 + 3).toNatClampNeg) = some (r, z2) := e2
    refine ⟨z2, e3, ?_⟩
    rw [e1, ob2s, if_neg b1, if_neg b2, if_neg b3, e2, ob2s, if_pos rfl]
  rw [if_neg k31]
  by_cases k32 : ((xs l3.toNatClampNeg) &&& 63) = 32
  · rw [if_pos k32]
    obtain ⟨r, z2, e1, e2, e3⟩ := o_judge z h
    have e1 : fT_judge z = some r := e1
    have e2 : fM_judge z = some (r, z2) := e2
    refine ⟨z2, e3, ?_⟩
    rw [e1, obs, e2, ob2s, if_pos rfl]
  rw [if_neg k32]
  by_cases k33 : ((xs l3.toNatClampNeg) &&& 63) = 33
  · rw [if_pos k33, if_neg b1, if_neg b2, if_neg b3]
    obtain ⟨r, z1, z2, e1, e2, e3⟩ := o_sheet z h (xs (l3 + 1).toNatClampNeg) (xs (l3 + 2).toNatClampNeg) (xs (l3 + 3).toNatClampNeg)
    have e1 : fT_sheet z (xs (l3 + 1).toNatClampNeg) (xs (l3 + 2).toNatClampNeg) (xs (l3 + 3).toNatClampNeg) = some (r, z1) := e1
    have e2 : fM_sheet z1 (xs (l3 + 1).toNatClampNeg) (xs (l3 + 2).toNatClampNeg) (xs (l3 + 3).toNatClampNeg) = some (r, z2) := e2
    refine ⟨z2, e3, ?_⟩
    rw [e1, ob2s, if_neg b1, if_neg b2, if_neg b3, e2, ob2s, if_pos rfl]
  rw [if_neg k33]
  by_cases k34 : ((xs l3.toNatClampNeg) &&& 63) = 34
  · rw [if_pos k34, if_neg b1, if_neg b2, if_neg b3]
    obtain ⟨r, z1, z2, e1, e2, e3⟩ := o_put z h (xs (l3 + 1).toNatClampNeg) (xs (l3 + 2).toNatClampNeg) (xs (l3 + 3).toNatClampNeg)
    have e1 : fT_put z (xs (l3 + 1).toNatClampNeg) (xs (l3 + 2).toNatClampNeg) (xs (l3 + 3).toNatClampNeg) = some (r, z1) := e1
    have e2 : fM_put z1 (xs (l3 + 1).toNatClampNeg) (xs (l3 + 2).toNatClampNeg) (xs (l3 + 3).toNatClampNeg) = some (r, z2) := e2
    refine ⟨z2, e3, ?_⟩
    rw [e1, ob2s, if_neg b1, if_neg b2, if_neg b3, e2, ob2s, if_pos rfl]
  rw [if_neg k34]
  by_cases k35 : ((xs l3.toNatClampNeg) &&& 63) = 35
  · rw [if_pos k35, if_neg b1, if_neg b2, if_neg b3]
    obtain ⟨r, e1, e2⟩ := o_item z h (xs (l3 + 1).toNatClampNeg) (xs (l3 + 2).toNatClampNeg) (xs (l3 + 3).toNatClampNeg)
    have e1 : fT_item z (xs (l3 + 1).toNatClampNeg) (xs (l3 + 2).toNatClampNeg) (xs (l3 + 3).toNatClampNeg) = some r := e1
    have e2 : fM_item z (xs (l3 + 1).toNatClampNeg) (xs (l3 + 2).toNatClampNeg) (xs (l3 + 3).toNatClampNeg) = some r := e2
    refine ⟨z, h, ?_⟩
    rw [e1, obs, if_neg b1, if_neg b2, if_neg b3, e2, obs, if_pos rfl]
  rw [if_neg k35]
  by_cases k36 : ((xs l3.toNatClampNeg) &&& 63) = 36
  · rw [if_pos k36, if_neg b1, if_neg b2, if_neg b3]
    obtain ⟨r, z1, z2, e1, e2, e3⟩ := o_shelf z h (xs (l3 + 1).toNatClampNeg) (xs (l3 + 2).toNatClampNeg) (xs (l3 + 3).toNatClampNeg)
    have e1 : fT_shelf z (xs (l3 + 1).toNatClampNeg) (xs (l3 + 2).toNatClampNeg) (xs (l3 + 3).toNatClampNeg) = some (r, z1) := e1
    have e2 : fM_shelf z1 (xs (l3 + 1).toNatClampNeg) (xs (l3 + 2).toNatClampNeg) (xs (l3 + 3).toNatClampNeg) = some (r, z2) := e2
    refine ⟨z2, e3, ?_⟩
    rw [e1, ob2s, if_neg b1, if_neg b2, if_neg b3, e2, ob2s, if_pos rfl]
  rw [if_neg k36]
  by_cases k37 : ((xs l3.toNatClampNeg) &&& 63) = 37
  · rw [if_pos k37, if_neg b1, if_neg b2]
    obtain ⟨r, e1, e2⟩ := o_taken z h (xs (l3 + 1).toNatClampNeg) (xs (l3 + 2).toNatClampNeg)
    have e1 : fT_taken z (xs (l3 + 1).toNatClampNeg) (xs (l3 + 2).toNatClampNeg) = some r := e1
    have e2 : fM_taken z (xs (l3 + 1).toNatClampNeg) (xs (l3 + 2).toNatClampNeg) = some r := e2
    refine ⟨z, h, ?_⟩
    rw [e1, obs, if_neg b1, if_neg b2, e2, obs, if_pos rfl]
  rw [if_neg k37]
  by_cases k38 : ((xs l3.toNatClampNeg) &&& 63) = 38
  · rw [if_pos k38, if_neg b1, if_neg b2, if_neg b3]
    obtain ⟨r, z1, z2, e1, e2, e3⟩ := o_act z h (xs (l3 + 1).toNatClampNeg) (xs (l3 + 2).toNatClampNeg) (xs (l3 + 3).toNatClampNeg)
    have e1 : fT_act z (xs (l3 + 1).toNatClampNeg) (xs (l3 + 2).toNatClampNeg) (xs (l3 + 3).toNatClampNeg) = some (r, z1) := e1
    have e2 : fM_act z1 (xs (l3 + 1).toNatClampNeg) (xs (l3 + 2).toNatClampNeg) (xs (l3 + 3).toNatClampNeg) = some (r, z2) := e2
    refine ⟨z2, e3, ?_⟩
    rw [e1, ob2s, if_neg b1, if_neg b2, if_neg b3, e2, ob2s, if_pos rfl]
  rw [if_neg k38]
  by_cases k39 : ((xs l3.toNatClampNeg) &&& 63) = 39
  · rw [if_pos k39, if_neg b1]
    obtain ⟨r, e1, e2⟩ := o_trace z h (xs (l3 + 1).toNatClampNeg)
    have e1 : fT_trace z (xs (l3 + 1).toNatClampNeg) = some r := e1
    have e2 : fM_trace z (xs (l3 + 1).toNatClampNeg) = some r := e2
    refine ⟨z, h, ?_⟩
    rw [e1, obs, if_neg b1, e2, obs, if_pos rfl]
  rw [if_neg k39]
  by_cases k40 : ((xs l3.toNatClampNeg) &&& 63) = 40
  · rw [if_pos k40, if_neg b1, if_neg b2]
    obtain ⟨r, z1, z2, e1, e2, e3⟩ := o_days z h (xs (l3 + 1).toNatClampNeg) (xs (l3 + 2).toNatClampNeg)
    have e1 : fT_days z (xs (l3 + 1).toNatClampNeg) (xs (l3 + 2).toNatClampNeg) = some (r, z1) := e1
    have e2 : fM_days z1 (xs (l3 + 1).toNatClampNeg) (xs (l3 + 2).toNatClampNeg) = some (r, z2) := e2
    refine ⟨z2, e3, ?_⟩
    rw [e1, ob2s, if_neg b1, if_neg b2, e2, ob2s, if_pos rfl]
  rw [if_neg k40]
  by_cases k41 : ((xs l3.toNatClampNeg) &&& 63) = 41
  · rw [if_pos k41, if_neg b1]
    obtain ⟨r, e1, e2⟩ := o_many z h (xs (l3 + 1).toNatClampNeg)
    have e1 : fT_many z (xs (l3 + 1).toNatClampNeg) = some r := e1
    have e2 : fM_many z (xs (l3 + 1).toNatClampNeg) = some r := e2
    refine ⟨z, h, ?_⟩
    rw [e1, obs, if_neg b1, e2, obs, if_pos rfl]
  rw [if_neg k41]
  by_cases k42 : ((xs l3.toNatClampNeg) &&& 63) = 42
  · rw [if_pos k42]
    obtain ⟨r, z1, z2, e1, e2, e3⟩ := o_keep z h
    have e1 : fT_keep z = some (r, z1) := e1
    have e2 : fM_keep z1 = some (r, z2) := e2
    refine ⟨z2, e3, ?_⟩
    rw [e1, ob2s, e2, ob2s, if_pos rfl]
  rw [if_neg k42]
  by_cases k43 : ((xs l3.toNatClampNeg) &&& 63) = 43
  · rw [if_pos k43]
    obtain ⟨r, z1, z2, e1, e2, e3⟩ := o_again z h
    have e1 : fT_again z = some (r, z1) := e1
    have e2 : fM_again z1 = some (r, z2) := e2
    refine ⟨z2, e3, ?_⟩
    rw [e1, ob2s, e2, ob2s, if_pos rfl]
  rw [if_neg k43]
  exact ⟨z, h, rfl⟩
theorem law_run (xs : Nat → Int32) (L : Nat) (hL : L ≤ 2048) : ∀ (r i n : Nat) (z : MS), L < i + 4 + 4 * r → i ≤ L + 4 → r < n → RR z z → ∃ z1, fLaw_L18 xs L n z (nI i) = some (1, z1) := by
  intro r
  induction r with
  | zero =>
    intro i n z h1 h2 h3 hR
    obtain ⟨n, rfl⟩ : ∃ m, n = m + 1 := ⟨n - 1, by omega⟩
    refine ⟨z, ?_⟩
    rw [fLaw_L18, if_pos (show (nI L) - 4 < nI i from by
      rw [Int32.lt_iff_toInt_lt, show (4 : Int32) = nI 4 from rfl, pk_sub_toInt (by omega) (by omega), nI_toInt (by omega)]
      omega)]
  | succ r ih =>
    intro i n z h1 h2 h3 hR
    obtain ⟨n, rfl⟩ : ∃ m, n = m + 1 := ⟨n - 1, by omega⟩
    by_cases c : L < i + 4
    · refine ⟨z, ?_⟩
      rw [fLaw_L18, if_pos (show (nI L) - 4 < nI i from by
        rw [Int32.lt_iff_toInt_lt, show (4 : Int32) = nI 4 from rfl, pk_sub_toInt (by omega) (by omega), nI_toInt (by omega)]
        omega)]
    · have e1 : nI i + 1 = nI (i + 1) := nI_add i 1
      have e2 : nI i + 2 = nI (i + 2) := nI_add i 2
      have e3 : nI i + 3 = nI (i + 3) := nI_add i 3
      have e4 : nI i + 4 = nI (i + 4) := nI_add i 4
      obtain ⟨z2, hz2, e⟩ := law_step xs L n z (nI i) hR (by
        rw [Int32.lt_iff_toInt_lt, show (4 : Int32) = nI 4 from rfl, pk_sub_toInt (by omega) (by omega), nI_toInt (by omega)]
        omega) (ix_ok (by omega) (by omega)) (by rw [e1]; exact ix_ok (by omega) (by omega)) (by rw [e2]; exact ix_ok (by omega) (by omega)) (by rw [e3]; exact ix_ok (by omega) (by omega))
      rw [e, e4]
      exact ih (i + 4) n z2 (by omega) (by omega) (by omega) hz2
theorem law_pure (xs : Nat → Int32) (L : Nat) (hL : L ≤ 2048) : ∃ z1 : MS, fLaw xs L z0 = some (1, z1) :=
  law_run xs L hL 1000 0 LF z0 (by omega) (by omega) (by decide) RR_z0
