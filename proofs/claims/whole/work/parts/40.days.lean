theorem person_same {c m : MS} (h : RR c m) (x : Int32) : fM_isPerson m x = fHouse_isPerson c x := by
  by_cases hx : ∃ p, p < cl (gI c 1 0) ∧ x = nI p
  · obtain ⟨p, hp, rfl⟩ := hx
    rw [(person_yes h hp).1, (person_yes h hp).2]
  · rw [(person_no h hx).1, (person_no h hx).2]
/-- one post told for the first days -/
def dyS (V : Nat → Int32) (s : Nat) (S : Nat → Int32) : Nat → Nat → Int32
  | 0 => S
  | d + 1 => upd (dyS V s S d) (4 * d + s) (V d)
theorem dyS_ok {V S : Nat → Int32} {s n : Nat} (hS : ∀ i, i < 40 → S i = -1 ∨ lt (S i) n) (hV : ∀ d, V d = -1 ∨ lt (V d) n) : ∀ d, ∀ i, i < 40 → dyS V s S d i = -1 ∨ lt (dyS V s S d i) n := by
  intro d
  induction d with
  | zero => exact hS
  | succ d ih =>
    intro i hi
    rw [dyS, upd_a]
    by_cases e : i = 4 * d + s
    · rw [if_pos e]; exact hV d
    · rw [if_neg e]; exact ih i hi
theorem o_days (z : MS) (h : RR z z) (a0 a1 : Int32) : O2 (fT_days · a0 a1) (fM_days · a0 a1) z := by
  by_cases h0 : ∃ d, d < 4 ∧ a0 = nI d
  · obtain ⟨s, hs, rfl⟩ := h0
    obtain ⟨p1, p2, -, -⟩ := post_yes hs
    by_cases h1 : ∃ d, d < 4 ∧ a1 = nI d
    · obtain ⟨j, hj, rfl⟩ := h1
      obtain ⟨-, -, r1, r2⟩ := post_yes hj
      obtain ⟨e1, e2, e3, -⟩ := h.2.2.2.2.1
      obtain ⟨hsr, hl⟩ := e3 j hj
      obtain ⟨l, hl1, hl2, -⟩ := lt_ex hl
      have e1j : gI z 77 j = gI z 35 j := by rw [e1]
      have e2j : gI z 78 j = gI z 36 j := by rw [e2]
      have x1 := ix_n hj (show 4 ≤ 2 ^ 31 by omega)
      have x2 := nI_clamp (show j < 2 ^ 31 by omega)
      rcases hsr with hm | hm
      · exact same2 (-11) h (by simp only [fT_days, p1, r1, one_ne, if_false, x1, x2, hm, if_true]) (by simp only [fM_days, fM_lacksSort, p2, r2, one_ne, if_false, x1, x2, e1j, hm, m1_n0, obs, show ¬ (-11 : Int32) = 0 by decide])
      · have hmn := lt_ne hm (by omega)
        have hm1 := hmn.1
        have hm2 := hmn.2
        by_cases h2 : gI z 35 j = 2
        · obtain ⟨t, ht, et, ht40⟩ : ∃ t, t ≤ 10 ∧ mnI (nI l) 10 = nI t ∧ t ≤ l := by
            unfold mnI
            by_cases c : 10 < l
            · exact ⟨10, by omega, by rw [if_pos (show (10 : Int32) < nI l from nI_lt (a := 10) c (by omega))]; rfl, by omega⟩
            · exact ⟨l, by omega, by rw [if_neg (show ¬ (10 : Int32) < nI l from nI_nlt (a := 10) (by omega) (by omega))], by omega⟩
          have hV : ∀ d, (if fHouse_isPerson z (gI z (38 + j) d) = 0 then (-1 : Int32) else gI z (38 + j) d) = -1 ∨ lt (if fHouse_isPerson z (gI z (38 + j) d) = 0 then (-1 : Int32) else gI z (38 + j) d) (cl (gI z 1 0)) := by
            intro d
            by_cases hx : ∃ p, p < cl (gI z 1 0) ∧ gI z (38 + j) d = nI p
            · obtain ⟨p, hp, e⟩ := hx
              have h8 := RR_n8 h
              rw [e, (person_yes h hp).1, if_neg one_ne]
              exact Or.inr (lt_nI hp (by omega))
            · rw [(person_no h hx).1, if_pos rfl]
              exact Or.inl rfl
          have g38 : ∀ F, gI (wI z 6 F) (38 + j) = gI z (38 + j) := fun F => by rw [gI_wI', if_neg (by omega)]
          have cls : ∀ (e d n : Nat), d + e = t → e < n → fT_days_L66 (nI s) (nI j) (nI t) n (wI z 6 (dyS (fun d => if fHouse_isPerson z (gI z (38 + j) d) = 0 then -1 else gI z (38 + j) d) s (gI z 6) d)) (nI d) = some (nI t, wI z 6 (dyS (fun d => if fHouse_isPerson z (gI z (38 + j) d) = 0 then -1 else gI z (38 + j) d) s (gI z 6) t)) := by
            intro e
            induction e with
            | zero =>
              intro d n hi hn
              obtain ⟨n, rfl⟩ : ∃ m, n = m + 1 := ⟨n - 1, by omega⟩
              have hi : d = t := hi
              subst hi
              rw [fT_days_L66, if_pos (Int32.le_refl _)]
            | succ e ih =>
              intro d n hi hn
              obtain ⟨n, rfl⟩ : ∃ m, n = m + 1 := ⟨n - 1, by omega⟩
              have hd : d < 10 := by omega
              have hper : ∀ F x, fHouse_isPerson (wI z 6 F) x = fHouse_isPerson z x := fun F x => rfl
              have hseat : ∀ F v, fHouse_seat (wI z 6 F) (nI d) (nI s) v = some (wI z 6 (upd F (4 * d + s) v)) := by
                intro F v
                unfold fHouse_seat
                rw [(sIx hd hs).1, if_neg (ix_ok (show 4 * d + s < 40 by omega) (by omega)), nI_clamp (by omega), pI_wI]
              have hih := ih (d + 1) n (by omega) (by omega)
              rw [dyS] at hih
              rw [fT_days_L66, if_neg (nI_ge (by omega) (by omega)), if_neg (ix_ok hj (by omega)), if_neg (ix_ok (show d < 40 by omega) (by omega)), nI_clamp (show j < 2 ^ 31 by omega), nI_clamp (show d < 2 ^ 31 by omega), g38, hper]
              unfold fT_days_J111
              by_cases c : fHouse_isPerson z (gI z (38 + j) d) = 0
              · rw [if_pos c, hseat, obs, nI_s]
                rw [if_pos c] at hih
                exact hih
              · rw [if_neg c, hseat, obs, nI_s]
                rw [if_neg c] at hih
                exact hih
          have mdl : ∀ (y : MS), gI y 60 = gI z 6 → gJ y 79 = gJ z 79 → gI y 56 0 = gI z 56 0 → ∀ (e d n : Nat), d + e = t → e < n → fM_days_L56 (nI s) (nI j) (nI t) n (wI y 60 (dyS (fun d => if fHouse_isPerson z (gI z (38 + j) d) = 0 then -1 else gI z (38 + j) d) s (gI z 6) d)) (nI d) = some (nI t, wI y 60 (dyS (fun d => if fHouse_isPerson z (gI z (38 + j) d) = 0 then -1 else gI z (38 + j) d) s (gI z 6) t)) := by
            intro y y60 y79 y56 e
            induction e with
            | zero =>
              intro d n hi hn
              obtain ⟨n, rfl⟩ : ∃ m, n = m + 1 := ⟨n - 1, by omega⟩
              have hi : d = t := hi
              subst hi
              rw [fM_days_L56, if_pos (Int32.le_refl _)]
            | succ e ih =>
              intro d n hi hn
              obtain ⟨n, rfl⟩ : ∃ m, n = m + 1 := ⟨n - 1, by omega⟩
              have hd : d < 10 := by omega
              have hper : ∀ F x, fM_isPerson (wI y 60 F) x = fHouse_isPerson z x := by
                intro F x
                rw [← person_same h]
                show fM_in x 0 (gI y 56 0 - 1) = fM_in x 0 (gI z 56 0 - 1)
                rw [y56]
              have gj : ∀ F, (gJ (wI y 60 F) 79 (40 * j + d)).toInt32 = gI z (38 + j) d := by
                intro F
                show (gJ y 79 (40 * j + d)).toInt32 = _
                rw [y79, IT_at h hj (show d < 40 by omega), n32]
              have hih := ih (d + 1) n (by omega) (by omega)
              rw [dyS] at hih
              rw [fM_days_L56, if_neg (nI_ge (by omega) (by omega)), i4, if_neg (ix_ok (show 40 * j + d < 160 by omega) (by omega)), nI_clamp (show 40 * j + d < 2 ^ 31 by omega), gj, hper, (sIx hd hs).2, if_neg (ix_ok (show 4 * d + s < 40 by omega) (by omega)), nI_clamp (show 4 * d + s < 2 ^ 31 by omega), pI_wI, pI_wI, nI_s]
              by_cases c : fHouse_isPerson z (gI z (38 + j) d) = 0
              · rw [if_pos c]
                rw [if_pos c] at hih
                exact hih
              · rw [if_neg c, if_neg (ix_n (show 4 * d + s < 40 by omega) (by omega))]
                rw [if_neg c] at hih
                exact hih
          have c0 := cls t 0 LF (by omega) (by unfold LF; omega)
          rw [dyS, wI_self] at c0
          have m0 := mdl (wI z 6 (dyS (fun d => if fHouse_isPerson z (gI z (38 + j) d) = 0 then -1 else gI z (38 + j) d) s (gI z 6) t)) h.1.2.2.2.2.2.2.1 rfl rfl t 0 LF (by omega) (by unfold LF; omega)
          rw [dyS, wI_same (wI z 6 (dyS (fun d => if fHouse_isPerson z (gI z (38 + j) d) = 0 then -1 else gI z (38 + j) d) s (gI z 6) t)) 60 (gI z 6) h.1.2.2.2.2.2.2.1] at m0
          refine ⟨nI t, wI z 6 (dyS (fun d => if fHouse_isPerson z (gI z (38 + j) d) = 0 then -1 else gI z (38 + j) d) s (gI z 6) t), wI (wI z 6 (dyS (fun d => if fHouse_isPerson z (gI z (38 + j) d) = 0 then -1 else gI z (38 + j) d) s (gI z 6) t)) 60 (dyS (fun d => if fHouse_isPerson z (gI z (38 + j) d) = 0 then -1 else gI z (38 + j) d) s (gI z 6) t), ?_, ?_, ?_⟩
          · show fT_days z (nI s) (nI j) = _
            unfold fT_days
            rw [p1, r1, if_neg one_ne, if_neg one_ne, if_neg (ix_ok hj (by omega)), if_neg (ix_ok hj (by omega)), if_neg (ix_ok hj (by omega)), x2, if_neg hm1, if_pos h2, hl2, et]
            exact c0
          · show fM_days (wI z 6 (dyS (fun d => if fHouse_isPerson z (gI z (38 + j) d) = 0 then -1 else gI z (38 + j) d) s (gI z 6) t)) (nI s) (nI j) = _
            unfold fM_days fM_lacksSort
            have q77 : gI (wI z 6 (dyS (fun d => if fHouse_isPerson z (gI z (38 + j) d) = 0 then -1 else gI z (38 + j) d) s (gI z 6) t)) 77 j = 2 := e1j.trans h2
            have q78 : gI (wI z 6 (dyS (fun d => if fHouse_isPerson z (gI z (38 + j) d) = 0 then -1 else gI z (38 + j) d) s (gI z 6) t)) 78 j = nI l := e2j.trans hl2
            rw [p2, r2, if_neg one_ne, if_neg one_ne, if_neg (ix_ok hj (by omega)), if_neg (ix_ok hj (by omega)), x2, q77, q78, if_pos (show (0 : Int32) ≤ 2 by decide), if_pos rfl, obs, if_pos rfl]
            unfold mnI at et
            by_cases c : (10 : Int32) ≤ nI l
            · rw [if_pos c]
              have e10 : (10 : Int32) = nI t := by
                by_cases c2 : (10 : Int32) < nI l
                · rw [if_pos c2] at et; exact et
                · rw [if_neg c2] at et
                  rw [← et]
                  exact Int32.le_antisymm c (Int32.not_lt.mp c2)
              rw [e10, if_neg (ix_n hj (by omega))]
              exact m0
            · rw [if_neg c]
              have el : nI l = nI t := by
                rw [if_neg (fun c2 => c (Int32.le_of_lt c2))] at et
                exact et
              rw [el, if_neg (ix_n hj (by omega)), if_neg (ix_n hj (by omega))]
              exact m0
          · refine ⟨⟨HV_S h.1.1 (dyS_ok (fun i hi => RR_seat h hi) hV t), h.1.2.1, h.1.2.2.1, h.1.2.2.2.1, h.1.2.2.2.2.1, h.1.2.2.2.2.2.1, rfl, h.1.2.2.2.2.2.2.2⟩, h.2⟩
        · refine same2 (-13) h (by simp only [fT_days, p1, r1, one_ne, if_false, x1, x2, hm1, h2]) ?_
          rw [← e1j] at hm2 h2
          simp only [fM_days, fM_lacksSort, p2, r2, one_ne, if_false, x1, x2, hm2, h2, if_true, obs, show ¬ (-13 : Int32) = 0 by decide]
    · exact same2 (-1) h (by simp only [fT_days, p1, one_ne, if_false, (post_no h1).2.2.1, if_true]) (by simp only [fM_days, p2, one_ne, if_false, (post_no h1).2.2.2, if_true])
  · exact same2 (-1) h (by simp only [fT_days, (post_no h0).1, if_true]) (by simp only [fM_days, (post_no h0).2.1, if_true])
theorem and255 (x : Int32) : lt (x &&& 255) 256 := by
  obtain ⟨n, -, rfl⟩ := wb_of32 x
  rw [show (255 : Int32) = nI (2 ^ 8 - 1) from rfl, fa_mask]
  exact lt_nI (Nat.mod_lt _ (by decide)) (by omega)
theorem by8 (x : Int64) {i : Nat} (hi : i < 8) : (jush x (8 * nI i)).toInt32 &&& 255 = ((jshr x (8 * nI i)) &&& 255).toInt32 := by
  rw [show (8 * nI i : Int32) = nI (8 * i) by rw [show (8 : Int32) = nI 8 from rfl, pk_mul]]
  have hk : 8 * i < 64 := by omega
  have b1 : (jush x (nI (8 * i))).toBitVec = x.toBitVec >>> (8 * i) := by
    unfold jush
    rw [wb_cu _ hk]
    apply BitVec.eq_of_toNat_eq
    show (x.toUInt64 >>> UInt64.ofNat (8 * i)).toNat = _
    rw [UInt64.toNat_shiftRight, show (UInt64.ofNat (8 * i)).toNat = 8 * i from by show (BitVec.ofNat 64 _).toNat = _; rw [BitVec.toNat_ofNat, Nat.mod_eq_of_lt (by omega)], Nat.mod_eq_of_lt hk, BitVec.toNat_ushiftRight]
    rfl
  have b2 : (jshr x (nI (8 * i))).toBitVec = x.toBitVec.sshiftRight (8 * i) := by
    unfold jshr
    rw [wb_c _ hk, Int64.toBitVec_shiftRight]
    show x.toBitVec.sshiftRight ((BitVec.ofNat 64 (8 * i)).smod 64).toNat = _
    rw [wb_sm _ hk, BitVec.toNat_ofNat, Nat.mod_eq_of_lt (by omega)]
  apply b_ext
  intro j hj
  rw [b_and, b_255]
  unfold bt
  rw [Int64.toBitVec_toInt32, Int64.toBitVec_toInt32, Int64.toBitVec_and, b1, b2, BitVec.getLsbD_signExtend, BitVec.getLsbD_signExtend, BitVec.getLsbD_and, BitVec.getLsbD_ushiftRight, BitVec.getLsbD_sshiftRight]
  have c255 : ∀ j, j < 32 → (Int64.toBitVec 255).getLsbD j = decide (j < 8) := by decide +kernel
  rw [c255 j hj]
  by_cases h8 : j < 8
  · simp [hj, h8, show j < 64 by omega, show 8 * i + j < 64 by omega]
  · simp [h8, hj, show j < 64 by omega]
theorem o_feed (z : MS) (h : RR z z) (a0 : Int64) (a1 : Int32) : O2 (fT_feed · a0 a1) (fM_feed · a0 a1) z := by
  obtain ⟨e1, e2, e3, e4⟩ := h.2.2.1
  obtain ⟨l, hl, el, -⟩ := lt_ex e3
  by_cases h1 : ∃ d, 0 < d ∧ d < 9 ∧ a1 = nI d
  · obtain ⟨n, hn0, hn, rfl⟩ := h1
    have c1 : ¬ nI n < 1 := nI_nlt (b := 1) (by omega) (by omega)
    have c2 : nI n ≤ 8 := nI_le (b := 8) (by omega) (by omega)
    have c3 : fM_in (nI n) 1 8 = 1 := by
      unfold fM_in
      rw [if_neg c1, if_neg (show ¬ (8 : Int32) < nI n from nI_nlt (a := 8) (by omega) (by omega))]
    by_cases hf : l + n ≤ 200
    · have c4 : nI l + nI n ≤ 200 := by rw [nI_add]; exact nI_le (b := 200) hf (by omega)
      have cls : ∀ (e i f : Nat) (F : Nat → Int32), i + e = n → e < f → (∀ j, j < 200 → lt (F j) 256) → ∃ G, (∀ j, j < 200 → lt (G j) 256) ∧ fTape_add_L3 a0 (nI n) f (pI (wI z 9 F) 8 2 (nI (l + i))) (nI i) = some (nI (l + n), pI (wI z 9 G) 8 2 (nI (l + n))) ∧ ∀ y, fM_feed_L30 a0 (nI n) f (pI (wI y 65 F) 56 13 (nI (l + i))) (nI i) = some (nI (l + n), pI (wI y 65 G) 56 13 (nI (l + n))) := by
        intro e
        induction e with
        | zero =>
          intro i f F hi hf hF
          obtain ⟨f, rfl⟩ : ∃ m, f = m + 1 := ⟨f - 1, by omega⟩
          have hi : i = n := hi
          subst hi
          refine ⟨F, hF, ?_, ?_⟩
          · rw [fTape_add_L3, if_pos (Int32.le_refl _)]
            rfl
          · intro y
            rw [fM_feed_L30, if_pos (Int32.le_refl _)]
            rfl
        | succ e ih =>
          intro i f F hi hf hF
          obtain ⟨f, rfl⟩ : ∃ m, f = m + 1 := ⟨f - 1, by omega⟩
          have hv := and255 (jush a0 (8 * nI i)).toInt32
          obtain ⟨G, hG, r1, r2⟩ := ih (i + 1) f (upd F (l + i) ((jush a0 (8 * nI i)).toInt32 &&& 255)) (by omega) (by omega) (lt_up (b := fun _ => 256) hF hv)
          refine ⟨G, hG, ?_, ?_⟩
          · have mk : ∀ v x, pI (pI (pI (wI z 9 F) 8 2 (nI (l + i))) 9 (l + i) v) 8 2 x = pI (wI z 9 (upd F (l + i) v)) 8 2 x := by
              intro v x
              unfold pI wI gI
              refine Prod.ext (funext fun b => ?_) rfl
              by_cases h1 : b = 9
              · subst h1; rfl
              · by_cases h2 : b = 8
                · subst h2
                  show upd (upd (z.1 8) 2 _) 2 _ = upd (z.1 8) 2 _
                  exact fa_upd_twice _ _ _ _
                · simp only [if_neg h1, if_neg h2]
            have g1 : ∀ F x, gI (pI (wI z 9 F) 8 2 x) 8 2 = x := fun F x => rfl
            have g2 : ∀ F x v, gI (pI (pI (wI z 9 F) 8 2 x) 9 (l + i) v) 8 2 = x := fun F x v => rfl
            rw [fTape_add_L3, if_neg (nI_ge (by omega) (by omega)), g1, if_neg (ix_ok (show l + i < 200 by omega) (by omega)), nI_clamp (show l + i < 2 ^ 31 by omega), g2, nI_s, nI_s, mk]
            exact r1
          · intro y
            have mk : ∀ v x, pI (pI (pI (wI y 65 F) 56 13 (nI (l + i))) 65 (l + i) v) 56 13 x = pI (wI y 65 (upd F (l + i) v)) 56 13 x := by
              intro v x
              unfold pI wI gI
              refine Prod.ext (funext fun b => ?_) rfl
              by_cases h1 : b = 65
              · subst h1; rfl
              · by_cases h2 : b = 56
                · subst h2
                  show upd (upd (y.1 56) 13 _) 13 _ = upd (y.1 56) 13 _
                  exact fa_upd_twice _ _ _ _
                · simp only [if_neg h1, if_neg h2]
            have g1 : ∀ F x, gI (pI (wI y 65 F) 56 13 x) 56 13 = x := fun F x => rfl
            have g2 : ∀ F x v, gI (pI (pI (wI y 65 F) 56 13 x) 65 (l + i) v) 56 13 = x := fun F x v => rfl
            rw [fM_feed_L30, if_neg (nI_ge (by omega) (by omega)), g1, if_neg (ix_ok (show l + i < 200 by omega) (by omega)), nI_clamp (show l + i < 2 ^ 31 by omega), g2, nI_s, nI_s, mk, ← by8 a0 (show i < 8 by omega)]
            exact r2 y
      obtain ⟨G, hG, r1, r2⟩ := cls n 0 LF (gI z 9) (by omega) (by unfold LF; omega) e4
      rw [wI_self, show l + 0 = l from rfl, pI_same z 8 2 (nI l) el] at r1
      have r2 := r2 (pI (wI z 9 G) 8 2 (nI (l + n)))
      rw [wI_same (pI (wI z 9 G) 8 2 (nI (l + n))) 65 (gI z 9) e1, show l + 0 = l from rfl, pI_same (pI (wI z 9 G) 8 2 (nI (l + n))) 56 13 (nI l) (e2.trans el)] at r2
      refine ⟨nI (l + n), pI (wI z 9 G) 8 2 (nI (l + n)), pI (wI (pI (wI z 9 G) 8 2 (nI (l + n))) 65 G) 56 13 (nI (l + n)), ?_, ?_, ?_⟩
      · show fT_feed z a0 (nI n) = _
        unfold fT_feed fTape_add
        rw [if_neg c1, if_pos c2, el, if_pos c4, ob2_eta]
        exact r1
      · show fM_feed (pI (wI z 9 G) 8 2 (nI (l + n))) a0 (nI n) = _
        unfold fM_feed
        rw [c3, if_neg one_ne, show gI (pI (wI z 9 G) 8 2 (nI (l + n))) 56 13 = nI l from e2.trans el, if_pos c4]
        exact r2
      · exact ⟨h.1, h.2.1, ⟨rfl, rfl, lt_nI (by omega) (by omega), hG⟩, h.2.2.2⟩
    · have c4 : ¬ nI l + nI n ≤ 200 := by rw [nI_add]; exact nI_ge (a := 200) (by omega) (by omega)
      exact same2 (-2) h (by show fT_feed z a0 (nI n) = _; unfold fT_feed; rw [if_neg c1, if_pos c2, el, if_neg c4]) (by show fM_feed z a0 (nI n) = _; unfold fM_feed; rw [c3, if_neg one_ne, e2, el, if_neg c4])
  · have hb : a1 < 1 ∨ (¬ a1 < 1 ∧ ¬ a1 ≤ 8 ∧ (8 : Int32) < a1) := by
      rcases ag a1 8 (by omega) with ⟨h2, -⟩ | ⟨h2, h3, h4, h5, h6⟩ | ⟨i, hi, rfl⟩
      · exact Or.inl (Int32.lt_trans h2 (by decide))
      · exact Or.inr ⟨fun h7 => h5 (Int32.le_of_lt (Int32.lt_trans h7 (by decide))), h5, h4⟩
      · have : i = 0 := Classical.byContradiction fun e => h1 ⟨i, by omega, by omega, rfl⟩
        subst this
        exact Or.inl (by decide)
    rcases hb with hb | ⟨hb, hb2, hb3⟩
    · exact same2 (-1) h (by show fT_feed z a0 a1 = _; unfold fT_feed; rw [if_pos hb]) (by show fM_feed z a0 a1 = _; unfold fM_feed; rw [in_lo hb, if_pos rfl])
    · exact same2 (-1) h (by show fT_feed z a0 a1 = _; unfold fT_feed; rw [if_neg hb, if_neg hb2]) (by show fM_feed z a0 a1 = _; unfold fM_feed; rw [in_hi hb3, if_pos rfl])
