theorem wI_same (z : MS) (k : Nat) (F : Nat → Int32) (h : gI z k = F) : wI z k F = z := by
  unfold wI
  refine Prod.ext (funext fun a => ?_) rfl
  show (if a = k then F else z.1 a) = z.1 a
  by_cases e : a = k
  · rw [if_pos e, e]; exact h.symm
  · rw [if_neg e]
theorem upd_same (f : Nat → Int32) (i : Nat) (v : Int32) (h : f i = v) : upd f i v = f := by
  funext j
  rw [upd_a]
  by_cases e : j = i
  · rw [if_pos e, e, h]
  · rw [if_neg e]
theorem pI_same (z : MS) (k i : Nat) (v : Int32) (h : gI z k i = v) : pI z k i v = z := wI_same z k _ (upd_same _ _ _ h).symm
theorem gI_wIk (z : MS) (k : Nat) (F : Nat → Int32) : gI (wI z k F) k = F := by
  show (if k = k then F else _) = F
  rw [if_pos rfl]
theorem pI_wI (z : MS) (k i : Nat) (v : Int32) (F : Nat → Int32) : pI (wI z k F) k i v = wI z k (upd F i v) := by
  unfold pI
  rw [gI_wIk, wI_wI]
theorem b_m1' {i : Nat} (hi : i < 32) : bt (-1) i = true := b_m1 i hi
/-- a bit that is not there, taken away -/
theorem andN {x : Int32} {q : Nat} (hx : lt x 1024) (hq : q < 10) (h : kbt x q = false) : x &&& (((1 : Int32) <<< (nI q &&& 31)) ^^^ (-1)) = x := by
  obtain ⟨n, hn, rfl, hc⟩ := lt_ex hx
  unfold kbt at h
  rw [hc] at h
  rw [one_sh q hq]
  apply b_ext
  intro i hi
  rw [b_and, b_xor, b_m1' hi, bt_nI _ hi, bt_nI _ hi, Nat.testBit_two_pow]
  by_cases e : q = i
  · rw [← e, h, Bool.false_and]
  · rw [decide_eq_false e]
    cases n.testBit i <;> rfl
theorem kin_0 {n u : Int32} {K A T W S O F : Nat → Int32} (h : HV n u K A T W S O F) {p : Nat} (hp : p < 8) (hn : cl n ≤ p) : K p = 0 := by
  obtain ⟨a, ha, ea, ec⟩ := lt_ex (h.2.2.1 p hp)
  rw [ea]
  have : a = 0 := by
    apply Nat.eq_of_testBit_eq
    intro i
    rw [Nat.zero_testBit]
    by_cases hi : i < 8
    · cases e : a.testBit i with
      | false => rfl
      | true =>
        have := (h.2.2.2.2.1 p i hp hi (by unfold kbt; rw [ec]; exact e)).1
        omega
    · exact Nat.testBit_lt_two_pow (Nat.lt_of_lt_of_le (show a < 2 ^ 8 by omega) (Nat.pow_le_pow_right (by decide) (by omega)))
  rw [this]
  rfl
/-- the model's trust after i turns of its loop for person n -/
def PF (n i : Nat) (F0 F : Nat → Int32) : Prop := (∀ l, l < i → F (8 * n + l) = 0 ∧ F (8 * l + n) = 0) ∧ ∀ p q, p < 8 → q < 8 → p ≠ n → q ≠ n → F (8 * p + q) = F0 (8 * p + q)
theorem person_loop (m : MS) {n : Nat} (hn : n < 8) (hp : gI m 56 0 = nI n) (hK : ∀ l, l < 8 → lt (gI m 57 l) 256 ∧ kbt (gI m 57 l) n = false) (hK0 : gI m 57 n = 0) (hA0 : gI m 58 n = 0) :
    ∃ F, PF n 8 (gI m 59) F ∧ fM_person_L14 LF m 0 = some (nI n, pI (wI m 59 F) 56 0 (nI (n + 1))) := by
  have key : ∀ (d i : Nat) (F : Nat → Int32) (k : Nat), i + d = 8 → d < k → PF n i (gI m 59) F → ∃ G, PF n 8 (gI m 59) G ∧ fM_person_L14 k (wI m 59 F) (nI i) = some (nI n, pI (wI m 59 G) 56 0 (nI (n + 1))) := by
    intro d
    induction d with
    | zero =>
      intro i F k hi hk hF
      obtain ⟨k, rfl⟩ : ∃ q, k = q + 1 := ⟨k - 1, by omega⟩
      have hi : i = 8 := hi
      subst hi
      refine ⟨F, hF, ?_⟩
      have g0 : gI (wI m 59 F) 56 0 = nI n := hp
      have s1 : pI (wI m 59 F) 57 n 0 = wI m 59 F := pI_same _ _ _ _ hK0
      have s2 : pI (wI m 59 F) 58 n 0 = wI m 59 F := pI_same _ _ _ _ hA0
      unfold fM_person_L14
      rw [if_pos (show (8 : Int32) ≤ nI 8 from Int32.le_refl _)]
      simp only [g0, ix_n hn (show 8 ≤ 2 ^ 31 by omega), ix_f hn, nI_clamp (show n < 2 ^ 31 by omega), if_false, s1, s2]
      show some (nI n + 1 - 1, pI _ 56 0 (nI n + 1)) = _
      rw [show nI n + 1 = nI (n + 1) from nI_add n 1, show nI (n + 1) - 1 = nI n from pk_sub (a := n + 1) (b := 1) (by omega)]
    | succ d ih =>
      intro i F k hi hk hF
      obtain ⟨k, rfl⟩ : ∃ q, k = q + 1 := ⟨k - 1, by omega⟩
      have hi8 : i < 8 := by omega
      obtain ⟨G, hG, e⟩ := ih (i + 1) (upd (upd F (8 * n + i) 0) (8 * i + n) 0) k (by omega) (by omega) (by
        refine ⟨fun l hl => ?_, fun p q hp hq h1 h2 => ?_⟩
        · simp only [upd_a]
          by_cases c : l = i
          · subst c
            rw [if_pos rfl]
            refine ⟨?_, by rw [if_pos rfl]⟩
            by_cases c : 8 * n + l = 8 * l + n
            · rw [if_pos c]
            · rw [if_neg c]
          · obtain ⟨b1, b2⟩ := hF.1 l (by omega)
            rw [b1, b2]
            refine ⟨?_, ?_⟩
            · by_cases c : 8 * n + l = 8 * i + n
              · rw [if_pos c]
              · rw [if_neg c]
                by_cases c : 8 * n + l = 8 * n + i
                · rw [if_pos c]
                · rw [if_neg c]
            · by_cases c : 8 * l + n = 8 * i + n
              · rw [if_pos c]
              · rw [if_neg c]
                by_cases c : 8 * l + n = 8 * n + i
                · rw [if_pos c]
                · rw [if_neg c]
        · simp only [upd_a]
          rw [if_neg (by omega), if_neg (by omega)]
          exact hF.2 p q hp hq h1 h2)
      refine ⟨G, hG, ?_⟩
      rw [← e]
      have g0 : ∀ F, gI (wI m 59 F) 56 0 = nI n := fun _ => hp
      have g1 : ∀ F, gI (wI m 59 F) 57 i = gI m 57 i := fun _ => rfl
      have t1 : (8 * nI n + nI i : Int32) = nI (8 * n + i) := by rw [show (8 : Int32) = nI 8 from rfl, pk_mul, nI_add]
      have t2 : (8 * nI i + nI n : Int32) = nI (8 * i + n) := by rw [show (8 : Int32) = nI 8 from rfl, pk_mul, nI_add]
      have c1 : 8 * n + i < 64 := by omega
      have c2 : 8 * i + n < 64 := by omega
      have s1 : ∀ F, pI (wI m 59 F) 57 i (gI m 57 i) = wI m 59 F := fun F => pI_same _ _ _ _ rfl
      have hk := hK i hi8
      have an := andN (x := gI m 57 i) (q := n) ⟨hk.1.1, by have := hk.1.2; omega⟩ (by omega) hk.2
      have hstep : fM_person_L14 (k + 1) (wI m 59 F) (nI i) = fM_person_L14 k (wI m 59 (upd (upd F (8 * n + i) 0) (8 * i + n) 0)) (nI i + 1) := by
        rw [fM_person_L14]
        rw [if_neg (show ¬ (8 : Int32) ≤ nI i from nI_ge (b := 8) hi8 (by omega))]
        simp only [g0, pI_wI, g1, t1, t2, ix_n c1 (show 64 ≤ 2 ^ 31 by omega), ix_f c1, ix_n c2 (show 64 ≤ 2 ^ 31 by omega), ix_f c2, nI_clamp (show 8 * n + i < 2 ^ 31 by omega), nI_clamp (show 8 * i + n < 2 ^ 31 by omega), ix_n hi8 (show 8 ≤ 2 ^ 31 by omega), ix_f hi8, nI_clamp (show i < 2 ^ 31 by omega), if_false, an, s1]
      rw [hstep, show nI i + 1 = nI (i + 1) from nI_add i 1]
  obtain ⟨G, hG, e⟩ := key 8 0 (gI m 59) LF rfl (by decide) ⟨fun l hl => absurd hl (by omega), fun p q _ _ _ _ => rfl⟩
  refine ⟨G, hG, ?_⟩
  rw [wI_self] at e
  exact e
theorem o_person (z : MS) (h : RR z z) : O2 fT_person fM_person z := by
  obtain ⟨n, hn, e1, e2, e3⟩ := RR_n h
  by_cases h8 : n = 8
  · subst h8
    refine same2 (-2) h ?_ ?_
    · unfold fT_person
      rw [e1, if_pos (show (8 : Int32) ≤ nI 8 from Int32.le_refl _)]
    · unfold fM_person
      rw [e2, if_pos (show nI 8 = 8 from rfl)]
  · have hn8 : n < 8 := by omega
    have hv := h.1.1
    obtain ⟨G, hG, e⟩ := person_loop (pI z 1 0 (nI (n + 1))) hn8 e2 (fun l hl => by
      show lt (gI z 57 l) 256 ∧ kbt (gI z 57 l) n = false
      rw [h.1.2.2.2.1]
      refine ⟨hv.2.2.1 l hl, ?_⟩
      cases e : kbt (gI z 2 l) n with
      | false => rfl
      | true =>
        have := (hv.2.2.2.2.1 l n hl hn8 e).2.1
        omega) (by
      show gI z 57 n = 0
      rw [h.1.2.2.2.1]
      exact kin_0 hv hn8 (by omega)) (by
      show gI z 58 n = 0
      rw [h.1.2.2.2.2.1]
      exact hv.2.2.2.2.2.2.1 n hn8 (by omega))
    have hG : PF n 8 (gI z 59) G := hG
    refine ⟨nI n, pI z 1 0 (nI (n + 1)), pI (wI (pI z 1 0 (nI (n + 1))) 59 G) 56 0 (nI (n + 1)), ?_, ?_, ?_⟩
    rotate_left
    · show fM_person _ = _
      unfold fM_person
      rw [show gI (pI z 1 0 (nI (n + 1))) 56 0 = nI n from e2, if_neg (fun e => by
        have := (nI_eq (b := 8) (show n < 2 ^ 31 by omega) (by omega)).mp e
        omega)]
      exact e
    · have hc : cl (nI (n + 1)) = n + 1 := cl_nI (by omega)
      refine ⟨⟨⟨lt_nI (by omega) (by omega), hv.2.1, hv.2.2.1, hv.2.2.2.1, ?_, hv.2.2.2.2.2.1, ?_, ?_, hv.2.2.2.2.2.2.2.2.1, ?_, hv.2.2.2.2.2.2.2.2.2.2⟩, rfl, h.1.2.2⟩, h.2⟩
      · intro p q hp hq hb
        obtain ⟨b1, b2, b3⟩ := hv.2.2.2.2.1 p q hp hq hb
        show p < cl (nI (n + 1)) ∧ q < cl (nI (n + 1)) ∧ p ≠ q
        rw [hc]
        exact ⟨by omega, by omega, b3⟩
      · intro p hp hq
        have hq : cl (nI (n + 1)) ≤ p := hq
        rw [hc] at hq
        exact hv.2.2.2.2.2.2.1 p hp (by omega)
      · intro p q hpq hq
        obtain ⟨b1, b2, b3, b4⟩ := hv.2.2.2.2.2.2.2.1 p q hpq hq
        show lt (gI z 4 (8 * p + q)) 10 ∧ G (8 * p + q) = gI z 4 (8 * p + q) ∧ G (8 * q + p) = gI z 4 (8 * p + q) ∧ (cl (nI (n + 1)) ≤ q → gI z 4 (8 * p + q) = 0)
        rw [hc]
        refine ⟨b1, ?_, ?_, fun hle => b4 (by omega)⟩
        · by_cases c1 : p = n
          · rw [b4 (by omega), c1]; exact (hG.1 q hq).1
          · by_cases c2 : q = n
            · rw [b4 (by omega), c2]; exact (hG.1 p (by omega)).2
            · rw [hG.2 p q (by omega) hq c1 c2, b2]
        · by_cases c1 : p = n
          · rw [b4 (by omega), c1]; exact (hG.1 q hq).2
          · by_cases c2 : q = n
            · rw [b4 (by omega), c2]; exact (hG.1 p (by omega)).1
            · rw [hG.2 q p hq (by omega) c2 c1, b3]
      · intro i hi
        rcases RR_seat h hi with b | b
        · exact Or.inl b
        · refine Or.inr ⟨b.1, ?_⟩
          show cl (gI z 6 i) < cl (nI (n + 1))
          have := b.2
          rw [hc]
          omega
    · unfold fT_person fHouse_addPerson
      rw [e1, if_neg (show ¬ (8 : Int32) ≤ nI n from nI_ge (b := 8) hn8 (by omega))]
      show some (nI n + 1 - 1, pI z 1 0 (nI n + 1)) = _
      rw [show nI n + 1 = nI (n + 1) from nI_add n 1, show nI (n + 1) - 1 = nI n from pk_sub (a := n + 1) (b := 1) (by omega)]
