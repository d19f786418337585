theorem dh_id {z : MS} {n : Nat} (h : gI z 10 0 = nI n) (a : Nat) (ft : Int32) : pI (pI z 8 3 (nI a)) 8 4 ft = dh z a ft n (gI z 11) (gI z 12) (gI z 13) (gI z 14) := by
  unfold dh pI wI gI
  refine Prod.ext (funext fun x => ?_) rfl
  by_cases h14 : x = 14
  · subst h14; rfl
  by_cases h13 : x = 13
  · subst h13; rfl
  by_cases h12 : x = 12
  · subst h12; rfl
  by_cases h11 : x = 11
  · subst h11; rfl
  by_cases h10 : x = 10
  · subst h10
    show z.1 10 = upd (z.1 10) 0 (nI n)
    exact (upd_same _ _ _ h).symm
  by_cases h8 : x = 8
  · subst h8; rfl
  simp only [if_neg h14, if_neg h13, if_neg h12, if_neg h11, if_neg h10, if_neg h8]
theorem mh_id (z : MS) : z = mh z (gI z 56) (gJ z 56) (gI z 66) (gI z 67) (gI z 68) (gI z 69) := by
  unfold mh wI wJ gI gJ
  refine Prod.ext (funext fun x => ?_) (funext fun x => ?_)
  · by_cases h69 : x = 69
    · subst h69; rfl
    by_cases h68 : x = 68
    · subst h68; rfl
    by_cases h67 : x = 67
    · subst h67; rfl
    by_cases h66 : x = 66
    · subst h66; rfl
    by_cases h56 : x = 56
    · subst h56; rfl
    simp only [if_neg h69, if_neg h68, if_neg h67, if_neg h66, if_neg h56]
  · by_cases h56 : x = 56
    · subst h56; rfl
    simp only [if_neg h56]
theorem emp_c (z : MS) : ∃ zE, fHouse10_emptyBut z = some zE ∧ (∀ k, k < 10 ∨ 16 < k → gI zE k = gI z k) ∧ (∀ k, gJ zE k = gJ z k) ∧ gI zE 10 0 = 0 ∧ gI zE 10 1 = 0 ∧ (∀ i, i < 8 → gI zE 11 i = 0) ∧ (∀ i, i < 8 → gI zE 12 i = 0) ∧ (∀ i, i < 64 → gI zE 13 i = 0) ∧ (∀ i, i < 8 → gI zE 14 i = gI z 5 i) ∧ (∀ i, i < 40 → gI zE 15 i = -1) ∧ (∀ i, i < 10 → gI zE 16 i = 0) := by
  refine ⟨_, rfl, ?_, fun k => rfl, rfl, rfl, fun i hi => ?_, fun i hi => ?_, fun i hi => ?_, fun i hi => ?_, fun i hi => ?_, fun i hi => ?_⟩
  · intro k hk
    unfold fI cI pI
    rw [gI_wI', if_neg (by omega), gI_wI', if_neg (by omega), gI_wI', if_neg (by omega), gI_wI', if_neg (by omega), gI_wI', if_neg (by omega), gI_wI', if_neg (by omega), gI_wI', if_neg (by omega), gI_wI', if_neg (by omega)]
  · show (if i < 8 then (0 : Int32) else _) = 0
    rw [if_pos hi]
  · show (if i < 8 then (0 : Int32) else _) = 0
    rw [if_pos hi]
  · show (if i < 64 then (0 : Int32) else _) = 0
    rw [if_pos hi]
  · exact cpy_in (f := gI z 5) (g := gI z 14) hi
  · show (if i < 40 then (-1 : Int32) else _) = -1
    rw [if_pos hi]
  · show (if i < 10 then (0 : Int32) else _) = 0
    rw [if_pos hi]
def mx (n : Nat) (f g : Nat → Int32) (i : Nat) : Int32 := if i < n then f i else g i
theorem cpy_mx (n : Nat) (f g : Nat → Int32) (i : Nat) : va_cpy f g 0 0 n i = mx n f g i := by
  unfold mx
  by_cases h : i < n
  · rw [if_pos h, cpy_in h]
  · rw [if_neg h, cpy_out (by omega)]
theorem bec_c (z : MS) : ∃ zB, fHouse_become_10 z = some zB ∧ (∀ k, k < 1 ∨ 7 < k → gI zB k = gI z k) ∧ (∀ k, gJ zB k = gJ z k) ∧ gI zB 1 0 = gI z 10 0 ∧ gI zB 1 1 = gI z 10 1 ∧ (∀ i, gI zB 2 i = mx 8 (gI z 11) (gI z 2) i) ∧ (∀ i, gI zB 3 i = mx 8 (gI z 12) (gI z 3) i) ∧ (∀ i, gI zB 4 i = mx 64 (gI z 13) (gI z 4) i) ∧ (∀ i, gI zB 5 i = mx 8 (gI z 14) (gI z 5) i) ∧ (∀ i, gI zB 6 i = mx 40 (gI z 15) (gI z 6) i) ∧ (∀ i, gI zB 7 i = mx 10 (gI z 16) (gI z 7) i) := by
  refine ⟨_, rfl, ?_, fun k => rfl, rfl, rfl, fun i => ?_, fun i => ?_, fun i => ?_, fun i => ?_, fun i => ?_, fun i => ?_⟩
  · intro k hk
    unfold cI pI
    rw [gI_wI', if_neg (by omega), gI_wI', if_neg (by omega), gI_wI', if_neg (by omega), gI_wI', if_neg (by omega), gI_wI', if_neg (by omega), gI_wI', if_neg (by omega), gI_wI', if_neg (by omega), gI_wI', if_neg (by omega)]
  · exact cpy_mx 8 (gI z 11) (gI z 2) i
  · exact cpy_mx 8 (gI z 12) (gI z 3) i
  · exact cpy_mx 64 (gI z 13) (gI z 4) i
  · exact cpy_mx 8 (gI z 14) (gI z 5) i
  · exact cpy_mx 40 (gI z 15) (gI z 6) i
  · exact cpy_mx 10 (gI z 16) (gI z 7) i
theorem tell_loop {z : MS} {B : Nat → Int32} {l : Nat} (hz : tpC z B l) : ∀ (e a i f n : Nat) (K A T G K' A' T' G' : Nat → Int32), l - a < e → e + 2 < f → skB B l a = a → a ≤ l → i ≤ a → DR n K A T G K' A' T' G' →
    (∃ e2 ft n2 K2 A2 T2 G2, ft < 1000 ∧ fTape_tell_L27 f (dh z a (-1) n K A T G) (nI i) = some (nI ft, pI (dh z e2 (nI ft) n2 K2 A2 T2 G2) 8 2 0) ∧ ∀ g y X W, e + 2 < g → MG B l a n y X W → ∃ X2 W2 K3 A3 T3 G3, fM_house_L80 g (mh y X W K' A' T' G') = fM_house_J101 (mh y X2 W2 K3 A3 T3 G3) ∧ MB ft X X2) ∨
    (∃ b n2 K2 A2 T2 G2 K3 A3 T3 G3, DR n2 K2 A2 T2 G2 K3 A3 T3 G3 ∧ fTape_tell_L27 f (dh z a (-1) n K A T G) (nI i) = Option.bind (fHouse_become_10 (dh z b (-1) n2 K2 A2 T2 G2)) (fun zc78 => some (gI (pI zc78 8 2 0) 8 4, pI zc78 8 2 0)) ∧ ∀ g y X W, e + 2 < g → MG B l a n y X W → ∃ X2 W2, fM_house_L80 g (mh y X W K' A' T' G') = fM_house_J101 (mh y X2 W2 K3 A3 T3 G3) ∧ X2 19 = 1 ∧ X2 20 = nI n2 ∧ kpX X X2) := by
  have hl := hz.2.2.1
  intro e
  induction e with
  | zero => intro a i f n K A T G K' A' T' G' h; omega
  | succ e ih =>
    intro a i f n K A T G K' A' T' G' he hf hsk hal hia hd
    obtain ⟨f, rfl⟩ : ∃ k, f = k + 2 := ⟨f - 2, by omega⟩
    have g84 : ∀ e ft n K A T G, gI (dh z e ft n K A T G) 8 4 = ft := fun _ _ _ _ _ _ _ => rfl
    have g82 : ∀ e ft n K A T G, gI (dh z e ft n K A T G) 8 2 = nI l := fun _ _ _ _ _ _ _ => hz.2.1
    have g83 : ∀ e ft n K A T G, gI (dh z e ft n K A T G) 8 3 = nI e := fun _ _ _ _ _ _ _ => rfl
    by_cases c : a < l
    · have hC : fTape_tell_L27 (f + 2) (dh z a (-1) n K A T G) (nI i) = Option.bind (fTape_readStatement (dh z a (-1) n K A T G)) (fun zc53 => Option.bind (fTape_skipBlanks zc53) (fun zc57 => fTape_tell_L27 (f + 1) zc57 (nI i + 1))) := by
        rw [fTape_tell_L27, if_neg (show ¬ (200 : Int32) ≤ nI i from nI_ge (b := 200) (by omega) (by omega)), g84, if_neg m1_nn, g82, g83, if_neg (nI_ge c (by omega))]
      have hM : ∀ g y X W, MG B l a n y X W → fM_house_L80 (g + 2) (mh y X W K' A' T' G') = Option.bind (fM_wantClause (mh y X W K' A' T' G')) (fun zc95 => fM_house_L80 (g + 1) zc95) := by
        intro g y X W hm
        have h14 : ¬ X 14 = 0 := by
          rw [hm.2.2.1.1]
          refine nI_ne (b := 0) ?_ (by unfold sN; repeat' (first | split | omega)) (by omega)
          unfold sN
          rw [if_pos c]
          split
          · omega
          · split <;> omega
        rw [fM_house_L80, mh_gX, hm.2.2.2.2.1, if_neg one_ne, if_neg h14]
      rcases stmt_s hz c hd with ⟨e2, ft, n2, K2, A2, T2, G2, h1, h2, h3, h4⟩ | ⟨b, n2, K2, A2, T2, G2, K3, A3, T3, G3, h1, h2, h3, h4, h5⟩
      · refine Or.inl ⟨skB B l e2, ft, n2, K2, A2, T2, G2, h2, ?_, ?_⟩
        · have h66 : fTape_tell_J66 (dh z (skB B l e2) (nI ft) n2 K2 A2 T2 G2) = some (nI ft, pI (dh z (skB B l e2) (nI ft) n2 K2 A2 T2 G2) 8 2 0) := by
            unfold fTape_tell_J66
            rw [g84, if_pos (nn_le h2)]
            rfl
          rw [hC, h3, obs, skipB hz (show e2 < 1000 by omega), obs, fTape_tell_L27, h66, g84, if_pos (nn_le h2)]
          split <;> rfl
        · intro g y X W hg hm
          obtain ⟨g, rfl⟩ : ∃ k, g = k + 2 := ⟨g - 2, by omega⟩
          obtain ⟨X2, W2, K3, A3, T3, G3, q1, q2⟩ := h4 y X W hm
          refine ⟨X2, W2, K3, A3, T3, G3, ?_, q2⟩
          rw [hM g y X W hm, q1, obs, fM_house_L80, mh_gX, q2.1, if_pos rfl]
      · have t1 : skB B l b ≤ l := rnT_le _ _ _ h2
        have u1 : b ≤ skB B l b := rnT_ge' _ _ _
        have hC2 : fTape_tell_L27 (f + 2) (dh z a (-1) n K A T G) (nI i) = fTape_tell_L27 (f + 1) (dh z (skB B l b) (-1) n2 K2 A2 T2 G2) (nI (i + 1)) := by
          rw [hC, h4, obs, skipB hz (show b < 1000 by omega), obs, nI_s]
        have hM2 : ∀ g y X W, MG B l a n y X W → ∃ X2 W2, fM_house_L80 (g + 2) (mh y X W K' A' T' G') = fM_house_L80 (g + 1) (mh y X2 W2 K3 A3 T3 G3) ∧ MG B l (skB B l b) n2 y X2 W2 ∧ kpX X X2 := by
          intro g y X W hm
          obtain ⟨X2, W2, q1, q2, q3⟩ := h5 y X W hm
          refine ⟨X2, W2, ?_, q2, q3⟩
          rw [hM g y X W hm, q1, obs]
        rcases ih (skB B l b) (i + 1) (f + 1) n2 K2 A2 T2 G2 K3 A3 T3 G3 (by omega) (by omega) (skB_skB _ _ _) t1 (by omega) h3 with ⟨e2, ft, n4, K4, A4, T4, G4, p1, p2, p3⟩ | ⟨b4, n4, K4, A4, T4, G4, K5, A5, T5, G5, p1, p2, p3⟩
        · refine Or.inl ⟨e2, ft, n4, K4, A4, T4, G4, p1, hC2.trans p2, ?_⟩
          intro g y X W hg hm
          obtain ⟨g, rfl⟩ : ∃ k, g = k + 2 := ⟨g - 2, by omega⟩
          obtain ⟨X2, W2, q1, q2, q3⟩ := hM2 g y X W hm
          obtain ⟨X3, W3, K6, A6, T6, G6, r1, r2⟩ := p3 (g + 1) y X2 W2 (by omega) q2
          exact ⟨X3, W3, K6, A6, T6, G6, q1.trans r1, r2.1, r2.2.1, kpX_t q3 r2.2.2⟩
        · refine Or.inr ⟨b4, n4, K4, A4, T4, G4, K5, A5, T5, G5, p1, hC2.trans p2, ?_⟩
          intro g y X W hg hm
          obtain ⟨g, rfl⟩ : ∃ k, g = k + 2 := ⟨g - 2, by omega⟩
          obtain ⟨X2, W2, q1, q2, q3⟩ := hM2 g y X W hm
          obtain ⟨X3, W3, r1, r2, r3, r4⟩ := p3 (g + 1) y X2 W2 (by omega) q2
          exact ⟨X3, W3, q1.trans r1, r2, r3, kpX_t q3 r4⟩
    · refine Or.inr ⟨a, n, K, A, T, G, K', A', T', G', hd, ?_, ?_⟩
      · have h66 : fTape_tell_J66 (dh z a (-1) n K A T G) = Option.bind (fHouse_become_10 (dh z a (-1) n K A T G)) (fun zc78 => some (gI (pI zc78 8 2 0) 8 4, pI zc78 8 2 0)) := by
          unfold fTape_tell_J66
          rw [g84, if_neg m1_nn]
        rw [fTape_tell_L27, h66, g84, if_neg m1_nn, g82, g83, if_pos (nI_le (show l ≤ a by omega) (by omega))]
        split <;> rfl
      · intro g y X W hg hm
        obtain ⟨g, rfl⟩ : ∃ k, g = k + 2 := ⟨g - 2, by omega⟩
        have h14 : X 14 = 0 := by
          rw [hm.2.2.1.1]
          unfold sN
          rw [if_neg c]
          rfl
        refine ⟨X, W, ?_, hm.2.2.2.2.1, hm.2.2.2.2.2, kpX_r X⟩
        rw [fM_house_L80, mh_gX, hm.2.2.2.2.1, if_neg one_ne, if_pos h14]
