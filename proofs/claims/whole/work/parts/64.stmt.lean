/-- the model reads at a -/
def MG (B : Nat → Int32) (l a n : Nat) (y : MS) (X : Nat → Int32) (W : Nat → Int64) : Prop := tpM y B l ∧ gI y 63 = (fun j => cST1.getD j 0) ∧ tok B l a X W ∧ X 13 = nI l ∧ X 19 = 1 ∧ X 20 = nI n
def kpX (X X2 : Nat → Int32) : Prop := ∀ j, j < 13 ∨ 20 < j → X2 j = X j
theorem kpX_r (X : Nat → Int32) : kpX X X := fun _ _ => rfl
theorem kpX_t {X Y Z : Nat → Int32} (h : kpX X Y) (g : kpX Y Z) : kpX X Z := fun j hj => (g j hj).trans (h j hj)
theorem kpX_k {X Y : Nat → Int32} (h : keepX X Y) : kpX X Y := fun j hj => h j (by omega) (by omega) (by omega) (by omega)
theorem kpX_u {X : Nat → Int32} {i : Nat} (h : 13 ≤ i ∧ i ≤ 20) (v : Int32) : kpX X (upd X i v) := fun j hj => upd_ne (by omega)
theorem MG_s {B : Nat → Int32} {l a b n : Nat} {y : MS} {X X2 : Nat → Int32} {W W2 : Nat → Int64} (h : MG B l a n y X W) (hk : keepX X X2) (ht : tok B l b X2 W2) : MG B l b n y X2 W2 := by
  obtain ⟨h1, h2, h3, h4, h5, h6⟩ := h
  refine ⟨h1, h2, ht, ?_, ?_, ?_⟩
  · rw [hk 13 (by omega) (by omega) (by omega) (by omega)]; exact h4
  · rw [hk 19 (by omega) (by omega) (by omega) (by omega)]; exact h5
  · rw [hk 20 (by omega) (by omega) (by omega) (by omega)]; exact h6
/-- the model stands at a fault f -/
def MB (f : Nat) (X X2 : Nat → Int32) : Prop := X2 19 = 0 ∧ X2 15 = nI f ∧ kpX X X2
theorem MB_u {B : Nat → Int32} {l a n : Nat} {y : MS} {X0 X : Nat → Int32} {W : Nat → Int64} (h : MG B l a n y X W) (hk : kpX X0 X) : MB a X0 (upd X 19 0) :=
  ⟨upd_eq _ _ _, by rw [upd_ne (by decide)]; exact h.2.2.1.2.1, kpX_t hk (kpX_u (by omega) _)⟩
def badS (z : MS) (B : Nat → Int32) (l a n : Nat) (K' A' T' G' : Nat → Int32) (oc : Option MS) (om : MS → Option MS) : Prop :=
  ∃ e f n2 K2 A2 T2 G2, e < 600 ∧ f < 1000 ∧ oc = some (dh z e (nI f) n2 K2 A2 T2 G2) ∧ ∀ y X W, MG B l a n y X W → ∃ X2 W2 K3 A3 T3 G3, om (mh y X W K' A' T' G') = some (mh y X2 W2 K3 A3 T3 G3) ∧ MB f X X2
def goodS (z : MS) (B : Nat → Int32) (l a n : Nat) (K' A' T' G' : Nat → Int32) (oc : Option MS) (om : MS → Option MS) : Prop :=
  ∃ b n2 K2 A2 T2 G2 K3 A3 T3 G3, a < b ∧ b ≤ l ∧ DR n2 K2 A2 T2 G2 K3 A3 T3 G3 ∧ oc = some (dh z b (-1) n2 K2 A2 T2 G2) ∧ ∀ y X W, MG B l a n y X W → ∃ X2 W2, om (mh y X W K' A' T' G') = some (mh y X2 W2 K3 A3 T3 G3) ∧ MG B l (skB B l b) n2 y X2 W2 ∧ kpX X X2
def JS (z : MS) (B : Nat → Int32) (l a n : Nat) (K' A' T' G' : Nat → Int32) (oc : Option MS) (om : MS → Option MS) : Prop := badS z B l a n K' A' T' G' oc om ∨ goodS z B l a n K' A' T' G' oc om
/-- the class' ends -/
theorem J139_b {z : MS} {B : Nat → Int32} {l : Nat} (hz : tpC z B l) (n : Nat) (K A T G : Nat → Int32) {a f : Nat} (ha : a < 500) (hf : f < 1000) : ∃ e, e < 600 ∧ fTape_readStatement_J139 (dh z a (nI f) n K A T G) = some (dh z e (nI f) n K A T G) := by
  obtain ⟨e, he, h⟩ := Cend_b hz n K A T G ha hf
  refine ⟨e, he, ?_⟩
  unfold fTape_readStatement_J139
  rw [h, obs]
theorem J139_g {z : MS} {B : Nat → Int32} {l : Nat} (hz : tpC z B l) (n : Nat) (K A T G : Nat → Int32) {a : Nat} (ha : a ≤ l) : fTape_readStatement_J139 (dh z a (-1) n K A T G) = some (dh z (skB B l a + 1) (if enB B l (skB B l a) then -1 else nI (skB B l a)) n K A T G) := by
  unfold fTape_readStatement_J139
  rw [Cend hz n K A T G ha, obs]
/-- the words as the model knows them -/
theorem lits : lN (wcd 0) = 232608281 ∧ lN (wcd 1) = 8276 ∧ lN (wcd 2) = 10998956 ∧ lN (wcd 3) = 36502 ∧ lN (wcd 4) = 394691 ∧ lN (wcd 5) = 315914 ∧ lN (wcd 6) = 4325 ∧ lN (wcd 7) = 1388945628 ∧ lN (wcd 8) = 260960283 ∧ lN (wcd 9) = 118940 ∧ lN (wcd 10) = 397641 ∧ lN (wcd 11) = 5146 ∧ lN (wcd 12) = 419 ∧ lN (wcd 13) = 1111 := by decide +kernel
theorem wt : ((if (true : Bool) = true then (1 : Int32) else 0) = 0) = False := eq_false one_ne
theorem wf : ((if (false : Bool) = true then (1 : Int32) else 0) = 0) = True := eq_true rfl
theorem iw1 : ¬ (if (true : Bool) = true then (1 : Int32) else 0) = 0 := one_ne
theorem iw0 : (if (false : Bool) = true then (1 : Int32) else 0) = 0 := rfl
theorem tE_w {B : Nat → Int32} {l a si : Nat} (hs : si < 14) (h : wB B l a si = true) : tE B l a = enW B l a ∧ a < enW B l a := by
  have hcd := (wrdD si hs).2.2.2.2.1
  have hne : enW B l a ≠ a := by
    intro hen
    unfold wB cdN at h
    rw [hen, Nat.sub_self, if_pos (by omega)] at h
    have h := of_decide_eq_true h
    have : cod (fun i => cl (B (a + i)) - 96) 0 = 0 := rfl
    omega
  have hge : a ≤ enW B l a := rnT_ge' _ _ _
  refine ⟨?_, by omega⟩
  unfold tE
  by_cases c : a < l
  · rw [if_pos c]
    by_cases cL : isL B a = true
    · rw [if_pos cL]
    · exact absurd (rnT_n (fun h => cL h.2)) hne
  · exact absurd (rnT_n (fun h => c h.1)) hne
/-- the model goes over a word -/
theorem adv_w {B : Nat → Int32} {l a n : Nat} {y : MS} {X : Nat → Int32} {W : Nat → Int64} (h : MG B l a n y X W) (ha : a ≤ l) {si : Nat} (hs : si < 14) (hw : wB B l a si = true) (K A T G : Nat → Int32) : ∃ X2 W2, fM_advance (mh y X W K A T G) = some (mh y X2 W2 K A T G) ∧ MG B l (skB B l (enW B l a)) n y X2 W2 ∧ kpX X X2 := by
  obtain ⟨X2, W2, q1, q2, q3⟩ := adv_m h.1 K A T G (show enW B l a ≤ l from rnT_le _ _ _ ha) X W h.2.2.2.1 (by rw [h.2.2.1.2.2.1, (tE_w hs hw).1])
  exact ⟨X2, W2, q1, MG_s h q3 q2, kpX_k q3⟩
/-- the class finds the first word that stands -/
theorem find_c {z : MS} {B : Nat → Int32} {l : Nat} (hz : tpC z B l) (n : Nat) (K A T G : Nat → Int32) {a : Nat} (ha : a < 1000) : ∃ k, k ≤ 12 ∧ (∀ j, j < k → wB B l a j = false) ∧ (k < 12 → wB B l a k = true) ∧ fTape_readStatement (dh z a (-1) n K A T G) = fTape_readStatement_J31 (dh z a (-1) n K A T G) (nI (enW B l a)) (nI k) := by
  have key : ∀ (e i f : Nat), i + e = 12 → e < f → (∀ j, j < i → wB B l a j = false) → ∃ k, k ≤ 12 ∧ (∀ j, j < k → wB B l a j = false) ∧ (k < 12 → wB B l a k = true) ∧ fTape_readStatement_L7 (dh z a (-1) n K A T G) (nI (enW B l a)) f (nI i) = fTape_readStatement_J31 (dh z a (-1) n K A T G) (nI (enW B l a)) (nI k) := by
    intro e
    induction e with
    | zero =>
      intro i f hi hf hall
      obtain ⟨f, rfl⟩ : ∃ m, f = m + 1 := ⟨f - 1, by omega⟩
      have hi : i = 12 := hi
      subst hi
      refine ⟨12, by omega, hall, fun h => absurd h (by omega), ?_⟩
      rw [fTape_readStatement_L7, if_pos (show (12 : Int32) ≤ nI 12 from Int32.le_refl _)]
    | succ e ih =>
      intro i f hi hf hall
      obtain ⟨f, rfl⟩ : ∃ m, f = m + 1 := ⟨f - 1, by omega⟩
      have hn : fTape_nameOf (nI i) = i := by
        have : ∀ i, i < 12 → fTape_nameOf (nI i) = i := by decide +kernel
        exact this i (by omega)
      have h0 : fTape_readStatement_L7 (dh z a (-1) n K A T G) (nI (enW B l a)) (f + 1) (nI i) = if (if wB B l a i then (1 : Int32) else 0) = 0 then fTape_readStatement_L7 (dh z a (-1) n K A T G) (nI (enW B l a)) f (nI i + 1) else fTape_readStatement_J31 (dh z a (-1) n K A T G) (nI (enW B l a)) (nI i) := by
        rw [fTape_readStatement_L7, if_neg (show ¬ (12 : Int32) ≤ nI i from nI_ge (b := 12) (by omega) (by omega)), hn, standsC hz ha (-1) n K A T G (show i < 14 by omega), obs]
      by_cases c : wB B l a i = true
      · refine ⟨i, by omega, hall, fun _ => c, ?_⟩
        rw [h0, c, if_neg iw1]
      · have c := Bool.eq_false_iff.mpr c
        rw [h0, c, if_pos (show (if (false : Bool) = true then (1 : Int32) else 0) = 0 from rfl), nI_s]
        refine ih (i + 1) f (by omega) (by omega) ?_
        intro j hj
        by_cases e : j = i
        · rw [e]; exact c
        · exact hall j (by omega)
  unfold fTape_readStatement
  rw [endW hz ha, obs]
  exact key 12 0 LF (by omega) (by decide) (fun j hj => absurd hj (by omega))
/-- the model's look at the word -/
theorem isW_m {B : Nat → Int32} {l a n : Nat} {y : MS} {X : Nat → Int32} {W : Nat → Int64} (h : MG B l a n y X W) (K A T G : Nat → Int32) : fM_isWord (mh y X W K A T G) 232608281 = (if wB B l a 0 then 1 else 0) ∧ fM_isWord (mh y X W K A T G) 8276 = (if wB B l a 1 then 1 else 0) ∧ fM_isWord (mh y X W K A T G) 10998956 = (if wB B l a 2 then 1 else 0) ∧ fM_isWord (mh y X W K A T G) 36502 = (if wB B l a 3 then 1 else 0) ∧ fM_isWord (mh y X W K A T G) 394691 = (if wB B l a 4 then 1 else 0) ∧ fM_isWord (mh y X W K A T G) 315914 = (if wB B l a 5 then 1 else 0) ∧ fM_isWord (mh y X W K A T G) 4325 = (if wB B l a 6 then 1 else 0) ∧ fM_isWord (mh y X W K A T G) 1388945628 = (if wB B l a 7 then 1 else 0) ∧ fM_isWord (mh y X W K A T G) 260960283 = (if wB B l a 8 then 1 else 0) ∧ fM_isWord (mh y X W K A T G) 118940 = (if wB B l a 9 then 1 else 0) ∧ fM_isWord (mh y X W K A T G) 397641 = (if wB B l a 10 then 1 else 0) ∧ fM_isWord (mh y X W K A T G) 5146 = (if wB B l a 11 then 1 else 0) ∧ fM_isWord (mh y X W K A T G) 1111 = (if wB B l a 13 then 1 else 0) := by
  have w : ∀ si, si < 14 → fM_isWord (mh y X W K A T G) (lN (wcd si)) = if wB B l a si then 1 else 0 := fun si hs => isWord_m (y := y) K A T G h.2.2.1 hs
  obtain ⟨l0, l1, l2, l3, l4, l5, l6, l7, l8, l9, l10, l11, l12, l13⟩ := lits
  exact ⟨l0 ▸ w 0 (by omega), l1 ▸ w 1 (by omega), l2 ▸ w 2 (by omega), l3 ▸ w 3 (by omega), l4 ▸ w 4 (by omega), l5 ▸ w 5 (by omega), l6 ▸ w 6 (by omega), l7 ▸ w 7 (by omega), l8 ▸ w 8 (by omega), l9 ▸ w 9 (by omega), l10 ▸ w 10 (by omega), l11 ▸ w 11 (by omega), l13 ▸ w 13 (by omega)⟩
theorem lawH {B : Nat → Int32} {l a n : Nat} {y : MS} {X : Nat → Int32} {W : Nat → Int64} (h : MG B l a n y X W) (K A T G : Nat → Int32) {k : Nat} (h4 : 4 ≤ k) (hk : k ≤ 12) (hn : ∀ j, j < k → wB B l a j = false) (hy : k < 12 → wB B l a k = true) : fM_lawHere (mh y X W K A T G) = if k < 12 then nI (k - 4) else -1 := by
  obtain ⟨w0, w1, w2, w3, w4, w5, w6, w7, w8, w9, w10, w11, w13⟩ := isW_m h K A T G
  unfold fM_lawHere
  rw [w4, w5, w6, w7, w8, w9, w10, w11]
  rcases (show k = 4 ∨ k = 5 ∨ k = 6 ∨ k = 7 ∨ k = 8 ∨ k = 9 ∨ k = 10 ∨ k = 11 ∨ k = 12 by omega) with rfl | rfl | rfl | rfl | rfl | rfl | rfl | rfl | rfl
  · simp only [hy (by omega), wt, wf, if_true, if_false, if_pos (show 4 < 12 by omega)]; rfl
  · simp only [hn 4 (by omega), hy (by omega), wt, wf, if_true, if_false, if_pos (show 5 < 12 by omega)]; rfl
  · simp only [hn 4 (by omega), hn 5 (by omega), hy (by omega), wt, wf, if_true, if_false, if_pos (show 6 < 12 by omega)]; rfl
  · simp only [hn 4 (by omega), hn 5 (by omega), hn 6 (by omega), hy (by omega), wt, wf, if_true, if_false, if_pos (show 7 < 12 by omega)]; rfl
  · simp only [hn 4 (by omega), hn 5 (by omega), hn 6 (by omega), hn 7 (by omega), hy (by omega), wt, wf, if_true, if_false, if_pos (show 8 < 12 by omega)]; rfl
  · simp only [hn 4 (by omega), hn 5 (by omega), hn 6 (by omega), hn 7 (by omega), hn 8 (by omega), hy (by omega), wt, wf, if_true, if_false, if_pos (show 9 < 12 by omega)]; rfl
  · simp only [hn 4 (by omega), hn 5 (by omega), hn 6 (by omega), hn 7 (by omega), hn 8 (by omega), hn 9 (by omega), hy (by omega), wt, wf, if_true, if_false, if_pos (show 10 < 12 by omega)]; rfl
  · simp only [hn 4 (by omega), hn 5 (by omega), hn 6 (by omega), hn 7 (by omega), hn 8 (by omega), hn 9 (by omega), hn 10 (by omega), hy (by omega), wt, wf, if_true, if_false, if_pos (show 11 < 12 by omega)]; rfl
  · simp only [hn 4 (by omega), hn 5 (by omega), hn 6 (by omega), hn 7 (by omega), hn 8 (by omega), hn 9 (by omega), hn 10 (by omega), hn 11 (by omega), wt, wf, if_true, if_false, if_neg (show ¬ 12 < 12 by omega)]
/-- a new person -/
theorem person_s {z : MS} {B : Nat → Int32} {l : Nat} (hz : tpC z B l) {a n : Nat} (ha : a < l) {K A T G K' A' T' G' : Nat → Int32} (hd : DR n K A T G K' A' T' G') (hw : wB B l a 0 = true) : JS z B l a n K' A' T' G' (fTape_readStatement_J31 (dh z a (-1) n K A T G) (nI (enW B l a)) (nI 0)) fM_wantClause := by
  have hl := hz.2.2.1
  have hn8 := hd.1
  obtain ⟨g3, g4, g2, g9, g10, -⟩ := dh_g z a (-1) n K A T G
  have hen : enW B l a ≤ l := rnT_le _ _ _ (by omega)
  have hlt := (tE_w (show 0 < 14 by omega) hw).2
  have hJ31 : fTape_readStatement_J31 (dh z a (-1) n K A T G) (nI (enW B l a)) (nI 0) = if nI n < 8 then fTape_readStatement_J139 (dh z (enW B l a) (-1) (n + 1) K A T G) else some (dh z a (nI a) n K A T G) := by
    unfold fTape_readStatement_J31
    rw [if_neg (show ¬ (12 : Int32) ≤ nI 0 by decide), if_pos (show nI 0 = 0 from rfl), g10]
    unfold fTape_readStatement_J62 fTape_readStatement_J53
    rw [if_pos (show nI 0 = 0 from rfl), dh_at, g3, fail_g hz n K A T G (show a ≤ l by omega), obs]
    unfold fHouse10_addPerson
    rw [ob2s, (dh_g z (enW B l a) (-1) n K A T G).2.2.2.2.1, nI_s, dh_n]
  have hM : ∀ y X W, MG B l a n y X W → ∀ {s : Int32}, (s = 0 ∨ s = 1) → (8 ≤ nI n → s = 0) → (¬ 8 ≤ nI n → s = 1) → fM_wantClause (mh y X W K' A' T' G') = fM_wantClause_J25 (mh y X W K' A' T' G') s := by
    intro y X W hm s _ h1 h2
    obtain ⟨w0, -⟩ := isW_m hm K' A' T' G'
    unfold fM_wantClause
    rw [w0, hw, if_neg iw1, mh_gX, hm.2.2.2.2.2]
    by_cases c : (8 : Int32) ≤ nI n
    · rw [if_pos c, h1 c]
    · rw [if_neg c, h2 c]
  by_cases c : n < 8
  · have c1 : nI n < 8 := nI_lt (b := 8) c (by omega)
    have c2 : ¬ (8 : Int32) ≤ nI n := nI_ge (b := 8) c (by omega)
    rw [hJ31, if_pos c1, J139_g hz (n + 1) K A T G hen]
    have hse : skB B l (enW B l a) ≤ l := rnT_le _ _ _ hen
    have hge : enW B l a ≤ skB B l (enW B l a) := rnT_ge' _ _ _
    have hM2 : ∀ y X W, MG B l a n y X W → ∃ X2 W2, fM_wantClause (mh y X W K' A' T' G') = fM_wantClause_J39 (mh y X2 W2 K' A' T' G') ∧ MG B l (skB B l (enW B l a)) n y X2 W2 ∧ kpX X X2 := by
      intro y X W hm
      obtain ⟨X2, W2, q1, q2, q3⟩ := adv_w hm (by omega) (show 0 < 14 by omega) hw K' A' T' G'
      refine ⟨X2, W2, ?_, q2, q3⟩
      rw [hM y X W hm (s := 1) (Or.inr rfl) (fun h => absurd h c2) (fun _ => rfl)]
      unfold fM_wantClause_J25
      rw [if_pos (Or.inr rfl), mh_X, mh_gX, upd_eq, if_neg one_ne, upd_same X 19 1 hm.2.2.2.2.1, q1, obs]
    generalize skB B l (enW B l a) = s at *
    cases ce : enB B l s with
    | true =>
      have hsl : s < l := by
        unfold enB at ce
        simp only [Bool.and_eq_true, decide_eq_true_eq] at ce
        exact ce.1
      refine Or.inr ⟨s + 1, n + 1, K, A, T, G, K', A', T', G', by omega, by omega, DR_person hd c, rfl, ?_⟩
      intro y X W hm
      obtain ⟨X2, W2, q1, q2, q3⟩ := hM2 y X W hm
      obtain ⟨X3, W3, r1, r2, r3⟩ := (Mend q2.1 K' A' T' G' hse q2.2.2.1 q2.2.2.2.1 q2.2.2.2.2.1).1 ce
      have hm3 := MG_s q2 r3 r2
      refine ⟨upd X3 20 (nI (n + 1)), W3, ?_, ⟨hm3.1, hm3.2.1, ?_, ?_, ?_, upd_eq _ _ _⟩, kpX_t q3 (kpX_t (kpX_k r3) (kpX_u (by omega) _))⟩
      · rw [q1]
        unfold fM_wantClause_J39
        rw [r1, obs, mh_gX, hm3.2.2.2.2.1, if_neg one_ne, hm3.2.2.2.2.2, nI_s, mh_X]
      · obtain ⟨t1, t2, t3, t4, t5⟩ := r2
        exact ⟨(upd_ne (by decide)).trans t1, (upd_ne (by decide)).trans t2, (upd_ne (by decide)).trans t3, (upd_ne (by decide)).trans t4, t5⟩
      · exact (upd_ne (by decide)).trans hm3.2.2.2.1
      · exact (upd_ne (by decide)).trans hm3.2.2.2.2.1
    | false =>
      refine Or.inl ⟨s + 1, s, n + 1, K, A, T, G, by omega, by omega, rfl, ?_⟩
      intro y X W hm
      obtain ⟨X2, W2, q1, q2, q3⟩ := hM2 y X W hm
      have r1 := (Mend q2.1 K' A' T' G' hse q2.2.2.1 q2.2.2.2.1 q2.2.2.2.2.1).2 ce
      have hb := MB_u q2 q3
      refine ⟨upd (upd X2 19 0) 20 (upd X2 19 0 20 + 0), W2, K', A', T', G', ?_, ?_, ?_, kpX_t hb.2.2 (kpX_u (by omega) _)⟩
      · rw [q1]
        unfold fM_wantClause_J39
        rw [r1, obs, mh_gX, hb.1, if_pos rfl, mh_X]
      · exact (upd_ne (by decide)).trans hb.1
      · exact (upd_ne (by decide)).trans hb.2.1
  · have c1 : ¬ nI n < 8 := nI_nlt (b := 8) (by omega) (by omega)
    have c2 : (8 : Int32) ≤ nI n := nI_le (a := 8) (by omega) (by omega)
    rw [hJ31, if_neg c1]
    refine Or.inl ⟨a, a, n, K, A, T, G, by omega, by omega, rfl, ?_⟩
    intro y X W hm
    have hb := MB_u hm (kpX_r X)
    refine ⟨upd (upd X 19 0) 20 (upd X 19 0 20 + 0), W, K', A', T', G', ?_, ?_, ?_, kpX_t hb.2.2 (kpX_u (by omega) _)⟩
    · rw [hM y X W hm (s := 0) (Or.inl rfl) (fun _ => rfl) (fun h => absurd c2 h)]
      unfold fM_wantClause_J25 fM_wantClause_J39
      rw [if_pos (Or.inl rfl), mh_X, mh_gX, hb.1, if_pos rfl, Mend_b K' A' T' G' hb.1, obs, mh_gX, hb.1, if_pos rfl, mh_X]
    · exact (upd_ne (by decide)).trans hb.1
    · exact (upd_ne (by decide)).trans hb.2.1
