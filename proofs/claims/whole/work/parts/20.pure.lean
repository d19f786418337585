theorem gI_pI (z : MS) (k i : Nat) (v : Int32) (k' : Nat) : gI (pI z k i v) k' = if k' = k then upd (gI z k) i v else gI z k' := rfl
theorem gI_wI' (z : MS) (k : Nat) (F : Nat → Int32) (k' : Nat) : gI (wI z k F) k' = if k' = k then F else gI z k' := rfl
theorem gJ_pI (z : MS) (k i : Nat) (v : Int32) : gJ (pI z k i v) = gJ z := rfl
theorem gJ_wI (z : MS) (k : Nat) (F : Nat → Int32) : gJ (wI z k F) = gJ z := rfl
theorem gI_pJ (z : MS) (k i : Nat) (v : Int64) : gI (pJ z k i v) = gI z := rfl
theorem gJ_pJ (z : MS) (k i : Nat) (v : Int64) (k' : Nat) : gJ (pJ z k i v) k' = if k' = k then vp_updL (gJ z k) i v else gJ z k' := rfl
theorem gI_cI (z : MS) (k k0 n k' : Nat) : gI (cI z k k0 n) k' = if k' = k then va_cpy (gI z k0) (gI z k) 0 0 n else gI z k' := rfl
theorem gJ_cI (z : MS) (k k0 n : Nat) : gJ (cI z k k0 n) = gJ z := rfl
theorem gI_fI (z : MS) (k n : Nat) (v : Int32) (k' : Nat) : gI (fI z k n v) k' = if k' = k then (fun j => if j < n then v else gI z k j) else gI z k' := rfl
theorem gJ_fI (z : MS) (k n : Nat) (v : Int32) : gJ (fI z k n v) = gJ z := rfl
theorem upd_a (f : Nat → Int32) (i : Nat) (v : Int32) (j : Nat) : upd f i v j = if j = i then v else f j := rfl
theorem updL_a (f : Nat → Int64) (i : Nat) (v : Int64) (j : Nat) : vp_updL f i v j = if j = i then v else f j := rfl
theorem LF_s : LF = 999999 + 1 := rfl
/-- a loop that counts up -/
def fo {σ : Type} (step : Nat → σ → σ) : Nat → Nat → σ → σ
  | _, 0, s => s
  | i, d + 1, s => fo step (i + 1) d (step i s)
theorem fo_s {σ : Type} (step : Nat → σ → σ) : ∀ (d i : Nat) (s : σ), fo step i (d + 1) s = step (i + d) (fo step i d s) := by
  intro d
  induction d with
  | zero => intro i s; rfl
  | succ d ih =>
    intro i s
    show fo step (i + 1) (d + 1) (step i s) = step (i + (d + 1)) (fo step (i + 1) d (step i s))
    rw [ih (i + 1) (step i s), show i + 1 + d = i + (d + 1) by omega]
theorem loop_up {σ ρ : Type} (L : Nat → σ → Nat → ρ) (step : Nat → σ → σ) (N : Nat) (fin : σ → ρ) (h1 : ∀ n s i, i < N → L (n + 1) s i = L n (step i s) (i + 1)) (h2 : ∀ n s, L (n + 1) s N = fin s) :
    ∀ (d i : Nat) (s : σ) (n : Nat), i + d = N → d < n → L n s i = fin (fo step i d s) := by
  intro d
  induction d with
  | zero =>
    intro i s n hi hn
    obtain ⟨m, rfl⟩ : ∃ m, n = m + 1 := ⟨n - 1, by omega⟩
    have hi : i = N := hi
    subst hi
    exact h2 m s
  | succ d ih =>
    intro i s n hi hn
    obtain ⟨m, rfl⟩ : ∃ m, n = m + 1 := ⟨n - 1, by omega⟩
    rw [h1 m s i (by omega), ih (i + 1) (step i s) m (by omega) (by omega)]
    rfl
/-- the same with a relation that each step keeps -/
theorem loop_up_i {σ ρ : Type} (L : Nat → σ → Nat → ρ) (I : Nat → σ → Prop) (step : Nat → σ → σ) (N : Nat) (fin : σ → ρ) (hI : ∀ i s, i < N → I i s → I (i + 1) (step i s)) (h1 : ∀ n s i, i < N → I i s → L (n + 1) s i = L n (step i s) (i + 1)) (h2 : ∀ n s, I N s → L (n + 1) s N = fin s) :
    ∀ (d i : Nat) (s : σ) (n : Nat), i + d = N → d < n → I i s → L n s i = fin (fo step i d s) ∧ I N (fo step i d s) := by
  intro d
  induction d with
  | zero =>
    intro i s n hi hn hs
    obtain ⟨m, rfl⟩ : ∃ m, n = m + 1 := ⟨n - 1, by omega⟩
    have hi : i = N := hi
    subst hi
    exact ⟨h2 m s hs, hs⟩
  | succ d ih =>
    intro i s n hi hn hs
    obtain ⟨m, rfl⟩ : ∃ m, n = m + 1 := ⟨n - 1, by omega⟩
    rw [h1 m s i (by omega) hs]
    exact ih (i + 1) (step i s) m (by omega) (by omega) (hI i s (by omega) hs)
def cl (x : Int32) : Nat := x.toNatClampNeg
theorem cl_nI {n : Nat} (h : n < 2 ^ 31) : cl (nI n) = n := nI_clamp h
/-- x is a number from 0 to below m -/
def lt (x : Int32) (m : Nat) : Prop := x = nI (cl x) ∧ cl x < m
theorem lt_nI {n m : Nat} (h : n < m) (hm : m ≤ 2 ^ 31) : lt (nI n) m := ⟨by rw [cl_nI (by omega)], by rw [cl_nI (by omega)]; exact h⟩
def most : Nat → Nat := fun j => match j with
  | 0 => 20 | 1 => 99 | 2 => 12 | 3 => 12 | 4 => 12 | 5 => 3 | 6 => 99 | _ => 9
/-- who is at a seat; 8: nobody -/
def sv (x : Int32) : Nat := if x < 0 then 8 else cl x
def kbt (x : Int32) (q : Nat) : Bool := (cl x).testBit q
/-- a house: people, surprises, kin, away, trust, laws, seats, losses; F: the model's trust -/
def HV (n u : Int32) (K A T W S O F : Nat → Int32) : Prop :=
  lt n 9 ∧ lt u 1024 ∧
  (∀ p, p < 8 → lt (K p) 256) ∧ (∀ p q, p < 8 → q < 8 → kbt (K p) q = kbt (K q) p) ∧ (∀ p q, p < 8 → q < 8 → kbt (K p) q = true → p < cl n ∧ q < cl n ∧ p ≠ q) ∧
  (∀ p, p < 8 → lt (A p) 1024) ∧ (∀ p, p < 8 → cl n ≤ p → A p = 0) ∧
  (∀ p q, p < q → q < 8 → lt (T (8 * p + q)) 10 ∧ F (8 * p + q) = T (8 * p + q) ∧ F (8 * q + p) = T (8 * p + q) ∧ (cl n ≤ q → T (8 * p + q) = 0)) ∧
  (∀ j, j < 8 → lt (W j) (most j + 1)) ∧
  (∀ i, i < 40 → S i = -1 ∨ lt (S i) (cl n)) ∧
  (∀ d, d < 10 → lt (O d) 100)
/-- plans -/
def PV (c : Int32) (k a m : Nat → Int32) : Prop := lt c 5 ∧ ∀ j, j < 4 → m (2 * j) = k j ∧ m (2 * j + 1) = a j ∧ lt (a j) 4096 ∧ (j < cl c → lt (k j) 6 ∧ 0 < cl (k j))
/-- one shelf -/
def SR (w hs h mh mn ms : Int32) : Prop := (w = 0 ∧ mh = 0 ∧ h = mn) ∨ (w = 1 ∧ mh = 1 ∧ hs = mn ∧ h = ms ∧ lt mn 4) ∨ (w = 2 ∧ mh = -1)
def RH (c m : MS) : Prop := HV (gI c 1 0) (gI c 1 1) (gI c 2) (gI c 3) (gI c 4) (gI c 5) (gI c 6) (gI c 7) (gI m 59) ∧
  gI m 56 0 = gI c 1 0 ∧ gI m 56 5 = gI c 1 1 ∧ gI m 57 = gI c 2 ∧ gI m 58 = gI c 3 ∧ gI m 62 = gI c 5 ∧ gI m 60 = gI c 6 ∧ gI m 61 = gI c 7
def RP (c m : MS) : Prop := gI m 56 9 = gI c 26 3 ∧ gI m 56 11 = gI c 26 4 ∧ PV (gI c 26 3) (gI c 27) (gI c 28) (gI m 64)
def RT (c m : MS) : Prop := gI m 65 = gI c 9 ∧ gI m 56 13 = gI c 8 2 ∧ lt (gI c 8 2) 201 ∧ ∀ i, i < 200 → lt (gI c 9 i) 256
def RO (c m : MS) : Prop := gI m 75 = gI c 31 ∧ gI m 56 34 = gI c 30 3 ∧ (gI c 30 3 = 0 ∨ gI c 30 3 = 10)
def IT (J : Nat → Int64) (k : Nat) (f : Nat → Int32) : Prop := ∀ i, i < 40 → J (40 * k + i) = (f i).toInt64
def RS (c m : MS) : Prop := gI m 77 = gI c 35 ∧ gI m 78 = gI c 36 ∧ (∀ k, k < 4 → (gI c 35 k = -1 ∨ lt (gI c 35 k) 4) ∧ lt (gI c 36 k) 41) ∧ IT (gJ m 79) 0 (gI c 38) ∧ IT (gJ m 79) 1 (gI c 39) ∧ IT (gJ m 79) 2 (gI c 40) ∧ IT (gJ m 79) 3 (gI c 41)
def RV (c m : MS) : Prop := ∀ k, k < 4 → SR (gI c 42 k) (gI c 43 k) (gI c 44 k) (gI m 80 k) (gI m 81 k) (gI m 82 k)
def RA (c m : MS) : Prop := gI m 83 = gI c 33 ∧ gI m 56 45 = gI c 32 1 ∧ lt (gI c 32 1) 31
def RK (c m : MS) : Prop := gI m 56 47 = gI c 0 11 ∧ (gI c 0 11 = 0 ∨ gI c 0 11 = 1) ∧ (gI c 0 11 = 1 →
  HV (gI c 45 0) (gI c 45 1) (gI c 46) (gI c 47) (gI c 48) (gI c 49) (gI c 50) (gI c 51) (fun i => gI m 84 (20 + i)) ∧
  gI m 84 0 = gI c 45 0 ∧ gI m 84 1 = gI c 45 1 ∧ gI m 84 2 = gI c 52 3 ∧ gI m 84 3 = gI c 52 4 ∧
  (∀ i, i < 8 → gI m 84 (4 + i) = gI c 46 i) ∧ (∀ i, i < 8 → gI m 84 (12 + i) = gI c 47 i) ∧ (∀ i, i < 40 → gI m 84 (84 + i) = gI c 50 i) ∧ (∀ i, i < 10 → gI m 84 (124 + i) = gI c 51 i) ∧ (∀ i, i < 8 → gI m 84 (134 + i) = gI c 49 i) ∧
  PV (gI c 52 3) (gI c 53) (gI c 54) (fun i => gI m 84 (142 + i)))
def RC (m : MS) : Prop := gI m 63 = (fun j => cST1.getD j 0)
/-- the class' cells in c and the model's in m -/
def RR (c m : MS) : Prop := RH c m ∧ RP c m ∧ RT c m ∧ RO c m ∧ RS c m ∧ RV c m ∧ RA c m ∧ RK c m ∧ RC m
