def NF : List Cond := flatC narrow_1
theorem nfm {c : Cond} (k : Nat) (e : NF[k]? = some c) : c ∈ NF := List.mem_of_getElem? e
theorem tm_of {c : Cond} (k : Nat) (e : tables_1[k]? = some c) : c ∈ tables_1 := List.mem_of_getElem? e
section USTA
variable {args : Array Value} {s : State} {A : Nat → Prop}
set_option maxRecDepth 30000 in
theorem st_arr0 (h : ∀ c ∈ NF, c.before args s = true) (ht : ∀ c ∈ tables_1, c.before args s = true) (hA : ∀ a : Nat, a < s.heap.size → ¬ A a) : ∃ t : Nat, va_Z "TillPairs$House" "LAWS_AT_FIRST" "[I" (.ref t) A s s.heap ∧ va_T .int t 8 (fun j => .int (cST0.getD j 0)) A s s.heap := by
  obtain ⟨t, h1, h2⟩ := va_Tof (tm := .static "TillPairs$House" "LAWS_AT_FIRST" "[I") (f := fun j => .int (cST0.getD j 0)) (N := 8) (A := A) (by decide) (h _ (nfm 3 rfl)) (va_eqt (h _ (nfm 4 rfl))) (fun j hj => by
      rcases (show j = 0 ∨ j = 1 ∨ j = 2 ∨ j = 3 ∨ j = 4 ∨ j = 5 ∨ j = 6 ∨ j = 7 by omega) with rfl | rfl | rfl | rfl | rfl | rfl | rfl | rfl
      · exact va_eqt (h _ (nfm 5 rfl))
      · exact va_eqt (h _ (nfm 6 rfl))
      · exact va_eqt (h _ (nfm 7 rfl))
      · exact va_eqt (h _ (nfm 8 rfl))
      · exact va_eqt (h _ (nfm 9 rfl))
      · exact va_eqt (h _ (nfm 10 rfl))
      · exact va_eqt (h _ (nfm 11 rfl))
      · exact va_eqt (h _ (nfm 12 rfl))) hA
  exact ⟨t, va_Zref (ht _ (tm_of 35 rfl)) (ht _ (tm_of 2 rfl)) h1 hA, h2⟩
set_option maxRecDepth 30000 in
theorem st_arr1 (h : ∀ c ∈ NF, c.before args s = true) (ht : ∀ c ∈ tables_1, c.before args s = true) (hA : ∀ a : Nat, a < s.heap.size → ¬ A a) : ∃ t : Nat, va_Z "TillPairs$House" "MOST_OF_LAW" "[I" (.ref t) A s s.heap ∧ va_T .int t 8 (fun j => .int (cST1.getD j 0)) A s s.heap := by
  obtain ⟨t, h1, h2⟩ := va_Tof (tm := .static "TillPairs$House" "MOST_OF_LAW" "[I") (f := fun j => .int (cST1.getD j 0)) (N := 8) (A := A) (by decide) (h _ (nfm 19 rfl)) (va_eqt (h _ (nfm 20 rfl))) (fun j hj => by
      rcases (show j = 0 ∨ j = 1 ∨ j = 2 ∨ j = 3 ∨ j = 4 ∨ j = 5 ∨ j = 6 ∨ j = 7 by omega) with rfl | rfl | rfl | rfl | rfl | rfl | rfl | rfl
      · exact va_eqt (h _ (nfm 21 rfl))
      · exact va_eqt (h _ (nfm 22 rfl))
      · exact va_eqt (h _ (nfm 23 rfl))
      · exact va_eqt (h _ (nfm 24 rfl))
      · exact va_eqt (h _ (nfm 25 rfl))
      · exact va_eqt (h _ (nfm 26 rfl))
      · exact va_eqt (h _ (nfm 27 rfl))
      · exact va_eqt (h _ (nfm 28 rfl))) hA
  exact ⟨t, va_Zref (ht _ (tm_of 474 rfl)) (ht _ (tm_of 2 rfl)) h1 hA, h2⟩
set_option maxRecDepth 30000 in
theorem st_arr2 (h : ∀ c ∈ NF, c.before args s = true) (ht : ∀ c ∈ tables_1, c.before args s = true) (hA : ∀ a : Nat, a < s.heap.size → ¬ A a) : ∃ t : Nat, va_Z "TillPairs$Acts" "KIND_ABOVE" "[I" (.ref t) A s s.heap ∧ va_T .int t 6 (fun j => .int (cST2.getD j 0)) A s s.heap := by
  obtain ⟨t, h1, h2⟩ := va_Tof (tm := .static "TillPairs$Acts" "KIND_ABOVE" "[I") (f := fun j => .int (cST2.getD j 0)) (N := 6) (A := A) (by decide) (h _ (nfm 30 rfl)) (va_eqt (h _ (nfm 31 rfl))) (fun j hj => by
      rcases (show j = 0 ∨ j = 1 ∨ j = 2 ∨ j = 3 ∨ j = 4 ∨ j = 5 by omega) with rfl | rfl | rfl | rfl | rfl | rfl
      · exact va_eqt (h _ (nfm 32 rfl))
      · exact va_eqt (h _ (nfm 33 rfl))
      · exact va_eqt (h _ (nfm 34 rfl))
      · exact va_eqt (h _ (nfm 35 rfl))
      · exact va_eqt (h _ (nfm 36 rfl))
      · exact va_eqt (h _ (nfm 37 rfl))) hA
  exact ⟨t, va_Zref (ht _ (tm_of 976 rfl)) (ht _ (tm_of 11 rfl)) h1 hA, h2⟩
set_option maxRecDepth 30000 in
theorem st_arr3 (h : ∀ c ∈ NF, c.before args s = true) (ht : ∀ c ∈ tables_1, c.before args s = true) (hA : ∀ a : Nat, a < s.heap.size → ¬ A a) : ∃ t : Nat, va_Z "TillPairs$Acts" "BODIES" "[I" (.ref t) A s s.heap ∧ va_T .int t 24 (fun j => .int (cST3.getD j 0)) A s s.heap := by
  obtain ⟨t, h1, h2⟩ := va_Tof (tm := .static "TillPairs$Acts" "BODIES" "[I") (f := fun j => .int (cST3.getD j 0)) (N := 24) (A := A) (by decide) (h _ (nfm 39 rfl)) (va_eqt (h _ (nfm 40 rfl))) (fun j hj => by
      rcases (show j = 0 ∨ j = 1 ∨ j = 2 ∨ j = 3 ∨ j = 4 ∨ j = 5 ∨ j = 6 ∨ j = 7 ∨ j = 8 ∨ j = 9 ∨ j = 10 ∨ j = 11 ∨ j = 12 ∨ j = 13 ∨ j = 14 ∨ j = 15 ∨ j = 16 ∨ j = 17 ∨ j = 18 ∨ j = 19 ∨ j = 20 ∨ j = 21 ∨ j = 22 ∨ j = 23 by omega) with rfl | rfl | rfl | rfl | rfl | rfl | rfl | rfl | rfl | rfl | rfl | rfl | rfl | rfl | rfl | rfl | rfl | rfl | rfl | rfl | rfl | rfl | rfl | rfl
      · exact va_eqt (h _ (nfm 41 rfl))
      · exact va_eqt (h _ (nfm 42 rfl))
      · exact va_eqt (h _ (nfm 43 rfl))
      · exact va_eqt (h _ (nfm 44 rfl))
      · exact va_eqt (h _ (nfm 45 rfl))
      · exact va_eqt (h _ (nfm 46 rfl))
      · exact va_eqt (h _ (nfm 47 rfl))
      · exact va_eqt (h _ (nfm 48 rfl))
      · exact va_eqt (h _ (nfm 49 rfl))
      · exact va_eqt (h _ (nfm 50 rfl))
      · exact va_eqt (h _ (nfm 51 rfl))
      · exact va_eqt (h _ (nfm 52 rfl))
      · exact va_eqt (h _ (nfm 53 rfl))
      · exact va_eqt (h _ (nfm 54 rfl))
      · exact va_eqt (h _ (nfm 55 rfl))
      · exact va_eqt (h _ (nfm 56 rfl))
      · exact va_eqt (h _ (nfm 57 rfl))
      · exact va_eqt (h _ (nfm 58 rfl))
      · exact va_eqt (h _ (nfm 59 rfl))
      · exact va_eqt (h _ (nfm 60 rfl))
      · exact va_eqt (h _ (nfm 61 rfl))
      · exact va_eqt (h _ (nfm 62 rfl))
      · exact va_eqt (h _ (nfm 63 rfl))
      · exact va_eqt (h _ (nfm 64 rfl))) hA
  exact ⟨t, va_Zref (ht _ (tm_of 993 rfl)) (ht _ (tm_of 11 rfl)) h1 hA, h2⟩
set_option maxRecDepth 30000 in
theorem st_cs (h : ∀ c ∈ NF, c.before args s = true) (ht : ∀ c ∈ tables_1, c.before args s = true) (hA : ∀ a : Nat, a < s.heap.size → ¬ A a) : va_Z "java/lang/String" "COMPACT_STRINGS" "Z" (.int 1) A s s.heap := va_Zof (ht _ (tm_of 375 rfl)) (ht _ (tm_of 14 rfl)) (va_eqt (h _ (nfm 13 rfl))) hA
set_option maxRecDepth 30000 in
theorem st_fm (h : ∀ c ∈ NF, c.before args s = true) (ht : ∀ c ∈ tables_1, c.before args s = true) (hA : ∀ a : Nat, a < s.heap.size → ¬ A a) : va_Zq "jdk/internal/util/Preconditions" "SIOOBE_FORMATTER" "Ljava/util/function/BiFunction;" A s s.heap := va_Zqof (ht _ (tm_of 391 rfl)) (ht _ (tm_of 16 rfl)) (h _ (nfm 14 rfl)) hA
set_option maxRecDepth 30000 in
theorem sx_ex (h : ∀ c ∈ NF, c.before args s = true) : ∀ i : Nat, i < 14 → (Cond.exactly (.string "TillPairs$Tape" (stI.getD i 0)) "java/lang/String").before args s = true := by
  intro i hi
  rcases (show i = 0 ∨ i = 1 ∨ i = 2 ∨ i = 3 ∨ i = 4 ∨ i = 5 ∨ i = 6 ∨ i = 7 ∨ i = 8 ∨ i = 9 ∨ i = 10 ∨ i = 11 ∨ i = 12 ∨ i = 13 by omega) with rfl | rfl | rfl | rfl | rfl | rfl | rfl | rfl | rfl | rfl | rfl | rfl | rfl | rfl
  · exact h _ (nfm 65 rfl)
  · exact h _ (nfm 75 rfl)
  · exact h _ (nfm 83 rfl)
  · exact h _ (nfm 94 rfl)
  · exact h _ (nfm 105 rfl)
  · exact h _ (nfm 117 rfl)
  · exact h _ (nfm 130 rfl)
  · exact h _ (nfm 143 rfl)
  · exact h _ (nfm 161 rfl)
  · exact h _ (nfm 179 rfl)
  · exact h _ (nfm 196 rfl)
  · exact h _ (nfm 214 rfl)
  · exact h _ (nfm 232 rfl)
  · exact h _ (nfm 250 rfl)
set_option maxRecDepth 30000 in
theorem sx_co (h : ∀ c ∈ NF, c.before args s = true) : ∀ i : Nat, i < 14 → (Cond.eq (.field (.string "TillPairs$Tape" (stI.getD i 0)) "java/lang/String" "coder" "B") (.int 0)).before args s = true := by
  intro i hi
  rcases (show i = 0 ∨ i = 1 ∨ i = 2 ∨ i = 3 ∨ i = 4 ∨ i = 5 ∨ i = 6 ∨ i = 7 ∨ i = 8 ∨ i = 9 ∨ i = 10 ∨ i = 11 ∨ i = 12 ∨ i = 13 by omega) with rfl | rfl | rfl | rfl | rfl | rfl | rfl | rfl | rfl | rfl | rfl | rfl | rfl | rfl
  · exact h _ (nfm 66 rfl)
  · exact h _ (nfm 76 rfl)
  · exact h _ (nfm 84 rfl)
  · exact h _ (nfm 95 rfl)
  · exact h _ (nfm 106 rfl)
  · exact h _ (nfm 118 rfl)
  · exact h _ (nfm 131 rfl)
  · exact h _ (nfm 144 rfl)
  · exact h _ (nfm 162 rfl)
  · exact h _ (nfm 180 rfl)
  · exact h _ (nfm 197 rfl)
  · exact h _ (nfm 215 rfl)
  · exact h _ (nfm 233 rfl)
  · exact h _ (nfm 251 rfl)
set_option maxRecDepth 30000 in
theorem sx_ar (h : ∀ c ∈ NF, c.before args s = true) : ∀ i : Nat, i < 14 → (Cond.arrayOf (.field (.string "TillPairs$Tape" (stI.getD i 0)) "java/lang/String" "value" "[B") .byte).before args s = true := by
  intro i hi
  rcases (show i = 0 ∨ i = 1 ∨ i = 2 ∨ i = 3 ∨ i = 4 ∨ i = 5 ∨ i = 6 ∨ i = 7 ∨ i = 8 ∨ i = 9 ∨ i = 10 ∨ i = 11 ∨ i = 12 ∨ i = 13 by omega) with rfl | rfl | rfl | rfl | rfl | rfl | rfl | rfl | rfl | rfl | rfl | rfl | rfl | rfl
  · exact h _ (nfm 67 rfl)
  · exact h _ (nfm 77 rfl)
  · exact h _ (nfm 85 rfl)
  · exact h _ (nfm 96 rfl)
  · exact h _ (nfm 107 rfl)
  · exact h _ (nfm 119 rfl)
  · exact h _ (nfm 132 rfl)
  · exact h _ (nfm 145 rfl)
  · exact h _ (nfm 163 rfl)
  · exact h _ (nfm 181 rfl)
  · exact h _ (nfm 198 rfl)
  · exact h _ (nfm 216 rfl)
  · exact h _ (nfm 234 rfl)
  · exact h _ (nfm 252 rfl)
set_option maxRecDepth 30000 in
theorem sx_le (h : ∀ c ∈ NF, c.before args s = true) : ∀ i : Nat, i < 14 → (Cond.eq (.length (.field (.string "TillPairs$Tape" (stI.getD i 0)) "java/lang/String" "value" "[B")) (.int (Int32.ofNat (stL.getD i 0)))).before args s = true := by
  intro i hi
  rcases (show i = 0 ∨ i = 1 ∨ i = 2 ∨ i = 3 ∨ i = 4 ∨ i = 5 ∨ i = 6 ∨ i = 7 ∨ i = 8 ∨ i = 9 ∨ i = 10 ∨ i = 11 ∨ i = 12 ∨ i = 13 by omega) with rfl | rfl | rfl | rfl | rfl | rfl | rfl | rfl | rfl | rfl | rfl | rfl | rfl | rfl
  · exact h _ (nfm 68 rfl)
  · exact h _ (nfm 78 rfl)
  · exact h _ (nfm 86 rfl)
  · exact h _ (nfm 97 rfl)
  · exact h _ (nfm 108 rfl)
  · exact h _ (nfm 120 rfl)
  · exact h _ (nfm 133 rfl)
  · exact h _ (nfm 146 rfl)
  · exact h _ (nfm 164 rfl)
  · exact h _ (nfm 182 rfl)
  · exact h _ (nfm 199 rfl)
  · exact h _ (nfm 217 rfl)
  · exact h _ (nfm 235 rfl)
  · exact h _ (nfm 253 rfl)
set_option maxRecDepth 30000 in
theorem sx_el (h : ∀ c ∈ NF, c.before args s = true) : ∀ i : Nat, i < 14 → ∀ j : Nat, j < stL.getD i 0 → (Cond.eq (.elem (.field (.string "TillPairs$Tape" (stI.getD i 0)) "java/lang/String" "value" "[B") (.int (Int32.ofNat j))) (.int ((stB.getD i []).getD j 0))).before args s = true := by
  intro i hi
  rcases (show i = 0 ∨ i = 1 ∨ i = 2 ∨ i = 3 ∨ i = 4 ∨ i = 5 ∨ i = 6 ∨ i = 7 ∨ i = 8 ∨ i = 9 ∨ i = 10 ∨ i = 11 ∨ i = 12 ∨ i = 13 by omega) with rfl | rfl | rfl | rfl | rfl | rfl | rfl | rfl | rfl | rfl | rfl | rfl | rfl | rfl
  · intro j hj
    have hj : j < 6 := hj
    rcases (show j = 0 ∨ j = 1 ∨ j = 2 ∨ j = 3 ∨ j = 4 ∨ j = 5 by omega) with rfl | rfl | rfl | rfl | rfl | rfl
    · exact h _ (nfm 69 rfl)
    · exact h _ (nfm 70 rfl)
    · exact h _ (nfm 71 rfl)
    · exact h _ (nfm 72 rfl)
    · exact h _ (nfm 73 rfl)
    · exact h _ (nfm 74 rfl)
  · intro j hj
    have hj : j < 3 := hj
    rcases (show j = 0 ∨ j = 1 ∨ j = 2 by omega) with rfl | rfl | rfl
    · exact h _ (nfm 79 rfl)
    · exact h _ (nfm 80 rfl)
    · exact h _ (nfm 81 rfl)
  · intro j hj
    have hj : j < 5 := hj
    rcases (show j = 0 ∨ j = 1 ∨ j = 2 ∨ j = 3 ∨ j = 4 by omega) with rfl | rfl | rfl | rfl | rfl
    · exact h _ (nfm 87 rfl)
    · exact h _ (nfm 88 rfl)
    · exact h _ (nfm 89 rfl)
    · exact h _ (nfm 90 rfl)
    · exact h _ (nfm 91 rfl)
  · intro j hj
    have hj : j < 4 := hj
    rcases (show j = 0 ∨ j = 1 ∨ j = 2 ∨ j = 3 by omega) with rfl | rfl | rfl | rfl
    · exact h _ (nfm 98 rfl)
    · exact h _ (nfm 99 rfl)
    · exact h _ (nfm 100 rfl)
    · exact h _ (nfm 101 rfl)
  · intro j hj
    have hj : j < 4 := hj
    rcases (show j = 0 ∨ j = 1 ∨ j = 2 ∨ j = 3 by omega) with rfl | rfl | rfl | rfl
    · exact h _ (nfm 109 rfl)
    · exact h _ (nfm 110 rfl)
    · exact h _ (nfm 111 rfl)
    · exact h _ (nfm 112 rfl)
  · intro j hj
    have hj : j < 4 := hj
    rcases (show j = 0 ∨ j = 1 ∨ j = 2 ∨ j = 3 by omega) with rfl | rfl | rfl | rfl
    · exact h _ (nfm 121 rfl)
    · exact h _ (nfm 122 rfl)
    · exact h _ (nfm 123 rfl)
    · exact h _ (nfm 124 rfl)
  · intro j hj
    have hj : j < 3 := hj
    rcases (show j = 0 ∨ j = 1 ∨ j = 2 by omega) with rfl | rfl | rfl
    · exact h _ (nfm 134 rfl)
    · exact h _ (nfm 135 rfl)
    · exact h _ (nfm 136 rfl)
  · intro j hj
    have hj : j < 7 := hj
    rcases (show j = 0 ∨ j = 1 ∨ j = 2 ∨ j = 3 ∨ j = 4 ∨ j = 5 ∨ j = 6 by omega) with rfl | rfl | rfl | rfl | rfl | rfl | rfl
    · exact h _ (nfm 147 rfl)
    · exact h _ (nfm 148 rfl)
    · exact h _ (nfm 149 rfl)
    · exact h _ (nfm 150 rfl)
    · exact h _ (nfm 151 rfl)
    · exact h _ (nfm 152 rfl)
    · exact h _ (nfm 153 rfl)
  · intro j hj
    have hj : j < 6 := hj
    rcases (show j = 0 ∨ j = 1 ∨ j = 2 ∨ j = 3 ∨ j = 4 ∨ j = 5 by omega) with rfl | rfl | rfl | rfl | rfl | rfl
    · exact h _ (nfm 165 rfl)
    · exact h _ (nfm 166 rfl)
    · exact h _ (nfm 167 rfl)
    · exact h _ (nfm 168 rfl)
    · exact h _ (nfm 169 rfl)
    · exact h _ (nfm 170 rfl)
  · intro j hj
    have hj : j < 4 := hj
    rcases (show j = 0 ∨ j = 1 ∨ j = 2 ∨ j = 3 by omega) with rfl | rfl | rfl | rfl
    · exact h _ (nfm 183 rfl)
    · exact h _ (nfm 184 rfl)
    · exact h _ (nfm 185 rfl)
    · exact h _ (nfm 186 rfl)
  · intro j hj
    have hj : j < 4 := hj
    rcases (show j = 0 ∨ j = 1 ∨ j = 2 ∨ j = 3 by omega) with rfl | rfl | rfl | rfl
    · exact h _ (nfm 200 rfl)
    · exact h _ (nfm 201 rfl)
    · exact h _ (nfm 202 rfl)
    · exact h _ (nfm 203 rfl)
  · intro j hj
    have hj : j < 3 := hj
    rcases (show j = 0 ∨ j = 1 ∨ j = 2 by omega) with rfl | rfl | rfl
    · exact h _ (nfm 218 rfl)
    · exact h _ (nfm 219 rfl)
    · exact h _ (nfm 220 rfl)
  · intro j hj
    have hj : j < 2 := hj
    rcases (show j = 0 ∨ j = 1 by omega) with rfl | rfl
    · exact h _ (nfm 236 rfl)
    · exact h _ (nfm 237 rfl)
  · intro j hj
    have hj : j < 3 := hj
    rcases (show j = 0 ∨ j = 1 ∨ j = 2 by omega) with rfl | rfl | rfl
    · exact h _ (nfm 254 rfl)
    · exact h _ (nfm 255 rfl)
    · exact h _ (nfm 256 rfl)
set_option maxRecDepth 30000 in
theorem sx_ne0 (h : ∀ c ∈ NF, c.before args s = true) : ∀ j : Nat, 0 < j → j < 14 → (Cond.not (Cond.eq (.string "TillPairs$Tape" (stI.getD 0 0)) (.string "TillPairs$Tape" (stI.getD j 0)))).before args s = true := by
  intro j h1 h2
  rcases (show j = 1 ∨ j = 2 ∨ j = 3 ∨ j = 4 ∨ j = 5 ∨ j = 6 ∨ j = 7 ∨ j = 8 ∨ j = 9 ∨ j = 10 ∨ j = 11 ∨ j = 12 ∨ j = 13 by omega) with rfl | rfl | rfl | rfl | rfl | rfl | rfl | rfl | rfl | rfl | rfl | rfl | rfl
  · exact h _ (nfm 82 rfl)
  · exact h _ (nfm 92 rfl)
  · exact h _ (nfm 102 rfl)
  · exact h _ (nfm 113 rfl)
  · exact h _ (nfm 125 rfl)
  · exact h _ (nfm 137 rfl)
  · exact h _ (nfm 154 rfl)
  · exact h _ (nfm 171 rfl)
  · exact h _ (nfm 187 rfl)
  · exact h _ (nfm 204 rfl)
  · exact h _ (nfm 221 rfl)
  · exact h _ (nfm 238 rfl)
  · exact h _ (nfm 257 rfl)
set_option maxRecDepth 30000 in
theorem sx_ne1 (h : ∀ c ∈ NF, c.before args s = true) : ∀ j : Nat, 1 < j → j < 14 → (Cond.not (Cond.eq (.string "TillPairs$Tape" (stI.getD 1 0)) (.string "TillPairs$Tape" (stI.getD j 0)))).before args s = true := by
  intro j h1 h2
  rcases (show j = 2 ∨ j = 3 ∨ j = 4 ∨ j = 5 ∨ j = 6 ∨ j = 7 ∨ j = 8 ∨ j = 9 ∨ j = 10 ∨ j = 11 ∨ j = 12 ∨ j = 13 by omega) with rfl | rfl | rfl | rfl | rfl | rfl | rfl | rfl | rfl | rfl | rfl | rfl
  · exact h _ (nfm 93 rfl)
  · exact h _ (nfm 103 rfl)
  · exact h _ (nfm 114 rfl)
  · exact h _ (nfm 126 rfl)
  · exact h _ (nfm 138 rfl)
  · exact h _ (nfm 155 rfl)
  · exact h _ (nfm 172 rfl)
  · exact h _ (nfm 188 rfl)
  · exact h _ (nfm 205 rfl)
  · exact h _ (nfm 222 rfl)
  · exact h _ (nfm 239 rfl)
  · exact h _ (nfm 258 rfl)
set_option maxRecDepth 30000 in
theorem sx_ne2 (h : ∀ c ∈ NF, c.before args s = true) : ∀ j : Nat, 2 < j → j < 14 → (Cond.not (Cond.eq (.string "TillPairs$Tape" (stI.getD 2 0)) (.string "TillPairs$Tape" (stI.getD j 0)))).before args s = true := by
  intro j h1 h2
  rcases (show j = 3 ∨ j = 4 ∨ j = 5 ∨ j = 6 ∨ j = 7 ∨ j = 8 ∨ j = 9 ∨ j = 10 ∨ j = 11 ∨ j = 12 ∨ j = 13 by omega) with rfl | rfl | rfl | rfl | rfl | rfl | rfl | rfl | rfl | rfl | rfl
  · exact h _ (nfm 104 rfl)
  · exact h _ (nfm 115 rfl)
  · exact h _ (nfm 127 rfl)
  · exact h _ (nfm 139 rfl)
  · exact h _ (nfm 156 rfl)
  · exact h _ (nfm 173 rfl)
  · exact h _ (nfm 189 rfl)
  · exact h _ (nfm 206 rfl)
  · exact h _ (nfm 223 rfl)
  · exact h _ (nfm 240 rfl)
  · exact h _ (nfm 259 rfl)
set_option maxRecDepth 30000 in
theorem sx_ne3 (h : ∀ c ∈ NF, c.before args s = true) : ∀ j : Nat, 3 < j → j < 14 → (Cond.not (Cond.eq (.string "TillPairs$Tape" (stI.getD 3 0)) (.string "TillPairs$Tape" (stI.getD j 0)))).before args s = true := by
  intro j h1 h2
  rcases (show j = 4 ∨ j = 5 ∨ j = 6 ∨ j = 7 ∨ j = 8 ∨ j = 9 ∨ j = 10 ∨ j = 11 ∨ j = 12 ∨ j = 13 by omega) with rfl | rfl | rfl | rfl | rfl | rfl | rfl | rfl | rfl | rfl
  · exact h _ (nfm 116 rfl)
  · exact h _ (nfm 128 rfl)
  · exact h _ (nfm 140 rfl)
  · exact h _ (nfm 157 rfl)
  · exact h _ (nfm 174 rfl)
  · exact h _ (nfm 190 rfl)
  · exact h _ (nfm 207 rfl)
  · exact h _ (nfm 224 rfl)
  · exact h _ (nfm 241 rfl)
  · exact h _ (nfm 260 rfl)
set_option maxRecDepth 30000 in
theorem sx_ne4 (h : ∀ c ∈ NF, c.before args s = true) : ∀ j : Nat, 4 < j → j < 14 → (Cond.not (Cond.eq (.string "TillPairs$Tape" (stI.getD 4 0)) (.string "TillPairs$Tape" (stI.getD j 0)))).before args s = true := by
  intro j h1 h2
  rcases (show j = 5 ∨ j = 6 ∨ j = 7 ∨ j = 8 ∨ j = 9 ∨ j = 10 ∨ j = 11 ∨ j = 12 ∨ j = 13 by omega) with rfl | rfl | rfl | rfl | rfl | rfl | rfl | rfl | rfl
  · exact h _ (nfm 129 rfl)
  · exact h _ (nfm 141 rfl)
  · exact h _ (nfm 158 rfl)
  · exact h _ (nfm 175 rfl)
  · exact h _ (nfm 191 rfl)
  · exact h _ (nfm 208 rfl)
  · exact h _ (nfm 225 rfl)
  · exact h _ (nfm 242 rfl)
  · exact h _ (nfm 261 rfl)
set_option maxRecDepth 30000 in
theorem sx_ne5 (h : ∀ c ∈ NF, c.before args s = true) : ∀ j : Nat, 5 < j → j < 14 → (Cond.not (Cond.eq (.string "TillPairs$Tape" (stI.getD 5 0)) (.string "TillPairs$Tape" (stI.getD j 0)))).before args s = true := by
  intro j h1 h2
  rcases (show j = 6 ∨ j = 7 ∨ j = 8 ∨ j = 9 ∨ j = 10 ∨ j = 11 ∨ j = 12 ∨ j = 13 by omega) with rfl | rfl | rfl | rfl | rfl | rfl | rfl | rfl
  · exact h _ (nfm 142 rfl)
  · exact h _ (nfm 159 rfl)
  · exact h _ (nfm 176 rfl)
  · exact h _ (nfm 192 rfl)
  · exact h _ (nfm 209 rfl)
  · exact h _ (nfm 226 rfl)
  · exact h _ (nfm 243 rfl)
  · exact h _ (nfm 262 rfl)
set_option maxRecDepth 30000 in
theorem sx_ne6 (h : ∀ c ∈ NF, c.before args s = true) : ∀ j : Nat, 6 < j → j < 14 → (Cond.not (Cond.eq (.string "TillPairs$Tape" (stI.getD 6 0)) (.string "TillPairs$Tape" (stI.getD j 0)))).before args s = true := by
  intro j h1 h2
  rcases (show j = 7 ∨ j = 8 ∨ j = 9 ∨ j = 10 ∨ j = 11 ∨ j = 12 ∨ j = 13 by omega) with rfl | rfl | rfl | rfl | rfl | rfl | rfl
  · exact h _ (nfm 160 rfl)
  · exact h _ (nfm 177 rfl)
  · exact h _ (nfm 193 rfl)
  · exact h _ (nfm 210 rfl)
  · exact h _ (nfm 227 rfl)
  · exact h _ (nfm 244 rfl)
  · exact h _ (nfm 263 rfl)
set_option maxRecDepth 30000 in
theorem sx_ne7 (h : ∀ c ∈ NF, c.before args s = true) : ∀ j : Nat, 7 < j → j < 14 → (Cond.not (Cond.eq (.string "TillPairs$Tape" (stI.getD 7 0)) (.string "TillPairs$Tape" (stI.getD j 0)))).before args s = true := by
  intro j h1 h2
  rcases (show j = 8 ∨ j = 9 ∨ j = 10 ∨ j = 11 ∨ j = 12 ∨ j = 13 by omega) with rfl | rfl | rfl | rfl | rfl | rfl
  · exact h _ (nfm 178 rfl)
  · exact h _ (nfm 194 rfl)
  · exact h _ (nfm 211 rfl)
  · exact h _ (nfm 228 rfl)
  · exact h _ (nfm 245 rfl)
  · exact h _ (nfm 264 rfl)
set_option maxRecDepth 30000 in
theorem sx_ne8 (h : ∀ c ∈ NF, c.before args s = true) : ∀ j : Nat, 8 < j → j < 14 → (Cond.not (Cond.eq (.string "TillPairs$Tape" (stI.getD 8 0)) (.string "TillPairs$Tape" (stI.getD j 0)))).before args s = true := by
  intro j h1 h2
  rcases (show j = 9 ∨ j = 10 ∨ j = 11 ∨ j = 12 ∨ j = 13 by omega) with rfl | rfl | rfl | rfl | rfl
  · exact h _ (nfm 195 rfl)
  · exact h _ (nfm 212 rfl)
  · exact h _ (nfm 229 rfl)
  · exact h _ (nfm 246 rfl)
  · exact h _ (nfm 265 rfl)
set_option maxRecDepth 30000 in
theorem sx_ne9 (h : ∀ c ∈ NF, c.before args s = true) : ∀ j : Nat, 9 < j → j < 14 → (Cond.not (Cond.eq (.string "TillPairs$Tape" (stI.getD 9 0)) (.string "TillPairs$Tape" (stI.getD j 0)))).before args s = true := by
  intro j h1 h2
  rcases (show j = 10 ∨ j = 11 ∨ j = 12 ∨ j = 13 by omega) with rfl | rfl | rfl | rfl
  · exact h _ (nfm 213 rfl)
  · exact h _ (nfm 230 rfl)
  · exact h _ (nfm 247 rfl)
  · exact h _ (nfm 266 rfl)
set_option maxRecDepth 30000 in
theorem sx_ne10 (h : ∀ c ∈ NF, c.before args s = true) : ∀ j : Nat, 10 < j → j < 14 → (Cond.not (Cond.eq (.string "TillPairs$Tape" (stI.getD 10 0)) (.string "TillPairs$Tape" (stI.getD j 0)))).before args s = true := by
  intro j h1 h2
  rcases (show j = 11 ∨ j = 12 ∨ j = 13 by omega) with rfl | rfl | rfl
  · exact h _ (nfm 231 rfl)
  · exact h _ (nfm 248 rfl)
  · exact h _ (nfm 267 rfl)
set_option maxRecDepth 30000 in
theorem sx_ne11 (h : ∀ c ∈ NF, c.before args s = true) : ∀ j : Nat, 11 < j → j < 14 → (Cond.not (Cond.eq (.string "TillPairs$Tape" (stI.getD 11 0)) (.string "TillPairs$Tape" (stI.getD j 0)))).before args s = true := by
  intro j h1 h2
  rcases (show j = 12 ∨ j = 13 by omega) with rfl | rfl
  · exact h _ (nfm 249 rfl)
  · exact h _ (nfm 268 rfl)
set_option maxRecDepth 30000 in
theorem sx_ne12 (h : ∀ c ∈ NF, c.before args s = true) : ∀ j : Nat, 12 < j → j < 14 → (Cond.not (Cond.eq (.string "TillPairs$Tape" (stI.getD 12 0)) (.string "TillPairs$Tape" (stI.getD j 0)))).before args s = true := by
  intro j h1 h2
  rcases (show j = 13 by omega) with rfl
  · exact h _ (nfm 269 rfl)
set_option maxRecDepth 30000 in
theorem sx_ne13 (h : ∀ c ∈ NF, c.before args s = true) : ∀ j : Nat, 13 < j → j < 14 → (Cond.not (Cond.eq (.string "TillPairs$Tape" (stI.getD 13 0)) (.string "TillPairs$Tape" (stI.getD j 0)))).before args s = true := by
  intro j h1 h2
  omega
theorem sx_ne (h : ∀ c ∈ NF, c.before args s = true) : ∀ i j : Nat, i < 14 → j < 14 → i ≠ j → (Cond.not (Cond.eq (.string "TillPairs$Tape" (stI.getD i 0)) (.string "TillPairs$Tape" (stI.getD j 0)))).before args s = true ∨ (Cond.not (Cond.eq (.string "TillPairs$Tape" (stI.getD j 0)) (.string "TillPairs$Tape" (stI.getD i 0)))).before args s = true := by
  have hl : ∀ i : Nat, i < 14 → ∀ j : Nat, i < j → j < 14 → (Cond.not (Cond.eq (.string "TillPairs$Tape" (stI.getD i 0)) (.string "TillPairs$Tape" (stI.getD j 0)))).before args s = true := by
    intro i hi
    rcases (show i = 0 ∨ i = 1 ∨ i = 2 ∨ i = 3 ∨ i = 4 ∨ i = 5 ∨ i = 6 ∨ i = 7 ∨ i = 8 ∨ i = 9 ∨ i = 10 ∨ i = 11 ∨ i = 12 ∨ i = 13 by omega) with rfl | rfl | rfl | rfl | rfl | rfl | rfl | rfl | rfl | rfl | rfl | rfl | rfl | rfl
    · exact sx_ne0 h
    · exact sx_ne1 h
    · exact sx_ne2 h
    · exact sx_ne3 h
    · exact sx_ne4 h
    · exact sx_ne5 h
    · exact sx_ne6 h
    · exact sx_ne7 h
    · exact sx_ne8 h
    · exact sx_ne9 h
    · exact sx_ne10 h
    · exact sx_ne11 h
    · exact sx_ne12 h
    · exact sx_ne13 h
  intro i j hi hj hij
  by_cases hlt : i < j
  · exact Or.inl (hl i hi j hlt hj)
  · exact Or.inr (hl j hj i (by omega) hi)
set_option maxRecDepth 30000 in
theorem sx_rf (ht : ∀ c ∈ tables_1, c.before args s = true) : ∀ i : Nat, i < 14 → (Cond.stringRef "TillPairs$Tape" (stI.getD i 0) (stT.getD i "")).before args s = true := by
  intro i hi
  rcases (show i = 0 ∨ i = 1 ∨ i = 2 ∨ i = 3 ∨ i = 4 ∨ i = 5 ∨ i = 6 ∨ i = 7 ∨ i = 8 ∨ i = 9 ∨ i = 10 ∨ i = 11 ∨ i = 12 ∨ i = 13 by omega) with rfl | rfl | rfl | rfl | rfl | rfl | rfl | rfl | rfl | rfl | rfl | rfl | rfl | rfl
  · exact ht _ (tm_of 350 rfl)
  · exact ht _ (tm_of 351 rfl)
  · exact ht _ (tm_of 352 rfl)
  · exact ht _ (tm_of 353 rfl)
  · exact ht _ (tm_of 354 rfl)
  · exact ht _ (tm_of 355 rfl)
  · exact ht _ (tm_of 356 rfl)
  · exact ht _ (tm_of 357 rfl)
  · exact ht _ (tm_of 358 rfl)
  · exact ht _ (tm_of 359 rfl)
  · exact ht _ (tm_of 360 rfl)
  · exact ht _ (tm_of 361 rfl)
  · exact ht _ (tm_of 455 rfl)
  · exact ht _ (tm_of 468 rfl)
set_option maxRecDepth 30000 in
theorem st_all (h : ∀ c ∈ NF, c.before args s = true) (ht : ∀ c ∈ tables_1, c.before args s = true) (hA : ∀ a : Nat, a < s.heap.size → ¬ A a) : ∃ sd : Nat → Nat, STAT sd A s s.heap := by
  obtain ⟨t0, a0, b0⟩ := st_arr0 h ht hA
  obtain ⟨t1, a1, b1⟩ := st_arr1 h ht hA
  obtain ⟨t2, a2, b2⟩ := st_arr2 h ht hA
  obtain ⟨t3, a3, b3⟩ := st_arr3 h ht hA
  obtain ⟨adK, adV, hS, hE⟩ := vk_Sof (N := 14) (tm := fun i => .string "TillPairs$Tape" (stI.getD i 0)) (len := stL) (byt := stB) (A := A) (by decide) (sx_ex h) (sx_co h) (sx_ar h) (sx_le h) (sx_el h) (sx_ne h) hA
  refine ⟨fun k => if k < 4 then [t0, t1, t2, t3].getD k 0 else if k < 18 then adK (k - 4) else adV (k - 18), ⟨a0, b0⟩, ⟨a1, b1⟩, ⟨a2, b2⟩, ⟨a3, b3⟩, st_cs h ht hA, st_fm h ht hA, fun i hi => ?_, ⟨fun i hi => ?_, fun i j hi hj e => ?_⟩⟩
  · have e1 : (if 4 + i < 4 then [t0, t1, t2, t3].getD (4 + i) 0 else if 4 + i < 18 then adK (4 + i - 4) else adV (4 + i - 18)) = adK i := by
      rw [if_neg (by omega), if_pos (by omega), Nat.add_sub_cancel_left]
    simp only [e1]
    exact vk_R.of (sx_rf ht i hi) (hE i hi)
  · have e1 : (if 4 + i < 4 then [t0, t1, t2, t3].getD (4 + i) 0 else if 4 + i < 18 then adK (4 + i - 4) else adV (4 + i - 18)) = adK i := by
      rw [if_neg (by omega), if_pos (by omega), Nat.add_sub_cancel_left]
    have e2 : (if 18 + i < 4 then [t0, t1, t2, t3].getD (18 + i) 0 else if 18 + i < 18 then adK (18 + i - 4) else adV (18 + i - 18)) = adV i := by
      rw [if_neg (by omega), if_neg (by omega), Nat.add_sub_cancel_left]
    simp only [e1, e2]
    exact hS.1 i hi
  · have e1 : ∀ i : Nat, i < 14 → (if 4 + i < 4 then [t0, t1, t2, t3].getD (4 + i) 0 else if 4 + i < 18 then adK (4 + i - 4) else adV (4 + i - 18)) = adK i := fun i hi => by
      rw [if_neg (by omega), if_pos (by omega), Nat.add_sub_cancel_left]
    simp only [e1 i hi, e1 j hj] at e
    exact hS.2 i j hi hj e
set_option maxRecDepth 30000 in
theorem in_X0 : Cond.instantiable RX0 6 ∈ tables_1 := (tm_of 220 rfl)
set_option maxRecDepth 30000 in
theorem in_X1 : Cond.instantiable RX1 6 ∈ tables_1 := (tm_of 247 rfl)
set_option maxRecDepth 30000 in
theorem in_X2 : Cond.instantiable RX2 8 ∈ tables_1 := (tm_of 29 rfl)
set_option maxRecDepth 30000 in
theorem in_X3 : Cond.instantiable RX3 1 ∈ tables_1 := (tm_of 110 rfl)
set_option maxRecDepth 30000 in
theorem in_X4 : Cond.instantiable RX4 4 ∈ tables_1 := (tm_of 120 rfl)
set_option maxRecDepth 30000 in
theorem in_X5 : Cond.instantiable RX5 5 ∈ tables_1 := (tm_of 173 rfl)
set_option maxRecDepth 30000 in
theorem in_X6 : Cond.instantiable RX6 4 ∈ tables_1 := (tm_of 199 rfl)
set_option maxRecDepth 30000 in
theorem in_X7 : Cond.instantiable RX7 5 ∈ tables_1 := (tm_of 85 rfl)
set_option maxRecDepth 30000 in
theorem in_X8 : Cond.instantiable RX8 7 ∈ tables_1 := (tm_of 141 rfl)
set_option maxRecDepth 30000 in
theorem in_X9 : Cond.instantiable RX9 12 ∈ tables_1 := (tm_of 21 rfl)
set_option maxRecDepth 30000 in
theorem in_X10 : Cond.instantiable RX10 51 ∈ tables_1 := (tm_of 1034 rfl)
set_option maxRecDepth 30000 in
theorem st_K (hw : ∀ w ∈ TBL, w.before args s = true) (ht : ∀ c ∈ tables_1, c.before args s = true) : ∃ (D : va_G) (cs : Nat → Nat), va_K D clss (tys cs) s ∧ AOA s := by
  have hk : ∀ c : Nat, ∃ q : ClassId × (Nat → Nat), ∀ r : vw_C, clss[c]? = some r → u_Kn s r.1 r.2.1 r.2.2 q.1 q.2 := by
    intro c
    by_cases hc : c < 11
    · rcases (show c = 0 ∨ c = 1 ∨ c = 2 ∨ c = 3 ∨ c = 4 ∨ c = 5 ∨ c = 6 ∨ c = 7 ∨ c = 8 ∨ c = 9 ∨ c = 10 by omega) with rfl | rfl | rfl | rfl | rfl | rfl | rfl | rfl | rfl | rfl | rfl
      · obtain ⟨cC, iS, hq⟩ := u_known hw hin_X0 (ht _ in_X0)
        exact ⟨(cC, iS), fun r hr => by cases hr; exact hq⟩
      · obtain ⟨cC, iS, hq⟩ := u_known hw hin_X1 (ht _ in_X1)
        exact ⟨(cC, iS), fun r hr => by cases hr; exact hq⟩
      · obtain ⟨cC, iS, hq⟩ := u_known hw hin_X2 (ht _ in_X2)
        exact ⟨(cC, iS), fun r hr => by cases hr; exact hq⟩
      · obtain ⟨cC, iS, hq⟩ := u_known hw hin_X3 (ht _ in_X3)
        exact ⟨(cC, iS), fun r hr => by cases hr; exact hq⟩
      · obtain ⟨cC, iS, hq⟩ := u_known hw hin_X4 (ht _ in_X4)
        exact ⟨(cC, iS), fun r hr => by cases hr; exact hq⟩
      · obtain ⟨cC, iS, hq⟩ := u_known hw hin_X5 (ht _ in_X5)
        exact ⟨(cC, iS), fun r hr => by cases hr; exact hq⟩
      · obtain ⟨cC, iS, hq⟩ := u_known hw hin_X6 (ht _ in_X6)
        exact ⟨(cC, iS), fun r hr => by cases hr; exact hq⟩
      · obtain ⟨cC, iS, hq⟩ := u_known hw hin_X7 (ht _ in_X7)
        exact ⟨(cC, iS), fun r hr => by cases hr; exact hq⟩
      · obtain ⟨cC, iS, hq⟩ := u_known hw hin_X8 (ht _ in_X8)
        exact ⟨(cC, iS), fun r hr => by cases hr; exact hq⟩
      · obtain ⟨cC, iS, hq⟩ := u_known hw hin_X9 (ht _ in_X9)
        exact ⟨(cC, iS), fun r hr => by cases hr; exact hq⟩
      · obtain ⟨cC, iS, hq⟩ := u_known hw hin_X10 (ht _ in_X10)
        exact ⟨(cC, iS), fun r hr => by cases hr; exact hq⟩
    · exact ⟨(0, fun _ => 0), fun r hr => by
        rw [List.getElem?_eq_none (by show 11 ≤ c; omega)] at hr
        cases hr⟩
  obtain ⟨f, hf⟩ := Classical.axiomOfChoice hk
  obtain ⟨cI, kI, mI, i1, i2, i3⟩ := Cond.arrayClass_spec (ht (.arrayClass .int) (tm_of 83 rfl))
  obtain ⟨cJ, kJ, mJ, j1, j2, j3⟩ := Cond.arrayClass_spec (ht (.arrayClass .long) (tm_of 1193 rfl))
  have hO : AOA s := ht (.arrayOver (.array .int)) (tm_of 147 rfl)
  have hO2 := hO
  unfold AOA Cond.before Cond.holds at hO2
  simp only [Cond.value, beq_iff_eq] at hO2
  rw [show s.vm.findClass (FieldType.array FieldType.int).toString = some cI from i1, Option.bind_some, Option.bind_eq_some_iff] at hO2
  obtain ⟨c2, -, hO2⟩ := hO2
  rw [Option.map_eq_some_iff] at hO2
  obtain ⟨k2, hk2, hb2⟩ := hO2
  have hc2 : (∃ m2, k2.kind = .array m2 (.array .int)) ∧ s.vm.findClass ("[" ++ (FieldType.array .int).toString) = some c2 := by
    cases hkd : k2.kind with
    | array m2 ty =>
      rw [hkd] at hb2
      simp only [Bool.and_eq_true, decide_eq_true_eq] at hb2
      exact ⟨⟨m2, by rw [hb2.1]⟩, hb2.2⟩
    | _ => rw [hkd] at hb2; simp at hb2
  obtain ⟨⟨m2, q2⟩, q3⟩ := hc2
  refine ⟨(fun c => (f c).1, fun c => (f c).2), fun k => if k = 0 then cI else if k = 1 then cJ else c2, ⟨fun c r hr => hf c r hr, fun k q hq => ?_⟩, hO⟩
  have hk3 : k < 3 := (List.getElem?_eq_some_iff.mp hq).1
  rcases (show k = 0 ∨ k = 1 ∨ k = 2 by omega) with rfl | rfl | rfl
  · cases hq
    exact ⟨fun n z => ⟨fun k h => (by cases h), kI, i2, mI, i3⟩, i1⟩
  · cases hq
    exact ⟨fun n z => ⟨fun k h => (by cases h), kJ, j2, mJ, j3⟩, j1⟩
  · cases hq
    exact ⟨fun n z => ⟨fun k h => (by cases h), k2, hk2, m2, q2⟩, q3⟩
end USTA
