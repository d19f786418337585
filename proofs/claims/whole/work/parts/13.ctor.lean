set_option maxRecDepth 20000 in
theorem me_X2_init : MEW yX2_init cX2_init 1 none 0 := ⟨tb_c1 32 rfl rfl, tb_c1 2 rfl rfl, by decide +kernel⟩
set_option maxRecDepth 20000 in
theorem mi_X2_init : Cond.instanceMethod yX2_init ∈ TBL := tb_c1 31 rfl rfl
set_option maxRecDepth 20000 in
theorem me_X7_init : MEW yX7_init cX7_init 1 none 0 := ⟨tb_c1 88 rfl rfl, tb_c1 5 rfl rfl, by decide +kernel⟩
set_option maxRecDepth 20000 in
theorem mi_X7_init : Cond.instanceMethod yX7_init ∈ TBL := tb_c1 87 rfl rfl
set_option maxRecDepth 20000 in
theorem me_X3_init : MEW yX3_init cX3_init 2 none 1 := ⟨tb_c1 113 rfl rfl, tb_c1 6 rfl rfl, by decide +kernel⟩
set_option maxRecDepth 20000 in
theorem mi_X3_init : Cond.instanceMethod yX3_init ∈ TBL := tb_c1 112 rfl rfl
set_option maxRecDepth 20000 in
theorem me_X4_init : MEW yX4_init cX4_init 3 none 2 := ⟨tb_c1 123 rfl rfl, tb_c1 7 rfl rfl, by decide +kernel⟩
set_option maxRecDepth 20000 in
theorem mi_X4_init : Cond.instanceMethod yX4_init ∈ TBL := tb_c1 122 rfl rfl
set_option maxRecDepth 20000 in
theorem me_X8_init : MEW yX8_init cX8_init 3 none 2 := ⟨tb_c1 144 rfl rfl, tb_c1 8 rfl rfl, by decide +kernel⟩
set_option maxRecDepth 20000 in
theorem mi_X8_init : Cond.instanceMethod yX8_init ∈ TBL := tb_c1 143 rfl rfl
set_option maxRecDepth 20000 in
theorem me_X5_init : MEW yX5_init cX5_init 1 none 0 := ⟨tb_c1 176 rfl rfl, tb_c1 9 rfl rfl, by decide +kernel⟩
set_option maxRecDepth 20000 in
theorem mi_X5_init : Cond.instanceMethod yX5_init ∈ TBL := tb_c1 175 rfl rfl
set_option maxRecDepth 20000 in
theorem me_X6_init : MEW yX6_init cX6_init 3 none 2 := ⟨tb_c1 202 rfl rfl, tb_c1 10 rfl rfl, by decide +kernel⟩
set_option maxRecDepth 20000 in
theorem mi_X6_init : Cond.instanceMethod yX6_init ∈ TBL := tb_c1 201 rfl rfl
set_option maxRecDepth 20000 in
theorem me_X0_init : MEW yX0_init cX0_init 1 none 0 := ⟨tb_c1 223 rfl rfl, tb_c1 11 rfl rfl, by decide +kernel⟩
set_option maxRecDepth 20000 in
theorem mi_X0_init : Cond.instanceMethod yX0_init ∈ TBL := tb_c1 222 rfl rfl
set_option maxRecDepth 20000 in
theorem me_X1_init : MEW yX1_init cX1_init 1 none 0 := ⟨tb_c2 10 rfl rfl, tb_c1 12 rfl rfl, by decide +kernel⟩
set_option maxRecDepth 20000 in
theorem mi_X1_init : Cond.instanceMethod yX1_init ∈ TBL := tb_c2 9 rfl rfl
set_option maxRecDepth 20000 in
theorem cw_X7_17 : CWI RX7 17 yX2_init cX2_init 1 0 := ⟨me_X2_init, tb_c1 91 rfl rfl, mi_X2_init, rfl⟩
set_option maxRecDepth 20000 in
theorem cw_X9_9 : CWI RX9 9 yX2_init cX2_init 1 0 := ⟨me_X2_init, tb_c1 30 rfl rfl, mi_X2_init, rfl⟩
set_option maxRecDepth 20000 in
theorem cw_X9_18 : CWI RX9 18 yX7_init cX7_init 1 0 := ⟨me_X7_init, tb_c1 86 rfl rfl, mi_X7_init, rfl⟩
set_option maxRecDepth 20000 in
theorem cw_X9_25 : CWI RX9 25 yX3_init cX3_init 2 1 := ⟨me_X3_init, tb_c1 111 rfl rfl, mi_X3_init, rfl⟩
set_option maxRecDepth 20000 in
theorem cw_X9_34 : CWI RX9 34 yX4_init cX4_init 3 2 := ⟨me_X4_init, tb_c1 121 rfl rfl, mi_X4_init, rfl⟩
set_option maxRecDepth 20000 in
theorem cw_X9_43 : CWI RX9 43 yX8_init cX8_init 3 2 := ⟨me_X8_init, tb_c1 142 rfl rfl, mi_X8_init, rfl⟩
set_option maxRecDepth 20000 in
theorem cw_X9_50 : CWI RX9 50 yX5_init cX5_init 1 0 := ⟨me_X5_init, tb_c1 174 rfl rfl, mi_X5_init, rfl⟩
set_option maxRecDepth 20000 in
theorem cw_X9_57 : CWI RX9 57 yX6_init cX6_init 3 2 := ⟨me_X6_init, tb_c1 200 rfl rfl, mi_X6_init, rfl⟩
set_option maxRecDepth 20000 in
theorem cw_X9_64 : CWI RX9 64 yX0_init cX0_init 1 0 := ⟨me_X0_init, tb_c1 221 rfl rfl, mi_X0_init, rfl⟩
set_option maxRecDepth 20000 in
theorem cw_X9_71 : CWI RX9 71 yX1_init cX1_init 1 0 := ⟨me_X1_init, tb_c2 8 rfl rfl, mi_X1_init, rfl⟩
set_option maxRecDepth 20000 in
set_option maxHeartbeats 4000000 in
theorem ck_X2_init (l : Launch) : CK l yX2_init cX2_init 1 1 26 6 138 [] (.inr (2, [.int 0, .int 0, .null, .null, .null, .null, .null, .null])) (fun cs h q => [(h, .inr (2, [.int 0, .int 0, .ref (q 0), .ref (q 1), .ref (q 2), .ref (q 3), .ref (q 4), .ref (q 5)])), (q 0, .inl (cs 0, 8, .inl (fun _ => 0))), (q 1, .inl (cs 0, 8, .inl (fun _ => 0))), (q 2, .inl (cs 0, 64, .inl (fun _ => 0))), (q 3, .inl (cs 0, 8, .inl (va_cpy (fun j => cST0.getD j 0) (fun _ => 0) 0 0 8))), (q 4, .inl (cs 0, 40, .inl (fun j => if j < 40 then (-1) else 0))), (q 5, .inl (cs 0, 10, .inl (fun _ => 0)))]) := by
  refine k_start RX2 rfl rfl (by decide) (fun _ => Nat.le_of_ble_eq_true rfl) (fun p e s m args below meth c R D cs sd A Q ls ws h X hin hP hD hS hl hret => ?_)
  have hx := X.1
  have hb := X.2.1
  have hl : lv_has ls 1 [(0, .ref h)] := hl
  refine lv_aload_n hx hb dX2_init_0 rfl (lv_at hl 0 rfl) ?_
  refine k_objInit X hl dX2_init_1 (tb_c1 33 rfl rfl) (tb_c1 26 rfl rfl) (tb_c1 27 rfl rfl) ⟨rfl, rfl⟩ ?_
  refine lv_aload_n hx hb dX2_init_4 rfl (lv_at hl 0 rfl) ?_
  refine lv_iconst (v := 0) hx hb dX2_init_5 rfl ?_
  refine k_put (l1 := [(h, .inr (2, [.int 0, .int 0, .null, .null, .null, .null, .null, .null]))]) (C := RX2) (T := TX2) (N := 8) (ty := .int) 2 0 X hP hD hS rfl rfl hin_X2 tyX2 tyX2_ok nmX2 0 rfl (tb_c1 (w := Cond.fieldLink "TillPairs$House" 9 "TillPairs$House" "people" "I") 42 rfl rfl) rfl rfl (by decide +kernel) rfl rfl rfl rfl dX2_init_6 (fun H locs hP hD hS => ?_)
  refine lv_aload_n hx hb dX2_init_9 rfl (lv_at hl 0 rfl) ?_
  refine lv_iconst (v := 0) hx hb dX2_init_10 rfl ?_
  refine k_put (l1 := [(h, .inr (2, [.int 0, .int 0, .null, .null, .null, .null, .null, .null]))]) (C := RX2) (T := TX2) (N := 8) (ty := .int) 2 0 X hP hD hS rfl rfl hin_X2 tyX2 tyX2_ok nmX2 1 rfl (tb_c1 (w := Cond.fieldLink "TillPairs$House" 15 "TillPairs$House" "surprises" "I") 48 rfl rfl) rfl rfl (by decide +kernel) rfl rfl rfl rfl dX2_init_11 (fun H locs hP hD hS => ?_)
  refine lv_aload_n hx hb dX2_init_14 rfl (lv_at hl 0 rfl) ?_
  refine lv_bipush (v := 8) hx hb dX2_init_15 rfl ?_
  refine k_newI (N := 8) (fun q17 => [(h, .inr (2, [.int 0, .int 0, .null, .null, .null, .null, .null, .null])), (q17, .inl (cs 0, 8, .inl (fun _ => 0)))]) X hP hD hS dX2_init_17 (tb_c1 83 rfl rfl) (by decide) rfl rfl rfl rfl (fun _ => rfl) (fun q17 H hP hD hS => ?_)
  refine W.cs (cells' := 1) (slots' := 8) rfl rfl ?_
  refine k_putF (l1 := [(h, .inr (2, [.int 0, .int 0, .ref q17, .null, .null, .null, .null, .null])), (q17, .inl (cs 0, 8, .inl (fun _ => 0)))]) (C := RX2) (T := TX2) (N := 8) (ty := .array .int) 2 0 X hin hP hD hS rfl rfl hin_X2 tyX2 tyX2_ok nmX2 2 rfl (tb_c1 (w := Cond.fieldLink "TillPairs$House" 18 "TillPairs$House" "kinOf" "[I") 49 rfl rfl) rfl rfl rfl (by decide +kernel) rfl rfl rfl rfl dX2_init_19 (fun H locs hP hD hS => ?_)
  refine lv_aload_n hx hb dX2_init_22 rfl (lv_at hl 0 rfl) ?_
  refine lv_bipush (v := 8) hx hb dX2_init_23 rfl ?_
  refine k_newI (N := 8) (fun q25 => [(h, .inr (2, [.int 0, .int 0, .ref q17, .null, .null, .null, .null, .null])), (q17, .inl (cs 0, 8, .inl (fun _ => 0))), (q25, .inl (cs 0, 8, .inl (fun _ => 0)))]) X hP hD hS dX2_init_25 (tb_c1 83 rfl rfl) (by decide) rfl rfl rfl rfl (fun _ => rfl) (fun q25 H hP hD hS => ?_)
  refine W.cs (cells' := 2) (slots' := 16) rfl rfl ?_
  refine k_putF (l1 := [(h, .inr (2, [.int 0, .int 0, .ref q17, .ref q25, .null, .null, .null, .null])), (q17, .inl (cs 0, 8, .inl (fun _ => 0))), (q25, .inl (cs 0, 8, .inl (fun _ => 0)))]) (C := RX2) (T := TX2) (N := 8) (ty := .array .int) 2 0 X hin hP hD hS rfl rfl hin_X2 tyX2 tyX2_ok nmX2 3 rfl (tb_c1 (w := Cond.fieldLink "TillPairs$House" 22 "TillPairs$House" "awayOn" "[I") 52 rfl rfl) rfl rfl rfl (by decide +kernel) rfl rfl rfl rfl dX2_init_27 (fun H locs hP hD hS => ?_)
  refine lv_aload_n hx hb dX2_init_30 rfl (lv_at hl 0 rfl) ?_
  refine lv_bipush (v := 64) hx hb dX2_init_31 rfl ?_
  refine k_newI (N := 64) (fun q33 => [(h, .inr (2, [.int 0, .int 0, .ref q17, .ref q25, .null, .null, .null, .null])), (q17, .inl (cs 0, 8, .inl (fun _ => 0))), (q25, .inl (cs 0, 8, .inl (fun _ => 0))), (q33, .inl (cs 0, 64, .inl (fun _ => 0)))]) X hP hD hS dX2_init_33 (tb_c1 83 rfl rfl) (by decide) rfl rfl rfl rfl (fun _ => rfl) (fun q33 H hP hD hS => ?_)
  refine W.cs (cells' := 3) (slots' := 80) rfl rfl ?_
  refine k_putF (l1 := [(h, .inr (2, [.int 0, .int 0, .ref q17, .ref q25, .ref q33, .null, .null, .null])), (q17, .inl (cs 0, 8, .inl (fun _ => 0))), (q25, .inl (cs 0, 8, .inl (fun _ => 0))), (q33, .inl (cs 0, 64, .inl (fun _ => 0)))]) (C := RX2) (T := TX2) (N := 8) (ty := .array .int) 2 0 X hin hP hD hS rfl rfl hin_X2 tyX2 tyX2_ok nmX2 4 rfl (tb_c1 (w := Cond.fieldLink "TillPairs$House" 25 "TillPairs$House" "trustAtFirst" "[I") 53 rfl rfl) rfl rfl rfl (by decide +kernel) rfl rfl rfl rfl dX2_init_35 (fun H locs hP hD hS => ?_)
  refine lv_aload_n hx hb dX2_init_38 rfl (lv_at hl 0 rfl) ?_
  refine lv_bipush (v := 8) hx hb dX2_init_39 rfl ?_
  refine k_newI (N := 8) (fun q41 => [(h, .inr (2, [.int 0, .int 0, .ref q17, .ref q25, .ref q33, .null, .null, .null])), (q17, .inl (cs 0, 8, .inl (fun _ => 0))), (q25, .inl (cs 0, 8, .inl (fun _ => 0))), (q33, .inl (cs 0, 64, .inl (fun _ => 0))), (q41, .inl (cs 0, 8, .inl (fun _ => 0)))]) X hP hD hS dX2_init_41 (tb_c1 83 rfl rfl) (by decide) rfl rfl rfl rfl (fun _ => rfl) (fun q41 H hP hD hS => ?_)
  refine W.cs (cells' := 4) (slots' := 88) rfl rfl ?_
  refine k_putF (l1 := [(h, .inr (2, [.int 0, .int 0, .ref q17, .ref q25, .ref q33, .ref q41, .null, .null])), (q17, .inl (cs 0, 8, .inl (fun _ => 0))), (q25, .inl (cs 0, 8, .inl (fun _ => 0))), (q33, .inl (cs 0, 64, .inl (fun _ => 0))), (q41, .inl (cs 0, 8, .inl (fun _ => 0)))]) (C := RX2) (T := TX2) (N := 8) (ty := .array .int) 2 0 X hin hP hD hS rfl rfl hin_X2 tyX2 tyX2_ok nmX2 5 rfl (tb_c1 (w := Cond.fieldLink "TillPairs$House" 28 "TillPairs$House" "laws" "[I") 57 rfl rfl) rfl rfl rfl (by decide +kernel) rfl rfl rfl rfl dX2_init_43 (fun H locs hP hD hS => ?_)
  refine lv_aload_n hx hb dX2_init_46 rfl (lv_at hl 0 rfl) ?_
  refine lv_bipush (v := 40) hx hb dX2_init_47 rfl ?_
  refine k_newI (N := 40) (fun q49 => [(h, .inr (2, [.int 0, .int 0, .ref q17, .ref q25, .ref q33, .ref q41, .null, .null])), (q17, .inl (cs 0, 8, .inl (fun _ => 0))), (q25, .inl (cs 0, 8, .inl (fun _ => 0))), (q33, .inl (cs 0, 64, .inl (fun _ => 0))), (q41, .inl (cs 0, 8, .inl (fun _ => 0))), (q49, .inl (cs 0, 40, .inl (fun _ => 0)))]) X hP hD hS dX2_init_49 (tb_c1 83 rfl rfl) (by decide) rfl rfl rfl rfl (fun _ => rfl) (fun q49 H hP hD hS => ?_)
  refine W.cs (cells' := 5) (slots' := 128) rfl rfl ?_
  refine k_putF (l1 := [(h, .inr (2, [.int 0, .int 0, .ref q17, .ref q25, .ref q33, .ref q41, .ref q49, .null])), (q17, .inl (cs 0, 8, .inl (fun _ => 0))), (q25, .inl (cs 0, 8, .inl (fun _ => 0))), (q33, .inl (cs 0, 64, .inl (fun _ => 0))), (q41, .inl (cs 0, 8, .inl (fun _ => 0))), (q49, .inl (cs 0, 40, .inl (fun _ => 0)))]) (C := RX2) (T := TX2) (N := 8) (ty := .array .int) 2 0 X hin hP hD hS rfl rfl hin_X2 tyX2 tyX2_ok nmX2 6 rfl (tb_c1 (w := Cond.fieldLink "TillPairs$House" 31 "TillPairs$House" "seats" "[I") 63 rfl rfl) rfl rfl rfl (by decide +kernel) rfl rfl rfl rfl dX2_init_51 (fun H locs hP hD hS => ?_)
  refine lv_aload_n hx hb dX2_init_54 rfl (lv_at hl 0 rfl) ?_
  refine lv_bipush (v := 10) hx hb dX2_init_55 rfl ?_
  refine k_newI (N := 10) (fun q57 => [(h, .inr (2, [.int 0, .int 0, .ref q17, .ref q25, .ref q33, .ref q41, .ref q49, .null])), (q17, .inl (cs 0, 8, .inl (fun _ => 0))), (q25, .inl (cs 0, 8, .inl (fun _ => 0))), (q33, .inl (cs 0, 64, .inl (fun _ => 0))), (q41, .inl (cs 0, 8, .inl (fun _ => 0))), (q49, .inl (cs 0, 40, .inl (fun _ => 0))), (q57, .inl (cs 0, 10, .inl (fun _ => 0)))]) X hP hD hS dX2_init_57 (tb_c1 83 rfl rfl) (by decide) rfl rfl rfl rfl (fun _ => rfl) (fun q57 H hP hD hS => ?_)
  refine W.cs (cells' := 6) (slots' := 138) rfl rfl ?_
  refine k_putF (l1 := [(h, .inr (2, [.int 0, .int 0, .ref q17, .ref q25, .ref q33, .ref q41, .ref q49, .ref q57])), (q17, .inl (cs 0, 8, .inl (fun _ => 0))), (q25, .inl (cs 0, 8, .inl (fun _ => 0))), (q33, .inl (cs 0, 64, .inl (fun _ => 0))), (q41, .inl (cs 0, 8, .inl (fun _ => 0))), (q49, .inl (cs 0, 40, .inl (fun _ => 0))), (q57, .inl (cs 0, 10, .inl (fun _ => 0)))]) (C := RX2) (T := TX2) (N := 8) (ty := .array .int) 2 0 X hin hP hD hS rfl rfl hin_X2 tyX2 tyX2_ok nmX2 7 rfl (tb_c1 (w := Cond.fieldLink "TillPairs$House" 34 "TillPairs$House" "losses" "[I") 64 rfl rfl) rfl rfl rfl (by decide +kernel) rfl rfl rfl rfl dX2_init_59 (fun H locs hP hD hS => ?_)
  refine va_gets hx hb X.2.2.2.2.2.2.2.2.2.2.1.1.1 hS X.2.2.2.1 (X.2.2.2.2.1 _ (tb_c1 34 rfl rfl)) (fun _ h => h) dX2_init_62 ?_
  refine lv_iconst (v := 0) hx hb dX2_init_65 rfl ?_
  refine lv_aload_n hx hb dX2_init_66 rfl (lv_at hl 0 rfl) ?_
  refine k_get (C := RX2) (T := TX2) (N := 8) 2 0 X hP rfl rfl hin_X2 5 rfl (tb_c1 (w := Cond.fieldLink "TillPairs$House" 28 "TillPairs$House" "laws" "[I") 57 rfl rfl) rfl rfl dX2_init_67 ?_
  refine lv_iconst (v := 0) hx hb dX2_init_70 rfl ?_
  refine lv_bipush (v := 8) hx hb dX2_init_71 rfl ?_
  refine k_cop (l1 := [(h, .inr (2, [.int 0, .int 0, .ref q17, .ref q25, .ref q33, .ref q41, .ref q49, .ref q57])), (q17, .inl (cs 0, 8, .inl (fun _ => 0))), (q25, .inl (cs 0, 8, .inl (fun _ => 0))), (q33, .inl (cs 0, 64, .inl (fun _ => 0))), (q41, .inl (cs 0, 8, .inl (va_cpy (fun j => cST0.getD j 0) (fun _ => 0) 0 0 8))), (q49, .inl (cs 0, 40, .inl (fun _ => 0))), (q57, .inl (cs 0, 10, .inl (fun _ => 0)))]) (f := fun j => cST0.getD j 0) (j0 := 4) X hP hD hS hl dX2_init_73 (tb_c1 36 rfl rfl) (tb_c1 38 rfl rfl) (tb_c1 37 rfl rfl) (tb_c1 3 rfl rfl) X.2.2.2.2.2.2.2.2.2.2.1.1.2 rfl (by decide) rfl rfl rfl rfl rfl ⟨rfl, rfl⟩ (fun H locs hP hD hS => ?_)
  refine lv_aload_n hx hb dX2_init_76 rfl (lv_at hl 0 rfl) ?_
  refine k_get (C := RX2) (T := TX2) (N := 8) 2 0 X hP rfl rfl hin_X2 6 rfl (tb_c1 (w := Cond.fieldLink "TillPairs$House" 31 "TillPairs$House" "seats" "[I") 63 rfl rfl) rfl rfl dX2_init_77 ?_
  refine lv_iconst (v := (-1)) hx hb dX2_init_80 rfl ?_
  refine k_fill (l1 := [(h, .inr (2, [.int 0, .int 0, .ref q17, .ref q25, .ref q33, .ref q41, .ref q49, .ref q57])), (q17, .inl (cs 0, 8, .inl (fun _ => 0))), (q25, .inl (cs 0, 8, .inl (fun _ => 0))), (q33, .inl (cs 0, 64, .inl (fun _ => 0))), (q41, .inl (cs 0, 8, .inl (va_cpy (fun j => cST0.getD j 0) (fun _ => 0) 0 0 8))), (q49, .inl (cs 0, 40, .inl (fun j => if j < 40 then (-1) else 0))), (q57, .inl (cs 0, 10, .inl (fun _ => 0)))]) (j0 := 5) X hP hD hS hl dX2_init_81 cw_X2_46 rfl (by decide) rfl rfl ⟨rfl, rfl⟩ rfl rfl (fun H locs hP hD hS => ?_)
  exact hret H locs _ _ _ _ (fun k => [q17, q25, q33, q41, q49, q57].getD k 0) hP hD hS (Nat.le_of_ble_eq_true rfl) (Nat.le_of_ble_eq_true rfl) dX2_init_84

set_option maxRecDepth 20000 in
set_option maxHeartbeats 4000000 in
theorem ck_X7_init (l : Launch) : CK l yX7_init cX7_init 1 2 46 8 346 [] (.inr (7, [.null, .null, .int 0, .int 0, .int 0])) (fun cs h q => [(h, .inr (7, [.ref (q 0), .ref (q 1), .int 0, .int 0, .int (-1)])), (q 0, .inl (cs 0, 200, .inl (fun _ => 0))), (q 1, .inr (2, [.int 0, .int 0, .ref (q 2), .ref (q 3), .ref (q 4), .ref (q 5), .ref (q 6), .ref (q 7)])), (q 2, .inl (cs 0, 8, .inl (fun _ => 0))), (q 3, .inl (cs 0, 8, .inl (fun _ => 0))), (q 4, .inl (cs 0, 64, .inl (fun _ => 0))), (q 5, .inl (cs 0, 8, .inl (va_cpy (fun j => cST0.getD j 0) (fun _ => 0) 0 0 8))), (q 6, .inl (cs 0, 40, .inl (fun j => if j < 40 then (-1) else 0))), (q 7, .inl (cs 0, 10, .inl (fun _ => 0)))]) := by
  refine k_start RX7 rfl rfl (by decide) (fun _ => Nat.le_of_ble_eq_true rfl) (fun p e s m args below meth c R D cs sd A Q ls ws h X hin hP hD hS hl hret => ?_)
  have hx := X.1
  have hb := X.2.1
  have hl : lv_has ls 1 [(0, .ref h)] := hl
  refine lv_aload_n hx hb dX7_init_0 rfl (lv_at hl 0 rfl) ?_
  refine k_objInit X hl dX7_init_1 (tb_c1 89 rfl rfl) (tb_c1 26 rfl rfl) (tb_c1 27 rfl rfl) ⟨rfl, rfl⟩ ?_
  refine lv_aload_n hx hb dX7_init_4 rfl (lv_at hl 0 rfl) ?_
  refine lv_sipush (v := 200) hx hb dX7_init_5 rfl ?_
  refine k_newI (N := 200) (fun q8 => [(h, .inr (7, [.null, .null, .int 0, .int 0, .int 0])), (q8, .inl (cs 0, 200, .inl (fun _ => 0)))]) X hP hD hS dX7_init_8 (tb_c1 83 rfl rfl) (by decide) rfl rfl rfl rfl (fun _ => rfl) (fun q8 H hP hD hS => ?_)
  refine W.cs (cells' := 1) (slots' := 200) rfl rfl ?_
  refine k_putF (l1 := [(h, .inr (7, [.ref q8, .null, .int 0, .int 0, .int 0])), (q8, .inl (cs 0, 200, .inl (fun _ => 0)))]) (C := RX7) (T := TX7) (N := 5) (ty := .array .int) 7 0 X hin hP hD hS rfl rfl hin_X7 tyX7 tyX7_ok nmX7 0 rfl (tb_c1 (w := Cond.fieldLink "TillPairs$Tape" 11 "TillPairs$Tape" "bytes" "[I") 92 rfl rfl) rfl rfl rfl (by decide +kernel) rfl rfl rfl rfl dX7_init_10 (fun H locs hP hD hS => ?_)
  refine lv_aload_n hx hb dX7_init_13 rfl (lv_at hl 0 rfl) ?_
  refine k_new (N := 8) (ci := 2) (fs := [.int 0, .int 0, .null, .null, .null, .null, .null, .null]) (fun q14 => [(h, .inr (7, [.ref q8, .null, .int 0, .int 0, .int 0])), (q8, .inl (cs 0, 200, .inl (fun _ => 0))), (q14, .inr (2, [.int 0, .int 0, .null, .null, .null, .null, .null, .null]))]) X hP hD hS dX7_init_14 rfl hin_X2 tyX2 tyX2_ok (tb_c1 90 rfl rfl) (tb_c1 29 rfl rfl) (tb_c1 2 rfl rfl) (by decide +kernel) rfl rfl (fun _ => rfl) (fun q14 H hP hD hS => ?_)
  refine W.cs (cells' := 2) (slots' := 208) rfl rfl ?_
  refine lv_dup hx hb dX7_init_17 rfl ?_
  refine k_callI (l' := [(h, .inr (7, [.ref q8, .null, .int 0, .int 0, .int 0])), (q8, .inl (cs 0, 200, .inl (fun _ => 0)))]) (fun q18 => [(h, .inr (7, [.ref q8, .null, .int 0, .int 0, .int 0])), (q8, .inl (cs 0, 200, .inl (fun _ => 0))), (q14, .inr (2, [.int 0, .int 0, .ref (q18 0), .ref (q18 1), .ref (q18 2), .ref (q18 3), .ref (q18 4), .ref (q18 5)])), ((q18 0), .inl (cs 0, 8, .inl (fun _ => 0))), ((q18 1), .inl (cs 0, 8, .inl (fun _ => 0))), ((q18 2), .inl (cs 0, 64, .inl (fun _ => 0))), ((q18 3), .inl (cs 0, 8, .inl (va_cpy (fun j => cST0.getD j 0) (fun _ => 0) 0 0 8))), ((q18 4), .inl (cs 0, 40, .inl (fun j => if j < 40 then (-1) else 0))), ((q18 5), .inl (cs 0, 10, .inl (fun _ => 0)))]) X hP hD rfl hS hl dX7_init_18 (ck_X2_init l) cw_X7_17 rfl rfl rfl ⟨rfl, rfl⟩ rfl rfl (fun _ => rfl) (fun H locs q18 hP hD hS => ?_)
  refine W.cs (cells' := 8) (slots' := 346) rfl rfl ?_
  refine k_putF (l1 := [(h, .inr (7, [.ref q8, .ref q14, .int 0, .int 0, .int 0])), (q8, .inl (cs 0, 200, .inl (fun _ => 0))), (q14, .inr (2, [.int 0, .int 0, .ref (q18 0), .ref (q18 1), .ref (q18 2), .ref (q18 3), .ref (q18 4), .ref (q18 5)])), ((q18 0), .inl (cs 0, 8, .inl (fun _ => 0))), ((q18 1), .inl (cs 0, 8, .inl (fun _ => 0))), ((q18 2), .inl (cs 0, 64, .inl (fun _ => 0))), ((q18 3), .inl (cs 0, 8, .inl (va_cpy (fun j => cST0.getD j 0) (fun _ => 0) 0 0 8))), ((q18 4), .inl (cs 0, 40, .inl (fun j => if j < 40 then (-1) else 0))), ((q18 5), .inl (cs 0, 10, .inl (fun _ => 0)))]) (C := RX7) (T := TX7) (N := 5) (ty := .object "TillPairs$House") 7 0 X hin hP hD hS rfl rfl hin_X7 tyX7 tyX7_ok nmX7 1 rfl (tb_c1 (w := Cond.fieldLink "TillPairs$Tape" 18 "TillPairs$Tape" "draft" "LTillPairs$House;") 93 rfl rfl) rfl rfl rfl (by decide +kernel) rfl rfl rfl rfl dX7_init_21 (fun H locs hP hD hS => ?_)
  refine lv_aload_n hx hb dX7_init_24 rfl (lv_at hl 0 rfl) ?_
  refine lv_iconst (v := 0) hx hb dX7_init_25 rfl ?_
  refine k_put (l1 := [(h, .inr (7, [.ref q8, .ref q14, .int 0, .int 0, .int 0])), (q8, .inl (cs 0, 200, .inl (fun _ => 0))), (q14, .inr (2, [.int 0, .int 0, .ref (q18 0), .ref (q18 1), .ref (q18 2), .ref (q18 3), .ref (q18 4), .ref (q18 5)])), ((q18 0), .inl (cs 0, 8, .inl (fun _ => 0))), ((q18 1), .inl (cs 0, 8, .inl (fun _ => 0))), ((q18 2), .inl (cs 0, 64, .inl (fun _ => 0))), ((q18 3), .inl (cs 0, 8, .inl (va_cpy (fun j => cST0.getD j 0) (fun _ => 0) 0 0 8))), ((q18 4), .inl (cs 0, 40, .inl (fun j => if j < 40 then (-1) else 0))), ((q18 5), .inl (cs 0, 10, .inl (fun _ => 0)))]) (C := RX7) (T := TX7) (N := 5) (ty := .int) 7 0 X hP hD hS rfl rfl hin_X7 tyX7 tyX7_ok nmX7 2 rfl (tb_c1 (w := Cond.fieldLink "TillPairs$Tape" 22 "TillPairs$Tape" "length" "I") 94 rfl rfl) rfl rfl (by decide +kernel) rfl rfl rfl rfl dX7_init_26 (fun H locs hP hD hS => ?_)
  refine lv_aload_n hx hb dX7_init_29 rfl (lv_at hl 0 rfl) ?_
  refine lv_iconst (v := 0) hx hb dX7_init_30 rfl ?_
  refine k_put (l1 := [(h, .inr (7, [.ref q8, .ref q14, .int 0, .int 0, .int 0])), (q8, .inl (cs 0, 200, .inl (fun _ => 0))), (q14, .inr (2, [.int 0, .int 0, .ref (q18 0), .ref (q18 1), .ref (q18 2), .ref (q18 3), .ref (q18 4), .ref (q18 5)])), ((q18 0), .inl (cs 0, 8, .inl (fun _ => 0))), ((q18 1), .inl (cs 0, 8, .inl (fun _ => 0))), ((q18 2), .inl (cs 0, 64, .inl (fun _ => 0))), ((q18 3), .inl (cs 0, 8, .inl (va_cpy (fun j => cST0.getD j 0) (fun _ => 0) 0 0 8))), ((q18 4), .inl (cs 0, 40, .inl (fun j => if j < 40 then (-1) else 0))), ((q18 5), .inl (cs 0, 10, .inl (fun _ => 0)))]) (C := RX7) (T := TX7) (N := 5) (ty := .int) 7 0 X hP hD hS rfl rfl hin_X7 tyX7 tyX7_ok nmX7 3 rfl (tb_c1 (w := Cond.fieldLink "TillPairs$Tape" 26 "TillPairs$Tape" "at" "I") 96 rfl rfl) rfl rfl (by decide +kernel) rfl rfl rfl rfl dX7_init_31 (fun H locs hP hD hS => ?_)
  refine lv_aload_n hx hb dX7_init_34 rfl (lv_at hl 0 rfl) ?_
  refine lv_iconst (v := (-1)) hx hb dX7_init_35 rfl ?_
  refine k_put (l1 := [(h, .inr (7, [.ref q8, .ref q14, .int 0, .int 0, .int (-1)])), (q8, .inl (cs 0, 200, .inl (fun _ => 0))), (q14, .inr (2, [.int 0, .int 0, .ref (q18 0), .ref (q18 1), .ref (q18 2), .ref (q18 3), .ref (q18 4), .ref (q18 5)])), ((q18 0), .inl (cs 0, 8, .inl (fun _ => 0))), ((q18 1), .inl (cs 0, 8, .inl (fun _ => 0))), ((q18 2), .inl (cs 0, 64, .inl (fun _ => 0))), ((q18 3), .inl (cs 0, 8, .inl (va_cpy (fun j => cST0.getD j 0) (fun _ => 0) 0 0 8))), ((q18 4), .inl (cs 0, 40, .inl (fun j => if j < 40 then (-1) else 0))), ((q18 5), .inl (cs 0, 10, .inl (fun _ => 0)))]) (C := RX7) (T := TX7) (N := 5) (ty := .int) 7 0 X hP hD hS rfl rfl hin_X7 tyX7 tyX7_ok nmX7 4 rfl (tb_c1 (w := Cond.fieldLink "TillPairs$Tape" 29 "TillPairs$Tape" "fault" "I") 97 rfl rfl) rfl rfl (by decide +kernel) rfl rfl rfl rfl dX7_init_36 (fun H locs hP hD hS => ?_)
  exact hret H locs _ _ _ _ (fun k => [q8, q14, q18 0, q18 1, q18 2, q18 3, q18 4, q18 5].getD k 0) hP hD hS (Nat.le_of_ble_eq_true rfl) (Nat.le_of_ble_eq_true rfl) dX7_init_39

set_option maxRecDepth 20000 in
set_option maxHeartbeats 4000000 in
theorem ck_X3_init (l : Launch) (b0 : Nat) : CK l yX3_init cX3_init 2 1 12 0 0 [.ref b0] (.inr (3, [.null])) (fun cs h q => [(h, .inr (3, [.ref b0]))]) := by
  refine k_start RX3 rfl rfl (by decide) (fun _ => Nat.le_of_ble_eq_true rfl) (fun p e s m args below meth c R D cs sd A Q ls ws h X hin hP hD hS hl hret => ?_)
  have hx := X.1
  have hb := X.2.1
  have hl : lv_has ls 2 [(0, .ref h), (1, .ref b0)] := hl
  refine lv_aload_n hx hb dX3_init_0 rfl (lv_at hl 0 rfl) ?_
  refine k_objInit X hl dX3_init_1 (tb_c1 114 rfl rfl) (tb_c1 26 rfl rfl) (tb_c1 27 rfl rfl) ⟨rfl, rfl⟩ ?_
  refine lv_aload_n hx hb dX3_init_4 rfl (lv_at hl 0 rfl) ?_
  refine lv_aload_n hx hb dX3_init_5 rfl (lv_at hl 1 rfl) ?_
  refine k_putF (l1 := [(h, .inr (3, [.ref b0]))]) (C := RX3) (T := TX3) (N := 1) (ty := .object "TillPairs$House") 3 0 X hin hP hD hS rfl rfl hin_X3 tyX3 tyX3_ok nmX3 0 rfl (tb_c1 (w := Cond.fieldLink "TillPairs$Judge" 9 "TillPairs$Judge" "home" "LTillPairs$House;") 115 rfl rfl) rfl rfl rfl (by decide +kernel) rfl rfl rfl rfl dX3_init_6 (fun H locs hP hD hS => ?_)
  exact hret H locs _ _ _ _ (fun k => [].getD k 0) hP hD hS (Nat.le_of_ble_eq_true rfl) (Nat.le_of_ble_eq_true rfl) dX3_init_9

set_option maxRecDepth 20000 in
set_option maxHeartbeats 4000000 in
theorem ck_X4_init (l : Launch) (b0 : Nat) (b1 : Nat) : CK l yX4_init cX4_init 3 1 12 0 0 [.ref b0, .ref b1] (.inr (4, [.null, .null, .long 0, .long 0])) (fun cs h q => [(h, .inr (4, [.ref b0, .ref b1, .long 0, .long 1]))]) := by
  refine k_start RX4 rfl rfl (by decide) (fun _ => Nat.le_of_ble_eq_true rfl) (fun p e s m args below meth c R D cs sd A Q ls ws h X hin hP hD hS hl hret => ?_)
  have hx := X.1
  have hb := X.2.1
  have hl : lv_has ls 3 [(0, .ref h), (1, .ref b0), (2, .ref b1)] := hl
  refine lv_aload_n hx hb dX4_init_0 rfl (lv_at hl 0 rfl) ?_
  refine k_objInit X hl dX4_init_1 (tb_c1 124 rfl rfl) (tb_c1 26 rfl rfl) (tb_c1 27 rfl rfl) ⟨rfl, rfl⟩ ?_
  refine lv_aload_n hx hb dX4_init_4 rfl (lv_at hl 0 rfl) ?_
  refine lv_aload_n hx hb dX4_init_5 rfl (lv_at hl 1 rfl) ?_
  refine k_putF (l1 := [(h, .inr (4, [.ref b0, .null, .long 0, .long 0]))]) (C := RX4) (T := TX4) (N := 4) (ty := .object "TillPairs$House") 4 0 X hin hP hD hS rfl rfl hin_X4 tyX4 tyX4_ok nmX4 0 rfl (tb_c1 (w := Cond.fieldLink "TillPairs$Odds" 9 "TillPairs$Odds" "home" "LTillPairs$House;") 125 rfl rfl) rfl rfl rfl (by decide +kernel) rfl rfl rfl rfl dX4_init_6 (fun H locs hP hD hS => ?_)
  refine lv_aload_n hx hb dX4_init_9 rfl (lv_at hl 0 rfl) ?_
  refine lv_aload_n hx hb dX4_init_10 rfl (lv_at hl 2 rfl) ?_
  refine k_putF (l1 := [(h, .inr (4, [.ref b0, .ref b1, .long 0, .long 0]))]) (C := RX4) (T := TX4) (N := 4) (ty := .object "TillPairs$Judge") 4 0 X hin hP hD hS rfl rfl hin_X4 tyX4 tyX4_ok nmX4 1 rfl (tb_c1 (w := Cond.fieldLink "TillPairs$Odds" 15 "TillPairs$Odds" "mind" "LTillPairs$Judge;") 126 rfl rfl) rfl rfl rfl (by decide +kernel) rfl rfl rfl rfl dX4_init_11 (fun H locs hP hD hS => ?_)
  refine lv_aload_n hx hb dX4_init_14 rfl (lv_at hl 0 rfl) ?_
  refine lv_lconst (v := 0) hx hb dX4_init_15 rfl ?_
  refine k_put (l1 := [(h, .inr (4, [.ref b0, .ref b1, .long 0, .long 0]))]) (C := RX4) (T := TX4) (N := 4) (ty := .long) 4 0 X hP hD hS rfl rfl hin_X4 tyX4 tyX4_ok nmX4 2 rfl (tb_c1 (w := Cond.fieldLink "TillPairs$Odds" 19 "TillPairs$Odds" "above" "J") 127 rfl rfl) rfl rfl (by decide +kernel) rfl rfl rfl rfl dX4_init_16 (fun H locs hP hD hS => ?_)
  refine lv_aload_n hx hb dX4_init_19 rfl (lv_at hl 0 rfl) ?_
  refine lv_lconst (v := 1) hx hb dX4_init_20 rfl ?_
  refine k_put (l1 := [(h, .inr (4, [.ref b0, .ref b1, .long 0, .long 1]))]) (C := RX4) (T := TX4) (N := 4) (ty := .long) 4 0 X hP hD hS rfl rfl hin_X4 tyX4 tyX4_ok nmX4 3 rfl (tb_c1 (w := Cond.fieldLink "TillPairs$Odds" 23 "TillPairs$Odds" "below" "J") 129 rfl rfl) rfl rfl (by decide +kernel) rfl rfl rfl rfl dX4_init_21 (fun H locs hP hD hS => ?_)
  exact hret H locs _ _ _ _ (fun k => [].getD k 0) hP hD hS (Nat.le_of_ble_eq_true rfl) (Nat.le_of_ble_eq_true rfl) dX4_init_24

set_option maxRecDepth 20000 in
set_option maxHeartbeats 4000000 in
theorem ck_X8_init (l : Launch) (b0 : Nat) (b1 : Nat) : CK l yX8_init cX8_init 3 1 12 6 262 [.ref b0, .ref b1] (.inr (8, [.null, .null, .null, .null, .null, .int 0, .int 0])) (fun cs h q => [(h, .inr (8, [.ref b0, .ref b1, .ref (q 0), .ref (q 1), .ref (q 5), .int 0, .int 0])), (q 0, .inl (cs 0, 64, .inl (fun _ => 0))), (q 1, .inl (cs 2, 3, .inr (.inr (.inr (.inr (fun i => if i < 3 then some (q (2 + i)) else none)))))), (q 2, .inl (cs 0, 64, .inl (fun _ => 0))), (q 3, .inl (cs 0, 64, .inl (fun _ => 0))), (q 4, .inl (cs 0, 64, .inl (fun _ => 0))), (q 5, .inl (cs 0, 3, .inl (fun _ => 0)))]) := by
  refine k_start RX8 rfl rfl (by decide) (fun _ => Nat.le_of_ble_eq_true rfl) (fun p e s m args below meth c R D cs sd A Q ls ws h X hin hP hD hS hl hret => ?_)
  have hx := X.1
  have hb := X.2.1
  have hl : lv_has ls 3 [(0, .ref h), (1, .ref b0), (2, .ref b1)] := hl
  refine lv_aload_n hx hb dX8_init_0 rfl (lv_at hl 0 rfl) ?_
  refine k_objInit X hl dX8_init_1 (tb_c1 145 rfl rfl) (tb_c1 26 rfl rfl) (tb_c1 27 rfl rfl) ⟨rfl, rfl⟩ ?_
  refine lv_aload_n hx hb dX8_init_4 rfl (lv_at hl 0 rfl) ?_
  refine lv_aload_n hx hb dX8_init_5 rfl (lv_at hl 1 rfl) ?_
  refine k_putF (l1 := [(h, .inr (8, [.ref b0, .null, .null, .null, .null, .int 0, .int 0]))]) (C := RX8) (T := TX8) (N := 7) (ty := .object "TillPairs$House") 8 0 X hin hP hD hS rfl rfl hin_X8 tyX8 tyX8_ok nmX8 0 rfl (tb_c1 (w := Cond.fieldLink "TillPairs$Ways" 9 "TillPairs$Ways" "home" "LTillPairs$House;") 148 rfl rfl) rfl rfl rfl (by decide +kernel) rfl rfl rfl rfl dX8_init_6 (fun H locs hP hD hS => ?_)
  refine lv_aload_n hx hb dX8_init_9 rfl (lv_at hl 0 rfl) ?_
  refine lv_aload_n hx hb dX8_init_10 rfl (lv_at hl 2 rfl) ?_
  refine k_putF (l1 := [(h, .inr (8, [.ref b0, .ref b1, .null, .null, .null, .int 0, .int 0]))]) (C := RX8) (T := TX8) (N := 7) (ty := .object "TillPairs$Judge") 8 0 X hin hP hD hS rfl rfl hin_X8 tyX8 tyX8_ok nmX8 1 rfl (tb_c1 (w := Cond.fieldLink "TillPairs$Ways" 15 "TillPairs$Ways" "mind" "LTillPairs$Judge;") 149 rfl rfl) rfl rfl rfl (by decide +kernel) rfl rfl rfl rfl dX8_init_11 (fun H locs hP hD hS => ?_)
  refine lv_aload_n hx hb dX8_init_14 rfl (lv_at hl 0 rfl) ?_
  refine lv_bipush (v := 64) hx hb dX8_init_15 rfl ?_
  refine k_newI (N := 64) (fun q17 => [(h, .inr (8, [.ref b0, .ref b1, .null, .null, .null, .int 0, .int 0])), (q17, .inl (cs 0, 64, .inl (fun _ => 0)))]) X hP hD hS dX8_init_17 (tb_c1 83 rfl rfl) (by decide) rfl rfl rfl rfl (fun _ => rfl) (fun q17 H hP hD hS => ?_)
  refine W.cs (cells' := 1) (slots' := 64) rfl rfl ?_
  refine k_putF (l1 := [(h, .inr (8, [.ref b0, .ref b1, .ref q17, .null, .null, .int 0, .int 0])), (q17, .inl (cs 0, 64, .inl (fun _ => 0)))]) (C := RX8) (T := TX8) (N := 7) (ty := .array .int) 8 0 X hin hP hD hS rfl rfl hin_X8 tyX8 tyX8_ok nmX8 2 rfl (tb_c1 (w := Cond.fieldLink "TillPairs$Ways" 19 "TillPairs$Ways" "trusts" "[I") 150 rfl rfl) rfl rfl rfl (by decide +kernel) rfl rfl rfl rfl dX8_init_19 (fun H locs hP hD hS => ?_)
  refine lv_aload_n hx hb dX8_init_22 rfl (lv_at hl 0 rfl) ?_
  refine lv_iconst (v := 3) hx hb dX8_init_23 rfl ?_
  refine lv_bipush (v := 64) hx hb dX8_init_24 rfl ?_
  refine k_mna (N := 3) (K := 64) (fun q26 r26 => [(h, .inr (8, [.ref b0, .ref b1, .ref q17, .null, .null, .int 0, .int 0])), (q17, .inl (cs 0, 64, .inl (fun _ => 0))), (q26, .inl (cs 2, 3, .inr (.inr (.inr (.inr (fun i => if i < 3 then some (r26 i) else none)))))), ((r26 0), .inl (cs 0, 64, .inl (fun _ => 0))), ((r26 1), .inl (cs 0, 64, .inl (fun _ => 0))), ((r26 2), .inl (cs 0, 64, .inl (fun _ => 0)))]) X hP hD hS dX8_init_26 (tb_c1 146 rfl rfl) (tb_c1 83 rfl rfl) (by decide) rfl (by decide) rfl rfl rfl rfl rfl rfl (fun _ _ => rfl) (fun q26 r26 H hP hD hS => ?_)
  refine W.cs (cells' := 5) (slots' := 259) rfl rfl ?_
  refine k_putF (l1 := [(h, .inr (8, [.ref b0, .ref b1, .ref q17, .ref q26, .null, .int 0, .int 0])), (q17, .inl (cs 0, 64, .inl (fun _ => 0))), (q26, .inl (cs 2, 3, .inr (.inr (.inr (.inr (fun i => if i < 3 then some (r26 i) else none)))))), ((r26 0), .inl (cs 0, 64, .inl (fun _ => 0))), ((r26 1), .inl (cs 0, 64, .inl (fun _ => 0))), ((r26 2), .inl (cs 0, 64, .inl (fun _ => 0)))]) (C := RX8) (T := TX8) (N := 7) (ty := .array (.array .int)) 8 0 X hin hP hD hS rfl rfl hin_X8 tyX8 tyX8_ok nmX8 3 rfl (tb_c1 (w := Cond.fieldLink "TillPairs$Ways" 25 "TillPairs$Ways" "bounds" "[[I") 151 rfl rfl) rfl rfl rfl (by decide +kernel) rfl rfl rfl rfl dX8_init_30 (fun H locs hP hD hS => ?_)
  refine lv_aload_n hx hb dX8_init_33 rfl (lv_at hl 0 rfl) ?_
  refine lv_iconst (v := 3) hx hb dX8_init_34 rfl ?_
  refine k_newI (N := 3) (fun q35 => [(h, .inr (8, [.ref b0, .ref b1, .ref q17, .ref q26, .null, .int 0, .int 0])), (q17, .inl (cs 0, 64, .inl (fun _ => 0))), (q26, .inl (cs 2, 3, .inr (.inr (.inr (.inr (fun i => if i < 3 then some (r26 i) else none)))))), ((r26 0), .inl (cs 0, 64, .inl (fun _ => 0))), ((r26 1), .inl (cs 0, 64, .inl (fun _ => 0))), ((r26 2), .inl (cs 0, 64, .inl (fun _ => 0))), (q35, .inl (cs 0, 3, .inl (fun _ => 0)))]) X hP hD hS dX8_init_35 (tb_c1 83 rfl rfl) (by decide) rfl rfl rfl rfl (fun _ => rfl) (fun q35 H hP hD hS => ?_)
  refine W.cs (cells' := 6) (slots' := 262) rfl rfl ?_
  refine k_putF (l1 := [(h, .inr (8, [.ref b0, .ref b1, .ref q17, .ref q26, .ref q35, .int 0, .int 0])), (q17, .inl (cs 0, 64, .inl (fun _ => 0))), (q26, .inl (cs 2, 3, .inr (.inr (.inr (.inr (fun i => if i < 3 then some (r26 i) else none)))))), ((r26 0), .inl (cs 0, 64, .inl (fun _ => 0))), ((r26 1), .inl (cs 0, 64, .inl (fun _ => 0))), ((r26 2), .inl (cs 0, 64, .inl (fun _ => 0))), (q35, .inl (cs 0, 3, .inl (fun _ => 0)))]) (C := RX8) (T := TX8) (N := 7) (ty := .array .int) 8 0 X hin hP hD hS rfl rfl hin_X8 tyX8 tyX8_ok nmX8 4 rfl (tb_c1 (w := Cond.fieldLink "TillPairs$Ways" 28 "TillPairs$Ways" "chosen" "[I") 152 rfl rfl) rfl rfl rfl (by decide +kernel) rfl rfl rfl rfl dX8_init_37 (fun H locs hP hD hS => ?_)
  refine lv_aload_n hx hb dX8_init_40 rfl (lv_at hl 0 rfl) ?_
  refine lv_iconst (v := 0) hx hb dX8_init_41 rfl ?_
  refine k_put (l1 := [(h, .inr (8, [.ref b0, .ref b1, .ref q17, .ref q26, .ref q35, .int 0, .int 0])), (q17, .inl (cs 0, 64, .inl (fun _ => 0))), (q26, .inl (cs 2, 3, .inr (.inr (.inr (.inr (fun i => if i < 3 then some (r26 i) else none)))))), ((r26 0), .inl (cs 0, 64, .inl (fun _ => 0))), ((r26 1), .inl (cs 0, 64, .inl (fun _ => 0))), ((r26 2), .inl (cs 0, 64, .inl (fun _ => 0))), (q35, .inl (cs 0, 3, .inl (fun _ => 0)))]) (C := RX8) (T := TX8) (N := 7) (ty := .int) 8 0 X hP hD hS rfl rfl hin_X8 tyX8 tyX8_ok nmX8 5 rfl (tb_c1 (w := Cond.fieldLink "TillPairs$Ways" 31 "TillPairs$Ways" "changes" "I") 153 rfl rfl) rfl rfl (by decide +kernel) rfl rfl rfl rfl dX8_init_42 (fun H locs hP hD hS => ?_)
  refine lv_aload_n hx hb dX8_init_45 rfl (lv_at hl 0 rfl) ?_
  refine lv_iconst (v := 0) hx hb dX8_init_46 rfl ?_
  refine k_put (l1 := [(h, .inr (8, [.ref b0, .ref b1, .ref q17, .ref q26, .ref q35, .int 0, .int 0])), (q17, .inl (cs 0, 64, .inl (fun _ => 0))), (q26, .inl (cs 2, 3, .inr (.inr (.inr (.inr (fun i => if i < 3 then some (r26 i) else none)))))), ((r26 0), .inl (cs 0, 64, .inl (fun _ => 0))), ((r26 1), .inl (cs 0, 64, .inl (fun _ => 0))), ((r26 2), .inl (cs 0, 64, .inl (fun _ => 0))), (q35, .inl (cs 0, 3, .inl (fun _ => 0)))]) (C := RX8) (T := TX8) (N := 7) (ty := .int) 8 0 X hP hD hS rfl rfl hin_X8 tyX8 tyX8_ok nmX8 6 rfl (tb_c1 (w := Cond.fieldLink "TillPairs$Ways" 35 "TillPairs$Ways" "digits" "I") 155 rfl rfl) rfl rfl (by decide +kernel) rfl rfl rfl rfl dX8_init_47 (fun H locs hP hD hS => ?_)
  have e9 : (fun i => if i < 3 then some (r26 i) else none) = (fun i => if i < 3 then some ((fun k => [q17, q26, r26 0, r26 1, r26 2, q35].getD k 0) (2 + i)) else none) := by
    funext i
    by_cases h9 : i < 3
    · rw [if_pos h9, if_pos h9]
      rcases (show i = 0 ∨ i = 1 ∨ i = 2 by omega) with rfl | rfl | rfl <;> rfl
    · rw [if_neg h9, if_neg h9]
  rw [e9] at hP hD
  exact hret H locs _ _ _ _ (fun k => [q17, q26, r26 0, r26 1, r26 2, q35].getD k 0) hP hD hS (Nat.le_of_ble_eq_true rfl) (Nat.le_of_ble_eq_true rfl) dX8_init_50

set_option maxRecDepth 20000 in
set_option maxHeartbeats 4000000 in
theorem ck_X5_init (l : Launch) : CK l yX5_init cX5_init 1 1 12 3 12 [] (.inr (5, [.null, .null, .null, .int 0, .int 0])) (fun cs h q => [(h, .inr (5, [.ref (q 0), .ref (q 1), .ref (q 2), .int 0, .int 1])), (q 0, .inl (cs 0, 4, .inl (fun _ => 0))), (q 1, .inl (cs 0, 4, .inl (fun _ => 0))), (q 2, .inl (cs 0, 4, .inl (fun _ => 0)))]) := by
  refine k_start RX5 rfl rfl (by decide) (fun _ => Nat.le_of_ble_eq_true rfl) (fun p e s m args below meth c R D cs sd A Q ls ws h X hin hP hD hS hl hret => ?_)
  have hx := X.1
  have hb := X.2.1
  have hl : lv_has ls 1 [(0, .ref h)] := hl
  refine lv_aload_n hx hb dX5_init_0 rfl (lv_at hl 0 rfl) ?_
  refine k_objInit X hl dX5_init_1 (tb_c1 177 rfl rfl) (tb_c1 26 rfl rfl) (tb_c1 27 rfl rfl) ⟨rfl, rfl⟩ ?_
  refine lv_aload_n hx hb dX5_init_4 rfl (lv_at hl 0 rfl) ?_
  refine lv_iconst (v := 4) hx hb dX5_init_5 rfl ?_
  refine k_newI (N := 4) (fun q6 => [(h, .inr (5, [.null, .null, .null, .int 0, .int 0])), (q6, .inl (cs 0, 4, .inl (fun _ => 0)))]) X hP hD hS dX5_init_6 (tb_c1 83 rfl rfl) (by decide) rfl rfl rfl rfl (fun _ => rfl) (fun q6 H hP hD hS => ?_)
  refine W.cs (cells' := 1) (slots' := 4) rfl rfl ?_
  refine k_putF (l1 := [(h, .inr (5, [.ref q6, .null, .null, .int 0, .int 0])), (q6, .inl (cs 0, 4, .inl (fun _ => 0)))]) (C := RX5) (T := TX5) (N := 5) (ty := .array .int) 5 0 X hin hP hD hS rfl rfl hin_X5 tyX5 tyX5_ok nmX5 0 rfl (tb_c1 (w := Cond.fieldLink "TillPairs$Plans" 11 "TillPairs$Plans" "kinds" "[I") 178 rfl rfl) rfl rfl rfl (by decide +kernel) rfl rfl rfl rfl dX5_init_8 (fun H locs hP hD hS => ?_)
  refine lv_aload_n hx hb dX5_init_11 rfl (lv_at hl 0 rfl) ?_
  refine lv_iconst (v := 4) hx hb dX5_init_12 rfl ?_
  refine k_newI (N := 4) (fun q13 => [(h, .inr (5, [.ref q6, .null, .null, .int 0, .int 0])), (q6, .inl (cs 0, 4, .inl (fun _ => 0))), (q13, .inl (cs 0, 4, .inl (fun _ => 0)))]) X hP hD hS dX5_init_13 (tb_c1 83 rfl rfl) (by decide) rfl rfl rfl rfl (fun _ => rfl) (fun q13 H hP hD hS => ?_)
  refine W.cs (cells' := 2) (slots' := 8) rfl rfl ?_
  refine k_putF (l1 := [(h, .inr (5, [.ref q6, .ref q13, .null, .int 0, .int 0])), (q6, .inl (cs 0, 4, .inl (fun _ => 0))), (q13, .inl (cs 0, 4, .inl (fun _ => 0)))]) (C := RX5) (T := TX5) (N := 5) (ty := .array .int) 5 0 X hin hP hD hS rfl rfl hin_X5 tyX5 tyX5_ok nmX5 1 rfl (tb_c1 (w := Cond.fieldLink "TillPairs$Plans" 15 "TillPairs$Plans" "as" "[I") 180 rfl rfl) rfl rfl rfl (by decide +kernel) rfl rfl rfl rfl dX5_init_15 (fun H locs hP hD hS => ?_)
  refine lv_aload_n hx hb dX5_init_18 rfl (lv_at hl 0 rfl) ?_
  refine lv_iconst (v := 4) hx hb dX5_init_19 rfl ?_
  refine k_newI (N := 4) (fun q20 => [(h, .inr (5, [.ref q6, .ref q13, .null, .int 0, .int 0])), (q6, .inl (cs 0, 4, .inl (fun _ => 0))), (q13, .inl (cs 0, 4, .inl (fun _ => 0))), (q20, .inl (cs 0, 4, .inl (fun _ => 0)))]) X hP hD hS dX5_init_20 (tb_c1 83 rfl rfl) (by decide) rfl rfl rfl rfl (fun _ => rfl) (fun q20 H hP hD hS => ?_)
  refine W.cs (cells' := 3) (slots' := 12) rfl rfl ?_
  refine k_putF (l1 := [(h, .inr (5, [.ref q6, .ref q13, .ref q20, .int 0, .int 0])), (q6, .inl (cs 0, 4, .inl (fun _ => 0))), (q13, .inl (cs 0, 4, .inl (fun _ => 0))), (q20, .inl (cs 0, 4, .inl (fun _ => 0)))]) (C := RX5) (T := TX5) (N := 5) (ty := .array .int) 5 0 X hin hP hD hS rfl rfl hin_X5 tyX5 tyX5_ok nmX5 2 rfl (tb_c1 (w := Cond.fieldLink "TillPairs$Plans" 18 "TillPairs$Plans" "seated" "[I") 182 rfl rfl) rfl rfl rfl (by decide +kernel) rfl rfl rfl rfl dX5_init_22 (fun H locs hP hD hS => ?_)
  refine lv_aload_n hx hb dX5_init_25 rfl (lv_at hl 0 rfl) ?_
  refine lv_iconst (v := 0) hx hb dX5_init_26 rfl ?_
  refine k_put (l1 := [(h, .inr (5, [.ref q6, .ref q13, .ref q20, .int 0, .int 0])), (q6, .inl (cs 0, 4, .inl (fun _ => 0))), (q13, .inl (cs 0, 4, .inl (fun _ => 0))), (q20, .inl (cs 0, 4, .inl (fun _ => 0)))]) (C := RX5) (T := TX5) (N := 5) (ty := .int) 5 0 X hP hD hS rfl rfl hin_X5 tyX5 tyX5_ok nmX5 3 rfl (tb_c1 (w := Cond.fieldLink "TillPairs$Plans" 21 "TillPairs$Plans" "count" "I") 183 rfl rfl) rfl rfl (by decide +kernel) rfl rfl rfl rfl dX5_init_27 (fun H locs hP hD hS => ?_)
  refine lv_aload_n hx hb dX5_init_30 rfl (lv_at hl 0 rfl) ?_
  refine lv_iconst (v := 1) hx hb dX5_init_31 rfl ?_
  refine k_put (l1 := [(h, .inr (5, [.ref q6, .ref q13, .ref q20, .int 0, .int 1])), (q6, .inl (cs 0, 4, .inl (fun _ => 0))), (q13, .inl (cs 0, 4, .inl (fun _ => 0))), (q20, .inl (cs 0, 4, .inl (fun _ => 0)))]) (C := RX5) (T := TX5) (N := 5) (ty := .int) 5 0 X hP hD hS rfl rfl hin_X5 tyX5 tyX5_ok nmX5 4 rfl (tb_c1 (w := Cond.fieldLink "TillPairs$Plans" 25 "TillPairs$Plans" "z" "I") 185 rfl rfl) rfl rfl (by decide +kernel) rfl rfl rfl rfl dX5_init_32 (fun H locs hP hD hS => ?_)
  exact hret H locs _ _ _ _ (fun k => [q6, q13, q20].getD k 0) hP hD hS (Nat.le_of_ble_eq_true rfl) (Nat.le_of_ble_eq_true rfl) dX5_init_35

set_option maxRecDepth 20000 in
set_option maxHeartbeats 4000000 in
theorem ck_X6_init (l : Launch) (b0 : Nat) (b1 : Nat) : CK l yX6_init cX6_init 3 1 12 1 30 [.ref b0, .ref b1] (.inr (6, [.null, .null, .null, .int 0])) (fun cs h q => [(h, .inr (6, [.ref b0, .ref b1, .ref (q 0), .int 0])), (q 0, .inl (cs 0, 30, .inl (fun _ => 0)))]) := by
  refine k_start RX6 rfl rfl (by decide) (fun _ => Nat.le_of_ble_eq_true rfl) (fun p e s m args below meth c R D cs sd A Q ls ws h X hin hP hD hS hl hret => ?_)
  have hx := X.1
  have hb := X.2.1
  have hl : lv_has ls 3 [(0, .ref h), (1, .ref b0), (2, .ref b1)] := hl
  refine lv_aload_n hx hb dX6_init_0 rfl (lv_at hl 0 rfl) ?_
  refine k_objInit X hl dX6_init_1 (tb_c1 203 rfl rfl) (tb_c1 26 rfl rfl) (tb_c1 27 rfl rfl) ⟨rfl, rfl⟩ ?_
  refine lv_aload_n hx hb dX6_init_4 rfl (lv_at hl 0 rfl) ?_
  refine lv_aload_n hx hb dX6_init_5 rfl (lv_at hl 1 rfl) ?_
  refine k_putF (l1 := [(h, .inr (6, [.ref b0, .null, .null, .int 0]))]) (C := RX6) (T := TX6) (N := 4) (ty := .object "TillPairs$House") 6 0 X hin hP hD hS rfl rfl hin_X6 tyX6 tyX6_ok nmX6 0 rfl (tb_c1 (w := Cond.fieldLink "TillPairs$Rows" 9 "TillPairs$Rows" "home" "LTillPairs$House;") 204 rfl rfl) rfl rfl rfl (by decide +kernel) rfl rfl rfl rfl dX6_init_6 (fun H locs hP hD hS => ?_)
  refine lv_aload_n hx hb dX6_init_9 rfl (lv_at hl 0 rfl) ?_
  refine lv_aload_n hx hb dX6_init_10 rfl (lv_at hl 2 rfl) ?_
  refine k_putF (l1 := [(h, .inr (6, [.ref b0, .ref b1, .null, .int 0]))]) (C := RX6) (T := TX6) (N := 4) (ty := .object "TillPairs$Judge") 6 0 X hin hP hD hS rfl rfl hin_X6 tyX6 tyX6_ok nmX6 1 rfl (tb_c1 (w := Cond.fieldLink "TillPairs$Rows" 15 "TillPairs$Rows" "mind" "LTillPairs$Judge;") 205 rfl rfl) rfl rfl rfl (by decide +kernel) rfl rfl rfl rfl dX6_init_11 (fun H locs hP hD hS => ?_)
  refine lv_aload_n hx hb dX6_init_14 rfl (lv_at hl 0 rfl) ?_
  refine lv_bipush (v := 30) hx hb dX6_init_15 rfl ?_
  refine k_newI (N := 30) (fun q17 => [(h, .inr (6, [.ref b0, .ref b1, .null, .int 0])), (q17, .inl (cs 0, 30, .inl (fun _ => 0)))]) X hP hD hS dX6_init_17 (tb_c1 83 rfl rfl) (by decide) rfl rfl rfl rfl (fun _ => rfl) (fun q17 H hP hD hS => ?_)
  refine W.cs (cells' := 1) (slots' := 30) rfl rfl ?_
  refine k_putF (l1 := [(h, .inr (6, [.ref b0, .ref b1, .ref q17, .int 0])), (q17, .inl (cs 0, 30, .inl (fun _ => 0)))]) (C := RX6) (T := TX6) (N := 4) (ty := .array .int) 6 0 X hin hP hD hS rfl rfl hin_X6 tyX6 tyX6_ok nmX6 2 rfl (tb_c1 (w := Cond.fieldLink "TillPairs$Rows" 19 "TillPairs$Rows" "cells" "[I") 206 rfl rfl) rfl rfl rfl (by decide +kernel) rfl rfl rfl rfl dX6_init_19 (fun H locs hP hD hS => ?_)
  refine lv_aload_n hx hb dX6_init_22 rfl (lv_at hl 0 rfl) ?_
  refine lv_iconst (v := 0) hx hb dX6_init_23 rfl ?_
  refine k_put (l1 := [(h, .inr (6, [.ref b0, .ref b1, .ref q17, .int 0])), (q17, .inl (cs 0, 30, .inl (fun _ => 0)))]) (C := RX6) (T := TX6) (N := 4) (ty := .int) 6 0 X hP hD hS rfl rfl hin_X6 tyX6 tyX6_ok nmX6 3 rfl (tb_c1 (w := Cond.fieldLink "TillPairs$Rows" 23 "TillPairs$Rows" "count" "I") 208 rfl rfl) rfl rfl (by decide +kernel) rfl rfl rfl rfl dX6_init_24 (fun H locs hP hD hS => ?_)
  exact hret H locs _ _ _ _ (fun k => [q17].getD k 0) hP hD hS (Nat.le_of_ble_eq_true rfl) (Nat.le_of_ble_eq_true rfl) dX6_init_27

set_option maxRecDepth 20000 in
set_option maxHeartbeats 4000000 in
theorem ck_X0_init (l : Launch) : CK l yX0_init cX0_init 1 1 12 1 30 [] (.inr (0, [.null, .int 0, .int 0, .int 0, .int 0, .int 0])) (fun cs h q => [(h, .inr (0, [.ref (q 0), .int 0, .int 0, .int 0, .int 0, .int 0])), (q 0, .inl (cs 0, 30, .inl (fun _ => 0)))]) := by
  refine k_start RX0 rfl rfl (by decide) (fun _ => Nat.le_of_ble_eq_true rfl) (fun p e s m args below meth c R D cs sd A Q ls ws h X hin hP hD hS hl hret => ?_)
  have hx := X.1
  have hb := X.2.1
  have hl : lv_has ls 1 [(0, .ref h)] := hl
  refine lv_aload_n hx hb dX0_init_0 rfl (lv_at hl 0 rfl) ?_
  refine k_objInit X hl dX0_init_1 (tb_c1 224 rfl rfl) (tb_c1 26 rfl rfl) (tb_c1 27 rfl rfl) ⟨rfl, rfl⟩ ?_
  refine lv_aload_n hx hb dX0_init_4 rfl (lv_at hl 0 rfl) ?_
  refine lv_bipush (v := 30) hx hb dX0_init_5 rfl ?_
  refine k_newI (N := 30) (fun q7 => [(h, .inr (0, [.null, .int 0, .int 0, .int 0, .int 0, .int 0])), (q7, .inl (cs 0, 30, .inl (fun _ => 0)))]) X hP hD hS dX0_init_7 (tb_c1 83 rfl rfl) (by decide) rfl rfl rfl rfl (fun _ => rfl) (fun q7 H hP hD hS => ?_)
  refine W.cs (cells' := 1) (slots' := 30) rfl rfl ?_
  refine k_putF (l1 := [(h, .inr (0, [.ref q7, .int 0, .int 0, .int 0, .int 0, .int 0])), (q7, .inl (cs 0, 30, .inl (fun _ => 0)))]) (C := RX0) (T := TX0) (N := 6) (ty := .array .int) 0 0 X hin hP hD hS rfl rfl hin_X0 tyX0 tyX0_ok nmX0 0 rfl (tb_c1 (w := Cond.fieldLink "TillPairs$Acts" 11 "TillPairs$Acts" "noted" "[I") 225 rfl rfl) rfl rfl rfl (by decide +kernel) rfl rfl rfl rfl dX0_init_9 (fun H locs hP hD hS => ?_)
  refine lv_aload_n hx hb dX0_init_12 rfl (lv_at hl 0 rfl) ?_
  refine lv_iconst (v := 0) hx hb dX0_init_13 rfl ?_
  refine k_put (l1 := [(h, .inr (0, [.ref q7, .int 0, .int 0, .int 0, .int 0, .int 0])), (q7, .inl (cs 0, 30, .inl (fun _ => 0)))]) (C := RX0) (T := TX0) (N := 6) (ty := .int) 0 0 X hP hD hS rfl rfl hin_X0 tyX0 tyX0_ok nmX0 1 rfl (tb_c1 (w := Cond.fieldLink "TillPairs$Acts" 15 "TillPairs$Acts" "bodies" "I") 227 rfl rfl) rfl rfl (by decide +kernel) rfl rfl rfl rfl dX0_init_14 (fun H locs hP hD hS => ?_)
  refine lv_aload_n hx hb dX0_init_17 rfl (lv_at hl 0 rfl) ?_
  refine lv_iconst (v := 0) hx hb dX0_init_18 rfl ?_
  refine k_put (l1 := [(h, .inr (0, [.ref q7, .int 0, .int 0, .int 0, .int 0, .int 0])), (q7, .inl (cs 0, 30, .inl (fun _ => 0)))]) (C := RX0) (T := TX0) (N := 6) (ty := .int) 0 0 X hP hD hS rfl rfl hin_X0 tyX0 tyX0_ok nmX0 2 rfl (tb_c1 (w := Cond.fieldLink "TillPairs$Acts" 19 "TillPairs$Acts" "kind" "I") 229 rfl rfl) rfl rfl (by decide +kernel) rfl rfl rfl rfl dX0_init_19 (fun H locs hP hD hS => ?_)
  refine lv_aload_n hx hb dX0_init_22 rfl (lv_at hl 0 rfl) ?_
  refine lv_iconst (v := 0) hx hb dX0_init_23 rfl ?_
  refine k_put (l1 := [(h, .inr (0, [.ref q7, .int 0, .int 0, .int 0, .int 0, .int 0])), (q7, .inl (cs 0, 30, .inl (fun _ => 0)))]) (C := RX0) (T := TX0) (N := 6) (ty := .int) 0 0 X hP hD hS rfl rfl hin_X0 tyX0 tyX0_ok nmX0 3 rfl (tb_c1 (w := Cond.fieldLink "TillPairs$Acts" 22 "TillPairs$Acts" "number" "I") 230 rfl rfl) rfl rfl (by decide +kernel) rfl rfl rfl rfl dX0_init_24 (fun H locs hP hD hS => ?_)
  refine lv_aload_n hx hb dX0_init_27 rfl (lv_at hl 0 rfl) ?_
  refine lv_iconst (v := 0) hx hb dX0_init_28 rfl ?_
  refine k_put (l1 := [(h, .inr (0, [.ref q7, .int 0, .int 0, .int 0, .int 0, .int 0])), (q7, .inl (cs 0, 30, .inl (fun _ => 0)))]) (C := RX0) (T := TX0) (N := 6) (ty := .int) 0 0 X hP hD hS rfl rfl hin_X0 tyX0 tyX0_ok nmX0 4 rfl (tb_c1 (w := Cond.fieldLink "TillPairs$Acts" 25 "TillPairs$Acts" "a" "I") 231 rfl rfl) rfl rfl (by decide +kernel) rfl rfl rfl rfl dX0_init_29 (fun H locs hP hD hS => ?_)
  refine lv_aload_n hx hb dX0_init_32 rfl (lv_at hl 0 rfl) ?_
  refine lv_iconst (v := 0) hx hb dX0_init_33 rfl ?_
  refine k_put (l1 := [(h, .inr (0, [.ref q7, .int 0, .int 0, .int 0, .int 0, .int 0])), (q7, .inl (cs 0, 30, .inl (fun _ => 0)))]) (C := RX0) (T := TX0) (N := 6) (ty := .boolean) 0 0 X hP hD hS rfl rfl hin_X0 tyX0 tyX0_ok nmX0 5 rfl (tb_c1 (w := Cond.fieldLink "TillPairs$Acts" 28 "TillPairs$Acts" "parted" "Z") 232 rfl rfl) rfl rfl (by decide +kernel) rfl rfl rfl rfl dX0_init_34 (fun H locs hP hD hS => ?_)
  exact hret H locs _ _ _ _ (fun k => [q7].getD k 0) hP hD hS (Nat.le_of_ble_eq_true rfl) (Nat.le_of_ble_eq_true rfl) dX0_init_37

set_option maxRecDepth 20000 in
set_option maxHeartbeats 4000000 in
theorem ck_X1_init (l : Launch) : CK l yX1_init cX1_init 1 1 23 10 184 [] (.inr (1, [.null, .null, .null, .null, .null, .null])) (fun cs h q => [(h, .inr (1, [.ref (q 0), .ref (q 1), .ref (q 2), .ref (q 7), .ref (q 8), .ref (q 9)])), (q 0, .inl (cs 0, 4, .inl (fun j => if j < 4 then (-1) else 0))), (q 1, .inl (cs 0, 4, .inl (fun _ => 0))), (q 2, .inl (cs 2, 4, .inr (.inr (.inr (.inr (fun i => if i < 4 then some (q (3 + i)) else none)))))), (q 3, .inl (cs 0, 40, .inl (fun _ => 0))), (q 4, .inl (cs 0, 40, .inl (fun _ => 0))), (q 5, .inl (cs 0, 40, .inl (fun _ => 0))), (q 6, .inl (cs 0, 40, .inl (fun _ => 0))), (q 7, .inl (cs 0, 4, .inl (fun j => if j < 4 then 2 else 0))), (q 8, .inl (cs 0, 4, .inl (fun _ => 0))), (q 9, .inl (cs 0, 4, .inl (fun _ => 0)))]) := by
  refine k_start RX1 rfl rfl (by decide) (fun _ => Nat.le_of_ble_eq_true rfl) (fun p e s m args below meth c R D cs sd A Q ls ws h X hin hP hD hS hl hret => ?_)
  have hx := X.1
  have hb := X.2.1
  have hl : lv_has ls 1 [(0, .ref h)] := hl
  refine lv_aload_n hx hb dX1_init_0 rfl (lv_at hl 0 rfl) ?_
  refine k_objInit X hl dX1_init_1 (tb_c2 11 rfl rfl) (tb_c1 26 rfl rfl) (tb_c1 27 rfl rfl) ⟨rfl, rfl⟩ ?_
  refine lv_aload_n hx hb dX1_init_4 rfl (lv_at hl 0 rfl) ?_
  refine lv_iconst (v := 4) hx hb dX1_init_5 rfl ?_
  refine k_newI (N := 4) (fun q6 => [(h, .inr (1, [.null, .null, .null, .null, .null, .null])), (q6, .inl (cs 0, 4, .inl (fun _ => 0)))]) X hP hD hS dX1_init_6 (tb_c1 83 rfl rfl) (by decide) rfl rfl rfl rfl (fun _ => rfl) (fun q6 H hP hD hS => ?_)
  refine W.cs (cells' := 1) (slots' := 4) rfl rfl ?_
  refine k_putF (l1 := [(h, .inr (1, [.ref q6, .null, .null, .null, .null, .null])), (q6, .inl (cs 0, 4, .inl (fun _ => 0)))]) (C := RX1) (T := TX1) (N := 6) (ty := .array .int) 1 0 X hin hP hD hS rfl rfl hin_X1 tyX1 tyX1_ok nmX1 0 rfl (tb_c2 (w := Cond.fieldLink "TillPairs$Host" 9 "TillPairs$Host" "sorts" "[I") 14 rfl rfl) rfl rfl rfl (by decide +kernel) rfl rfl rfl rfl dX1_init_8 (fun H locs hP hD hS => ?_)
  refine lv_aload_n hx hb dX1_init_11 rfl (lv_at hl 0 rfl) ?_
  refine lv_iconst (v := 4) hx hb dX1_init_12 rfl ?_
  refine k_newI (N := 4) (fun q13 => [(h, .inr (1, [.ref q6, .null, .null, .null, .null, .null])), (q6, .inl (cs 0, 4, .inl (fun _ => 0))), (q13, .inl (cs 0, 4, .inl (fun _ => 0)))]) X hP hD hS dX1_init_13 (tb_c1 83 rfl rfl) (by decide) rfl rfl rfl rfl (fun _ => rfl) (fun q13 H hP hD hS => ?_)
  refine W.cs (cells' := 2) (slots' := 8) rfl rfl ?_
  refine k_putF (l1 := [(h, .inr (1, [.ref q6, .ref q13, .null, .null, .null, .null])), (q6, .inl (cs 0, 4, .inl (fun _ => 0))), (q13, .inl (cs 0, 4, .inl (fun _ => 0)))]) (C := RX1) (T := TX1) (N := 6) (ty := .array .int) 1 0 X hin hP hD hS rfl rfl hin_X1 tyX1 tyX1_ok nmX1 1 rfl (tb_c2 (w := Cond.fieldLink "TillPairs$Host" 13 "TillPairs$Host" "lengths" "[I") 16 rfl rfl) rfl rfl rfl (by decide +kernel) rfl rfl rfl rfl dX1_init_15 (fun H locs hP hD hS => ?_)
  refine lv_aload_n hx hb dX1_init_18 rfl (lv_at hl 0 rfl) ?_
  refine lv_iconst (v := 4) hx hb dX1_init_19 rfl ?_
  refine lv_bipush (v := 40) hx hb dX1_init_20 rfl ?_
  refine k_mna (N := 4) (K := 40) (fun q22 r22 => [(h, .inr (1, [.ref q6, .ref q13, .null, .null, .null, .null])), (q6, .inl (cs 0, 4, .inl (fun _ => 0))), (q13, .inl (cs 0, 4, .inl (fun _ => 0))), (q22, .inl (cs 2, 4, .inr (.inr (.inr (.inr (fun i => if i < 4 then some (r22 i) else none)))))), ((r22 0), .inl (cs 0, 40, .inl (fun _ => 0))), ((r22 1), .inl (cs 0, 40, .inl (fun _ => 0))), ((r22 2), .inl (cs 0, 40, .inl (fun _ => 0))), ((r22 3), .inl (cs 0, 40, .inl (fun _ => 0)))]) X hP hD hS dX1_init_22 (tb_c2 12 rfl rfl) (tb_c1 83 rfl rfl) (by decide) rfl (by decide) rfl rfl rfl rfl rfl rfl (fun _ _ => rfl) (fun q22 r22 H hP hD hS => ?_)
  refine W.cs (cells' := 7) (slots' := 172) rfl rfl ?_
  refine k_putF (l1 := [(h, .inr (1, [.ref q6, .ref q13, .ref q22, .null, .null, .null])), (q6, .inl (cs 0, 4, .inl (fun _ => 0))), (q13, .inl (cs 0, 4, .inl (fun _ => 0))), (q22, .inl (cs 2, 4, .inr (.inr (.inr (.inr (fun i => if i < 4 then some (r22 i) else none)))))), ((r22 0), .inl (cs 0, 40, .inl (fun _ => 0))), ((r22 1), .inl (cs 0, 40, .inl (fun _ => 0))), ((r22 2), .inl (cs 0, 40, .inl (fun _ => 0))), ((r22 3), .inl (cs 0, 40, .inl (fun _ => 0)))]) (C := RX1) (T := TX1) (N := 6) (ty := .array (.array .int)) 1 0 X hin hP hD hS rfl rfl hin_X1 tyX1 tyX1_ok nmX1 2 rfl (tb_c2 (w := Cond.fieldLink "TillPairs$Host" 18 "TillPairs$Host" "items" "[[I") 18 rfl rfl) rfl rfl rfl (by decide +kernel) rfl rfl rfl rfl dX1_init_26 (fun H locs hP hD hS => ?_)
  refine lv_aload_n hx hb dX1_init_29 rfl (lv_at hl 0 rfl) ?_
  refine lv_iconst (v := 4) hx hb dX1_init_30 rfl ?_
  refine k_newI (N := 4) (fun q31 => [(h, .inr (1, [.ref q6, .ref q13, .ref q22, .null, .null, .null])), (q6, .inl (cs 0, 4, .inl (fun _ => 0))), (q13, .inl (cs 0, 4, .inl (fun _ => 0))), (q22, .inl (cs 2, 4, .inr (.inr (.inr (.inr (fun i => if i < 4 then some (r22 i) else none)))))), ((r22 0), .inl (cs 0, 40, .inl (fun _ => 0))), ((r22 1), .inl (cs 0, 40, .inl (fun _ => 0))), ((r22 2), .inl (cs 0, 40, .inl (fun _ => 0))), ((r22 3), .inl (cs 0, 40, .inl (fun _ => 0))), (q31, .inl (cs 0, 4, .inl (fun _ => 0)))]) X hP hD hS dX1_init_31 (tb_c1 83 rfl rfl) (by decide) rfl rfl rfl rfl (fun _ => rfl) (fun q31 H hP hD hS => ?_)
  refine W.cs (cells' := 8) (slots' := 176) rfl rfl ?_
  refine k_putF (l1 := [(h, .inr (1, [.ref q6, .ref q13, .ref q22, .ref q31, .null, .null])), (q6, .inl (cs 0, 4, .inl (fun _ => 0))), (q13, .inl (cs 0, 4, .inl (fun _ => 0))), (q22, .inl (cs 2, 4, .inr (.inr (.inr (.inr (fun i => if i < 4 then some (r22 i) else none)))))), ((r22 0), .inl (cs 0, 40, .inl (fun _ => 0))), ((r22 1), .inl (cs 0, 40, .inl (fun _ => 0))), ((r22 2), .inl (cs 0, 40, .inl (fun _ => 0))), ((r22 3), .inl (cs 0, 40, .inl (fun _ => 0))), (q31, .inl (cs 0, 4, .inl (fun _ => 0)))]) (C := RX1) (T := TX1) (N := 6) (ty := .array .int) 1 0 X hin hP hD hS rfl rfl hin_X1 tyX1 tyX1_ok nmX1 3 rfl (tb_c2 (w := Cond.fieldLink "TillPairs$Host" 21 "TillPairs$Host" "heldWhat" "[I") 20 rfl rfl) rfl rfl rfl (by decide +kernel) rfl rfl rfl rfl dX1_init_33 (fun H locs hP hD hS => ?_)
  refine lv_aload_n hx hb dX1_init_36 rfl (lv_at hl 0 rfl) ?_
  refine lv_iconst (v := 4) hx hb dX1_init_37 rfl ?_
  refine k_newI (N := 4) (fun q38 => [(h, .inr (1, [.ref q6, .ref q13, .ref q22, .ref q31, .null, .null])), (q6, .inl (cs 0, 4, .inl (fun _ => 0))), (q13, .inl (cs 0, 4, .inl (fun _ => 0))), (q22, .inl (cs 2, 4, .inr (.inr (.inr (.inr (fun i => if i < 4 then some (r22 i) else none)))))), ((r22 0), .inl (cs 0, 40, .inl (fun _ => 0))), ((r22 1), .inl (cs 0, 40, .inl (fun _ => 0))), ((r22 2), .inl (cs 0, 40, .inl (fun _ => 0))), ((r22 3), .inl (cs 0, 40, .inl (fun _ => 0))), (q31, .inl (cs 0, 4, .inl (fun _ => 0))), (q38, .inl (cs 0, 4, .inl (fun _ => 0)))]) X hP hD hS dX1_init_38 (tb_c1 83 rfl rfl) (by decide) rfl rfl rfl rfl (fun _ => rfl) (fun q38 H hP hD hS => ?_)
  refine W.cs (cells' := 9) (slots' := 180) rfl rfl ?_
  refine k_putF (l1 := [(h, .inr (1, [.ref q6, .ref q13, .ref q22, .ref q31, .ref q38, .null])), (q6, .inl (cs 0, 4, .inl (fun _ => 0))), (q13, .inl (cs 0, 4, .inl (fun _ => 0))), (q22, .inl (cs 2, 4, .inr (.inr (.inr (.inr (fun i => if i < 4 then some (r22 i) else none)))))), ((r22 0), .inl (cs 0, 40, .inl (fun _ => 0))), ((r22 1), .inl (cs 0, 40, .inl (fun _ => 0))), ((r22 2), .inl (cs 0, 40, .inl (fun _ => 0))), ((r22 3), .inl (cs 0, 40, .inl (fun _ => 0))), (q31, .inl (cs 0, 4, .inl (fun _ => 0))), (q38, .inl (cs 0, 4, .inl (fun _ => 0)))]) (C := RX1) (T := TX1) (N := 6) (ty := .array .int) 1 0 X hin hP hD hS rfl rfl hin_X1 tyX1 tyX1_ok nmX1 4 rfl (tb_c2 (w := Cond.fieldLink "TillPairs$Host" 24 "TillPairs$Host" "heldSort" "[I") 21 rfl rfl) rfl rfl rfl (by decide +kernel) rfl rfl rfl rfl dX1_init_40 (fun H locs hP hD hS => ?_)
  refine lv_aload_n hx hb dX1_init_43 rfl (lv_at hl 0 rfl) ?_
  refine lv_iconst (v := 4) hx hb dX1_init_44 rfl ?_
  refine k_newI (N := 4) (fun q45 => [(h, .inr (1, [.ref q6, .ref q13, .ref q22, .ref q31, .ref q38, .null])), (q6, .inl (cs 0, 4, .inl (fun _ => 0))), (q13, .inl (cs 0, 4, .inl (fun _ => 0))), (q22, .inl (cs 2, 4, .inr (.inr (.inr (.inr (fun i => if i < 4 then some (r22 i) else none)))))), ((r22 0), .inl (cs 0, 40, .inl (fun _ => 0))), ((r22 1), .inl (cs 0, 40, .inl (fun _ => 0))), ((r22 2), .inl (cs 0, 40, .inl (fun _ => 0))), ((r22 3), .inl (cs 0, 40, .inl (fun _ => 0))), (q31, .inl (cs 0, 4, .inl (fun _ => 0))), (q38, .inl (cs 0, 4, .inl (fun _ => 0))), (q45, .inl (cs 0, 4, .inl (fun _ => 0)))]) X hP hD hS dX1_init_45 (tb_c1 83 rfl rfl) (by decide) rfl rfl rfl rfl (fun _ => rfl) (fun q45 H hP hD hS => ?_)
  refine W.cs (cells' := 10) (slots' := 184) rfl rfl ?_
  refine k_putF (l1 := [(h, .inr (1, [.ref q6, .ref q13, .ref q22, .ref q31, .ref q38, .ref q45])), (q6, .inl (cs 0, 4, .inl (fun _ => 0))), (q13, .inl (cs 0, 4, .inl (fun _ => 0))), (q22, .inl (cs 2, 4, .inr (.inr (.inr (.inr (fun i => if i < 4 then some (r22 i) else none)))))), ((r22 0), .inl (cs 0, 40, .inl (fun _ => 0))), ((r22 1), .inl (cs 0, 40, .inl (fun _ => 0))), ((r22 2), .inl (cs 0, 40, .inl (fun _ => 0))), ((r22 3), .inl (cs 0, 40, .inl (fun _ => 0))), (q31, .inl (cs 0, 4, .inl (fun _ => 0))), (q38, .inl (cs 0, 4, .inl (fun _ => 0))), (q45, .inl (cs 0, 4, .inl (fun _ => 0)))]) (C := RX1) (T := TX1) (N := 6) (ty := .array .int) 1 0 X hin hP hD hS rfl rfl hin_X1 tyX1 tyX1_ok nmX1 5 rfl (tb_c2 (w := Cond.fieldLink "TillPairs$Host" 27 "TillPairs$Host" "held" "[I") 23 rfl rfl) rfl rfl rfl (by decide +kernel) rfl rfl rfl rfl dX1_init_47 (fun H locs hP hD hS => ?_)
  refine lv_aload_n hx hb dX1_init_50 rfl (lv_at hl 0 rfl) ?_
  refine k_get (C := RX1) (T := TX1) (N := 6) 1 0 X hP rfl rfl hin_X1 0 rfl (tb_c2 (w := Cond.fieldLink "TillPairs$Host" 9 "TillPairs$Host" "sorts" "[I") 14 rfl rfl) rfl rfl dX1_init_51 ?_
  refine lv_iconst (v := (-1)) hx hb dX1_init_54 rfl ?_
  refine k_fill (l1 := [(h, .inr (1, [.ref q6, .ref q13, .ref q22, .ref q31, .ref q38, .ref q45])), (q6, .inl (cs 0, 4, .inl (fun j => if j < 4 then (-1) else 0))), (q13, .inl (cs 0, 4, .inl (fun _ => 0))), (q22, .inl (cs 2, 4, .inr (.inr (.inr (.inr (fun i => if i < 4 then some (r22 i) else none)))))), ((r22 0), .inl (cs 0, 40, .inl (fun _ => 0))), ((r22 1), .inl (cs 0, 40, .inl (fun _ => 0))), ((r22 2), .inl (cs 0, 40, .inl (fun _ => 0))), ((r22 3), .inl (cs 0, 40, .inl (fun _ => 0))), (q31, .inl (cs 0, 4, .inl (fun _ => 0))), (q38, .inl (cs 0, 4, .inl (fun _ => 0))), (q45, .inl (cs 0, 4, .inl (fun _ => 0)))]) (j0 := 1) X hP hD hS hl dX1_init_55 cw_X1_30 rfl (by decide) rfl rfl ⟨rfl, rfl⟩ rfl rfl (fun H locs hP hD hS => ?_)
  refine lv_aload_n hx hb dX1_init_58 rfl (lv_at hl 0 rfl) ?_
  refine k_get (C := RX1) (T := TX1) (N := 6) 1 0 X hP rfl rfl hin_X1 3 rfl (tb_c2 (w := Cond.fieldLink "TillPairs$Host" 21 "TillPairs$Host" "heldWhat" "[I") 20 rfl rfl) rfl rfl dX1_init_59 ?_
  refine lv_iconst (v := 2) hx hb dX1_init_62 rfl ?_
  refine k_fill (l1 := [(h, .inr (1, [.ref q6, .ref q13, .ref q22, .ref q31, .ref q38, .ref q45])), (q6, .inl (cs 0, 4, .inl (fun j => if j < 4 then (-1) else 0))), (q13, .inl (cs 0, 4, .inl (fun _ => 0))), (q22, .inl (cs 2, 4, .inr (.inr (.inr (.inr (fun i => if i < 4 then some (r22 i) else none)))))), ((r22 0), .inl (cs 0, 40, .inl (fun _ => 0))), ((r22 1), .inl (cs 0, 40, .inl (fun _ => 0))), ((r22 2), .inl (cs 0, 40, .inl (fun _ => 0))), ((r22 3), .inl (cs 0, 40, .inl (fun _ => 0))), (q31, .inl (cs 0, 4, .inl (fun j => if j < 4 then 2 else 0))), (q38, .inl (cs 0, 4, .inl (fun _ => 0))), (q45, .inl (cs 0, 4, .inl (fun _ => 0)))]) (j0 := 8) X hP hD hS hl dX1_init_63 cw_X1_30 rfl (by decide) rfl rfl ⟨rfl, rfl⟩ rfl rfl (fun H locs hP hD hS => ?_)
  have e9 : (fun i => if i < 4 then some (r22 i) else none) = (fun i => if i < 4 then some ((fun k => [q6, q13, q22, r22 0, r22 1, r22 2, r22 3, q31, q38, q45].getD k 0) (3 + i)) else none) := by
    funext i
    by_cases h9 : i < 4
    · rw [if_pos h9, if_pos h9]
      rcases (show i = 0 ∨ i = 1 ∨ i = 2 ∨ i = 3 by omega) with rfl | rfl | rfl | rfl <;> rfl
    · rw [if_neg h9, if_neg h9]
  rw [e9] at hP hD
  exact hret H locs _ _ _ _ (fun k => [q6, q13, q22, r22 0, r22 1, r22 2, r22 3, q31, q38, q45].getD k 0) hP hD hS (Nat.le_of_ble_eq_true rfl) (Nat.le_of_ble_eq_true rfl) dX1_init_66
