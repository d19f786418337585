-- ===== PART A: goes FIRST, ahead of the names: the tables' words, and 'selects' of the private methods out of them =====
/-- a private method of a class that the tables say can be made, by its rows of tables_1 -/
def lw_okq (q : MethodName × Nat) : Prop := (q.1.cls ≠ "java/lang/invoke/MethodHandle" ∧ q.1.cls ≠ "java/lang/invoke/VarHandle") ∧ Cond.instantiable q.1.cls q.2 ∈ tables_1 ∧ Cond.privateMethod q.1 ∈ tables_1 ∧ Cond.instanceMethod q.1 ∈ tables_1
theorem lw_p0 : lw_okq (⟨"TillPairs$Tape", "skipBlanks", "()V"⟩, 5) := ⟨⟨by decide +kernel, by decide +kernel⟩, List.mem_of_getElem? (i := 85) (by decide +kernel), List.mem_of_getElem? (i := 336) (by decide +kernel), List.mem_of_getElem? (i := 337) (by decide +kernel)⟩
theorem lw_p1 : lw_okq (⟨"TillPairs$Tape", "readStatement", "()V"⟩, 5) := ⟨⟨by decide +kernel, by decide +kernel⟩, List.mem_of_getElem? (i := 85) (by decide +kernel), List.mem_of_getElem? (i := 340) (by decide +kernel), List.mem_of_getElem? (i := 341) (by decide +kernel)⟩
theorem lw_p2 : lw_okq (⟨"TillPairs$Tape", "endOfName", "()I"⟩, 5) := ⟨⟨by decide +kernel, by decide +kernel⟩, List.mem_of_getElem? (i := 85) (by decide +kernel), List.mem_of_getElem? (i := 344) (by decide +kernel), List.mem_of_getElem? (i := 345) (by decide +kernel)⟩
theorem lw_p3 : lw_okq (⟨"TillPairs$Tape", "stands", "(Ljava/lang/String;I)Z"⟩, 5) := ⟨⟨by decide +kernel, by decide +kernel⟩, List.mem_of_getElem? (i := 85) (by decide +kernel), List.mem_of_getElem? (i := 363) (by decide +kernel), List.mem_of_getElem? (i := 364) (by decide +kernel)⟩
theorem lw_p4 : lw_okq (⟨"TillPairs$Tape", "fail", "(I)V"⟩, 5) := ⟨⟨by decide +kernel, by decide +kernel⟩, List.mem_of_getElem? (i := 85) (by decide +kernel), List.mem_of_getElem? (i := 415) (by decide +kernel), List.mem_of_getElem? (i := 416) (by decide +kernel)⟩
theorem lw_p5 : lw_okq (⟨"TillPairs$Tape", "readKin", "()V"⟩, 5) := ⟨⟨by decide +kernel, by decide +kernel⟩, List.mem_of_getElem? (i := 85) (by decide +kernel), List.mem_of_getElem? (i := 426) (by decide +kernel), List.mem_of_getElem? (i := 427) (by decide +kernel)⟩
theorem lw_p6 : lw_okq (⟨"TillPairs$Tape", "readNumber", "(II)I"⟩, 5) := ⟨⟨by decide +kernel, by decide +kernel⟩, List.mem_of_getElem? (i := 85) (by decide +kernel), List.mem_of_getElem? (i := 430) (by decide +kernel), List.mem_of_getElem? (i := 431) (by decide +kernel)⟩
theorem lw_p7 : lw_okq (⟨"TillPairs$Tape", "readTrust", "()V"⟩, 5) := ⟨⟨by decide +kernel, by decide +kernel⟩, List.mem_of_getElem? (i := 85) (by decide +kernel), List.mem_of_getElem? (i := 445) (by decide +kernel), List.mem_of_getElem? (i := 446) (by decide +kernel)⟩
theorem lw_p8 : lw_okq (⟨"TillPairs$Tape", "readAway", "()V"⟩, 5) := ⟨⟨by decide +kernel, by decide +kernel⟩, List.mem_of_getElem? (i := 85) (by decide +kernel), List.mem_of_getElem? (i := 452) (by decide +kernel), List.mem_of_getElem? (i := 453) (by decide +kernel)⟩
theorem lw_p9 : lw_okq (⟨"TillPairs$Tape", "readWord", "(Ljava/lang/String;)V"⟩, 5) := ⟨⟨by decide +kernel, by decide +kernel⟩, List.mem_of_getElem? (i := 85) (by decide +kernel), List.mem_of_getElem? (i := 457) (by decide +kernel), List.mem_of_getElem? (i := 458) (by decide +kernel)⟩
theorem lw_p10 : lw_okq (⟨"TillPairs$Tape", "readLaw", "(I)V"⟩, 5) := ⟨⟨by decide +kernel, by decide +kernel⟩, List.mem_of_getElem? (i := 85) (by decide +kernel), List.mem_of_getElem? (i := 470) (by decide +kernel), List.mem_of_getElem? (i := 471) (by decide +kernel)⟩
theorem lw_p11 : lw_okq (⟨"TillPairs$Tape", "readEnd", "()V"⟩, 5) := ⟨⟨by decide +kernel, by decide +kernel⟩, List.mem_of_getElem? (i := 85) (by decide +kernel), List.mem_of_getElem? (i := 476) (by decide +kernel), List.mem_of_getElem? (i := 477) (by decide +kernel)⟩
theorem lw_p12 : lw_okq (⟨"TillPairs$Judge", "worthIf", "(IZ)I"⟩, 1) := ⟨⟨by decide +kernel, by decide +kernel⟩, List.mem_of_getElem? (i := 110) (by decide +kernel), List.mem_of_getElem? (i := 609) (by decide +kernel), List.mem_of_getElem? (i := 610) (by decide +kernel)⟩
theorem lw_p13 : lw_okq (⟨"TillPairs$Judge", "payingDaysBy", "(I)I"⟩, 1) := ⟨⟨by decide +kernel, by decide +kernel⟩, List.mem_of_getElem? (i := 110) (by decide +kernel), List.mem_of_getElem? (i := 626) (by decide +kernel), List.mem_of_getElem? (i := 627) (by decide +kernel)⟩
theorem lw_p14 : lw_okq (⟨"TillPairs$Odds", "reduce", "()V"⟩, 4) := ⟨⟨by decide +kernel, by decide +kernel⟩, List.mem_of_getElem? (i := 120) (by decide +kernel), List.mem_of_getElem? (i := 654) (by decide +kernel), List.mem_of_getElem? (i := 655) (by decide +kernel)⟩
theorem lw_p15 : lw_okq (⟨"TillPairs$Judge", "somebodyIsAway", "(I)Z"⟩, 1) := ⟨⟨by decide +kernel, by decide +kernel⟩, List.mem_of_getElem? (i := 110) (by decide +kernel), List.mem_of_getElem? (i := 682) (by decide +kernel), List.mem_of_getElem? (i := 683) (by decide +kernel)⟩
def lw_privs_1 : List (MethodName × Nat) := [(⟨"TillPairs$Tape", "skipBlanks", "()V"⟩, 5), (⟨"TillPairs$Tape", "readStatement", "()V"⟩, 5), (⟨"TillPairs$Tape", "endOfName", "()I"⟩, 5), (⟨"TillPairs$Tape", "stands", "(Ljava/lang/String;I)Z"⟩, 5), (⟨"TillPairs$Tape", "fail", "(I)V"⟩, 5), (⟨"TillPairs$Tape", "readKin", "()V"⟩, 5), (⟨"TillPairs$Tape", "readNumber", "(II)I"⟩, 5), (⟨"TillPairs$Tape", "readTrust", "()V"⟩, 5), (⟨"TillPairs$Tape", "readAway", "()V"⟩, 5), (⟨"TillPairs$Tape", "readWord", "(Ljava/lang/String;)V"⟩, 5), (⟨"TillPairs$Tape", "readLaw", "(I)V"⟩, 5), (⟨"TillPairs$Tape", "readEnd", "()V"⟩, 5), (⟨"TillPairs$Judge", "worthIf", "(IZ)I"⟩, 1), (⟨"TillPairs$Judge", "payingDaysBy", "(I)I"⟩, 1), (⟨"TillPairs$Odds", "reduce", "()V"⟩, 4), (⟨"TillPairs$Judge", "somebodyIsAway", "(I)Z"⟩, 1)]
theorem lw_r1 : ∀ q ∈ lw_privs_1, lw_okq q := List.forall_mem_cons.mpr ⟨lw_p0, List.forall_mem_cons.mpr ⟨lw_p1, List.forall_mem_cons.mpr ⟨lw_p2, List.forall_mem_cons.mpr ⟨lw_p3, List.forall_mem_cons.mpr ⟨lw_p4, List.forall_mem_cons.mpr ⟨lw_p5, List.forall_mem_cons.mpr ⟨lw_p6, List.forall_mem_cons.mpr ⟨lw_p7, List.forall_mem_cons.mpr ⟨lw_p8, List.forall_mem_cons.mpr ⟨lw_p9, List.forall_mem_cons.mpr ⟨lw_p10, List.forall_mem_cons.mpr ⟨lw_p11, List.forall_mem_cons.mpr ⟨lw_p12, List.forall_mem_cons.mpr ⟨lw_p13, List.forall_mem_cons.mpr ⟨lw_p14, List.forall_mem_cons.mpr ⟨lw_p15, fun _ h => absurd h List.not_mem_nil⟩⟩⟩⟩⟩⟩⟩⟩⟩⟩⟩⟩⟩⟩⟩⟩
theorem lw_p16 : lw_okq (⟨"TillPairs$Judge", "somebodyIsTwice", "(I)Z"⟩, 1) := ⟨⟨by decide +kernel, by decide +kernel⟩, List.mem_of_getElem? (i := 110) (by decide +kernel), List.mem_of_getElem? (i := 687) (by decide +kernel), List.mem_of_getElem? (i := 688) (by decide +kernel)⟩
theorem lw_p17 : lw_okq (⟨"TillPairs$Ways", "maySit", "(III)Z"⟩, 7) := ⟨⟨by decide +kernel, by decide +kernel⟩, List.mem_of_getElem? (i := 141) (by decide +kernel), List.mem_of_getElem? (i := 709) (by decide +kernel), List.mem_of_getElem? (i := 710) (by decide +kernel)⟩
theorem lw_p18 : lw_okq (⟨"TillPairs$Ways", "mendBy", "(III)V"⟩, 7) := ⟨⟨by decide +kernel, by decide +kernel⟩, List.mem_of_getElem? (i := 141) (by decide +kernel), List.mem_of_getElem? (i := 717) (by decide +kernel), List.mem_of_getElem? (i := 718) (by decide +kernel)⟩
theorem lw_p19 : lw_okq (⟨"TillPairs$Ways", "change", "(III)I"⟩, 7) := ⟨⟨by decide +kernel, by decide +kernel⟩, List.mem_of_getElem? (i := 141) (by decide +kernel), List.mem_of_getElem? (i := 722) (by decide +kernel), List.mem_of_getElem? (i := 723) (by decide +kernel)⟩
theorem lw_p20 : lw_okq (⟨"TillPairs$Ways", "isFree", "(III)Z"⟩, 7) := ⟨⟨by decide +kernel, by decide +kernel⟩, List.mem_of_getElem? (i := 141) (by decide +kernel), List.mem_of_getElem? (i := 727) (by decide +kernel), List.mem_of_getElem? (i := 728) (by decide +kernel)⟩
theorem lw_p21 : lw_okq (⟨"TillPairs$Ways", "wouldPay", "(IIIII)Z"⟩, 7) := ⟨⟨by decide +kernel, by decide +kernel⟩, List.mem_of_getElem? (i := 141) (by decide +kernel), List.mem_of_getElem? (i := 731) (by decide +kernel), List.mem_of_getElem? (i := 732) (by decide +kernel)⟩
theorem lw_p22 : lw_okq (⟨"TillPairs$Ways", "mostTrust", "(II)I"⟩, 7) := ⟨⟨by decide +kernel, by decide +kernel⟩, List.mem_of_getElem? (i := 141) (by decide +kernel), List.mem_of_getElem? (i := 748) (by decide +kernel), List.mem_of_getElem? (i := 749) (by decide +kernel)⟩
theorem lw_p23 : lw_okq (⟨"TillPairs$Ways", "standsBehindChosen", "(II)Z"⟩, 7) := ⟨⟨by decide +kernel, by decide +kernel⟩, List.mem_of_getElem? (i := 141) (by decide +kernel), List.mem_of_getElem? (i := 755) (by decide +kernel), List.mem_of_getElem? (i := 756) (by decide +kernel)⟩
theorem lw_p24 : lw_okq (⟨"TillPairs$Plans", "seatTold", "(LTillPairs$House;I)Z"⟩, 5) := ⟨⟨by decide +kernel, by decide +kernel⟩, List.mem_of_getElem? (i := 173) (by decide +kernel), List.mem_of_getElem? (i := 830) (by decide +kernel), List.mem_of_getElem? (i := 831) (by decide +kernel)⟩
theorem lw_p25 : lw_okq (⟨"TillPairs$Plans", "presentFor", "(LTillPairs$House;II)I"⟩, 5) := ⟨⟨by decide +kernel, by decide +kernel⟩, List.mem_of_getElem? (i := 173) (by decide +kernel), List.mem_of_getElem? (i := 835) (by decide +kernel), List.mem_of_getElem? (i := 836) (by decide +kernel)⟩
theorem lw_p26 : lw_okq (⟨"TillPairs$Plans", "seatByTurn", "(LTillPairs$House;II)V"⟩, 5) := ⟨⟨by decide +kernel, by decide +kernel⟩, List.mem_of_getElem? (i := 173) (by decide +kernel), List.mem_of_getElem? (i := 841) (by decide +kernel), List.mem_of_getElem? (i := 842) (by decide +kernel)⟩
theorem lw_p27 : lw_okq (⟨"TillPairs$Plans", "seatByDraw", "(I)V"⟩, 5) := ⟨⟨by decide +kernel, by decide +kernel⟩, List.mem_of_getElem? (i := 173) (by decide +kernel), List.mem_of_getElem? (i := 857) (by decide +kernel), List.mem_of_getElem? (i := 858) (by decide +kernel)⟩
theorem lw_p28 : lw_okq (⟨"TillPairs$Plans", "drawFrom", "(I)I"⟩, 5) := ⟨⟨by decide +kernel, by decide +kernel⟩, List.mem_of_getElem? (i := 173) (by decide +kernel), List.mem_of_getElem? (i := 862) (by decide +kernel), List.mem_of_getElem? (i := 863) (by decide +kernel)⟩
theorem lw_p29 : lw_okq (⟨"TillPairs$Plans", "seatStranger", "(LTillPairs$House;I)V"⟩, 5) := ⟨⟨by decide +kernel, by decide +kernel⟩, List.mem_of_getElem? (i := 173) (by decide +kernel), List.mem_of_getElem? (i := 866) (by decide +kernel), List.mem_of_getElem? (i := 867) (by decide +kernel)⟩
theorem lw_p30 : lw_okq (⟨"TillPairs$Plans", "sitDown", "(LTillPairs$House;I)I"⟩, 5) := ⟨⟨by decide +kernel, by decide +kernel⟩, List.mem_of_getElem? (i := 173) (by decide +kernel), List.mem_of_getElem? (i := 870) (by decide +kernel), List.mem_of_getElem? (i := 871) (by decide +kernel)⟩
theorem lw_p31 : lw_okq (⟨"TillPairs$Rows", "due", "(II)I"⟩, 4) := ⟨⟨by decide +kernel, by decide +kernel⟩, List.mem_of_getElem? (i := 199) (by decide +kernel), List.mem_of_getElem? (i := 887) (by decide +kernel), List.mem_of_getElem? (i := 888) (by decide +kernel)⟩
def lw_privs_2 : List (MethodName × Nat) := [(⟨"TillPairs$Judge", "somebodyIsTwice", "(I)Z"⟩, 1), (⟨"TillPairs$Ways", "maySit", "(III)Z"⟩, 7), (⟨"TillPairs$Ways", "mendBy", "(III)V"⟩, 7), (⟨"TillPairs$Ways", "change", "(III)I"⟩, 7), (⟨"TillPairs$Ways", "isFree", "(III)Z"⟩, 7), (⟨"TillPairs$Ways", "wouldPay", "(IIIII)Z"⟩, 7), (⟨"TillPairs$Ways", "mostTrust", "(II)I"⟩, 7), (⟨"TillPairs$Ways", "standsBehindChosen", "(II)Z"⟩, 7), (⟨"TillPairs$Plans", "seatTold", "(LTillPairs$House;I)Z"⟩, 5), (⟨"TillPairs$Plans", "presentFor", "(LTillPairs$House;II)I"⟩, 5), (⟨"TillPairs$Plans", "seatByTurn", "(LTillPairs$House;II)V"⟩, 5), (⟨"TillPairs$Plans", "seatByDraw", "(I)V"⟩, 5), (⟨"TillPairs$Plans", "drawFrom", "(I)I"⟩, 5), (⟨"TillPairs$Plans", "seatStranger", "(LTillPairs$House;I)V"⟩, 5), (⟨"TillPairs$Plans", "sitDown", "(LTillPairs$House;I)I"⟩, 5), (⟨"TillPairs$Rows", "due", "(II)I"⟩, 4)]
theorem lw_r2 : ∀ q ∈ lw_privs_2, lw_okq q := List.forall_mem_cons.mpr ⟨lw_p16, List.forall_mem_cons.mpr ⟨lw_p17, List.forall_mem_cons.mpr ⟨lw_p18, List.forall_mem_cons.mpr ⟨lw_p19, List.forall_mem_cons.mpr ⟨lw_p20, List.forall_mem_cons.mpr ⟨lw_p21, List.forall_mem_cons.mpr ⟨lw_p22, List.forall_mem_cons.mpr ⟨lw_p23, List.forall_mem_cons.mpr ⟨lw_p24, List.forall_mem_cons.mpr ⟨lw_p25, List.forall_mem_cons.mpr ⟨lw_p26, List.forall_mem_cons.mpr ⟨lw_p27, List.forall_mem_cons.mpr ⟨lw_p28, List.forall_mem_cons.mpr ⟨lw_p29, List.forall_mem_cons.mpr ⟨lw_p30, List.forall_mem_cons.mpr ⟨lw_p31, fun _ h => absurd h List.not_mem_nil⟩⟩⟩⟩⟩⟩⟩⟩⟩⟩⟩⟩⟩⟩⟩⟩
theorem lw_p32 : lw_okq (⟨"TillPairs", "planOn", "(I)I"⟩, 12) := ⟨⟨by decide +kernel, by decide +kernel⟩, List.mem_of_getElem? (i := 21) (by decide +kernel), List.mem_of_getElem? (i := 965) (by decide +kernel), List.mem_of_getElem? (i := 966) (by decide +kernel)⟩
theorem lw_p33 : lw_okq (⟨"TillPairs$Acts", "note", "(I)V"⟩, 6) := ⟨⟨by decide +kernel, by decide +kernel⟩, List.mem_of_getElem? (i := 220) (by decide +kernel), List.mem_of_getElem? (i := 998) (by decide +kernel), List.mem_of_getElem? (i := 999) (by decide +kernel)⟩
theorem lw_p34 : lw_okq (⟨"TillPairs$Acts", "share", "(I)I"⟩, 6) := ⟨⟨by decide +kernel, by decide +kernel⟩, List.mem_of_getElem? (i := 220) (by decide +kernel), List.mem_of_getElem? (i := 1002) (by decide +kernel), List.mem_of_getElem? (i := 1003) (by decide +kernel)⟩
theorem lw_p35 : lw_okq (⟨"TillPairsModel", "advance", "()V"⟩, 51) := ⟨⟨by decide +kernel, by decide +kernel⟩, List.mem_of_getElem? (i := 1034) (by decide +kernel), List.mem_of_getElem? (i := 1207) (by decide +kernel), List.mem_of_getElem? (i := 1208) (by decide +kernel)⟩
theorem lw_p36 : lw_okq (⟨"TillPairsModel", "byteAt", "(I)I"⟩, 51) := ⟨⟨by decide +kernel, by decide +kernel⟩, List.mem_of_getElem? (i := 1034) (by decide +kernel), List.mem_of_getElem? (i := 1211) (by decide +kernel), List.mem_of_getElem? (i := 1212) (by decide +kernel)⟩
theorem lw_p37 : lw_okq (⟨"TillPairsModel", "wantClause", "()V"⟩, 51) := ⟨⟨by decide +kernel, by decide +kernel⟩, List.mem_of_getElem? (i := 1034) (by decide +kernel), List.mem_of_getElem? (i := 1224) (by decide +kernel), List.mem_of_getElem? (i := 1225) (by decide +kernel)⟩
theorem lw_p38 : lw_okq (⟨"TillPairsModel", "isWord", "(J)Z"⟩, 51) := ⟨⟨by decide +kernel, by decide +kernel⟩, List.mem_of_getElem? (i := 1034) (by decide +kernel), List.mem_of_getElem? (i := 1229) (by decide +kernel), List.mem_of_getElem? (i := 1230) (by decide +kernel)⟩
theorem lw_p39 : lw_okq (⟨"TillPairsModel", "wantEnd", "()V"⟩, 51) := ⟨⟨by decide +kernel, by decide +kernel⟩, List.mem_of_getElem? (i := 1034) (by decide +kernel), List.mem_of_getElem? (i := 1233) (by decide +kernel), List.mem_of_getElem? (i := 1234) (by decide +kernel)⟩
theorem lw_p40 : lw_okq (⟨"TillPairsModel", "isMark", "(I)Z"⟩, 51) := ⟨⟨by decide +kernel, by decide +kernel⟩, List.mem_of_getElem? (i := 1034) (by decide +kernel), List.mem_of_getElem? (i := 1237) (by decide +kernel), List.mem_of_getElem? (i := 1238) (by decide +kernel)⟩
theorem lw_p41 : lw_okq (⟨"TillPairsModel", "wantTwo", "(Z)V"⟩, 51) := ⟨⟨by decide +kernel, by decide +kernel⟩, List.mem_of_getElem? (i := 1034) (by decide +kernel), List.mem_of_getElem? (i := 1243) (by decide +kernel), List.mem_of_getElem? (i := 1244) (by decide +kernel)⟩
theorem lw_p42 : lw_okq (⟨"TillPairsModel", "wantNumber", "(II)I"⟩, 51) := ⟨⟨by decide +kernel, by decide +kernel⟩, List.mem_of_getElem? (i := 1034) (by decide +kernel), List.mem_of_getElem? (i := 1247) (by decide +kernel), List.mem_of_getElem? (i := 1248) (by decide +kernel)⟩
theorem lw_p43 : lw_okq (⟨"TillPairsModel", "wantAway", "()V"⟩, 51) := ⟨⟨by decide +kernel, by decide +kernel⟩, List.mem_of_getElem? (i := 1034) (by decide +kernel), List.mem_of_getElem? (i := 1252) (by decide +kernel), List.mem_of_getElem? (i := 1253) (by decide +kernel)⟩
theorem lw_p44 : lw_okq (⟨"TillPairsModel", "wantWord", "(J)V"⟩, 51) := ⟨⟨by decide +kernel, by decide +kernel⟩, List.mem_of_getElem? (i := 1034) (by decide +kernel), List.mem_of_getElem? (i := 1257) (by decide +kernel), List.mem_of_getElem? (i := 1258) (by decide +kernel)⟩
theorem lw_p45 : lw_okq (⟨"TillPairsModel", "lawHere", "()I"⟩, 51) := ⟨⟨by decide +kernel, by decide +kernel⟩, List.mem_of_getElem? (i := 1034) (by decide +kernel), List.mem_of_getElem? (i := 1262) (by decide +kernel), List.mem_of_getElem? (i := 1263) (by decide +kernel)⟩
theorem lw_p46 : lw_okq (⟨"TillPairsModel", "areTwo", "(II)Z"⟩, 51) := ⟨⟨by decide +kernel, by decide +kernel⟩, List.mem_of_getElem? (i := 1034) (by decide +kernel), List.mem_of_getElem? (i := 1282) (by decide +kernel), List.mem_of_getElem? (i := 1283) (by decide +kernel)⟩
theorem lw_p47 : lw_okq (⟨"TillPairsModel", "isPerson", "(I)Z"⟩, 51) := ⟨⟨by decide +kernel, by decide +kernel⟩, List.mem_of_getElem? (i := 1034) (by decide +kernel), List.mem_of_getElem? (i := 1286) (by decide +kernel), List.mem_of_getElem? (i := 1287) (by decide +kernel)⟩
def lw_privs_3 : List (MethodName × Nat) := [(⟨"TillPairs", "planOn", "(I)I"⟩, 12), (⟨"TillPairs$Acts", "note", "(I)V"⟩, 6), (⟨"TillPairs$Acts", "share", "(I)I"⟩, 6), (⟨"TillPairsModel", "advance", "()V"⟩, 51), (⟨"TillPairsModel", "byteAt", "(I)I"⟩, 51), (⟨"TillPairsModel", "wantClause", "()V"⟩, 51), (⟨"TillPairsModel", "isWord", "(J)Z"⟩, 51), (⟨"TillPairsModel", "wantEnd", "()V"⟩, 51), (⟨"TillPairsModel", "isMark", "(I)Z"⟩, 51), (⟨"TillPairsModel", "wantTwo", "(Z)V"⟩, 51), (⟨"TillPairsModel", "wantNumber", "(II)I"⟩, 51), (⟨"TillPairsModel", "wantAway", "()V"⟩, 51), (⟨"TillPairsModel", "wantWord", "(J)V"⟩, 51), (⟨"TillPairsModel", "lawHere", "()I"⟩, 51), (⟨"TillPairsModel", "areTwo", "(II)Z"⟩, 51), (⟨"TillPairsModel", "isPerson", "(I)Z"⟩, 51)]
theorem lw_r3 : ∀ q ∈ lw_privs_3, lw_okq q := List.forall_mem_cons.mpr ⟨lw_p32, List.forall_mem_cons.mpr ⟨lw_p33, List.forall_mem_cons.mpr ⟨lw_p34, List.forall_mem_cons.mpr ⟨lw_p35, List.forall_mem_cons.mpr ⟨lw_p36, List.forall_mem_cons.mpr ⟨lw_p37, List.forall_mem_cons.mpr ⟨lw_p38, List.forall_mem_cons.mpr ⟨lw_p39, List.forall_mem_cons.mpr ⟨lw_p40, List.forall_mem_cons.mpr ⟨lw_p41, List.forall_mem_cons.mpr ⟨lw_p42, List.forall_mem_cons.mpr ⟨lw_p43, List.forall_mem_cons.mpr ⟨lw_p44, List.forall_mem_cons.mpr ⟨lw_p45, List.forall_mem_cons.mpr ⟨lw_p46, List.forall_mem_cons.mpr ⟨lw_p47, fun _ h => absurd h List.not_mem_nil⟩⟩⟩⟩⟩⟩⟩⟩⟩⟩⟩⟩⟩⟩⟩⟩
theorem lw_p48 : lw_okq (⟨"TillPairsModel", "areKin", "(II)Z"⟩, 51) := ⟨⟨by decide +kernel, by decide +kernel⟩, List.mem_of_getElem? (i := 1034) (by decide +kernel), List.mem_of_getElem? (i := 1290) (by decide +kernel), List.mem_of_getElem? (i := 1291) (by decide +kernel)⟩
theorem lw_p49 : lw_okq (⟨"TillPairsModel", "isAway", "(II)Z"⟩, 51) := ⟨⟨by decide +kernel, by decide +kernel⟩, List.mem_of_getElem? (i := 1034) (by decide +kernel), List.mem_of_getElem? (i := 1305) (by decide +kernel), List.mem_of_getElem? (i := 1306) (by decide +kernel)⟩
theorem lw_p50 : lw_okq (⟨"TillPairsModel", "trustOf", "(III)I"⟩, 51) := ⟨⟨by decide +kernel, by decide +kernel⟩, List.mem_of_getElem? (i := 1034) (by decide +kernel), List.mem_of_getElem? (i := 1346) (by decide +kernel), List.mem_of_getElem? (i := 1347) (by decide +kernel)⟩
theorem lw_p51 : lw_okq (⟨"TillPairsModel", "twoOn", "(I)I"⟩, 51) := ⟨⟨by decide +kernel, by decide +kernel⟩, List.mem_of_getElem? (i := 1034) (by decide +kernel), List.mem_of_getElem? (i := 1350) (by decide +kernel), List.mem_of_getElem? (i := 1351) (by decide +kernel)⟩
theorem lw_p52 : lw_okq (⟨"TillPairsModel", "isSurprise", "(I)Z"⟩, 51) := ⟨⟨by decide +kernel, by decide +kernel⟩, List.mem_of_getElem? (i := 1034) (by decide +kernel), List.mem_of_getElem? (i := 1361) (by decide +kernel), List.mem_of_getElem? (i := 1362) (by decide +kernel)⟩
theorem lw_p53 : lw_okq (⟨"TillPairsModel", "seenBy", "(IZ)I"⟩, 51) := ⟨⟨by decide +kernel, by decide +kernel⟩, List.mem_of_getElem? (i := 1034) (by decide +kernel), List.mem_of_getElem? (i := 1365) (by decide +kernel), List.mem_of_getElem? (i := 1366) (by decide +kernel)⟩
theorem lw_p54 : lw_okq (⟨"TillPairsModel", "isNeither", "(III)Z"⟩, 51) := ⟨⟨by decide +kernel, by decide +kernel⟩, List.mem_of_getElem? (i := 1034) (by decide +kernel), List.mem_of_getElem? (i := 1369) (by decide +kernel), List.mem_of_getElem? (i := 1370) (by decide +kernel)⟩
theorem lw_p55 : lw_okq (⟨"TillPairsModel", "worthBy", "(IZ)I"⟩, 51) := ⟨⟨by decide +kernel, by decide +kernel⟩, List.mem_of_getElem? (i := 1034) (by decide +kernel), List.mem_of_getElem? (i := 1377) (by decide +kernel), List.mem_of_getElem? (i := 1378) (by decide +kernel)⟩
theorem lw_p56 : lw_okq (⟨"TillPairsModel", "paysBy", "(IZI)Z"⟩, 51) := ⟨⟨by decide +kernel, by decide +kernel⟩, List.mem_of_getElem? (i := 1034) (by decide +kernel), List.mem_of_getElem? (i := 1385) (by decide +kernel), List.mem_of_getElem? (i := 1386) (by decide +kernel)⟩
theorem lw_p57 : lw_okq (⟨"TillPairsModel", "lowest", "(JJ)V"⟩, 51) := ⟨⟨by decide +kernel, by decide +kernel⟩, List.mem_of_getElem? (i := 1034) (by decide +kernel), List.mem_of_getElem? (i := 1397) (by decide +kernel), List.mem_of_getElem? (i := 1398) (by decide +kernel)⟩
theorem lw_p58 : lw_okq (⟨"TillPairsModel", "brokenOn", "(I)I"⟩, 51) := ⟨⟨by decide +kernel, by decide +kernel⟩, List.mem_of_getElem? (i := 1034) (by decide +kernel), List.mem_of_getElem? (i := 1413) (by decide +kernel), List.mem_of_getElem? (i := 1414) (by decide +kernel)⟩
theorem lw_p59 : lw_okq (⟨"TillPairsModel", "keepsPosts", "(II)V"⟩, 51) := ⟨⟨by decide +kernel, by decide +kernel⟩, List.mem_of_getElem? (i := 1034) (by decide +kernel), List.mem_of_getElem? (i := 1421) (by decide +kernel), List.mem_of_getElem? (i := 1422) (by decide +kernel)⟩
theorem lw_p60 : lw_okq (⟨"TillPairsModel", "comes", "(II)Z"⟩, 51) := ⟨⟨by decide +kernel, by decide +kernel⟩, List.mem_of_getElem? (i := 1034) (by decide +kernel), List.mem_of_getElem? (i := 1425) (by decide +kernel), List.mem_of_getElem? (i := 1426) (by decide +kernel)⟩
theorem lw_p61 : lw_okq (⟨"TillPairsModel", "givesPosts", "(II)V"⟩, 51) := ⟨⟨by decide +kernel, by decide +kernel⟩, List.mem_of_getElem? (i := 1034) (by decide +kernel), List.mem_of_getElem? (i := 1429) (by decide +kernel), List.mem_of_getElem? (i := 1430) (by decide +kernel)⟩
theorem lw_p62 : lw_okq (⟨"TillPairsModel", "sits", "(II)Z"⟩, 51) := ⟨⟨by decide +kernel, by decide +kernel⟩, List.mem_of_getElem? (i := 1034) (by decide +kernel), List.mem_of_getElem? (i := 1437) (by decide +kernel), List.mem_of_getElem? (i := 1438) (by decide +kernel)⟩
theorem lw_p63 : lw_okq (⟨"TillPairsModel", "satOn", "(II)I"⟩, 51) := ⟨⟨by decide +kernel, by decide +kernel⟩, List.mem_of_getElem? (i := 1034) (by decide +kernel), List.mem_of_getElem? (i := 1445) (by decide +kernel), List.mem_of_getElem? (i := 1446) (by decide +kernel)⟩
def lw_privs_4 : List (MethodName × Nat) := [(⟨"TillPairsModel", "areKin", "(II)Z"⟩, 51), (⟨"TillPairsModel", "isAway", "(II)Z"⟩, 51), (⟨"TillPairsModel", "trustOf", "(III)I"⟩, 51), (⟨"TillPairsModel", "twoOn", "(I)I"⟩, 51), (⟨"TillPairsModel", "isSurprise", "(I)Z"⟩, 51), (⟨"TillPairsModel", "seenBy", "(IZ)I"⟩, 51), (⟨"TillPairsModel", "isNeither", "(III)Z"⟩, 51), (⟨"TillPairsModel", "worthBy", "(IZ)I"⟩, 51), (⟨"TillPairsModel", "paysBy", "(IZI)Z"⟩, 51), (⟨"TillPairsModel", "lowest", "(JJ)V"⟩, 51), (⟨"TillPairsModel", "brokenOn", "(I)I"⟩, 51), (⟨"TillPairsModel", "keepsPosts", "(II)V"⟩, 51), (⟨"TillPairsModel", "comes", "(II)Z"⟩, 51), (⟨"TillPairsModel", "givesPosts", "(II)V"⟩, 51), (⟨"TillPairsModel", "sits", "(II)Z"⟩, 51), (⟨"TillPairsModel", "satOn", "(II)I"⟩, 51)]
theorem lw_r4 : ∀ q ∈ lw_privs_4, lw_okq q := List.forall_mem_cons.mpr ⟨lw_p48, List.forall_mem_cons.mpr ⟨lw_p49, List.forall_mem_cons.mpr ⟨lw_p50, List.forall_mem_cons.mpr ⟨lw_p51, List.forall_mem_cons.mpr ⟨lw_p52, List.forall_mem_cons.mpr ⟨lw_p53, List.forall_mem_cons.mpr ⟨lw_p54, List.forall_mem_cons.mpr ⟨lw_p55, List.forall_mem_cons.mpr ⟨lw_p56, List.forall_mem_cons.mpr ⟨lw_p57, List.forall_mem_cons.mpr ⟨lw_p58, List.forall_mem_cons.mpr ⟨lw_p59, List.forall_mem_cons.mpr ⟨lw_p60, List.forall_mem_cons.mpr ⟨lw_p61, List.forall_mem_cons.mpr ⟨lw_p62, List.forall_mem_cons.mpr ⟨lw_p63, fun _ h => absurd h List.not_mem_nil⟩⟩⟩⟩⟩⟩⟩⟩⟩⟩⟩⟩⟩⟩⟩⟩
theorem lw_p64 : lw_okq (⟨"TillPairsModel", "sitting", "()I"⟩, 51) := ⟨⟨by decide +kernel, by decide +kernel⟩, List.mem_of_getElem? (i := 1034) (by decide +kernel), List.mem_of_getElem? (i := 1453) (by decide +kernel), List.mem_of_getElem? (i := 1454) (by decide +kernel)⟩
theorem lw_p65 : lw_okq (⟨"TillPairsModel", "isPlan", "(I)Z"⟩, 51) := ⟨⟨by decide +kernel, by decide +kernel⟩, List.mem_of_getElem? (i := 1034) (by decide +kernel), List.mem_of_getElem? (i := 1472) (by decide +kernel), List.mem_of_getElem? (i := 1473) (by decide +kernel)⟩
theorem lw_p66 : lw_okq (⟨"TillPairsModel", "fillsTold", "(I)Z"⟩, 51) := ⟨⟨by decide +kernel, by decide +kernel⟩, List.mem_of_getElem? (i := 1034) (by decide +kernel), List.mem_of_getElem? (i := 1480) (by decide +kernel), List.mem_of_getElem? (i := 1481) (by decide +kernel)⟩
theorem lw_p67 : lw_okq (⟨"TillPairsModel", "fillsTurn", "(II)V"⟩, 51) := ⟨⟨by decide +kernel, by decide +kernel⟩, List.mem_of_getElem? (i := 1034) (by decide +kernel), List.mem_of_getElem? (i := 1484) (by decide +kernel), List.mem_of_getElem? (i := 1485) (by decide +kernel)⟩
theorem lw_p68 : lw_okq (⟨"TillPairsModel", "lastSat", "(III)I"⟩, 51) := ⟨⟨by decide +kernel, by decide +kernel⟩, List.mem_of_getElem? (i := 1034) (by decide +kernel), List.mem_of_getElem? (i := 1488) (by decide +kernel), List.mem_of_getElem? (i := 1489) (by decide +kernel)⟩
theorem lw_p69 : lw_okq (⟨"TillPairsModel", "fillsDraw", "(I)V"⟩, 51) := ⟨⟨by decide +kernel, by decide +kernel⟩, List.mem_of_getElem? (i := 1034) (by decide +kernel), List.mem_of_getElem? (i := 1495) (by decide +kernel), List.mem_of_getElem? (i := 1496) (by decide +kernel)⟩
theorem lw_p70 : lw_okq (⟨"TillPairsModel", "fillsCount", "(I)V"⟩, 51) := ⟨⟨by decide +kernel, by decide +kernel⟩, List.mem_of_getElem? (i := 1034) (by decide +kernel), List.mem_of_getElem? (i := 1500) (by decide +kernel), List.mem_of_getElem? (i := 1501) (by decide +kernel)⟩
theorem lw_p71 : lw_okq (⟨"TillPairsModel", "findRows", "()V"⟩, 51) := ⟨⟨by decide +kernel, by decide +kernel⟩, List.mem_of_getElem? (i := 1034) (by decide +kernel), List.mem_of_getElem? (i := 1512) (by decide +kernel), List.mem_of_getElem? (i := 1513) (by decide +kernel)⟩
theorem lw_p72 : lw_okq (⟨"TillPairsModel", "isRow", "(II)Z"⟩, 51) := ⟨⟨by decide +kernel, by decide +kernel⟩, List.mem_of_getElem? (i := 1034) (by decide +kernel), List.mem_of_getElem? (i := 1520) (by decide +kernel), List.mem_of_getElem? (i := 1521) (by decide +kernel)⟩
theorem lw_p73 : lw_okq (⟨"TillPairsModel", "lacksSort", "(II)I"⟩, 51) := ⟨⟨by decide +kernel, by decide +kernel⟩, List.mem_of_getElem? (i := 1034) (by decide +kernel), List.mem_of_getElem? (i := 1539) (by decide +kernel), List.mem_of_getElem? (i := 1540) (by decide +kernel)⟩
theorem lw_p74 : lw_okq (⟨"TillPairsModel", "isHeld", "(II)Z"⟩, 51) := ⟨⟨by decide +kernel, by decide +kernel⟩, List.mem_of_getElem? (i := 1034) (by decide +kernel), List.mem_of_getElem? (i := 1559) (by decide +kernel), List.mem_of_getElem? (i := 1560) (by decide +kernel)⟩
theorem lw_p75 : lw_okq (⟨"TillPairsModel", "kindOn", "(I)I"⟩, 51) := ⟨⟨by decide +kernel, by decide +kernel⟩, List.mem_of_getElem? (i := 1034) (by decide +kernel), List.mem_of_getElem? (i := 1567) (by decide +kernel), List.mem_of_getElem? (i := 1568) (by decide +kernel)⟩
theorem lw_p76 : lw_okq (⟨"TillPairsModel", "sitsIt", "(I)I"⟩, 51) := ⟨⟨by decide +kernel, by decide +kernel⟩, List.mem_of_getElem? (i := 1034) (by decide +kernel), List.mem_of_getElem? (i := 1578) (by decide +kernel), List.mem_of_getElem? (i := 1579) (by decide +kernel)⟩
theorem lw_p77 : lw_okq (⟨"TillPairsModel", "ran", "(I)V"⟩, 51) := ⟨⟨by decide +kernel, by decide +kernel⟩, List.mem_of_getElem? (i := 1034) (by decide +kernel), List.mem_of_getElem? (i := 1582) (by decide +kernel), List.mem_of_getElem? (i := 1583) (by decide +kernel)⟩
theorem lw_p78 : lw_okq (⟨"TillPairsModel", "plainSits", "(I)I"⟩, 51) := ⟨⟨by decide +kernel, by decide +kernel⟩, List.mem_of_getElem? (i := 1034) (by decide +kernel), List.mem_of_getElem? (i := 1586) (by decide +kernel), List.mem_of_getElem? (i := 1587) (by decide +kernel)⟩
theorem lw_p79 : lw_okq (⟨"TillPairsModel", "countsIt", "(I)I"⟩, 51) := ⟨⟨by decide +kernel, by decide +kernel⟩, List.mem_of_getElem? (i := 1034) (by decide +kernel), List.mem_of_getElem? (i := 1590) (by decide +kernel), List.mem_of_getElem? (i := 1591) (by decide +kernel)⟩
def lw_privs_5 : List (MethodName × Nat) := [(⟨"TillPairsModel", "sitting", "()I"⟩, 51), (⟨"TillPairsModel", "isPlan", "(I)Z"⟩, 51), (⟨"TillPairsModel", "fillsTold", "(I)Z"⟩, 51), (⟨"TillPairsModel", "fillsTurn", "(II)V"⟩, 51), (⟨"TillPairsModel", "lastSat", "(III)I"⟩, 51), (⟨"TillPairsModel", "fillsDraw", "(I)V"⟩, 51), (⟨"TillPairsModel", "fillsCount", "(I)V"⟩, 51), (⟨"TillPairsModel", "findRows", "()V"⟩, 51), (⟨"TillPairsModel", "isRow", "(II)Z"⟩, 51), (⟨"TillPairsModel", "lacksSort", "(II)I"⟩, 51), (⟨"TillPairsModel", "isHeld", "(II)Z"⟩, 51), (⟨"TillPairsModel", "kindOn", "(I)I"⟩, 51), (⟨"TillPairsModel", "sitsIt", "(I)I"⟩, 51), (⟨"TillPairsModel", "ran", "(I)V"⟩, 51), (⟨"TillPairsModel", "plainSits", "(I)I"⟩, 51), (⟨"TillPairsModel", "countsIt", "(I)I"⟩, 51)]
theorem lw_r5 : ∀ q ∈ lw_privs_5, lw_okq q := List.forall_mem_cons.mpr ⟨lw_p64, List.forall_mem_cons.mpr ⟨lw_p65, List.forall_mem_cons.mpr ⟨lw_p66, List.forall_mem_cons.mpr ⟨lw_p67, List.forall_mem_cons.mpr ⟨lw_p68, List.forall_mem_cons.mpr ⟨lw_p69, List.forall_mem_cons.mpr ⟨lw_p70, List.forall_mem_cons.mpr ⟨lw_p71, List.forall_mem_cons.mpr ⟨lw_p72, List.forall_mem_cons.mpr ⟨lw_p73, List.forall_mem_cons.mpr ⟨lw_p74, List.forall_mem_cons.mpr ⟨lw_p75, List.forall_mem_cons.mpr ⟨lw_p76, List.forall_mem_cons.mpr ⟨lw_p77, List.forall_mem_cons.mpr ⟨lw_p78, List.forall_mem_cons.mpr ⟨lw_p79, fun _ h => absurd h List.not_mem_nil⟩⟩⟩⟩⟩⟩⟩⟩⟩⟩⟩⟩⟩⟩⟩⟩
theorem lw_p80 : lw_okq (⟨"TillPairsModel", "plainCounts", "(I)I"⟩, 51) := ⟨⟨by decide +kernel, by decide +kernel⟩, List.mem_of_getElem? (i := 1034) (by decide +kernel), List.mem_of_getElem? (i := 1594) (by decide +kernel), List.mem_of_getElem? (i := 1595) (by decide +kernel)⟩
theorem lw_p81 : lw_okq (⟨"TillPairsModel", "turnCounts", "(I)I"⟩, 51) := ⟨⟨by decide +kernel, by decide +kernel⟩, List.mem_of_getElem? (i := 1034) (by decide +kernel), List.mem_of_getElem? (i := 1598) (by decide +kernel), List.mem_of_getElem? (i := 1599) (by decide +kernel)⟩
theorem lw_p82 : lw_okq (⟨"TillPairsModel", "sharesIt", "(I)I"⟩, 51) := ⟨⟨by decide +kernel, by decide +kernel⟩, List.mem_of_getElem? (i := 1034) (by decide +kernel), List.mem_of_getElem? (i := 1602) (by decide +kernel), List.mem_of_getElem? (i := 1603) (by decide +kernel)⟩
theorem lw_p83 : lw_okq (⟨"TillPairsModel", "plainShares", "(I)I"⟩, 51) := ⟨⟨by decide +kernel, by decide +kernel⟩, List.mem_of_getElem? (i := 1034) (by decide +kernel), List.mem_of_getElem? (i := 1606) (by decide +kernel), List.mem_of_getElem? (i := 1607) (by decide +kernel)⟩
theorem lw_p84 : lw_okq (⟨"TillPairsModel", "tellsIt", "(I)I"⟩, 51) := ⟨⟨by decide +kernel, by decide +kernel⟩, List.mem_of_getElem? (i := 1034) (by decide +kernel), List.mem_of_getElem? (i := 1610) (by decide +kernel), List.mem_of_getElem? (i := 1611) (by decide +kernel)⟩
theorem lw_p85 : lw_okq (⟨"TillPairsModel", "plainTells", "(I)I"⟩, 51) := ⟨⟨by decide +kernel, by decide +kernel⟩, List.mem_of_getElem? (i := 1034) (by decide +kernel), List.mem_of_getElem? (i := 1614) (by decide +kernel), List.mem_of_getElem? (i := 1615) (by decide +kernel)⟩
theorem lw_p86 : lw_okq (⟨"TillPairsModel", "moveAll", "(Z)V"⟩, 51) := ⟨⟨by decide +kernel, by decide +kernel⟩, List.mem_of_getElem? (i := 1034) (by decide +kernel), List.mem_of_getElem? (i := 1630) (by decide +kernel), List.mem_of_getElem? (i := 1631) (by decide +kernel)⟩
theorem lw_p87 : lw_okq (⟨"TillPairsModel", "move", "([IIZ)V"⟩, 51) := ⟨⟨by decide +kernel, by decide +kernel⟩, List.mem_of_getElem? (i := 1034) (by decide +kernel), List.mem_of_getElem? (i := 1634) (by decide +kernel), List.mem_of_getElem? (i := 1635) (by decide +kernel)⟩
def lw_privs_6 : List (MethodName × Nat) := [(⟨"TillPairsModel", "plainCounts", "(I)I"⟩, 51), (⟨"TillPairsModel", "turnCounts", "(I)I"⟩, 51), (⟨"TillPairsModel", "sharesIt", "(I)I"⟩, 51), (⟨"TillPairsModel", "plainShares", "(I)I"⟩, 51), (⟨"TillPairsModel", "tellsIt", "(I)I"⟩, 51), (⟨"TillPairsModel", "plainTells", "(I)I"⟩, 51), (⟨"TillPairsModel", "moveAll", "(Z)V"⟩, 51), (⟨"TillPairsModel", "move", "([IIZ)V"⟩, 51)]
theorem lw_r6 : ∀ q ∈ lw_privs_6, lw_okq q := List.forall_mem_cons.mpr ⟨lw_p80, List.forall_mem_cons.mpr ⟨lw_p81, List.forall_mem_cons.mpr ⟨lw_p82, List.forall_mem_cons.mpr ⟨lw_p83, List.forall_mem_cons.mpr ⟨lw_p84, List.forall_mem_cons.mpr ⟨lw_p85, List.forall_mem_cons.mpr ⟨lw_p86, List.forall_mem_cons.mpr ⟨lw_p87, fun _ h => absurd h List.not_mem_nil⟩⟩⟩⟩⟩⟩⟩⟩
def lw_privs : List (MethodName × Nat) := lw_privs_1 ++ (lw_privs_2 ++ (lw_privs_3 ++ (lw_privs_4 ++ (lw_privs_5 ++ (lw_privs_6)))))
def lw_tbl : List Cond := k2_sels lw_privs ++ tables_1
theorem lw_privs_ok : ∀ q ∈ lw_privs, lw_okq q := by
  show ∀ q ∈ lw_privs_1 ++ (lw_privs_2 ++ (lw_privs_3 ++ (lw_privs_4 ++ (lw_privs_5 ++ (lw_privs_6))))), lw_okq q
  exact List.forall_mem_append.mpr ⟨lw_r1, List.forall_mem_append.mpr ⟨lw_r2, List.forall_mem_append.mpr ⟨lw_r3, List.forall_mem_append.mpr ⟨lw_r4, List.forall_mem_append.mpr ⟨lw_r5, lw_r6⟩⟩⟩⟩⟩
def RX0 : String := "TillPairs$Acts"
def TX0 : u_T := fun k => match k with
  | 0 => ("TillPairs$Acts", "noted", "[I", true)
  | 1 => ("TillPairs$Acts", "bodies", "I", false)
  | 2 => ("TillPairs$Acts", "kind", "I", false)
  | 3 => ("TillPairs$Acts", "number", "I", false)
  | 4 => ("TillPairs$Acts", "a", "I", false)
  | _ => ("TillPairs$Acts", "parted", "Z", false)
def tyX0 : Nat → FieldType := fun k => match k with
  | 0 => .array .int
  | 1 => .int
  | 2 => .int
  | 3 => .int
  | 4 => .int
  | _ => .boolean
abbrev wsX00 : List Cond := u_ws RX0 TX0 6
theorem nmX0 : ∀ a, a < 6 → ∀ b, b < 6 → a ≠ b → (TX0 a).2.1 ≠ (TX0 b).2.1 := by decide +kernel
theorem tyX0_ok : ∀ k, k < 6 → parseFieldDescriptor (TX0 k).2.2.1 = some (tyX0 k) := by decide +kernel
abbrev cX0_init : ByteArray := prog_2_method_1_code
def yX0_init : MethodName := ⟨RX0, "<init>", "()V"⟩
abbrev cX0_isUnder : ByteArray := prog_2_method_2_code
def yX0_isUnder : MethodName := ⟨RX0, "isUnder", "(II)Z"⟩
abbrev cX0_forget : ByteArray := prog_2_method_3_code
def yX0_forget : MethodName := ⟨RX0, "forget", "()V"⟩
abbrev cX0_perform : ByteArray := prog_2_method_4_code
def yX0_perform : MethodName := ⟨RX0, "perform", "(IIIII)I"⟩
abbrev cX0_bodyOf : ByteArray := prog_2_method_5_code
def yX0_bodyOf : MethodName := ⟨RX0, "bodyOf", "(II)I"⟩
abbrev cX0_run : ByteArray := prog_2_method_6_code
def yX0_run : MethodName := ⟨RX0, "run", "(LTillPairs$Acts;III)I"⟩
abbrev cX0_share : ByteArray := prog_2_method_7_code
def yX0_share : MethodName := ⟨RX0, "share", "(I)I"⟩
abbrev cX0_note : ByteArray := prog_2_method_8_code
def yX0_note : MethodName := ⟨RX0, "note", "(I)V"⟩
def RX1 : String := "TillPairs$Host"
def TX1 : u_T := fun k => match k with
  | 0 => ("TillPairs$Host", "sorts", "[I", true)
  | 1 => ("TillPairs$Host", "lengths", "[I", true)
  | 2 => ("TillPairs$Host", "items", "[[I", true)
  | 3 => ("TillPairs$Host", "heldWhat", "[I", true)
  | 4 => ("TillPairs$Host", "heldSort", "[I", true)
  | _ => ("TillPairs$Host", "held", "[I", true)
def tyX1 : Nat → FieldType := fun k => match k with
  | 0 => .array .int
  | 1 => .array .int
  | 2 => .array (.array .int)
  | 3 => .array .int
  | 4 => .array .int
  | _ => .array .int
abbrev wsX10 : List Cond := u_ws RX1 TX1 6
theorem nmX1 : ∀ a, a < 6 → ∀ b, b < 6 → a ≠ b → (TX1 a).2.1 ≠ (TX1 b).2.1 := by decide +kernel
theorem tyX1_ok : ∀ k, k < 6 → parseFieldDescriptor (TX1 k).2.2.1 = some (tyX1 k) := by decide +kernel
abbrev cX1_init : ByteArray := prog_3_method_1_code
def yX1_init : MethodName := ⟨RX1, "<init>", "()V"⟩
abbrev cX1_lay : ByteArray := prog_3_method_2_code
def yX1_lay : MethodName := ⟨RX1, "lay", "(III)I"⟩
abbrev cX1_holds : ByteArray := prog_3_method_3_code
def yX1_holds : MethodName := ⟨RX1, "holds", "(II)Z"⟩
abbrev cX1_write : ByteArray := prog_3_method_4_code
def yX1_write : MethodName := ⟨RX1, "write", "(III)I"⟩
abbrev cX1_shelvePlan : ByteArray := prog_3_method_5_code
def yX1_shelvePlan : MethodName := ⟨RX1, "shelvePlan", "(II)I"⟩
abbrev cX1_shelveRow : ByteArray := prog_3_method_6_code
def yX1_shelveRow : MethodName := ⟨RX1, "shelveRow", "(II)I"⟩
abbrev cX1_clear : ByteArray := prog_3_method_7_code
def yX1_clear : MethodName := ⟨RX1, "clear", "(I)I"⟩
abbrev cX1_heldRow : ByteArray := prog_3_method_8_code
def yX1_heldRow : MethodName := ⟨RX1, "heldRow", "(I)Z"⟩
abbrev cX1_heldPlan : ByteArray := prog_3_method_9_code
def yX1_heldPlan : MethodName := ⟨RX1, "heldPlan", "(I)Z"⟩
def RX2 : String := "TillPairs$House"
def TX2 : u_T := fun k => match k with
  | 0 => ("TillPairs$House", "people", "I", false)
  | 1 => ("TillPairs$House", "surprises", "I", false)
  | 2 => ("TillPairs$House", "kinOf", "[I", true)
  | 3 => ("TillPairs$House", "awayOn", "[I", true)
  | 4 => ("TillPairs$House", "trustAtFirst", "[I", true)
  | 5 => ("TillPairs$House", "laws", "[I", true)
  | 6 => ("TillPairs$House", "seats", "[I", true)
  | _ => ("TillPairs$House", "losses", "[I", true)
def tyX2 : Nat → FieldType := fun k => match k with
  | 0 => .int
  | 1 => .int
  | 2 => .array .int
  | 3 => .array .int
  | 4 => .array .int
  | 5 => .array .int
  | 6 => .array .int
  | _ => .array .int
abbrev wsX20 : List Cond := u_ws RX2 TX2 8
theorem nmX2 : ∀ a, a < 8 → ∀ b, b < 8 → a ≠ b → (TX2 a).2.1 ≠ (TX2 b).2.1 := by decide +kernel
theorem tyX2_ok : ∀ k, k < 8 → parseFieldDescriptor (TX2 k).2.2.1 = some (tyX2 k) := by decide +kernel
abbrev cX2_init : ByteArray := prog_4_method_1_code
def yX2_init : MethodName := ⟨RX2, "<init>", "()V"⟩
abbrev cX2_pairOf : ByteArray := prog_4_method_2_code
def yX2_pairOf : MethodName := ⟨RX2, "pairOf", "(II)I"⟩
abbrev cX2_become : ByteArray := prog_4_method_3_code
def yX2_become : MethodName := ⟨RX2, "become", "(LTillPairs$House;)V"⟩
abbrev cX2_emptyBut : ByteArray := prog_4_method_4_code
def yX2_emptyBut : MethodName := ⟨RX2, "emptyBut", "([I)V"⟩
abbrev cX2_isPerson : ByteArray := prog_4_method_5_code
def yX2_isPerson : MethodName := ⟨RX2, "isPerson", "(I)Z"⟩
abbrev cX2_areTwo : ByteArray := prog_4_method_6_code
def yX2_areTwo : MethodName := ⟨RX2, "areTwo", "(II)Z"⟩
abbrev cX2_addPerson : ByteArray := prog_4_method_7_code
def yX2_addPerson : MethodName := ⟨RX2, "addPerson", "()I"⟩
abbrev cX2_setKin : ByteArray := prog_4_method_8_code
def yX2_setKin : MethodName := ⟨RX2, "setKin", "(IIZ)I"⟩
abbrev cX2_areKin : ByteArray := prog_4_method_9_code
def yX2_areKin : MethodName := ⟨RX2, "areKin", "(II)Z"⟩
abbrev cX2_setAway : ByteArray := prog_4_method_10_code
def yX2_setAway : MethodName := ⟨RX2, "setAway", "(IIZ)I"⟩
abbrev cX2_isAway : ByteArray := prog_4_method_11_code
def yX2_isAway : MethodName := ⟨RX2, "isAway", "(II)Z"⟩
abbrev cX2_setSurprise : ByteArray := prog_4_method_12_code
def yX2_setSurprise : MethodName := ⟨RX2, "setSurprise", "(IZ)I"⟩
abbrev cX2_hasSurprise : ByteArray := prog_4_method_13_code
def yX2_hasSurprise : MethodName := ⟨RX2, "hasSurprise", "(I)Z"⟩
abbrev cX2_at : ByteArray := prog_4_method_14_code
def yX2_at : MethodName := ⟨RX2, "at", "(II)I"⟩
abbrev cX2_seat : ByteArray := prog_4_method_15_code
def yX2_seat : MethodName := ⟨RX2, "seat", "(III)V"⟩
abbrev cX2_pairOn : ByteArray := prog_4_method_16_code
def yX2_pairOn : MethodName := ⟨RX2, "pairOn", "(I)I"⟩
abbrev cX2_sittings : ByteArray := prog_4_method_17_code
def yX2_sittings : MethodName := ⟨RX2, "sittings", "()I"⟩
abbrev cX2_daysOf : ByteArray := prog_4_method_18_code
def yX2_daysOf : MethodName := ⟨RX2, "daysOf", "(I)I"⟩
abbrev cX2_lastDayOf : ByteArray := prog_4_method_19_code
def yX2_lastDayOf : MethodName := ⟨RX2, "lastDayOf", "(II)I"⟩
abbrev cX2_satInGap : ByteArray := prog_4_method_20_code
def yX2_satInGap : MethodName := ⟨RX2, "satInGap", "(II)Z"⟩
abbrev cX2_lossOf : ByteArray := prog_4_method_21_code
def yX2_lossOf : MethodName := ⟨RX2, "lossOf", "(I)I"⟩
abbrev cX2_pairOfMostLoss : ByteArray := prog_4_method_22_code
def yX2_pairOfMostLoss : MethodName := ⟨RX2, "pairOfMostLoss", "()I"⟩
def RX3 : String := "TillPairs$Judge"
def TX3 : u_T := fun k => match k with
  | _ => ("TillPairs$Judge", "home", "LTillPairs$House;", true)
def tyX3 : Nat → FieldType := fun k => match k with
  | _ => .object "TillPairs$House"
abbrev wsX30 : List Cond := u_ws RX3 TX3 1
theorem nmX3 : ∀ a, a < 1 → ∀ b, b < 1 → a ≠ b → (TX3 a).2.1 ≠ (TX3 b).2.1 := by decide +kernel
theorem tyX3_ok : ∀ k, k < 1 → parseFieldDescriptor (TX3 k).2.2.1 = some (tyX3 k) := by decide +kernel
abbrev cX3_init : ByteArray := prog_5_method_1_code
def yX3_init : MethodName := ⟨RX3, "<init>", "(LTillPairs$House;)V"⟩
abbrev cX3_trustOfPair : ByteArray := prog_5_method_2_code
def yX3_trustOfPair : MethodName := ⟨RX3, "trustOfPair", "(II)I"⟩
abbrev cX3_trustAfter : ByteArray := prog_5_method_3_code
def yX3_trustAfter : MethodName := ⟨RX3, "trustAfter", "(IZ)I"⟩
abbrev cX3_seenOf : ByteArray := prog_5_method_4_code
def yX3_seenOf : MethodName := ⟨RX3, "seenOf", "(IIIZ)I"⟩
abbrev cX3_seenOn : ByteArray := prog_5_method_5_code
def yX3_seenOn : MethodName := ⟨RX3, "seenOn", "(I)I"⟩
abbrev cX3_worthOf : ByteArray := prog_5_method_6_code
def yX3_worthOf : MethodName := ⟨RX3, "worthOf", "(II)I"⟩
abbrev cX3_worthOn : ByteArray := prog_5_method_7_code
def yX3_worthOn : MethodName := ⟨RX3, "worthOn", "(I)I"⟩
abbrev cX3_worthIf : ByteArray := prog_5_method_8_code
def yX3_worthIf : MethodName := ⟨RX3, "worthIf", "(IZ)I"⟩
abbrev cX3_isPaying : ByteArray := prog_5_method_9_code
def yX3_isPaying : MethodName := ⟨RX3, "isPaying", "(II)Z"⟩
abbrev cX3_payingDays : ByteArray := prog_5_method_10_code
def yX3_payingDays : MethodName := ⟨RX3, "payingDays", "()I"⟩
abbrev cX3_payingDaysBy : ByteArray := prog_5_method_11_code
def yX3_payingDaysBy : MethodName := ⟨RX3, "payingDaysBy", "(I)I"⟩
abbrev cX3_leastTell : ByteArray := prog_5_method_12_code
def yX3_leastTell : MethodName := ⟨RX3, "leastTell", "()I"⟩
abbrev cX3_surprisesNeeded : ByteArray := prog_5_method_13_code
def yX3_surprisesNeeded : MethodName := ⟨RX3, "surprisesNeeded", "()I"⟩
abbrev cX3_brokenOn : ByteArray := prog_5_method_14_code
def yX3_brokenOn : MethodName := ⟨RX3, "brokenOn", "(I)I"⟩
abbrev cX3_somebodyIsAway : ByteArray := prog_5_method_15_code
def yX3_somebodyIsAway : MethodName := ⟨RX3, "somebodyIsAway", "(I)Z"⟩
abbrev cX3_somebodyIsTwice : ByteArray := prog_5_method_16_code
def yX3_somebodyIsTwice : MethodName := ⟨RX3, "somebodyIsTwice", "(I)Z"⟩
def RX4 : String := "TillPairs$Odds"
def TX4 : u_T := fun k => match k with
  | 0 => ("TillPairs$Odds", "home", "LTillPairs$House;", true)
  | 1 => ("TillPairs$Odds", "mind", "LTillPairs$Judge;", true)
  | 2 => ("TillPairs$Odds", "above", "J", false)
  | _ => ("TillPairs$Odds", "below", "J", false)
def tyX4 : Nat → FieldType := fun k => match k with
  | 0 => .object "TillPairs$House"
  | 1 => .object "TillPairs$Judge"
  | 2 => .long
  | _ => .long
abbrev wsX40 : List Cond := u_ws RX4 TX4 4
theorem nmX4 : ∀ a, a < 4 → ∀ b, b < 4 → a ≠ b → (TX4 a).2.1 ≠ (TX4 b).2.1 := by decide +kernel
theorem tyX4_ok : ∀ k, k < 4 → parseFieldDescriptor (TX4 k).2.2.1 = some (tyX4 k) := by decide +kernel
abbrev cX4_init : ByteArray := prog_6_method_1_code
def yX4_init : MethodName := ⟨RX4, "<init>", "(LTillPairs$House;LTillPairs$Judge;)V"⟩
abbrev cX4_findBest : ByteArray := prog_6_method_2_code
def yX4_findBest : MethodName := ⟨RX4, "findBest", "(I)V"⟩
abbrev cX4_findLot : ByteArray := prog_6_method_3_code
def yX4_findLot : MethodName := ⟨RX4, "findLot", "(I)V"⟩
abbrev cX4_ways : ByteArray := prog_6_method_4_code
def yX4_ways : MethodName := ⟨RX4, "ways", "(II)J"⟩
abbrev cX4_power : ByteArray := prog_6_method_5_code
def yX4_power : MethodName := ⟨RX4, "power", "(JI)J"⟩
abbrev cX4_reduce : ByteArray := prog_6_method_6_code
def yX4_reduce : MethodName := ⟨RX4, "reduce", "()V"⟩
def RX5 : String := "TillPairs$Plans"
def TX5 : u_T := fun k => match k with
  | 0 => ("TillPairs$Plans", "kinds", "[I", true)
  | 1 => ("TillPairs$Plans", "as", "[I", true)
  | 2 => ("TillPairs$Plans", "seated", "[I", true)
  | 3 => ("TillPairs$Plans", "count", "I", false)
  | _ => ("TillPairs$Plans", "z", "I", false)
def tyX5 : Nat → FieldType := fun k => match k with
  | 0 => .array .int
  | 1 => .array .int
  | 2 => .array .int
  | 3 => .int
  | _ => .int
abbrev wsX50 : List Cond := u_ws RX5 TX5 5
theorem nmX5 : ∀ a, a < 5 → ∀ b, b < 5 → a ≠ b → (TX5 a).2.1 ≠ (TX5 b).2.1 := by decide +kernel
theorem tyX5_ok : ∀ k, k < 5 → parseFieldDescriptor (TX5 k).2.2.1 = some (tyX5 k) := by decide +kernel
abbrev cX5_init : ByteArray := prog_7_method_1_code
def yX5_init : MethodName := ⟨RX5, "<init>", "()V"⟩
abbrev cX5_become : ByteArray := prog_7_method_2_code
def yX5_become : MethodName := ⟨RX5, "become", "(LTillPairs$Plans;)V"⟩
abbrev cX5_has : ByteArray := prog_7_method_3_code
def yX5_has : MethodName := ⟨RX5, "has", "(I)Z"⟩
abbrev cX5_add : ByteArray := prog_7_method_4_code
def yX5_add : MethodName := ⟨RX5, "add", "(II)I"⟩
abbrev cX5_fillDay : ByteArray := prog_7_method_5_code
def yX5_fillDay : MethodName := ⟨RX5, "fillDay", "(LTillPairs$House;II)I"⟩
abbrev cX5_presentFor : ByteArray := prog_7_method_6_code
def yX5_presentFor : MethodName := ⟨RX5, "presentFor", "(LTillPairs$House;II)I"⟩
abbrev cX5_seatTold : ByteArray := prog_7_method_7_code
def yX5_seatTold : MethodName := ⟨RX5, "seatTold", "(LTillPairs$House;I)Z"⟩
abbrev cX5_seatByTurn : ByteArray := prog_7_method_8_code
def yX5_seatByTurn : MethodName := ⟨RX5, "seatByTurn", "(LTillPairs$House;II)V"⟩
abbrev cX5_longestApart : ByteArray := prog_7_method_9_code
def yX5_longestApart : MethodName := ⟨RX5, "longestApart", "(LTillPairs$House;IIZ)I"⟩
abbrev cX5_seatByDraw : ByteArray := prog_7_method_10_code
def yX5_seatByDraw : MethodName := ⟨RX5, "seatByDraw", "(I)V"⟩
abbrev cX5_drawFrom : ByteArray := prog_7_method_11_code
def yX5_drawFrom : MethodName := ⟨RX5, "drawFrom", "(I)I"⟩
abbrev cX5_seatStranger : ByteArray := prog_7_method_12_code
def yX5_seatStranger : MethodName := ⟨RX5, "seatStranger", "(LTillPairs$House;I)V"⟩
abbrev cX5_sitDown : ByteArray := prog_7_method_13_code
def yX5_sitDown : MethodName := ⟨RX5, "sitDown", "(LTillPairs$House;I)I"⟩
abbrev cX5_isIn : ByteArray := prog_7_method_14_code
def yX5_isIn : MethodName := ⟨RX5, "isIn", "(II)Z"⟩
abbrev cX5_leastOf : ByteArray := prog_7_method_15_code
def yX5_leastOf : MethodName := ⟨RX5, "leastOf", "(I)I"⟩
def RX6 : String := "TillPairs$Rows"
def TX6 : u_T := fun k => match k with
  | 0 => ("TillPairs$Rows", "home", "LTillPairs$House;", true)
  | 1 => ("TillPairs$Rows", "mind", "LTillPairs$Judge;", true)
  | 2 => ("TillPairs$Rows", "cells", "[I", true)
  | _ => ("TillPairs$Rows", "count", "I", false)
def tyX6 : Nat → FieldType := fun k => match k with
  | 0 => .object "TillPairs$House"
  | 1 => .object "TillPairs$Judge"
  | 2 => .array .int
  | _ => .int
abbrev wsX60 : List Cond := u_ws RX6 TX6 4
theorem nmX6 : ∀ a, a < 4 → ∀ b, b < 4 → a ≠ b → (TX6 a).2.1 ≠ (TX6 b).2.1 := by decide +kernel
theorem tyX6_ok : ∀ k, k < 4 → parseFieldDescriptor (TX6 k).2.2.1 = some (tyX6 k) := by decide +kernel
abbrev cX6_init : ByteArray := prog_8_method_1_code
def yX6_init : MethodName := ⟨RX6, "<init>", "(LTillPairs$House;LTillPairs$Judge;)V"⟩
abbrev cX6_drop : ByteArray := prog_8_method_2_code
def yX6_drop : MethodName := ⟨RX6, "drop", "()V"⟩
abbrev cX6_has : ByteArray := prog_8_method_3_code
def yX6_has : MethodName := ⟨RX6, "has", "(II)Z"⟩
abbrev cX6_write : ByteArray := prog_8_method_4_code
def yX6_write : MethodName := ⟨RX6, "write", "()I"⟩
abbrev cX6_firstWrong : ByteArray := prog_8_method_5_code
def yX6_firstWrong : MethodName := ⟨RX6, "firstWrong", "()I"⟩
abbrev cX6_due : ByteArray := prog_8_method_6_code
def yX6_due : MethodName := ⟨RX6, "due", "(II)I"⟩
def RX7 : String := "TillPairs$Tape"
def TX7 : u_T := fun k => match k with
  | 0 => ("TillPairs$Tape", "bytes", "[I", true)
  | 1 => ("TillPairs$Tape", "draft", "LTillPairs$House;", true)
  | 2 => ("TillPairs$Tape", "length", "I", false)
  | 3 => ("TillPairs$Tape", "at", "I", false)
  | _ => ("TillPairs$Tape", "fault", "I", false)
def tyX7 : Nat → FieldType := fun k => match k with
  | 0 => .array .int
  | 1 => .object "TillPairs$House"
  | 2 => .int
  | 3 => .int
  | _ => .int
abbrev wsX70 : List Cond := u_ws RX7 TX7 5
theorem nmX7 : ∀ a, a < 5 → ∀ b, b < 5 → a ≠ b → (TX7 a).2.1 ≠ (TX7 b).2.1 := by decide +kernel
theorem tyX7_ok : ∀ k, k < 5 → parseFieldDescriptor (TX7 k).2.2.1 = some (tyX7 k) := by decide +kernel
abbrev cX7_init : ByteArray := prog_9_method_1_code
def yX7_init : MethodName := ⟨RX7, "<init>", "()V"⟩
abbrev cX7_add : ByteArray := prog_9_method_2_code
def yX7_add : MethodName := ⟨RX7, "add", "(JI)I"⟩
abbrev cX7_tell : ByteArray := prog_9_method_3_code
def yX7_tell : MethodName := ⟨RX7, "tell", "(LTillPairs$House;)I"⟩
abbrev cX7_readStatement : ByteArray := prog_9_method_4_code
def yX7_readStatement : MethodName := ⟨RX7, "readStatement", "()V"⟩
abbrev cX7_nameOf : ByteArray := prog_9_method_5_code
def yX7_nameOf : MethodName := ⟨RX7, "nameOf", "(I)Ljava/lang/String;"⟩
abbrev cX7_readKin : ByteArray := prog_9_method_6_code
def yX7_readKin : MethodName := ⟨RX7, "readKin", "()V"⟩
abbrev cX7_readTrust : ByteArray := prog_9_method_7_code
def yX7_readTrust : MethodName := ⟨RX7, "readTrust", "()V"⟩
abbrev cX7_readAway : ByteArray := prog_9_method_8_code
def yX7_readAway : MethodName := ⟨RX7, "readAway", "()V"⟩
abbrev cX7_readLaw : ByteArray := prog_9_method_9_code
def yX7_readLaw : MethodName := ⟨RX7, "readLaw", "(I)V"⟩
abbrev cX7_readEnd : ByteArray := prog_9_method_10_code
def yX7_readEnd : MethodName := ⟨RX7, "readEnd", "()V"⟩
abbrev cX7_readWord : ByteArray := prog_9_method_11_code
def yX7_readWord : MethodName := ⟨RX7, "readWord", "(Ljava/lang/String;)V"⟩
abbrev cX7_readNumber : ByteArray := prog_9_method_12_code
def yX7_readNumber : MethodName := ⟨RX7, "readNumber", "(II)I"⟩
abbrev cX7_isDigit : ByteArray := prog_9_method_13_code
def yX7_isDigit : MethodName := ⟨RX7, "isDigit", "(I)Z"⟩
abbrev cX7_fail : ByteArray := prog_9_method_14_code
def yX7_fail : MethodName := ⟨RX7, "fail", "(I)V"⟩
abbrev cX7_skipBlanks : ByteArray := prog_9_method_15_code
def yX7_skipBlanks : MethodName := ⟨RX7, "skipBlanks", "()V"⟩
abbrev cX7_endOfName : ByteArray := prog_9_method_16_code
def yX7_endOfName : MethodName := ⟨RX7, "endOfName", "()I"⟩
abbrev cX7_stands : ByteArray := prog_9_method_17_code
def yX7_stands : MethodName := ⟨RX7, "stands", "(Ljava/lang/String;I)Z"⟩
def RX8 : String := "TillPairs$Ways"
def TX8 : u_T := fun k => match k with
  | 0 => ("TillPairs$Ways", "home", "LTillPairs$House;", true)
  | 1 => ("TillPairs$Ways", "mind", "LTillPairs$Judge;", true)
  | 2 => ("TillPairs$Ways", "trusts", "[I", true)
  | 3 => ("TillPairs$Ways", "bounds", "[[I", true)
  | 4 => ("TillPairs$Ways", "chosen", "[I", true)
  | 5 => ("TillPairs$Ways", "changes", "I", false)
  | _ => ("TillPairs$Ways", "digits", "I", false)
def tyX8 : Nat → FieldType := fun k => match k with
  | 0 => .object "TillPairs$House"
  | 1 => .object "TillPairs$Judge"
  | 2 => .array .int
  | 3 => .array (.array .int)
  | 4 => .array .int
  | 5 => .int
  | _ => .int
abbrev wsX80 : List Cond := u_ws RX8 TX8 7
theorem nmX8 : ∀ a, a < 7 → ∀ b, b < 7 → a ≠ b → (TX8 a).2.1 ≠ (TX8 b).2.1 := by decide +kernel
theorem tyX8_ok : ∀ k, k < 7 → parseFieldDescriptor (TX8 k).2.2.1 = some (tyX8 k) := by decide +kernel
abbrev cX8_init : ByteArray := prog_10_method_1_code
def yX8_init : MethodName := ⟨RX8, "<init>", "(LTillPairs$House;LTillPairs$Judge;)V"⟩
abbrev cX8_mend : ByteArray := prog_10_method_2_code
def yX8_mend : MethodName := ⟨RX8, "mend", "(I)Z"⟩
abbrev cX8_mendBy : ByteArray := prog_10_method_3_code
def yX8_mendBy : MethodName := ⟨RX8, "mendBy", "(III)V"⟩
abbrev cX8_change : ByteArray := prog_10_method_4_code
def yX8_change : MethodName := ⟨RX8, "change", "(III)I"⟩
abbrev cX8_maySit : ByteArray := prog_10_method_5_code
def yX8_maySit : MethodName := ⟨RX8, "maySit", "(III)Z"⟩
abbrev cX8_isFree : ByteArray := prog_10_method_6_code
def yX8_isFree : MethodName := ⟨RX8, "isFree", "(III)Z"⟩
abbrev cX8_wouldPay : ByteArray := prog_10_method_7_code
def yX8_wouldPay : MethodName := ⟨RX8, "wouldPay", "(IIIII)Z"⟩
abbrev cX8_rowsAhead : ByteArray := prog_10_method_8_code
def yX8_rowsAhead : MethodName := ⟨RX8, "rowsAhead", "(II)I"⟩
abbrev cX8_mostTrust : ByteArray := prog_10_method_9_code
def yX8_mostTrust : MethodName := ⟨RX8, "mostTrust", "(II)I"⟩
abbrev cX8_countRows : ByteArray := prog_10_method_10_code
def yX8_countRows : MethodName := ⟨RX8, "countRows", "(LTillPairs$Ways;II)I"⟩
abbrev cX8_standsBehindChosen : ByteArray := prog_10_method_11_code
def yX8_standsBehindChosen : MethodName := ⟨RX8, "standsBehindChosen", "(II)Z"⟩
def RX9 : String := "TillPairs"
def TX9 : u_T := fun k => match k with
  | 0 => ("TillPairs", "home", "LTillPairs$House;", true)
  | 1 => ("TillPairs", "tape", "LTillPairs$Tape;", true)
  | 2 => ("TillPairs", "mind", "LTillPairs$Judge;", true)
  | 3 => ("TillPairs", "odds", "LTillPairs$Odds;", true)
  | 4 => ("TillPairs", "ways", "LTillPairs$Ways;", true)
  | 5 => ("TillPairs", "plans", "LTillPairs$Plans;", true)
  | 6 => ("TillPairs", "rows", "LTillPairs$Rows;", true)
  | 7 => ("TillPairs", "acts", "LTillPairs$Acts;", true)
  | 8 => ("TillPairs", "host", "LTillPairs$Host;", true)
  | 9 => ("TillPairs", "keptHome", "LTillPairs$House;", true)
  | 10 => ("TillPairs", "keptPlans", "LTillPairs$Plans;", true)
  | _ => ("TillPairs", "kept", "Z", false)
def tyX9 : Nat → FieldType := fun k => match k with
  | 0 => .object "TillPairs$House"
  | 1 => .object "TillPairs$Tape"
  | 2 => .object "TillPairs$Judge"
  | 3 => .object "TillPairs$Odds"
  | 4 => .object "TillPairs$Ways"
  | 5 => .object "TillPairs$Plans"
  | 6 => .object "TillPairs$Rows"
  | 7 => .object "TillPairs$Acts"
  | 8 => .object "TillPairs$Host"
  | 9 => .object "TillPairs$House"
  | 10 => .object "TillPairs$Plans"
  | _ => .boolean
abbrev wsX90 : List Cond := u_ws RX9 TX9 12
theorem nmX9 : ∀ a, a < 12 → ∀ b, b < 12 → a ≠ b → (TX9 a).2.1 ≠ (TX9 b).2.1 := by decide +kernel
theorem tyX9_ok : ∀ k, k < 12 → parseFieldDescriptor (TX9 k).2.2.1 = some (tyX9 k) := by decide +kernel
abbrev cX9_init : ByteArray := prog_1_method_1_code
def yX9_init : MethodName := ⟨RX9, "<init>", "()V"⟩
abbrev cX9_feed : ByteArray := prog_1_method_2_code
def yX9_feed : MethodName := ⟨RX9, "feed", "(JI)I"⟩
abbrev cX9_house : ByteArray := prog_1_method_3_code
def yX9_house : MethodName := ⟨RX9, "house", "()I"⟩
abbrev cX9_person : ByteArray := prog_1_method_4_code
def yX9_person : MethodName := ⟨RX9, "person", "()I"⟩
abbrev cX9_kin : ByteArray := prog_1_method_5_code
def yX9_kin : MethodName := ⟨RX9, "kin", "(IIZ)I"⟩
abbrev cX9_trust : ByteArray := prog_1_method_6_code
def yX9_trust : MethodName := ⟨RX9, "trust", "(III)I"⟩
abbrev cX9_away : ByteArray := prog_1_method_7_code
def yX9_away : MethodName := ⟨RX9, "away", "(IIZ)I"⟩
abbrev cX9_set : ByteArray := prog_1_method_8_code
def yX9_set : MethodName := ⟨RX9, "set", "(II)I"⟩
abbrev cX9_law : ByteArray := prog_1_method_9_code
def yX9_law : MethodName := ⟨RX9, "law", "(I)I"⟩
abbrev cX9_post : ByteArray := prog_1_method_10_code
def yX9_post : MethodName := ⟨RX9, "post", "(III)I"⟩
abbrev cX9_postOf : ByteArray := prog_1_method_11_code
def yX9_postOf : MethodName := ⟨RX9, "postOf", "(II)I"⟩
abbrev cX9_surprise : ByteArray := prog_1_method_12_code
def yX9_surprise : MethodName := ⟨RX9, "surprise", "(IZ)I"⟩
abbrev cX9_loss : ByteArray := prog_1_method_13_code
def yX9_loss : MethodName := ⟨RX9, "loss", "(II)I"⟩
abbrev cX9_trustOn : ByteArray := prog_1_method_14_code
def yX9_trustOn : MethodName := ⟨RX9, "trustOn", "(III)I"⟩
abbrev cX9_seen : ByteArray := prog_1_method_15_code
def yX9_seen : MethodName := ⟨RX9, "seen", "(I)I"⟩
abbrev cX9_worth : ByteArray := prog_1_method_16_code
def yX9_worth : MethodName := ⟨RX9, "worth", "(I)I"⟩
abbrev cX9_pays : ByteArray := prog_1_method_17_code
def yX9_pays : MethodName := ⟨RX9, "pays", "()I"⟩
abbrev cX9_best : ByteArray := prog_1_method_18_code
def yX9_best : MethodName := ⟨RX9, "best", "(III)J"⟩
abbrev cX9_enough : ByteArray := prog_1_method_19_code
def yX9_enough : MethodName := ⟨RX9, "enough", "()I"⟩
abbrev cX9_needed : ByteArray := prog_1_method_20_code
def yX9_needed : MethodName := ⟨RX9, "needed", "()I"⟩
abbrev cX9_broken : ByteArray := prog_1_method_21_code
def yX9_broken : MethodName := ⟨RX9, "broken", "(I)I"⟩
abbrev cX9_mended : ByteArray := prog_1_method_22_code
def yX9_mended : MethodName := ⟨RX9, "mended", "(II)I"⟩
abbrev cX9_ahead : ByteArray := prog_1_method_23_code
def yX9_ahead : MethodName := ⟨RX9, "ahead", "(II)I"⟩
abbrev cX9_lot : ByteArray := prog_1_method_24_code
def yX9_lot : MethodName := ⟨RX9, "lot", "(III)J"⟩
abbrev cX9_sat : ByteArray := prog_1_method_25_code
def yX9_sat : MethodName := ⟨RX9, "sat", "(II)I"⟩
abbrev cX9_suspects : ByteArray := prog_1_method_26_code
def yX9_suspects : MethodName := ⟨RX9, "suspects", "(I)I"⟩
abbrev cX9_plan : ByteArray := prog_1_method_27_code
def yX9_plan : MethodName := ⟨RX9, "plan", "(II)I"⟩
abbrev cX9_planOf : ByteArray := prog_1_method_28_code
def yX9_planOf : MethodName := ⟨RX9, "planOf", "(II)I"⟩
abbrev cX9_fill : ByteArray := prog_1_method_29_code
def yX9_fill : MethodName := ⟨RX9, "fill", "(II)I"⟩
abbrev cX9_seed : ByteArray := prog_1_method_30_code
def yX9_seed : MethodName := ⟨RX9, "seed", "(I)I"⟩
abbrev cX9_prove : ByteArray := prog_1_method_31_code
def yX9_prove : MethodName := ⟨RX9, "prove", "()I"⟩
abbrev cX9_row : ByteArray := prog_1_method_32_code
def yX9_row : MethodName := ⟨RX9, "row", "(II)I"⟩
abbrev cX9_alterRow : ByteArray := prog_1_method_33_code
def yX9_alterRow : MethodName := ⟨RX9, "alterRow", "(III)I"⟩
abbrev cX9_judge : ByteArray := prog_1_method_34_code
def yX9_judge : MethodName := ⟨RX9, "judge", "()I"⟩
abbrev cX9_sheet : ByteArray := prog_1_method_35_code
def yX9_sheet : MethodName := ⟨RX9, "sheet", "(III)I"⟩
abbrev cX9_put : ByteArray := prog_1_method_36_code
def yX9_put : MethodName := ⟨RX9, "put", "(III)I"⟩
abbrev cX9_item : ByteArray := prog_1_method_37_code
def yX9_item : MethodName := ⟨RX9, "item", "(III)I"⟩
abbrev cX9_shelf : ByteArray := prog_1_method_38_code
def yX9_shelf : MethodName := ⟨RX9, "shelf", "(III)I"⟩
abbrev cX9_taken : ByteArray := prog_1_method_39_code
def yX9_taken : MethodName := ⟨RX9, "taken", "(II)I"⟩
abbrev cX9_act : ByteArray := prog_1_method_40_code
def yX9_act : MethodName := ⟨RX9, "act", "(III)I"⟩
abbrev cX9_trace : ByteArray := prog_1_method_41_code
def yX9_trace : MethodName := ⟨RX9, "trace", "(I)I"⟩
abbrev cX9_days : ByteArray := prog_1_method_42_code
def yX9_days : MethodName := ⟨RX9, "days", "(II)I"⟩
abbrev cX9_many : ByteArray := prog_1_method_43_code
def yX9_many : MethodName := ⟨RX9, "many", "(I)I"⟩
abbrev cX9_keep : ByteArray := prog_1_method_44_code
def yX9_keep : MethodName := ⟨RX9, "keep", "()I"⟩
abbrev cX9_again : ByteArray := prog_1_method_45_code
def yX9_again : MethodName := ⟨RX9, "again", "()I"⟩
abbrev cX9_isDay : ByteArray := prog_1_method_46_code
def yX9_isDay : MethodName := ⟨RX9, "isDay", "(I)Z"⟩
abbrev cX9_isPost : ByteArray := prog_1_method_47_code
def yX9_isPost : MethodName := ⟨RX9, "isPost", "(I)Z"⟩
abbrev cX9_isPart : ByteArray := prog_1_method_48_code
def yX9_isPart : MethodName := ⟨RX9, "isPart", "(I)Z"⟩
abbrev cX9_isPlace : ByteArray := prog_1_method_49_code
def yX9_isPlace : MethodName := ⟨RX9, "isPlace", "(I)Z"⟩
abbrev cX9_planOn : ByteArray := prog_1_method_50_code
def yX9_planOn : MethodName := ⟨RX9, "planOn", "(I)I"⟩
def RX10 : String := "TillPairsModel"
def TX10 : u_T := fun k => match k with
  | 0 => ("TillPairsModel", "people", "I", false)
  | 1 => ("TillPairsModel", "kin", "[I", true)
  | 2 => ("TillPairsModel", "away", "[I", true)
  | 3 => ("TillPairsModel", "first", "[I", true)
  | 4 => ("TillPairsModel", "posts", "[I", true)
  | 5 => ("TillPairsModel", "surprises", "I", false)
  | 6 => ("TillPairsModel", "losses", "[I", true)
  | 7 => ("TillPairsModel", "laws", "[I", true)
  | 8 => ("TillPairsModel", "mostOf", "[I", true)
  | 9 => ("TillPairsModel", "plans", "I", false)
  | 10 => ("TillPairsModel", "plan", "[I", true)
  | 11 => ("TillPairsModel", "z", "I", false)
  | 12 => ("TillPairsModel", "tape", "[I", true)
  | 13 => ("TillPairsModel", "tapeMany", "I", false)
  | 14 => ("TillPairsModel", "sort", "I", false)
  | 15 => ("TillPairsModel", "begins", "I", false)
  | 16 => ("TillPairsModel", "tokenEnds", "I", false)
  | 17 => ("TillPairsModel", "word", "J", false)
  | 18 => ("TillPairsModel", "value", "I", false)
  | 19 => ("TillPairsModel", "good", "Z", false)
  | 20 => ("TillPairsModel", "freshPeople", "I", false)
  | 21 => ("TillPairsModel", "freshKin", "[I", true)
  | 22 => ("TillPairsModel", "freshAway", "[I", true)
  | 23 => ("TillPairsModel", "freshFirst", "[I", true)
  | 24 => ("TillPairsModel", "freshLaws", "[I", true)
  | 25 => ("TillPairsModel", "above", "J", false)
  | 26 => ("TillPairsModel", "below", "J", false)
  | 27 => ("TillPairsModel", "had", "[I", true)
  | 28 => ("TillPairsModel", "bestWay", "[I", true)
  | 29 => ("TillPairsModel", "place", "[I", true)
  | 30 => ("TillPairsModel", "often", "[J", true)
  | 31 => ("TillPairsModel", "way", "[I", true)
  | 32 => ("TillPairsModel", "rows", "[I", true)
  | 33 => ("TillPairsModel", "must", "[I", true)
  | 34 => ("TillPairsModel", "rowMany", "I", false)
  | 35 => ("TillPairsModel", "sorts", "[I", true)
  | 36 => ("TillPairsModel", "sizes", "[I", true)
  | 37 => ("TillPairsModel", "sheets", "[J", true)
  | 38 => ("TillPairsModel", "held", "[I", true)
  | 39 => ("TillPairsModel", "heldNumber", "[I", true)
  | 40 => ("TillPairsModel", "heldSize", "[I", true)
  | 41 => ("TillPairsModel", "kind", "I", false)
  | 42 => ("TillPairsModel", "number", "I", false)
  | 43 => ("TillPairsModel", "own", "I", false)
  | 44 => ("TillPairsModel", "traced", "[I", true)
  | 45 => ("TillPairsModel", "bodies", "I", false)
  | 46 => ("TillPairsModel", "isParted", "Z", false)
  | 47 => ("TillPairsModel", "isKept", "Z", false)
  | 48 => ("TillPairsModel", "kept", "[I", true)
  | 49 => ("TillPairsModel", "movedTo", "I", false)
  | _ => ("TillPairsModel", "single", "[I", true)
def tyX10 : Nat → FieldType := fun k => match k with
  | 0 => .int
  | 1 => .array .int
  | 2 => .array .int
  | 3 => .array .int
  | 4 => .array .int
  | 5 => .int
  | 6 => .array .int
  | 7 => .array .int
  | 8 => .array .int
  | 9 => .int
  | 10 => .array .int
  | 11 => .int
  | 12 => .array .int
  | 13 => .int
  | 14 => .int
  | 15 => .int
  | 16 => .int
  | 17 => .long
  | 18 => .int
  | 19 => .boolean
  | 20 => .int
  | 21 => .array .int
  | 22 => .array .int
  | 23 => .array .int
  | 24 => .array .int
  | 25 => .long
  | 26 => .long
  | 27 => .array .int
  | 28 => .array .int
  | 29 => .array .int
  | 30 => .array .long
  | 31 => .array .int
  | 32 => .array .int
  | 33 => .array .int
  | 34 => .int
  | 35 => .array .int
  | 36 => .array .int
  | 37 => .array .long
  | 38 => .array .int
  | 39 => .array .int
  | 40 => .array .int
  | 41 => .int
  | 42 => .int
  | 43 => .int
  | 44 => .array .int
  | 45 => .int
  | 46 => .boolean
  | 47 => .boolean
  | 48 => .array .int
  | 49 => .int
  | _ => .array .int
abbrev wsX100 : List Cond := u_ws RX10 TX10 51
theorem nmX10 : ∀ a, a < 51 → ∀ b, b < 51 → a ≠ b → (TX10 a).2.1 ≠ (TX10 b).2.1 := by decide +kernel
theorem tyX10_ok : ∀ k, k < 51 → parseFieldDescriptor (TX10 k).2.2.1 = some (tyX10 k) := by decide +kernel
abbrev cX10_init : ByteArray := prog_12_method_1_code
def yX10_init : MethodName := ⟨RX10, "<init>", "()V"⟩
abbrev cX10_in : ByteArray := prog_12_method_2_code
def yX10_in : MethodName := ⟨RX10, "in", "(III)Z"⟩
abbrev cX10_isPerson : ByteArray := prog_12_method_3_code
def yX10_isPerson : MethodName := ⟨RX10, "isPerson", "(I)Z"⟩
abbrev cX10_areTwo : ByteArray := prog_12_method_4_code
def yX10_areTwo : MethodName := ⟨RX10, "areTwo", "(II)Z"⟩
abbrev cX10_isDay : ByteArray := prog_12_method_5_code
def yX10_isDay : MethodName := ⟨RX10, "isDay", "(I)Z"⟩
abbrev cX10_isPost : ByteArray := prog_12_method_6_code
def yX10_isPost : MethodName := ⟨RX10, "isPost", "(I)Z"⟩
abbrev cX10_isSide : ByteArray := prog_12_method_7_code
def yX10_isSide : MethodName := ⟨RX10, "isSide", "(I)Z"⟩
abbrev cX10_areKin : ByteArray := prog_12_method_8_code
def yX10_areKin : MethodName := ⟨RX10, "areKin", "(II)Z"⟩
abbrev cX10_isAway : ByteArray := prog_12_method_9_code
def yX10_isAway : MethodName := ⟨RX10, "isAway", "(II)Z"⟩
abbrev cX10_feed : ByteArray := prog_12_method_10_code
def yX10_feed : MethodName := ⟨RX10, "feed", "(JI)I"⟩
abbrev cX10_byteAt : ByteArray := prog_12_method_11_code
def yX10_byteAt : MethodName := ⟨RX10, "byteAt", "(I)I"⟩
abbrev cX10_isLetter : ByteArray := prog_12_method_12_code
def yX10_isLetter : MethodName := ⟨RX10, "isLetter", "(I)Z"⟩
abbrev cX10_isDigit : ByteArray := prog_12_method_13_code
def yX10_isDigit : MethodName := ⟨RX10, "isDigit", "(I)Z"⟩
abbrev cX10_advance : ByteArray := prog_12_method_14_code
def yX10_advance : MethodName := ⟨RX10, "advance", "()V"⟩
abbrev cX10_isWord : ByteArray := prog_12_method_15_code
def yX10_isWord : MethodName := ⟨RX10, "isWord", "(J)Z"⟩
abbrev cX10_isMark : ByteArray := prog_12_method_16_code
def yX10_isMark : MethodName := ⟨RX10, "isMark", "(I)Z"⟩
abbrev cX10_lawHere : ByteArray := prog_12_method_17_code
def yX10_lawHere : MethodName := ⟨RX10, "lawHere", "()I"⟩
abbrev cX10_wantNumber : ByteArray := prog_12_method_18_code
def yX10_wantNumber : MethodName := ⟨RX10, "wantNumber", "(II)I"⟩
abbrev cX10_wantWord : ByteArray := prog_12_method_19_code
def yX10_wantWord : MethodName := ⟨RX10, "wantWord", "(J)V"⟩
abbrev cX10_wantEnd : ByteArray := prog_12_method_20_code
def yX10_wantEnd : MethodName := ⟨RX10, "wantEnd", "()V"⟩
abbrev cX10_wantTwo : ByteArray := prog_12_method_21_code
def yX10_wantTwo : MethodName := ⟨RX10, "wantTwo", "(Z)V"⟩
abbrev cX10_wantAway : ByteArray := prog_12_method_22_code
def yX10_wantAway : MethodName := ⟨RX10, "wantAway", "()V"⟩
abbrev cX10_wantClause : ByteArray := prog_12_method_23_code
def yX10_wantClause : MethodName := ⟨RX10, "wantClause", "()V"⟩
abbrev cX10_house : ByteArray := prog_12_method_24_code
def yX10_house : MethodName := ⟨RX10, "house", "()I"⟩
abbrev cX10_person : ByteArray := prog_12_method_25_code
def yX10_person : MethodName := ⟨RX10, "person", "()I"⟩
abbrev cX10_kin : ByteArray := prog_12_method_26_code
def yX10_kin : MethodName := ⟨RX10, "kin", "(IIZ)I"⟩
abbrev cX10_trust : ByteArray := prog_12_method_27_code
def yX10_trust : MethodName := ⟨RX10, "trust", "(III)I"⟩
abbrev cX10_away : ByteArray := prog_12_method_28_code
def yX10_away : MethodName := ⟨RX10, "away", "(IIZ)I"⟩
abbrev cX10_isLaw : ByteArray := prog_12_method_29_code
def yX10_isLaw : MethodName := ⟨RX10, "isLaw", "(I)Z"⟩
abbrev cX10_set : ByteArray := prog_12_method_30_code
def yX10_set : MethodName := ⟨RX10, "set", "(II)I"⟩
abbrev cX10_law : ByteArray := prog_12_method_31_code
def yX10_law : MethodName := ⟨RX10, "law", "(I)I"⟩
abbrev cX10_orNobody : ByteArray := prog_12_method_32_code
def yX10_orNobody : MethodName := ⟨RX10, "orNobody", "(I)I"⟩
abbrev cX10_post : ByteArray := prog_12_method_33_code
def yX10_post : MethodName := ⟨RX10, "post", "(III)I"⟩
abbrev cX10_postOf : ByteArray := prog_12_method_34_code
def yX10_postOf : MethodName := ⟨RX10, "postOf", "(II)I"⟩
abbrev cX10_surprise : ByteArray := prog_12_method_35_code
def yX10_surprise : MethodName := ⟨RX10, "surprise", "(IZ)I"⟩
abbrev cX10_loss : ByteArray := prog_12_method_36_code
def yX10_loss : MethodName := ⟨RX10, "loss", "(II)I"⟩
abbrev cX10_twoOn : ByteArray := prog_12_method_37_code
def yX10_twoOn : MethodName := ⟨RX10, "twoOn", "(I)I"⟩
abbrev cX10_pair : ByteArray := prog_12_method_38_code
def yX10_pair : MethodName := ⟨RX10, "pair", "(II)I"⟩
abbrev cX10_trustOf : ByteArray := prog_12_method_39_code
def yX10_trustOf : MethodName := ⟨RX10, "trustOf", "(III)I"⟩
abbrev cX10_trustOn : ByteArray := prog_12_method_40_code
def yX10_trustOn : MethodName := ⟨RX10, "trustOn", "(III)I"⟩
abbrev cX10_isNeither : ByteArray := prog_12_method_41_code
def yX10_isNeither : MethodName := ⟨RX10, "isNeither", "(III)Z"⟩
abbrev cX10_seenBy : ByteArray := prog_12_method_42_code
def yX10_seenBy : MethodName := ⟨RX10, "seenBy", "(IZ)I"⟩
abbrev cX10_isSurprise : ByteArray := prog_12_method_43_code
def yX10_isSurprise : MethodName := ⟨RX10, "isSurprise", "(I)Z"⟩
abbrev cX10_seen : ByteArray := prog_12_method_44_code
def yX10_seen : MethodName := ⟨RX10, "seen", "(I)I"⟩
abbrev cX10_worthBy : ByteArray := prog_12_method_45_code
def yX10_worthBy : MethodName := ⟨RX10, "worthBy", "(IZ)I"⟩
abbrev cX10_worth : ByteArray := prog_12_method_46_code
def yX10_worth : MethodName := ⟨RX10, "worth", "(I)I"⟩
abbrev cX10_paysBy : ByteArray := prog_12_method_47_code
def yX10_paysBy : MethodName := ⟨RX10, "paysBy", "(IZI)Z"⟩
abbrev cX10_pays : ByteArray := prog_12_method_48_code
def yX10_pays : MethodName := ⟨RX10, "pays", "()I"⟩
abbrev cX10_lowest : ByteArray := prog_12_method_49_code
def yX10_lowest : MethodName := ⟨RX10, "lowest", "(JJ)V"⟩
abbrev cX10_best : ByteArray := prog_12_method_50_code
def yX10_best : MethodName := ⟨RX10, "best", "(III)J"⟩
abbrev cX10_enough : ByteArray := prog_12_method_51_code
def yX10_enough : MethodName := ⟨RX10, "enough", "()I"⟩
abbrev cX10_needed : ByteArray := prog_12_method_52_code
def yX10_needed : MethodName := ⟨RX10, "needed", "()I"⟩
abbrev cX10_brokenOn : ByteArray := prog_12_method_53_code
def yX10_brokenOn : MethodName := ⟨RX10, "brokenOn", "(I)I"⟩
abbrev cX10_broken : ByteArray := prog_12_method_54_code
def yX10_broken : MethodName := ⟨RX10, "broken", "(I)I"⟩
abbrev cX10_keepsPosts : ByteArray := prog_12_method_55_code
def yX10_keepsPosts : MethodName := ⟨RX10, "keepsPosts", "(II)V"⟩
abbrev cX10_givesPosts : ByteArray := prog_12_method_56_code
def yX10_givesPosts : MethodName := ⟨RX10, "givesPosts", "(II)V"⟩
abbrev cX10_comes : ByteArray := prog_12_method_57_code
def yX10_comes : MethodName := ⟨RX10, "comes", "(II)Z"⟩
abbrev cX10_mended : ByteArray := prog_12_method_58_code
def yX10_mended : MethodName := ⟨RX10, "mended", "(II)I"⟩
abbrev cX10_sits : ByteArray := prog_12_method_59_code
def yX10_sits : MethodName := ⟨RX10, "sits", "(II)Z"⟩
abbrev cX10_ahead : ByteArray := prog_12_method_60_code
def yX10_ahead : MethodName := ⟨RX10, "ahead", "(II)I"⟩
abbrev cX10_satOn : ByteArray := prog_12_method_61_code
def yX10_satOn : MethodName := ⟨RX10, "satOn", "(II)I"⟩
abbrev cX10_sat : ByteArray := prog_12_method_62_code
def yX10_sat : MethodName := ⟨RX10, "sat", "(II)I"⟩
abbrev cX10_ones : ByteArray := prog_12_method_63_code
def yX10_ones : MethodName := ⟨RX10, "ones", "(I)I"⟩
abbrev cX10_sitting : ByteArray := prog_12_method_64_code
def yX10_sitting : MethodName := ⟨RX10, "sitting", "()I"⟩
abbrev cX10_lot : ByteArray := prog_12_method_65_code
def yX10_lot : MethodName := ⟨RX10, "lot", "(III)J"⟩
abbrev cX10_suspects : ByteArray := prog_12_method_66_code
def yX10_suspects : MethodName := ⟨RX10, "suspects", "(I)I"⟩
abbrev cX10_isPlan : ByteArray := prog_12_method_67_code
def yX10_isPlan : MethodName := ⟨RX10, "isPlan", "(I)Z"⟩
abbrev cX10_plan : ByteArray := prog_12_method_68_code
def yX10_plan : MethodName := ⟨RX10, "plan", "(II)I"⟩
abbrev cX10_planOf : ByteArray := prog_12_method_69_code
def yX10_planOf : MethodName := ⟨RX10, "planOf", "(II)I"⟩
abbrev cX10_leastOf : ByteArray := prog_12_method_70_code
def yX10_leastOf : MethodName := ⟨RX10, "leastOf", "(I)I"⟩
abbrev cX10_lastSat : ByteArray := prog_12_method_71_code
def yX10_lastSat : MethodName := ⟨RX10, "lastSat", "(III)I"⟩
abbrev cX10_fillsTurn : ByteArray := prog_12_method_72_code
def yX10_fillsTurn : MethodName := ⟨RX10, "fillsTurn", "(II)V"⟩
abbrev cX10_fillsDraw : ByteArray := prog_12_method_73_code
def yX10_fillsDraw : MethodName := ⟨RX10, "fillsDraw", "(I)V"⟩
abbrev cX10_fillsCount : ByteArray := prog_12_method_74_code
def yX10_fillsCount : MethodName := ⟨RX10, "fillsCount", "(I)V"⟩
abbrev cX10_fillsTold : ByteArray := prog_12_method_75_code
def yX10_fillsTold : MethodName := ⟨RX10, "fillsTold", "(I)Z"⟩
abbrev cX10_fill : ByteArray := prog_12_method_76_code
def yX10_fill : MethodName := ⟨RX10, "fill", "(II)I"⟩
abbrev cX10_seed : ByteArray := prog_12_method_77_code
def yX10_seed : MethodName := ⟨RX10, "seed", "(I)I"⟩
abbrev cX10_findRows : ByteArray := prog_12_method_78_code
def yX10_findRows : MethodName := ⟨RX10, "findRows", "()V"⟩
abbrev cX10_prove : ByteArray := prog_12_method_79_code
def yX10_prove : MethodName := ⟨RX10, "prove", "()I"⟩
abbrev cX10_isRow : ByteArray := prog_12_method_80_code
def yX10_isRow : MethodName := ⟨RX10, "isRow", "(II)Z"⟩
abbrev cX10_row : ByteArray := prog_12_method_81_code
def yX10_row : MethodName := ⟨RX10, "row", "(II)I"⟩
abbrev cX10_alterRow : ByteArray := prog_12_method_82_code
def yX10_alterRow : MethodName := ⟨RX10, "alterRow", "(III)I"⟩
abbrev cX10_judge : ByteArray := prog_12_method_83_code
def yX10_judge : MethodName := ⟨RX10, "judge", "()I"⟩
abbrev cX10_days : ByteArray := prog_12_method_84_code
def yX10_days : MethodName := ⟨RX10, "days", "(II)I"⟩
abbrev cX10_isShelf : ByteArray := prog_12_method_85_code
def yX10_isShelf : MethodName := ⟨RX10, "isShelf", "(I)Z"⟩
abbrev cX10_sheet : ByteArray := prog_12_method_86_code
def yX10_sheet : MethodName := ⟨RX10, "sheet", "(III)I"⟩
abbrev cX10_put : ByteArray := prog_12_method_87_code
def yX10_put : MethodName := ⟨RX10, "put", "(III)I"⟩
abbrev cX10_lacksSort : ByteArray := prog_12_method_88_code
def yX10_lacksSort : MethodName := ⟨RX10, "lacksSort", "(II)I"⟩
abbrev cX10_item : ByteArray := prog_12_method_89_code
def yX10_item : MethodName := ⟨RX10, "item", "(III)I"⟩
abbrev cX10_isHeld : ByteArray := prog_12_method_90_code
def yX10_isHeld : MethodName := ⟨RX10, "isHeld", "(II)Z"⟩
abbrev cX10_shelf : ByteArray := prog_12_method_91_code
def yX10_shelf : MethodName := ⟨RX10, "shelf", "(III)I"⟩
abbrev cX10_kindOn : ByteArray := prog_12_method_92_code
def yX10_kindOn : MethodName := ⟨RX10, "kindOn", "(I)I"⟩
abbrev cX10_isUnder : ByteArray := prog_12_method_93_code
def yX10_isUnder : MethodName := ⟨RX10, "isUnder", "(II)Z"⟩
abbrev cX10_taken : ByteArray := prog_12_method_94_code
def yX10_taken : MethodName := ⟨RX10, "taken", "(II)I"⟩
abbrev cX10_ran : ByteArray := prog_12_method_95_code
def yX10_ran : MethodName := ⟨RX10, "ran", "(I)V"⟩
abbrev cX10_plainSits : ByteArray := prog_12_method_96_code
def yX10_plainSits : MethodName := ⟨RX10, "plainSits", "(I)I"⟩
abbrev cX10_sitsIt : ByteArray := prog_12_method_97_code
def yX10_sitsIt : MethodName := ⟨RX10, "sitsIt", "(I)I"⟩
abbrev cX10_plainCounts : ByteArray := prog_12_method_98_code
def yX10_plainCounts : MethodName := ⟨RX10, "plainCounts", "(I)I"⟩
abbrev cX10_turnCounts : ByteArray := prog_12_method_99_code
def yX10_turnCounts : MethodName := ⟨RX10, "turnCounts", "(I)I"⟩
abbrev cX10_countsIt : ByteArray := prog_12_method_100_code
def yX10_countsIt : MethodName := ⟨RX10, "countsIt", "(I)I"⟩
abbrev cX10_plainShares : ByteArray := prog_12_method_101_code
def yX10_plainShares : MethodName := ⟨RX10, "plainShares", "(I)I"⟩
abbrev cX10_sharesIt : ByteArray := prog_12_method_102_code
def yX10_sharesIt : MethodName := ⟨RX10, "sharesIt", "(I)I"⟩
abbrev cX10_plainTells : ByteArray := prog_12_method_103_code
def yX10_plainTells : MethodName := ⟨RX10, "plainTells", "(I)I"⟩
abbrev cX10_tellsIt : ByteArray := prog_12_method_104_code
def yX10_tellsIt : MethodName := ⟨RX10, "tellsIt", "(I)I"⟩
abbrev cX10_act : ByteArray := prog_12_method_105_code
def yX10_act : MethodName := ⟨RX10, "act", "(III)I"⟩
abbrev cX10_trace : ByteArray := prog_12_method_106_code
def yX10_trace : MethodName := ⟨RX10, "trace", "(I)I"⟩
abbrev cX10_many : ByteArray := prog_12_method_107_code
def yX10_many : MethodName := ⟨RX10, "many", "(I)I"⟩
abbrev cX10_move : ByteArray := prog_12_method_108_code
def yX10_move : MethodName := ⟨RX10, "move", "([IIZ)V"⟩
abbrev cX10_moveAll : ByteArray := prog_12_method_109_code
def yX10_moveAll : MethodName := ⟨RX10, "moveAll", "(Z)V"⟩
abbrev cX10_keep : ByteArray := prog_12_method_110_code
def yX10_keep : MethodName := ⟨RX10, "keep", "()I"⟩
abbrev cX10_again : ByteArray := prog_12_method_111_code
def yX10_again : MethodName := ⟨RX10, "again", "()I"⟩
def RJx145de : String := "java/io/Serializable"
def TJx145de : u_T := fun k => match k with
  | _ => ("", "", "", false)
def tyJx145de : Nat → FieldType := fun k => match k with
  | _ => .int
abbrev wsJx145de0 : List Cond := u_ws RJx145de TJx145de 0
theorem nmJx145de : ∀ a, a < 0 → ∀ b, b < 0 → a ≠ b → (TJx145de a).2.1 ≠ (TJx145de b).2.1 := by decide +kernel
theorem tyJx145de_ok : ∀ k, k < 0 → parseFieldDescriptor (TJx145de k).2.2.1 = some (tyJx145de k) := by decide +kernel
def RJx9f9b0 : String := "java/lang/CharSequence"
def TJx9f9b0 : u_T := fun k => match k with
  | _ => ("", "", "", false)
def tyJx9f9b0 : Nat → FieldType := fun k => match k with
  | _ => .int
abbrev wsJx9f9b00 : List Cond := u_ws RJx9f9b0 TJx9f9b0 0
theorem nmJx9f9b0 : ∀ a, a < 0 → ∀ b, b < 0 → a ≠ b → (TJx9f9b0 a).2.1 ≠ (TJx9f9b0 b).2.1 := by decide +kernel
theorem tyJx9f9b0_ok : ∀ k, k < 0 → parseFieldDescriptor (TJx9f9b0 k).2.2.1 = some (tyJx9f9b0 k) := by decide +kernel
def RJxb160c : String := "java/lang/Comparable"
def TJxb160c : u_T := fun k => match k with
  | _ => ("", "", "", false)
def tyJxb160c : Nat → FieldType := fun k => match k with
  | _ => .int
abbrev wsJxb160c0 : List Cond := u_ws RJxb160c TJxb160c 0
theorem nmJxb160c : ∀ a, a < 0 → ∀ b, b < 0 → a ≠ b → (TJxb160c a).2.1 ≠ (TJxb160c b).2.1 := by decide +kernel
theorem tyJxb160c_ok : ∀ k, k < 0 → parseFieldDescriptor (TJxb160c k).2.2.1 = some (tyJxb160c k) := by decide +kernel
def RJ6 : String := "java/lang/Integer"
def TJ6 : u_T := fun k => match k with
  | _ => ("", "", "", false)
def tyJ6 : Nat → FieldType := fun k => match k with
  | _ => .int
abbrev wsJ60 : List Cond := u_ws RJ6 TJ6 0
theorem nmJ6 : ∀ a, a < 0 → ∀ b, b < 0 → a ≠ b → (TJ6 a).2.1 ≠ (TJ6 b).2.1 := by decide +kernel
theorem tyJ6_ok : ∀ k, k < 0 → parseFieldDescriptor (TJ6 k).2.2.1 = some (tyJ6 k) := by decide +kernel
abbrev cJ6_bitCount_0f7a4 : ByteArray := prog_13_method_49_code
def yJ6_bitCount_0f7a4 : MethodName := ⟨RJ6, "bitCount", "(I)I"⟩
def RJ9 : String := "java/lang/Math"
def TJ9 : u_T := fun k => match k with
  | _ => ("", "", "", false)
def tyJ9 : Nat → FieldType := fun k => match k with
  | _ => .int
abbrev wsJ90 : List Cond := u_ws RJ9 TJ9 0
theorem nmJ9 : ∀ a, a < 0 → ∀ b, b < 0 → a ≠ b → (TJ9 a).2.1 ≠ (TJ9 b).2.1 := by decide +kernel
theorem tyJ9_ok : ∀ k, k < 0 → parseFieldDescriptor (TJ9 k).2.2.1 = some (tyJ9 k) := by decide +kernel
abbrev cJ9_max_7cf53 : ByteArray := prog_14_method_65_code
def yJ9_max_7cf53 : MethodName := ⟨RJ9, "max", "(II)I"⟩
abbrev cJ9_max_f86c9 : ByteArray := prog_14_method_66_code
def yJ9_max_f86c9 : MethodName := ⟨RJ9, "max", "(JJ)J"⟩
abbrev cJ9_min_7cf53 : ByteArray := prog_14_method_69_code
def yJ9_min_7cf53 : MethodName := ⟨RJ9, "min", "(II)I"⟩
def RJ0 : String := "java/lang/String"
def TJ0 : u_T := fun k => match k with
  | _ => ("", "", "", false)
def tyJ0 : Nat → FieldType := fun k => match k with
  | _ => .int
abbrev wsJ00 : List Cond := u_ws RJ0 TJ0 0
theorem nmJ0 : ∀ a, a < 0 → ∀ b, b < 0 → a ≠ b → (TJ0 a).2.1 ≠ (TJ0 b).2.1 := by decide +kernel
theorem tyJ0_ok : ∀ k, k < 0 → parseFieldDescriptor (TJ0 k).2.2.1 = some (tyJ0 k) := by decide +kernel
abbrev cJ0_length_8abf5 : ByteArray := prog_15_method_54_code
def yJ0_length_8abf5 : MethodName := ⟨RJ0, "length", "()I"⟩
abbrev cJ0_charAt_5068e : ByteArray := prog_15_method_56_code
def yJ0_charAt_5068e : MethodName := ⟨RJ0, "charAt", "(I)C"⟩
abbrev cJ0_coder_7d493 : ByteArray := prog_15_method_152_code
def yJ0_coder_7d493 : MethodName := ⟨RJ0, "coder", "()B"⟩
abbrev cJ0_isLatin1_aae02 : ByteArray := prog_15_method_154_code
def yJ0_isLatin1_aae02 : MethodName := ⟨RJ0, "isLatin1", "()Z"⟩
abbrev cJ0_checkIndex_df160 : ByteArray := prog_15_method_155_code
def yJ0_checkIndex_df160 : MethodName := ⟨RJ0, "checkIndex", "(II)V"⟩
def RJ1 : String := "java/lang/StringLatin1"
def TJ1 : u_T := fun k => match k with
  | _ => ("", "", "", false)
def tyJ1 : Nat → FieldType := fun k => match k with
  | _ => .int
abbrev wsJ10 : List Cond := u_ws RJ1 TJ1 0
theorem nmJ1 : ∀ a, a < 0 → ∀ b, b < 0 → a ≠ b → (TJ1 a).2.1 ≠ (TJ1 b).2.1 := by decide +kernel
theorem tyJ1_ok : ∀ k, k < 0 → parseFieldDescriptor (TJ1 k).2.2.1 = some (tyJ1 k) := by decide +kernel
abbrev cJ1_charAt_3b067 : ByteArray := prog_16_method_2_code
def yJ1_charAt_3b067 : MethodName := ⟨RJ1, "charAt", "([BI)C"⟩
def RJ2 : String := "java/lang/StringUTF16"
def TJ2 : u_T := fun k => match k with
  | _ => ("", "", "", false)
def tyJ2 : Nat → FieldType := fun k => match k with
  | _ => .int
abbrev wsJ20 : List Cond := u_ws RJ2 TJ2 0
theorem nmJ2 : ∀ a, a < 0 → ∀ b, b < 0 → a ≠ b → (TJ2 a).2.1 ≠ (TJ2 b).2.1 := by decide +kernel
theorem tyJ2_ok : ∀ k, k < 0 → parseFieldDescriptor (TJ2 k).2.2.1 = some (tyJ2 k) := by decide +kernel
abbrev cJ2_getChar_3b067 : ByteArray := prog_17_method_5_code
def yJ2_getChar_3b067 : MethodName := ⟨RJ2, "getChar", "([BI)C"⟩
abbrev cJ2_length_9d52b : ByteArray := prog_17_method_6_code
def yJ2_length_9d52b : MethodName := ⟨RJ2, "length", "([B)I"⟩
abbrev cJ2_charAt_3b067 : ByteArray := prog_17_method_83_code
def yJ2_charAt_3b067 : MethodName := ⟨RJ2, "charAt", "([BI)C"⟩
abbrev cJ2_checkIndex_2214a : ByteArray := prog_17_method_91_code
def yJ2_checkIndex_2214a : MethodName := ⟨RJ2, "checkIndex", "(I[B)V"⟩
def RJ10 : String := "java/lang/System"
def TJ10 : u_T := fun k => match k with
  | _ => ("", "", "", false)
def tyJ10 : Nat → FieldType := fun k => match k with
  | _ => .int
abbrev wsJ100 : List Cond := u_ws RJ10 TJ10 0
theorem nmJ10 : ∀ a, a < 0 → ∀ b, b < 0 → a ≠ b → (TJ10 a).2.1 ≠ (TJ10 b).2.1 := by decide +kernel
theorem tyJ10_ok : ∀ k, k < 0 → parseFieldDescriptor (TJ10 k).2.2.1 = some (tyJ10 k) := by decide +kernel
def RJxfd54e : String := "java/lang/constant/Constable"
def TJxfd54e : u_T := fun k => match k with
  | _ => ("", "", "", false)
def tyJxfd54e : Nat → FieldType := fun k => match k with
  | _ => .int
abbrev wsJxfd54e0 : List Cond := u_ws RJxfd54e TJxfd54e 0
theorem nmJxfd54e : ∀ a, a < 0 → ∀ b, b < 0 → a ≠ b → (TJxfd54e a).2.1 ≠ (TJxfd54e b).2.1 := by decide +kernel
theorem tyJxfd54e_ok : ∀ k, k < 0 → parseFieldDescriptor (TJxfd54e k).2.2.1 = some (tyJxfd54e k) := by decide +kernel
def RJx3cf43 : String := "java/lang/constant/ConstantDesc"
def TJx3cf43 : u_T := fun k => match k with
  | _ => ("", "", "", false)
def tyJx3cf43 : Nat → FieldType := fun k => match k with
  | _ => .int
abbrev wsJx3cf430 : List Cond := u_ws RJx3cf43 TJx3cf43 0
theorem nmJx3cf43 : ∀ a, a < 0 → ∀ b, b < 0 → a ≠ b → (TJx3cf43 a).2.1 ≠ (TJx3cf43 b).2.1 := by decide +kernel
theorem tyJx3cf43_ok : ∀ k, k < 0 → parseFieldDescriptor (TJx3cf43 k).2.2.1 = some (tyJx3cf43 k) := by decide +kernel
def RJ7 : String := "java/util/Arrays"
def TJ7 : u_T := fun k => match k with
  | _ => ("", "", "", false)
def tyJ7 : Nat → FieldType := fun k => match k with
  | _ => .int
abbrev wsJ70 : List Cond := u_ws RJ7 TJ7 0
theorem nmJ7 : ∀ a, a < 0 → ∀ b, b < 0 → a ≠ b → (TJ7 a).2.1 ≠ (TJ7 b).2.1 := by decide +kernel
theorem tyJ7_ok : ∀ k, k < 0 → parseFieldDescriptor (TJ7 k).2.2.1 = some (tyJ7 k) := by decide +kernel
abbrev cJ7_fill_53178 : ByteArray := prog_19_method_103_code
def yJ7_fill_53178 : MethodName := ⟨RJ7, "fill", "([II)V"⟩
def RJ3 : String := "jdk/internal/util/Preconditions"
def TJ3 : u_T := fun k => match k with
  | _ => ("", "", "", false)
def tyJ3 : Nat → FieldType := fun k => match k with
  | _ => .int
abbrev wsJ30 : List Cond := u_ws RJ3 TJ3 0
theorem nmJ3 : ∀ a, a < 0 → ∀ b, b < 0 → a ≠ b → (TJ3 a).2.1 ≠ (TJ3 b).2.1 := by decide +kernel
theorem tyJ3_ok : ∀ k, k < 0 → parseFieldDescriptor (TJ3 k).2.2.1 = some (tyJ3 k) := by decide +kernel
abbrev cJ3_checkIndex_8e157 : ByteArray := prog_20_method_11_code
def yJ3_checkIndex_8e157 : MethodName := ⟨RJ3, "checkIndex", "(IILjava/util/function/BiFunction;)I"⟩
def RL : String := "TillPairsLaw"
abbrev cL_law : ByteArray := code
def yL_law : MethodName := ⟨RL, "law", "([I)Z"⟩
