section
-- ===== PART A: goes FIRST, ahead of the names: the tables' words, and 'selects' of the private methods out of them =====
/-- a private method of a class that the tables say can be made, by its rows of tables_1 -/
def lw_okq (q : MethodName × Nat) : Prop := (q.1.cls ≠ "java/lang/invoke/MethodHandle" ∧ q.1.cls ≠ "java/lang/invoke/VarHandle") ∧ Cond.instantiable q.1.cls q.2 ∈ tables_1 ∧ Cond.privateMethod q.1 ∈ tables_1 ∧ Cond.instanceMethod q.1 ∈ tables_1
theorem lw_p0 : lw_okq (⟨"TillPairs$Tape", "skipBlanks", "()V"⟩, 5) := ⟨⟨by decide +kernel, by decide +kernel⟩, List.mem_of_getElem? (i := 85) (by decide +kernel), List.mem_of_getElem? (i := 336) (by decide +kernel), List.mem_of_getElem? (i := 337) (by decide +kernel)⟩
theorem lw_p1 : lw_okq (⟨"TillPairs$Tape", "readStatement", "()V"⟩, 5) := ⟨⟨by decide +kernel, by decide +kernel⟩, List.mem_of_getElem? (i := 85) (by decide +kernel), List.mem_of_getElem? (i := 340) (by decide +kernel), List.mem_of_getElem? (i := 341) (by decide +kernel)⟩
theorem lw_p2 : lw_okq (⟨"TillPairs$Tape", "endOfName", "()I"⟩, 5) := ⟨⟨by decide +kernel, by decide +kernel⟩, List.mem_of_getElem? (i := 85) (by decide +kernel), List.mem_of_getElem? (i := 344) (by decide +kernel), List.mem_of_getElem? (i := 345) (by decide +kernel)⟩
theorem lw_p3 : lw_okq (⟨"TillPairs$Tape", "stands", "(Ljava/lang/String;I)Z"⟩, 5) := ⟨⟨by decide +kernel, by decide +kernel⟩, List.mem_of_getElem? (i := 85) (by decide +kernel), List.mem_of_getElem? (i := 363) (by decide +kernel), List.mem_of_getElem? (i := 364) (by decide +kernel)⟩
theorem lw_p4 : lw_okq (⟨"TillPairs$Tape", "fail", "(I)V"⟩, 5) := ⟨⟨by decide +kernel, by decide +kernel⟩, List.mem_of_getElem? (i := 85) (by decide +kernel), List.mem_of_getElem? (i := 415) (by decide +kernel), List.mem_of_getElem? (i := 416) (by decide +kernel)⟩
theorem lw_p5 : lw_okq (⟨"TillPairs$Tape", "readKin", "()V"⟩, 5) := ⟨⟨by decide +kernel, by decide +kernel⟩, List.mem_of_getElem? (i := 85) (by decide +kernel), List.mem_of_getElem? (i := 426) (by decide +kernel), List.mem_of_getElem? (i := 427) (by decide +kernel)⟩
theorem lw_p6 : lw_okq (⟨"TillPairs$Tape", "readNumber", "(II)I"⟩, 5) := ⟨⟨by decide +kernel, by decide +kernel⟩, List.mem_of_getElem? (i := 85) (by decide +kernel), List.mem_of_getElem? (i := 430) (by decide +kernel), List.mem_of_getElem? (i := 431) (by decide +kernel)⟩
theorem lw_p7 : lw_okq (⟨"TillPairs$Tape", "readTrust", "()V"⟩, 5) := ⟨⟨by decide +kernel, by decide +kernel⟩, List.mem_of_getElem? (i := 85) (by decide +kernel), List.mem_of_getElem? (i := 445) (by decide +kernel), List.mem_of_getElem? (i := 446) (by decide +kernel)⟩
theorem lw_p8 : lw_okq (⟨"TillPairs$Tape", "readAway", "()V"⟩, 5) := ⟨⟨by decide +kernel, by decide +kernel⟩, List.mem_of_getElem? (i := 85) (by decide +kernel), List.mem_of_getElem? (i := 452) (by decide +kernel), List.mem_of_getElem? (i := 453) (by decide +kernel)⟩
theorem lw_p9 : lw_okq (⟨"TillPairs$Tape", "readWord", "(Ljava/lang/String;)V"⟩, 5) := ⟨⟨by decide +kernel, by decide +kernel⟩, List.mem_of_getElem? (i := 85) (by decide +kernel), List.mem_of_getElem? (i := 457) (by decide +kernel), List.mem_of_getElem? (i := 458) (by decide +kernel)⟩
theorem lw_p10 : lw_okq (⟨"TillPairs$Tape", "readLaw", "(I)V"⟩, 5) := ⟨⟨by decide +kernel, by decide +kernel⟩, List.mem_of_getElem? (i := 85) (by decide +kernel), List.mem_of_getElem? (i := 470) (by decide +kernel), List.mem_of_getElem? (i := 471) (by decide +kernel)⟩
theorem lw_p11 : lw_okq (⟨"TillPairs$Tape", "readEnd", "()V"⟩, 5) := ⟨⟨by decide +kernel, by decide +kernel⟩, List.mem_of_getElem? (i := 85) (by decide +kernel), List.mem_of_getElem? (i := 476) (by decide +kernel), List.mem_of_getElem? (i := 477) (by decide +kernel)⟩
theorem lw_p12 : lw_okq (⟨"TillPairs$Judge", "worthIf", "(IZ)I"⟩, 1) := ⟨⟨by decide +kernel, by decide +kernel⟩, List.mem_of_getElem? (i := 110) (by decide +kernel), List.mem_of_getElem? (i := 609) (by decide +kernel), List.mem_of_getElem? (i := 610) (by decide +kernel)⟩
theorem lw_p13 : lw_okq (⟨"TillPairs$Judge", "payingDaysBy", "(I)I"⟩, 1) := ⟨⟨by decide +kernel, by decide +kernel⟩, List.mem_of_getElem? (i := 110) (by decide +kernel), List.mem_of_getElem? (i := 626) (by decide +kernel), List.mem_of_getElem? (i := 627) (by decide +kernel)⟩
theorem lw_p14 : lw_okq (⟨"TillPairs$Odds", "reduce", "()V"⟩, 4) := ⟨⟨by decide +kernel, by decide +kernel⟩, List.mem_of_getElem? (i := 120) (by decide +kernel), List.mem_of_getElem? (i := 654) (by decide +kernel), List.mem_of_getElem? (i := 655) (by decide +kernel)⟩
theorem lw_p15 : lw_okq (⟨"TillPairs$Judge", "somebodyIsAway", "(I)Z"⟩, 1) := ⟨⟨by decide +kernel, by decide +kernel⟩, List.mem_of_getElem? (i := 110) (by decide +kernel), List.mem_of_getElem? (i := 682) (by decide +kernel), List.mem_of_getElem? (i := 683) (by decide +kernel)⟩
def lw_privs_1 : List (MethodName × Nat) := [(⟨"TillPairs$Tape", "skipBlanks", "()V"⟩, 5), (⟨"TillPairs$Tape", "readStatement", "()V"⟩, 5), (⟨"TillPairs$Tape", "endOfName", "()I"⟩, 5), (⟨"TillPairs$Tape", "stands", "(Ljava/lang/String;I)Z"⟩, 5), (⟨"TillPairs$Tape", "fail", "(I)V"⟩, 5), (⟨"TillPairs$Tape", "readKin", "()V"⟩, 5), (⟨"TillPairs$Tape", "readNumber", "(II)I"⟩, 5), (⟨"TillPairs$Tape", "readTrust", "()V"⟩, 5), (⟨"TillPairs$Tape", "readAway", "()V"⟩, 5), (⟨"TillPairs$Tape", "readWord", "(Ljava/lang/String;)V"⟩, 5), (⟨"TillPairs$Tape", "readLaw", "(I)V"⟩, 5), (⟨"TillPairs$Tape", "readEnd", "()V"⟩, 5), (⟨"TillPairs$Judge", "worthIf", "(IZ)I"⟩, 1), (⟨"TillPairs$Judge", "payingDaysBy", "(I)I"⟩, 1), (⟨"TillPairs$Odds", "reduce", "()V"⟩, 4), (⟨"TillPairs$Judge", "somebodyIsAway", "(I)Z"⟩, 1)]
theorem lw_r1 : ∀ q ∈ lw_privs_1, lw_okq q := List.forall_mem_cons.mpr ⟨lw_p0, List.forall_mem_cons.mpr ⟨lw_p1, List.forall_mem_cons.mpr ⟨lw_p2, List.forall_mem_cons.mpr ⟨lw_p3, List.forall_mem_cons.mpr ⟨lw_p4, List.forall_mem_cons.mpr ⟨lw_p5, List.forall_mem_cons.mpr ⟨lw_p6, List.forall_mem_cons.mpr ⟨lw_p7, List.forall_mem_cons.mpr ⟨lw_p8, List.forall_mem_cons.mpr ⟨lw_p9, List.forall_mem_cons.mpr ⟨lw_p10, List.forall_mem_cons.mpr ⟨lw_p11, List.forall_mem_cons.mpr ⟨lw_p12, List.forall_mem_cons.mpr ⟨lw_p13, List.forall_mem_cons.mpr ⟨lw_p14, List.forall_mem_cons.mpr ⟨lw_p15, fun _ h => absurd h List.not_mem_nil⟩⟩⟩⟩⟩⟩⟩⟩⟩⟩⟩⟩⟩⟩⟩⟩
theorem lw_p16 : lw_okq (⟨"TillPairs$Judge", "somebodyIsTwice", "(I)Z"⟩, 1) := ⟨⟨by decide +kernel, by decide +kernel⟩, List.mem_of_getElem? (i := 110) (by decide +kernel), List.mem_of_getElem? (i := 687) (by decide +kernel), List.mem_of_getElem? (i := 688) (by decide +kernel)⟩
theorem lw_p17 : lw_okq (⟨"TillPairs$Ways", "maySit", "(III)Z"⟩, 7) := ⟨⟨by decide +kernel, by decide +kernel⟩, List.mem_of_getElem? (i := 141) (by decide +kernel), List.mem_of_getElem? (i := 709) (by decide +kernel), List.mem_of_getElem? (i := 710) (by decide +kernel)⟩
theorem lw_p18 : lw_okq (⟨"TillPairs$Ways", "mendBy", "(III)V"⟩, 7) := ⟨⟨by decide +kernel, by decide +kernel⟩, List.mem_of_getElem? (i := 141) (by decide +kernel), List.mem_of_getElem? (i := 717) (by decide +kernel), List.mem_of_getElem? (i := 718) (by decide +kernel)⟩
theorem lw_p19 : lw_okq (⟨"TillPairs$Ways", "change", "(III)I"⟩, 7) := ⟨⟨by decide +kernel, by decide +kernel⟩, List.mem_of_getElem? (i := 141) (by decide +kernel), List.mem_of_getElem? (i := 722) (by decide +kernel), List.mem_of_getElem? (i := 723) (by decide +kernel)⟩
theorem lw_p20 : lw_okq (⟨"TillPairs$Ways", "isFree", "(III)Z"⟩, 7) := ⟨⟨by decide +kernel, by decide +kernel⟩, List.mem_of_getElem? (i := 141) (by decide +kernel), List.mem_of_getElem? (i := 727) (by decide +kernel), List.mem_of_getElem? (i := 728) (by decide +kernel)⟩
theorem lw_p21 : lw_okq (⟨"TillPairs$Ways", "wouldPay", "(IIIII)Z"⟩, 7) := ⟨⟨by decide +kernel, by decide +kernel⟩, List.mem_of_getElem? (i := 141) (by decide +kernel), List.mem_of_getElem? (i := 731) (by decide +kernel), List.mem_of_getElem? (i := 732) (by decide +kernel)⟩
theorem lw_p22 : lw_okq (⟨"TillPairs$Ways", "mostTrust", "(II)I"⟩, 7) := ⟨⟨by decide +kernel, by decide +kernel⟩, List.mem_of_getElem? (i := 141) (by decide +kernel), List.mem_of_getElem? (i := 748) (by decide +kernel), List.mem_of_getElem? (i := 749) (by decide +kernel)⟩
theorem lw_p23 : lw_okq (⟨"TillPairs$Ways", "standsBehindChosen", "(II)Z"⟩, 7) := ⟨⟨by decide +kernel, by decide +kernel⟩, List.mem_of_getElem? (i := 141) (by decide +kernel), List.mem_of_getElem? (i := 755) (by decide +kernel), List.mem_of_getElem? (i := 756) (by decide +kernel)⟩
theorem lw_p24 : lw_okq (⟨"TillPairs$Plans", "seatTold", "(LTillPairs$House;I)Z"⟩, 5) := ⟨⟨by decide +kernel, by decide +kernel⟩, List.mem_of_getElem? (i := 173) (by decide +kernel), List.mem_of_getElem? (i := 830) (by decide +kernel), List.mem_of_getElem? (i := 831) (by decide +kernel)⟩
theorem lw_p25 : lw_okq (⟨"TillPairs$Plans", "presentFor", "(LTillPairs$House;II)I"⟩, 5) := ⟨⟨by decide +kernel, by decide +kernel⟩, List.mem_of_getElem? (i := 173) (by decide +kernel), List.mem_of_getElem? (i := 835) (by decide +kernel), List.mem_of_getElem? (i := 836) (by decide +kernel)⟩
theorem lw_p26 : lw_okq (⟨"TillPairs$Plans", "seatByTurn", "(LTillPairs$House;II)V"⟩, 5) := ⟨⟨by decide +kernel, by decide +kernel⟩, List.mem_of_getElem? (i := 173) (by decide +kernel), List.mem_of_getElem? (i := 841) (by decide +kernel), List.mem_of_getElem? (i := 842) (by decide +kernel)⟩
theorem lw_p27 : lw_okq (⟨"TillPairs$Plans", "seatByDraw", "(I)V"⟩, 5) := ⟨⟨by decide +kernel, by decide +kernel⟩, List.mem_of_getElem? (i := 173) (by decide +kernel), List.mem_of_getElem? (i := 857) (by decide +kernel), List.mem_of_getElem? (i := 858) (by decide +kernel)⟩
theorem lw_p28 : lw_okq (⟨"TillPairs$Plans", "drawFrom", "(I)I"⟩, 5) := ⟨⟨by decide +kernel, by decide +kernel⟩, List.mem_of_getElem? (i := 173) (by decide +kernel), List.mem_of_getElem? (i := 862) (by decide +kernel), List.mem_of_getElem? (i := 863) (by decide +kernel)⟩
theorem lw_p29 : lw_okq (⟨"TillPairs$Plans", "seatStranger", "(LTillPairs$House;I)V"⟩, 5) := ⟨⟨by decide +kernel, by decide +kernel⟩, List.mem_of_getElem? (i := 173) (by decide +kernel), List.mem_of_getElem? (i := 866) (by decide +kernel), List.mem_of_getElem? (i := 867) (by decide +kernel)⟩
theorem lw_p30 : lw_okq (⟨"TillPairs$Plans", "sitDown", "(LTillPairs$House;I)I"⟩, 5) := ⟨⟨by decide +kernel, by decide +kernel⟩, List.mem_of_getElem? (i := 173) (by decide +kernel), List.mem_of_getElem? (i := 870) (by decide +kernel), List.mem_of_getElem? (i := 871) (by decide +kernel)⟩
theorem lw_p31 : lw_okq (⟨"TillPairs$Rows", "due", "(II)I"⟩, 4) := ⟨⟨by decide +kernel, by decide +kernel⟩, List.mem_of_getElem? (i := 199) (by decide +kernel), List.mem_of_getElem? (i := 887) (by decide +kernel), List.mem_of_getElem? (i := 888) (by decide +kernel)⟩
def lw_privs_2 : List (MethodName × Nat) := [(⟨"TillPairs$Judge", "somebodyIsTwice", "(I)Z"⟩, 1), (⟨"TillPairs$Ways", "maySit", "(III)Z"⟩, 7), (⟨"TillPairs$Ways", "mendBy", "(III)V"⟩, 7), (⟨"TillPairs$Ways", "change", "(III)I"⟩, 7), (⟨"TillPairs$Ways", "isFree", "(III)Z"⟩, 7), (⟨"TillPairs$Ways", "wouldPay", "(IIIII)Z"⟩, 7), (⟨"TillPairs$Ways", "mostTrust", "(II)I"⟩, 7), (⟨"TillPairs$Ways", "standsBehindChosen", "(II)Z"⟩, 7), (⟨"TillPairs$Plans", "seatTold", "(LTillPairs$House;I)Z"⟩, 5), (⟨"TillPairs$Plans", "presentFor", "(LTillPairs$House;II)I"⟩, 5), (⟨"TillPairs$Plans", "seatByTurn", "(LTillPairs$House;II)V"⟩, 5), (⟨"TillPairs$Plans", "seatByDraw", "(I)V"⟩, 5), (⟨"TillPairs$Plans", "drawFrom", "(I)I"⟩, 5), (⟨"TillPairs$Plans", "seatStranger", "(LTillPairs$House;I)V"⟩, 5), (⟨"TillPairs$Plans", "sitDown", "(LTillPairs$House;I)I"⟩, 5), (⟨"TillPairs$Rows", "due", "(II)I"⟩, 4)]
theorem lw_r2 : ∀ q ∈ lw_privs_2, lw_okq q := List.forall_mem_cons.mpr ⟨lw_p16, List.forall_mem_cons.mpr ⟨lw_p17, List.forall_mem_cons.mpr ⟨lw_p18, List.forall_mem_cons.mpr ⟨lw_p19, List.forall_mem_cons.mpr ⟨lw_p20, List.forall_mem_cons.mpr ⟨lw_p21, List.forall_mem_cons.mpr ⟨lw_p22, List.forall_mem_cons.mpr ⟨lw_p23, List.forall_mem_cons.mpr ⟨lw_p24, List.forall_mem_cons.mpr ⟨lw_p25, List.forall_mem_cons.mpr ⟨lw_p26, List.forall_mem_cons.mpr ⟨lw_p27, List.forall_mem_cons.mpr ⟨lw_p28, List.forall_mem_cons.mpr ⟨lw_p29, List.forall_mem_cons.mpr ⟨lw_p30, List.forall_mem_cons.mpr ⟨lw_p31, fun _ h => absurd h List.not_mem_nil⟩⟩⟩⟩⟩⟩⟩⟩⟩⟩⟩⟩⟩⟩⟩⟩
theorem lw_p32 : lw_okq (⟨"TillPairs", "planOn", "(I)I"⟩, 12) := ⟨⟨by decide +kernel, by decide +kernel⟩, List.mem_of_getElem? (i := 21) (by decide +kernel), List.mem_of_getElem? (i := 965) (by decide +kernel), List.mem_of_getElem? (i := 966) (by decide +kernel)⟩
theorem lw_p33 : lw_okq (⟨"TillPairs$Acts", "note", "(I)V"⟩, 6) := ⟨⟨by decide +kernel, by decide +kernel⟩, List.mem_of_getElem? (i := 220) (by decide +kernel), List.mem_of_getElem? (i := 998) (by decide +kernel), List.mem_of_getElem? (i := 999) (by decide +kernel)⟩
theorem lw_p34 : lw_okq (⟨"TillPairs$Acts", "share", "(I)I"⟩, 6) := ⟨⟨by decide +kernel, by decide +kernel⟩, List.mem_of_getElem? (i := 220) (by decide +kernel), List.mem_of_getElem? (i := 1002) (by decide +kernel), List.mem_of_getElem? (i := 1003) (by decide +kernel)⟩
theorem lw_p35 : lw_okq (⟨"TillPairsModel", "advance", "()V"⟩, 51) := ⟨⟨by decide +kernel, by decide +kernel⟩, List.mem_of_getElem? (i := 1034) (by decide +kernel), List.mem_of_getElem? (i := 1207) (by decide +kernel), List.mem_of_getElem? (i := 1208) (by decide +kernel)⟩
theorem lw_p36 : lw_okq (⟨"TillPairsModel", "byteAt", "(I)I"⟩, 51) := ⟨⟨by decide +kernel, by decide +kernel⟩, List.mem_of_getElem? (i := 1034) (by decide +kernel), List.mem_of_getElem? (i := 1211) (by decide +kernel), List.mem_of_getElem? (i := 1212) (by decide +kernel)⟩
theorem lw_p37 : lw_okq (⟨"TillPairsModel", "wantClause", "()V"⟩, 51) := ⟨⟨by decide +kernel, by decide +kernel⟩, List.mem_of_getElem? (i := 1034) (by decide +kernel), List.mem_of_getElem? (i := 1224) (by decide +kernel), List.mem_of_getElem? (i := 1225) (by decide +kernel)⟩
theorem lw_p38 : lw_okq (⟨"TillPairsModel", "isWord", "(J)Z"⟩, 51) := ⟨⟨by decide +kernel, by decide +kernel⟩, List.mem_of_getElem? (i := 1034) (by decide +kernel), List.mem_of_getElem? (i := 1229) (by decide +kernel), List.mem_of_getElem? (i := 1230) (by decide +kernel)⟩
theorem lw_p39 : lw_okq (⟨"TillPairsModel", "wantEnd", "()V"⟩, 51) := ⟨⟨by decide +kernel, by decide +kernel⟩, List.mem_of_getElem? (i := 1034) (by decide +kernel), List.mem_of_getElem? (i := 1233) (by decide +kernel), List.mem_of_getElem? (i := 1234) (by decide +kernel)⟩
theorem lw_p40 : lw_okq (⟨"TillPairsModel", "isMark", "(I)Z"⟩, 51) := ⟨⟨by decide +kernel, by decide +kernel⟩, List.mem_of_getElem? (i := 1034) (by decide +kernel), List.mem_of_getElem? (i := 1237) (by decide +kernel), List.mem_of_getElem? (i := 1238) (by decide +kernel)⟩
theorem lw_p41 : lw_okq (⟨"TillPairsModel", "wantTwo", "(Z)V"⟩, 51) := ⟨⟨by decide +kernel, by decide +kernel⟩, List.mem_of_getElem? (i := 1034) (by decide +kernel), List.mem_of_getElem? (i := 1243) (by decide +kernel), List.mem_of_getElem? (i := 1244) (by decide +kernel)⟩
theorem lw_p42 : lw_okq (⟨"TillPairsModel", "wantNumber", "(II)I"⟩, 51) := ⟨⟨by decide +kernel, by decide +kernel⟩, List.mem_of_getElem? (i := 1034) (by decide +kernel), List.mem_of_getElem? (i := 1247) (by decide +kernel), List.mem_of_getElem? (i := 1248) (by decide +kernel)⟩
theorem lw_p43 : lw_okq (⟨"TillPairsModel", "wantAway", "()V"⟩, 51) := ⟨⟨by decide +kernel, by decide +kernel⟩, List.mem_of_getElem? (i := 1034) (by decide +kernel), List.mem_of_getElem? (i := 1252) (by decide +kernel), List.mem_of_getElem? (i := 1253) (by decide +kernel)⟩
theorem lw_p44 : lw_okq (⟨"TillPairsModel", "wantWord", "(J)V"⟩, 51) := ⟨⟨by decide +kernel, by decide +kernel⟩, List.mem_of_getElem? (i := 1034) (by decide +kernel), List.mem_of_getElem? (i := 1257) (by decide +kernel), List.mem_of_getElem? (i := 1258) (by decide +kernel)⟩
theorem lw_p45 : lw_okq (⟨"TillPairsModel", "lawHere", "()I"⟩, 51) := ⟨⟨by decide +kernel, by decide +kernel⟩, List.mem_of_getElem? (i := 1034) (by decide +kernel), List.mem_of_getElem? (i := 1262) (by decide +kernel), List.mem_of_getElem? (i := 1263) (by decide +kernel)⟩
theorem lw_p46 : lw_okq (⟨"TillPairsModel", "areTwo", "(II)Z"⟩, 51) := ⟨⟨by decide +kernel, by decide +kernel⟩, List.mem_of_getElem? (i := 1034) (by decide +kernel), List.mem_of_getElem? (i := 1282) (by decide +kernel), List.mem_of_getElem? (i := 1283) (by decide +kernel)⟩
theorem lw_p47 : lw_okq (⟨"TillPairsModel", "isPerson", "(I)Z"⟩, 51) := ⟨⟨by decide +kernel, by decide +kernel⟩, List.mem_of_getElem? (i := 1034) (by decide +kernel), List.mem_of_getElem? (i := 1286) (by decide +kernel), List.mem_of_getElem? (i := 1287) (by decide +kernel)⟩
def lw_privs_3 : List (MethodName × Nat) := [(⟨"TillPairs", "planOn", "(I)I"⟩, 12), (⟨"TillPairs$Acts", "note", "(I)V"⟩, 6), (⟨"TillPairs$Acts", "share", "(I)I"⟩, 6), (⟨"TillPairsModel", "advance", "()V"⟩, 51), (⟨"TillPairsModel", "byteAt", "(I)I"⟩, 51), (⟨"TillPairsModel", "wantClause", "()V"⟩, 51), (⟨"TillPairsModel", "isWord", "(J)Z"⟩, 51), (⟨"TillPairsModel", "wantEnd", "()V"⟩, 51), (⟨"TillPairsModel", "isMark", "(I)Z"⟩, 51), (⟨"TillPairsModel", "wantTwo", "(Z)V"⟩, 51), (⟨"TillPairsModel", "wantNumber", "(II)I"⟩, 51), (⟨"TillPairsModel", "wantAway", "()V"⟩, 51), (⟨"TillPairsModel", "wantWord", "(J)V"⟩, 51), (⟨"TillPairsModel", "lawHere", "()I"⟩, 51), (⟨"TillPairsModel", "areTwo", "(II)Z"⟩, 51), (⟨"TillPairsModel", "isPerson", "(I)Z"⟩, 51)]
theorem lw_r3 : ∀ q ∈ lw_privs_3, lw_okq q := List.forall_mem_cons.mpr ⟨lw_p32, List.forall_mem_cons.mpr ⟨lw_p33, List.forall_mem_cons.mpr ⟨lw_p34, List.forall_mem_cons.mpr ⟨lw_p35, List.forall_mem_cons.mpr ⟨lw_p36, List.forall_mem_cons.mpr ⟨lw_p37, List.forall_mem_cons.mpr ⟨lw_p38, List.forall_mem_cons.mpr ⟨lw_p39, List.forall_mem_cons.mpr ⟨lw_p40, List.forall_mem_cons.mpr ⟨lw_p41, List.forall_mem_cons.mpr ⟨lw_p42, List.forall_mem_cons.mpr ⟨lw_p43, List.forall_mem_cons.mpr ⟨lw_p44, List.forall_mem_cons.mpr ⟨lw_p45, List.forall_mem_cons.mpr ⟨lw_p46, List.forall_mem_cons.mpr ⟨lw_p47, fun _ h => absurd h List.not_mem_nil⟩⟩⟩⟩⟩⟩⟩⟩⟩⟩⟩⟩⟩⟩⟩⟩
theorem lw_p48 : lw_okq (⟨"TillPairsModel", "areKin", "(II)Z"⟩, 51) := ⟨⟨by decide +kernel, by decide +kernel⟩, List.mem_of_getElem? (i := 1034) (by decide +kernel), List.mem_of_getElem? (i := 1290) (by decide +kernel), List.mem_of_getElem? (i := 1291) (by decide +kernel)⟩
theorem lw_p49 : lw_okq (⟨"TillPairsModel", "isAway", "(II)Z"⟩, 51) := ⟨⟨by decide +kernel, by decide +kernel⟩, List.mem_of_getElem? (i := 1034) (by decide +kernel), List.mem_of_getElem? (i := 1305) (by decide +kernel), List.mem_of_getElem? (i := 1306) (by decide +kernel)⟩
theorem lw_p50 : lw_okq (⟨"TillPairsModel", "trustOf", "(III)I"⟩, 51) := ⟨⟨by decide +kernel, by decide +kernel⟩, List.mem_of_getElem? (i := 1034) (by decide +kernel), List.mem_of_getElem? (i := 1346) (by decide +kernel), List.mem_of_getElem? (i := 1347) (by decide +kernel)⟩
theorem lw_p51 : lw_okq (⟨"TillPairsModel", "twoOn", "(I)I"⟩, 51) := ⟨⟨by decide +kernel, by decide +kernel⟩, List.mem_of_getElem? (i := 1034) (by decide +kernel), List.mem_of_getElem? (i := 1350) (by decide +kernel), List.mem_of_getElem? (i := 1351) (by decide +kernel)⟩
theorem lw_p52 : lw_okq (⟨"TillPairsModel", "isSurprise", "(I)Z"⟩, 51) := ⟨⟨by decide +kernel, by decide +kernel⟩, List.mem_of_getElem? (i := 1034) (by decide +kernel), List.mem_of_getElem? (i := 1361) (by decide +kernel), List.mem_of_getElem? (i := 1362) (by decide +kernel)⟩
theorem lw_p53 : lw_okq (⟨"TillPairsModel", "seenBy", "(IZ)I"⟩, 51) := ⟨⟨by decide +kernel, by decide +kernel⟩, List.mem_of_getElem? (i := 1034) (by decide +kernel), List.mem_of_getElem? (i := 1365) (by decide +kernel), List.mem_of_getElem? (i := 1366) (by decide +kernel)⟩
theorem lw_p54 : lw_okq (⟨"TillPairsModel", "isNeither", "(III)Z"⟩, 51) := ⟨⟨by decide +kernel, by decide +kernel⟩, List.mem_of_getElem? (i := 1034) (by decide +kernel), List.mem_of_getElem? (i := 1369) (by decide +kernel), List.mem_of_getElem? (i := 1370) (by decide +kernel)⟩
theorem lw_p55 : lw_okq (⟨"TillPairsModel", "worthBy", "(IZ)I"⟩, 51) := ⟨⟨by decide +kernel, by decide +kernel⟩, List.mem_of_getElem? (i := 1034) (by decide +kernel), List.mem_of_getElem? (i := 1377) (by decide +kernel), List.mem_of_getElem? (i := 1378) (by decide +kernel)⟩
theorem lw_p56 : lw_okq (⟨"TillPairsModel", "paysBy", "(IZI)Z"⟩, 51) := ⟨⟨by decide +kernel, by decide +kernel⟩, List.mem_of_getElem? (i := 1034) (by decide +kernel), List.mem_of_getElem? (i := 1385) (by decide +kernel), List.mem_of_getElem? (i := 1386) (by decide +kernel)⟩
theorem lw_p57 : lw_okq (⟨"TillPairsModel", "lowest", "(JJ)V"⟩, 51) := ⟨⟨by decide +kernel, by decide +kernel⟩, List.mem_of_getElem? (i := 1034) (by decide +kernel), List.mem_of_getElem? (i := 1397) (by decide +kernel), List.mem_of_getElem? (i := 1398) (by decide +kernel)⟩
theorem lw_p58 : lw_okq (⟨"TillPairsModel", "brokenOn", "(I)I"⟩, 51) := ⟨⟨by decide +kernel, by decide +kernel⟩, List.mem_of_getElem? (i := 1034) (by decide +kernel), List.mem_of_getElem? (i := 1413) (by decide +kernel), List.mem_of_getElem? (i := 1414) (by decide +kernel)⟩
theorem lw_p59 : lw_okq (⟨"TillPairsModel", "keepsPosts", "(II)V"⟩, 51) := ⟨⟨by decide +kernel, by decide +kernel⟩, List.mem_of_getElem? (i := 1034) (by decide +kernel), List.mem_of_getElem? (i := 1421) (by decide +kernel), List.mem_of_getElem? (i := 1422) (by decide +kernel)⟩
theorem lw_p60 : lw_okq (⟨"TillPairsModel", "comes", "(II)Z"⟩, 51) := ⟨⟨by decide +kernel, by decide +kernel⟩, List.mem_of_getElem? (i := 1034) (by decide +kernel), List.mem_of_getElem? (i := 1425) (by decide +kernel), List.mem_of_getElem? (i := 1426) (by decide +kernel)⟩
theorem lw_p61 : lw_okq (⟨"TillPairsModel", "givesPosts", "(II)V"⟩, 51) := ⟨⟨by decide +kernel, by decide +kernel⟩, List.mem_of_getElem? (i := 1034) (by decide +kernel), List.mem_of_getElem? (i := 1429) (by decide +kernel), List.mem_of_getElem? (i := 1430) (by decide +kernel)⟩
theorem lw_p62 : lw_okq (⟨"TillPairsModel", "sits", "(II)Z"⟩, 51) := ⟨⟨by decide +kernel, by decide +kernel⟩, List.mem_of_getElem? (i := 1034) (by decide +kernel), List.mem_of_getElem? (i := 1437) (by decide +kernel), List.mem_of_getElem? (i := 1438) (by decide +kernel)⟩
theorem lw_p63 : lw_okq (⟨"TillPairsModel", "satOn", "(II)I"⟩, 51) := ⟨⟨by decide +kernel, by decide +kernel⟩, List.mem_of_getElem? (i := 1034) (by decide +kernel), List.mem_of_getElem? (i := 1445) (by decide +kernel), List.mem_of_getElem? (i := 1446) (by decide +kernel)⟩
def lw_privs_4 : List (MethodName × Nat) := [(⟨"TillPairsModel", "areKin", "(II)Z"⟩, 51), (⟨"TillPairsModel", "isAway", "(II)Z"⟩, 51), (⟨"TillPairsModel", "trustOf", "(III)I"⟩, 51), (⟨"TillPairsModel", "twoOn", "(I)I"⟩, 51), (⟨"TillPairsModel", "isSurprise", "(I)Z"⟩, 51), (⟨"TillPairsModel", "seenBy", "(IZ)I"⟩, 51), (⟨"TillPairsModel", "isNeither", "(III)Z"⟩, 51), (⟨"TillPairsModel", "worthBy", "(IZ)I"⟩, 51), (⟨"TillPairsModel", "paysBy", "(IZI)Z"⟩, 51), (⟨"TillPairsModel", "lowest", "(JJ)V"⟩, 51), (⟨"TillPairsModel", "brokenOn", "(I)I"⟩, 51), (⟨"TillPairsModel", "keepsPosts", "(II)V"⟩, 51), (⟨"TillPairsModel", "comes", "(II)Z"⟩, 51), (⟨"TillPairsModel", "givesPosts", "(II)V"⟩, 51), (⟨"TillPairsModel", "sits", "(II)Z"⟩, 51), (⟨"TillPairsModel", "satOn", "(II)I"⟩, 51)]
theorem lw_r4 : ∀ q ∈ lw_privs_4, lw_okq q := List.forall_mem_cons.mpr ⟨lw_p48, List.forall_mem_cons.mpr ⟨lw_p49, List.forall_mem_cons.mpr ⟨lw_p50, List.forall_mem_cons.mpr ⟨lw_p51, List.forall_mem_cons.mpr ⟨lw_p52, List.forall_mem_cons.mpr ⟨lw_p53, List.forall_mem_cons.mpr ⟨lw_p54, List.forall_mem_cons.mpr ⟨lw_p55, List.forall_mem_cons.mpr ⟨lw_p56, List.forall_mem_cons.mpr ⟨lw_p57, List.forall_mem_cons.mpr ⟨lw_p58, List.forall_mem_cons.mpr ⟨lw_p59, List.forall_mem_cons.mpr ⟨lw_p60, List.forall_mem_cons.mpr ⟨lw_p61, List.forall_mem_cons.mpr ⟨lw_p62, List.forall_mem_cons.mpr ⟨lw_p63, fun _ h => absurd h List.not_mem_nil⟩⟩⟩⟩⟩⟩⟩⟩⟩⟩⟩⟩⟩⟩⟩⟩
theorem lw_p64 : lw_okq (⟨"TillPairsModel", "sitting", "()I"⟩, 51) := ⟨⟨by decide +kernel, by decide +kernel⟩, List.mem_of_getElem? (i := 1034) (by decide +kernel), List.mem_of_getElem? (i := 1453) (by decide +kernel), List.mem_of_getElem? (i := 1454) (by decide +kernel)⟩
theorem lw_p65 : lw_okq (⟨"TillPairsModel", "isPlan", "(I)Z"⟩, 51) := ⟨⟨by decide +kernel, by decide +kernel⟩, List.mem_of_getElem? (i := 1034) (by decide +kernel), List.mem_of_getElem? (i := 1472) (by decide +kernel), List.mem_of_getElem? (i := 1473) (by decide +kernel)⟩
theorem lw_p66 : lw_okq (⟨"TillPairsModel", "fillsTold", "(I)Z"⟩, 51) := ⟨⟨by decide +kernel, by decide +kernel⟩, List.mem_of_getElem? (i := 1034) (by decide +kernel), List.mem_of_getElem? (i := 1480) (by decide +kernel), List.mem_of_getElem? (i := 1481) (by decide +kernel)⟩
theorem lw_p67 : lw_okq (⟨"TillPairsModel", "fillsTurn", "(II)V"⟩, 51) := ⟨⟨by decide +kernel, by decide +kernel⟩, List.mem_of_getElem? (i := 1034) (by decide +kernel), List.mem_of_getElem? (i := 1484) (by decide +kernel), List.mem_of_getElem? (i := 1485) (by decide +kernel)⟩
theorem lw_p68 : lw_okq (⟨"TillPairsModel", "lastSat", "(III)I"⟩, 51) := ⟨⟨by decide +kernel, by decide +kernel⟩, List.mem_of_getElem? (i := 1034) (by decide +kernel), List.mem_of_getElem? (i := 1488) (by decide +kernel), List.mem_of_getElem? (i := 1489) (by decide +kernel)⟩
theorem lw_p69 : lw_okq (⟨"TillPairsModel", "fillsDraw", "(I)V"⟩, 51) := ⟨⟨by decide +kernel, by decide +kernel⟩, List.mem_of_getElem? (i := 1034) (by decide +kernel), List.mem_of_getElem? (i := 1495) (by decide +kernel), List.mem_of_getElem? (i := 1496) (by decide +kernel)⟩
theorem lw_p70 : lw_okq (⟨"TillPairsModel", "fillsCount", "(I)V"⟩, 51) := ⟨⟨by decide +kernel, by decide +kernel⟩, List.mem_of_getElem? (i := 1034) (by decide +kernel), List.mem_of_getElem? (i := 1500) (by decide +kernel), List.mem_of_getElem? (i := 1501) (by decide +kernel)⟩
theorem lw_p71 : lw_okq (⟨"TillPairsModel", "findRows", "()V"⟩, 51) := ⟨⟨by decide +kernel, by decide +kernel⟩, List.mem_of_getElem? (i := 1034) (by decide +kernel), List.mem_of_getElem? (i := 1512) (by decide +kernel), List.mem_of_getElem? (i := 1513) (by decide +kernel)⟩
theorem lw_p72 : lw_okq (⟨"TillPairsModel", "isRow", "(II)Z"⟩, 51) := ⟨⟨by decide +kernel, by decide +kernel⟩, List.mem_of_getElem? (i := 1034) (by decide +kernel), List.mem_of_getElem? (i := 1520) (by decide +kernel), List.mem_of_getElem? (i := 1521) (by decide +kernel)⟩
theorem lw_p73 : lw_okq (⟨"TillPairsModel", "lacksSort", "(II)I"⟩, 51) := ⟨⟨by decide +kernel, by decide +kernel⟩, List.mem_of_getElem? (i := 1034) (by decide +kernel), List.mem_of_getElem? (i := 1539) (by decide +kernel), List.mem_of_getElem? (i := 1540) (by decide +kernel)⟩
theorem lw_p74 : lw_okq (⟨"TillPairsModel", "isHeld", "(II)Z"⟩, 51) := ⟨⟨by decide +kernel, by decide +kernel⟩, List.mem_of_getElem? (i := 1034) (by decide +kernel), List.mem_of_getElem? (i := 1559) (by decide +kernel), List.mem_of_getElem? (i := 1560) (by decide +kernel)⟩
theorem lw_p75 : lw_okq (⟨"TillPairsModel", "kindOn", "(I)I"⟩, 51) := ⟨⟨by decide +kernel, by decide +kernel⟩, List.mem_of_getElem? (i := 1034) (by decide +kernel), List.mem_of_getElem? (i := 1567) (by decide +kernel), List.mem_of_getElem? (i := 1568) (by decide +kernel)⟩
theorem lw_p76 : lw_okq (⟨"TillPairsModel", "sitsIt", "(I)I"⟩, 51) := ⟨⟨by decide +kernel, by decide +kernel⟩, List.mem_of_getElem? (i := 1034) (by decide +kernel), List.mem_of_getElem? (i := 1578) (by decide +kernel), List.mem_of_getElem? (i := 1579) (by decide +kernel)⟩
theorem lw_p77 : lw_okq (⟨"TillPairsModel", "ran", "(I)V"⟩, 51) := ⟨⟨by decide +kernel, by decide +kernel⟩, List.mem_of_getElem? (i := 1034) (by decide +kernel), List.mem_of_getElem? (i := 1582) (by decide +kernel), List.mem_of_getElem? (i := 1583) (by decide +kernel)⟩
theorem lw_p78 : lw_okq (⟨"TillPairsModel", "plainSits", "(I)I"⟩, 51) := ⟨⟨by decide +kernel, by decide +kernel⟩, List.mem_of_getElem? (i := 1034) (by decide +kernel), List.mem_of_getElem? (i := 1586) (by decide +kernel), List.mem_of_getElem? (i := 1587) (by decide +kernel)⟩
theorem lw_p79 : lw_okq (⟨"TillPairsModel", "countsIt", "(I)I"⟩, 51) := ⟨⟨by decide +kernel, by decide +kernel⟩, List.mem_of_getElem? (i := 1034) (by decide +kernel), List.mem_of_getElem? (i := 1590) (by decide +kernel), List.mem_of_getElem? (i := 1591) (by decide +kernel)⟩
def lw_privs_5 : List (MethodName × Nat) := [(⟨"TillPairsModel", "sitting", "()I"⟩, 51), (⟨"TillPairsModel", "isPlan", "(I)Z"⟩, 51), (⟨"TillPairsModel", "fillsTold", "(I)Z"⟩, 51), (⟨"TillPairsModel", "fillsTurn", "(II)V"⟩, 51), (⟨"TillPairsModel", "lastSat", "(III)I"⟩, 51), (⟨"TillPairsModel", "fillsDraw", "(I)V"⟩, 51), (⟨"TillPairsModel", "fillsCount", "(I)V"⟩, 51), (⟨"TillPairsModel", "findRows", "()V"⟩, 51), (⟨"TillPairsModel", "isRow", "(II)Z"⟩, 51), (⟨"TillPairsModel", "lacksSort", "(II)I"⟩, 51), (⟨"TillPairsModel", "isHeld", "(II)Z"⟩, 51), (⟨"TillPairsModel", "kindOn", "(I)I"⟩, 51), (⟨"TillPairsModel", "sitsIt", "(I)I"⟩, 51), (⟨"TillPairsModel", "ran", "(I)V"⟩, 51), (⟨"TillPairsModel", "plainSits", "(I)I"⟩, 51), (⟨"TillPairsModel", "countsIt", "(I)I"⟩, 51)]
theorem lw_r5 : ∀ q ∈ lw_privs_5, lw_okq q := List.forall_mem_cons.mpr ⟨lw_p64, List.forall_mem_cons.mpr ⟨lw_p65, List.forall_mem_cons.mpr ⟨lw_p66, List.forall_mem_cons.mpr ⟨lw_p67, List.forall_mem_cons.mpr ⟨lw_p68, List.forall_mem_cons.mpr ⟨lw_p69, List.forall_mem_cons.mpr ⟨lw_p70, List.forall_mem_cons.mpr ⟨lw_p71, List.forall_mem_cons.mpr ⟨lw_p72, List.forall_mem_cons.mpr ⟨lw_p73, List.forall_mem_cons.mpr ⟨lw_p74, List.forall_mem_cons.mpr ⟨lw_p75, List.forall_mem_cons.mpr ⟨lw_p76, List.forall_mem_cons.mpr ⟨lw_p77, List.forall_mem_cons.mpr ⟨lw_p78, List.forall_mem_cons.mpr ⟨lw_p79, fun _ h => absurd h List.not_mem_nil⟩⟩⟩⟩⟩⟩⟩⟩⟩⟩⟩⟩⟩⟩⟩⟩
theorem lw_p80 : lw_okq (⟨"TillPairsModel", "plainCounts", "(I)I"⟩, 51) := ⟨⟨by decide +kernel, by decide +kernel⟩, List.mem_of_getElem? (i := 1034) (by decide +kernel), List.mem_of_getElem? (i := 1594) (by decide +kernel), List.mem_of_getElem? (i := 1595) (by decide +kernel)⟩
theorem lw_p81 : lw_okq (⟨"TillPairsModel", "turnCounts", "(I)I"⟩, 51) := ⟨⟨by decide +kernel, by decide +kernel⟩, List.mem_of_getElem? (i := 1034) (by decide +kernel), List.mem_of_getElem? (i := 1598) (by decide +kernel), List.mem_of_getElem? (i := 1599) (by decide +kernel)⟩
theorem lw_p82 : lw_okq (⟨"TillPairsModel", "sharesIt", "(I)I"⟩, 51) := ⟨⟨by decide +kernel, by decide +kernel⟩, List.mem_of_getElem? (i := 1034) (by decide +kernel), List.mem_of_getElem? (i := 1602) (by decide +kernel), List.mem_of_getElem? (i := 1603) (by decide +kernel)⟩
theorem lw_p83 : lw_okq (⟨"TillPairsModel", "plainShares", "(I)I"⟩, 51) := ⟨⟨by decide +kernel, by decide +kernel⟩, List.mem_of_getElem? (i := 1034) (by decide +kernel), List.mem_of_getElem? (i := 1606) (by decide +kernel), List.mem_of_getElem? (i := 1607) (by decide +kernel)⟩
theorem lw_p84 : lw_okq (⟨"TillPairsModel", "tellsIt", "(I)I"⟩, 51) := ⟨⟨by decide +kernel, by decide +kernel⟩, List.mem_of_getElem? (i := 1034) (by decide +kernel), List.mem_of_getElem? (i := 1610) (by decide +kernel), List.mem_of_getElem? (i := 1611) (by decide +kernel)⟩
theorem lw_p85 : lw_okq (⟨"TillPairsModel", "plainTells", "(I)I"⟩, 51) := ⟨⟨by decide +kernel, by decide +kernel⟩, List.mem_of_getElem? (i := 1034) (by decide +kernel), List.mem_of_getElem? (i := 1614) (by decide +kernel), List.mem_of_getElem? (i := 1615) (by decide +kernel)⟩
theorem lw_p86 : lw_okq (⟨"TillPairsModel", "moveAll", "(Z)V"⟩, 51) := ⟨⟨by decide +kernel, by decide +kernel⟩, List.mem_of_getElem? (i := 1034) (by decide +kernel), List.mem_of_getElem? (i := 1630) (by decide +kernel), List.mem_of_getElem? (i := 1631) (by decide +kernel)⟩
theorem lw_p87 : lw_okq (⟨"TillPairsModel", "move", "([IIZ)V"⟩, 51) := ⟨⟨by decide +kernel, by decide +kernel⟩, List.mem_of_getElem? (i := 1034) (by decide +kernel), List.mem_of_getElem? (i := 1634) (by decide +kernel), List.mem_of_getElem? (i := 1635) (by decide +kernel)⟩
def lw_privs_6 : List (MethodName × Nat) := [(⟨"TillPairsModel", "plainCounts", "(I)I"⟩, 51), (⟨"TillPairsModel", "turnCounts", "(I)I"⟩, 51), (⟨"TillPairsModel", "sharesIt", "(I)I"⟩, 51), (⟨"TillPairsModel", "plainShares", "(I)I"⟩, 51), (⟨"TillPairsModel", "tellsIt", "(I)I"⟩, 51), (⟨"TillPairsModel", "plainTells", "(I)I"⟩, 51), (⟨"TillPairsModel", "moveAll", "(Z)V"⟩, 51), (⟨"TillPairsModel", "move", "([IIZ)V"⟩, 51)]
theorem lw_r6 : ∀ q ∈ lw_privs_6, lw_okq q := List.forall_mem_cons.mpr ⟨lw_p80, List.forall_mem_cons.mpr ⟨lw_p81, List.forall_mem_cons.mpr ⟨lw_p82, List.forall_mem_cons.mpr ⟨lw_p83, List.forall_mem_cons.mpr ⟨lw_p84, List.forall_mem_cons.mpr ⟨lw_p85, List.forall_mem_cons.mpr ⟨lw_p86, List.forall_mem_cons.mpr ⟨lw_p87, fun _ h => absurd h List.not_mem_nil⟩⟩⟩⟩⟩⟩⟩⟩
def lw_privs : List (MethodName × Nat) := lw_privs_1 ++ (lw_privs_2 ++ (lw_privs_3 ++ (lw_privs_4 ++ (lw_privs_5 ++ (lw_privs_6)))))
def lw_tbl : List Cond := k2_sels lw_privs ++ tables_1
theorem lw_privs_ok : ∀ q ∈ lw_privs, lw_okq q := by
  show ∀ q ∈ lw_privs_1 ++ (lw_privs_2 ++ (lw_privs_3 ++ (lw_privs_4 ++ (lw_privs_5 ++ (lw_privs_6))))), lw_okq q
  exact List.forall_mem_append.mpr ⟨lw_r1, List.forall_mem_append.mpr ⟨lw_r2, List.forall_mem_append.mpr ⟨lw_r3, List.forall_mem_append.mpr ⟨lw_r4, List.forall_mem_append.mpr ⟨lw_r5, lw_r6⟩⟩⟩⟩⟩
def RX0 : String := "TillPairs$Acts"
def TX0 : u_T := fun k => match k with
  | 0 => ("TillPairs$Acts", "noted", "[I", true)
  | 1 => ("TillPairs$Acts", "bodies", "I", false)
  | 2 => ("TillPairs$Acts", "kind", "I", false)
  | 3 => ("TillPairs$Acts", "number", "I", false)
  | 4 => ("TillPairs$Acts", "a", "I", false)
  | _ => ("TillPairs$Acts", "parted", "Z", false)
def tyX0 : Nat → FieldType := fun k => match k with
  | 0 => .array .int
  | 1 => .int
  | 2 => .int
  | 3 => .int
  | 4 => .int
  | _ => .boolean
abbrev wsX00 : List Cond := u_ws RX0 TX0 6
theorem nmX0 : ∀ a, a < 6 → ∀ b, b < 6 → a ≠ b → (TX0 a).2.1 ≠ (TX0 b).2.1 := by decide +kernel
theorem tyX0_ok : ∀ k, k < 6 → parseFieldDescriptor (TX0 k).2.2.1 = some (tyX0 k) := by decide +kernel
abbrev cX0_init : ByteArray := prog_2_method_1_code
def yX0_init : MethodName := ⟨RX0, "<init>", "()V"⟩
abbrev cX0_isUnder : ByteArray := prog_2_method_2_code
def yX0_isUnder : MethodName := ⟨RX0, "isUnder", "(II)Z"⟩
abbrev cX0_forget : ByteArray := prog_2_method_3_code
def yX0_forget : MethodName := ⟨RX0, "forget", "()V"⟩
abbrev cX0_perform : ByteArray := prog_2_method_4_code
def yX0_perform : MethodName := ⟨RX0, "perform", "(IIIII)I"⟩
abbrev cX0_bodyOf : ByteArray := prog_2_method_5_code
def yX0_bodyOf : MethodName := ⟨RX0, "bodyOf", "(II)I"⟩
abbrev cX0_run : ByteArray := prog_2_method_6_code
def yX0_run : MethodName := ⟨RX0, "run", "(LTillPairs$Acts;III)I"⟩
abbrev cX0_share : ByteArray := prog_2_method_7_code
def yX0_share : MethodName := ⟨RX0, "share", "(I)I"⟩
abbrev cX0_note : ByteArray := prog_2_method_8_code
def yX0_note : MethodName := ⟨RX0, "note", "(I)V"⟩
def RX1 : String := "TillPairs$Host"
def TX1 : u_T := fun k => match k with
  | 0 => ("TillPairs$Host", "sorts", "[I", true)
  | 1 => ("TillPairs$Host", "lengths", "[I", true)
  | 2 => ("TillPairs$Host", "items", "[[I", true)
  | 3 => ("TillPairs$Host", "heldWhat", "[I", true)
  | 4 => ("TillPairs$Host", "heldSort", "[I", true)
  | _ => ("TillPairs$Host", "held", "[I", true)
def tyX1 : Nat → FieldType := fun k => match k with
  | 0 => .array .int
  | 1 => .array .int
  | 2 => .array (.array .int)
  | 3 => .array .int
  | 4 => .array .int
  | _ => .array .int
abbrev wsX10 : List Cond := u_ws RX1 TX1 6
theorem nmX1 : ∀ a, a < 6 → ∀ b, b < 6 → a ≠ b → (TX1 a).2.1 ≠ (TX1 b).2.1 := by decide +kernel
theorem tyX1_ok : ∀ k, k < 6 → parseFieldDescriptor (TX1 k).2.2.1 = some (tyX1 k) := by decide +kernel
abbrev cX1_init : ByteArray := prog_3_method_1_code
def yX1_init : MethodName := ⟨RX1, "<init>", "()V"⟩
abbrev cX1_lay : ByteArray := prog_3_method_2_code
def yX1_lay : MethodName := ⟨RX1, "lay", "(III)I"⟩
abbrev cX1_holds : ByteArray := prog_3_method_3_code
def yX1_holds : MethodName := ⟨RX1, "holds", "(II)Z"⟩
abbrev cX1_write : ByteArray := prog_3_method_4_code
def yX1_write : MethodName := ⟨RX1, "write", "(III)I"⟩
abbrev cX1_shelvePlan : ByteArray := prog_3_method_5_code
def yX1_shelvePlan : MethodName := ⟨RX1, "shelvePlan", "(II)I"⟩
abbrev cX1_shelveRow : ByteArray := prog_3_method_6_code
def yX1_shelveRow : MethodName := ⟨RX1, "shelveRow", "(II)I"⟩
abbrev cX1_clear : ByteArray := prog_3_method_7_code
def yX1_clear : MethodName := ⟨RX1, "clear", "(I)I"⟩
abbrev cX1_heldRow : ByteArray := prog_3_method_8_code
def yX1_heldRow : MethodName := ⟨RX1, "heldRow", "(I)Z"⟩
abbrev cX1_heldPlan : ByteArray := prog_3_method_9_code
def yX1_heldPlan : MethodName := ⟨RX1, "heldPlan", "(I)Z"⟩
def RX2 : String := "TillPairs$House"
def TX2 : u_T := fun k => match k with
  | 0 => ("TillPairs$House", "people", "I", false)
  | 1 => ("TillPairs$House", "surprises", "I", false)
  | 2 => ("TillPairs$House", "kinOf", "[I", true)
  | 3 => ("TillPairs$House", "awayOn", "[I", true)
  | 4 => ("TillPairs$House", "trustAtFirst", "[I", true)
  | 5 => ("TillPairs$House", "laws", "[I", true)
  | 6 => ("TillPairs$House", "seats", "[I", true)
  | _ => ("TillPairs$House", "losses", "[I", true)
def tyX2 : Nat → FieldType := fun k => match k with
  | 0 => .int
  | 1 => .int
  | 2 => .array .int
  | 3 => .array .int
  | 4 => .array .int
  | 5 => .array .int
  | 6 => .array .int
  | _ => .array .int
abbrev wsX20 : List Cond := u_ws RX2 TX2 8
theorem nmX2 : ∀ a, a < 8 → ∀ b, b < 8 → a ≠ b → (TX2 a).2.1 ≠ (TX2 b).2.1 := by decide +kernel
theorem tyX2_ok : ∀ k, k < 8 → parseFieldDescriptor (TX2 k).2.2.1 = some (tyX2 k) := by decide +kernel
abbrev cX2_init : ByteArray := prog_4_method_1_code
def yX2_init : MethodName := ⟨RX2, "<init>", "()V"⟩
abbrev cX2_pairOf : ByteArray := prog_4_method_2_code
def yX2_pairOf : MethodName := ⟨RX2, "pairOf", "(II)I"⟩
abbrev cX2_become : ByteArray := prog_4_method_3_code
def yX2_become : MethodName := ⟨RX2, "become", "(LTillPairs$House;)V"⟩
abbrev cX2_emptyBut : ByteArray := prog_4_method_4_code
def yX2_emptyBut : MethodName := ⟨RX2, "emptyBut", "([I)V"⟩
abbrev cX2_isPerson : ByteArray := prog_4_method_5_code
def yX2_isPerson : MethodName := ⟨RX2, "isPerson", "(I)Z"⟩
abbrev cX2_areTwo : ByteArray := prog_4_method_6_code
def yX2_areTwo : MethodName := ⟨RX2, "areTwo", "(II)Z"⟩
abbrev cX2_addPerson : ByteArray := prog_4_method_7_code
def yX2_addPerson : MethodName := ⟨RX2, "addPerson", "()I"⟩
abbrev cX2_setKin : ByteArray := prog_4_method_8_code
def yX2_setKin : MethodName := ⟨RX2, "setKin", "(IIZ)I"⟩
abbrev cX2_areKin : ByteArray := prog_4_method_9_code
def yX2_areKin : MethodName := ⟨RX2, "areKin", "(II)Z"⟩
abbrev cX2_setAway : ByteArray := prog_4_method_10_code
def yX2_setAway : MethodName := ⟨RX2, "setAway", "(IIZ)I"⟩
abbrev cX2_isAway : ByteArray := prog_4_method_11_code
def yX2_isAway : MethodName := ⟨RX2, "isAway", "(II)Z"⟩
abbrev cX2_setSurprise : ByteArray := prog_4_method_12_code
def yX2_setSurprise : MethodName := ⟨RX2, "setSurprise", "(IZ)I"⟩
abbrev cX2_hasSurprise : ByteArray := prog_4_method_13_code
def yX2_hasSurprise : MethodName := ⟨RX2, "hasSurprise", "(I)Z"⟩
abbrev cX2_at : ByteArray := prog_4_method_14_code
def yX2_at : MethodName := ⟨RX2, "at", "(II)I"⟩
abbrev cX2_seat : ByteArray := prog_4_method_15_code
def yX2_seat : MethodName := ⟨RX2, "seat", "(III)V"⟩
abbrev cX2_pairOn : ByteArray := prog_4_method_16_code
def yX2_pairOn : MethodName := ⟨RX2, "pairOn", "(I)I"⟩
abbrev cX2_sittings : ByteArray := prog_4_method_17_code
def yX2_sittings : MethodName := ⟨RX2, "sittings", "()I"⟩
abbrev cX2_daysOf : ByteArray := prog_4_method_18_code
def yX2_daysOf : MethodName := ⟨RX2, "daysOf", "(I)I"⟩
abbrev cX2_lastDayOf : ByteArray := prog_4_method_19_code
def yX2_lastDayOf : MethodName := ⟨RX2, "lastDayOf", "(II)I"⟩
abbrev cX2_satInGap : ByteArray := prog_4_method_20_code
def yX2_satInGap : MethodName := ⟨RX2, "satInGap", "(II)Z"⟩
abbrev cX2_lossOf : ByteArray := prog_4_method_21_code
def yX2_lossOf : MethodName := ⟨RX2, "lossOf", "(I)I"⟩
abbrev cX2_pairOfMostLoss : ByteArray := prog_4_method_22_code
def yX2_pairOfMostLoss : MethodName := ⟨RX2, "pairOfMostLoss", "()I"⟩
def RX3 : String := "TillPairs$Judge"
def TX3 : u_T := fun k => match k with
  | _ => ("TillPairs$Judge", "home", "LTillPairs$House;", true)
def tyX3 : Nat → FieldType := fun k => match k with
  | _ => .object "TillPairs$House"
abbrev wsX30 : List Cond := u_ws RX3 TX3 1
theorem nmX3 : ∀ a, a < 1 → ∀ b, b < 1 → a ≠ b → (TX3 a).2.1 ≠ (TX3 b).2.1 := by decide +kernel
theorem tyX3_ok : ∀ k, k < 1 → parseFieldDescriptor (TX3 k).2.2.1 = some (tyX3 k) := by decide +kernel
abbrev cX3_init : ByteArray := prog_5_method_1_code
def yX3_init : MethodName := ⟨RX3, "<init>", "(LTillPairs$House;)V"⟩
abbrev cX3_trustOfPair : ByteArray := prog_5_method_2_code
def yX3_trustOfPair : MethodName := ⟨RX3, "trustOfPair", "(II)I"⟩
abbrev cX3_trustAfter : ByteArray := prog_5_method_3_code
def yX3_trustAfter : MethodName := ⟨RX3, "trustAfter", "(IZ)I"⟩
abbrev cX3_seenOf : ByteArray := prog_5_method_4_code
def yX3_seenOf : MethodName := ⟨RX3, "seenOf", "(IIIZ)I"⟩
abbrev cX3_seenOn : ByteArray := prog_5_method_5_code
def yX3_seenOn : MethodName := ⟨RX3, "seenOn", "(I)I"⟩
abbrev cX3_worthOf : ByteArray := prog_5_method_6_code
def yX3_worthOf : MethodName := ⟨RX3, "worthOf", "(II)I"⟩
abbrev cX3_worthOn : ByteArray := prog_5_method_7_code
def yX3_worthOn : MethodName := ⟨RX3, "worthOn", "(I)I"⟩
abbrev cX3_worthIf : ByteArray := prog_5_method_8_code
def yX3_worthIf : MethodName := ⟨RX3, "worthIf", "(IZ)I"⟩
abbrev cX3_isPaying : ByteArray := prog_5_method_9_code
def yX3_isPaying : MethodName := ⟨RX3, "isPaying", "(II)Z"⟩
abbrev cX3_payingDays : ByteArray := prog_5_method_10_code
def yX3_payingDays : MethodName := ⟨RX3, "payingDays", "()I"⟩
abbrev cX3_payingDaysBy : ByteArray := prog_5_method_11_code
def yX3_payingDaysBy : MethodName := ⟨RX3, "payingDaysBy", "(I)I"⟩
abbrev cX3_leastTell : ByteArray := prog_5_method_12_code
def yX3_leastTell : MethodName := ⟨RX3, "leastTell", "()I"⟩
abbrev cX3_surprisesNeeded : ByteArray := prog_5_method_13_code
def yX3_surprisesNeeded : MethodName := ⟨RX3, "surprisesNeeded", "()I"⟩
abbrev cX3_brokenOn : ByteArray := prog_5_method_14_code
def yX3_brokenOn : MethodName := ⟨RX3, "brokenOn", "(I)I"⟩
abbrev cX3_somebodyIsAway : ByteArray := prog_5_method_15_code
def yX3_somebodyIsAway : MethodName := ⟨RX3, "somebodyIsAway", "(I)Z"⟩
abbrev cX3_somebodyIsTwice : ByteArray := prog_5_method_16_code
def yX3_somebodyIsTwice : MethodName := ⟨RX3, "somebodyIsTwice", "(I)Z"⟩
def RX4 : String := "TillPairs$Odds"
def TX4 : u_T := fun k => match k with
  | 0 => ("TillPairs$Odds", "home", "LTillPairs$House;", true)
  | 1 => ("TillPairs$Odds", "mind", "LTillPairs$Judge;", true)
  | 2 => ("TillPairs$Odds", "above", "J", false)
  | _ => ("TillPairs$Odds", "below", "J", false)
def tyX4 : Nat → FieldType := fun k => match k with
  | 0 => .object "TillPairs$House"
  | 1 => .object "TillPairs$Judge"
  | 2 => .long
  | _ => .long
abbrev wsX40 : List Cond := u_ws RX4 TX4 4
theorem nmX4 : ∀ a, a < 4 → ∀ b, b < 4 → a ≠ b → (TX4 a).2.1 ≠ (TX4 b).2.1 := by decide +kernel
theorem tyX4_ok : ∀ k, k < 4 → parseFieldDescriptor (TX4 k).2.2.1 = some (tyX4 k) := by decide +kernel
abbrev cX4_init : ByteArray := prog_6_method_1_code
def yX4_init : MethodName := ⟨RX4, "<init>", "(LTillPairs$House;LTillPairs$Judge;)V"⟩
abbrev cX4_findBest : ByteArray := prog_6_method_2_code
def yX4_findBest : MethodName := ⟨RX4, "findBest", "(I)V"⟩
abbrev cX4_findLot : ByteArray := prog_6_method_3_code
def yX4_findLot : MethodName := ⟨RX4, "findLot", "(I)V"⟩
abbrev cX4_ways : ByteArray := prog_6_method_4_code
def yX4_ways : MethodName := ⟨RX4, "ways", "(II)J"⟩
abbrev cX4_power : ByteArray := prog_6_method_5_code
def yX4_power : MethodName := ⟨RX4, "power", "(JI)J"⟩
abbrev cX4_reduce : ByteArray := prog_6_method_6_code
def yX4_reduce : MethodName := ⟨RX4, "reduce", "()V"⟩
def RX5 : String := "TillPairs$Plans"
def TX5 : u_T := fun k => match k with
  | 0 => ("TillPairs$Plans", "kinds", "[I", true)
  | 1 => ("TillPairs$Plans", "as", "[I", true)
  | 2 => ("TillPairs$Plans", "seated", "[I", true)
  | 3 => ("TillPairs$Plans", "count", "I", false)
  | _ => ("TillPairs$Plans", "z", "I", false)
def tyX5 : Nat → FieldType := fun k => match k with
  | 0 => .array .int
  | 1 => .array .int
  | 2 => .array .int
  | 3 => .int
  | _ => .int
abbrev wsX50 : List Cond := u_ws RX5 TX5 5
theorem nmX5 : ∀ a, a < 5 → ∀ b, b < 5 → a ≠ b → (TX5 a).2.1 ≠ (TX5 b).2.1 := by decide +kernel
theorem tyX5_ok : ∀ k, k < 5 → parseFieldDescriptor (TX5 k).2.2.1 = some (tyX5 k) := by decide +kernel
abbrev cX5_init : ByteArray := prog_7_method_1_code
def yX5_init : MethodName := ⟨RX5, "<init>", "()V"⟩
abbrev cX5_become : ByteArray := prog_7_method_2_code
def yX5_become : MethodName := ⟨RX5, "become", "(LTillPairs$Plans;)V"⟩
abbrev cX5_has : ByteArray := prog_7_method_3_code
def yX5_has : MethodName := ⟨RX5, "has", "(I)Z"⟩
abbrev cX5_add : ByteArray := prog_7_method_4_code
def yX5_add : MethodName := ⟨RX5, "add", "(II)I"⟩
abbrev cX5_fillDay : ByteArray := prog_7_method_5_code
def yX5_fillDay : MethodName := ⟨RX5, "fillDay", "(LTillPairs$House;II)I"⟩
abbrev cX5_presentFor : ByteArray := prog_7_method_6_code
def yX5_presentFor : MethodName := ⟨RX5, "presentFor", "(LTillPairs$House;II)I"⟩
abbrev cX5_seatTold : ByteArray := prog_7_method_7_code
def yX5_seatTold : MethodName := ⟨RX5, "seatTold", "(LTillPairs$House;I)Z"⟩
abbrev cX5_seatByTurn : ByteArray := prog_7_method_8_code
def yX5_seatByTurn : MethodName := ⟨RX5, "seatByTurn", "(LTillPairs$House;II)V"⟩
abbrev cX5_longestApart : ByteArray := prog_7_method_9_code
def yX5_longestApart : MethodName := ⟨RX5, "longestApart", "(LTillPairs$House;IIZ)I"⟩
abbrev cX5_seatByDraw : ByteArray := prog_7_method_10_code
def yX5_seatByDraw : MethodName := ⟨RX5, "seatByDraw", "(I)V"⟩
abbrev cX5_drawFrom : ByteArray := prog_7_method_11_code
def yX5_drawFrom : MethodName := ⟨RX5, "drawFrom", "(I)I"⟩
abbrev cX5_seatStranger : ByteArray := prog_7_method_12_code
def yX5_seatStranger : MethodName := ⟨RX5, "seatStranger", "(LTillPairs$House;I)V"⟩
abbrev cX5_sitDown : ByteArray := prog_7_method_13_code
def yX5_sitDown : MethodName := ⟨RX5, "sitDown", "(LTillPairs$House;I)I"⟩
abbrev cX5_isIn : ByteArray := prog_7_method_14_code
def yX5_isIn : MethodName := ⟨RX5, "isIn", "(II)Z"⟩
abbrev cX5_leastOf : ByteArray := prog_7_method_15_code
def yX5_leastOf : MethodName := ⟨RX5, "leastOf", "(I)I"⟩
def RX6 : String := "TillPairs$Rows"
def TX6 : u_T := fun k => match k with
  | 0 => ("TillPairs$Rows", "home", "LTillPairs$House;", true)
  | 1 => ("TillPairs$Rows", "mind", "LTillPairs$Judge;", true)
  | 2 => ("TillPairs$Rows", "cells", "[I", true)
  | _ => ("TillPairs$Rows", "count", "I", false)
def tyX6 : Nat → FieldType := fun k => match k with
  | 0 => .object "TillPairs$House"
  | 1 => .object "TillPairs$Judge"
  | 2 => .array .int
  | _ => .int
abbrev wsX60 : List Cond := u_ws RX6 TX6 4
theorem nmX6 : ∀ a, a < 4 → ∀ b, b < 4 → a ≠ b → (TX6 a).2.1 ≠ (TX6 b).2.1 := by decide +kernel
theorem tyX6_ok : ∀ k, k < 4 → parseFieldDescriptor (TX6 k).2.2.1 = some (tyX6 k) := by decide +kernel
abbrev cX6_init : ByteArray := prog_8_method_1_code
def yX6_init : MethodName := ⟨RX6, "<init>", "(LTillPairs$House;LTillPairs$Judge;)V"⟩
abbrev cX6_drop : ByteArray := prog_8_method_2_code
def yX6_drop : MethodName := ⟨RX6, "drop", "()V"⟩
abbrev cX6_has : ByteArray := prog_8_method_3_code
def yX6_has : MethodName := ⟨RX6, "has", "(II)Z"⟩
abbrev cX6_write : ByteArray := prog_8_method_4_code
def yX6_write : MethodName := ⟨RX6, "write", "()I"⟩
abbrev cX6_firstWrong : ByteArray := prog_8_method_5_code
def yX6_firstWrong : MethodName := ⟨RX6, "firstWrong", "()I"⟩
abbrev cX6_due : ByteArray := prog_8_method_6_code
def yX6_due : MethodName := ⟨RX6, "due", "(II)I"⟩
def RX7 : String := "TillPairs$Tape"
def TX7 : u_T := fun k => match k with
  | 0 => ("TillPairs$Tape", "bytes", "[I", true)
  | 1 => ("TillPairs$Tape", "draft", "LTillPairs$House;", true)
  | 2 => ("TillPairs$Tape", "length", "I", false)
  | 3 => ("TillPairs$Tape", "at", "I", false)
  | _ => ("TillPairs$Tape", "fault", "I", false)
def tyX7 : Nat → FieldType := fun k => match k with
  | 0 => .array .int
  | 1 => .object "TillPairs$House"
  | 2 => .int
  | 3 => .int
  | _ => .int
abbrev wsX70 : List Cond := u_ws RX7 TX7 5
theorem nmX7 : ∀ a, a < 5 → ∀ b, b < 5 → a ≠ b → (TX7 a).2.1 ≠ (TX7 b).2.1 := by decide +kernel
theorem tyX7_ok : ∀ k, k < 5 → parseFieldDescriptor (TX7 k).2.2.1 = some (tyX7 k) := by decide +kernel
abbrev cX7_init : ByteArray := prog_9_method_1_code
def yX7_init : MethodName := ⟨RX7, "<init>", "()V"⟩
abbrev cX7_add : ByteArray := prog_9_method_2_code
def yX7_add : MethodName := ⟨RX7, "add", "(JI)I"⟩
abbrev cX7_tell : ByteArray := prog_9_method_3_code
def yX7_tell : MethodName := ⟨RX7, "tell", "(LTillPairs$House;)I"⟩
abbrev cX7_readStatement : ByteArray := prog_9_method_4_code
def yX7_readStatement : MethodName := ⟨RX7, "readStatement", "()V"⟩
abbrev cX7_nameOf : ByteArray := prog_9_method_5_code
def yX7_nameOf : MethodName := ⟨RX7, "nameOf", "(I)Ljava/lang/String;"⟩
abbrev cX7_readKin : ByteArray := prog_9_method_6_code
def yX7_readKin : MethodName := ⟨RX7, "readKin", "()V"⟩
abbrev cX7_readTrust : ByteArray := prog_9_method_7_code
def yX7_readTrust : MethodName := ⟨RX7, "readTrust", "()V"⟩
abbrev cX7_readAway : ByteArray := prog_9_method_8_code
def yX7_readAway : MethodName := ⟨RX7, "readAway", "()V"⟩
abbrev cX7_readLaw : ByteArray := prog_9_method_9_code
def yX7_readLaw : MethodName := ⟨RX7, "readLaw", "(I)V"⟩
abbrev cX7_readEnd : ByteArray := prog_9_method_10_code
def yX7_readEnd : MethodName := ⟨RX7, "readEnd", "()V"⟩
abbrev cX7_readWord : ByteArray := prog_9_method_11_code
def yX7_readWord : MethodName := ⟨RX7, "readWord", "(Ljava/lang/String;)V"⟩
abbrev cX7_readNumber : ByteArray := prog_9_method_12_code
def yX7_readNumber : MethodName := ⟨RX7, "readNumber", "(II)I"⟩
abbrev cX7_isDigit : ByteArray := prog_9_method_13_code
def yX7_isDigit : MethodName := ⟨RX7, "isDigit", "(I)Z"⟩
abbrev cX7_fail : ByteArray := prog_9_method_14_code
def yX7_fail : MethodName := ⟨RX7, "fail", "(I)V"⟩
abbrev cX7_skipBlanks : ByteArray := prog_9_method_15_code
def yX7_skipBlanks : MethodName := ⟨RX7, "skipBlanks", "()V"⟩
abbrev cX7_endOfName : ByteArray := prog_9_method_16_code
def yX7_endOfName : MethodName := ⟨RX7, "endOfName", "()I"⟩
abbrev cX7_stands : ByteArray := prog_9_method_17_code
def yX7_stands : MethodName := ⟨RX7, "stands", "(Ljava/lang/String;I)Z"⟩
def RX8 : String := "TillPairs$Ways"
def TX8 : u_T := fun k => match k with
  | 0 => ("TillPairs$Ways", "home", "LTillPairs$House;", true)
  | 1 => ("TillPairs$Ways", "mind", "LTillPairs$Judge;", true)
  | 2 => ("TillPairs$Ways", "trusts", "[I", true)
  | 3 => ("TillPairs$Ways", "bounds", "[[I", true)
  | 4 => ("TillPairs$Ways", "chosen", "[I", true)
  | 5 => ("TillPairs$Ways", "changes", "I", false)
  | _ => ("TillPairs$Ways", "digits", "I", false)
def tyX8 : Nat → FieldType := fun k => match k with
  | 0 => .object "TillPairs$House"
  | 1 => .object "TillPairs$Judge"
  | 2 => .array .int
  | 3 => .array (.array .int)
  | 4 => .array .int
  | 5 => .int
  | _ => .int
abbrev wsX80 : List Cond := u_ws RX8 TX8 7
theorem nmX8 : ∀ a, a < 7 → ∀ b, b < 7 → a ≠ b → (TX8 a).2.1 ≠ (TX8 b).2.1 := by decide +kernel
theorem tyX8_ok : ∀ k, k < 7 → parseFieldDescriptor (TX8 k).2.2.1 = some (tyX8 k) := by decide +kernel
abbrev cX8_init : ByteArray := prog_10_method_1_code
def yX8_init : MethodName := ⟨RX8, "<init>", "(LTillPairs$House;LTillPairs$Judge;)V"⟩
abbrev cX8_mend : ByteArray := prog_10_method_2_code
def yX8_mend : MethodName := ⟨RX8, "mend", "(I)Z"⟩
abbrev cX8_mendBy : ByteArray := prog_10_method_3_code
def yX8_mendBy : MethodName := ⟨RX8, "mendBy", "(III)V"⟩
abbrev cX8_change : ByteArray := prog_10_method_4_code
def yX8_change : MethodName := ⟨RX8, "change", "(III)I"⟩
abbrev cX8_maySit : ByteArray := prog_10_method_5_code
def yX8_maySit : MethodName := ⟨RX8, "maySit", "(III)Z"⟩
abbrev cX8_isFree : ByteArray := prog_10_method_6_code
def yX8_isFree : MethodName := ⟨RX8, "isFree", "(III)Z"⟩
abbrev cX8_wouldPay : ByteArray := prog_10_method_7_code
def yX8_wouldPay : MethodName := ⟨RX8, "wouldPay", "(IIIII)Z"⟩
abbrev cX8_rowsAhead : ByteArray := prog_10_method_8_code
def yX8_rowsAhead : MethodName := ⟨RX8, "rowsAhead", "(II)I"⟩
abbrev cX8_mostTrust : ByteArray := prog_10_method_9_code
def yX8_mostTrust : MethodName := ⟨RX8, "mostTrust", "(II)I"⟩
abbrev cX8_countRows : ByteArray := prog_10_method_10_code
def yX8_countRows : MethodName := ⟨RX8, "countRows", "(LTillPairs$Ways;II)I"⟩
abbrev cX8_standsBehindChosen : ByteArray := prog_10_method_11_code
def yX8_standsBehindChosen : MethodName := ⟨RX8, "standsBehindChosen", "(II)Z"⟩
def RX9 : String := "TillPairs"
def TX9 : u_T := fun k => match k with
  | 0 => ("TillPairs", "home", "LTillPairs$House;", true)
  | 1 => ("TillPairs", "tape", "LTillPairs$Tape;", true)
  | 2 => ("TillPairs", "mind", "LTillPairs$Judge;", true)
  | 3 => ("TillPairs", "odds", "LTillPairs$Odds;", true)
  | 4 => ("TillPairs", "ways", "LTillPairs$Ways;", true)
  | 5 => ("TillPairs", "plans", "LTillPairs$Plans;", true)
  | 6 => ("TillPairs", "rows", "LTillPairs$Rows;", true)
  | 7 => ("TillPairs", "acts", "LTillPairs$Acts;", true)
  | 8 => ("TillPairs", "host", "LTillPairs$Host;", true)
  | 9 => ("TillPairs", "keptHome", "LTillPairs$House;", true)
  | 10 => ("TillPairs", "keptPlans", "LTillPairs$Plans;", true)
  | _ => ("TillPairs", "kept", "Z", false)
def tyX9 : Nat → FieldType := fun k => match k with
  | 0 => .object "TillPairs$House"
  | 1 => .object "TillPairs$Tape"
  | 2 => .object "TillPairs$Judge"
  | 3 => .object "TillPairs$Odds"
  | 4 => .object "TillPairs$Ways"
  | 5 => .object "TillPairs$Plans"
  | 6 => .object "TillPairs$Rows"
  | 7 => .object "TillPairs$Acts"
  | 8 => .object "TillPairs$Host"
  | 9 => .object "TillPairs$House"
  | 10 => .object "TillPairs$Plans"
  | _ => .boolean
abbrev wsX90 : List Cond := u_ws RX9 TX9 12
theorem nmX9 : ∀ a, a < 12 → ∀ b, b < 12 → a ≠ b → (TX9 a).2.1 ≠ (TX9 b).2.1 := by decide +kernel
theorem tyX9_ok : ∀ k, k < 12 → parseFieldDescriptor (TX9 k).2.2.1 = some (tyX9 k) := by decide +kernel
abbrev cX9_init : ByteArray := prog_1_method_1_code
def yX9_init : MethodName := ⟨RX9, "<init>", "()V"⟩
abbrev cX9_feed : ByteArray := prog_1_method_2_code
def yX9_feed : MethodName := ⟨RX9, "feed", "(JI)I"⟩
abbrev cX9_house : ByteArray := prog_1_method_3_code
def yX9_house : MethodName := ⟨RX9, "house", "()I"⟩
abbrev cX9_person : ByteArray := prog_1_method_4_code
def yX9_person : MethodName := ⟨RX9, "person", "()I"⟩
abbrev cX9_kin : ByteArray := prog_1_method_5_code
def yX9_kin : MethodName := ⟨RX9, "kin", "(IIZ)I"⟩
abbrev cX9_trust : ByteArray := prog_1_method_6_code
def yX9_trust : MethodName := ⟨RX9, "trust", "(III)I"⟩
abbrev cX9_away : ByteArray := prog_1_method_7_code
def yX9_away : MethodName := ⟨RX9, "away", "(IIZ)I"⟩
abbrev cX9_set : ByteArray := prog_1_method_8_code
def yX9_set : MethodName := ⟨RX9, "set", "(II)I"⟩
abbrev cX9_law : ByteArray := prog_1_method_9_code
def yX9_law : MethodName := ⟨RX9, "law", "(I)I"⟩
abbrev cX9_post : ByteArray := prog_1_method_10_code
def yX9_post : MethodName := ⟨RX9, "post", "(III)I"⟩
abbrev cX9_postOf : ByteArray := prog_1_method_11_code
def yX9_postOf : MethodName := ⟨RX9, "postOf", "(II)I"⟩
abbrev cX9_surprise : ByteArray := prog_1_method_12_code
def yX9_surprise : MethodName := ⟨RX9, "surprise", "(IZ)I"⟩
abbrev cX9_loss : ByteArray := prog_1_method_13_code
def yX9_loss : MethodName := ⟨RX9, "loss", "(II)I"⟩
abbrev cX9_trustOn : ByteArray := prog_1_method_14_code
def yX9_trustOn : MethodName := ⟨RX9, "trustOn", "(III)I"⟩
abbrev cX9_seen : ByteArray := prog_1_method_15_code
def yX9_seen : MethodName := ⟨RX9, "seen", "(I)I"⟩
abbrev cX9_worth : ByteArray := prog_1_method_16_code
def yX9_worth : MethodName := ⟨RX9, "worth", "(I)I"⟩
abbrev cX9_pays : ByteArray := prog_1_method_17_code
def yX9_pays : MethodName := ⟨RX9, "pays", "()I"⟩
abbrev cX9_best : ByteArray := prog_1_method_18_code
def yX9_best : MethodName := ⟨RX9, "best", "(III)J"⟩
abbrev cX9_enough : ByteArray := prog_1_method_19_code
def yX9_enough : MethodName := ⟨RX9, "enough", "()I"⟩
abbrev cX9_needed : ByteArray := prog_1_method_20_code
def yX9_needed : MethodName := ⟨RX9, "needed", "()I"⟩
abbrev cX9_broken : ByteArray := prog_1_method_21_code
def yX9_broken : MethodName := ⟨RX9, "broken", "(I)I"⟩
abbrev cX9_mended : ByteArray := prog_1_method_22_code
def yX9_mended : MethodName := ⟨RX9, "mended", "(II)I"⟩
abbrev cX9_ahead : ByteArray := prog_1_method_23_code
def yX9_ahead : MethodName := ⟨RX9, "ahead", "(II)I"⟩
abbrev cX9_lot : ByteArray := prog_1_method_24_code
def yX9_lot : MethodName := ⟨RX9, "lot", "(III)J"⟩
abbrev cX9_sat : ByteArray := prog_1_method_25_code
def yX9_sat : MethodName := ⟨RX9, "sat", "(II)I"⟩
abbrev cX9_suspects : ByteArray := prog_1_method_26_code
def yX9_suspects : MethodName := ⟨RX9, "suspects", "(I)I"⟩
abbrev cX9_plan : ByteArray := prog_1_method_27_code
def yX9_plan : MethodName := ⟨RX9, "plan", "(II)I"⟩
abbrev cX9_planOf : ByteArray := prog_1_method_28_code
def yX9_planOf : MethodName := ⟨RX9, "planOf", "(II)I"⟩
abbrev cX9_fill : ByteArray := prog_1_method_29_code
def yX9_fill : MethodName := ⟨RX9, "fill", "(II)I"⟩
abbrev cX9_seed : ByteArray := prog_1_method_30_code
def yX9_seed : MethodName := ⟨RX9, "seed", "(I)I"⟩
abbrev cX9_prove : ByteArray := prog_1_method_31_code
def yX9_prove : MethodName := ⟨RX9, "prove", "()I"⟩
abbrev cX9_row : ByteArray := prog_1_method_32_code
def yX9_row : MethodName := ⟨RX9, "row", "(II)I"⟩
abbrev cX9_alterRow : ByteArray := prog_1_method_33_code
def yX9_alterRow : MethodName := ⟨RX9, "alterRow", "(III)I"⟩
abbrev cX9_judge : ByteArray := prog_1_method_34_code
def yX9_judge : MethodName := ⟨RX9, "judge", "()I"⟩
abbrev cX9_sheet : ByteArray := prog_1_method_35_code
def yX9_sheet : MethodName := ⟨RX9, "sheet", "(III)I"⟩
abbrev cX9_put : ByteArray := prog_1_method_36_code
def yX9_put : MethodName := ⟨RX9, "put", "(III)I"⟩
abbrev cX9_item : ByteArray := prog_1_method_37_code
def yX9_item : MethodName := ⟨RX9, "item", "(III)I"⟩
abbrev cX9_shelf : ByteArray := prog_1_method_38_code
def yX9_shelf : MethodName := ⟨RX9, "shelf", "(III)I"⟩
abbrev cX9_taken : ByteArray := prog_1_method_39_code
def yX9_taken : MethodName := ⟨RX9, "taken", "(II)I"⟩
abbrev cX9_act : ByteArray := prog_1_method_40_code
def yX9_act : MethodName := ⟨RX9, "act", "(III)I"⟩
abbrev cX9_trace : ByteArray := prog_1_method_41_code
def yX9_trace : MethodName := ⟨RX9, "trace", "(I)I"⟩
abbrev cX9_days : ByteArray := prog_1_method_42_code
def yX9_days : MethodName := ⟨RX9, "days", "(II)I"⟩
abbrev cX9_many : ByteArray := prog_1_method_43_code
def yX9_many : MethodName := ⟨RX9, "many", "(I)I"⟩
abbrev cX9_keep : ByteArray := prog_1_method_44_code
def yX9_keep : MethodName := ⟨RX9, "keep", "()I"⟩
abbrev cX9_again : ByteArray := prog_1_method_45_code
def yX9_again : MethodName := ⟨RX9, "again", "()I"⟩
abbrev cX9_isDay : ByteArray := prog_1_method_46_code
def yX9_isDay : MethodName := ⟨RX9, "isDay", "(I)Z"⟩
abbrev cX9_isPost : ByteArray := prog_1_method_47_code
def yX9_isPost : MethodName := ⟨RX9, "isPost", "(I)Z"⟩
abbrev cX9_isPart : ByteArray := prog_1_method_48_code
def yX9_isPart : MethodName := ⟨RX9, "isPart", "(I)Z"⟩
abbrev cX9_isPlace : ByteArray := prog_1_method_49_code
def yX9_isPlace : MethodName := ⟨RX9, "isPlace", "(I)Z"⟩
abbrev cX9_planOn : ByteArray := prog_1_method_50_code
def yX9_planOn : MethodName := ⟨RX9, "planOn", "(I)I"⟩
def RX10 : String := "TillPairsModel"
def TX10 : u_T := fun k => match k with
  | 0 => ("TillPairsModel", "people", "I", false)
  | 1 => ("TillPairsModel", "kin", "[I", true)
  | 2 => ("TillPairsModel", "away", "[I", true)
  | 3 => ("TillPairsModel", "first", "[I", true)
  | 4 => ("TillPairsModel", "posts", "[I", true)
  | 5 => ("TillPairsModel", "surprises", "I", false)
  | 6 => ("TillPairsModel", "losses", "[I", true)
  | 7 => ("TillPairsModel", "laws", "[I", true)
  | 8 => ("TillPairsModel", "mostOf", "[I", true)
  | 9 => ("TillPairsModel", "plans", "I", false)
  | 10 => ("TillPairsModel", "plan", "[I", true)
  | 11 => ("TillPairsModel", "z", "I", false)
  | 12 => ("TillPairsModel", "tape", "[I", true)
  | 13 => ("TillPairsModel", "tapeMany", "I", false)
  | 14 => ("TillPairsModel", "sort", "I", false)
  | 15 => ("TillPairsModel", "begins", "I", false)
  | 16 => ("TillPairsModel", "tokenEnds", "I", false)
  | 17 => ("TillPairsModel", "word", "J", false)
  | 18 => ("TillPairsModel", "value", "I", false)
  | 19 => ("TillPairsModel", "good", "Z", false)
  | 20 => ("TillPairsModel", "freshPeople", "I", false)
  | 21 => ("TillPairsModel", "freshKin", "[I", true)
  | 22 => ("TillPairsModel", "freshAway", "[I", true)
  | 23 => ("TillPairsModel", "freshFirst", "[I", true)
  | 24 => ("TillPairsModel", "freshLaws", "[I", true)
  | 25 => ("TillPairsModel", "above", "J", false)
  | 26 => ("TillPairsModel", "below", "J", false)
  | 27 => ("TillPairsModel", "had", "[I", true)
  | 28 => ("TillPairsModel", "bestWay", "[I", true)
  | 29 => ("TillPairsModel", "place", "[I", true)
  | 30 => ("TillPairsModel", "often", "[J", true)
  | 31 => ("TillPairsModel", "way", "[I", true)
  | 32 => ("TillPairsModel", "rows", "[I", true)
  | 33 => ("TillPairsModel", "must", "[I", true)
  | 34 => ("TillPairsModel", "rowMany", "I", false)
  | 35 => ("TillPairsModel", "sorts", "[I", true)
  | 36 => ("TillPairsModel", "sizes", "[I", true)
  | 37 => ("TillPairsModel", "sheets", "[J", true)
  | 38 => ("TillPairsModel", "held", "[I", true)
  | 39 => ("TillPairsModel", "heldNumber", "[I", true)
  | 40 => ("TillPairsModel", "heldSize", "[I", true)
  | 41 => ("TillPairsModel", "kind", "I", false)
  | 42 => ("TillPairsModel", "number", "I", false)
  | 43 => ("TillPairsModel", "own", "I", false)
  | 44 => ("TillPairsModel", "traced", "[I", true)
  | 45 => ("TillPairsModel", "bodies", "I", false)
  | 46 => ("TillPairsModel", "isParted", "Z", false)
  | 47 => ("TillPairsModel", "isKept", "Z", false)
  | 48 => ("TillPairsModel", "kept", "[I", true)
  | 49 => ("TillPairsModel", "movedTo", "I", false)
  | _ => ("TillPairsModel", "single", "[I", true)
def tyX10 : Nat → FieldType := fun k => match k with
  | 0 => .int
  | 1 => .array .int
  | 2 => .array .int
  | 3 => .array .int
  | 4 => .array .int
  | 5 => .int
  | 6 => .array .int
  | 7 => .array .int
  | 8 => .array .int
  | 9 => .int
  | 10 => .array .int
  | 11 => .int
  | 12 => .array .int
  | 13 => .int
  | 14 => .int
  | 15 => .int
  | 16 => .int
  | 17 => .long
  | 18 => .int
  | 19 => .boolean
  | 20 => .int
  | 21 => .array .int
  | 22 => .array .int
  | 23 => .array .int
  | 24 => .array .int
  | 25 => .long
  | 26 => .long
  | 27 => .array .int
  | 28 => .array .int
  | 29 => .array .int
  | 30 => .array .long
  | 31 => .array .int
  | 32 => .array .int
  | 33 => .array .int
  | 34 => .int
  | 35 => .array .int
  | 36 => .array .int
  | 37 => .array .long
  | 38 => .array .int
  | 39 => .array .int
  | 40 => .array .int
  | 41 => .int
  | 42 => .int
  | 43 => .int
  | 44 => .array .int
  | 45 => .int
  | 46 => .boolean
  | 47 => .boolean
  | 48 => .array .int
  | 49 => .int
  | _ => .array .int
abbrev wsX100 : List Cond := u_ws RX10 TX10 51
theorem nmX10 : ∀ a, a < 51 → ∀ b, b < 51 → a ≠ b → (TX10 a).2.1 ≠ (TX10 b).2.1 := by decide +kernel
theorem tyX10_ok : ∀ k, k < 51 → parseFieldDescriptor (TX10 k).2.2.1 = some (tyX10 k) := by decide +kernel
abbrev cX10_init : ByteArray := prog_12_method_1_code
def yX10_init : MethodName := ⟨RX10, "<init>", "()V"⟩
abbrev cX10_in : ByteArray := prog_12_method_2_code
def yX10_in : MethodName := ⟨RX10, "in", "(III)Z"⟩
abbrev cX10_isPerson : ByteArray := prog_12_method_3_code
def yX10_isPerson : MethodName := ⟨RX10, "isPerson", "(I)Z"⟩
abbrev cX10_areTwo : ByteArray := prog_12_method_4_code
def yX10_areTwo : MethodName := ⟨RX10, "areTwo", "(II)Z"⟩
abbrev cX10_isDay : ByteArray := prog_12_method_5_code
def yX10_isDay : MethodName := ⟨RX10, "isDay", "(I)Z"⟩
abbrev cX10_isPost : ByteArray := prog_12_method_6_code
def yX10_isPost : MethodName := ⟨RX10, "isPost", "(I)Z"⟩
abbrev cX10_isSide : ByteArray := prog_12_method_7_code
def yX10_isSide : MethodName := ⟨RX10, "isSide", "(I)Z"⟩
abbrev cX10_areKin : ByteArray := prog_12_method_8_code
def yX10_areKin : MethodName := ⟨RX10, "areKin", "(II)Z"⟩
abbrev cX10_isAway : ByteArray := prog_12_method_9_code
def yX10_isAway : MethodName := ⟨RX10, "isAway", "(II)Z"⟩
abbrev cX10_feed : ByteArray := prog_12_method_10_code
def yX10_feed : MethodName := ⟨RX10, "feed", "(JI)I"⟩
abbrev cX10_byteAt : ByteArray := prog_12_method_11_code
def yX10_byteAt : MethodName := ⟨RX10, "byteAt", "(I)I"⟩
abbrev cX10_isLetter : ByteArray := prog_12_method_12_code
def yX10_isLetter : MethodName := ⟨RX10, "isLetter", "(I)Z"⟩
abbrev cX10_isDigit : ByteArray := prog_12_method_13_code
def yX10_isDigit : MethodName := ⟨RX10, "isDigit", "(I)Z"⟩
abbrev cX10_advance : ByteArray := prog_12_method_14_code
def yX10_advance : MethodName := ⟨RX10, "advance", "()V"⟩
abbrev cX10_isWord : ByteArray := prog_12_method_15_code
def yX10_isWord : MethodName := ⟨RX10, "isWord", "(J)Z"⟩
abbrev cX10_isMark : ByteArray := prog_12_method_16_code
def yX10_isMark : MethodName := ⟨RX10, "isMark", "(I)Z"⟩
abbrev cX10_lawHere : ByteArray := prog_12_method_17_code
def yX10_lawHere : MethodName := ⟨RX10, "lawHere", "()I"⟩
abbrev cX10_wantNumber : ByteArray := prog_12_method_18_code
def yX10_wantNumber : MethodName := ⟨RX10, "wantNumber", "(II)I"⟩
abbrev cX10_wantWord : ByteArray := prog_12_method_19_code
def yX10_wantWord : MethodName := ⟨RX10, "wantWord", "(J)V"⟩
abbrev cX10_wantEnd : ByteArray := prog_12_method_20_code
def yX10_wantEnd : MethodName := ⟨RX10, "wantEnd", "()V"⟩
abbrev cX10_wantTwo : ByteArray := prog_12_method_21_code
def yX10_wantTwo : MethodName := ⟨RX10, "wantTwo", "(Z)V"⟩
abbrev cX10_wantAway : ByteArray := prog_12_method_22_code
def yX10_wantAway : MethodName := ⟨RX10, "wantAway", "()V"⟩
abbrev cX10_wantClause : ByteArray := prog_12_method_23_code
def yX10_wantClause : MethodName := ⟨RX10, "wantClause", "()V"⟩
abbrev cX10_house : ByteArray := prog_12_method_24_code
def yX10_house : MethodName := ⟨RX10, "house", "()I"⟩
abbrev cX10_person : ByteArray := prog_12_method_25_code
def yX10_person : MethodName := ⟨RX10, "person", "()I"⟩
abbrev cX10_kin : ByteArray := prog_12_method_26_code
def yX10_kin : MethodName := ⟨RX10, "kin", "(IIZ)I"⟩
abbrev cX10_trust : ByteArray := prog_12_method_27_code
def yX10_trust : MethodName := ⟨RX10, "trust", "(III)I"⟩
abbrev cX10_away : ByteArray := prog_12_method_28_code
def yX10_away : MethodName := ⟨RX10, "away", "(IIZ)I"⟩
abbrev cX10_isLaw : ByteArray := prog_12_method_29_code
def yX10_isLaw : MethodName := ⟨RX10, "isLaw", "(I)Z"⟩
abbrev cX10_set : ByteArray := prog_12_method_30_code
def yX10_set : MethodName := ⟨RX10, "set", "(II)I"⟩
abbrev cX10_law : ByteArray := prog_12_method_31_code
def yX10_law : MethodName := ⟨RX10, "law", "(I)I"⟩
abbrev cX10_orNobody : ByteArray := prog_12_method_32_code
def yX10_orNobody : MethodName := ⟨RX10, "orNobody", "(I)I"⟩
abbrev cX10_post : ByteArray := prog_12_method_33_code
def yX10_post : MethodName := ⟨RX10, "post", "(III)I"⟩
abbrev cX10_postOf : ByteArray := prog_12_method_34_code
def yX10_postOf : MethodName := ⟨RX10, "postOf", "(II)I"⟩
abbrev cX10_surprise : ByteArray := prog_12_method_35_code
def yX10_surprise : MethodName := ⟨RX10, "surprise", "(IZ)I"⟩
abbrev cX10_loss : ByteArray := prog_12_method_36_code
def yX10_loss : MethodName := ⟨RX10, "loss", "(II)I"⟩
abbrev cX10_twoOn : ByteArray := prog_12_method_37_code
def yX10_twoOn : MethodName := ⟨RX10, "twoOn", "(I)I"⟩
abbrev cX10_pair : ByteArray := prog_12_method_38_code
def yX10_pair : MethodName := ⟨RX10, "pair", "(II)I"⟩
abbrev cX10_trustOf : ByteArray := prog_12_method_39_code
def yX10_trustOf : MethodName := ⟨RX10, "trustOf", "(III)I"⟩
abbrev cX10_trustOn : ByteArray := prog_12_method_40_code
def yX10_trustOn : MethodName := ⟨RX10, "trustOn", "(III)I"⟩
abbrev cX10_isNeither : ByteArray := prog_12_method_41_code
def yX10_isNeither : MethodName := ⟨RX10, "isNeither", "(III)Z"⟩
abbrev cX10_seenBy : ByteArray := prog_12_method_42_code
def yX10_seenBy : MethodName := ⟨RX10, "seenBy", "(IZ)I"⟩
abbrev cX10_isSurprise : ByteArray := prog_12_method_43_code
def yX10_isSurprise : MethodName := ⟨RX10, "isSurprise", "(I)Z"⟩
abbrev cX10_seen : ByteArray := prog_12_method_44_code
def yX10_seen : MethodName := ⟨RX10, "seen", "(I)I"⟩
abbrev cX10_worthBy : ByteArray := prog_12_method_45_code
def yX10_worthBy : MethodName := ⟨RX10, "worthBy", "(IZ)I"⟩
abbrev cX10_worth : ByteArray := prog_12_method_46_code
def yX10_worth : MethodName := ⟨RX10, "worth", "(I)I"⟩
abbrev cX10_paysBy : ByteArray := prog_12_method_47_code
def yX10_paysBy : MethodName := ⟨RX10, "paysBy", "(IZI)Z"⟩
abbrev cX10_pays : ByteArray := prog_12_method_48_code
def yX10_pays : MethodName := ⟨RX10, "pays", "()I"⟩
abbrev cX10_lowest : ByteArray := prog_12_method_49_code
def yX10_lowest : MethodName := ⟨RX10, "lowest", "(JJ)V"⟩
abbrev cX10_best : ByteArray := prog_12_method_50_code
def yX10_best : MethodName := ⟨RX10, "best", "(III)J"⟩
abbrev cX10_enough : ByteArray := prog_12_method_51_code
def yX10_enough : MethodName := ⟨RX10, "enough", "()I"⟩
abbrev cX10_needed : ByteArray := prog_12_method_52_code
def yX10_needed : MethodName := ⟨RX10, "needed", "()I"⟩
abbrev cX10_brokenOn : ByteArray := prog_12_method_53_code
def yX10_brokenOn : MethodName := ⟨RX10, "brokenOn", "(I)I"⟩
abbrev cX10_broken : ByteArray := prog_12_method_54_code
def yX10_broken : MethodName := ⟨RX10, "broken", "(I)I"⟩
abbrev cX10_keepsPosts : ByteArray := prog_12_method_55_code
def yX10_keepsPosts : MethodName := ⟨RX10, "keepsPosts", "(II)V"⟩
abbrev cX10_givesPosts : ByteArray := prog_12_method_56_code
def yX10_givesPosts : MethodName := ⟨RX10, "givesPosts", "(II)V"⟩
abbrev cX10_comes : ByteArray := prog_12_method_57_code
def yX10_comes : MethodName := ⟨RX10, "comes", "(II)Z"⟩
abbrev cX10_mended : ByteArray := prog_12_method_58_code
def yX10_mended : MethodName := ⟨RX10, "mended", "(II)I"⟩
abbrev cX10_sits : ByteArray := prog_12_method_59_code
def yX10_sits : MethodName := ⟨RX10, "sits", "(II)Z"⟩
abbrev cX10_ahead : ByteArray := prog_12_method_60_code
def yX10_ahead : MethodName := ⟨RX10, "ahead", "(II)I"⟩
abbrev cX10_satOn : ByteArray := prog_12_method_61_code
def yX10_satOn : MethodName := ⟨RX10, "satOn", "(II)I"⟩
abbrev cX10_sat : ByteArray := prog_12_method_62_code
def yX10_sat : MethodName := ⟨RX10, "sat", "(II)I"⟩
abbrev cX10_ones : ByteArray := prog_12_method_63_code
def yX10_ones : MethodName := ⟨RX10, "ones", "(I)I"⟩
abbrev cX10_sitting : ByteArray := prog_12_method_64_code
def yX10_sitting : MethodName := ⟨RX10, "sitting", "()I"⟩
abbrev cX10_lot : ByteArray := prog_12_method_65_code
def yX10_lot : MethodName := ⟨RX10, "lot", "(III)J"⟩
abbrev cX10_suspects : ByteArray := prog_12_method_66_code
def yX10_suspects : MethodName := ⟨RX10, "suspects", "(I)I"⟩
abbrev cX10_isPlan : ByteArray := prog_12_method_67_code
def yX10_isPlan : MethodName := ⟨RX10, "isPlan", "(I)Z"⟩
abbrev cX10_plan : ByteArray := prog_12_method_68_code
def yX10_plan : MethodName := ⟨RX10, "plan", "(II)I"⟩
abbrev cX10_planOf : ByteArray := prog_12_method_69_code
def yX10_planOf : MethodName := ⟨RX10, "planOf", "(II)I"⟩
abbrev cX10_leastOf : ByteArray := prog_12_method_70_code
def yX10_leastOf : MethodName := ⟨RX10, "leastOf", "(I)I"⟩
abbrev cX10_lastSat : ByteArray := prog_12_method_71_code
def yX10_lastSat : MethodName := ⟨RX10, "lastSat", "(III)I"⟩
abbrev cX10_fillsTurn : ByteArray := prog_12_method_72_code
def yX10_fillsTurn : MethodName := ⟨RX10, "fillsTurn", "(II)V"⟩
abbrev cX10_fillsDraw : ByteArray := prog_12_method_73_code
def yX10_fillsDraw : MethodName := ⟨RX10, "fillsDraw", "(I)V"⟩
abbrev cX10_fillsCount : ByteArray := prog_12_method_74_code
def yX10_fillsCount : MethodName := ⟨RX10, "fillsCount", "(I)V"⟩
abbrev cX10_fillsTold : ByteArray := prog_12_method_75_code
def yX10_fillsTold : MethodName := ⟨RX10, "fillsTold", "(I)Z"⟩
abbrev cX10_fill : ByteArray := prog_12_method_76_code
def yX10_fill : MethodName := ⟨RX10, "fill", "(II)I"⟩
abbrev cX10_seed : ByteArray := prog_12_method_77_code
def yX10_seed : MethodName := ⟨RX10, "seed", "(I)I"⟩
abbrev cX10_findRows : ByteArray := prog_12_method_78_code
def yX10_findRows : MethodName := ⟨RX10, "findRows", "()V"⟩
abbrev cX10_prove : ByteArray := prog_12_method_79_code
def yX10_prove : MethodName := ⟨RX10, "prove", "()I"⟩
abbrev cX10_isRow : ByteArray := prog_12_method_80_code
def yX10_isRow : MethodName := ⟨RX10, "isRow", "(II)Z"⟩
abbrev cX10_row : ByteArray := prog_12_method_81_code
def yX10_row : MethodName := ⟨RX10, "row", "(II)I"⟩
abbrev cX10_alterRow : ByteArray := prog_12_method_82_code
def yX10_alterRow : MethodName := ⟨RX10, "alterRow", "(III)I"⟩
abbrev cX10_judge : ByteArray := prog_12_method_83_code
def yX10_judge : MethodName := ⟨RX10, "judge", "()I"⟩
abbrev cX10_days : ByteArray := prog_12_method_84_code
def yX10_days : MethodName := ⟨RX10, "days", "(II)I"⟩
abbrev cX10_isShelf : ByteArray := prog_12_method_85_code
def yX10_isShelf : MethodName := ⟨RX10, "isShelf", "(I)Z"⟩
abbrev cX10_sheet : ByteArray := prog_12_method_86_code
def yX10_sheet : MethodName := ⟨RX10, "sheet", "(III)I"⟩
abbrev cX10_put : ByteArray := prog_12_method_87_code
def yX10_put : MethodName := ⟨RX10, "put", "(III)I"⟩
abbrev cX10_lacksSort : ByteArray := prog_12_method_88_code
def yX10_lacksSort : MethodName := ⟨RX10, "lacksSort", "(II)I"⟩
abbrev cX10_item : ByteArray := prog_12_method_89_code
def yX10_item : MethodName := ⟨RX10, "item", "(III)I"⟩
abbrev cX10_isHeld : ByteArray := prog_12_method_90_code
def yX10_isHeld : MethodName := ⟨RX10, "isHeld", "(II)Z"⟩
abbrev cX10_shelf : ByteArray := prog_12_method_91_code
def yX10_shelf : MethodName := ⟨RX10, "shelf", "(III)I"⟩
abbrev cX10_kindOn : ByteArray := prog_12_method_92_code
def yX10_kindOn : MethodName := ⟨RX10, "kindOn", "(I)I"⟩
abbrev cX10_isUnder : ByteArray := prog_12_method_93_code
def yX10_isUnder : MethodName := ⟨RX10, "isUnder", "(II)Z"⟩
abbrev cX10_taken : ByteArray := prog_12_method_94_code
def yX10_taken : MethodName := ⟨RX10, "taken", "(II)I"⟩
abbrev cX10_ran : ByteArray := prog_12_method_95_code
def yX10_ran : MethodName := ⟨RX10, "ran", "(I)V"⟩
abbrev cX10_plainSits : ByteArray := prog_12_method_96_code
def yX10_plainSits : MethodName := ⟨RX10, "plainSits", "(I)I"⟩
abbrev cX10_sitsIt : ByteArray := prog_12_method_97_code
def yX10_sitsIt : MethodName := ⟨RX10, "sitsIt", "(I)I"⟩
abbrev cX10_plainCounts : ByteArray := prog_12_method_98_code
def yX10_plainCounts : MethodName := ⟨RX10, "plainCounts", "(I)I"⟩
abbrev cX10_turnCounts : ByteArray := prog_12_method_99_code
def yX10_turnCounts : MethodName := ⟨RX10, "turnCounts", "(I)I"⟩
abbrev cX10_countsIt : ByteArray := prog_12_method_100_code
def yX10_countsIt : MethodName := ⟨RX10, "countsIt", "(I)I"⟩
abbrev cX10_plainShares : ByteArray := prog_12_method_101_code
def yX10_plainShares : MethodName := ⟨RX10, "plainShares", "(I)I"⟩
abbrev cX10_sharesIt : ByteArray := prog_12_method_102_code
def yX10_sharesIt : MethodName := ⟨RX10, "sharesIt", "(I)I"⟩
abbrev cX10_plainTells : ByteArray := prog_12_method_103_code
def yX10_plainTells : MethodName := ⟨RX10, "plainTells", "(I)I"⟩
abbrev cX10_tellsIt : ByteArray := prog_12_method_104_code
def yX10_tellsIt : MethodName := ⟨RX10, "tellsIt", "(I)I"⟩
abbrev cX10_act : ByteArray := prog_12_method_105_code
def yX10_act : MethodName := ⟨RX10, "act", "(III)I"⟩
abbrev cX10_trace : ByteArray := prog_12_method_106_code
def yX10_trace : MethodName := ⟨RX10, "trace", "(I)I"⟩
abbrev cX10_many : ByteArray := prog_12_method_107_code
def yX10_many : MethodName := ⟨RX10, "many", "(I)I"⟩
abbrev cX10_move : ByteArray := prog_12_method_108_code
def yX10_move : MethodName := ⟨RX10, "move", "([IIZ)V"⟩
abbrev cX10_moveAll : ByteArray := prog_12_method_109_code
def yX10_moveAll : MethodName := ⟨RX10, "moveAll", "(Z)V"⟩
abbrev cX10_keep : ByteArray := prog_12_method_110_code
def yX10_keep : MethodName := ⟨RX10, "keep", "()I"⟩
abbrev cX10_again : ByteArray := prog_12_method_111_code
def yX10_again : MethodName := ⟨RX10, "again", "()I"⟩
def RJx145de : String := "java/io/Serializable"
def TJx145de : u_T := fun k => match k with
  | _ => ("", "", "", false)
def tyJx145de : Nat → FieldType := fun k => match k with
  | _ => .int
abbrev wsJx145de0 : List Cond := u_ws RJx145de TJx145de 0
theorem nmJx145de : ∀ a, a < 0 → ∀ b, b < 0 → a ≠ b → (TJx145de a).2.1 ≠ (TJx145de b).2.1 := by decide +kernel
theorem tyJx145de_ok : ∀ k, k < 0 → parseFieldDescriptor (TJx145de k).2.2.1 = some (tyJx145de k) := by decide +kernel
def RJx9f9b0 : String := "java/lang/CharSequence"
def TJx9f9b0 : u_T := fun k => match k with
  | _ => ("", "", "", false)
def tyJx9f9b0 : Nat → FieldType := fun k => match k with
  | _ => .int
abbrev wsJx9f9b00 : List Cond := u_ws RJx9f9b0 TJx9f9b0 0
theorem nmJx9f9b0 : ∀ a, a < 0 → ∀ b, b < 0 → a ≠ b → (TJx9f9b0 a).2.1 ≠ (TJx9f9b0 b).2.1 := by decide +kernel
theorem tyJx9f9b0_ok : ∀ k, k < 0 → parseFieldDescriptor (TJx9f9b0 k).2.2.1 = some (tyJx9f9b0 k) := by decide +kernel
def RJxb160c : String := "java/lang/Comparable"
def TJxb160c : u_T := fun k => match k with
  | _ => ("", "", "", false)
def tyJxb160c : Nat → FieldType := fun k => match k with
  | _ => .int
abbrev wsJxb160c0 : List Cond := u_ws RJxb160c TJxb160c 0
theorem nmJxb160c : ∀ a, a < 0 → ∀ b, b < 0 → a ≠ b → (TJxb160c a).2.1 ≠ (TJxb160c b).2.1 := by decide +kernel
theorem tyJxb160c_ok : ∀ k, k < 0 → parseFieldDescriptor (TJxb160c k).2.2.1 = some (tyJxb160c k) := by decide +kernel
def RJ6 : String := "java/lang/Integer"
def TJ6 : u_T := fun k => match k with
  | _ => ("", "", "", false)
def tyJ6 : Nat → FieldType := fun k => match k with
  | _ => .int
abbrev wsJ60 : List Cond := u_ws RJ6 TJ6 0
theorem nmJ6 : ∀ a, a < 0 → ∀ b, b < 0 → a ≠ b → (TJ6 a).2.1 ≠ (TJ6 b).2.1 := by decide +kernel
theorem tyJ6_ok : ∀ k, k < 0 → parseFieldDescriptor (TJ6 k).2.2.1 = some (tyJ6 k) := by decide +kernel
abbrev cJ6_bitCount_0f7a4 : ByteArray := prog_13_method_49_code
def yJ6_bitCount_0f7a4 : MethodName := ⟨RJ6, "bitCount", "(I)I"⟩
def RJ9 : String := "java/lang/Math"
def TJ9 : u_T := fun k => match k with
  | _ => ("", "", "", false)
def tyJ9 : Nat → FieldType := fun k => match k with
  | _ => .int
abbrev wsJ90 : List Cond := u_ws RJ9 TJ9 0
theorem nmJ9 : ∀ a, a < 0 → ∀ b, b < 0 → a ≠ b → (TJ9 a).2.1 ≠ (TJ9 b).2.1 := by decide +kernel
theorem tyJ9_ok : ∀ k, k < 0 → parseFieldDescriptor (TJ9 k).2.2.1 = some (tyJ9 k) := by decide +kernel
abbrev cJ9_max_7cf53 : ByteArray := prog_14_method_65_code
def yJ9_max_7cf53 : MethodName := ⟨RJ9, "max", "(II)I"⟩
abbrev cJ9_max_f86c9 : ByteArray := prog_14_method_66_code
def yJ9_max_f86c9 : MethodName := ⟨RJ9, "max", "(JJ)J"⟩
abbrev cJ9_min_7cf53 : ByteArray := prog_14_method_69_code
def yJ9_min_7cf53 : MethodName := ⟨RJ9, "min", "(II)I"⟩
def RJ0 : String := "java/lang/String"
def TJ0 : u_T := fun k => match k with
  | _ => ("", "", "", false)
def tyJ0 : Nat → FieldType := fun k => match k with
  | _ => .int
abbrev wsJ00 : List Cond := u_ws RJ0 TJ0 0
theorem nmJ0 : ∀ a, a < 0 → ∀ b, b < 0 → a ≠ b → (TJ0 a).2.1 ≠ (TJ0 b).2.1 := by decide +kernel
theorem tyJ0_ok : ∀ k, k < 0 → parseFieldDescriptor (TJ0 k).2.2.1 = some (tyJ0 k) := by decide +kernel
abbrev cJ0_length_8abf5 : ByteArray := prog_15_method_54_code
def yJ0_length_8abf5 : MethodName := ⟨RJ0, "length", "()I"⟩
abbrev cJ0_charAt_5068e : ByteArray := prog_15_method_56_code
def yJ0_charAt_5068e : MethodName := ⟨RJ0, "charAt", "(I)C"⟩
abbrev cJ0_coder_7d493 : ByteArray := prog_15_method_152_code
def yJ0_coder_7d493 : MethodName := ⟨RJ0, "coder", "()B"⟩
abbrev cJ0_isLatin1_aae02 : ByteArray := prog_15_method_154_code
def yJ0_isLatin1_aae02 : MethodName := ⟨RJ0, "isLatin1", "()Z"⟩
abbrev cJ0_checkIndex_df160 : ByteArray := prog_15_method_155_code
def yJ0_checkIndex_df160 : MethodName := ⟨RJ0, "checkIndex", "(II)V"⟩
def RJ1 : String := "java/lang/StringLatin1"
def TJ1 : u_T := fun k => match k with
  | _ => ("", "", "", false)
def tyJ1 : Nat → FieldType := fun k => match k with
  | _ => .int
abbrev wsJ10 : List Cond := u_ws RJ1 TJ1 0
theorem nmJ1 : ∀ a, a < 0 → ∀ b, b < 0 → a ≠ b → (TJ1 a).2.1 ≠ (TJ1 b).2.1 := by decide +kernel
theorem tyJ1_ok : ∀ k, k < 0 → parseFieldDescriptor (TJ1 k).2.2.1 = some (tyJ1 k) := by decide +kernel
abbrev cJ1_charAt_3b067 : ByteArray := prog_16_method_2_code
def yJ1_charAt_3b067 : MethodName := ⟨RJ1, "charAt", "([BI)C"⟩
def RJ2 : String := "java/lang/StringUTF16"
def TJ2 : u_T := fun k => match k with
  | _ => ("", "", "", false)
def tyJ2 : Nat → FieldType := fun k => match k with
  | _ => .int
abbrev wsJ20 : List Cond := u_ws RJ2 TJ2 0
theorem nmJ2 : ∀ a, a < 0 → ∀ b, b < 0 → a ≠ b → (TJ2 a).2.1 ≠ (TJ2 b).2.1 := by decide +kernel
theorem tyJ2_ok : ∀ k, k < 0 → parseFieldDescriptor (TJ2 k).2.2.1 = some (tyJ2 k) := by decide +kernel
abbrev cJ2_getChar_3b067 : ByteArray := prog_17_method_5_code
def yJ2_getChar_3b067 : MethodName := ⟨RJ2, "getChar", "([BI)C"⟩
abbrev cJ2_length_9d52b : ByteArray := prog_17_method_6_code
def yJ2_length_9d52b : MethodName := ⟨RJ2, "length", "([B)I"⟩
abbrev cJ2_charAt_3b067 : ByteArray := prog_17_method_83_code
def yJ2_charAt_3b067 : MethodName := ⟨RJ2, "charAt", "([BI)C"⟩
abbrev cJ2_checkIndex_2214a : ByteArray := prog_17_method_91_code
def yJ2_checkIndex_2214a : MethodName := ⟨RJ2, "checkIndex", "(I[B)V"⟩
def RJ10 : String := "java/lang/System"
def TJ10 : u_T := fun k => match k with
  | _ => ("", "", "", false)
def tyJ10 : Nat → FieldType := fun k => match k with
  | _ => .int
abbrev wsJ100 : List Cond := u_ws RJ10 TJ10 0
theorem nmJ10 : ∀ a, a < 0 → ∀ b, b < 0 → a ≠ b → (TJ10 a).2.1 ≠ (TJ10 b).2.1 := by decide +kernel
theorem tyJ10_ok : ∀ k, k < 0 → parseFieldDescriptor (TJ10 k).2.2.1 = some (tyJ10 k) := by decide +kernel
def RJxfd54e : String := "java/lang/constant/Constable"
def TJxfd54e : u_T := fun k => match k with
  | _ => ("", "", "", false)
def tyJxfd54e : Nat → FieldType := fun k => match k with
  | _ => .int
abbrev wsJxfd54e0 : List Cond := u_ws RJxfd54e TJxfd54e 0
theorem nmJxfd54e : ∀ a, a < 0 → ∀ b, b < 0 → a ≠ b → (TJxfd54e a).2.1 ≠ (TJxfd54e b).2.1 := by decide +kernel
theorem tyJxfd54e_ok : ∀ k, k < 0 → parseFieldDescriptor (TJxfd54e k).2.2.1 = some (tyJxfd54e k) := by decide +kernel
def RJx3cf43 : String := "java/lang/constant/ConstantDesc"
def TJx3cf43 : u_T := fun k => match k with
  | _ => ("", "", "", false)
def tyJx3cf43 : Nat → FieldType := fun k => match k with
  | _ => .int
abbrev wsJx3cf430 : List Cond := u_ws RJx3cf43 TJx3cf43 0
theorem nmJx3cf43 : ∀ a, a < 0 → ∀ b, b < 0 → a ≠ b → (TJx3cf43 a).2.1 ≠ (TJx3cf43 b).2.1 := by decide +kernel
theorem tyJx3cf43_ok : ∀ k, k < 0 → parseFieldDescriptor (TJx3cf43 k).2.2.1 = some (tyJx3cf43 k) := by decide +kernel
def RJ7 : String := "java/util/Arrays"
def TJ7 : u_T := fun k => match k with
  | _ => ("", "", "", false)
def tyJ7 : Nat → FieldType := fun k => match k with
  | _ => .int
abbrev wsJ70 : List Cond := u_ws RJ7 TJ7 0
theorem nmJ7 : ∀ a, a < 0 → ∀ b, b < 0 → a ≠ b → (TJ7 a).2.1 ≠ (TJ7 b).2.1 := by decide +kernel
theorem tyJ7_ok : ∀ k, k < 0 → parseFieldDescriptor (TJ7 k).2.2.1 = some (tyJ7 k) := by decide +kernel
abbrev cJ7_fill_53178 : ByteArray := prog_19_method_103_code
def yJ7_fill_53178 : MethodName := ⟨RJ7, "fill", "([II)V"⟩
def RJ3 : String := "jdk/internal/util/Preconditions"
def TJ3 : u_T := fun k => match k with
  | _ => ("", "", "", false)
def tyJ3 : Nat → FieldType := fun k => match k with
  | _ => .int
abbrev wsJ30 : List Cond := u_ws RJ3 TJ3 0
theorem nmJ3 : ∀ a, a < 0 → ∀ b, b < 0 → a ≠ b → (TJ3 a).2.1 ≠ (TJ3 b).2.1 := by decide +kernel
theorem tyJ3_ok : ∀ k, k < 0 → parseFieldDescriptor (TJ3 k).2.2.1 = some (tyJ3 k) := by decide +kernel
abbrev cJ3_checkIndex_8e157 : ByteArray := prog_20_method_11_code
def yJ3_checkIndex_8e157 : MethodName := ⟨RJ3, "checkIndex", "(IILjava/util/function/BiFunction;)I"⟩
def RL : String := "TillPairsLaw"
abbrev cL_law : ByteArray := code
def yL_law : MethodName := ⟨RL, "law", "([I)Z"⟩
end
section
/-! the world of both systems as one memory: cell k of 86 at address ad k; ints by gI z k i, longs by gJ z k i -/
def isNest : Cond → Bool
  | .fieldLinkNest .. => true
  | _ => false
def TBL : List Cond := lw_tbl.filter goodWord
def TNW : List Cond := tables_1.filter isNest
theorem tb_of {w : Cond} (i : Nat) (h : lw_tbl[i]? = some w) (g : goodWord w = true) : w ∈ TBL := List.mem_filter.mpr ⟨List.mem_of_getElem? h, g⟩
theorem nw_of {w : Cond} (i : Nat) (h : tables_1[i]? = some w) (g : isNest w = true) : w ∈ TNW := List.mem_filter.mpr ⟨List.mem_of_getElem? h, g⟩
theorem tb_good {ws : List Cond} (h : ∀ w ∈ ws, w ∈ TBL) : GoodIn TBL ws := fun w hw => ⟨h w hw, good_of_word (List.mem_filter.mp (h w hw)).2⟩
theorem tb_cons {c : Cond} (h : c ∈ TBL) : ∀ w ∈ c :: TBL, w ∈ TBL := fun w hw => (List.mem_cons.mp hw).elim (fun e => e ▸ h) id
abbrev MS : Type := (Nat → Nat → Int32) × (Nat → Nat → Int64)
def gI (z : MS) (k : Nat) : Nat → Int32 := z.1 k
def gJ (z : MS) (k : Nat) : Nat → Int64 := z.2 k
def wI (z : MS) (k : Nat) (F : Nat → Int32) : MS := (fun a => if a = k then F else z.1 a, z.2)
def wJ (z : MS) (k : Nat) (F : Nat → Int64) : MS := (z.1, fun a => if a = k then F else z.2 a)
def pI (z : MS) (k i : Nat) (v : Int32) : MS := wI z k (upd (gI z k) i v)
def pJ (z : MS) (k i : Nat) (v : Int64) : MS := wJ z k (vp_updL (gJ z k) i v)
def clss : List vw_C := [(RX0, TX0, 6), (RX1, TX1, 6), (RX2, TX2, 8), (RX3, TX3, 1), (RX4, TX4, 4), (RX5, TX5, 5), (RX6, TX6, 4), (RX7, TX7, 5), (RX8, TX8, 7), (RX9, TX9, 12), (RX10, TX10, 51)]
def tys (cs : Nat → ClassId) : List (ClassId × FieldType) := [(cs 0, .int), (cs 1, .long), (cs 2, .array .int)]
def wld (cs : Nat → ClassId) (ad : Nat → Nat) (z : MS) : va_W := [(ad 0, .inr (9, [.ref (ad 1), .ref (ad 8), .ref (ad 17), .ref (ad 18), .ref (ad 19), .ref (ad 26), .ref (ad 30), .ref (ad 32), .ref (ad 34), .ref (ad 45), .ref (ad 52), .int (gI z 0 11)])), (ad 1, .inr (2, [.int (gI z 1 0), .int (gI z 1 1), .ref (ad 2), .ref (ad 3), .ref (ad 4), .ref (ad 5), .ref (ad 6), .ref (ad 7)])), (ad 2, .inl (cs 0, 8, .inl (gI z 2))), (ad 3, .inl (cs 0, 8, .inl (gI z 3))), (ad 4, .inl (cs 0, 64, .inl (gI z 4))), (ad 5, .inl (cs 0, 8, .inl (gI z 5))), (ad 6, .inl (cs 0, 40, .inl (gI z 6))), (ad 7, .inl (cs 0, 10, .inl (gI z 7))), (ad 8, .inr (7, [.ref (ad 9), .ref (ad 10), .int (gI z 8 2), .int (gI z 8 3), .int (gI z 8 4)])), (ad 9, .inl (cs 0, 200, .inl (gI z 9))), (ad 10, .inr (2, [.int (gI z 10 0), .int (gI z 10 1), .ref (ad 11), .ref (ad 12), .ref (ad 13), .ref (ad 14), .ref (ad 15), .ref (ad 16)])), (ad 11, .inl (cs 0, 8, .inl (gI z 11))), (ad 12, .inl (cs 0, 8, .inl (gI z 12))), (ad 13, .inl (cs 0, 64, .inl (gI z 13))), (ad 14, .inl (cs 0, 8, .inl (gI z 14))), (ad 15, .inl (cs 0, 40, .inl (gI z 15))), (ad 16, .inl (cs 0, 10, .inl (gI z 16))), (ad 17, .inr (3, [.ref (ad 1)])), (ad 18, .inr (4, [.ref (ad 1), .ref (ad 17), .long (gJ z 18 2), .long (gJ z 18 3)])), (ad 19, .inr (8, [.ref (ad 1), .ref (ad 17), .ref (ad 20), .ref (ad 21), .ref (ad 25), .int (gI z 19 5), .int (gI z 19 6)])), (ad 20, .inl (cs 0, 64, .inl (gI z 20))), (ad 21, .inl (cs 2, 3, .inr (.inr (.inr (.inr (fun i => if i < 3 then some (ad (22 + i)) else none)))))), (ad 22, .inl (cs 0, 64, .inl (gI z 22))), (ad 23, .inl (cs 0, 64, .inl (gI z 23))), (ad 24, .inl (cs 0, 64, .inl (gI z 24))), (ad 25, .inl (cs 0, 3, .inl (gI z 25))), (ad 26, .inr (5, [.ref (ad 27), .ref (ad 28), .ref (ad 29), .int (gI z 26 3), .int (gI z 26 4)])), (ad 27, .inl (cs 0, 4, .inl (gI z 27))), (ad 28, .inl (cs 0, 4, .inl (gI z 28))), (ad 29, .inl (cs 0, 4, .inl (gI z 29))), (ad 30, .inr (6, [.ref (ad 1), .ref (ad 17), .ref (ad 31), .int (gI z 30 3)])), (ad 31, .inl (cs 0, 30, .inl (gI z 31))), (ad 32, .inr (0, [.ref (ad 33), .int (gI z 32 1), .int (gI z 32 2), .int (gI z 32 3), .int (gI z 32 4), .int (gI z 32 5)])), (ad 33, .inl (cs 0, 30, .inl (gI z 33))), (ad 34, .inr (1, [.ref (ad 35), .ref (ad 36), .ref (ad 37), .ref (ad 42), .ref (ad 43), .ref (ad 44)])), (ad 35, .inl (cs 0, 4, .inl (gI z 35))), (ad 36, .inl (cs 0, 4, .inl (gI z 36))), (ad 37, .inl (cs 2, 4, .inr (.inr (.inr (.inr (fun i => if i < 4 then some (ad (38 + i)) else none)))))), (ad 38, .inl (cs 0, 40, .inl (gI z 38))), (ad 39, .inl (cs 0, 40, .inl (gI z 39))), (ad 40, .inl (cs 0, 40, .inl (gI z 40))), (ad 41, .inl (cs 0, 40, .inl (gI z 41))), (ad 42, .inl (cs 0, 4, .inl (gI z 42))), (ad 43, .inl (cs 0, 4, .inl (gI z 43))), (ad 44, .inl (cs 0, 4, .inl (gI z 44))), (ad 45, .inr (2, [.int (gI z 45 0), .int (gI z 45 1), .ref (ad 46), .ref (ad 47), .ref (ad 48), .ref (ad 49), .ref (ad 50), .ref (ad 51)])), (ad 46, .inl (cs 0, 8, .inl (gI z 46))), (ad 47, .inl (cs 0, 8, .inl (gI z 47))), (ad 48, .inl (cs 0, 64, .inl (gI z 48))), (ad 49, .inl (cs 0, 8, .inl (gI z 49))), (ad 50, .inl (cs 0, 40, .inl (gI z 50))), (ad 51, .inl (cs 0, 10, .inl (gI z 51))), (ad 52, .inr (5, [.ref (ad 53), .ref (ad 54), .ref (ad 55), .int (gI z 52 3), .int (gI z 52 4)])), (ad 53, .inl (cs 0, 4, .inl (gI z 53))), (ad 54, .inl (cs 0, 4, .inl (gI z 54))), (ad 55, .inl (cs 0, 4, .inl (gI z 55))), (ad 56, .inr (10, [.int (gI z 56 0), .ref (ad 57), .ref (ad 58), .ref (ad 59), .ref (ad 60), .int (gI z 56 5), .ref (ad 61), .ref (ad 62), .ref (ad 63), .int (gI z 56 9), .ref (ad 64), .int (gI z 56 11), .ref (ad 65), .int (gI z 56 13), .int (gI z 56 14), .int (gI z 56 15), .int (gI z 56 16), .long (gJ z 56 17), .int (gI z 56 18), .int (gI z 56 19), .int (gI z 56 20), .ref (ad 66), .ref (ad 67), .ref (ad 68), .ref (ad 69), .long (gJ z 56 25), .long (gJ z 56 26), .ref (ad 70), .ref (ad 71), .ref (ad 72), .ref (ad 73), .ref (ad 74), .ref (ad 75), .ref (ad 76), .int (gI z 56 34), .ref (ad 77), .ref (ad 78), .ref (ad 79), .ref (ad 80), .ref (ad 81), .ref (ad 82), .int (gI z 56 41), .int (gI z 56 42), .int (gI z 56 43), .ref (ad 83), .int (gI z 56 45), .int (gI z 56 46), .int (gI z 56 47), .ref (ad 84), .int (gI z 56 49), .ref (ad 85)])), (ad 57, .inl (cs 0, 8, .inl (gI z 57))), (ad 58, .inl (cs 0, 8, .inl (gI z 58))), (ad 59, .inl (cs 0, 64, .inl (gI z 59))), (ad 60, .inl (cs 0, 40, .inl (gI z 60))), (ad 61, .inl (cs 0, 10, .inl (gI z 61))), (ad 62, .inl (cs 0, 8, .inl (gI z 62))), (ad 63, .inl (cs 0, 8, .inl (gI z 63))), (ad 64, .inl (cs 0, 8, .inl (gI z 64))), (ad 65, .inl (cs 0, 200, .inl (gI z 65))), (ad 66, .inl (cs 0, 8, .inl (gI z 66))), (ad 67, .inl (cs 0, 8, .inl (gI z 67))), (ad 68, .inl (cs 0, 64, .inl (gI z 68))), (ad 69, .inl (cs 0, 8, .inl (gI z 69))), (ad 70, .inl (cs 0, 12, .inl (gI z 70))), (ad 71, .inl (cs 0, 4, .inl (gI z 71))), (ad 72, .inl (cs 0, 3, .inl (gI z 72))), (ad 73, .inl (cs 1, 11, .inr (.inl (gJ z 73)))), (ad 74, .inl (cs 0, 4, .inl (gI z 74))), (ad 75, .inl (cs 0, 30, .inl (gI z 75))), (ad 76, .inl (cs 0, 30, .inl (gI z 76))), (ad 77, .inl (cs 0, 4, .inl (gI z 77))), (ad 78, .inl (cs 0, 4, .inl (gI z 78))), (ad 79, .inl (cs 1, 160, .inr (.inl (gJ z 79)))), (ad 80, .inl (cs 0, 4, .inl (gI z 80))), (ad 81, .inl (cs 0, 4, .inl (gI z 81))), (ad 82, .inl (cs 0, 4, .inl (gI z 82))), (ad 83, .inl (cs 0, 30, .inl (gI z 83))), (ad 84, .inl (cs 0, 200, .inl (gI z 84))), (ad 85, .inl (cs 0, 4, .inl (gI z 85)))]
theorem wld_ads (cs : Nat → ClassId) (ad : Nat → Nat) (z : MS) : (wld cs ad z).map (fun q => q.1) = (List.range 86).map ad := rfl
theorem wld_ad {cs : Nat → ClassId} {ad : Nat → Nat} {z : MS} {k : Nat} {q : Nat × va_E} (h : (wld cs ad z)[k]? = some q) : k < 86 ∧ q.1 = ad k := by
  have h1 : ((wld cs ad z).map (fun q => q.1))[k]? = some q.1 := by rw [List.getElem?_map, h]; rfl
  rw [wld_ads, List.getElem?_map] at h1
  by_cases hk : k < 86
  · rw [List.getElem?_range hk] at h1
    exact ⟨hk, (Option.some.inj h1).symm⟩
  · rw [List.getElem?_eq_none (by rw [List.length_range]; omega)] at h1
    cases h1
theorem wld_len (cs : Nat → ClassId) (ad : Nat → Nat) (z : MS) : (wld cs ad z).length = 86 := rfl
theorem wld_in {cs : Nat → ClassId} {ad : Nat → Nat} {z : MS} {k : Nat} (hk : k < 86) : ∃ e, (wld cs ad z)[k]? = some (ad k, e) := by
  have hl : k < (wld cs ad z).length := hk
  have h := List.getElem?_eq_getElem hl
  obtain ⟨-, e⟩ := wld_ad h
  exact ⟨((wld cs ad z)[k]).2, by rw [h]; exact congrArg some (Prod.ext e rfl)⟩
def INJ (ad : Nat → Nat) : Prop := ∀ i j : Nat, i < 86 → j < 86 → ad i = ad j → i = j
def WA (ad : Nat → Nat) (sz : Nat) : Nat → Prop := fun q => (∃ k : Nat, k < 86 ∧ q = ad k) ∨ sz ≤ q
theorem wld_D {cs : Nat → ClassId} {ad : Nat → Nat} {z : MS} {A : Nat → Prop} (hi : INJ ad) (hA : ∀ k : Nat, k < 86 → A (ad k)) : va_D A (wld cs ad z) := by
  refine ⟨fun i j p q h1 h2 h => ?_, fun k q h => ?_⟩
  · obtain ⟨a1, a2⟩ := wld_ad h1
    obtain ⟨b1, b2⟩ := wld_ad h2
    exact hi i j a1 b1 (by rw [← a2, ← b2]; exact h)
  · obtain ⟨a1, a2⟩ := wld_ad h
    rw [a2]
    exact hA k a1
theorem va_A_WA {cs : Nat → ClassId} {ad : Nat → Nat} {z : MS} {sz q : Nat} (h : va_A (wld cs ad z) sz q) : WA ad sz q := by
  rcases h with ⟨k, e, h⟩ | h
  · obtain ⟨a1, a2⟩ := wld_ad h
    exact Or.inl ⟨k, a1, a2⟩
  · exact Or.inr h
def cST0 : List Int32 := [5, 30, 2, 4, 1, 1, 0, 2]
def cST1 : List Int32 := [20, 99, 12, 12, 12, 3, 99, 9]
def cST2 : List Int32 := [-1, 0, 0, 2, 1, 0]
def cST3 : List Int32 := [10, 11, 12, 13, 0, 20, 0, 0, 30, 0, 0, 31, 40, 41, 0, 0, 51, 0, 50, 0, 0, 0, 61, 60]
def stI : List Nat := [86, 88, 90, 92, 94, 96, 98, 100, 102, 104, 106, 108, 124, 133]
def stT : List String := ["person", "kin", "trust", "away", "take", "pain", "eye", "counter", "reader", "fade", "tell", "gap", "on", "and"]
def stL : List Nat := [6, 3, 5, 4, 4, 4, 3, 7, 6, 4, 4, 3, 2, 3]
def stB : List (List Int32) := [[112, 101, 114, 115, 111, 110], [107, 105, 110], [116, 114, 117, 115, 116], [97, 119, 97, 121], [116, 97, 107, 101], [112, 97, 105, 110], [101, 121, 101], [99, 111, 117, 110, 116, 101, 114], [114, 101, 97, 100, 101, 114], [102, 97, 100, 101], [116, 101, 108, 108], [103, 97, 112], [111, 110], [97, 110, 100]]
/-- what stands beside the world and never changes: constant arrays, constant texts -/
def STAT (sd : Nat → Nat) (A : Nat → Prop) (U : State) (H : Heap) : Prop :=
  (va_Z "TillPairs$House" "LAWS_AT_FIRST" "[I" (.ref (sd 0)) A U H ∧ va_T .int (sd 0) 8 (fun j => .int (cST0.getD j 0)) A U H) ∧
  (va_Z "TillPairs$House" "MOST_OF_LAW" "[I" (.ref (sd 1)) A U H ∧ va_T .int (sd 1) 8 (fun j => .int (cST1.getD j 0)) A U H) ∧
  (va_Z "TillPairs$Acts" "KIND_ABOVE" "[I" (.ref (sd 2)) A U H ∧ va_T .int (sd 2) 6 (fun j => .int (cST2.getD j 0)) A U H) ∧
  (va_Z "TillPairs$Acts" "BODIES" "[I" (.ref (sd 3)) A U H ∧ va_T .int (sd 3) 24 (fun j => .int (cST3.getD j 0)) A U H) ∧
  va_Z "java/lang/String" "COMPACT_STRINGS" "Z" (.int 1) A U H ∧ va_Zq "jdk/internal/util/Preconditions" "SIOOBE_FORMATTER" "Ljava/util/function/BiFunction;" A U H ∧
  (∀ i : Nat, i < 14 → vk_R "TillPairs$Tape" (stI.getD i 0) (stT.getD i "") (sd (4 + i)) U) ∧ vk_S 14 stL stB (fun i => sd (4 + i)) (fun i => sd (18 + i)) A U H
theorem STAT.kept {sd : Nat → Nat} {A : Nat → Prop} {U : State} {H H1 : Heap} (h : STAT sd A U H) (hq : ∀ a : Nat, a < H.size → ¬ A a → H1[a]? = H[a]?) : STAT sd A U H1 := by
  obtain ⟨⟨a1, b1⟩, ⟨a2, b2⟩, ⟨a3, b3⟩, ⟨a4, b4⟩, c1, c2, c3, c4⟩ := h
  exact ⟨⟨a1.kept hq, b1.kept hq⟩, ⟨a2.kept hq, b2.kept hq⟩, ⟨a3.kept hq, b3.kept hq⟩, ⟨a4.kept hq, b4.kept hq⟩, c1.kept hq, c2.kept hq, c3, c4.kept hq⟩
theorem STAT.narrow {sd : Nat → Nat} {A B : Nat → Prop} {U : State} {H : Heap} (h : STAT sd A U H) (hq : ∀ q, B q → A q) : STAT sd B U H := by
  obtain ⟨⟨a1, b1⟩, ⟨a2, b2⟩, ⟨a3, b3⟩, ⟨a4, b4⟩, c1, c2, c3, c4⟩ := h
  exact ⟨⟨a1.narrow hq, b1.narrow hq⟩, ⟨a2.narrow hq, b2.narrow hq⟩, ⟨a3.narrow hq, b3.narrow hq⟩, ⟨a4.narrow hq, b4.narrow hq⟩, c1.narrow hq, c2.narrow hq, c3, c4.narrow hq⟩
theorem STAT.warm {sd : Nat → Nat} {A : Nat → Prop} {s U : State} {H : Heap} (hW : s.WarmedH U.vm) (h : STAT sd A s H) : STAT sd A U H := by
  obtain ⟨⟨a1, b1⟩, ⟨a2, b2⟩, ⟨a3, b3⟩, ⟨a4, b4⟩, c1, c2, c3, c4⟩ := h
  have ha := hW.alike
  exact ⟨⟨a1.moved ha, b1.moved ha⟩, ⟨a2.moved ha, b2.moved ha⟩, ⟨a3.moved ha, b3.moved ha⟩, ⟨a4.moved ha, b4.moved ha⟩, c1.moved ha, c2.moved ha, fun i hi => vk_R.warm hW (c3 i hi), c4.moved ha⟩
theorem STAT.same {sd : Nat → Nat} {A : Nat → Prop} {u U : State} {H : Heap} (hv : U.vm = u.vm) (h : STAT sd A u H) : STAT sd A U H := by
  obtain ⟨⟨a1, b1⟩, ⟨a2, b2⟩, ⟨a3, b3⟩, ⟨a4, b4⟩, c1, c2, c3, c4⟩ := h
  have ha : u.vm.Alike U.vm := by rw [hv]; exact Vm.Alike.refl _
  exact ⟨⟨a1.moved ha, b1.moved ha⟩, ⟨a2.moved ha, b2.moved ha⟩, ⟨a3.moved ha, b3.moved ha⟩, ⟨a4.moved ha, b4.moved ha⟩, c1.moved ha, c2.moved ha, fun i hi => vk_R.same hv (c3 i hi), c4.moved ha⟩
theorem nw_warm {s U : State} (hW : s.WarmedH U.vm) (h : ∀ w ∈ TNW, va_Nw w s) : ∀ w ∈ TNW, va_Nw w U := by
  intro w hw
  have h1 := h w hw
  have h2 := (List.mem_filter.mp hw).2
  cases w <;> first | (cases h2; done) | exact va_Nw.warmF hW h1
theorem nw_same {s U : State} (hv : s.vm = U.vm) (h : ∀ w ∈ TNW, va_Nw w s) : ∀ w ∈ TNW, va_Nw w U := by
  intro w hw
  have h1 := h w hw
  have h2 := (List.mem_filter.mp hw).2
  cases w <;> first | (cases h2; done) | exact va_Nw.same rfl hv h1
/-- what a method finds at its start -/
def UB (D : va_G) (ad : Nat → Nat) (cs : Nat → ClassId) (sd : Nat → Nat) (sz : Nat) (z : MS) (U : State) : Prop :=
  U.heap.size = sz ∧ va_P D clss (wld cs ad z) U.heap ∧ va_K D clss (tys cs) U ∧ (∀ w ∈ TNW, va_Nw w U) ∧ STAT sd (WA ad sz) U U.heap
/-- its end: it returned v0, the memory is z1, nothing else changed -/
def QU (v0 : Option Value) (D : va_G) (ad : Nat → Nat) (cs : Nat → ClassId) (z1 : MS) (A : Nat → Prop) : Array Value → State → Outcome → State → Prop :=
  fun _ st oc t => oc = .returned v0 ∧ va_P D clss (wld cs ad z1) t.heap ∧ va_F A st t
/-- a method's contract: from memory z, with these arguments, it returns v0 and leaves z1 -/
def CT (l : Launch) (y : MethodName) (bytes : ByteArray) (maxL : Nat) (ret : Option FieldType) (fr lo : Nat) (avs : (Nat → Nat) → (Nat → Nat) → List Value) (z : MS) (v0 : Option Value) (z1 : MS) : Prop :=
  ∀ (D : va_G) (ad : Nat → Nat) (cs : Nat → ClassId) (sd : Nat → Nat) (sz : Nat), INJ ad →
    Met l y (.code y bytes maxL ret :: TBL) { frames := fr, cells := 0, slots := 0, locals := lo } (va_Pc (avs ad sd) (UB D ad cs sd sz z)) (QU v0 D ad cs z1 (WA ad sz)) 0 0 (WA ad sz)
/-- a method's context -/
def UC (p : Program) (s : State) (m : MethodId) (args : Array Value) (meth : Method) (c : Code) (cc : ByteArray) (nL : Nat) (own : String) (R : Room) (fr lo : Nat) (D : va_G) (ad : Nat → Nat) (cs : Nat → ClassId) (sd : Nat → Nat) (A : Nat → Prop) : Prop :=
  p.tables.exec = Jvm.exec ∧ c.code = cc ∧ c.maxLocals = nL ∧ s.vm.findClass own = some m.cls ∧ (∀ w ∈ TBL, w.before args s = true) ∧ (∀ w ∈ TNW, va_Nw w s) ∧
  va_K D clss (tys cs) s ∧ meth.locks = false ∧ INJ ad ∧ (∀ k : Nat, k < 86 → A (ad k)) ∧ (∀ q : Nat, s.heap.size ≤ q → A q) ∧ STAT sd A s s.heap ∧ fr ≤ R.frames ∧ lo ≤ R.locals ∧ 0 ≤ R.cells ∧ 0 ≤ R.slots
theorem ifn_inv {α : Type} {c : Prop} {d : Decidable c} {a : Option α} {t : α} (h : (if c then none else a) = some t) : ¬ c ∧ a = some t := by
  by_cases hc : c
  · rw [if_pos hc] at h; cases h
  · rw [if_neg hc] at h; exact ⟨hc, h⟩
theorem ob_inv {α β : Type} {o : Option α} {f : α → Option β} {t : β} (h : Option.bind o f = some t) : ∃ a, o = some a ∧ f a = some t := by
  cases o with
  | none => cases h
  | some a => exact ⟨a, rfl, h⟩
def LF : Nat := 1000000
def irm (x y : Int32) : Int32 := x - x / y * y
def lrm (x y : Int64) : Int64 := x - x / y * y
section UROWS
variable {p : Program} {l : Launch} {e : Env} {R : Room} {s : State} {m : MethodId} {args : Array Value} {below : List Frame} {meth : Method} {c : Code} {H : Heap} {locs : List Loc} {cells slots : Nat} {Q : State → Prop}
variable {cc : ByteArray} {nL fr lo pc : Nat} {own : String} {ls : Array Slot} {rest : List Value} {D : va_G} {ad : Nat → Nat} {cs : Nat → ClassId} {sd : Nat → Nat} {A : Nat → Prop} {z z1 : MS}
theorem uc_D (X : UC p s m args meth c cc nL own R fr lo D ad cs sd A) : va_D A (wld cs ad z) := wld_D X.2.2.2.2.2.2.2.2.1 X.2.2.2.2.2.2.2.2.2.1
theorem u_start {l : Launch} {y : MethodName} {bytes : ByteArray} {maxL : Nat} {ret : Option FieldType} {fr lo : Nat} {avs : (Nat → Nat) → (Nat → Nat) → List Value} {z z1 : MS} {v0 : Option Value} (own : String) (hown : y.cls = own) (hy : plainName y.cls = true)
    (hn : ∀ ad sd, (lg_sl (avs ad sd)).length ≤ maxL)
    (body : ∀ (p : Program) (e : Env) (s : State) (m : MethodId) (args : Array Value) (below : List Frame) (meth : Method) (c : Code) (R : Room) (D : va_G) (ad : Nat → Nat) (cs : Nat → ClassId) (sd : Nat → Nat) (A : Nat → Prop) (Q : State → Prop) (ls : Array Slot),
      UC p s m args meth c bytes maxL own R fr lo D ad cs sd A → va_P D clss (wld cs ad z) s.heap → va_S A s.heap s.heap [] → lv_has ls maxL (lv_args 0 (avs ad sd)) → meth.sig.returnType = ret →
      (∀ (H : Heap) (locs : List Loc) (g : JFrame), va_P D clss (wld cs ad z1) H → va_S A s.heap H locs → W p l e R s m args below meth c H locs 0 0 (MQ below (fun _ st oc t => oc = .returned v0 ∧ t.heap = H) args s 0 0 A) g → W p l e R s m args below meth c H locs 0 0 Q g) →
      W p l e R s m args below meth c s.heap [] 0 0 Q (F0 m 0 ls [])) : CT l y bytes maxL ret fr lo avs z v0 z1 := by
  intro D ad cs sd sz hinj
  refine Met.ofW (cc := bytes) (maxL := maxL) (ret := ret) hy rfl ?_
  intro p e s m args below meth c s₁ B hml hv
  obtain ⟨rfl, hsz, hP, hK, hN, hT⟩ := hv
  subst hsz
  have hts := atoms_spec (ws := .code y bytes maxL ret :: TBL) B.pre
  have hown : s.vm.findClass own = some m.cls := by rw [← hown]; exact findClass_of_methodNamed B.named
  have hl := lv_entry (avs ad sd) (n := maxL) (hn ad sd)
  rw [lg_entry_eq]
  generalize (lg_sl (avs ad sd) ++ List.replicate (maxL - (lg_sl (avs ad sd)).length) Slot.unset).toArray = ls at hl ⊢
  refine body p e s m _ below meth c _ D ad cs sd (WA ad s.heap.size) _ ls ⟨B.exec, B.bytes, hml, hown, fun w hw => hts w (List.mem_cons_of_mem _ hw), hN, hK, B.notSynchronized, hinj, fun k hk => Or.inl ⟨k, hk, rfl⟩, fun q hq => Or.inr hq, hT, Nat.le_refl _, Nat.le_refl _, Nat.zero_le _, Nat.zero_le _⟩ hP va_S.rf hl B.returns ?_
  intro H locs g hP1 hS1 hW T hT1 X1
  obtain ⟨t, h1, o, h2, h3, ⟨h4, h5⟩, h6⟩ := hW T hT1 X1
  refine ⟨t, h1, o, h2, h3, ⟨h4, ?_, ?_⟩, h6⟩
  · rw [h5]; exact hP1
  · exact hS1.F h5
abbrev HR (p : Program) (l : Launch) (e : Env) (R : Room) (s : State) (m : MethodId) (args : Array Value) (below : List Frame) (meth : Method) (c : Code) (D : va_G) (ad : Nat → Nat) (cs : Nat → ClassId) (A : Nat → Prop) (Q : State → Prop) (z1 : MS) (v0 : Option Value) : Prop :=
  ∀ (H : Heap) (locs : List Loc) (g : JFrame), va_P D clss (wld cs ad z1) H → va_S A s.heap H locs → W p l e R s m args below meth c H locs 0 0 (MQ below (fun _ st oc t => oc = .returned v0 ∧ t.heap = H) args s 0 0 A) g → W p l e R s m args below meth c H locs 0 0 Q g
theorem u_iret {v : Int32} (X : UC p s m args meth c cc nL own R fr lo D ad cs sd A) (hr : meth.sig.returnType = some .int) (hret : HR p l e R s m args below meth c D ad cs A Q z (some (.int v))) (hP : va_P D clss (wld cs ad z) H) (hS : va_S A s.heap H locs) (d : decode cc pc = .ok (.ireturn, 1)) : W p l e R s m args below meth c H locs 0 0 Q (F0 m pc ls [.int v]) :=
  hret H locs _ hP hS (W.iret X.1 X.2.1 hr (fun t ht _ => ⟨rfl, ht⟩) hS.2.2 d X.2.2.2.2.2.2.2.1)
theorem u_zret {v : Int32} (X : UC p s m args meth c cc nL own R fr lo D ad cs sd A) (hr : meth.sig.returnType = some .boolean) (hret : HR p l e R s m args below meth c D ad cs A Q z (some (.int v))) (hP : va_P D clss (wld cs ad z) H) (hS : va_S A s.heap H locs) (hv : v = 0 ∨ v = 1) (d : decode cc pc = .ok (.ireturn, 1)) : W p l e R s m args below meth c H locs 0 0 Q (F0 m pc ls [.int v]) :=
  hret H locs _ hP hS (W.zret X.1 X.2.1 hr (by rcases hv with h | h <;> subst h <;> rfl) (fun t ht _ => ⟨rfl, ht⟩) hS.2.2 d X.2.2.2.2.2.2.2.1)
theorem u_lret {v : Int64} (X : UC p s m args meth c cc nL own R fr lo D ad cs sd A) (hr : meth.sig.returnType = some .long) (hret : HR p l e R s m args below meth c D ad cs A Q z (some (.long v))) (hP : va_P D clss (wld cs ad z) H) (hS : va_S A s.heap H locs) (d : decode cc pc = .ok (.lreturn, 1)) : W p l e R s m args below meth c H locs 0 0 Q (F0 m pc ls [.long v]) :=
  hret H locs _ hP hS (W.lret X.1 X.2.1 hr (fun t ht _ => ⟨rfl, ht⟩) hS.2.2 d X.2.2.2.2.2.2.2.1)
theorem u_vret (X : UC p s m args meth c cc nL own R fr lo D ad cs sd A) (hr : meth.sig.returnType = none) (hret : HR p l e R s m args below meth c D ad cs A Q z none) (hP : va_P D clss (wld cs ad z) H) (hS : va_S A s.heap H locs) (d : decode cc pc = .ok (.return_, 1)) : W p l e R s m args below meth c H locs 0 0 Q (F0 m pc ls []) :=
  hret H locs _ hP hS (W.vret X.1 X.2.1 hr (fun t ht _ => ⟨rfl, ht⟩) hS.2.2 d X.2.2.2.2.2.2.2.1)
theorem u_aret {v : Nat} {rt : FieldType} (X : UC p s m args meth c cc nL own R fr lo D ad cs sd A) (hr : meth.sig.returnType = some rt) (hrt : (∃ n, rt = .object n) ∨ ∃ t, rt = .array t) (hret : HR p l e R s m args below meth c D ad cs A Q z (some (.ref v))) (hP : va_P D clss (wld cs ad z) H) (hS : va_S A s.heap H locs) (d : decode cc pc = .ok (.areturn, 1)) : W p l e R s m args below meth c H locs 0 0 Q (F0 m pc ls [.ref v]) :=
  hret H locs _ hP hS (W.aret X.1 X.2.1 hr hrt (Or.inr ⟨v, rfl⟩) (fun t ht _ => ⟨rfl, ht⟩) hS.2.2 d X.2.2.2.2.2.2.2.1)
theorem u_iadd {x y : Int32} (X : UC p s m args meth c cc nL own R fr lo D ad cs sd A) (d : decode cc pc = .ok (.iadd, 1)) (k : W p l e R s m args below meth c H locs cells slots Q (F0 m (pc + 1) ls (.int (x + y) :: rest))) : W p l e R s m args below meth c H locs cells slots Q (F0 m pc ls (.int y :: .int x ::  rest)) := lv_iadd X.1 X.2.1 d k
theorem u_isub {x y : Int32} (X : UC p s m args meth c cc nL own R fr lo D ad cs sd A) (d : decode cc pc = .ok (.isub, 1)) (k : W p l e R s m args below meth c H locs cells slots Q (F0 m (pc + 1) ls (.int (x - y) :: rest))) : W p l e R s m args below meth c H locs cells slots Q (F0 m pc ls (.int y :: .int x ::  rest)) := lv_isub X.1 X.2.1 d k
theorem u_imul {x y : Int32} (X : UC p s m args meth c cc nL own R fr lo D ad cs sd A) (d : decode cc pc = .ok (.imul, 1)) (k : W p l e R s m args below meth c H locs cells slots Q (F0 m (pc + 1) ls (.int (x * y) :: rest))) : W p l e R s m args below meth c H locs cells slots Q (F0 m pc ls (.int y :: .int x ::  rest)) := lv_imul X.1 X.2.1 d k
theorem u_iand {x y : Int32} (X : UC p s m args meth c cc nL own R fr lo D ad cs sd A) (d : decode cc pc = .ok (.iand, 1)) (k : W p l e R s m args below meth c H locs cells slots Q (F0 m (pc + 1) ls (.int (x &&& y) :: rest))) : W p l e R s m args below meth c H locs cells slots Q (F0 m pc ls (.int y :: .int x ::  rest)) := lv_iand X.1 X.2.1 d k
theorem u_ior {x y : Int32} (X : UC p s m args meth c cc nL own R fr lo D ad cs sd A) (d : decode cc pc = .ok (.ior, 1)) (k : W p l e R s m args below meth c H locs cells slots Q (F0 m (pc + 1) ls (.int (x ||| y) :: rest))) : W p l e R s m args below meth c H locs cells slots Q (F0 m pc ls (.int y :: .int x ::  rest)) := lv_ior X.1 X.2.1 d k
theorem u_ixor {x y : Int32} (X : UC p s m args meth c cc nL own R fr lo D ad cs sd A) (d : decode cc pc = .ok (.ixor, 1)) (k : W p l e R s m args below meth c H locs cells slots Q (F0 m (pc + 1) ls (.int (x ^^^ y) :: rest))) : W p l e R s m args below meth c H locs cells slots Q (F0 m pc ls (.int y :: .int x ::  rest)) := lv_ixor X.1 X.2.1 d k
theorem u_ishl {x y : Int32} (X : UC p s m args meth c cc nL own R fr lo D ad cs sd A) (d : decode cc pc = .ok (.ishl, 1)) (k : W p l e R s m args below meth c H locs cells slots Q (F0 m (pc + 1) ls (.int (x <<< (y &&& 31)) :: rest))) : W p l e R s m args below meth c H locs cells slots Q (F0 m pc ls (.int y :: .int x ::  rest)) := lv_ishl X.1 X.2.1 d k
theorem u_ishr {x y : Int32} (X : UC p s m args meth c cc nL own R fr lo D ad cs sd A) (d : decode cc pc = .ok (.ishr, 1)) (k : W p l e R s m args below meth c H locs cells slots Q (F0 m (pc + 1) ls (.int (x >>> (y &&& 31)) :: rest))) : W p l e R s m args below meth c H locs cells slots Q (F0 m pc ls (.int y :: .int x ::  rest)) := lv_ishr X.1 X.2.1 d k
theorem u_iushr {x y : Int32} (X : UC p s m args meth c cc nL own R fr lo D ad cs sd A) (d : decode cc pc = .ok (.iushr, 1)) (k : W p l e R s m args below meth c H locs cells slots Q (F0 m (pc + 1) ls (.int (x.toUInt32 >>> (y.toUInt32 &&& Int32.toUInt32 31)).toInt32 :: rest))) : W p l e R s m args below meth c H locs cells slots Q (F0 m pc ls (.int y :: .int x ::  rest)) := lv_iushr X.1 X.2.1 d rfl k
theorem u_ladd {x y : Int64} (X : UC p s m args meth c cc nL own R fr lo D ad cs sd A) (d : decode cc pc = .ok (.ladd, 1)) (k : W p l e R s m args below meth c H locs cells slots Q (F0 m (pc + 1) ls (.long (x + y) :: rest))) : W p l e R s m args below meth c H locs cells slots Q (F0 m pc ls (.long y :: .long x ::  rest)) := lv_ladd X.1 X.2.1 d k
theorem u_lsub {x y : Int64} (X : UC p s m args meth c cc nL own R fr lo D ad cs sd A) (d : decode cc pc = .ok (.lsub, 1)) (k : W p l e R s m args below meth c H locs cells slots Q (F0 m (pc + 1) ls (.long (x - y) :: rest))) : W p l e R s m args below meth c H locs cells slots Q (F0 m pc ls (.long y :: .long x ::  rest)) := lv_lsub X.1 X.2.1 d k
theorem u_lmul {x y : Int64} (X : UC p s m args meth c cc nL own R fr lo D ad cs sd A) (d : decode cc pc = .ok (.lmul, 1)) (k : W p l e R s m args below meth c H locs cells slots Q (F0 m (pc + 1) ls (.long (x * y) :: rest))) : W p l e R s m args below meth c H locs cells slots Q (F0 m pc ls (.long y :: .long x ::  rest)) := lv_lmul X.1 X.2.1 d k
theorem u_land {x y : Int64} (X : UC p s m args meth c cc nL own R fr lo D ad cs sd A) (d : decode cc pc = .ok (.land, 1)) (k : W p l e R s m args below meth c H locs cells slots Q (F0 m (pc + 1) ls (.long (x &&& y) :: rest))) : W p l e R s m args below meth c H locs cells slots Q (F0 m pc ls (.long y :: .long x ::  rest)) := lv_land X.1 X.2.1 d k
theorem u_lor {x y : Int64} (X : UC p s m args meth c cc nL own R fr lo D ad cs sd A) (d : decode cc pc = .ok (.lor, 1)) (k : W p l e R s m args below meth c H locs cells slots Q (F0 m (pc + 1) ls (.long (x ||| y) :: rest))) : W p l e R s m args below meth c H locs cells slots Q (F0 m pc ls (.long y :: .long x ::  rest)) := lv_lor X.1 X.2.1 d k
theorem u_idiv {x y : Int32} (X : UC p s m args meth c cc nL own R fr lo D ad cs sd A) (hn : ¬ y = 0) (d : decode cc pc = .ok (.idiv, 1)) (k : W p l e R s m args below meth c H locs cells slots Q (F0 m (pc + 1) ls (.int (x / y) :: rest))) : W p l e R s m args below meth c H locs cells slots Q (F0 m pc ls (.int y :: .int x :: rest)) := lv_idiv X.1 X.2.1 d hn k
theorem u_irem {x y : Int32} (X : UC p s m args meth c cc nL own R fr lo D ad cs sd A) (hn : ¬ y = 0) (d : decode cc pc = .ok (.irem, 1)) (k : W p l e R s m args below meth c H locs cells slots Q (F0 m (pc + 1) ls (.int (irm x y) :: rest))) : W p l e R s m args below meth c H locs cells slots Q (F0 m pc ls (.int y :: .int x :: rest)) := lv_irem X.1 X.2.1 d hn k
theorem u_ldiv {x y : Int64} (X : UC p s m args meth c cc nL own R fr lo D ad cs sd A) (hn : ¬ y = 0) (d : decode cc pc = .ok (.ldiv, 1)) (k : W p l e R s m args below meth c H locs cells slots Q (F0 m (pc + 1) ls (.long (x / y) :: rest))) : W p l e R s m args below meth c H locs cells slots Q (F0 m pc ls (.long y :: .long x :: rest)) := lv_ldiv X.1 X.2.1 d hn k
theorem u_lrem {x y : Int64} (X : UC p s m args meth c cc nL own R fr lo D ad cs sd A) (hn : ¬ y = 0) (d : decode cc pc = .ok (.lrem, 1)) (k : W p l e R s m args below meth c H locs cells slots Q (F0 m (pc + 1) ls (.long (lrm x y) :: rest))) : W p l e R s m args below meth c H locs cells slots Q (F0 m pc ls (.long y :: .long x :: rest)) := lv_lrem X.1 X.2.1 d hn k
theorem u_lshl {x : Int64} {y : Int32} (X : UC p s m args meth c cc nL own R fr lo D ad cs sd A) (d : decode cc pc = .ok (.lshl, 1)) (k : W p l e R s m args below meth c H locs cells slots Q (F0 m (pc + 1) ls (.long (x <<< (y.toInt64 &&& 63)) :: rest))) : W p l e R s m args below meth c H locs cells slots Q (F0 m pc ls (.int y :: .long x ::  rest)) := lv_lshl X.1 X.2.1 d rfl k
theorem u_lshr {x : Int64} {y : Int32} (X : UC p s m args meth c cc nL own R fr lo D ad cs sd A) (d : decode cc pc = .ok (.lshr, 1)) (k : W p l e R s m args below meth c H locs cells slots Q (F0 m (pc + 1) ls (.long (x >>> (y.toInt64 &&& 63)) :: rest))) : W p l e R s m args below meth c H locs cells slots Q (F0 m pc ls (.int y :: .long x ::  rest)) := lv_lshr X.1 X.2.1 d rfl k
theorem u_lushr {x : Int64} {y : Int32} (X : UC p s m args meth c cc nL own R fr lo D ad cs sd A) (d : decode cc pc = .ok (.lushr, 1)) (k : W p l e R s m args below meth c H locs cells slots Q (F0 m (pc + 1) ls (.long (x.toUInt64 >>> (y.toInt64.toUInt64 &&& Int64.toUInt64 63)).toInt64 :: rest))) : W p l e R s m args below meth c H locs cells slots Q (F0 m pc ls (.int y :: .long x ::  rest)) := lv_lushr X.1 X.2.1 d rfl k
theorem u_i2l {x : Int32} (X : UC p s m args meth c cc nL own R fr lo D ad cs sd A) (d : decode cc pc = .ok (.i2l, 1)) (k : W p l e R s m args below meth c H locs cells slots Q (F0 m (pc + 1) ls (.long x.toInt64 :: rest))) : W p l e R s m args below meth c H locs cells slots Q (F0 m pc ls (.int x ::  rest)) := lv_i2l X.1 X.2.1 d rfl k
theorem u_l2i {x : Int64} (X : UC p s m args meth c cc nL own R fr lo D ad cs sd A) (d : decode cc pc = .ok (.l2i, 1)) (k : W p l e R s m args below meth c H locs cells slots Q (F0 m (pc + 1) ls (.int x.toInt32 :: rest))) : W p l e R s m args below meth c H locs cells slots Q (F0 m pc ls (.long x ::  rest)) := lv_l2i X.1 X.2.1 d rfl k
theorem u_i2b {x : Int32} (X : UC p s m args meth c cc nL own R fr lo D ad cs sd A) (d : decode cc pc = .ok (.i2b, 1)) (k : W p l e R s m args below meth c H locs cells slots Q (F0 m (pc + 1) ls (.int x.toInt8.toInt32 :: rest))) : W p l e R s m args below meth c H locs cells slots Q (F0 m pc ls (.int x ::  rest)) := lv_i2b X.1 X.2.1 d rfl k
theorem u_i2s {x : Int32} (X : UC p s m args meth c cc nL own R fr lo D ad cs sd A) (d : decode cc pc = .ok (.i2s, 1)) (k : W p l e R s m args below meth c H locs cells slots Q (F0 m (pc + 1) ls (.int x.toInt16.toInt32 :: rest))) : W p l e R s m args below meth c H locs cells slots Q (F0 m pc ls (.int x ::  rest)) := lv_i2s X.1 X.2.1 d rfl k
theorem u_lcmp {x y : Int64} (X : UC p s m args meth c cc nL own R fr lo D ad cs sd A) (d : decode cc pc = .ok (.lcmp, 1)) (k : W p l e R s m args below meth c H locs cells slots Q (F0 m (pc + 1) ls (.int (lg_cmp x y) :: rest))) : W p l e R s m args below meth c H locs cells slots Q (F0 m pc ls (.long y :: .long x ::  rest)) := W.lcmp X.1 X.2.1 d k
theorem u_iconst {n : Int} {v : Int32} (X : UC p s m args meth c cc nL own R fr lo D ad cs sd A) (hv : Int32.ofInt n = v) (d : decode cc pc = .ok (.iconst n, 1)) (k : W p l e R s m args below meth c H locs cells slots Q (F0 m (pc + 1) ls (.int v :: rest))) : W p l e R s m args below meth c H locs cells slots Q (F0 m pc ls rest) := lv_iconst X.1 X.2.1 d hv k
theorem u_bipush {n : Int} {v : Int32} (X : UC p s m args meth c cc nL own R fr lo D ad cs sd A) (hv : (Int8.ofInt n).toInt32 = v) (d : decode cc pc = .ok (.bipush n, 2)) (k : W p l e R s m args below meth c H locs cells slots Q (F0 m (pc + 2) ls (.int v :: rest))) : W p l e R s m args below meth c H locs cells slots Q (F0 m pc ls rest) := lv_bipush X.1 X.2.1 d hv k
theorem u_sipush {n : Int} {v : Int32} (X : UC p s m args meth c cc nL own R fr lo D ad cs sd A) (hv : (Int16.ofInt n).toInt32 = v) (d : decode cc pc = .ok (.sipush n, 3)) (k : W p l e R s m args below meth c H locs cells slots Q (F0 m (pc + 3) ls (.int v :: rest))) : W p l e R s m args below meth c H locs cells slots Q (F0 m pc ls rest) := lv_sipush X.1 X.2.1 d hv k
theorem u_lconst {n : Fin 2} {v : Int64} (X : UC p s m args meth c cc nL own R fr lo D ad cs sd A) (hv : Int64.ofNat (n : Nat) = v) (d : decode cc pc = .ok (.lconst n, 1)) (k : W p l e R s m args below meth c H locs cells slots Q (F0 m (pc + 1) ls (.long v :: rest))) : W p l e R s m args below meth c H locs cells slots Q (F0 m pc ls rest) := lv_lconst X.1 X.2.1 d hv k
theorem u_ldc {index : Nat} {v : Int32} (X : UC p s m args meth c cc nL own R fr lo D ad cs sd A) (hw : Cond.constant own index v ∈ TBL) (d : decode cc pc = .ok (.ldc index, 2)) (k : W p l e R s m args below meth c H locs cells slots Q (F0 m (pc + 2) ls (.int v :: rest))) : W p l e R s m args below meth c H locs cells slots Q (F0 m pc ls rest) := lv_ldc X.1 X.2.1 X.2.2.2.1 (X.2.2.2.2.1 _ hw) d k
theorem u_ldc2 {index : Nat} {v : Int64} (X : UC p s m args meth c cc nL own R fr lo D ad cs sd A) (hw : Cond.constantLong own index v ∈ TBL) (d : decode cc pc = .ok (.ldc2_w index, 3)) (k : W p l e R s m args below meth c H locs cells slots Q (F0 m (pc + 3) ls (.long v :: rest))) : W p l e R s m args below meth c H locs cells slots Q (F0 m pc ls rest) := lv_ldc2 X.1 X.2.1 X.2.2.2.1 (X.2.2.2.2.1 _ hw) d k
theorem u_iload_n {lv : List (Nat × Value)} {q : Fin 4} {x : Int32} (X : UC p s m args meth c cc nL own R fr lo D ad cs sd A) (hl : lv_has ls nL lv) (j : Nat) (hj : lv[j]? = some ((q : Nat), .int x)) (d : decode cc pc = .ok (.iload_n q, 1)) (k : W p l e R s m args below meth c H locs cells slots Q (F0 m (pc + 1) ls (.int x :: rest))) : W p l e R s m args below meth c H locs cells slots Q (F0 m pc ls rest) := lv_iload_n X.1 X.2.1 d rfl (lv_at hl j hj) k
theorem u_iload {lv : List (Nat × Value)} {i : Nat} {x : Int32} (X : UC p s m args meth c cc nL own R fr lo D ad cs sd A) (hl : lv_has ls nL lv) (j : Nat) (hj : lv[j]? = some (i, .int x)) (d : decode cc pc = .ok (.iload i, 2)) (k : W p l e R s m args below meth c H locs cells slots Q (F0 m (pc + 2) ls (.int x :: rest))) : W p l e R s m args below meth c H locs cells slots Q (F0 m pc ls rest) := lv_iload X.1 X.2.1 d (lv_at hl j hj) k
theorem u_lload_n {lv : List (Nat × Value)} {q : Fin 4} {x : Int64} (X : UC p s m args meth c cc nL own R fr lo D ad cs sd A) (hl : lv_has ls nL lv) (j : Nat) (hj : lv[j]? = some ((q : Nat), .long x)) (d : decode cc pc = .ok (.lload_n q, 1)) (k : W p l e R s m args below meth c H locs cells slots Q (F0 m (pc + 1) ls (.long x :: rest))) : W p l e R s m args below meth c H locs cells slots Q (F0 m pc ls rest) := lv_lload_n X.1 X.2.1 d rfl (lv_at hl j hj) k
theorem u_lload {lv : List (Nat × Value)} {i : Nat} {x : Int64} (X : UC p s m args meth c cc nL own R fr lo D ad cs sd A) (hl : lv_has ls nL lv) (j : Nat) (hj : lv[j]? = some (i, .long x)) (d : decode cc pc = .ok (.lload i, 2)) (k : W p l e R s m args below meth c H locs cells slots Q (F0 m (pc + 2) ls (.long x :: rest))) : W p l e R s m args below meth c H locs cells slots Q (F0 m pc ls rest) := lv_lload X.1 X.2.1 d (lv_at hl j hj) k
theorem u_aload_n {lv : List (Nat × Value)} {q : Fin 4} {x : Nat} (X : UC p s m args meth c cc nL own R fr lo D ad cs sd A) (hl : lv_has ls nL lv) (j : Nat) (hj : lv[j]? = some ((q : Nat), .ref x)) (d : decode cc pc = .ok (.aload_n q, 1)) (k : W p l e R s m args below meth c H locs cells slots Q (F0 m (pc + 1) ls (.ref x :: rest))) : W p l e R s m args below meth c H locs cells slots Q (F0 m pc ls rest) := lv_aload_n X.1 X.2.1 d rfl (lv_at hl j hj) k
theorem u_aload {lv : List (Nat × Value)} {i : Nat} {x : Nat} (X : UC p s m args meth c cc nL own R fr lo D ad cs sd A) (hl : lv_has ls nL lv) (j : Nat) (hj : lv[j]? = some (i, .ref x)) (d : decode cc pc = .ok (.aload i, 2)) (k : W p l e R s m args below meth c H locs cells slots Q (F0 m (pc + 2) ls (.ref x :: rest))) : W p l e R s m args below meth c H locs cells slots Q (F0 m pc ls rest) := lv_aload X.1 X.2.1 d (lv_at hl j hj) k
theorem u_istore_n {lv : List (Nat × Value)} (lv1 : List (Nat × Value)) {q : Fin 4} {x : Int32} (X : UC p s m args meth c cc nL own R fr lo D ad cs sd A) (hl : lv_has ls nL lv) (hn : (q : Nat) < nL) (hf : ((q : Nat), Value.int x) :: lv.filter (fun r => !(r.1 == (q : Nat)) && !(r.1 + 1 == (q : Nat) && r.2.category == 2)) = lv1) (d : decode cc pc = .ok (.istore_n q, 1)) (k : ∀ ls : Array Slot, lv_has ls nL lv1 → W p l e R s m args below meth c H locs cells slots Q (F0 m (pc + 1) ls rest)) : W p l e R s m args below meth c H locs cells slots Q (F0 m pc ls (.int x :: rest)) := lv_istore_n X.1 X.2.1 d rfl hl hn hf k
theorem u_istore {lv : List (Nat × Value)} (lv1 : List (Nat × Value)) {i : Nat} {x : Int32} (X : UC p s m args meth c cc nL own R fr lo D ad cs sd A) (hl : lv_has ls nL lv) (hn : i < nL) (hf : (i, Value.int x) :: lv.filter (fun r => !(r.1 == i) && !(r.1 + 1 == i && r.2.category == 2)) = lv1) (d : decode cc pc = .ok (.istore i, 2)) (k : ∀ ls : Array Slot, lv_has ls nL lv1 → W p l e R s m args below meth c H locs cells slots Q (F0 m (pc + 2) ls rest)) : W p l e R s m args below meth c H locs cells slots Q (F0 m pc ls (.int x :: rest)) := lv_istore X.1 X.2.1 d hl hn hf k
theorem u_lstore_n {lv : List (Nat × Value)} (lv1 : List (Nat × Value)) {q : Fin 4} {x : Int64} (X : UC p s m args meth c cc nL own R fr lo D ad cs sd A) (hl : lv_has ls nL lv) (hn : (q : Nat) + 1 < nL) (hf : ((q : Nat), Value.long x) :: lv.filter (fun r => !(r.1 == (q : Nat)) && (!(r.1 == (q : Nat) + 1) && !(r.1 + 1 == (q : Nat) && r.2.category == 2))) = lv1) (d : decode cc pc = .ok (.lstore_n q, 1)) (k : ∀ ls : Array Slot, lv_has ls nL lv1 → W p l e R s m args below meth c H locs cells slots Q (F0 m (pc + 1) ls rest)) : W p l e R s m args below meth c H locs cells slots Q (F0 m pc ls (.long x :: rest)) := lv_lstore_n X.1 X.2.1 d rfl hl hn hf k
theorem u_lstore {lv : List (Nat × Value)} (lv1 : List (Nat × Value)) {i : Nat} {x : Int64} (X : UC p s m args meth c cc nL own R fr lo D ad cs sd A) (hl : lv_has ls nL lv) (hn : i + 1 < nL) (hf : (i, Value.long x) :: lv.filter (fun r => !(r.1 == i) && (!(r.1 == i + 1) && !(r.1 + 1 == i && r.2.category == 2))) = lv1) (d : decode cc pc = .ok (.lstore i, 2)) (k : ∀ ls : Array Slot, lv_has ls nL lv1 → W p l e R s m args below meth c H locs cells slots Q (F0 m (pc + 2) ls rest)) : W p l e R s m args below meth c H locs cells slots Q (F0 m pc ls (.long x :: rest)) := lv_lstore X.1 X.2.1 d hl hn hf k
theorem u_astore_n {lv : List (Nat × Value)} (lv1 : List (Nat × Value)) {q : Fin 4} {x : Nat} (X : UC p s m args meth c cc nL own R fr lo D ad cs sd A) (hl : lv_has ls nL lv) (hn : (q : Nat) < nL) (hf : ((q : Nat), Value.ref x) :: lv.filter (fun r => !(r.1 == (q : Nat)) && !(r.1 + 1 == (q : Nat) && r.2.category == 2)) = lv1) (d : decode cc pc = .ok (.astore_n q, 1)) (k : ∀ ls : Array Slot, lv_has ls nL lv1 → W p l e R s m args below meth c H locs cells slots Q (F0 m (pc + 1) ls rest)) : W p l e R s m args below meth c H locs cells slots Q (F0 m pc ls (.ref x :: rest)) := lv_astore_n X.1 X.2.1 d rfl hl hn hf k
theorem u_astore {lv : List (Nat × Value)} (lv1 : List (Nat × Value)) {i : Nat} {x : Nat} (X : UC p s m args meth c cc nL own R fr lo D ad cs sd A) (hl : lv_has ls nL lv) (hn : i < nL) (hf : (i, Value.ref x) :: lv.filter (fun r => !(r.1 == i) && !(r.1 + 1 == i && r.2.category == 2)) = lv1) (d : decode cc pc = .ok (.astore i, 2)) (k : ∀ ls : Array Slot, lv_has ls nL lv1 → W p l e R s m args below meth c H locs cells slots Q (F0 m (pc + 2) ls rest)) : W p l e R s m args below meth c H locs cells slots Q (F0 m pc ls (.ref x :: rest)) := lv_astore X.1 X.2.1 d hl hn hf k
theorem u_iinc {lv : List (Nat × Value)} (lv1 : List (Nat × Value)) {i : Nat} {n : Int} {x v : Int32} (X : UC p s m args meth c cc nL own R fr lo D ad cs sd A) (hl : lv_has ls nL lv) (j : Nat) (hj : lv[j]? = some (i, .int x)) (hv : x + Int32.ofInt n = v) (hn : i < nL) (hf : (i, Value.int v) :: lv.filter (fun r => !(r.1 == i) && !(r.1 + 1 == i && r.2.category == 2)) = lv1) (d : decode cc pc = .ok (.iinc i n, 3)) (k : ∀ ls : Array Slot, lv_has ls nL lv1 → W p l e R s m args below meth c H locs cells slots Q (F0 m (pc + 3) ls rest)) : W p l e R s m args below meth c H locs cells slots Q (F0 m pc ls rest) := lv_iinc X.1 X.2.1 d hl hj hv hn hf k
theorem u_dup {v : Value} (X : UC p s m args meth c cc nL own R fr lo D ad cs sd A) (hv : v.category = 1) (d : decode cc pc = .ok (.dup, 1)) (k : W p l e R s m args below meth c H locs cells slots Q (F0 m (pc + 1) ls (v :: v :: rest))) : W p l e R s m args below meth c H locs cells slots Q (F0 m pc ls (v :: rest)) := lv_dup X.1 X.2.1 d hv k
theorem u_pop {v : Value} (X : UC p s m args meth c cc nL own R fr lo D ad cs sd A) (hv : v.category = 1) (d : decode cc pc = .ok (.pop, 1)) (k : W p l e R s m args below meth c H locs cells slots Q (F0 m (pc + 1) ls rest)) : W p l e R s m args below meth c H locs cells slots Q (F0 m pc ls (v :: rest)) := lv_pop X.1 X.2.1 d hv k
theorem u_dup2 {v w : Value} (X : UC p s m args meth c cc nL own R fr lo D ad cs sd A) (hv : v.category = 1) (hw : w.category = 1) (d : decode cc pc = .ok (.dup2, 1)) (k : W p l e R s m args below meth c H locs cells slots Q (F0 m (pc + 1) ls (v :: w :: v :: w :: rest))) : W p l e R s m args below meth c H locs cells slots Q (F0 m pc ls (v :: w :: rest)) := lv_dup2_11 X.1 X.2.1 d hv hw k
theorem u_goto {off : Int} (tgt : Nat) (X : UC p s m args meth c cc nL own R fr lo D ad cs sd A) (ht : (pc : Int) + off = (tgt : Int)) (d : decode cc pc = .ok (.goto off, 3)) (k : W p l e R s m args below meth c H locs cells slots Q (F0 m tgt ls rest)) : W p l e R s m args below meth c H locs cells slots Q (F0 m pc ls rest) := lv_goto X.1 X.2.1 d ht k
theorem u_icmp_eq {x y : Int32} {off : Int} (tgt : Nat) (X : UC p s m args meth c cc nL own R fr lo D ad cs sd A) (ht : (pc : Int) + off = (tgt : Int)) (d : decode cc pc = .ok (.if_icmp .eq off, 3)) (kt : x = y → W p l e R s m args below meth c H locs cells slots Q (F0 m tgt ls rest)) (kf : ¬ x = y → W p l e R s m args below meth c H locs cells slots Q (F0 m (pc + 3) ls rest)) : W p l e R s m args below meth c H locs cells slots Q (F0 m pc ls (.int y :: .int x :: rest)) := lv_icmp_eq X.1 X.2.1 d ht kt kf
theorem u_if_eq {x : Int32} {off : Int} (tgt : Nat) (X : UC p s m args meth c cc nL own R fr lo D ad cs sd A) (ht : (pc : Int) + off = (tgt : Int)) (d : decode cc pc = .ok (.ifCond .eq off, 3)) (kt : x = 0 → W p l e R s m args below meth c H locs cells slots Q (F0 m tgt ls rest)) (kf : ¬ x = 0 → W p l e R s m args below meth c H locs cells slots Q (F0 m (pc + 3) ls rest)) : W p l e R s m args below meth c H locs cells slots Q (F0 m pc ls (.int x :: rest)) := lv_if_eq X.1 X.2.1 d ht kt kf
theorem u_icmp_ne {x y : Int32} {off : Int} (tgt : Nat) (X : UC p s m args meth c cc nL own R fr lo D ad cs sd A) (ht : (pc : Int) + off = (tgt : Int)) (d : decode cc pc = .ok (.if_icmp .ne off, 3)) (kt : ¬ x = y → W p l e R s m args below meth c H locs cells slots Q (F0 m tgt ls rest)) (kf : x = y → W p l e R s m args below meth c H locs cells slots Q (F0 m (pc + 3) ls rest)) : W p l e R s m args below meth c H locs cells slots Q (F0 m pc ls (.int y :: .int x :: rest)) := lv_icmp_ne X.1 X.2.1 d ht kt kf
theorem u_if_ne {x : Int32} {off : Int} (tgt : Nat) (X : UC p s m args meth c cc nL own R fr lo D ad cs sd A) (ht : (pc : Int) + off = (tgt : Int)) (d : decode cc pc = .ok (.ifCond .ne off, 3)) (kt : ¬ x = 0 → W p l e R s m args below meth c H locs cells slots Q (F0 m tgt ls rest)) (kf : x = 0 → W p l e R s m args below meth c H locs cells slots Q (F0 m (pc + 3) ls rest)) : W p l e R s m args below meth c H locs cells slots Q (F0 m pc ls (.int x :: rest)) := lv_if_ne X.1 X.2.1 d ht kt kf
theorem u_icmp_lt {x y : Int32} {off : Int} (tgt : Nat) (X : UC p s m args meth c cc nL own R fr lo D ad cs sd A) (ht : (pc : Int) + off = (tgt : Int)) (d : decode cc pc = .ok (.if_icmp .lt off, 3)) (kt : x < y → W p l e R s m args below meth c H locs cells slots Q (F0 m tgt ls rest)) (kf : ¬ x < y → W p l e R s m args below meth c H locs cells slots Q (F0 m (pc + 3) ls rest)) : W p l e R s m args below meth c H locs cells slots Q (F0 m pc ls (.int y :: .int x :: rest)) := lv_icmp_lt X.1 X.2.1 d ht kt kf
theorem u_if_lt {x : Int32} {off : Int} (tgt : Nat) (X : UC p s m args meth c cc nL own R fr lo D ad cs sd A) (ht : (pc : Int) + off = (tgt : Int)) (d : decode cc pc = .ok (.ifCond .lt off, 3)) (kt : x < 0 → W p l e R s m args below meth c H locs cells slots Q (F0 m tgt ls rest)) (kf : ¬ x < 0 → W p l e R s m args below meth c H locs cells slots Q (F0 m (pc + 3) ls rest)) : W p l e R s m args below meth c H locs cells slots Q (F0 m pc ls (.int x :: rest)) := lv_if_lt X.1 X.2.1 d ht kt kf
theorem u_icmp_ge {x y : Int32} {off : Int} (tgt : Nat) (X : UC p s m args meth c cc nL own R fr lo D ad cs sd A) (ht : (pc : Int) + off = (tgt : Int)) (d : decode cc pc = .ok (.if_icmp .ge off, 3)) (kt : y ≤ x → W p l e R s m args below meth c H locs cells slots Q (F0 m tgt ls rest)) (kf : ¬ y ≤ x → W p l e R s m args below meth c H locs cells slots Q (F0 m (pc + 3) ls rest)) : W p l e R s m args below meth c H locs cells slots Q (F0 m pc ls (.int y :: .int x :: rest)) := lv_icmp_ge X.1 X.2.1 d ht kt kf
theorem u_if_ge {x : Int32} {off : Int} (tgt : Nat) (X : UC p s m args meth c cc nL own R fr lo D ad cs sd A) (ht : (pc : Int) + off = (tgt : Int)) (d : decode cc pc = .ok (.ifCond .ge off, 3)) (kt : 0 ≤ x → W p l e R s m args below meth c H locs cells slots Q (F0 m tgt ls rest)) (kf : ¬ 0 ≤ x → W p l e R s m args below meth c H locs cells slots Q (F0 m (pc + 3) ls rest)) : W p l e R s m args below meth c H locs cells slots Q (F0 m pc ls (.int x :: rest)) := lv_if_ge X.1 X.2.1 d ht kt kf
theorem u_icmp_gt {x y : Int32} {off : Int} (tgt : Nat) (X : UC p s m args meth c cc nL own R fr lo D ad cs sd A) (ht : (pc : Int) + off = (tgt : Int)) (d : decode cc pc = .ok (.if_icmp .gt off, 3)) (kt : y < x → W p l e R s m args below meth c H locs cells slots Q (F0 m tgt ls rest)) (kf : ¬ y < x → W p l e R s m args below meth c H locs cells slots Q (F0 m (pc + 3) ls rest)) : W p l e R s m args below meth c H locs cells slots Q (F0 m pc ls (.int y :: .int x :: rest)) := lv_icmp_gt X.1 X.2.1 d ht kt kf
theorem u_if_gt {x : Int32} {off : Int} (tgt : Nat) (X : UC p s m args meth c cc nL own R fr lo D ad cs sd A) (ht : (pc : Int) + off = (tgt : Int)) (d : decode cc pc = .ok (.ifCond .gt off, 3)) (kt : 0 < x → W p l e R s m args below meth c H locs cells slots Q (F0 m tgt ls rest)) (kf : ¬ 0 < x → W p l e R s m args below meth c H locs cells slots Q (F0 m (pc + 3) ls rest)) : W p l e R s m args below meth c H locs cells slots Q (F0 m pc ls (.int x :: rest)) := lv_if_gt X.1 X.2.1 d ht kt kf
theorem u_icmp_le {x y : Int32} {off : Int} (tgt : Nat) (X : UC p s m args meth c cc nL own R fr lo D ad cs sd A) (ht : (pc : Int) + off = (tgt : Int)) (d : decode cc pc = .ok (.if_icmp .le off, 3)) (kt : x ≤ y → W p l e R s m args below meth c H locs cells slots Q (F0 m tgt ls rest)) (kf : ¬ x ≤ y → W p l e R s m args below meth c H locs cells slots Q (F0 m (pc + 3) ls rest)) : W p l e R s m args below meth c H locs cells slots Q (F0 m pc ls (.int y :: .int x :: rest)) := lv_icmp_le X.1 X.2.1 d ht kt kf
theorem u_if_le {x : Int32} {off : Int} (tgt : Nat) (X : UC p s m args meth c cc nL own R fr lo D ad cs sd A) (ht : (pc : Int) + off = (tgt : Int)) (d : decode cc pc = .ok (.ifCond .le off, 3)) (kt : x ≤ 0 → W p l e R s m args below meth c H locs cells slots Q (F0 m tgt ls rest)) (kf : ¬ x ≤ 0 → W p l e R s m args below meth c H locs cells slots Q (F0 m (pc + 3) ls rest)) : W p l e R s m args below meth c H locs cells slots Q (F0 m pc ls (.int x :: rest)) := lv_if_le X.1 X.2.1 d ht kt kf
theorem u_iald {a N i0 : Nat} {f : Nat → Int32} {i : Int32} (X : UC p s m args meth c cc nL own R fr lo D ad cs sd A) (hP : va_P D clss (wld cs ad z) H) (he : (wld cs ad z)[i0]? = some (a, .inl (cs 0, N, .inl f))) (hin : ¬ (i < 0 ∨ N ≤ i.toNatClampNeg)) (d : decode cc pc = .ok (.iaload, 1))
    (k : W p l e R s m args below meth c H locs cells slots Q (F0 m (pc + 1) ls (.int (f i.toNatClampNeg) :: rest))) : W p l e R s m args below meth c H locs cells slots Q (F0 m pc ls (.int i :: .ref a :: rest)) :=
  va_iald X.1 X.2.1 X.2.2.2.2.2.2.1 hP i0 0 he rfl hin d k
theorem u_lald {a N i0 : Nat} {f : Nat → Int64} {i : Int32} (X : UC p s m args meth c cc nL own R fr lo D ad cs sd A) (hP : va_P D clss (wld cs ad z) H) (he : (wld cs ad z)[i0]? = some (a, .inl (cs 1, N, .inr (.inl f)))) (hin : ¬ (i < 0 ∨ N ≤ i.toNatClampNeg)) (d : decode cc pc = .ok (.laload, 1))
    (k : W p l e R s m args below meth c H locs cells slots Q (F0 m (pc + 1) ls (.long (f i.toNatClampNeg) :: rest))) : W p l e R s m args below meth c H locs cells slots Q (F0 m pc ls (.int i :: .ref a :: rest)) :=
  va_lald X.1 X.2.1 X.2.2.2.2.2.2.1 hP i0 1 he rfl hin d k
theorem u_aald {a N i0 : Nat} {f : Nat → Option Nat} {i : Int32} (X : UC p s m args meth c cc nL own R fr lo D ad cs sd A) (hP : va_P D clss (wld cs ad z) H) (he : (wld cs ad z)[i0]? = some (a, .inl (cs 2, N, .inr (.inr (.inr (.inr f)))))) (hin : ¬ (i < 0 ∨ N ≤ i.toNatClampNeg)) (d : decode cc pc = .ok (.aaload, 1))
    {b : Nat} (hf : f i.toNatClampNeg = some b) (k : W p l e R s m args below meth c H locs cells slots Q (F0 m (pc + 1) ls (.ref b :: rest))) : W p l e R s m args below meth c H locs cells slots Q (F0 m pc ls (.int i :: .ref a :: rest)) := by
  have hlt : i.toNatClampNeg < N := Nat.not_le.mp fun q => hin (Or.inr q)
  refine W.aald (v := va_rf (f i.toNatClampNeg)) (ty := .array .int) X.1 X.2.1 (hP i0 _ he) ((X.2.2.2.2.2.2.1.2 2 _ rfl).1 N (fun j => va_rf (f j))) rfl (fun q => by cases q) (by show ¬ (i < 0 ∨ (arrV _ _ _).slots.size ≤ _); rw [arrV_size]; exact hin) (by show (arrV _ _ _).slots[_]? = _; rw [arrV_read _ _ hlt]) rfl rfl d ?_
  rw [hf]
  exact k
theorem u_iast {a N : Nat} (i0 : Nat) {f : Nat → Int32} {i v : Int32} {z : MS} (z1 : MS) (X : UC p s m args meth c cc nL own R fr lo D ad cs sd A) (hP : va_P D clss (wld cs ad z) H) (hS : va_S A s.heap H locs) (he : (wld cs ad z)[i0]? = some (a, .inl (cs 0, N, .inl f))) (hz : (wld cs ad z).set i0 (a, .inl (cs 0, N, .inl (upd f i.toNatClampNeg v))) = wld cs ad z1) (hin : ¬ (i < 0 ∨ N ≤ i.toNatClampNeg)) (d : decode cc pc = .ok (.iastore, 1))
    (k : ∀ (H : Heap) (locs : List Loc), va_P D clss (wld cs ad z1) H → va_S A s.heap H locs → W p l e R s m args below meth c H locs cells slots Q (F0 m (pc + 1) ls rest)) : W p l e R s m args below meth c H locs cells slots Q (F0 m pc ls (.int v :: .int i :: .ref a :: rest)) :=
  va_iast X.1 X.2.1 X.2.2.2.2.2.2.1 hP (uc_D X) hS i0 0 he rfl hin d (fun H1 locs1 q1 _ q3 => k H1 locs1 (by rw [hz] at q1; exact q1) q3)
theorem u_last {a N : Nat} (i0 : Nat) {f : Nat → Int64} {i : Int32} {v : Int64} {z : MS} (z1 : MS) (X : UC p s m args meth c cc nL own R fr lo D ad cs sd A) (hP : va_P D clss (wld cs ad z) H) (hS : va_S A s.heap H locs) (he : (wld cs ad z)[i0]? = some (a, .inl (cs 1, N, .inr (.inl f)))) (hz : (wld cs ad z).set i0 (a, .inl (cs 1, N, .inr (.inl (vp_updL f i.toNatClampNeg v)))) = wld cs ad z1) (hin : ¬ (i < 0 ∨ N ≤ i.toNatClampNeg)) (d : decode cc pc = .ok (.lastore, 1))
    (k : ∀ (H : Heap) (locs : List Loc), va_P D clss (wld cs ad z1) H → va_S A s.heap H locs → W p l e R s m args below meth c H locs cells slots Q (F0 m (pc + 1) ls rest)) : W p l e R s m args below meth c H locs cells slots Q (F0 m pc ls (.long v :: .int i :: .ref a :: rest)) :=
  va_last X.1 X.2.1 X.2.2.2.2.2.2.1 hP (uc_D X) hS i0 1 he rfl hin d (fun H1 locs1 q1 _ q3 => k H1 locs1 (by rw [hz] at q1; exact q1) q3)
theorem u_get {a : Nat} (ci i0 : Nat) {C ref : String} {T : u_T} {N index : Nat} {fs : List Value} {v : Value} (X : UC p s m args meth c cc nL own R fr lo D ad cs sd A) (hP : va_P D clss (wld cs ad z) H) (he : (wld cs ad z)[i0]? = some (a, .inr (ci, fs))) (hc : clss[ci]? = some (C, T, N)) (hin : ∀ w ∈ u_ws C T N, w ∈ TBL) (j : Nat) (hj : j < N) (hw : Cond.fieldLink own index ref (T j).2.1 (T j).2.2.1 ∈ TBL) (hr : (T j).1 = ref) (hv : fs[j]? = some v) (d : decode cc pc = .ok (.getfield index, 3))
    (k : W p l e R s m args below meth c H locs cells slots Q (F0 m (pc + 3) ls (v :: rest))) : W p l e R s m args below meth c H locs cells slots Q (F0 m pc ls (.ref a :: rest)) :=
  va_get X.1 X.2.1 X.2.2.2.2.1 hin X.2.2.2.1 X.2.2.2.2.2.2.1 hP i0 he hc j hj (X.2.2.2.2.1 _ hw) (fun _ h => hr ▸ h) hv d k
theorem u_getN {a : Nat} (ci i0 : Nat) {C ref host : String} {T : u_T} {N index : Nat} {fs : List Value} {v : Value} (X : UC p s m args meth c cc nL own R fr lo D ad cs sd A) (hP : va_P D clss (wld cs ad z) H) (he : (wld cs ad z)[i0]? = some (a, .inr (ci, fs))) (hc : clss[ci]? = some (C, T, N)) (hin : ∀ w ∈ u_ws C T N, w ∈ TBL) (j : Nat) (hj : j < N) (hw : Cond.fieldLinkNest own index ref (T j).2.1 (T j).2.2.1 host ∈ TNW) (hr : (T j).1 = ref) (hv : fs[j]? = some v) (d : decode cc pc = .ok (.getfield index, 3))
    (k : W p l e R s m args below meth c H locs cells slots Q (F0 m (pc + 3) ls (v :: rest))) : W p l e R s m args below meth c H locs cells slots Q (F0 m pc ls (.ref a :: rest)) :=
  va_getN X.1 X.2.1 X.2.2.2.2.1 hin X.2.2.2.1 X.2.2.2.2.2.2.1 hP i0 he hc j hj ((X.2.2.2.2.2.1 _ hw).use rfl) (fun _ h => hr ▸ h) hv d k
theorem u_put {a : Nat} (ci i0 : Nat) {C ref : String} {T : u_T} {N index : Nat} {fs : List Value} {v : Value} {z : MS} (z1 : MS) (X : UC p s m args meth c cc nL own R fr lo D ad cs sd A) (hP : va_P D clss (wld cs ad z) H) (hS : va_S A s.heap H locs) (he : (wld cs ad z)[i0]? = some (a, .inr (ci, fs))) (hc : clss[ci]? = some (C, T, N)) (hin : ∀ w ∈ u_ws C T N, w ∈ TBL) (ty0 : Nat → FieldType) (hty : ∀ k, k < N → parseFieldDescriptor (T k).2.2.1 = some (ty0 k)) (hnm : ∀ a, a < N → ∀ b, b < N → a ≠ b → (T a).2.1 ≠ (T b).2.1)
    (j : Nat) (hj : j < N) (hw : Cond.fieldLink own index ref (T j).2.1 (T j).2.2.1 ∈ TBL) (hr : (T j).1 = ref) (hfin : (T j).2.2.2 = false) {ty : FieldType} (ht : parseFieldDescriptor (T j).2.2.1 = some ty) (hn : narrow ty v = v) (hfit : fits ty v = true) (hl : j < fs.length) (hz : (wld cs ad z).set i0 (a, .inr (ci, fs.set j v)) = wld cs ad z1) (d : decode cc pc = .ok (.putfield index, 3))
    (k : ∀ (H : Heap) (locs : List Loc), va_P D clss (wld cs ad z1) H → va_S A s.heap H locs → W p l e R s m args below meth c H locs cells slots Q (F0 m (pc + 3) ls rest)) : W p l e R s m args below meth c H locs cells slots Q (F0 m pc ls (v :: .ref a :: rest)) :=
  va_put X.1 X.2.1 X.2.2.2.2.1 hin ty0 hty hnm X.2.2.2.1 X.2.2.2.2.2.2.1 hP (uc_D X) hS i0 he hc j hj (X.2.2.2.2.1 _ hw) (fun _ h => hr ▸ h) hfin ht hn hfit hl d (fun H1 locs1 q1 _ q3 => k H1 locs1 (by rw [hz] at q1; exact q1) q3)
theorem u_putN {a : Nat} (ci i0 : Nat) {C ref host : String} {T : u_T} {N index : Nat} {fs : List Value} {v : Value} {z : MS} (z1 : MS) (X : UC p s m args meth c cc nL own R fr lo D ad cs sd A) (hP : va_P D clss (wld cs ad z) H) (hS : va_S A s.heap H locs) (he : (wld cs ad z)[i0]? = some (a, .inr (ci, fs))) (hc : clss[ci]? = some (C, T, N)) (hin : ∀ w ∈ u_ws C T N, w ∈ TBL) (ty0 : Nat → FieldType) (hty : ∀ k, k < N → parseFieldDescriptor (T k).2.2.1 = some (ty0 k)) (hnm : ∀ a, a < N → ∀ b, b < N → a ≠ b → (T a).2.1 ≠ (T b).2.1)
    (j : Nat) (hj : j < N) (hw : Cond.fieldLinkNest own index ref (T j).2.1 (T j).2.2.1 host ∈ TNW) (hr : (T j).1 = ref) (hfin : (T j).2.2.2 = false) {ty : FieldType} (ht : parseFieldDescriptor (T j).2.2.1 = some ty) (hn : narrow ty v = v) (hfit : fits ty v = true) (hl : j < fs.length) (hz : (wld cs ad z).set i0 (a, .inr (ci, fs.set j v)) = wld cs ad z1) (d : decode cc pc = .ok (.putfield index, 3))
    (k : ∀ (H : Heap) (locs : List Loc), va_P D clss (wld cs ad z1) H → va_S A s.heap H locs → W p l e R s m args below meth c H locs cells slots Q (F0 m (pc + 3) ls rest)) : W p l e R s m args below meth c H locs cells slots Q (F0 m pc ls (v :: .ref a :: rest)) :=
  va_putN X.1 X.2.1 X.2.2.2.2.1 hin ty0 hty hnm X.2.2.2.1 X.2.2.2.2.2.2.1 hP (uc_D X) hS i0 he hc j hj ((X.2.2.2.2.2.1 _ hw).use rfl) (fun _ h => hr ▸ h) hfin ht hn hfit hl d (fun H1 locs1 q1 _ q3 => k H1 locs1 (by rw [hz] at q1; exact q1) q3)
/-- a call's own words -/
def MEW (y : MethodName) (bytes : ByteArray) (maxL : Nat) (ret : Option FieldType) (n : Nat) : Prop := Cond.code y bytes maxL ret ∈ TBL ∧ Cond.initialized y.cls ∈ TBL ∧ (y.cls ≠ "java/lang/invoke/MethodHandle" ∧ y.cls ≠ "java/lang/invoke/VarHandle" ∧ (parseMethodDescriptor y.desc).map (fun d => d.parameters.length) = some n)
theorem u_pre (X : UC p s m args meth c cc nL own R fr lo D ad cs sd A) (hP : va_P D clss (wld cs ad z) H) (hS : va_S A s.heap H locs) {U : State} (hU : U.heap = H) (hW : s.WarmedH U.vm) : UB D ad cs sd H.size z U := by
  refine ⟨by rw [hU], by rw [hU]; exact hP, va_K.moved hW.alike X.2.2.2.2.2.2.1, nw_warm hW X.2.2.2.2.2.1, ?_⟩
  rw [hU]
  refine ((X.2.2.2.2.2.2.2.2.2.2.2.1.kept hS.2.1).narrow ?_).warm hW
  intro q hq
  rcases hq with ⟨k, hk, rfl⟩ | hq
  · exact X.2.2.2.2.2.2.2.2.2.1 k hk
  · exact X.2.2.2.2.2.2.2.2.2.2.1 q (Nat.le_trans hS.1 hq)
theorem u_blind {avs : List Value} {sz : Nat} : FrameBlind (va_Pc avs (UB D ad cs sd sz z)) := fun a U g mk q => by
  obtain ⟨q0, q1, qP, qK, qN, qT⟩ := q
  exact ⟨q0, q1, qP, va_K.moved (u := U) (U := U.calling g mk a) (Vm.Alike.refl U.vm) qK, nw_same (s := U) (U := U.calling g mk a) rfl qN, STAT.same (u := U) (U := U.calling g mk a) rfl qT⟩
theorem u_WA (X : UC p s m args meth c cc nL own R fr lo D ad cs sd A) (hS : va_S A s.heap H locs) : ∀ q, WA ad H.size q → A q := by
  intro q hq
  rcases hq with ⟨k, hk, rfl⟩ | hq
  · exact X.2.2.2.2.2.2.2.2.2.1 k hk
  · exact X.2.2.2.2.2.2.2.2.2.2.1 q (Nat.le_trans hS.1 hq)
theorem u_back {y : MethodName} {v0 : Option Value} {z1 : MS} {st0 : List Value} {a : Array Value} (X : UC p s m args meth c cc nL own R fr lo D ad cs sd A) (hS : va_S A s.heap H locs)
    (hr : va_Run p l e R s m args below meth c H locs 0 0 0 0 (F0 m pc ls st0) rest (QU v0 D ad cs z1 (WA ad H.size) a) (WA ad H.size))
    (k : ∀ (H : Heap) (locs : List Loc), va_P D clss (wld cs ad z1) H → va_S A s.heap H locs → W p l e R s m args below meth c H locs 0 0 Q (F0 m (pc + 3) ls (v0.toList ++ rest))) : W p l e R s m args below meth c H locs 0 0 Q (F0 m pc ls st0) := by
  intro T hT X1
  obtain ⟨v, st₀, t, T', L, h0, X', hL, e1, e2, ⟨hv, hp, hz, hk⟩, st⟩ := hr T hT X1
  cases hv
  rw [h0] at hz hk
  have hA := u_WA X hS
  obtain ⟨t2, a1, b1⟩ := k T'.heap (locs ++ L) (by rw [e1]; exact hp)
    ⟨Nat.le_trans hS.1 (by rw [e1]; exact hz), fun q h1 h2 => by rw [e1, hk q (Nat.lt_of_lt_of_le h1 hS.1) (fun z => h2 (hA q z))]; exact hS.2.1 q h1 h2, fun q hq => by
      rcases List.mem_append.mp hq with h | h
      · exact hS.2.2 q h
      · exact hA _ (hL q h)⟩ T' rfl X'
  exact ⟨t2, st t2 a1, b1⟩
theorem u_callV {y : MethodName} {bytes : ByteArray} {maxL n fr1 lo1 index : Nat} {ret : Option FieldType} {avs : (Nat → Nat) → (Nat → Nat) → List Value} {z z1 : MS} {v0 : Option Value} {b : Nat} (As : List Value) (i0 ci : Nat) {C : String} {T : u_T} {N : Nat} {fs : List Value} {st : List Value} {lv : List (Nat × Value)} (X : UC p s m args meth c cc nL own R fr lo D ad cs sd A) (hP : va_P D clss (wld cs ad z) H) (hS : va_S A s.heap H locs) (hl : lv_has ls nL lv)
    (hC : CT l y bytes maxL ret fr1 lo1 avs z v0 z1) (hM : MEW y bytes maxL ret n) (hw : Cond.methodLink own index y ∈ TBL) (hi : Cond.instanceMethod y ∈ TBL) (hs : Cond.selects C y y ∈ TBL) (he : (wld cs ad z)[i0]? = some (b, .inr (ci, fs))) (hc : clss[ci]? = some (C, T, N))
    (ha : avs ad sd = .ref b :: As) (hn : As.length = n) (hst : st = As.reverse ++ .ref b :: rest) (hW : (rest.map fun v => v.category).sum ≤ 8) (hR : fr1 + 1 ≤ fr ∧ 8 + (maxL + 11) + lo1 ≤ lo) (d : decode cc pc = .ok (.invokevirtual index, 3))
    (k : ∀ (H : Heap) (locs : List Loc), va_P D clss (wld cs ad z1) H → va_S A s.heap H locs → W p l e R s m args below meth c H locs 0 0 Q (F0 m (pc + 3) ls (v0.toList ++ rest))) : W p l e R s m args below meth c H locs 0 0 Q (F0 m pc ls st) := by
  subst hst
  refine u_back (y := y) X hS (va_runV (Ts := TBL) (own := own) (nL := nL) (ws := .code y bytes maxL ret :: TBL) (rm := { frames := fr1, cells := 0, slots := 0, locals := lo1 }) ⟨X.1, X.2.1, X.2.2.1, X.2.2.2.1, X.2.2.2.2.1⟩ (hC D ad cs sd H.size X.2.2.2.2.2.2.2.2.1)
    ⟨⟨rfl, rfl, Nat.le_trans hR.1 X.2.2.2.2.2.2.2.2.2.2.2.2.1, Nat.le_trans hR.2 X.2.2.2.2.2.2.2.2.2.2.2.2.2.1, pay_in X.2.2.2.2.1 (tb_good (tb_cons hM.1)), List.mem_cons_self, X.2.2.2.2.1 _ hM.1, X.2.2.2.2.1 _ hM.2.1, ⟨hM.2.2.1, hM.2.2.2.1⟩, fun sig h => ?_, X.2.2.2.2.1 _ hw⟩, X.2.2.2.2.1 _ hi, X.2.2.2.2.1 _ hs⟩
    (by rw [ha]; exact ⟨u_blind, va_recv X.2.2.2.2.2.2.1 hP hc he, fun U hU hW => ⟨rfl, u_pre X hP hS hU hW⟩⟩) rfl hn hl.1 rfl (lv_room hW) d ⟨Nat.zero_le _, Nat.zero_le _⟩) k
  have h2 := hM.2.2.2.2
  rw [h] at h2
  exact (Option.some.inj h2).symm
theorem u_callS {y : MethodName} {bytes : ByteArray} {maxL n fr1 lo1 index : Nat} {ret : Option FieldType} {avs : (Nat → Nat) → (Nat → Nat) → List Value} {z z1 : MS} {v0 : Option Value} (As : List Value) {st : List Value} {lv : List (Nat × Value)} (X : UC p s m args meth c cc nL own R fr lo D ad cs sd A) (hP : va_P D clss (wld cs ad z) H) (hS : va_S A s.heap H locs) (hl : lv_has ls nL lv)
    (hC : CT l y bytes maxL ret fr1 lo1 avs z v0 z1) (hM : MEW y bytes maxL ret n) (hw : Cond.methodLink own index y ∈ TBL) (hi : Cond.static y ∈ TBL)
    (ha : avs ad sd = As) (hn : As.length = n) (hst : st = As.reverse ++ rest) (hW : (rest.map fun v => v.category).sum ≤ 8) (hR : fr1 + 1 ≤ fr ∧ 8 + (maxL + 11) + lo1 ≤ lo) (d : decode cc pc = .ok (.invokestatic index, 3))
    (k : ∀ (H : Heap) (locs : List Loc), va_P D clss (wld cs ad z1) H → va_S A s.heap H locs → W p l e R s m args below meth c H locs 0 0 Q (F0 m (pc + 3) ls (v0.toList ++ rest))) : W p l e R s m args below meth c H locs 0 0 Q (F0 m pc ls st) := by
  subst hst
  refine u_back (y := y) X hS (va_runS (Ts := TBL) (own := own) (nL := nL) (ws := .code y bytes maxL ret :: TBL) (rm := { frames := fr1, cells := 0, slots := 0, locals := lo1 }) ⟨X.1, X.2.1, X.2.2.1, X.2.2.2.1, X.2.2.2.2.1⟩ (hC D ad cs sd H.size X.2.2.2.2.2.2.2.2.1)
    ⟨⟨rfl, rfl, Nat.le_trans hR.1 X.2.2.2.2.2.2.2.2.2.2.2.2.1, Nat.le_trans hR.2 X.2.2.2.2.2.2.2.2.2.2.2.2.2.1, pay_in X.2.2.2.2.1 (tb_good (tb_cons hM.1)), List.mem_cons_self, X.2.2.2.2.1 _ hM.1, X.2.2.2.2.1 _ hM.2.1, ⟨hM.2.2.1, hM.2.2.2.1⟩, fun sig h => ?_, X.2.2.2.2.1 _ hw⟩, X.2.2.2.2.1 _ hi⟩
    (by rw [ha]; exact ⟨u_blind, fun U hU hW => ⟨rfl, u_pre X hP hS hU hW⟩⟩) rfl hn hl.1 rfl (lv_room hW) d ⟨Nat.zero_le _, Nat.zero_le _⟩) k
  have h2 := hM.2.2.2.2
  rw [h] at h2
  exact (Option.some.inj h2).symm
end UROWS
end
