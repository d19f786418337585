section
-- ===== PART A: goes FIRST, ahead of the names: the tables' words, and 'selects' of the private methods out of them =====
/-- a private method of a class that the tables say can be made, by its rows of tables_1 -/
def lw_okq (q : MethodName × Nat) : Prop := (q.1.cls ≠ "java/lang/invoke/MethodHandle" ∧ q.1.cls ≠ "java/lang/invoke/VarHandle") ∧ Cond.instantiable q.1.cls q.2 ∈ tables_1 ∧ Cond.privateMethod q.1 ∈ tables_1 ∧ Cond.instanceMethod q.1 ∈ tables_1
theorem lw_p0 : lw_okq (⟨"TillPairs$Tape", "skipBlanks", "()V"⟩, 5) := ⟨⟨by decide +kernel, by decide +kernel⟩, List.mem_of_getElem? (i := 85) (by decide +kernel), List.mem_of_getElem? (i := 336) (by decide +kernel), List.mem_of_getElem? (i := 337) (by decide +kernel)⟩
theorem lw_p1 : lw_okq (⟨"TillPairs$Tape", "readStatement", "()V"⟩, 5) := ⟨⟨by decide +kernel, by decide +kernel⟩, List.mem_of_getElem? (i := 85) (by decide +kernel), List.mem_of_getElem? (i := 340) (by decide +kernel), List.mem_of_getElem? (i := 341) (by decide +kernel)⟩
theorem lw_p2 : lw_okq (⟨"TillPairs$Tape", "endOfName", "()I"⟩, 5) := ⟨⟨by decide +kernel, by decide +kernel⟩, List.mem_of_getElem? (i := 85) (by decide +kernel), List.mem_of_getElem? (i := 344) (by decide +kernel), List.mem_of_getElem? (i := 345) (by decide +kernel)⟩
theorem lw_p3 : lw_okq (⟨"TillPairs$Tape", "stands", "(Ljava/lang/String;I)Z"⟩, 5) := ⟨⟨by decide +kernel, by decide +kernel⟩, List.mem_of_getElem? (i := 85) (by decide +kernel), List.mem_of_getElem? (i := 363) (by decide +kernel), List.mem_of_getElem? (i := 364) (by decide +kernel)⟩
theorem lw_p4 : lw_okq (⟨"TillPairs$Tape", "fail", "(I)V"⟩, 5) := ⟨⟨by decide +kernel, by decide +kernel⟩, List.mem_of_getElem? (i := 85) (by decide +kernel), List.mem_of_getElem? (i := 415) (by decide +kernel), List.mem_of_getElem? (i := 416) (by decide +kernel)⟩
theorem lw_p5 : lw_okq (⟨"TillPairs$Tape", "readKin", "()V"⟩, 5) := ⟨⟨by decide +kernel, by decide +kernel⟩, List.mem_of_getElem? (i := 85) (by decide +kernel), List.mem_of_getElem? (i := 426) (by decide +kernel), List.mem_of_getElem? (i := 427) (by decide +kernel)⟩
theorem lw_p6 : lw_okq (⟨"TillPairs$Tape", "readNumber", "(II)I"⟩, 5) := ⟨⟨by decide +kernel, by decide +kernel⟩, List.mem_of_getElem? (i := 85) (by decide +kernel), List.mem_of_getElem? (i := 430) (by decide +kernel), List.mem_of_getElem? (i := 431) (by decide +kernel)⟩
theorem lw_p7 : lw_okq (⟨"TillPairs$Tape", "readTrust", "()V"⟩, 5) := ⟨⟨by decide +kernel, by decide +kernel⟩, List.mem_of_getElem? (i := 85) (by decide +kernel), List.mem_of_getElem? (i := 445) (by decide +kernel), List.mem_of_getElem? (i := 446) (by decide +kernel)⟩
theorem lw_p8 : lw_okq (⟨"TillPairs$Tape", "readAway", "()V"⟩, 5) := ⟨⟨by decide +kernel, by decide +kernel⟩, List.mem_of_getElem? (i := 85) (by decide +kernel), List.mem_of_getElem? (i := 452) (by decide +kernel), List.mem_of_getElem? (i := 453) (by decide +kernel)⟩
theorem lw_p9 : lw_okq (⟨"TillPairs$Tape", "readWord", "(Ljava/lang/String;)V"⟩, 5) := ⟨⟨by decide +kernel, by decide +kernel⟩, List.mem_of_getElem? (i := 85) (by decide +kernel), List.mem_of_getElem? (i := 457) (by decide +kernel), List.mem_of_getElem? (i := 458) (by decide +kernel)⟩
theorem lw_p10 : lw_okq (⟨"TillPairs$Tape", "readLaw", "(I)V"⟩, 5) := ⟨⟨by decide +kernel, by decide +kernel⟩, List.mem_of_getElem? (i := 85) (by decide +kernel), List.mem_of_getElem? (i := 470) (by decide +kernel), List.mem_of_getElem? (i := 471) (by decide +kernel)⟩
theorem lw_p11 : lw_okq (⟨"TillPairs$Tape", "readEnd", "()V"⟩, 5) := ⟨⟨by decide +kernel, by decide +kernel⟩, List.mem_of_getElem? (i := 85) (by decide +kernel), List.mem_of_getElem? (i := 476) (by decide +kernel), List.mem_of_getElem? (i := 477) (by decide +kernel)⟩
theorem lw_p12 : lw_okq (⟨"TillPairs$Judge", "worthIf", "(IZ)I"⟩, 1) := ⟨⟨by decide +kernel, by decide +kernel⟩, List.mem_of_getElem? (i := 110) (by decide +kernel), List.mem_of_getElem? (i := 609) (by decide +kernel), List.mem_of_getElem? (i := 610) (by decide +kernel)⟩
theorem lw_p13 : lw_okq (⟨"TillPairs$Judge", "payingDaysBy", "(I)I"⟩, 1) := ⟨⟨by decide +kernel, by decide +kernel⟩, List.mem_of_getElem? (i := 110) (by decide +kernel), List.mem_of_getElem? (i := 626) (by decide +kernel), List.mem_of_getElem? (i := 627) (by decide +kernel)⟩
theorem lw_p14 : lw_okq (⟨"TillPairs$Odds", "reduce", "()V"⟩, 4) := ⟨⟨by decide +kernel, by decide +kernel⟩, List.mem_of_getElem? (i := 120) (by decide +kernel), List.mem_of_getElem? (i := 654) (by decide +kernel), List.mem_of_getElem? (i := 655) (by decide +kernel)⟩
theorem lw_p15 : lw_okq (⟨"TillPairs$Judge", "somebodyIsAway", "(I)Z"⟩, 1) := ⟨⟨by decide +kernel, by decide +kernel⟩, List.mem_of_getElem? (i := 110) (by decide +kernel), List.mem_of_getElem? (i := 682) (by decide +kernel), List.mem_of_getElem? (i := 683) (by decide +kernel)⟩
def lw_privs_1 : List (MethodName × Nat) := [(⟨"TillPairs$Tape", "skipBlanks", "()V"⟩, 5), (⟨"TillPairs$Tape", "readStatement", "()V"⟩, 5), (⟨"TillPairs$Tape", "endOfName", "()I"⟩, 5), (⟨"TillPairs$Tape", "stands", "(Ljava/lang/String;I)Z"⟩, 5), (⟨"TillPairs$Tape", "fail", "(I)V"⟩, 5), (⟨"TillPairs$Tape", "readKin", "()V"⟩, 5), (⟨"TillPairs$Tape", "readNumber", "(II)I"⟩, 5), (⟨"TillPairs$Tape", "readTrust", "()V"⟩, 5), (⟨"TillPairs$Tape", "readAway", "()V"⟩, 5), (⟨"TillPairs$Tape", "readWord", "(Ljava/lang/String;)V"⟩, 5), (⟨"TillPairs$Tape", "readLaw", "(I)V"⟩, 5), (⟨"TillPairs$Tape", "readEnd", "()V"⟩, 5), (⟨"TillPairs$Judge", "worthIf", "(IZ)I"⟩, 1), (⟨"TillPairs$Judge", "payingDaysBy", "(I)I"⟩, 1), (⟨"TillPairs$Odds", "reduce", "()V"⟩, 4), (⟨"TillPairs$Judge", "somebodyIsAway", "(I)Z"⟩, 1)]
theorem lw_r1 : ∀ q ∈ lw_privs_1, lw_okq q := List.forall_mem_cons.mpr ⟨lw_p0, List.forall_mem_cons.mpr ⟨lw_p1, List.forall_mem_cons.mpr ⟨lw_p2, List.forall_mem_cons.mpr ⟨lw_p3, List.forall_mem_cons.mpr ⟨lw_p4, List.forall_mem_cons.mpr ⟨lw_p5, List.forall_mem_cons.mpr ⟨lw_p6, List.forall_mem_cons.mpr ⟨lw_p7, List.forall_mem_cons.mpr ⟨lw_p8, List.forall_mem_cons.mpr ⟨lw_p9, List.forall_mem_cons.mpr ⟨lw_p10, List.forall_mem_cons.mpr ⟨lw_p11, List.forall_mem_cons.mpr ⟨lw_p12, List.forall_mem_cons.mpr ⟨lw_p13, List.forall_mem_cons.mpr ⟨lw_p14, List.forall_mem_cons.mpr ⟨lw_p15, fun _ h => absurd h List.not_mem_nil⟩⟩⟩⟩⟩⟩⟩⟩⟩⟩⟩⟩⟩⟩⟩⟩
theorem lw_p16 : lw_okq (⟨"TillPairs$Judge", "somebodyIsTwice", "(I)Z"⟩, 1) := ⟨⟨by decide +kernel, by decide +kernel⟩, List.mem_of_getElem? (i := 110) (by decide +kernel), List.mem_of_getElem? (i := 687) (by decide +kernel), List.mem_of_getElem? (i := 688) (by decide +kernel)⟩
theorem lw_p17 : lw_okq (⟨"TillPairs$Ways", "maySit", "(III)Z"⟩, 7) := ⟨⟨by decide +kernel, by decide +kernel⟩, List.mem_of_getElem? (i := 141) (by decide +kernel), List.mem_of_getElem? (i := 709) (by decide +kernel), List.mem_of_getElem? (i := 710) (by decide +kernel)⟩
theorem lw_p18 : lw_okq (⟨"TillPairs$Ways", "mendBy", "(III)V"⟩, 7) := ⟨⟨by decide +kernel, by decide +kernel⟩, List.mem_of_getElem? (i := 141) (by decide +kernel), List.mem_of_getElem? (i := 717) (by decide +kernel), List.mem_of_getElem? (i := 718) (by decide +kernel)⟩
theorem lw_p19 : lw_okq (⟨"TillPairs$Ways", "change", "(III)I"⟩, 7) := ⟨⟨by decide +kernel, by decide +kernel⟩, List.mem_of_getElem? (i := 141) (by decide +kernel), List.mem_of_getElem? (i := 722) (by decide +kernel), List.mem_of_getElem? (i := 723) (by decide +kernel)⟩
theorem lw_p20 : lw_okq (⟨"TillPairs$Ways", "isFree", "(III)Z"⟩, 7) := ⟨⟨by decide +kernel, by decide +kernel⟩, List.mem_of_getElem? (i := 141) (by decide +kernel), List.mem_of_getElem? (i := 727) (by decide +kernel), List.mem_of_getElem? (i := 728) (by decide +kernel)⟩
theorem lw_p21 : lw_okq (⟨"TillPairs$Ways", "wouldPay", "(IIIII)Z"⟩, 7) := ⟨⟨by decide +kernel, by decide +kernel⟩, List.mem_of_getElem? (i := 141) (by decide +kernel), List.mem_of_getElem? (i := 731) (by decide +kernel), List.mem_of_getElem? (i := 732) (by decide +kernel)⟩
theorem lw_p22 : lw_okq (⟨"TillPairs$Ways", "mostTrust", "(II)I"⟩, 7) := ⟨⟨by decide +kernel, by decide +kernel⟩, List.mem_of_getElem? (i := 141) (by decide +kernel), List.mem_of_getElem? (i := 748) (by decide +kernel), List.mem_of_getElem? (i := 749) (by decide +kernel)⟩
theorem lw_p23 : lw_okq (⟨"TillPairs$Ways", "standsBehindChosen", "(II)Z"⟩, 7) := ⟨⟨by decide +kernel, by decide +kernel⟩, List.mem_of_getElem? (i := 141) (by decide +kernel), List.mem_of_getElem? (i := 755) (by decide +kernel), List.mem_of_getElem? (i := 756) (by decide +kernel)⟩
theorem lw_p24 : lw_okq (⟨"TillPairs$Plans", "seatTold", "(LTillPairs$House;I)Z"⟩, 5) := ⟨⟨by decide +kernel, by decide +kernel⟩, List.mem_of_getElem? (i := 173) (by decide +kernel), List.mem_of_getElem? (i := 830) (by decide +kernel), List.mem_of_getElem? (i := 831) (by decide +kernel)⟩
theorem lw_p25 : lw_okq (⟨"TillPairs$Plans", "presentFor", "(LTillPairs$House;II)I"⟩, 5) := ⟨⟨by decide +kernel, by decide +kernel⟩, List.mem_of_getElem? (i := 173) (by decide +kernel), List.mem_of_getElem? (i := 835) (by decide +kernel), List.mem_of_getElem? (i := 836) (by decide +kernel)⟩
theorem lw_p26 : lw_okq (⟨"TillPairs$Plans", "seatByTurn", "(LTillPairs$House;II)V"⟩, 5) := ⟨⟨by decide +kernel, by decide +kernel⟩, List.mem_of_getElem? (i := 173) (by decide +kernel), List.mem_of_getElem? (i := 841) (by decide +kernel), List.mem_of_getElem? (i := 842) (by decide +kernel)⟩
theorem lw_p27 : lw_okq (⟨"TillPairs$Plans", "seatByDraw", "(I)V"⟩, 5) := ⟨⟨by decide +kernel, by decide +kernel⟩, List.mem_of_getElem? (i := 173) (by decide +kernel), List.mem_of_getElem? (i := 857) (by decide +kernel), List.mem_of_getElem? (i := 858) (by decide +kernel)⟩
theorem lw_p28 : lw_okq (⟨"TillPairs$Plans", "drawFrom", "(I)I"⟩, 5) := ⟨⟨by decide +kernel, by decide +kernel⟩, List.mem_of_getElem? (i := 173) (by decide +kernel), List.mem_of_getElem? (i := 862) (by decide +kernel), List.mem_of_getElem? (i := 863) (by decide +kernel)⟩
theorem lw_p29 : lw_okq (⟨"TillPairs$Plans", "seatStranger", "(LTillPairs$House;I)V"⟩, 5) := ⟨⟨by decide +kernel, by decide +kernel⟩, List.mem_of_getElem? (i := 173) (by decide +kernel), List.mem_of_getElem? (i := 866) (by decide +kernel), List.mem_of_getElem? (i := 867) (by decide +kernel)⟩
theorem lw_p30 : lw_okq (⟨"TillPairs$Plans", "sitDown", "(LTillPairs$House;I)I"⟩, 5) := ⟨⟨by decide +kernel, by decide +kernel⟩, List.mem_of_getElem? (i := 173) (by decide +kernel), List.mem_of_getElem? (i := 870) (by decide +kernel), List.mem_of_getElem? (i := 871) (by decide +kernel)⟩
theorem lw_p31 : lw_okq (⟨"TillPairs$Rows", "due", "(II)I"⟩, 4) := ⟨⟨by decide +kernel, by decide +kernel⟩, List.mem_of_getElem? (i := 199) (by decide +kernel), List.mem_of_getElem? (i := 887) (by decide +kernel), List.mem_of_getElem? (i := 888) (by decide +kernel)⟩
def lw_privs_2 : List (MethodName × Nat) := [(⟨"TillPairs$Judge", "somebodyIsTwice", "(I)Z"⟩, 1), (⟨"TillPairs$Ways", "maySit", "(III)Z"⟩, 7), (⟨"TillPairs$Ways", "mendBy", "(III)V"⟩, 7), (⟨"TillPairs$Ways", "change", "(III)I"⟩, 7), (⟨"TillPairs$Ways", "isFree", "(III)Z"⟩, 7), (⟨"TillPairs$Ways", "wouldPay", "(IIIII)Z"⟩, 7), (⟨"TillPairs$Ways", "mostTrust", "(II)I"⟩, 7), (⟨"TillPairs$Ways", "standsBehindChosen", "(II)Z"⟩, 7), (⟨"TillPairs$Plans", "seatTold", "(LTillPairs$House;I)Z"⟩, 5), (⟨"TillPairs$Plans", "presentFor", "(LTillPairs$House;II)I"⟩, 5), (⟨"TillPairs$Plans", "seatByTurn", "(LTillPairs$House;II)V"⟩, 5), (⟨"TillPairs$Plans", "seatByDraw", "(I)V"⟩, 5), (⟨"TillPairs$Plans", "drawFrom", "(I)I"⟩, 5), (⟨"TillPairs$Plans", "seatStranger", "(LTillPairs$House;I)V"⟩, 5), (⟨"TillPairs$Plans", "sitDown", "(LTillPairs$House;I)I"⟩, 5), (⟨"TillPairs$Rows", "due", "(II)I"⟩, 4)]
theorem lw_r2 : ∀ q ∈ lw_privs_2, lw_okq q := List.forall_mem_cons.mpr ⟨lw_p16, List.forall_mem_cons.mpr ⟨lw_p17, List.forall_mem_cons.mpr ⟨lw_p18, List.forall_mem_cons.mpr ⟨lw_p19, List.forall_mem_cons.mpr ⟨lw_p20, List.forall_mem_cons.mpr ⟨lw_p21, List.forall_mem_cons.mpr ⟨lw_p22, List.forall_mem_cons.mpr ⟨lw_p23, List.forall_mem_cons.mpr ⟨lw_p24, List.forall_mem_cons.mpr ⟨lw_p25, List.forall_mem_cons.mpr ⟨lw_p26, List.forall_mem_cons.mpr ⟨lw_p27, List.forall_mem_cons.mpr ⟨lw_p28, List.forall_mem_cons.mpr ⟨lw_p29, List.forall_mem_cons.mpr ⟨lw_p30, List.forall_mem_cons.mpr ⟨lw_p31, fun _ h => absurd h List.not_mem_nil⟩⟩⟩⟩⟩⟩⟩⟩⟩⟩⟩⟩⟩⟩⟩⟩
theorem lw_p32 : lw_okq (⟨"TillPairs", "planOn", "(I)I"⟩, 12) := ⟨⟨by decide +kernel, by decide +kernel⟩, List.mem_of_getElem? (i := 21) (by decide +kernel), List.mem_of_getElem? (i := 965) (by decide +kernel), List.mem_of_getElem? (i := 966) (by decide +kernel)⟩
theorem lw_p33 : lw_okq (⟨"TillPairs$Acts", "note", "(I)V"⟩, 6) := ⟨⟨by decide +kernel, by decide +kernel⟩, List.mem_of_getElem? (i := 220) (by decide +kernel), List.mem_of_getElem? (i := 998) (by decide +kernel), List.mem_of_getElem? (i := 999) (by decide +kernel)⟩
theorem lw_p34 : lw_okq (⟨"TillPairs$Acts", "share", "(I)I"⟩, 6) := ⟨⟨by decide +kernel, by decide +kernel⟩, List.mem_of_getElem? (i := 220) (by decide +kernel), List.mem_of_getElem? (i := 1002) (by decide +kernel), List.mem_of_getElem? (i := 1003) (by decide +kernel)⟩
theorem lw_p35 : lw_okq (⟨"TillPairsModel", "advance", "()V"⟩, 51) := ⟨⟨by decide +kernel, by decide +kernel⟩, List.mem_of_getElem? (i := 1034) (by decide +kernel), List.mem_of_getElem? (i := 1207) (by decide +kernel), List.mem_of_getElem? (i := 1208) (by decide +kernel)⟩
theorem lw_p36 : lw_okq (⟨"TillPairsModel", "byteAt", "(I)I"⟩, 51) := ⟨⟨by decide +kernel, by decide +kernel⟩, List.mem_of_getElem? (i := 1034) (by decide +kernel), List.mem_of_getElem? (i := 1211) (by decide +kernel), List.mem_of_getElem? (i := 1212) (by decide +kernel)⟩
theorem lw_p37 : lw_okq (⟨"TillPairsModel", "wantClause", "()V"⟩, 51) := ⟨⟨by decide +kernel, by decide +kernel⟩, List.mem_of_getElem? (i := 1034) (by decide +kernel), List.mem_of_getElem? (i := 1224) (by decide +kernel), List.mem_of_getElem? (i := 1225) (by decide +kernel)⟩
theorem lw_p38 : lw_okq (⟨"TillPairsModel", "isWord", "(J)Z"⟩, 51) := ⟨⟨by decide +kernel, by decide +kernel⟩, List.mem_of_getElem? (i := 1034) (by decide +kernel), List.mem_of_getElem? (i := 1229) (by decide +kernel), List.mem_of_getElem? (i := 1230) (by decide +kernel)⟩
theorem lw_p39 : lw_okq (⟨"TillPairsModel", "wantEnd", "()V"⟩, 51) := ⟨⟨by decide +kernel, by decide +kernel⟩, List.mem_of_getElem? (i := 1034) (by decide +kernel), List.mem_of_getElem? (i := 1233) (by decide +kernel), List.mem_of_getElem? (i := 1234) (by decide +kernel)⟩
theorem lw_p40 : lw_okq (⟨"TillPairsModel", "isMark", "(I)Z"⟩, 51) := ⟨⟨by decide +kernel, by decide +kernel⟩, List.mem_of_getElem? (i := 1034) (by decide +kernel), List.mem_of_getElem? (i := 1237) (by decide +kernel), List.mem_of_getElem? (i := 1238) (by decide +kernel)⟩
theorem lw_p41 : lw_okq (⟨"TillPairsModel", "wantTwo", "(Z)V"⟩, 51) := ⟨⟨by decide +kernel, by decide +kernel⟩, List.mem_of_getElem? (i := 1034) (by decide +kernel), List.mem_of_getElem? (i := 1243) (by decide +kernel), List.mem_of_getElem? (i := 1244) (by decide +kernel)⟩
theorem lw_p42 : lw_okq (⟨"TillPairsModel", "wantNumber", "(II)I"⟩, 51) := ⟨⟨by decide +kernel, by decide +kernel⟩, List.mem_of_getElem? (i := 1034) (by decide +kernel), List.mem_of_getElem? (i := 1247) (by decide +kernel), List.mem_of_getElem? (i := 1248) (by decide +kernel)⟩
theorem lw_p43 : lw_okq (⟨"TillPairsModel", "wantAway", "()V"⟩, 51) := ⟨⟨by decide +kernel, by decide +kernel⟩, List.mem_of_getElem? (i := 1034) (by decide +kernel), List.mem_of_getElem? (i := 1252) (by decide +kernel), List.mem_of_getElem? (i := 1253) (by decide +kernel)⟩
theorem lw_p44 : lw_okq (⟨"TillPairsModel", "wantWord", "(J)V"⟩, 51) := ⟨⟨by decide +kernel, by decide +kernel⟩, List.mem_of_getElem? (i := 1034) (by decide +kernel), List.mem_of_getElem? (i := 1257) (by decide +kernel), List.mem_of_getElem? (i := 1258) (by decide +kernel)⟩
theorem lw_p45 : lw_okq (⟨"TillPairsModel", "lawHere", "()I"⟩, 51) := ⟨⟨by decide +kernel, by decide +kernel⟩, List.mem_of_getElem? (i := 1034) (by decide +kernel), List.mem_of_getElem? (i := 1262) (by decide +kernel), List.mem_of_getElem? (i := 1263) (by decide +kernel)⟩
theorem lw_p46 : lw_okq (⟨"TillPairsModel", "areTwo", "(II)Z"⟩, 51) := ⟨⟨by decide +kernel, by decide +kernel⟩, List.mem_of_getElem? (i := 1034) (by decide +kernel), List.mem_of_getElem? (i := 1282) (by decide +kernel), List.mem_of_getElem? (i := 1283) (by decide +kernel)⟩
theorem lw_p47 : lw_okq (⟨"TillPairsModel", "isPerson", "(I)Z"⟩, 51) := ⟨⟨by decide +kernel, by decide +kernel⟩, List.mem_of_getElem? (i := 1034) (by decide +kernel), List.mem_of_getElem? (i := 1286) (by decide +kernel), List.mem_of_getElem? (i := 1287) (by decide +kernel)⟩
def lw_privs_3 : List (MethodName × Nat) := [(⟨"TillPairs", "planOn", "(I)I"⟩, 12), (⟨"TillPairs$Acts", "note", "(I)V"⟩, 6), (⟨"TillPairs$Acts", "share", "(I)I"⟩, 6), (⟨"TillPairsModel", "advance", "()V"⟩, 51), (⟨"TillPairsModel", "byteAt", "(I)I"⟩, 51), (⟨"TillPairsModel", "wantClause", "()V"⟩, 51), (⟨"TillPairsModel", "isWord", "(J)Z"⟩, 51), (⟨"TillPairsModel", "wantEnd", "()V"⟩, 51), (⟨"TillPairsModel", "isMark", "(I)Z"⟩, 51), (⟨"TillPairsModel", "wantTwo", "(Z)V"⟩, 51), (⟨"TillPairsModel", "wantNumber", "(II)I"⟩, 51), (⟨"TillPairsModel", "wantAway", "()V"⟩, 51), (⟨"TillPairsModel", "wantWord", "(J)V"⟩, 51), (⟨"TillPairsModel", "lawHere", "()I"⟩, 51), (⟨"TillPairsModel", "areTwo", "(II)Z"⟩, 51), (⟨"TillPairsModel", "isPerson", "(I)Z"⟩, 51)]
theorem lw_r3 : ∀ q ∈ lw_privs_3, lw_okq q := List.forall_mem_cons.mpr ⟨lw_p32, List.forall_mem_cons.mpr ⟨lw_p33, List.forall_mem_cons.mpr ⟨lw_p34, List.forall_mem_cons.mpr ⟨lw_p35, List.forall_mem_cons.mpr ⟨lw_p36, List.forall_mem_cons.mpr ⟨lw_p37, List.forall_mem_cons.mpr ⟨lw_p38, List.forall_mem_cons.mpr ⟨lw_p39, List.forall_mem_cons.mpr ⟨lw_p40, List.forall_mem_cons.mpr ⟨lw_p41, List.forall_mem_cons.mpr ⟨lw_p42, List.forall_mem_cons.mpr ⟨lw_p43, List.forall_mem_cons.mpr ⟨lw_p44, List.forall_mem_cons.mpr ⟨lw_p45, List.forall_mem_cons.mpr ⟨lw_p46, List.forall_mem_cons.mpr ⟨lw_p47, fun _ h => absurd h List.not_mem_nil⟩⟩⟩⟩⟩⟩⟩⟩⟩⟩⟩⟩⟩⟩⟩⟩
theorem lw_p48 : lw_okq (⟨"TillPairsModel", "areKin", "(II)Z"⟩, 51) := ⟨⟨by decide +kernel, by decide +kernel⟩, List.mem_of_getElem? (i := 1034) (by decide +kernel), List.mem_of_getElem? (i := 1290) (by decide +kernel), List.mem_of_getElem? (i := 1291) (by decide +kernel)⟩
theorem lw_p49 : lw_okq (⟨"TillPairsModel", "isAway", "(II)Z"⟩, 51) := ⟨⟨by decide +kernel, by decide +kernel⟩, List.mem_of_getElem? (i := 1034) (by decide +kernel), List.mem_of_getElem? (i := 1305) (by decide +kernel), List.mem_of_getElem? (i := 1306) (by decide +kernel)⟩
theorem lw_p50 : lw_okq (⟨"TillPairsModel", "trustOf", "(III)I"⟩, 51) := ⟨⟨by decide +kernel, by decide +kernel⟩, List.mem_of_getElem? (i := 1034) (by decide +kernel), List.mem_of_getElem? (i := 1346) (by decide +kernel), List.mem_of_getElem? (i := 1347) (by decide +kernel)⟩
theorem lw_p51 : lw_okq (⟨"TillPairsModel", "twoOn", "(I)I"⟩, 51) := ⟨⟨by decide +kernel, by decide +kernel⟩, List.mem_of_getElem? (i := 1034) (by decide +kernel), List.mem_of_getElem? (i := 1350) (by decide +kernel), List.mem_of_getElem? (i := 1351) (by decide +kernel)⟩
theorem lw_p52 : lw_okq (⟨"TillPairsModel", "isSurprise", "(I)Z"⟩, 51) := ⟨⟨by decide +kernel, by decide +kernel⟩, List.mem_of_getElem? (i := 1034) (by decide +kernel), List.mem_of_getElem? (i := 1361) (by decide +kernel), List.mem_of_getElem? (i := 1362) (by decide +kernel)⟩
theorem lw_p53 : lw_okq (⟨"TillPairsModel", "seenBy", "(IZ)I"⟩, 51) := ⟨⟨by decide +kernel, by decide +kernel⟩, List.mem_of_getElem? (i := 1034) (by decide +kernel), List.mem_of_getElem? (i := 1365) (by decide +kernel), List.mem_of_getElem? (i := 1366) (by decide +kernel)⟩
theorem lw_p54 : lw_okq (⟨"TillPairsModel", "isNeither", "(III)Z"⟩, 51) := ⟨⟨by decide +kernel, by decide +kernel⟩, List.mem_of_getElem? (i := 1034) (by decide +kernel), List.mem_of_getElem? (i := 1369) (by decide +kernel), List.mem_of_getElem? (i := 1370) (by decide +kernel)⟩
theorem lw_p55 : lw_okq (⟨"TillPairsModel", "worthBy", "(IZ)I"⟩, 51) := ⟨⟨by decide +kernel, by decide +kernel⟩, List.mem_of_getElem? (i := 1034) (by decide +kernel), List.mem_of_getElem? (i := 1377) (by decide +kernel), List.mem_of_getElem? (i := 1378) (by decide +kernel)⟩
theorem lw_p56 : lw_okq (⟨"TillPairsModel", "paysBy", "(IZI)Z"⟩, 51) := ⟨⟨by decide +kernel, by decide +kernel⟩, List.mem_of_getElem? (i := 1034) (by decide +kernel), List.mem_of_getElem? (i := 1385) (by decide +kernel), List.mem_of_getElem? (i := 1386) (by decide +kernel)⟩
theorem lw_p57 : lw_okq (⟨"TillPairsModel", "lowest", "(JJ)V"⟩, 51) := ⟨⟨by decide +kernel, by decide +kernel⟩, List.mem_of_getElem? (i := 1034) (by decide +kernel), List.mem_of_getElem? (i := 1397) (by decide +kernel), List.mem_of_getElem? (i := 1398) (by decide +kernel)⟩
theorem lw_p58 : lw_okq (⟨"TillPairsModel", "brokenOn", "(I)I"⟩, 51) := ⟨⟨by decide +kernel, by decide +kernel⟩, List.mem_of_getElem? (i := 1034) (by decide +kernel), List.mem_of_getElem? (i := 1413) (by decide +kernel), List.mem_of_getElem? (i := 1414) (by decide +kernel)⟩
theorem lw_p59 : lw_okq (⟨"TillPairsModel", "keepsPosts", "(II)V"⟩, 51) := ⟨⟨by decide +kernel, by decide +kernel⟩, List.mem_of_getElem? (i := 1034) (by decide +kernel), List.mem_of_getElem? (i := 1421) (by decide +kernel), List.mem_of_getElem? (i := 1422) (by decide +kernel)⟩
theorem lw_p60 : lw_okq (⟨"TillPairsModel", "comes", "(II)Z"⟩, 51) := ⟨⟨by decide +kernel, by decide +kernel⟩, List.mem_of_getElem? (i := 1034) (by decide +kernel), List.mem_of_getElem? (i := 1425) (by decide +kernel), List.mem_of_getElem? (i := 1426) (by decide +kernel)⟩
theorem lw_p61 : lw_okq (⟨"TillPairsModel", "givesPosts", "(II)V"⟩, 51) := ⟨⟨by decide +kernel, by decide +kernel⟩, List.mem_of_getElem? (i := 1034) (by decide +kernel), List.mem_of_getElem? (i := 1429) (by decide +kernel), List.mem_of_getElem? (i := 1430) (by decide +kernel)⟩
theorem lw_p62 : lw_okq (⟨"TillPairsModel", "sits", "(II)Z"⟩, 51) := ⟨⟨by decide +kernel, by decide +kernel⟩, List.mem_of_getElem? (i := 1034) (by decide +kernel), List.mem_of_getElem? (i := 1437) (by decide +kernel), List.mem_of_getElem? (i := 1438) (by decide +kernel)⟩
theorem lw_p63 : lw_okq (⟨"TillPairsModel", "satOn", "(II)I"⟩, 51) := ⟨⟨by decide +kernel, by decide +kernel⟩, List.mem_of_getElem? (i := 1034) (by decide +kernel), List.mem_of_getElem? (i := 1445) (by decide +kernel), List.mem_of_getElem? (i := 1446) (by decide +kernel)⟩
def lw_privs_4 : List (MethodName × Nat) := [(⟨"TillPairsModel", "areKin", "(II)Z"⟩, 51), (⟨"TillPairsModel", "isAway", "(II)Z"⟩, 51), (⟨"TillPairsModel", "trustOf", "(III)I"⟩, 51), (⟨"TillPairsModel", "twoOn", "(I)I"⟩, 51), (⟨"TillPairsModel", "isSurprise", "(I)Z"⟩, 51), (⟨"TillPairsModel", "seenBy", "(IZ)I"⟩, 51), (⟨"TillPairsModel", "isNeither", "(III)Z"⟩, 51), (⟨"TillPairsModel", "worthBy", "(IZ)I"⟩, 51), (⟨"TillPairsModel", "paysBy", "(IZI)Z"⟩, 51), (⟨"TillPairsModel", "lowest", "(JJ)V"⟩, 51), (⟨"TillPairsModel", "brokenOn", "(I)I"⟩, 51), (⟨"TillPairsModel", "keepsPosts", "(II)V"⟩, 51), (⟨"TillPairsModel", "comes", "(II)Z"⟩, 51), (⟨"TillPairsModel", "givesPosts", "(II)V"⟩, 51), (⟨"TillPairsModel", "sits", "(II)Z"⟩, 51), (⟨"TillPairsModel", "satOn", "(II)I"⟩, 51)]
theorem lw_r4 : ∀ q ∈ lw_privs_4, lw_okq q := List.forall_mem_cons.mpr ⟨lw_p48, List.forall_mem_cons.mpr ⟨lw_p49, List.forall_mem_cons.mpr ⟨lw_p50, List.forall_mem_cons.mpr ⟨lw_p51, List.forall_mem_cons.mpr ⟨lw_p52, List.forall_mem_cons.mpr ⟨lw_p53, List.forall_mem_cons.mpr ⟨lw_p54, List.forall_mem_cons.mpr ⟨lw_p55, List.forall_mem_cons.mpr ⟨lw_p56, List.forall_mem_cons.mpr ⟨lw_p57, List.forall_mem_cons.mpr ⟨lw_p58, List.forall_mem_cons.mpr ⟨lw_p59, List.forall_mem_cons.mpr ⟨lw_p60, List.forall_mem_cons.mpr ⟨lw_p61, List.forall_mem_cons.mpr ⟨lw_p62, List.forall_mem_cons.mpr ⟨lw_p63, fun _ h => absurd h List.not_mem_nil⟩⟩⟩⟩⟩⟩⟩⟩⟩⟩⟩⟩⟩⟩⟩⟩
theorem lw_p64 : lw_okq (⟨"TillPairsModel", "sitting", "()I"⟩, 51) := ⟨⟨by decide +kernel, by decide +kernel⟩, List.mem_of_getElem? (i := 1034) (by decide +kernel), List.mem_of_getElem? (i := 1453) (by decide +kernel), List.mem_of_getElem? (i := 1454) (by decide +kernel)⟩
theorem lw_p65 : lw_okq (⟨"TillPairsModel", "isPlan", "(I)Z"⟩, 51) := ⟨⟨by decide +kernel, by decide +kernel⟩, List.mem_of_getElem? (i := 1034) (by decide +kernel), List.mem_of_getElem? (i := 1472) (by decide +kernel), List.mem_of_getElem? (i := 1473) (by decide +kernel)⟩
theorem lw_p66 : lw_okq (⟨"TillPairsModel", "fillsTold", "(I)Z"⟩, 51) := ⟨⟨by decide +kernel, by decide +kernel⟩, List.mem_of_getElem? (i := 1034) (by decide +kernel), List.mem_of_getElem? (i := 1480) (by decide +kernel), List.mem_of_getElem? (i := 1481) (by decide +kernel)⟩
theorem lw_p67 : lw_okq (⟨"TillPairsModel", "fillsTurn", "(II)V"⟩, 51) := ⟨⟨by decide +kernel, by decide +kernel⟩, List.mem_of_getElem? (i := 1034) (by decide +kernel), List.mem_of_getElem? (i := 1484) (by decide +kernel), List.mem_of_getElem? (i := 1485) (by decide +kernel)⟩
theorem lw_p68 : lw_okq (⟨"TillPairsModel", "lastSat", "(III)I"⟩, 51) := ⟨⟨by decide +kernel, by decide +kernel⟩, List.mem_of_getElem? (i := 1034) (by decide +kernel), List.mem_of_getElem? (i := 1488) (by decide +kernel), List.mem_of_getElem? (i := 1489) (by decide +kernel)⟩
theorem lw_p69 : lw_okq (⟨"TillPairsModel", "fillsDraw", "(I)V"⟩, 51) := ⟨⟨by decide +kernel, by decide +kernel⟩, List.mem_of_getElem? (i := 1034) (by decide +kernel), List.mem_of_getElem? (i := 1495) (by decide +kernel), List.mem_of_getElem? (i := 1496) (by decide +kernel)⟩
theorem lw_p70 : lw_okq (⟨"TillPairsModel", "fillsCount", "(I)V"⟩, 51) := ⟨⟨by decide +kernel, by decide +kernel⟩, List.mem_of_getElem? (i := 1034) (by decide +kernel), List.mem_of_getElem? (i := 1500) (by decide +kernel), List.mem_of_getElem? (i := 1501) (by decide +kernel)⟩
theorem lw_p71 : lw_okq (⟨"TillPairsModel", "findRows", "()V"⟩, 51) := ⟨⟨by decide +kernel, by decide +kernel⟩, List.mem_of_getElem? (i := 1034) (by decide +kernel), List.mem_of_getElem? (i := 1512) (by decide +kernel), List.mem_of_getElem? (i := 1513) (by decide +kernel)⟩
theorem lw_p72 : lw_okq (⟨"TillPairsModel", "isRow", "(II)Z"⟩, 51) := ⟨⟨by decide +kernel, by decide +kernel⟩, List.mem_of_getElem? (i := 1034) (by decide +kernel), List.mem_of_getElem? (i := 1520) (by decide +kernel), List.mem_of_getElem? (i := 1521) (by decide +kernel)⟩
theorem lw_p73 : lw_okq (⟨"TillPairsModel", "lacksSort", "(II)I"⟩, 51) := ⟨⟨by decide +kernel, by decide +kernel⟩, List.mem_of_getElem? (i := 1034) (by decide +kernel), List.mem_of_getElem? (i := 1539) (by decide +kernel), List.mem_of_getElem? (i := 1540) (by decide +kernel)⟩
theorem lw_p74 : lw_okq (⟨"TillPairsModel", "isHeld", "(II)Z"⟩, 51) := ⟨⟨by decide +kernel, by decide +kernel⟩, List.mem_of_getElem? (i := 1034) (by decide +kernel), List.mem_of_getElem? (i := 1559) (by decide +kernel), List.mem_of_getElem? (i := 1560) (by decide +kernel)⟩
theorem lw_p75 : lw_okq (⟨"TillPairsModel", "kindOn", "(I)I"⟩, 51) := ⟨⟨by decide +kernel, by decide +kernel⟩, List.mem_of_getElem? (i := 1034) (by decide +kernel), List.mem_of_getElem? (i := 1567) (by decide +kernel), List.mem_of_getElem? (i := 1568) (by decide +kernel)⟩
theorem lw_p76 : lw_okq (⟨"TillPairsModel", "sitsIt", "(I)I"⟩, 51) := ⟨⟨by decide +kernel, by decide +kernel⟩, List.mem_of_getElem? (i := 1034) (by decide +kernel), List.mem_of_getElem? (i := 1578) (by decide +kernel), List.mem_of_getElem? (i := 1579) (by decide +kernel)⟩
theorem lw_p77 : lw_okq (⟨"TillPairsModel", "ran", "(I)V"⟩, 51) := ⟨⟨by decide +kernel, by decide +kernel⟩, List.mem_of_getElem? (i := 1034) (by decide +kernel), List.mem_of_getElem? (i := 1582) (by decide +kernel), List.mem_of_getElem? (i := 1583) (by decide +kernel)⟩
theorem lw_p78 : lw_okq (⟨"TillPairsModel", "plainSits", "(I)I"⟩, 51) := ⟨⟨by decide +kernel, by decide +kernel⟩, List.mem_of_getElem? (i := 1034) (by decide +kernel), List.mem_of_getElem? (i := 1586) (by decide +kernel), List.mem_of_getElem? (i := 1587) (by decide +kernel)⟩
theorem lw_p79 : lw_okq (⟨"TillPairsModel", "countsIt", "(I)I"⟩, 51) := ⟨⟨by decide +kernel, by decide +kernel⟩, List.mem_of_getElem? (i := 1034) (by decide +kernel), List.mem_of_getElem? (i := 1590) (by decide +kernel), List.mem_of_getElem? (i := 1591) (by decide +kernel)⟩
def lw_privs_5 : List (MethodName × Nat) := [(⟨"TillPairsModel", "sitting", "()I"⟩, 51), (⟨"TillPairsModel", "isPlan", "(I)Z"⟩, 51), (⟨"TillPairsModel", "fillsTold", "(I)Z"⟩, 51), (⟨"TillPairsModel", "fillsTurn", "(II)V"⟩, 51), (⟨"TillPairsModel", "lastSat", "(III)I"⟩, 51), (⟨"TillPairsModel", "fillsDraw", "(I)V"⟩, 51), (⟨"TillPairsModel", "fillsCount", "(I)V"⟩, 51), (⟨"TillPairsModel", "findRows", "()V"⟩, 51), (⟨"TillPairsModel", "isRow", "(II)Z"⟩, 51), (⟨"TillPairsModel", "lacksSort", "(II)I"⟩, 51), (⟨"TillPairsModel", "isHeld", "(II)Z"⟩, 51), (⟨"TillPairsModel", "kindOn", "(I)I"⟩, 51), (⟨"TillPairsModel", "sitsIt", "(I)I"⟩, 51), (⟨"TillPairsModel", "ran", "(I)V"⟩, 51), (⟨"TillPairsModel", "plainSits", "(I)I"⟩, 51), (⟨"TillPairsModel", "countsIt", "(I)I"⟩, 51)]
theorem lw_r5 : ∀ q ∈ lw_privs_5, lw_okq q := List.forall_mem_cons.mpr ⟨lw_p64, List.forall_mem_cons.mpr ⟨lw_p65, List.forall_mem_cons.mpr ⟨lw_p66, List.forall_mem_cons.mpr ⟨lw_p67, List.forall_mem_cons.mpr ⟨lw_p68, List.forall_mem_cons.mpr ⟨lw_p69, List.forall_mem_cons.mpr ⟨lw_p70, List.forall_mem_cons.mpr ⟨lw_p71, List.forall_mem_cons.mpr ⟨lw_p72, List.forall_mem_cons.mpr ⟨lw_p73, List.forall_mem_cons.mpr ⟨lw_p74, List.forall_mem_cons.mpr ⟨lw_p75, List.forall_mem_cons.mpr ⟨lw_p76, List.forall_mem_cons.mpr ⟨lw_p77, List.forall_mem_cons.mpr ⟨lw_p78, List.forall_mem_cons.mpr ⟨lw_p79, fun _ h => absurd h List.not_mem_nil⟩⟩⟩⟩⟩⟩⟩⟩⟩⟩⟩⟩⟩⟩⟩⟩
theorem lw_p80 : lw_okq (⟨"TillPairsModel", "plainCounts", "(I)I"⟩, 51) := ⟨⟨by decide +kernel, by decide +kernel⟩, List.mem_of_getElem? (i := 1034) (by decide +kernel), List.mem_of_getElem? (i := 1594) (by decide +kernel), List.mem_of_getElem? (i := 1595) (by decide +kernel)⟩
theorem lw_p81 : lw_okq (⟨"TillPairsModel", "turnCounts", "(I)I"⟩, 51) := ⟨⟨by decide +kernel, by decide +kernel⟩, List.mem_of_getElem? (i := 1034) (by decide +kernel), List.mem_of_getElem? (i := 1598) (by decide +kernel), List.mem_of_getElem? (i := 1599) (by decide +kernel)⟩
theorem lw_p82 : lw_okq (⟨"TillPairsModel", "sharesIt", "(I)I"⟩, 51) := ⟨⟨by decide +kernel, by decide +kernel⟩, List.mem_of_getElem? (i := 1034) (by decide +kernel), List.mem_of_getElem? (i := 1602) (by decide +kernel), List.mem_of_getElem? (i := 1603) (by decide +kernel)⟩
theorem lw_p83 : lw_okq (⟨"TillPairsModel", "plainShares", "(I)I"⟩, 51) := ⟨⟨by decide +kernel, by decide +kernel⟩, List.mem_of_getElem? (i := 1034) (by decide +kernel), List.mem_of_getElem? (i := 1606) (by decide +kernel), List.mem_of_getElem? (i := 1607) (by decide +kernel)⟩
theorem lw_p84 : lw_okq (⟨"TillPairsModel", "tellsIt", "(I)I"⟩, 51) := ⟨⟨by decide +kernel, by decide +kernel⟩, List.mem_of_getElem? (i := 1034) (by decide +kernel), List.mem_of_getElem? (i := 1610) (by decide +kernel), List.mem_of_getElem? (i := 1611) (by decide +kernel)⟩
theorem lw_p85 : lw_okq (⟨"TillPairsModel", "plainTells", "(I)I"⟩, 51) := ⟨⟨by decide +kernel, by decide +kernel⟩, List.mem_of_getElem? (i := 1034) (by decide +kernel), List.mem_of_getElem? (i := 1614) (by decide +kernel), List.mem_of_getElem? (i := 1615) (by decide +kernel)⟩
theorem lw_p86 : lw_okq (⟨"TillPairsModel", "moveAll", "(Z)V"⟩, 51) := ⟨⟨by decide +kernel, by decide +kernel⟩, List.mem_of_getElem? (i := 1034) (by decide +kernel), List.mem_of_getElem? (i := 1630) (by decide +kernel), List.mem_of_getElem? (i := 1631) (by decide +kernel)⟩
theorem lw_p87 : lw_okq (⟨"TillPairsModel", "move", "([IIZ)V"⟩, 51) := ⟨⟨by decide +kernel, by decide +kernel⟩, List.mem_of_getElem? (i := 1034) (by decide +kernel), List.mem_of_getElem? (i := 1634) (by decide +kernel), List.mem_of_getElem? (i := 1635) (by decide +kernel)⟩
def lw_privs_6 : List (MethodName × Nat) := [(⟨"TillPairsModel", "plainCounts", "(I)I"⟩, 51), (⟨"TillPairsModel", "turnCounts", "(I)I"⟩, 51), (⟨"TillPairsModel", "sharesIt", "(I)I"⟩, 51), (⟨"TillPairsModel", "plainShares", "(I)I"⟩, 51), (⟨"TillPairsModel", "tellsIt", "(I)I"⟩, 51), (⟨"TillPairsModel", "plainTells", "(I)I"⟩, 51), (⟨"TillPairsModel", "moveAll", "(Z)V"⟩, 51), (⟨"TillPairsModel", "move", "([IIZ)V"⟩, 51)]
theorem lw_r6 : ∀ q ∈ lw_privs_6, lw_okq q := List.forall_mem_cons.mpr ⟨lw_p80, List.forall_mem_cons.mpr ⟨lw_p81, List.forall_mem_cons.mpr ⟨lw_p82, List.forall_mem_cons.mpr ⟨lw_p83, List.forall_mem_cons.mpr ⟨lw_p84, List.forall_mem_cons.mpr ⟨lw_p85, List.forall_mem_cons.mpr ⟨lw_p86, List.forall_mem_cons.mpr ⟨lw_p87, fun _ h => absurd h List.not_mem_nil⟩⟩⟩⟩⟩⟩⟩⟩
def lw_privs : List (MethodName × Nat) := lw_privs_1 ++ (lw_privs_2 ++ (lw_privs_3 ++ (lw_privs_4 ++ (lw_privs_5 ++ (lw_privs_6)))))
def lw_tbl : List Cond := k2_sels lw_privs ++ tables_1
theorem lw_privs_ok : ∀ q ∈ lw_privs, lw_okq q := by
  show ∀ q ∈ lw_privs_1 ++ (lw_privs_2 ++ (lw_privs_3 ++ (lw_privs_4 ++ (lw_privs_5 ++ (lw_privs_6))))), lw_okq q
  exact List.forall_mem_append.mpr ⟨lw_r1, List.forall_mem_append.mpr ⟨lw_r2, List.forall_mem_append.mpr ⟨lw_r3, List.forall_mem_append.mpr ⟨lw_r4, List.forall_mem_append.mpr ⟨lw_r5, lw_r6⟩⟩⟩⟩⟩
def RX0 : String := "TillPairs$Acts"
def TX0 : u_T := fun k => match k with
  | 0 => ("TillPairs$Acts", "noted", "[I", true)
  | 1 => ("TillPairs$Acts", "bodies", "I", false)
  | 2 => ("TillPairs$Acts", "kind", "I", false)
  | 3 => ("TillPairs$Acts", "number", "I", false)
  | 4 => ("TillPairs$Acts", "a", "I", false)
  | _ => ("TillPairs$Acts", "parted", "Z", false)
def tyX0 : Nat → FieldType := fun k => match k with
  | 0 => .array .int
  | 1 => .int
  | 2 => .int
  | 3 => .int
  | 4 => .int
  | _ => .boolean
abbrev wsX00 : List Cond := u_ws RX0 TX0 6
theorem nmX0 : ∀ a, a < 6 → ∀ b, b < 6 → a ≠ b → (TX0 a).2.1 ≠ (TX0 b).2.1 := by decide +kernel
theorem tyX0_ok : ∀ k, k < 6 → parseFieldDescriptor (TX0 k).2.2.1 = some (tyX0 k) := by decide +kernel
abbrev cX0_init : ByteArray := prog_2_method_1_code
def yX0_init : MethodName := ⟨RX0, "<init>", "()V"⟩
abbrev cX0_isUnder : ByteArray := prog_2_method_2_code
def yX0_isUnder : MethodName := ⟨RX0, "isUnder", "(II)Z"⟩
abbrev cX0_forget : ByteArray := prog_2_method_3_code
def yX0_forget : MethodName := ⟨RX0, "forget", "()V"⟩
abbrev cX0_perform : ByteArray := prog_2_method_4_code
def yX0_perform : MethodName := ⟨RX0, "perform", "(IIIII)I"⟩
abbrev cX0_bodyOf : ByteArray := prog_2_method_5_code
def yX0_bodyOf : MethodName := ⟨RX0, "bodyOf", "(II)I"⟩
abbrev cX0_run : ByteArray := prog_2_method_6_code
def yX0_run : MethodName := ⟨RX0, "run", "(LTillPairs$Acts;III)I"⟩
abbrev cX0_share : ByteArray := prog_2_method_7_code
def yX0_share : MethodName := ⟨RX0, "share", "(I)I"⟩
abbrev cX0_note : ByteArray := prog_2_method_8_code
def yX0_note : MethodName := ⟨RX0, "note", "(I)V"⟩
def RX1 : String := "TillPairs$Host"
def TX1 : u_T := fun k => match k with
  | 0 => ("TillPairs$Host", "sorts", "[I", true)
  | 1 => ("TillPairs$Host", "lengths", "[I", true)
  | 2 => ("TillPairs$Host", "items", "[[I", true)
  | 3 => ("TillPairs$Host", "heldWhat", "[I", true)
  | 4 => ("TillPairs$Host", "heldSort", "[I", true)
  | _ => ("TillPairs$Host", "held", "[I", true)
def tyX1 : Nat → FieldType := fun k => match k with
  | 0 => .array .int
  | 1 => .array .int
  | 2 => .array (.array .int)
  | 3 => .array .int
  | 4 => .array .int
  | _ => .array .int
abbrev wsX10 : List Cond := u_ws RX1 TX1 6
theorem nmX1 : ∀ a, a < 6 → ∀ b, b < 6 → a ≠ b → (TX1 a).2.1 ≠ (TX1 b).2.1 := by decide +kernel
theorem tyX1_ok : ∀ k, k < 6 → parseFieldDescriptor (TX1 k).2.2.1 = some (tyX1 k) := by decide +kernel
abbrev cX1_init : ByteArray := prog_3_method_1_code
def yX1_init : MethodName := ⟨RX1, "<init>", "()V"⟩
abbrev cX1_lay : ByteArray := prog_3_method_2_code
def yX1_lay : MethodName := ⟨RX1, "lay", "(III)I"⟩
abbrev cX1_holds : ByteArray := prog_3_method_3_code
def yX1_holds : MethodName := ⟨RX1, "holds", "(II)Z"⟩
abbrev cX1_write : ByteArray := prog_3_method_4_code
def yX1_write : MethodName := ⟨RX1, "write", "(III)I"⟩
abbrev cX1_shelvePlan : ByteArray := prog_3_method_5_code
def yX1_shelvePlan : MethodName := ⟨RX1, "shelvePlan", "(II)I"⟩
abbrev cX1_shelveRow : ByteArray := prog_3_method_6_code
def yX1_shelveRow : MethodName := ⟨RX1, "shelveRow", "(II)I"⟩
abbrev cX1_clear : ByteArray := prog_3_method_7_code
def yX1_clear : MethodName := ⟨RX1, "clear", "(I)I"⟩
abbrev cX1_heldRow : ByteArray := prog_3_method_8_code
def yX1_heldRow : MethodName := ⟨RX1, "heldRow", "(I)Z"⟩
abbrev cX1_heldPlan : ByteArray := prog_3_method_9_code
def yX1_heldPlan : MethodName := ⟨RX1, "heldPlan", "(I)Z"⟩
def RX2 : String := "TillPairs$House"
def TX2 : u_T := fun k => match k with
  | 0 => ("TillPairs$House", "people", "I", false)
  | 1 => ("TillPairs$House", "surprises", "I", false)
  | 2 => ("TillPairs$House", "kinOf", "[I", true)
  | 3 => ("TillPairs$House", "awayOn", "[I", true)
  | 4 => ("TillPairs$House", "trustAtFirst", "[I", true)
  | 5 => ("TillPairs$House", "laws", "[I", true)
  | 6 => ("TillPairs$House", "seats", "[I", true)
  | _ => ("TillPairs$House", "losses", "[I", true)
def tyX2 : Nat → FieldType := fun k => match k with
  | 0 => .int
  | 1 => .int
  | 2 => .array .int
  | 3 => .array .int
  | 4 => .array .int
  | 5 => .array .int
  | 6 => .array .int
  | _ => .array .int
abbrev wsX20 : List Cond := u_ws RX2 TX2 8
theorem nmX2 : ∀ a, a < 8 → ∀ b, b < 8 → a ≠ b → (TX2 a).2.1 ≠ (TX2 b).2.1 := by decide +kernel
theorem tyX2_ok : ∀ k, k < 8 → parseFieldDescriptor (TX2 k).2.2.1 = some (tyX2 k) := by decide +kernel
abbrev cX2_init : ByteArray := prog_4_method_1_code
def yX2_init : MethodName := ⟨RX2, "<init>", "()V"⟩
abbrev cX2_pairOf : ByteArray := prog_4_method_2_code
def yX2_pairOf : MethodName := ⟨RX2, "pairOf", "(II)I"⟩
abbrev cX2_become : ByteArray := prog_4_method_3_code
def yX2_become : MethodName := ⟨RX2, "become", "(LTillPairs$House;)V"⟩
abbrev cX2_emptyBut : ByteArray := prog_4_method_4_code
def yX2_emptyBut : MethodName := ⟨RX2, "emptyBut", "([I)V"⟩
abbrev cX2_isPerson : ByteArray := prog_4_method_5_code
def yX2_isPerson : MethodName := ⟨RX2, "isPerson", "(I)Z"⟩
abbrev cX2_areTwo : ByteArray := prog_4_method_6_code
def yX2_areTwo : MethodName := ⟨RX2, "areTwo", "(II)Z"⟩
abbrev cX2_addPerson : ByteArray := prog_4_method_7_code
def yX2_addPerson : MethodName := ⟨RX2, "addPerson", "()I"⟩
abbrev cX2_setKin : ByteArray := prog_4_method_8_code
def yX2_setKin : MethodName := ⟨RX2, "setKin", "(IIZ)I"⟩
abbrev cX2_areKin : ByteArray := prog_4_method_9_code
def yX2_areKin : MethodName := ⟨RX2, "areKin", "(II)Z"⟩
abbrev cX2_setAway : ByteArray := prog_4_method_10_code
def yX2_setAway : MethodName := ⟨RX2, "setAway", "(IIZ)I"⟩
abbrev cX2_isAway : ByteArray := prog_4_method_11_code
def yX2_isAway : MethodName := ⟨RX2, "isAway", "(II)Z"⟩
abbrev cX2_setSurprise : ByteArray := prog_4_method_12_code
def yX2_setSurprise : MethodName := ⟨RX2, "setSurprise", "(IZ)I"⟩
abbrev cX2_hasSurprise : ByteArray := prog_4_method_13_code
def yX2_hasSurprise : MethodName := ⟨RX2, "hasSurprise", "(I)Z"⟩
abbrev cX2_at : ByteArray := prog_4_method_14_code
def yX2_at : MethodName := ⟨RX2, "at", "(II)I"⟩
abbrev cX2_seat : ByteArray := prog_4_method_15_code
def yX2_seat : MethodName := ⟨RX2, "seat", "(III)V"⟩
abbrev cX2_pairOn : ByteArray := prog_4_method_16_code
def yX2_pairOn : MethodName := ⟨RX2, "pairOn", "(I)I"⟩
abbrev cX2_sittings : ByteArray := prog_4_method_17_code
def yX2_sittings : MethodName := ⟨RX2, "sittings", "()I"⟩
abbrev cX2_daysOf : ByteArray := prog_4_method_18_code
def yX2_daysOf : MethodName := ⟨RX2, "daysOf", "(I)I"⟩
abbrev cX2_lastDayOf : ByteArray := prog_4_method_19_code
def yX2_lastDayOf : MethodName := ⟨RX2, "lastDayOf", "(II)I"⟩
abbrev cX2_satInGap : ByteArray := prog_4_method_20_code
def yX2_satInGap : MethodName := ⟨RX2, "satInGap", "(II)Z"⟩
abbrev cX2_lossOf : ByteArray := prog_4_method_21_code
def yX2_lossOf : MethodName := ⟨RX2, "lossOf", "(I)I"⟩
abbrev cX2_pairOfMostLoss : ByteArray := prog_4_method_22_code
def yX2_pairOfMostLoss : MethodName := ⟨RX2, "pairOfMostLoss", "()I"⟩
def RX3 : String := "TillPairs$Judge"
def TX3 : u_T := fun k => match k with
  | _ => ("TillPairs$Judge", "home", "LTillPairs$House;", true)
def tyX3 : Nat → FieldType := fun k => match k with
  | _ => .object "TillPairs$House"
abbrev wsX30 : List Cond := u_ws RX3 TX3 1
theorem nmX3 : ∀ a, a < 1 → ∀ b, b < 1 → a ≠ b → (TX3 a).2.1 ≠ (TX3 b).2.1 := by decide +kernel
theorem tyX3_ok : ∀ k, k < 1 → parseFieldDescriptor (TX3 k).2.2.1 = some (tyX3 k) := by decide +kernel
abbrev cX3_init : ByteArray := prog_5_method_1_code
def yX3_init : MethodName := ⟨RX3, "<init>", "(LTillPairs$House;)V"⟩
abbrev cX3_trustOfPair : ByteArray := prog_5_method_2_code
def yX3_trustOfPair : MethodName := ⟨RX3, "trustOfPair", "(II)I"⟩
abbrev cX3_trustAfter : ByteArray := prog_5_method_3_code
def yX3_trustAfter : MethodName := ⟨RX3, "trustAfter", "(IZ)I"⟩
abbrev cX3_seenOf : ByteArray := prog_5_method_4_code
def yX3_seenOf : MethodName := ⟨RX3, "seenOf", "(IIIZ)I"⟩
abbrev cX3_seenOn : ByteArray := prog_5_method_5_code
def yX3_seenOn : MethodName := ⟨RX3, "seenOn", "(I)I"⟩
abbrev cX3_worthOf : ByteArray := prog_5_method_6_code
def yX3_worthOf : MethodName := ⟨RX3, "worthOf", "(II)I"⟩
abbrev cX3_worthOn : ByteArray := prog_5_method_7_code
def yX3_worthOn : MethodName := ⟨RX3, "worthOn", "(I)I"⟩
abbrev cX3_worthIf : ByteArray := prog_5_method_8_code
def yX3_worthIf : MethodName := ⟨RX3, "worthIf", "(IZ)I"⟩
abbrev cX3_isPaying : ByteArray := prog_5_method_9_code
def yX3_isPaying : MethodName := ⟨RX3, "isPaying", "(II)Z"⟩
abbrev cX3_payingDays : ByteArray := prog_5_method_10_code
def yX3_payingDays : MethodName := ⟨RX3, "payingDays", "()I"⟩
abbrev cX3_payingDaysBy : ByteArray := prog_5_method_11_code
def yX3_payingDaysBy : MethodName := ⟨RX3, "payingDaysBy", "(I)I"⟩
abbrev cX3_leastTell : ByteArray := prog_5_method_12_code
def yX3_leastTell : MethodName := ⟨RX3, "leastTell", "()I"⟩
abbrev cX3_surprisesNeeded : ByteArray := prog_5_method_13_code
def yX3_surprisesNeeded : MethodName := ⟨RX3, "surprisesNeeded", "()I"⟩
abbrev cX3_brokenOn : ByteArray := prog_5_method_14_code
def yX3_brokenOn : MethodName := ⟨RX3, "brokenOn", "(I)I"⟩
abbrev cX3_somebodyIsAway : ByteArray := prog_5_method_15_code
def yX3_somebodyIsAway : MethodName := ⟨RX3, "somebodyIsAway", "(I)Z"⟩
abbrev cX3_somebodyIsTwice : ByteArray := prog_5_method_16_code
def yX3_somebodyIsTwice : MethodName := ⟨RX3, "somebodyIsTwice", "(I)Z"⟩
def RX4 : String := "TillPairs$Odds"
def TX4 : u_T := fun k => match k with
  | 0 => ("TillPairs$Odds", "home", "LTillPairs$House;", true)
  | 1 => ("TillPairs$Odds", "mind", "LTillPairs$Judge;", true)
  | 2 => ("TillPairs$Odds", "above", "J", false)
  | _ => ("TillPairs$Odds", "below", "J", false)
def tyX4 : Nat → FieldType := fun k => match k with
  | 0 => .object "TillPairs$House"
  | 1 => .object "TillPairs$Judge"
  | 2 => .long
  | _ => .long
abbrev wsX40 : List Cond := u_ws RX4 TX4 4
theorem nmX4 : ∀ a, a < 4 → ∀ b, b < 4 → a ≠ b → (TX4 a).2.1 ≠ (TX4 b).2.1 := by decide +kernel
theorem tyX4_ok : ∀ k, k < 4 → parseFieldDescriptor (TX4 k).2.2.1 = some (tyX4 k) := by decide +kernel
abbrev cX4_init : ByteArray := prog_6_method_1_code
def yX4_init : MethodName := ⟨RX4, "<init>", "(LTillPairs$House;LTillPairs$Judge;)V"⟩
abbrev cX4_findBest : ByteArray := prog_6_method_2_code
def yX4_findBest : MethodName := ⟨RX4, "findBest", "(I)V"⟩
abbrev cX4_findLot : ByteArray := prog_6_method_3_code
def yX4_findLot : MethodName := ⟨RX4, "findLot", "(I)V"⟩
abbrev cX4_ways : ByteArray := prog_6_method_4_code
def yX4_ways : MethodName := ⟨RX4, "ways", "(II)J"⟩
abbrev cX4_power : ByteArray := prog_6_method_5_code
def yX4_power : MethodName := ⟨RX4, "power", "(JI)J"⟩
abbrev cX4_reduce : ByteArray := prog_6_method_6_code
def yX4_reduce : MethodName := ⟨RX4, "reduce", "()V"⟩
def RX5 : String := "TillPairs$Plans"
def TX5 : u_T := fun k => match k with
  | 0 => ("TillPairs$Plans", "kinds", "[I", true)
  | 1 => ("TillPairs$Plans", "as", "[I", true)
  | 2 => ("TillPairs$Plans", "seated", "[I", true)
  | 3 => ("TillPairs$Plans", "count", "I", false)
  | _ => ("TillPairs$Plans", "z", "I", false)
def tyX5 : Nat → FieldType := fun k => match k with
  | 0 => .array .int
  | 1 => .array .int
  | 2 => .array .int
  | 3 => .int
  | _ => .int
abbrev wsX50 : List Cond := u_ws RX5 TX5 5
theorem nmX5 : ∀ a, a < 5 → ∀ b, b < 5 → a ≠ b → (TX5 a).2.1 ≠ (TX5 b).2.1 := by decide +kernel
theorem tyX5_ok : ∀ k, k < 5 → parseFieldDescriptor (TX5 k).2.2.1 = some (tyX5 k) := by decide +kernel
abbrev cX5_init : ByteArray := prog_7_method_1_code
def yX5_init : MethodName := ⟨RX5, "<init>", "()V"⟩
abbrev cX5_become : ByteArray := prog_7_method_2_code
def yX5_become : MethodName := ⟨RX5, "become", "(LTillPairs$Plans;)V"⟩
abbrev cX5_has : ByteArray := prog_7_method_3_code
def yX5_has : MethodName := ⟨RX5, "has", "(I)Z"⟩
abbrev cX5_add : ByteArray := prog_7_method_4_code
def yX5_add : MethodName := ⟨RX5, "add", "(II)I"⟩
abbrev cX5_fillDay : ByteArray := prog_7_method_5_code
def yX5_fillDay : MethodName := ⟨RX5, "fillDay", "(LTillPairs$House;II)I"⟩
abbrev cX5_presentFor : ByteArray := prog_7_method_6_code
def yX5_presentFor : MethodName := ⟨RX5, "presentFor", "(LTillPairs$House;II)I"⟩
abbrev cX5_seatTold : ByteArray := prog_7_method_7_code
def yX5_seatTold : MethodName := ⟨RX5, "seatTold", "(LTillPairs$House;I)Z"⟩
abbrev cX5_seatByTurn : ByteArray := prog_7_method_8_code
def yX5_seatByTurn : MethodName := ⟨RX5, "seatByTurn", "(LTillPairs$House;II)V"⟩
abbrev cX5_longestApart : ByteArray := prog_7_method_9_code
def yX5_longestApart : MethodName := ⟨RX5, "longestApart", "(LTillPairs$House;IIZ)I"⟩
abbrev cX5_seatByDraw : ByteArray := prog_7_method_10_code
def yX5_seatByDraw : MethodName := ⟨RX5, "seatByDraw", "(I)V"⟩
abbrev cX5_drawFrom : ByteArray := prog_7_method_11_code
def yX5_drawFrom : MethodName := ⟨RX5, "drawFrom", "(I)I"⟩
abbrev cX5_seatStranger : ByteArray := prog_7_method_12_code
def yX5_seatStranger : MethodName := ⟨RX5, "seatStranger", "(LTillPairs$House;I)V"⟩
abbrev cX5_sitDown : ByteArray := prog_7_method_13_code
def yX5_sitDown : MethodName := ⟨RX5, "sitDown", "(LTillPairs$House;I)I"⟩
abbrev cX5_isIn : ByteArray := prog_7_method_14_code
def yX5_isIn : MethodName := ⟨RX5, "isIn", "(II)Z"⟩
abbrev cX5_leastOf : ByteArray := prog_7_method_15_code
def yX5_leastOf : MethodName := ⟨RX5, "leastOf", "(I)I"⟩
def RX6 : String := "TillPairs$Rows"
def TX6 : u_T := fun k => match k with
  | 0 => ("TillPairs$Rows", "home", "LTillPairs$House;", true)
  | 1 => ("TillPairs$Rows", "mind", "LTillPairs$Judge;", true)
  | 2 => ("TillPairs$Rows", "cells", "[I", true)
  | _ => ("TillPairs$Rows", "count", "I", false)
def tyX6 : Nat → FieldType := fun k => match k with
  | 0 => .object "TillPairs$House"
  | 1 => .object "TillPairs$Judge"
  | 2 => .array .int
  | _ => .int
abbrev wsX60 : List Cond := u_ws RX6 TX6 4
theorem nmX6 : ∀ a, a < 4 → ∀ b, b < 4 → a ≠ b → (TX6 a).2.1 ≠ (TX6 b).2.1 := by decide +kernel
theorem tyX6_ok : ∀ k, k < 4 → parseFieldDescriptor (TX6 k).2.2.1 = some (tyX6 k) := by decide +kernel
abbrev cX6_init : ByteArray := prog_8_method_1_code
def yX6_init : MethodName := ⟨RX6, "<init>", "(LTillPairs$House;LTillPairs$Judge;)V"⟩
abbrev cX6_drop : ByteArray := prog_8_method_2_code
def yX6_drop : MethodName := ⟨RX6, "drop", "()V"⟩
abbrev cX6_has : ByteArray := prog_8_method_3_code
def yX6_has : MethodName := ⟨RX6, "has", "(II)Z"⟩
abbrev cX6_write : ByteArray := prog_8_method_4_code
def yX6_write : MethodName := ⟨RX6, "write", "()I"⟩
abbrev cX6_firstWrong : ByteArray := prog_8_method_5_code
def yX6_firstWrong : MethodName := ⟨RX6, "firstWrong", "()I"⟩
abbrev cX6_due : ByteArray := prog_8_method_6_code
def yX6_due : MethodName := ⟨RX6, "due", "(II)I"⟩
def RX7 : String := "TillPairs$Tape"
def TX7 : u_T := fun k => match k with
  | 0 => ("TillPairs$Tape", "bytes", "[I", true)
  | 1 => ("TillPairs$Tape", "draft", "LTillPairs$House;", true)
  | 2 => ("TillPairs$Tape", "length", "I", false)
  | 3 => ("TillPairs$Tape", "at", "I", false)
  | _ => ("TillPairs$Tape", "fault", "I", false)
def tyX7 : Nat → FieldType := fun k => match k with
  | 0 => .array .int
  | 1 => .object "TillPairs$House"
  | 2 => .int
  | 3 => .int
  | _ => .int
abbrev wsX70 : List Cond := u_ws RX7 TX7 5
theorem nmX7 : ∀ a, a < 5 → ∀ b, b < 5 → a ≠ b → (TX7 a).2.1 ≠ (TX7 b).2.1 := by decide +kernel
theorem tyX7_ok : ∀ k, k < 5 → parseFieldDescriptor (TX7 k).2.2.1 = some (tyX7 k) := by decide +kernel
abbrev cX7_init : ByteArray := prog_9_method_1_code
def yX7_init : MethodName := ⟨RX7, "<init>", "()V"⟩
abbrev cX7_add : ByteArray := prog_9_method_2_code
def yX7_add : MethodName := ⟨RX7, "add", "(JI)I"⟩
abbrev cX7_tell : ByteArray := prog_9_method_3_code
def yX7_tell : MethodName := ⟨RX7, "tell", "(LTillPairs$House;)I"⟩
abbrev cX7_readStatement : ByteArray := prog_9_method_4_code
def yX7_readStatement : MethodName := ⟨RX7, "readStatement", "()V"⟩
abbrev cX7_nameOf : ByteArray := prog_9_method_5_code
def yX7_nameOf : MethodName := ⟨RX7, "nameOf", "(I)Ljava/lang/String;"⟩
abbrev cX7_readKin : ByteArray := prog_9_method_6_code
def yX7_readKin : MethodName := ⟨RX7, "readKin", "()V"⟩
abbrev cX7_readTrust : ByteArray := prog_9_method_7_code
def yX7_readTrust : MethodName := ⟨RX7, "readTrust", "()V"⟩
abbrev cX7_readAway : ByteArray := prog_9_method_8_code
def yX7_readAway : MethodName := ⟨RX7, "readAway", "()V"⟩
abbrev cX7_readLaw : ByteArray := prog_9_method_9_code
def yX7_readLaw : MethodName := ⟨RX7, "readLaw", "(I)V"⟩
abbrev cX7_readEnd : ByteArray := prog_9_method_10_code
def yX7_readEnd : MethodName := ⟨RX7, "readEnd", "()V"⟩
abbrev cX7_readWord : ByteArray := prog_9_method_11_code
def yX7_readWord : MethodName := ⟨RX7, "readWord", "(Ljava/lang/String;)V"⟩
abbrev cX7_readNumber : ByteArray := prog_9_method_12_code
def yX7_readNumber : MethodName := ⟨RX7, "readNumber", "(II)I"⟩
abbrev cX7_isDigit : ByteArray := prog_9_method_13_code
def yX7_isDigit : MethodName := ⟨RX7, "isDigit", "(I)Z"⟩
abbrev cX7_fail : ByteArray := prog_9_method_14_code
def yX7_fail : MethodName := ⟨RX7, "fail", "(I)V"⟩
abbrev cX7_skipBlanks : ByteArray := prog_9_method_15_code
def yX7_skipBlanks : MethodName := ⟨RX7, "skipBlanks", "()V"⟩
abbrev cX7_endOfName : ByteArray := prog_9_method_16_code
def yX7_endOfName : MethodName := ⟨RX7, "endOfName", "()I"⟩
abbrev cX7_stands : ByteArray := prog_9_method_17_code
def yX7_stands : MethodName := ⟨RX7, "stands", "(Ljava/lang/String;I)Z"⟩
def RX8 : String := "TillPairs$Ways"
def TX8 : u_T := fun k => match k with
  | 0 => ("TillPairs$Ways", "home", "LTillPairs$House;", true)
  | 1 => ("TillPairs$Ways", "mind", "LTillPairs$Judge;", true)
  | 2 => ("TillPairs$Ways", "trusts", "[I", true)
  | 3 => ("TillPairs$Ways", "bounds", "[[I", true)
  | 4 => ("TillPairs$Ways", "chosen", "[I", true)
  | 5 => ("TillPairs$Ways", "changes", "I", false)
  | _ => ("TillPairs$Ways", "digits", "I", false)
def tyX8 : Nat → FieldType := fun k => match k with
  | 0 => .object "TillPairs$House"
  | 1 => .object "TillPairs$Judge"
  | 2 => .array .int
  | 3 => .array (.array .int)
  | 4 => .array .int
  | 5 => .int
  | _ => .int
abbrev wsX80 : List Cond := u_ws RX8 TX8 7
theorem nmX8 : ∀ a, a < 7 → ∀ b, b < 7 → a ≠ b → (TX8 a).2.1 ≠ (TX8 b).2.1 := by decide +kernel
theorem tyX8_ok : ∀ k, k < 7 → parseFieldDescriptor (TX8 k).2.2.1 = some (tyX8 k) := by decide +kernel
abbrev cX8_init : ByteArray := prog_10_method_1_code
def yX8_init : MethodName := ⟨RX8, "<init>", "(LTillPairs$House;LTillPairs$Judge;)V"⟩
abbrev cX8_mend : ByteArray := prog_10_method_2_code
def yX8_mend : MethodName := ⟨RX8, "mend", "(I)Z"⟩
abbrev cX8_mendBy : ByteArray := prog_10_method_3_code
def yX8_mendBy : MethodName := ⟨RX8, "mendBy", "(III)V"⟩
abbrev cX8_change : ByteArray := prog_10_method_4_code
def yX8_change : MethodName := ⟨RX8, "change", "(III)I"⟩
abbrev cX8_maySit : ByteArray := prog_10_method_5_code
def yX8_maySit : MethodName := ⟨RX8, "maySit", "(III)Z"⟩
abbrev cX8_isFree : ByteArray := prog_10_method_6_code
def yX8_isFree : MethodName := ⟨RX8, "isFree", "(III)Z"⟩
abbrev cX8_wouldPay : ByteArray := prog_10_method_7_code
def yX8_wouldPay : MethodName := ⟨RX8, "wouldPay", "(IIIII)Z"⟩
abbrev cX8_rowsAhead : ByteArray := prog_10_method_8_code
def yX8_rowsAhead : MethodName := ⟨RX8, "rowsAhead", "(II)I"⟩
abbrev cX8_mostTrust : ByteArray := prog_10_method_9_code
def yX8_mostTrust : MethodName := ⟨RX8, "mostTrust", "(II)I"⟩
abbrev cX8_countRows : ByteArray := prog_10_method_10_code
def yX8_countRows : MethodName := ⟨RX8, "countRows", "(LTillPairs$Ways;II)I"⟩
abbrev cX8_standsBehindChosen : ByteArray := prog_10_method_11_code
def yX8_standsBehindChosen : MethodName := ⟨RX8, "standsBehindChosen", "(II)Z"⟩
def RX9 : String := "TillPairs"
def TX9 : u_T := fun k => match k with
  | 0 => ("TillPairs", "home", "LTillPairs$House;", true)
  | 1 => ("TillPairs", "tape", "LTillPairs$Tape;", true)
  | 2 => ("TillPairs", "mind", "LTillPairs$Judge;", true)
  | 3 => ("TillPairs", "odds", "LTillPairs$Odds;", true)
  | 4 => ("TillPairs", "ways", "LTillPairs$Ways;", true)
  | 5 => ("TillPairs", "plans", "LTillPairs$Plans;", true)
  | 6 => ("TillPairs", "rows", "LTillPairs$Rows;", true)
  | 7 => ("TillPairs", "acts", "LTillPairs$Acts;", true)
  | 8 => ("TillPairs", "host", "LTillPairs$Host;", true)
  | 9 => ("TillPairs", "keptHome", "LTillPairs$House;", true)
  | 10 => ("TillPairs", "keptPlans", "LTillPairs$Plans;", true)
  | _ => ("TillPairs", "kept", "Z", false)
def tyX9 : Nat → FieldType := fun k => match k with
  | 0 => .object "TillPairs$House"
  | 1 => .object "TillPairs$Tape"
  | 2 => .object "TillPairs$Judge"
  | 3 => .object "TillPairs$Odds"
  | 4 => .object "TillPairs$Ways"
  | 5 => .object "TillPairs$Plans"
  | 6 => .object "TillPairs$Rows"
  | 7 => .object "TillPairs$Acts"
  | 8 => .object "TillPairs$Host"
  | 9 => .object "TillPairs$House"
  | 10 => .object "TillPairs$Plans"
  | _ => .boolean
abbrev wsX90 : List Cond := u_ws RX9 TX9 12
theorem nmX9 : ∀ a, a < 12 → ∀ b, b < 12 → a ≠ b → (TX9 a).2.1 ≠ (TX9 b).2.1 := by decide +kernel
theorem tyX9_ok : ∀ k, k < 12 → parseFieldDescriptor (TX9 k).2.2.1 = some (tyX9 k) := by decide +kernel
abbrev cX9_init : ByteArray := prog_1_method_1_code
def yX9_init : MethodName := ⟨RX9, "<init>", "()V"⟩
abbrev cX9_feed : ByteArray := prog_1_method_2_code
def yX9_feed : MethodName := ⟨RX9, "feed", "(JI)I"⟩
abbrev cX9_house : ByteArray := prog_1_method_3_code
def yX9_house : MethodName := ⟨RX9, "house", "()I"⟩
abbrev cX9_person : ByteArray := prog_1_method_4_code
def yX9_person : MethodName := ⟨RX9, "person", "()I"⟩
abbrev cX9_kin : ByteArray := prog_1_method_5_code
def yX9_kin : MethodName := ⟨RX9, "kin", "(IIZ)I"⟩
abbrev cX9_trust : ByteArray := prog_1_method_6_code
def yX9_trust : MethodName := ⟨RX9, "trust", "(III)I"⟩
abbrev cX9_away : ByteArray := prog_1_method_7_code
def yX9_away : MethodName := ⟨RX9, "away", "(IIZ)I"⟩
abbrev cX9_set : ByteArray := prog_1_method_8_code
def yX9_set : MethodName := ⟨RX9, "set", "(II)I"⟩
abbrev cX9_law : ByteArray := prog_1_method_9_code
def yX9_law : MethodName := ⟨RX9, "law", "(I)I"⟩
abbrev cX9_post : ByteArray := prog_1_method_10_code
def yX9_post : MethodName := ⟨RX9, "post", "(III)I"⟩
abbrev cX9_postOf : ByteArray := prog_1_method_11_code
def yX9_postOf : MethodName := ⟨RX9, "postOf", "(II)I"⟩
abbrev cX9_surprise : ByteArray := prog_1_method_12_code
def yX9_surprise : MethodName := ⟨RX9, "surprise", "(IZ)I"⟩
abbrev cX9_loss : ByteArray := prog_1_method_13_code
def yX9_loss : MethodName := ⟨RX9, "loss", "(II)I"⟩
abbrev cX9_trustOn : ByteArray := prog_1_method_14_code
def yX9_trustOn : MethodName := ⟨RX9, "trustOn", "(III)I"⟩
abbrev cX9_seen : ByteArray := prog_1_method_15_code
def yX9_seen : MethodName := ⟨RX9, "seen", "(I)I"⟩
abbrev cX9_worth : ByteArray := prog_1_method_16_code
def yX9_worth : MethodName := ⟨RX9, "worth", "(I)I"⟩
abbrev cX9_pays : ByteArray := prog_1_method_17_code
def yX9_pays : MethodName := ⟨RX9, "pays", "()I"⟩
abbrev cX9_best : ByteArray := prog_1_method_18_code
def yX9_best : MethodName := ⟨RX9, "best", "(III)J"⟩
abbrev cX9_enough : ByteArray := prog_1_method_19_code
def yX9_enough : MethodName := ⟨RX9, "enough", "()I"⟩
abbrev cX9_needed : ByteArray := prog_1_method_20_code
def yX9_needed : MethodName := ⟨RX9, "needed", "()I"⟩
abbrev cX9_broken : ByteArray := prog_1_method_21_code
def yX9_broken : MethodName := ⟨RX9, "broken", "(I)I"⟩
abbrev cX9_mended : ByteArray := prog_1_method_22_code
def yX9_mended : MethodName := ⟨RX9, "mended", "(II)I"⟩
abbrev cX9_ahead : ByteArray := prog_1_method_23_code
def yX9_ahead : MethodName := ⟨RX9, "ahead", "(II)I"⟩
abbrev cX9_lot : ByteArray := prog_1_method_24_code
def yX9_lot : MethodName := ⟨RX9, "lot", "(III)J"⟩
abbrev cX9_sat : ByteArray := prog_1_method_25_code
def yX9_sat : MethodName := ⟨RX9, "sat", "(II)I"⟩
abbrev cX9_suspects : ByteArray := prog_1_method_26_code
def yX9_suspects : MethodName := ⟨RX9, "suspects", "(I)I"⟩
abbrev cX9_plan : ByteArray := prog_1_method_27_code
def yX9_plan : MethodName := ⟨RX9, "plan", "(II)I"⟩
abbrev cX9_planOf : ByteArray := prog_1_method_28_code
def yX9_planOf : MethodName := ⟨RX9, "planOf", "(II)I"⟩
abbrev cX9_fill : ByteArray := prog_1_method_29_code
def yX9_fill : MethodName := ⟨RX9, "fill", "(II)I"⟩
abbrev cX9_seed : ByteArray := prog_1_method_30_code
def yX9_seed : MethodName := ⟨RX9, "seed", "(I)I"⟩
abbrev cX9_prove : ByteArray := prog_1_method_31_code
def yX9_prove : MethodName := ⟨RX9, "prove", "()I"⟩
abbrev cX9_row : ByteArray := prog_1_method_32_code
def yX9_row : MethodName := ⟨RX9, "row", "(II)I"⟩
abbrev cX9_alterRow : ByteArray := prog_1_method_33_code
def yX9_alterRow : MethodName := ⟨RX9, "alterRow", "(III)I"⟩
abbrev cX9_judge : ByteArray := prog_1_method_34_code
def yX9_judge : MethodName := ⟨RX9, "judge", "()I"⟩
abbrev cX9_sheet : ByteArray := prog_1_method_35_code
def yX9_sheet : MethodName := ⟨RX9, "sheet", "(III)I"⟩
abbrev cX9_put : ByteArray := prog_1_method_36_code
def yX9_put : MethodName := ⟨RX9, "put", "(III)I"⟩
abbrev cX9_item : ByteArray := prog_1_method_37_code
def yX9_item : MethodName := ⟨RX9, "item", "(III)I"⟩
abbrev cX9_shelf : ByteArray := prog_1_method_38_code
def yX9_shelf : MethodName := ⟨RX9, "shelf", "(III)I"⟩
abbrev cX9_taken : ByteArray := prog_1_method_39_code
def yX9_taken : MethodName := ⟨RX9, "taken", "(II)I"⟩
abbrev cX9_act : ByteArray := prog_1_method_40_code
def yX9_act : MethodName := ⟨RX9, "act", "(III)I"⟩
abbrev cX9_trace : ByteArray := prog_1_method_41_code
def yX9_trace : MethodName := ⟨RX9, "trace", "(I)I"⟩
abbrev cX9_days : ByteArray := prog_1_method_42_code
def yX9_days : MethodName := ⟨RX9, "days", "(II)I"⟩
abbrev cX9_many : ByteArray := prog_1_method_43_code
def yX9_many : MethodName := ⟨RX9, "many", "(I)I"⟩
abbrev cX9_keep : ByteArray := prog_1_method_44_code
def yX9_keep : MethodName := ⟨RX9, "keep", "()I"⟩
abbrev cX9_again : ByteArray := prog_1_method_45_code
def yX9_again : MethodName := ⟨RX9, "again", "()I"⟩
abbrev cX9_isDay : ByteArray := prog_1_method_46_code
def yX9_isDay : MethodName := ⟨RX9, "isDay", "(I)Z"⟩
abbrev cX9_isPost : ByteArray := prog_1_method_47_code
def yX9_isPost : MethodName := ⟨RX9, "isPost", "(I)Z"⟩
abbrev cX9_isPart : ByteArray := prog_1_method_48_code
def yX9_isPart : MethodName := ⟨RX9, "isPart", "(I)Z"⟩
abbrev cX9_isPlace : ByteArray := prog_1_method_49_code
def yX9_isPlace : MethodName := ⟨RX9, "isPlace", "(I)Z"⟩
abbrev cX9_planOn : ByteArray := prog_1_method_50_code
def yX9_planOn : MethodName := ⟨RX9, "planOn", "(I)I"⟩
def RX10 : String := "TillPairsModel"
def TX10 : u_T := fun k => match k with
  | 0 => ("TillPairsModel", "people", "I", false)
  | 1 => ("TillPairsModel", "kin", "[I", true)
  | 2 => ("TillPairsModel", "away", "[I", true)
  | 3 => ("TillPairsModel", "first", "[I", true)
  | 4 => ("TillPairsModel", "posts", "[I", true)
  | 5 => ("TillPairsModel", "surprises", "I", false)
  | 6 => ("TillPairsModel", "losses", "[I", true)
  | 7 => ("TillPairsModel", "laws", "[I", true)
  | 8 => ("TillPairsModel", "mostOf", "[I", true)
  | 9 => ("TillPairsModel", "plans", "I", false)
  | 10 => ("TillPairsModel", "plan", "[I", true)
  | 11 => ("TillPairsModel", "z", "I", false)
  | 12 => ("TillPairsModel", "tape", "[I", true)
  | 13 => ("TillPairsModel", "tapeMany", "I", false)
  | 14 => ("TillPairsModel", "sort", "I", false)
  | 15 => ("TillPairsModel", "begins", "I", false)
  | 16 => ("TillPairsModel", "tokenEnds", "I", false)
  | 17 => ("TillPairsModel", "word", "J", false)
  | 18 => ("TillPairsModel", "value", "I", false)
  | 19 => ("TillPairsModel", "good", "Z", false)
  | 20 => ("TillPairsModel", "freshPeople", "I", false)
  | 21 => ("TillPairsModel", "freshKin", "[I", true)
  | 22 => ("TillPairsModel", "freshAway", "[I", true)
  | 23 => ("TillPairsModel", "freshFirst", "[I", true)
  | 24 => ("TillPairsModel", "freshLaws", "[I", true)
  | 25 => ("TillPairsModel", "above", "J", false)
  | 26 => ("TillPairsModel", "below", "J", false)
  | 27 => ("TillPairsModel", "had", "[I", true)
  | 28 => ("TillPairsModel", "bestWay", "[I", true)
  | 29 => ("TillPairsModel", "place", "[I", true)
  | 30 => ("TillPairsModel", "often", "[J", true)
  | 31 => ("TillPairsModel", "way", "[I", true)
  | 32 => ("TillPairsModel", "rows", "[I", true)
  | 33 => ("TillPairsModel", "must", "[I", true)
  | 34 => ("TillPairsModel", "rowMany", "I", false)
  | 35 => ("TillPairsModel", "sorts", "[I", true)
  | 36 => ("TillPairsModel", "sizes", "[I", true)
  | 37 => ("TillPairsModel", "sheets", "[J", true)
  | 38 => ("TillPairsModel", "held", "[I", true)
  | 39 => ("TillPairsModel", "heldNumber", "[I", true)
  | 40 => ("TillPairsModel", "heldSize", "[I", true)
  | 41 => ("TillPairsModel", "kind", "I", false)
  | 42 => ("TillPairsModel", "number", "I", false)
  | 43 => ("TillPairsModel", "own", "I", false)
  | 44 => ("TillPairsModel", "traced", "[I", true)
  | 45 => ("TillPairsModel", "bodies", "I", false)
  | 46 => ("TillPairsModel", "isParted", "Z", false)
  | 47 => ("TillPairsModel", "isKept", "Z", false)
  | 48 => ("TillPairsModel", "kept", "[I", true)
  | 49 => ("TillPairsModel", "movedTo", "I", false)
  | _ => ("TillPairsModel", "single", "[I", true)
def tyX10 : Nat → FieldType := fun k => match k with
  | 0 => .int
  | 1 => .array .int
  | 2 => .array .int
  | 3 => .array .int
  | 4 => .array .int
  | 5 => .int
  | 6 => .array .int
  | 7 => .array .int
  | 8 => .array .int
  | 9 => .int
  | 10 => .array .int
  | 11 => .int
  | 12 => .array .int
  | 13 => .int
  | 14 => .int
  | 15 => .int
  | 16 => .int
  | 17 => .long
  | 18 => .int
  | 19 => .boolean
  | 20 => .int
  | 21 => .array .int
  | 22 => .array .int
  | 23 => .array .int
  | 24 => .array .int
  | 25 => .long
  | 26 => .long
  | 27 => .array .int
  | 28 => .array .int
  | 29 => .array .int
  | 30 => .array .long
  | 31 => .array .int
  | 32 => .array .int
  | 33 => .array .int
  | 34 => .int
  | 35 => .array .int
  | 36 => .array .int
  | 37 => .array .long
  | 38 => .array .int
  | 39 => .array .int
  | 40 => .array .int
  | 41 => .int
  | 42 => .int
  | 43 => .int
  | 44 => .array .int
  | 45 => .int
  | 46 => .boolean
  | 47 => .boolean
  | 48 => .array .int
  | 49 => .int
  | _ => .array .int
abbrev wsX100 : List Cond := u_ws RX10 TX10 51
theorem nmX10 : ∀ a, a < 51 → ∀ b, b < 51 → a ≠ b → (TX10 a).2.1 ≠ (TX10 b).2.1 := by decide +kernel
theorem tyX10_ok : ∀ k, k < 51 → parseFieldDescriptor (TX10 k).2.2.1 = some (tyX10 k) := by decide +kernel
abbrev cX10_init : ByteArray := prog_12_method_1_code
def yX10_init : MethodName := ⟨RX10, "<init>", "()V"⟩
abbrev cX10_in : ByteArray := prog_12_method_2_code
def yX10_in : MethodName := ⟨RX10, "in", "(III)Z"⟩
abbrev cX10_isPerson : ByteArray := prog_12_method_3_code
def yX10_isPerson : MethodName := ⟨RX10, "isPerson", "(I)Z"⟩
abbrev cX10_areTwo : ByteArray := prog_12_method_4_code
def yX10_areTwo : MethodName := ⟨RX10, "areTwo", "(II)Z"⟩
abbrev cX10_isDay : ByteArray := prog_12_method_5_code
def yX10_isDay : MethodName := ⟨RX10, "isDay", "(I)Z"⟩
abbrev cX10_isPost : ByteArray := prog_12_method_6_code
def yX10_isPost : MethodName := ⟨RX10, "isPost", "(I)Z"⟩
abbrev cX10_isSide : ByteArray := prog_12_method_7_code
def yX10_isSide : MethodName := ⟨RX10, "isSide", "(I)Z"⟩
abbrev cX10_areKin : ByteArray := prog_12_method_8_code
def yX10_areKin : MethodName := ⟨RX10, "areKin", "(II)Z"⟩
abbrev cX10_isAway : ByteArray := prog_12_method_9_code
def yX10_isAway : MethodName := ⟨RX10, "isAway", "(II)Z"⟩
abbrev cX10_feed : ByteArray := prog_12_method_10_code
def yX10_feed : MethodName := ⟨RX10, "feed", "(JI)I"⟩
abbrev cX10_byteAt : ByteArray := prog_12_method_11_code
def yX10_byteAt : MethodName := ⟨RX10, "byteAt", "(I)I"⟩
abbrev cX10_isLetter : ByteArray := prog_12_method_12_code
def yX10_isLetter : MethodName := ⟨RX10, "isLetter", "(I)Z"⟩
abbrev cX10_isDigit : ByteArray := prog_12_method_13_code
def yX10_isDigit : MethodName := ⟨RX10, "isDigit", "(I)Z"⟩
abbrev cX10_advance : ByteArray := prog_12_method_14_code
def yX10_advance : MethodName := ⟨RX10, "advance", "()V"⟩
abbrev cX10_isWord : ByteArray := prog_12_method_15_code
def yX10_isWord : MethodName := ⟨RX10, "isWord", "(J)Z"⟩
abbrev cX10_isMark : ByteArray := prog_12_method_16_code
def yX10_isMark : MethodName := ⟨RX10, "isMark", "(I)Z"⟩
abbrev cX10_lawHere : ByteArray := prog_12_method_17_code
def yX10_lawHere : MethodName := ⟨RX10, "lawHere", "()I"⟩
abbrev cX10_wantNumber : ByteArray := prog_12_method_18_code
def yX10_wantNumber : MethodName := ⟨RX10, "wantNumber", "(II)I"⟩
abbrev cX10_wantWord : ByteArray := prog_12_method_19_code
def yX10_wantWord : MethodName := ⟨RX10, "wantWord", "(J)V"⟩
abbrev cX10_wantEnd : ByteArray := prog_12_method_20_code
def yX10_wantEnd : MethodName := ⟨RX10, "wantEnd", "()V"⟩
abbrev cX10_wantTwo : ByteArray := prog_12_method_21_code
def yX10_wantTwo : MethodName := ⟨RX10, "wantTwo", "(Z)V"⟩
abbrev cX10_wantAway : ByteArray := prog_12_method_22_code
def yX10_wantAway : MethodName := ⟨RX10, "wantAway", "()V"⟩
abbrev cX10_wantClause : ByteArray := prog_12_method_23_code
def yX10_wantClause : MethodName := ⟨RX10, "wantClause", "()V"⟩
abbrev cX10_house : ByteArray := prog_12_method_24_code
def yX10_house : MethodName := ⟨RX10, "house", "()I"⟩
abbrev cX10_person : ByteArray := prog_12_method_25_code
def yX10_person : MethodName := ⟨RX10, "person", "()I"⟩
abbrev cX10_kin : ByteArray := prog_12_method_26_code
def yX10_kin : MethodName := ⟨RX10, "kin", "(IIZ)I"⟩
abbrev cX10_trust : ByteArray := prog_12_method_27_code
def yX10_trust : MethodName := ⟨RX10, "trust", "(III)I"⟩
abbrev cX10_away : ByteArray := prog_12_method_28_code
def yX10_away : MethodName := ⟨RX10, "away", "(IIZ)I"⟩
abbrev cX10_isLaw : ByteArray := prog_12_method_29_code
def yX10_isLaw : MethodName := ⟨RX10, "isLaw", "(I)Z"⟩
abbrev cX10_set : ByteArray := prog_12_method_30_code
def yX10_set : MethodName := ⟨RX10, "set", "(II)I"⟩
abbrev cX10_law : ByteArray := prog_12_method_31_code
def yX10_law : MethodName := ⟨RX10, "law", "(I)I"⟩
abbrev cX10_orNobody : ByteArray := prog_12_method_32_code
def yX10_orNobody : MethodName := ⟨RX10, "orNobody", "(I)I"⟩
abbrev cX10_post : ByteArray := prog_12_method_33_code
def yX10_post : MethodName := ⟨RX10, "post", "(III)I"⟩
abbrev cX10_postOf : ByteArray := prog_12_method_34_code
def yX10_postOf : MethodName := ⟨RX10, "postOf", "(II)I"⟩
abbrev cX10_surprise : ByteArray := prog_12_method_35_code
def yX10_surprise : MethodName := ⟨RX10, "surprise", "(IZ)I"⟩
abbrev cX10_loss : ByteArray := prog_12_method_36_code
def yX10_loss : MethodName := ⟨RX10, "loss", "(II)I"⟩
abbrev cX10_twoOn : ByteArray := prog_12_method_37_code
def yX10_twoOn : MethodName := ⟨RX10, "twoOn", "(I)I"⟩
abbrev cX10_pair : ByteArray := prog_12_method_38_code
def yX10_pair : MethodName := ⟨RX10, "pair", "(II)I"⟩
abbrev cX10_trustOf : ByteArray := prog_12_method_39_code
def yX10_trustOf : MethodName := ⟨RX10, "trustOf", "(III)I"⟩
abbrev cX10_trustOn : ByteArray := prog_12_method_40_code
def yX10_trustOn : MethodName := ⟨RX10, "trustOn", "(III)I"⟩
abbrev cX10_isNeither : ByteArray := prog_12_method_41_code
def yX10_isNeither : MethodName := ⟨RX10, "isNeither", "(III)Z"⟩
abbrev cX10_seenBy : ByteArray := prog_12_method_42_code
def yX10_seenBy : MethodName := ⟨RX10, "seenBy", "(IZ)I"⟩
abbrev cX10_isSurprise : ByteArray := prog_12_method_43_code
def yX10_isSurprise : MethodName := ⟨RX10, "isSurprise", "(I)Z"⟩
abbrev cX10_seen : ByteArray := prog_12_method_44_code
def yX10_seen : MethodName := ⟨RX10, "seen", "(I)I"⟩
abbrev cX10_worthBy : ByteArray := prog_12_method_45_code
def yX10_worthBy : MethodName := ⟨RX10, "worthBy", "(IZ)I"⟩
abbrev cX10_worth : ByteArray := prog_12_method_46_code
def yX10_worth : MethodName := ⟨RX10, "worth", "(I)I"⟩
abbrev cX10_paysBy : ByteArray := prog_12_method_47_code
def yX10_paysBy : MethodName := ⟨RX10, "paysBy", "(IZI)Z"⟩
abbrev cX10_pays : ByteArray := prog_12_method_48_code
def yX10_pays : MethodName := ⟨RX10, "pays", "()I"⟩
abbrev cX10_lowest : ByteArray := prog_12_method_49_code
def yX10_lowest : MethodName := ⟨RX10, "lowest", "(JJ)V"⟩
abbrev cX10_best : ByteArray := prog_12_method_50_code
def yX10_best : MethodName := ⟨RX10, "best", "(III)J"⟩
abbrev cX10_enough : ByteArray := prog_12_method_51_code
def yX10_enough : MethodName := ⟨RX10, "enough", "()I"⟩
abbrev cX10_needed : ByteArray := prog_12_method_52_code
def yX10_needed : MethodName := ⟨RX10, "needed", "()I"⟩
abbrev cX10_brokenOn : ByteArray := prog_12_method_53_code
def yX10_brokenOn : MethodName := ⟨RX10, "brokenOn", "(I)I"⟩
abbrev cX10_broken : ByteArray := prog_12_method_54_code
def yX10_broken : MethodName := ⟨RX10, "broken", "(I)I"⟩
abbrev cX10_keepsPosts : ByteArray := prog_12_method_55_code
def yX10_keepsPosts : MethodName := ⟨RX10, "keepsPosts", "(II)V"⟩
abbrev cX10_givesPosts : ByteArray := prog_12_method_56_code
def yX10_givesPosts : MethodName := ⟨RX10, "givesPosts", "(II)V"⟩
abbrev cX10_comes : ByteArray := prog_12_method_57_code
def yX10_comes : MethodName := ⟨RX10, "comes", "(II)Z"⟩
abbrev cX10_mended : ByteArray := prog_12_method_58_code
def yX10_mended : MethodName := ⟨RX10, "mended", "(II)I"⟩
abbrev cX10_sits : ByteArray := prog_12_method_59_code
def yX10_sits : MethodName := ⟨RX10, "sits", "(II)Z"⟩
abbrev cX10_ahead : ByteArray := prog_12_method_60_code
def yX10_ahead : MethodName := ⟨RX10, "ahead", "(II)I"⟩
abbrev cX10_satOn : ByteArray := prog_12_method_61_code
def yX10_satOn : MethodName := ⟨RX10, "satOn", "(II)I"⟩
abbrev cX10_sat : ByteArray := prog_12_method_62_code
def yX10_sat : MethodName := ⟨RX10, "sat", "(II)I"⟩
abbrev cX10_ones : ByteArray := prog_12_method_63_code
def yX10_ones : MethodName := ⟨RX10, "ones", "(I)I"⟩
abbrev cX10_sitting : ByteArray := prog_12_method_64_code
def yX10_sitting : MethodName := ⟨RX10, "sitting", "()I"⟩
abbrev cX10_lot : ByteArray := prog_12_method_65_code
def yX10_lot : MethodName := ⟨RX10, "lot", "(III)J"⟩
abbrev cX10_suspects : ByteArray := prog_12_method_66_code
def yX10_suspects : MethodName := ⟨RX10, "suspects", "(I)I"⟩
abbrev cX10_isPlan : ByteArray := prog_12_method_67_code
def yX10_isPlan : MethodName := ⟨RX10, "isPlan", "(I)Z"⟩
abbrev cX10_plan : ByteArray := prog_12_method_68_code
def yX10_plan : MethodName := ⟨RX10, "plan", "(II)I"⟩
abbrev cX10_planOf : ByteArray := prog_12_method_69_code
def yX10_planOf : MethodName := ⟨RX10, "planOf", "(II)I"⟩
abbrev cX10_leastOf : ByteArray := prog_12_method_70_code
def yX10_leastOf : MethodName := ⟨RX10, "leastOf", "(I)I"⟩
abbrev cX10_lastSat : ByteArray := prog_12_method_71_code
def yX10_lastSat : MethodName := ⟨RX10, "lastSat", "(III)I"⟩
abbrev cX10_fillsTurn : ByteArray := prog_12_method_72_code
def yX10_fillsTurn : MethodName := ⟨RX10, "fillsTurn", "(II)V"⟩
abbrev cX10_fillsDraw : ByteArray := prog_12_method_73_code
def yX10_fillsDraw : MethodName := ⟨RX10, "fillsDraw", "(I)V"⟩
abbrev cX10_fillsCount : ByteArray := prog_12_method_74_code
def yX10_fillsCount : MethodName := ⟨RX10, "fillsCount", "(I)V"⟩
abbrev cX10_fillsTold : ByteArray := prog_12_method_75_code
def yX10_fillsTold : MethodName := ⟨RX10, "fillsTold", "(I)Z"⟩
abbrev cX10_fill : ByteArray := prog_12_method_76_code
def yX10_fill : MethodName := ⟨RX10, "fill", "(II)I"⟩
abbrev cX10_seed : ByteArray := prog_12_method_77_code
def yX10_seed : MethodName := ⟨RX10, "seed", "(I)I"⟩
abbrev cX10_findRows : ByteArray := prog_12_method_78_code
def yX10_findRows : MethodName := ⟨RX10, "findRows", "()V"⟩
abbrev cX10_prove : ByteArray := prog_12_method_79_code
def yX10_prove : MethodName := ⟨RX10, "prove", "()I"⟩
abbrev cX10_isRow : ByteArray := prog_12_method_80_code
def yX10_isRow : MethodName := ⟨RX10, "isRow", "(II)Z"⟩
abbrev cX10_row : ByteArray := prog_12_method_81_code
def yX10_row : MethodName := ⟨RX10, "row", "(II)I"⟩
abbrev cX10_alterRow : ByteArray := prog_12_method_82_code
def yX10_alterRow : MethodName := ⟨RX10, "alterRow", "(III)I"⟩
abbrev cX10_judge : ByteArray := prog_12_method_83_code
def yX10_judge : MethodName := ⟨RX10, "judge", "()I"⟩
abbrev cX10_days : ByteArray := prog_12_method_84_code
def yX10_days : MethodName := ⟨RX10, "days", "(II)I"⟩
abbrev cX10_isShelf : ByteArray := prog_12_method_85_code
def yX10_isShelf : MethodName := ⟨RX10, "isShelf", "(I)Z"⟩
abbrev cX10_sheet : ByteArray := prog_12_method_86_code
def yX10_sheet : MethodName := ⟨RX10, "sheet", "(III)I"⟩
abbrev cX10_put : ByteArray := prog_12_method_87_code
def yX10_put : MethodName := ⟨RX10, "put", "(III)I"⟩
abbrev cX10_lacksSort : ByteArray := prog_12_method_88_code
def yX10_lacksSort : MethodName := ⟨RX10, "lacksSort", "(II)I"⟩
abbrev cX10_item : ByteArray := prog_12_method_89_code
def yX10_item : MethodName := ⟨RX10, "item", "(III)I"⟩
abbrev cX10_isHeld : ByteArray := prog_12_method_90_code
def yX10_isHeld : MethodName := ⟨RX10, "isHeld", "(II)Z"⟩
abbrev cX10_shelf : ByteArray := prog_12_method_91_code
def yX10_shelf : MethodName := ⟨RX10, "shelf", "(III)I"⟩
abbrev cX10_kindOn : ByteArray := prog_12_method_92_code
def yX10_kindOn : MethodName := ⟨RX10, "kindOn", "(I)I"⟩
abbrev cX10_isUnder : ByteArray := prog_12_method_93_code
def yX10_isUnder : MethodName := ⟨RX10, "isUnder", "(II)Z"⟩
abbrev cX10_taken : ByteArray := prog_12_method_94_code
def yX10_taken : MethodName := ⟨RX10, "taken", "(II)I"⟩
abbrev cX10_ran : ByteArray := prog_12_method_95_code
def yX10_ran : MethodName := ⟨RX10, "ran", "(I)V"⟩
abbrev cX10_plainSits : ByteArray := prog_12_method_96_code
def yX10_plainSits : MethodName := ⟨RX10, "plainSits", "(I)I"⟩
abbrev cX10_sitsIt : ByteArray := prog_12_method_97_code
def yX10_sitsIt : MethodName := ⟨RX10, "sitsIt", "(I)I"⟩
abbrev cX10_plainCounts : ByteArray := prog_12_method_98_code
def yX10_plainCounts : MethodName := ⟨RX10, "plainCounts", "(I)I"⟩
abbrev cX10_turnCounts : ByteArray := prog_12_method_99_code
def yX10_turnCounts : MethodName := ⟨RX10, "turnCounts", "(I)I"⟩
abbrev cX10_countsIt : ByteArray := prog_12_method_100_code
def yX10_countsIt : MethodName := ⟨RX10, "countsIt", "(I)I"⟩
abbrev cX10_plainShares : ByteArray := prog_12_method_101_code
def yX10_plainShares : MethodName := ⟨RX10, "plainShares", "(I)I"⟩
abbrev cX10_sharesIt : ByteArray := prog_12_method_102_code
def yX10_sharesIt : MethodName := ⟨RX10, "sharesIt", "(I)I"⟩
abbrev cX10_plainTells : ByteArray := prog_12_method_103_code
def yX10_plainTells : MethodName := ⟨RX10, "plainTells", "(I)I"⟩
abbrev cX10_tellsIt : ByteArray := prog_12_method_104_code
def yX10_tellsIt : MethodName := ⟨RX10, "tellsIt", "(I)I"⟩
abbrev cX10_act : ByteArray := prog_12_method_105_code
def yX10_act : MethodName := ⟨RX10, "act", "(III)I"⟩
abbrev cX10_trace : ByteArray := prog_12_method_106_code
def yX10_trace : MethodName := ⟨RX10, "trace", "(I)I"⟩
abbrev cX10_many : ByteArray := prog_12_method_107_code
def yX10_many : MethodName := ⟨RX10, "many", "(I)I"⟩
abbrev cX10_move : ByteArray := prog_12_method_108_code
def yX10_move : MethodName := ⟨RX10, "move", "([IIZ)V"⟩
abbrev cX10_moveAll : ByteArray := prog_12_method_109_code
def yX10_moveAll : MethodName := ⟨RX10, "moveAll", "(Z)V"⟩
abbrev cX10_keep : ByteArray := prog_12_method_110_code
def yX10_keep : MethodName := ⟨RX10, "keep", "()I"⟩
abbrev cX10_again : ByteArray := prog_12_method_111_code
def yX10_again : MethodName := ⟨RX10, "again", "()I"⟩
def RJx145de : String := "java/io/Serializable"
def TJx145de : u_T := fun k => match k with
  | _ => ("", "", "", false)
def tyJx145de : Nat → FieldType := fun k => match k with
  | _ => .int
abbrev wsJx145de0 : List Cond := u_ws RJx145de TJx145de 0
theorem nmJx145de : ∀ a, a < 0 → ∀ b, b < 0 → a ≠ b → (TJx145de a).2.1 ≠ (TJx145de b).2.1 := by decide +kernel
theorem tyJx145de_ok : ∀ k, k < 0 → parseFieldDescriptor (TJx145de k).2.2.1 = some (tyJx145de k) := by decide +kernel
def RJx9f9b0 : String := "java/lang/CharSequence"
def TJx9f9b0 : u_T := fun k => match k with
  | _ => ("", "", "", false)
def tyJx9f9b0 : Nat → FieldType := fun k => match k with
  | _ => .int
abbrev wsJx9f9b00 : List Cond := u_ws RJx9f9b0 TJx9f9b0 0
theorem nmJx9f9b0 : ∀ a, a < 0 → ∀ b, b < 0 → a ≠ b → (TJx9f9b0 a).2.1 ≠ (TJx9f9b0 b).2.1 := by decide +kernel
theorem tyJx9f9b0_ok : ∀ k, k < 0 → parseFieldDescriptor (TJx9f9b0 k).2.2.1 = some (tyJx9f9b0 k) := by decide +kernel
def RJxb160c : String := "java/lang/Comparable"
def TJxb160c : u_T := fun k => match k with
  | _ => ("", "", "", false)
def tyJxb160c : Nat → FieldType := fun k => match k with
  | _ => .int
abbrev wsJxb160c0 : List Cond := u_ws RJxb160c TJxb160c 0
theorem nmJxb160c : ∀ a, a < 0 → ∀ b, b < 0 → a ≠ b → (TJxb160c a).2.1 ≠ (TJxb160c b).2.1 := by decide +kernel
theorem tyJxb160c_ok : ∀ k, k < 0 → parseFieldDescriptor (TJxb160c k).2.2.1 = some (tyJxb160c k) := by decide +kernel
def RJ6 : String := "java/lang/Integer"
def TJ6 : u_T := fun k => match k with
  | _ => ("", "", "", false)
def tyJ6 : Nat → FieldType := fun k => match k with
  | _ => .int
abbrev wsJ60 : List Cond := u_ws RJ6 TJ6 0
theorem nmJ6 : ∀ a, a < 0 → ∀ b, b < 0 → a ≠ b → (TJ6 a).2.1 ≠ (TJ6 b).2.1 := by decide +kernel
theorem tyJ6_ok : ∀ k, k < 0 → parseFieldDescriptor (TJ6 k).2.2.1 = some (tyJ6 k) := by decide +kernel
abbrev cJ6_bitCount_0f7a4 : ByteArray := prog_13_method_49_code
def yJ6_bitCount_0f7a4 : MethodName := ⟨RJ6, "bitCount", "(I)I"⟩
def RJ9 : String := "java/lang/Math"
def TJ9 : u_T := fun k => match k with
  | _ => ("", "", "", false)
def tyJ9 : Nat → FieldType := fun k => match k with
  | _ => .int
abbrev wsJ90 : List Cond := u_ws RJ9 TJ9 0
theorem nmJ9 : ∀ a, a < 0 → ∀ b, b < 0 → a ≠ b → (TJ9 a).2.1 ≠ (TJ9 b).2.1 := by decide +kernel
theorem tyJ9_ok : ∀ k, k < 0 → parseFieldDescriptor (TJ9 k).2.2.1 = some (tyJ9 k) := by decide +kernel
abbrev cJ9_max_7cf53 : ByteArray := prog_14_method_65_code
def yJ9_max_7cf53 : MethodName := ⟨RJ9, "max", "(II)I"⟩
abbrev cJ9_max_f86c9 : ByteArray := prog_14_method_66_code
def yJ9_max_f86c9 : MethodName := ⟨RJ9, "max", "(JJ)J"⟩
abbrev cJ9_min_7cf53 : ByteArray := prog_14_method_69_code
def yJ9_min_7cf53 : MethodName := ⟨RJ9, "min", "(II)I"⟩
def RJ0 : String := "java/lang/String"
def TJ0 : u_T := fun k => match k with
  | _ => ("", "", "", false)
def tyJ0 : Nat → FieldType := fun k => match k with
  | _ => .int
abbrev wsJ00 : List Cond := u_ws RJ0 TJ0 0
theorem nmJ0 : ∀ a, a < 0 → ∀ b, b < 0 → a ≠ b → (TJ0 a).2.1 ≠ (TJ0 b).2.1 := by decide +kernel
theorem tyJ0_ok : ∀ k, k < 0 → parseFieldDescriptor (TJ0 k).2.2.1 = some (tyJ0 k) := by decide +kernel
abbrev cJ0_length_8abf5 : ByteArray := prog_15_method_54_code
def yJ0_length_8abf5 : MethodName := ⟨RJ0, "length", "()I"⟩
abbrev cJ0_charAt_5068e : ByteArray := prog_15_method_56_code
def yJ0_charAt_5068e : MethodName := ⟨RJ0, "charAt", "(I)C"⟩
abbrev cJ0_coder_7d493 : ByteArray := prog_15_method_152_code
def yJ0_coder_7d493 : MethodName := ⟨RJ0, "coder", "()B"⟩
abbrev cJ0_isLatin1_aae02 : ByteArray := prog_15_method_154_code
def yJ0_isLatin1_aae02 : MethodName := ⟨RJ0, "isLatin1", "()Z"⟩
abbrev cJ0_checkIndex_df160 : ByteArray := prog_15_method_155_code
def yJ0_checkIndex_df160 : MethodName := ⟨RJ0, "checkIndex", "(II)V"⟩
def RJ1 : String := "java/lang/StringLatin1"
def TJ1 : u_T := fun k => match k with
  | _ => ("", "", "", false)
def tyJ1 : Nat → FieldType := fun k => match k with
  | _ => .int
abbrev wsJ10 : List Cond := u_ws RJ1 TJ1 0
theorem nmJ1 : ∀ a, a < 0 → ∀ b, b < 0 → a ≠ b → (TJ1 a).2.1 ≠ (TJ1 b).2.1 := by decide +kernel
theorem tyJ1_ok : ∀ k, k < 0 → parseFieldDescriptor (TJ1 k).2.2.1 = some (tyJ1 k) := by decide +kernel
abbrev cJ1_charAt_3b067 : ByteArray := prog_16_method_2_code
def yJ1_charAt_3b067 : MethodName := ⟨RJ1, "charAt", "([BI)C"⟩
def RJ2 : String := "java/lang/StringUTF16"
def TJ2 : u_T := fun k => match k with
  | _ => ("", "", "", false)
def tyJ2 : Nat → FieldType := fun k => match k with
  | _ => .int
abbrev wsJ20 : List Cond := u_ws RJ2 TJ2 0
theorem nmJ2 : ∀ a, a < 0 → ∀ b, b < 0 → a ≠ b → (TJ2 a).2.1 ≠ (TJ2 b).2.1 := by decide +kernel
theorem tyJ2_ok : ∀ k, k < 0 → parseFieldDescriptor (TJ2 k).2.2.1 = some (tyJ2 k) := by decide +kernel
abbrev cJ2_getChar_3b067 : ByteArray := prog_17_method_5_code
def yJ2_getChar_3b067 : MethodName := ⟨RJ2, "getChar", "([BI)C"⟩
abbrev cJ2_length_9d52b : ByteArray := prog_17_method_6_code
def yJ2_length_9d52b : MethodName := ⟨RJ2, "length", "([B)I"⟩
abbrev cJ2_charAt_3b067 : ByteArray := prog_17_method_83_code
def yJ2_charAt_3b067 : MethodName := ⟨RJ2, "charAt", "([BI)C"⟩
abbrev cJ2_checkIndex_2214a : ByteArray := prog_17_method_91_code
def yJ2_checkIndex_2214a : MethodName := ⟨RJ2, "checkIndex", "(I[B)V"⟩
def RJ10 : String := "java/lang/System"
def TJ10 : u_T := fun k => match k with
  | _ => ("", "", "", false)
def tyJ10 : Nat → FieldType := fun k => match k with
  | _ => .int
abbrev wsJ100 : List Cond := u_ws RJ10 TJ10 0
theorem nmJ10 : ∀ a, a < 0 → ∀ b, b < 0 → a ≠ b → (TJ10 a).2.1 ≠ (TJ10 b).2.1 := by decide +kernel
theorem tyJ10_ok : ∀ k, k < 0 → parseFieldDescriptor (TJ10 k).2.2.1 = some (tyJ10 k) := by decide +kernel
def RJxfd54e : String := "java/lang/constant/Constable"
def TJxfd54e : u_T := fun k => match k with
  | _ => ("", "", "", false)
def tyJxfd54e : Nat → FieldType := fun k => match k with
  | _ => .int
abbrev wsJxfd54e0 : List Cond := u_ws RJxfd54e TJxfd54e 0
theorem nmJxfd54e : ∀ a, a < 0 → ∀ b, b < 0 → a ≠ b → (TJxfd54e a).2.1 ≠ (TJxfd54e b).2.1 := by decide +kernel
theorem tyJxfd54e_ok : ∀ k, k < 0 → parseFieldDescriptor (TJxfd54e k).2.2.1 = some (tyJxfd54e k) := by decide +kernel
def RJx3cf43 : String := "java/lang/constant/ConstantDesc"
def TJx3cf43 : u_T := fun k => match k with
  | _ => ("", "", "", false)
def tyJx3cf43 : Nat → FieldType := fun k => match k with
  | _ => .int
abbrev wsJx3cf430 : List Cond := u_ws RJx3cf43 TJx3cf43 0
theorem nmJx3cf43 : ∀ a, a < 0 → ∀ b, b < 0 → a ≠ b → (TJx3cf43 a).2.1 ≠ (TJx3cf43 b).2.1 := by decide +kernel
theorem tyJx3cf43_ok : ∀ k, k < 0 → parseFieldDescriptor (TJx3cf43 k).2.2.1 = some (tyJx3cf43 k) := by decide +kernel
def RJ7 : String := "java/util/Arrays"
def TJ7 : u_T := fun k => match k with
  | _ => ("", "", "", false)
def tyJ7 : Nat → FieldType := fun k => match k with
  | _ => .int
abbrev wsJ70 : List Cond := u_ws RJ7 TJ7 0
theorem nmJ7 : ∀ a, a < 0 → ∀ b, b < 0 → a ≠ b → (TJ7 a).2.1 ≠ (TJ7 b).2.1 := by decide +kernel
theorem tyJ7_ok : ∀ k, k < 0 → parseFieldDescriptor (TJ7 k).2.2.1 = some (tyJ7 k) := by decide +kernel
abbrev cJ7_fill_53178 : ByteArray := prog_19_method_103_code
def yJ7_fill_53178 : MethodName := ⟨RJ7, "fill", "([II)V"⟩
def RJ3 : String := "jdk/internal/util/Preconditions"
def TJ3 : u_T := fun k => match k with
  | _ => ("", "", "", false)
def tyJ3 : Nat → FieldType := fun k => match k with
  | _ => .int
abbrev wsJ30 : List Cond := u_ws RJ3 TJ3 0
theorem nmJ3 : ∀ a, a < 0 → ∀ b, b < 0 → a ≠ b → (TJ3 a).2.1 ≠ (TJ3 b).2.1 := by decide +kernel
theorem tyJ3_ok : ∀ k, k < 0 → parseFieldDescriptor (TJ3 k).2.2.1 = some (tyJ3 k) := by decide +kernel
abbrev cJ3_checkIndex_8e157 : ByteArray := prog_20_method_11_code
def yJ3_checkIndex_8e157 : MethodName := ⟨RJ3, "checkIndex", "(IILjava/util/function/BiFunction;)I"⟩
def RL : String := "TillPairsLaw"
abbrev cL_law : ByteArray := code
def yL_law : MethodName := ⟨RL, "law", "([I)Z"⟩
end
section
/-! the world of both systems as one memory: cell k of 86 at address ad k; ints by gI z k i, longs by gJ z k i -/
def isNest : Cond → Bool
  | .fieldLinkNest .. => true
  | _ => false
def TBL : List Cond := lw_tbl.filter goodWord
def TNW : List Cond := tables_1.filter isNest
theorem tb_of {w : Cond} (i : Nat) (h : lw_tbl[i]? = some w) (g : goodWord w = true) : w ∈ TBL := List.mem_filter.mpr ⟨List.mem_of_getElem? h, g⟩
theorem nw_of {w : Cond} (i : Nat) (h : tables_1[i]? = some w) (g : isNest w = true) : w ∈ TNW := List.mem_filter.mpr ⟨List.mem_of_getElem? h, g⟩
theorem tb_m {w : Cond} (h : w ∈ tables_1) (g : goodWord w = true) : w ∈ TBL := List.mem_filter.mpr ⟨List.mem_append_right _ h, g⟩
theorem tb_c1 {w : Cond} (i : Nat) (h : tables_1_1[i]? = some w) (g : goodWord w = true) : w ∈ TBL := tb_m (List.mem_append_left _ (List.mem_of_getElem? h)) g
theorem nw_c1 {w : Cond} (i : Nat) (h : tables_1_1[i]? = some w) (g : isNest w = true) : w ∈ TNW := List.mem_filter.mpr ⟨List.mem_append_left _ (List.mem_of_getElem? h), g⟩
theorem tb_c2 {w : Cond} (i : Nat) (h : tables_1_2[i]? = some w) (g : goodWord w = true) : w ∈ TBL := tb_m (List.mem_append_right _ (List.mem_append_left _ (List.mem_of_getElem? h))) g
theorem nw_c2 {w : Cond} (i : Nat) (h : tables_1_2[i]? = some w) (g : isNest w = true) : w ∈ TNW := List.mem_filter.mpr ⟨List.mem_append_right _ (List.mem_append_left _ (List.mem_of_getElem? h)), g⟩
theorem tb_c3 {w : Cond} (i : Nat) (h : tables_1_3[i]? = some w) (g : goodWord w = true) : w ∈ TBL := tb_m (List.mem_append_right _ (List.mem_append_right _ (List.mem_append_left _ (List.mem_of_getElem? h)))) g
theorem nw_c3 {w : Cond} (i : Nat) (h : tables_1_3[i]? = some w) (g : isNest w = true) : w ∈ TNW := List.mem_filter.mpr ⟨List.mem_append_right _ (List.mem_append_right _ (List.mem_append_left _ (List.mem_of_getElem? h))), g⟩
theorem tb_c4 {w : Cond} (i : Nat) (h : tables_1_4[i]? = some w) (g : goodWord w = true) : w ∈ TBL := tb_m (List.mem_append_right _ (List.mem_append_right _ (List.mem_append_right _ (List.mem_append_left _ (List.mem_of_getElem? h))))) g
theorem nw_c4 {w : Cond} (i : Nat) (h : tables_1_4[i]? = some w) (g : isNest w = true) : w ∈ TNW := List.mem_filter.mpr ⟨List.mem_append_right _ (List.mem_append_right _ (List.mem_append_right _ (List.mem_append_left _ (List.mem_of_getElem? h)))), g⟩
theorem tb_c5 {w : Cond} (i : Nat) (h : tables_1_5[i]? = some w) (g : goodWord w = true) : w ∈ TBL := tb_m (List.mem_append_right _ (List.mem_append_right _ (List.mem_append_right _ (List.mem_append_right _ (List.mem_append_left _ (List.mem_of_getElem? h)))))) g
theorem nw_c5 {w : Cond} (i : Nat) (h : tables_1_5[i]? = some w) (g : isNest w = true) : w ∈ TNW := List.mem_filter.mpr ⟨List.mem_append_right _ (List.mem_append_right _ (List.mem_append_right _ (List.mem_append_right _ (List.mem_append_left _ (List.mem_of_getElem? h))))), g⟩
theorem tb_c6 {w : Cond} (i : Nat) (h : tables_1_6[i]? = some w) (g : goodWord w = true) : w ∈ TBL := tb_m (List.mem_append_right _ (List.mem_append_right _ (List.mem_append_right _ (List.mem_append_right _ (List.mem_append_right _ (List.mem_append_left _ (List.mem_of_getElem? h))))))) g
theorem nw_c6 {w : Cond} (i : Nat) (h : tables_1_6[i]? = some w) (g : isNest w = true) : w ∈ TNW := List.mem_filter.mpr ⟨List.mem_append_right _ (List.mem_append_right _ (List.mem_append_right _ (List.mem_append_right _ (List.mem_append_right _ (List.mem_append_left _ (List.mem_of_getElem? h)))))), g⟩
theorem tb_c7 {w : Cond} (i : Nat) (h : tables_1_7[i]? = some w) (g : goodWord w = true) : w ∈ TBL := tb_m (List.mem_append_right _ (List.mem_append_right _ (List.mem_append_right _ (List.mem_append_right _ (List.mem_append_right _ (List.mem_append_right _ (List.mem_of_getElem? h))))))) g
theorem nw_c7 {w : Cond} (i : Nat) (h : tables_1_7[i]? = some w) (g : isNest w = true) : w ∈ TNW := List.mem_filter.mpr ⟨List.mem_append_right _ (List.mem_append_right _ (List.mem_append_right _ (List.mem_append_right _ (List.mem_append_right _ (List.mem_append_right _ (List.mem_of_getElem? h)))))), g⟩
theorem tb_good {ws : List Cond} (h : ∀ w ∈ ws, w ∈ TBL) : GoodIn TBL ws := fun w hw => ⟨h w hw, good_of_word (List.mem_filter.mp (h w hw)).2⟩
theorem tb_cons {c : Cond} (h : c ∈ TBL) : ∀ w ∈ c :: TBL, w ∈ TBL := fun w hw => (List.mem_cons.mp hw).elim (fun e => e ▸ h) id
abbrev MS : Type := (Nat → Nat → Int32) × (Nat → Nat → Int64)
def gI (z : MS) (k : Nat) : Nat → Int32 := z.1 k
def gJ (z : MS) (k : Nat) : Nat → Int64 := z.2 k
def wI (z : MS) (k : Nat) (F : Nat → Int32) : MS := (fun a => if a = k then F else z.1 a, z.2)
def wJ (z : MS) (k : Nat) (F : Nat → Int64) : MS := (z.1, fun a => if a = k then F else z.2 a)
def pI (z : MS) (k i : Nat) (v : Int32) : MS := wI z k (upd (gI z k) i v)
def pJ (z : MS) (k i : Nat) (v : Int64) : MS := wJ z k (vp_updL (gJ z k) i v)
def clss : List vw_C := [(RX0, TX0, 6), (RX1, TX1, 6), (RX2, TX2, 8), (RX3, TX3, 1), (RX4, TX4, 4), (RX5, TX5, 5), (RX6, TX6, 4), (RX7, TX7, 5), (RX8, TX8, 7), (RX9, TX9, 12), (RX10, TX10, 51)]
def tys (cs : Nat → ClassId) : List (ClassId × FieldType) := [(cs 0, .int), (cs 1, .long), (cs 2, .array .int)]
def wld (cs : Nat → ClassId) (ad : Nat → Nat) (z : MS) : va_W := [(ad 0, .inr (9, [.ref (ad 1), .ref (ad 8), .ref (ad 17), .ref (ad 18), .ref (ad 19), .ref (ad 26), .ref (ad 30), .ref (ad 32), .ref (ad 34), .ref (ad 45), .ref (ad 52), .int (gI z 0 11)])), (ad 1, .inr (2, [.int (gI z 1 0), .int (gI z 1 1), .ref (ad 2), .ref (ad 3), .ref (ad 4), .ref (ad 5), .ref (ad 6), .ref (ad 7)])), (ad 2, .inl (cs 0, 8, .inl (gI z 2))), (ad 3, .inl (cs 0, 8, .inl (gI z 3))), (ad 4, .inl (cs 0, 64, .inl (gI z 4))), (ad 5, .inl (cs 0, 8, .inl (gI z 5))), (ad 6, .inl (cs 0, 40, .inl (gI z 6))), (ad 7, .inl (cs 0, 10, .inl (gI z 7))), (ad 8, .inr (7, [.ref (ad 9), .ref (ad 10), .int (gI z 8 2), .int (gI z 8 3), .int (gI z 8 4)])), (ad 9, .inl (cs 0, 200, .inl (gI z 9))), (ad 10, .inr (2, [.int (gI z 10 0), .int (gI z 10 1), .ref (ad 11), .ref (ad 12), .ref (ad 13), .ref (ad 14), .ref (ad 15), .ref (ad 16)])), (ad 11, .inl (cs 0, 8, .inl (gI z 11))), (ad 12, .inl (cs 0, 8, .inl (gI z 12))), (ad 13, .inl (cs 0, 64, .inl (gI z 13))), (ad 14, .inl (cs 0, 8, .inl (gI z 14))), (ad 15, .inl (cs 0, 40, .inl (gI z 15))), (ad 16, .inl (cs 0, 10, .inl (gI z 16))), (ad 17, .inr (3, [.ref (ad 1)])), (ad 18, .inr (4, [.ref (ad 1), .ref (ad 17), .long (gJ z 18 2), .long (gJ z 18 3)])), (ad 19, .inr (8, [.ref (ad 1), .ref (ad 17), .ref (ad 20), .ref (ad 21), .ref (ad 25), .int (gI z 19 5), .int (gI z 19 6)])), (ad 20, .inl (cs 0, 64, .inl (gI z 20))), (ad 21, .inl (cs 2, 3, .inr (.inr (.inr (.inr (fun i => if i < 3 then some (ad (22 + i)) else none)))))), (ad 22, .inl (cs 0, 64, .inl (gI z 22))), (ad 23, .inl (cs 0, 64, .inl (gI z 23))), (ad 24, .inl (cs 0, 64, .inl (gI z 24))), (ad 25, .inl (cs 0, 3, .inl (gI z 25))), (ad 26, .inr (5, [.ref (ad 27), .ref (ad 28), .ref (ad 29), .int (gI z 26 3), .int (gI z 26 4)])), (ad 27, .inl (cs 0, 4, .inl (gI z 27))), (ad 28, .inl (cs 0, 4, .inl (gI z 28))), (ad 29, .inl (cs 0, 4, .inl (gI z 29))), (ad 30, .inr (6, [.ref (ad 1), .ref (ad 17), .ref (ad 31), .int (gI z 30 3)])), (ad 31, .inl (cs 0, 30, .inl (gI z 31))), (ad 32, .inr (0, [.ref (ad 33), .int (gI z 32 1), .int (gI z 32 2), .int (gI z 32 3), .int (gI z 32 4), .int (gI z 32 5)])), (ad 33, .inl (cs 0, 30, .inl (gI z 33))), (ad 34, .inr (1, [.ref (ad 35), .ref (ad 36), .ref (ad 37), .ref (ad 42), .ref (ad 43), .ref (ad 44)])), (ad 35, .inl (cs 0, 4, .inl (gI z 35))), (ad 36, .inl (cs 0, 4, .inl (gI z 36))), (ad 37, .inl (cs 2, 4, .inr (.inr (.inr (.inr (fun i => if i < 4 then some (ad (38 + i)) else none)))))), (ad 38, .inl (cs 0, 40, .inl (gI z 38))), (ad 39, .inl (cs 0, 40, .inl (gI z 39))), (ad 40, .inl (cs 0, 40, .inl (gI z 40))), (ad 41, .inl (cs 0, 40, .inl (gI z 41))), (ad 42, .inl (cs 0, 4, .inl (gI z 42))), (ad 43, .inl (cs 0, 4, .inl (gI z 43))), (ad 44, .inl (cs 0, 4, .inl (gI z 44))), (ad 45, .inr (2, [.int (gI z 45 0), .int (gI z 45 1), .ref (ad 46), .ref (ad 47), .ref (ad 48), .ref (ad 49), .ref (ad 50), .ref (ad 51)])), (ad 46, .inl (cs 0, 8, .inl (gI z 46))), (ad 47, .inl (cs 0, 8, .inl (gI z 47))), (ad 48, .inl (cs 0, 64, .inl (gI z 48))), (ad 49, .inl (cs 0, 8, .inl (gI z 49))), (ad 50, .inl (cs 0, 40, .inl (gI z 50))), (ad 51, .inl (cs 0, 10, .inl (gI z 51))), (ad 52, .inr (5, [.ref (ad 53), .ref (ad 54), .ref (ad 55), .int (gI z 52 3), .int (gI z 52 4)])), (ad 53, .inl (cs 0, 4, .inl (gI z 53))), (ad 54, .inl (cs 0, 4, .inl (gI z 54))), (ad 55, .inl (cs 0, 4, .inl (gI z 55))), (ad 56, .inr (10, [.int (gI z 56 0), .ref (ad 57), .ref (ad 58), .ref (ad 59), .ref (ad 60), .int (gI z 56 5), .ref (ad 61), .ref (ad 62), .ref (ad 63), .int (gI z 56 9), .ref (ad 64), .int (gI z 56 11), .ref (ad 65), .int (gI z 56 13), .int (gI z 56 14), .int (gI z 56 15), .int (gI z 56 16), .long (gJ z 56 17), .int (gI z 56 18), .int (gI z 56 19), .int (gI z 56 20), .ref (ad 66), .ref (ad 67), .ref (ad 68), .ref (ad 69), .long (gJ z 56 25), .long (gJ z 56 26), .ref (ad 70), .ref (ad 71), .ref (ad 72), .ref (ad 73), .ref (ad 74), .ref (ad 75), .ref (ad 76), .int (gI z 56 34), .ref (ad 77), .ref (ad 78), .ref (ad 79), .ref (ad 80), .ref (ad 81), .ref (ad 82), .int (gI z 56 41), .int (gI z 56 42), .int (gI z 56 43), .ref (ad 83), .int (gI z 56 45), .int (gI z 56 46), .int (gI z 56 47), .ref (ad 84), .int (gI z 56 49), .ref (ad 85)])), (ad 57, .inl (cs 0, 8, .inl (gI z 57))), (ad 58, .inl (cs 0, 8, .inl (gI z 58))), (ad 59, .inl (cs 0, 64, .inl (gI z 59))), (ad 60, .inl (cs 0, 40, .inl (gI z 60))), (ad 61, .inl (cs 0, 10, .inl (gI z 61))), (ad 62, .inl (cs 0, 8, .inl (gI z 62))), (ad 63, .inl (cs 0, 8, .inl (gI z 63))), (ad 64, .inl (cs 0, 8, .inl (gI z 64))), (ad 65, .inl (cs 0, 200, .inl (gI z 65))), (ad 66, .inl (cs 0, 8, .inl (gI z 66))), (ad 67, .inl (cs 0, 8, .inl (gI z 67))), (ad 68, .inl (cs 0, 64, .inl (gI z 68))), (ad 69, .inl (cs 0, 8, .inl (gI z 69))), (ad 70, .inl (cs 0, 12, .inl (gI z 70))), (ad 71, .inl (cs 0, 4, .inl (gI z 71))), (ad 72, .inl (cs 0, 3, .inl (gI z 72))), (ad 73, .inl (cs 1, 11, .inr (.inl (gJ z 73)))), (ad 74, .inl (cs 0, 4, .inl (gI z 74))), (ad 75, .inl (cs 0, 30, .inl (gI z 75))), (ad 76, .inl (cs 0, 30, .inl (gI z 76))), (ad 77, .inl (cs 0, 4, .inl (gI z 77))), (ad 78, .inl (cs 0, 4, .inl (gI z 78))), (ad 79, .inl (cs 1, 160, .inr (.inl (gJ z 79)))), (ad 80, .inl (cs 0, 4, .inl (gI z 80))), (ad 81, .inl (cs 0, 4, .inl (gI z 81))), (ad 82, .inl (cs 0, 4, .inl (gI z 82))), (ad 83, .inl (cs 0, 30, .inl (gI z 83))), (ad 84, .inl (cs 0, 200, .inl (gI z 84))), (ad 85, .inl (cs 0, 4, .inl (gI z 85)))]
theorem wld_ads (cs : Nat → ClassId) (ad : Nat → Nat) (z : MS) : (wld cs ad z).map (fun q => q.1) = (List.range 86).map ad := rfl
theorem wld_ad {cs : Nat → ClassId} {ad : Nat → Nat} {z : MS} {k : Nat} {q : Nat × va_E} (h : (wld cs ad z)[k]? = some q) : k < 86 ∧ q.1 = ad k := by
  have h1 : ((wld cs ad z).map (fun q => q.1))[k]? = some q.1 := by rw [List.getElem?_map, h]; rfl
  rw [wld_ads, List.getElem?_map] at h1
  by_cases hk : k < 86
  · rw [List.getElem?_range hk] at h1
    exact ⟨hk, (Option.some.inj h1).symm⟩
  · rw [List.getElem?_eq_none (by rw [List.length_range]; omega)] at h1
    cases h1
theorem wld_len (cs : Nat → ClassId) (ad : Nat → Nat) (z : MS) : (wld cs ad z).length = 86 := rfl
theorem wld_in {cs : Nat → ClassId} {ad : Nat → Nat} {z : MS} {k : Nat} (hk : k < 86) : ∃ e, (wld cs ad z)[k]? = some (ad k, e) := by
  have hl : k < (wld cs ad z).length := hk
  have h := List.getElem?_eq_getElem hl
  obtain ⟨-, e⟩ := wld_ad h
  exact ⟨((wld cs ad z)[k]).2, by rw [h]; exact congrArg some (Prod.ext e rfl)⟩
def INJ (ad : Nat → Nat) : Prop := ∀ i j : Nat, i < 86 → j < 86 → ad i = ad j → i = j
def WA (ad : Nat → Nat) (sz : Nat) : Nat → Prop := fun q => (∃ k : Nat, k < 86 ∧ q = ad k) ∨ sz ≤ q
theorem wld_D {cs : Nat → ClassId} {ad : Nat → Nat} {z : MS} {A : Nat → Prop} (hi : INJ ad) (hA : ∀ k : Nat, k < 86 → A (ad k)) : va_D A (wld cs ad z) := by
  refine ⟨fun i j p q h1 h2 h => ?_, fun k q h => ?_⟩
  · obtain ⟨a1, a2⟩ := wld_ad h1
    obtain ⟨b1, b2⟩ := wld_ad h2
    exact hi i j a1 b1 (by rw [← a2, ← b2]; exact h)
  · obtain ⟨a1, a2⟩ := wld_ad h
    rw [a2]
    exact hA k a1
theorem va_A_WA {cs : Nat → ClassId} {ad : Nat → Nat} {z : MS} {sz q : Nat} (h : va_A (wld cs ad z) sz q) : WA ad sz q := by
  rcases h with ⟨k, e, h⟩ | h
  · obtain ⟨a1, a2⟩ := wld_ad h
    exact Or.inl ⟨k, a1, a2⟩
  · exact Or.inr h
def cST0 : List Int32 := [5, 30, 2, 4, 1, 1, 0, 2]
def cST1 : List Int32 := [20, 99, 12, 12, 12, 3, 99, 9]
def cST2 : List Int32 := [-1, 0, 0, 2, 1, 0]
def cST3 : List Int32 := [10, 11, 12, 13, 0, 20, 0, 0, 30, 0, 0, 31, 40, 41, 0, 0, 51, 0, 50, 0, 0, 0, 61, 60]
def stI : List Nat := [86, 88, 90, 92, 94, 96, 98, 100, 102, 104, 106, 108, 124, 133]
def stT : List String := ["person", "kin", "trust", "away", "take", "pain", "eye", "counter", "reader", "fade", "tell", "gap", "on", "and"]
def stL : List Nat := [6, 3, 5, 4, 4, 4, 3, 7, 6, 4, 4, 3, 2, 3]
def stB : List (List Int32) := [[112, 101, 114, 115, 111, 110], [107, 105, 110], [116, 114, 117, 115, 116], [97, 119, 97, 121], [116, 97, 107, 101], [112, 97, 105, 110], [101, 121, 101], [99, 111, 117, 110, 116, 101, 114], [114, 101, 97, 100, 101, 114], [102, 97, 100, 101], [116, 101, 108, 108], [103, 97, 112], [111, 110], [97, 110, 100]]
/-- what stands beside the world and never changes: constant arrays, constant texts -/
def STAT (sd : Nat → Nat) (A : Nat → Prop) (U : State) (H : Heap) : Prop :=
  (va_Z "TillPairs$House" "LAWS_AT_FIRST" "[I" (.ref (sd 0)) A U H ∧ va_T .int (sd 0) 8 (fun j => .int (cST0.getD j 0)) A U H) ∧
  (va_Z "TillPairs$House" "MOST_OF_LAW" "[I" (.ref (sd 1)) A U H ∧ va_T .int (sd 1) 8 (fun j => .int (cST1.getD j 0)) A U H) ∧
  (va_Z "TillPairs$Acts" "KIND_ABOVE" "[I" (.ref (sd 2)) A U H ∧ va_T .int (sd 2) 6 (fun j => .int (cST2.getD j 0)) A U H) ∧
  (va_Z "TillPairs$Acts" "BODIES" "[I" (.ref (sd 3)) A U H ∧ va_T .int (sd 3) 24 (fun j => .int (cST3.getD j 0)) A U H) ∧
  va_Z "java/lang/String" "COMPACT_STRINGS" "Z" (.int 1) A U H ∧ va_Zq "jdk/internal/util/Preconditions" "SIOOBE_FORMATTER" "Ljava/util/function/BiFunction;" A U H ∧
  (∀ i : Nat, i < 14 → vk_R "TillPairs$Tape" (stI.getD i 0) (stT.getD i "") (sd (4 + i)) U) ∧ vk_S 14 stL stB (fun i => sd (4 + i)) (fun i => sd (18 + i)) A U H
theorem STAT.kept {sd : Nat → Nat} {A : Nat → Prop} {U : State} {H H1 : Heap} (h : STAT sd A U H) (hq : ∀ a : Nat, a < H.size → ¬ A a → H1[a]? = H[a]?) : STAT sd A U H1 := by
  obtain ⟨⟨a1, b1⟩, ⟨a2, b2⟩, ⟨a3, b3⟩, ⟨a4, b4⟩, c1, c2, c3, c4⟩ := h
  exact ⟨⟨a1.kept hq, b1.kept hq⟩, ⟨a2.kept hq, b2.kept hq⟩, ⟨a3.kept hq, b3.kept hq⟩, ⟨a4.kept hq, b4.kept hq⟩, c1.kept hq, c2.kept hq, c3, c4.kept hq⟩
theorem STAT.narrow {sd : Nat → Nat} {A B : Nat → Prop} {U : State} {H : Heap} (h : STAT sd A U H) (hq : ∀ q, B q → A q) : STAT sd B U H := by
  obtain ⟨⟨a1, b1⟩, ⟨a2, b2⟩, ⟨a3, b3⟩, ⟨a4, b4⟩, c1, c2, c3, c4⟩ := h
  exact ⟨⟨a1.narrow hq, b1.narrow hq⟩, ⟨a2.narrow hq, b2.narrow hq⟩, ⟨a3.narrow hq, b3.narrow hq⟩, ⟨a4.narrow hq, b4.narrow hq⟩, c1.narrow hq, c2.narrow hq, c3, c4.narrow hq⟩
theorem STAT.warm {sd : Nat → Nat} {A : Nat → Prop} {s U : State} {H : Heap} (hW : s.WarmedH U.vm) (h : STAT sd A s H) : STAT sd A U H := by
  obtain ⟨⟨a1, b1⟩, ⟨a2, b2⟩, ⟨a3, b3⟩, ⟨a4, b4⟩, c1, c2, c3, c4⟩ := h
  have ha := hW.alike
  exact ⟨⟨a1.moved ha, b1.moved ha⟩, ⟨a2.moved ha, b2.moved ha⟩, ⟨a3.moved ha, b3.moved ha⟩, ⟨a4.moved ha, b4.moved ha⟩, c1.moved ha, c2.moved ha, fun i hi => vk_R.warm hW (c3 i hi), c4.moved ha⟩
theorem STAT.same {sd : Nat → Nat} {A : Nat → Prop} {u U : State} {H : Heap} (hv : U.vm = u.vm) (h : STAT sd A u H) : STAT sd A U H := by
  obtain ⟨⟨a1, b1⟩, ⟨a2, b2⟩, ⟨a3, b3⟩, ⟨a4, b4⟩, c1, c2, c3, c4⟩ := h
  have ha : u.vm.Alike U.vm := by rw [hv]; exact Vm.Alike.refl _
  exact ⟨⟨a1.moved ha, b1.moved ha⟩, ⟨a2.moved ha, b2.moved ha⟩, ⟨a3.moved ha, b3.moved ha⟩, ⟨a4.moved ha, b4.moved ha⟩, c1.moved ha, c2.moved ha, fun i hi => vk_R.same hv (c3 i hi), c4.moved ha⟩
theorem nw_warm {s U : State} (hW : s.WarmedH U.vm) (h : ∀ w ∈ TNW, va_Nw w s) : ∀ w ∈ TNW, va_Nw w U := by
  intro w hw
  have h1 := h w hw
  have h2 := (List.mem_filter.mp hw).2
  cases w <;> first | (cases h2; done) | exact va_Nw.warmF hW h1
theorem nw_same {s U : State} (hv : s.vm = U.vm) (h : ∀ w ∈ TNW, va_Nw w s) : ∀ w ∈ TNW, va_Nw w U := by
  intro w hw
  have h1 := h w hw
  have h2 := (List.mem_filter.mp hw).2
  cases w <;> first | (cases h2; done) | exact va_Nw.same rfl hv h1
/-- what a method finds at its start -/
def UB (D : va_G) (ad : Nat → Nat) (cs : Nat → ClassId) (sd : Nat → Nat) (sz : Nat) (z : MS) (U : State) : Prop :=
  U.heap.size = sz ∧ va_P D clss (wld cs ad z) U.heap ∧ va_K D clss (tys cs) U ∧ (∀ w ∈ TNW, va_Nw w U) ∧ STAT sd (WA ad sz) U U.heap
/-- its end: it returned v0, the memory is z1, nothing else changed -/
def QU (v0 : Option Value) (D : va_G) (ad : Nat → Nat) (cs : Nat → ClassId) (z1 : MS) (A : Nat → Prop) : Array Value → State → Outcome → State → Prop :=
  fun _ st oc t => oc = .returned v0 ∧ va_P D clss (wld cs ad z1) t.heap ∧ va_F A st t
/-- a method's contract: from memory z, with these arguments, it returns v0 and leaves z1 -/
def CT (l : Launch) (y : MethodName) (bytes : ByteArray) (maxL : Nat) (ret : Option FieldType) (fr lo : Nat) (avs : (Nat → Nat) → (Nat → Nat) → List Value) (z : MS) (v0 : Option Value) (z1 : MS) : Prop :=
  ∀ (D : va_G) (ad : Nat → Nat) (cs : Nat → ClassId) (sd : Nat → Nat) (sz : Nat), INJ ad →
    Met l y (.code y bytes maxL ret :: TBL) { frames := fr, cells := 0, slots := 0, locals := lo } (va_Pc (avs ad sd) (UB D ad cs sd sz z)) (QU v0 D ad cs z1 (WA ad sz)) 0 0 (WA ad sz)
/-- a method's context -/
def UC (p : Program) (s : State) (m : MethodId) (args : Array Value) (meth : Method) (c : Code) (cc : ByteArray) (nL : Nat) (own : String) (R : Room) (fr lo : Nat) (D : va_G) (ad : Nat → Nat) (cs : Nat → ClassId) (sd : Nat → Nat) (A : Nat → Prop) : Prop :=
  p.tables.exec = Jvm.exec ∧ c.code = cc ∧ c.maxLocals = nL ∧ s.vm.findClass own = some m.cls ∧ (∀ w ∈ TBL, w.before args s = true) ∧ (∀ w ∈ TNW, va_Nw w s) ∧
  va_K D clss (tys cs) s ∧ meth.locks = false ∧ INJ ad ∧ (∀ k : Nat, k < 86 → A (ad k)) ∧ (∀ q : Nat, s.heap.size ≤ q → A q) ∧ STAT sd A s s.heap ∧ fr ≤ R.frames ∧ lo ≤ R.locals ∧ 0 ≤ R.cells ∧ 0 ≤ R.slots
theorem ifn_inv {α : Type} {c : Prop} {d : Decidable c} {a : Option α} {t : α} (h : (if c then none else a) = some t) : ¬ c ∧ a = some t := by
  by_cases hc : c
  · rw [if_pos hc] at h; cases h
  · rw [if_neg hc] at h; exact ⟨hc, h⟩
theorem ob_inv {α β : Type} {o : Option α} {f : α → Option β} {t : β} (h : Option.bind o f = some t) : ∃ a, o = some a ∧ f a = some t := by
  cases o with
  | none => cases h
  | some a => exact ⟨a, rfl, h⟩
def LF : Nat := 1000000
def irm (x y : Int32) : Int32 := x - x / y * y
def lrm (x y : Int64) : Int64 := x - x / y * y
def iush (x y : Int32) : Int32 := (x.toUInt32 >>> (y.toUInt32 &&& Int32.toUInt32 31)).toInt32
def jshl (x : Int64) (y : Int32) : Int64 := x <<< (y.toInt64 &&& 63)
def jshr (x : Int64) (y : Int32) : Int64 := x >>> (y.toInt64 &&& 63)
def jush (x : Int64) (y : Int32) : Int64 := (x.toUInt64 >>> (y.toInt64.toUInt64 &&& Int64.toUInt64 63)).toInt64
def mnI (x y : Int32) : Int32 := if y < x then y else x
def mxI (x y : Int32) : Int32 := if x < y then y else x
def mxJ (x y : Int64) : Int64 := if y < x then x else y
def cI (z : MS) (k k0 n : Nat) : MS := wI z k (va_cpy (gI z k0) (gI z k) 0 0 n)
def fI (z : MS) (k n : Nat) (v : Int32) : MS := wI z k (fun j => if j < n then v else gI z k j)
def ob2 {α β γ : Type} (o : Option (α × β)) (f : α → β → Option γ) : Option γ := match o with
  | none => none
  | some (a, b) => f a b
theorem ob2_inv {α β γ : Type} {o : Option (α × β)} {f : α → β → Option γ} {t : γ} (h : ob2 o f = some t) : ∃ a b, o = some (a, b) ∧ f a b = some t := by
  cases o with
  | none => cases h
  | some x => exact ⟨x.1, x.2, rfl, h⟩
theorem ifb_inv {α : Type} {c : Prop} {d : Decidable c} {a : Option α} {t : α} (h : (if c then a else none) = some t) : c ∧ a = some t := by
  by_cases hc : c
  · rw [if_pos hc] at h; exact ⟨hc, h⟩
  · rw [if_neg hc] at h; cases h
theorem ifs_inv {α : Type} {c : Prop} {d : Decidable c} {a : Option α} {t : α} (h : (if c then a else none) = some t) : c ∧ a = some t := ifb_inv h
theorem vp_lt {i : Int32} {N : Nat} (h : ¬ (i < 0 ∨ N ≤ i.toNatClampNeg)) : i.toNatClampNeg < N := Nat.not_le.mp fun q => h (Or.inr q)
section UROWS
variable {p : Program} {l : Launch} {e : Env} {R : Room} {s : State} {m : MethodId} {args : Array Value} {below : List Frame} {meth : Method} {c : Code} {H : Heap} {locs : List Loc} {cells slots : Nat} {Q : State → Prop}
variable {cc : ByteArray} {nL fr lo lo0 pc : Nat} {own : String} {ls : Array Slot} {rest : List Value} {D : va_G} {ad : Nat → Nat} {cs : Nat → ClassId} {sd : Nat → Nat} {A : Nat → Prop} {z z1 : MS}
theorem uc_D (X : UC p s m args meth c cc nL own R fr lo D ad cs sd A) : va_D A (wld cs ad z) := wld_D X.2.2.2.2.2.2.2.2.1 X.2.2.2.2.2.2.2.2.2.1
theorem u_start {l : Launch} {y : MethodName} {bytes : ByteArray} {maxL : Nat} {ret : Option FieldType} {fr lo : Nat} {avs : (Nat → Nat) → (Nat → Nat) → List Value} {z z1 : MS} {v0 : Option Value} (own : String) (hown : y.cls = own) (hy : plainName y.cls = true)
    (hn : ∀ ad sd, (lg_sl (avs ad sd)).length ≤ maxL)
    (body : ∀ (p : Program) (e : Env) (s : State) (m : MethodId) (args : Array Value) (below : List Frame) (meth : Method) (c : Code) (R : Room) (D : va_G) (ad : Nat → Nat) (cs : Nat → ClassId) (sd : Nat → Nat) (A : Nat → Prop) (Q : State → Prop) (ls : Array Slot),
      UC p s m args meth c bytes maxL own R fr lo D ad cs sd A → va_P D clss (wld cs ad z) s.heap → va_S A s.heap s.heap [] → lv_has ls maxL (lv_args 0 (avs ad sd)) → meth.sig.returnType = ret →
      (∀ (H : Heap) (locs : List Loc) (g : JFrame), va_P D clss (wld cs ad z1) H → va_S A s.heap H locs → W p l e R s m args below meth c H locs 0 0 (MQ below (fun _ st oc t => oc = .returned v0 ∧ t.heap = H) args s 0 0 A) g → W p l e R s m args below meth c H locs 0 0 Q g) →
      W p l e R s m args below meth c s.heap [] 0 0 Q (F0 m 0 ls [])) : CT l y bytes maxL ret fr lo avs z v0 z1 := by
  intro D ad cs sd sz hinj
  refine Met.ofW (cc := bytes) (maxL := maxL) (ret := ret) hy rfl ?_
  intro p e s m args below meth c s₁ B hml hv
  obtain ⟨rfl, hsz, hP, hK, hN, hT⟩ := hv
  subst hsz
  have hts := atoms_spec (ws := .code y bytes maxL ret :: TBL) B.pre
  have hown : s.vm.findClass own = some m.cls := by rw [← hown]; exact findClass_of_methodNamed B.named
  have hl := lv_entry (avs ad sd) (n := maxL) (hn ad sd)
  rw [lg_entry_eq]
  generalize (lg_sl (avs ad sd) ++ List.replicate (maxL - (lg_sl (avs ad sd)).length) Slot.unset).toArray = ls at hl ⊢
  refine body p e s m _ below meth c _ D ad cs sd (WA ad s.heap.size) _ ls ⟨B.exec, B.bytes, hml, hown, fun w hw => hts w (List.mem_cons_of_mem _ hw), hN, hK, B.notSynchronized, hinj, fun k hk => Or.inl ⟨k, hk, rfl⟩, fun q hq => Or.inr hq, hT, Nat.le_refl _, Nat.le_refl _, Nat.zero_le _, Nat.zero_le _⟩ hP va_S.rf hl B.returns ?_
  intro H locs g hP1 hS1 hW T hT1 X1
  obtain ⟨t, h1, o, h2, h3, ⟨h4, h5⟩, h6⟩ := hW T hT1 X1
  refine ⟨t, h1, o, h2, h3, ⟨h4, ?_, ?_⟩, h6⟩
  · rw [h5]; exact hP1
  · exact hS1.F h5
abbrev HR (p : Program) (l : Launch) (e : Env) (R : Room) (s : State) (m : MethodId) (args : Array Value) (below : List Frame) (meth : Method) (c : Code) (D : va_G) (ad : Nat → Nat) (cs : Nat → ClassId) (A : Nat → Prop) (Q : State → Prop) (z1 : MS) (v0 : Option Value) : Prop :=
  ∀ (H : Heap) (locs : List Loc) (g : JFrame), va_P D clss (wld cs ad z1) H → va_S A s.heap H locs → W p l e R s m args below meth c H locs 0 0 (MQ below (fun _ st oc t => oc = .returned v0 ∧ t.heap = H) args s 0 0 A) g → W p l e R s m args below meth c H locs 0 0 Q g
theorem u_iret {v : Int32} (X : UC p s m args meth c cc nL own R fr lo D ad cs sd A) (hr : meth.sig.returnType = some .int) (hret : HR p l e R s m args below meth c D ad cs A Q z (some (.int v))) (hP : va_P D clss (wld cs ad z) H) (hS : va_S A s.heap H locs) (d : decode cc pc = .ok (.ireturn, 1)) : W p l e R s m args below meth c H locs 0 0 Q (F0 m pc ls [.int v]) :=
  hret H locs _ hP hS (W.iret X.1 X.2.1 hr (fun t ht _ => ⟨rfl, ht⟩) hS.2.2 d X.2.2.2.2.2.2.2.1)
theorem u_zret {v : Int32} (X : UC p s m args meth c cc nL own R fr lo D ad cs sd A) (hr : meth.sig.returnType = some .boolean) (hret : HR p l e R s m args below meth c D ad cs A Q z (some (.int v))) (hP : va_P D clss (wld cs ad z) H) (hS : va_S A s.heap H locs) (hv : v = 0 ∨ v = 1) (d : decode cc pc = .ok (.ireturn, 1)) : W p l e R s m args below meth c H locs 0 0 Q (F0 m pc ls [.int v]) :=
  hret H locs _ hP hS (W.zret X.1 X.2.1 hr (by rcases hv with h | h <;> subst h <;> rfl) (fun t ht _ => ⟨rfl, ht⟩) hS.2.2 d X.2.2.2.2.2.2.2.1)
theorem u_lret {v : Int64} (X : UC p s m args meth c cc nL own R fr lo D ad cs sd A) (hr : meth.sig.returnType = some .long) (hret : HR p l e R s m args below meth c D ad cs A Q z (some (.long v))) (hP : va_P D clss (wld cs ad z) H) (hS : va_S A s.heap H locs) (d : decode cc pc = .ok (.lreturn, 1)) : W p l e R s m args below meth c H locs 0 0 Q (F0 m pc ls [.long v]) :=
  hret H locs _ hP hS (W.lret X.1 X.2.1 hr (fun t ht _ => ⟨rfl, ht⟩) hS.2.2 d X.2.2.2.2.2.2.2.1)
theorem u_vret (X : UC p s m args meth c cc nL own R fr lo D ad cs sd A) (hr : meth.sig.returnType = none) (hret : HR p l e R s m args below meth c D ad cs A Q z none) (hP : va_P D clss (wld cs ad z) H) (hS : va_S A s.heap H locs) (d : decode cc pc = .ok (.return_, 1)) : W p l e R s m args below meth c H locs 0 0 Q (F0 m pc ls []) :=
  hret H locs _ hP hS (W.vret X.1 X.2.1 hr (fun t ht _ => ⟨rfl, ht⟩) hS.2.2 d X.2.2.2.2.2.2.2.1)
theorem u_aret {v : Nat} {rt : FieldType} (X : UC p s m args meth c cc nL own R fr lo D ad cs sd A) (hr : meth.sig.returnType = some rt) (hrt : (∃ n, rt = .object n) ∨ ∃ t, rt = .array t) (hret : HR p l e R s m args below meth c D ad cs A Q z (some (.ref v))) (hP : va_P D clss (wld cs ad z) H) (hS : va_S A s.heap H locs) (d : decode cc pc = .ok (.areturn, 1)) : W p l e R s m args below meth c H locs 0 0 Q (F0 m pc ls [.ref v]) :=
  hret H locs _ hP hS (W.aret X.1 X.2.1 hr hrt (Or.inr ⟨v, rfl⟩) (fun t ht _ => ⟨rfl, ht⟩) hS.2.2 d X.2.2.2.2.2.2.2.1)
theorem u_iadd {x y : Int32} (X : UC p s m args meth c cc nL own R fr lo D ad cs sd A) (d : decode cc pc = .ok (.iadd, 1)) (k : W p l e R s m args below meth c H locs cells slots Q (F0 m (pc + 1) ls (.int (x + y) :: rest))) : W p l e R s m args below meth c H locs cells slots Q (F0 m pc ls (.int y :: .int x ::  rest)) := lv_iadd X.1 X.2.1 d k
theorem u_isub {x y : Int32} (X : UC p s m args meth c cc nL own R fr lo D ad cs sd A) (d : decode cc pc = .ok (.isub, 1)) (k : W p l e R s m args below meth c H locs cells slots Q (F0 m (pc + 1) ls (.int (x - y) :: rest))) : W p l e R s m args below meth c H locs cells slots Q (F0 m pc ls (.int y :: .int x ::  rest)) := lv_isub X.1 X.2.1 d k
theorem u_imul {x y : Int32} (X : UC p s m args meth c cc nL own R fr lo D ad cs sd A) (d : decode cc pc = .ok (.imul, 1)) (k : W p l e R s m args below meth c H locs cells slots Q (F0 m (pc + 1) ls (.int (x * y) :: rest))) : W p l e R s m args below meth c H locs cells slots Q (F0 m pc ls (.int y :: .int x ::  rest)) := lv_imul X.1 X.2.1 d k
theorem u_iand {x y : Int32} (X : UC p s m args meth c cc nL own R fr lo D ad cs sd A) (d : decode cc pc = .ok (.iand, 1)) (k : W p l e R s m args below meth c H locs cells slots Q (F0 m (pc + 1) ls (.int (x &&& y) :: rest))) : W p l e R s m args below meth c H locs cells slots Q (F0 m pc ls (.int y :: .int x ::  rest)) := lv_iand X.1 X.2.1 d k
theorem u_ior {x y : Int32} (X : UC p s m args meth c cc nL own R fr lo D ad cs sd A) (d : decode cc pc = .ok (.ior, 1)) (k : W p l e R s m args below meth c H locs cells slots Q (F0 m (pc + 1) ls (.int (x ||| y) :: rest))) : W p l e R s m args below meth c H locs cells slots Q (F0 m pc ls (.int y :: .int x ::  rest)) := lv_ior X.1 X.2.1 d k
theorem u_ixor {x y : Int32} (X : UC p s m args meth c cc nL own R fr lo D ad cs sd A) (d : decode cc pc = .ok (.ixor, 1)) (k : W p l e R s m args below meth c H locs cells slots Q (F0 m (pc + 1) ls (.int (x ^^^ y) :: rest))) : W p l e R s m args below meth c H locs cells slots Q (F0 m pc ls (.int y :: .int x ::  rest)) := lv_ixor X.1 X.2.1 d k
theorem u_ishl {x y : Int32} (X : UC p s m args meth c cc nL own R fr lo D ad cs sd A) (d : decode cc pc = .ok (.ishl, 1)) (k : W p l e R s m args below meth c H locs cells slots Q (F0 m (pc + 1) ls (.int (x <<< (y &&& 31)) :: rest))) : W p l e R s m args below meth c H locs cells slots Q (F0 m pc ls (.int y :: .int x ::  rest)) := lv_ishl X.1 X.2.1 d k
theorem u_ishr {x y : Int32} (X : UC p s m args meth c cc nL own R fr lo D ad cs sd A) (d : decode cc pc = .ok (.ishr, 1)) (k : W p l e R s m args below meth c H locs cells slots Q (F0 m (pc + 1) ls (.int (x >>> (y &&& 31)) :: rest))) : W p l e R s m args below meth c H locs cells slots Q (F0 m pc ls (.int y :: .int x ::  rest)) := lv_ishr X.1 X.2.1 d k
theorem u_iushr {x y : Int32} (X : UC p s m args meth c cc nL own R fr lo D ad cs sd A) (d : decode cc pc = .ok (.iushr, 1)) (k : W p l e R s m args below meth c H locs cells slots Q (F0 m (pc + 1) ls (.int (iush x y) :: rest))) : W p l e R s m args below meth c H locs cells slots Q (F0 m pc ls (.int y :: .int x ::  rest)) := lv_iushr X.1 X.2.1 d rfl k
theorem u_ladd {x y : Int64} (X : UC p s m args meth c cc nL own R fr lo D ad cs sd A) (d : decode cc pc = .ok (.ladd, 1)) (k : W p l e R s m args below meth c H locs cells slots Q (F0 m (pc + 1) ls (.long (x + y) :: rest))) : W p l e R s m args below meth c H locs cells slots Q (F0 m pc ls (.long y :: .long x ::  rest)) := lv_ladd X.1 X.2.1 d k
theorem u_lsub {x y : Int64} (X : UC p s m args meth c cc nL own R fr lo D ad cs sd A) (d : decode cc pc = .ok (.lsub, 1)) (k : W p l e R s m args below meth c H locs cells slots Q (F0 m (pc + 1) ls (.long (x - y) :: rest))) : W p l e R s m args below meth c H locs cells slots Q (F0 m pc ls (.long y :: .long x ::  rest)) := lv_lsub X.1 X.2.1 d k
theorem u_lmul {x y : Int64} (X : UC p s m args meth c cc nL own R fr lo D ad cs sd A) (d : decode cc pc = .ok (.lmul, 1)) (k : W p l e R s m args below meth c H locs cells slots Q (F0 m (pc + 1) ls (.long (x * y) :: rest))) : W p l e R s m args below meth c H locs cells slots Q (F0 m pc ls (.long y :: .long x ::  rest)) := lv_lmul X.1 X.2.1 d k
theorem u_land {x y : Int64} (X : UC p s m args meth c cc nL own R fr lo D ad cs sd A) (d : decode cc pc = .ok (.land, 1)) (k : W p l e R s m args below meth c H locs cells slots Q (F0 m (pc + 1) ls (.long (x &&& y) :: rest))) : W p l e R s m args below meth c H locs cells slots Q (F0 m pc ls (.long y :: .long x ::  rest)) := lv_land X.1 X.2.1 d k
theorem u_lor {x y : Int64} (X : UC p s m args meth c cc nL own R fr lo D ad cs sd A) (d : decode cc pc = .ok (.lor, 1)) (k : W p l e R s m args below meth c H locs cells slots Q (F0 m (pc + 1) ls (.long (x ||| y) :: rest))) : W p l e R s m args below meth c H locs cells slots Q (F0 m pc ls (.long y :: .long x ::  rest)) := lv_lor X.1 X.2.1 d k
theorem u_idiv {x y : Int32} (X : UC p s m args meth c cc nL own R fr lo D ad cs sd A) (hn : ¬ y = 0) (d : decode cc pc = .ok (.idiv, 1)) (k : W p l e R s m args below meth c H locs cells slots Q (F0 m (pc + 1) ls (.int (x / y) :: rest))) : W p l e R s m args below meth c H locs cells slots Q (F0 m pc ls (.int y :: .int x :: rest)) := lv_idiv X.1 X.2.1 d hn k
theorem u_irem {x y : Int32} (X : UC p s m args meth c cc nL own R fr lo D ad cs sd A) (hn : ¬ y = 0) (d : decode cc pc = .ok (.irem, 1)) (k : W p l e R s m args below meth c H locs cells slots Q (F0 m (pc + 1) ls (.int (irm x y) :: rest))) : W p l e R s m args below meth c H locs cells slots Q (F0 m pc ls (.int y :: .int x :: rest)) := lv_irem X.1 X.2.1 d hn k
theorem u_ldiv {x y : Int64} (X : UC p s m args meth c cc nL own R fr lo D ad cs sd A) (hn : ¬ y = 0) (d : decode cc pc = .ok (.ldiv, 1)) (k : W p l e R s m args below meth c H locs cells slots Q (F0 m (pc + 1) ls (.long (x / y) :: rest))) : W p l e R s m args below meth c H locs cells slots Q (F0 m pc ls (.long y :: .long x :: rest)) := lv_ldiv X.1 X.2.1 d hn k
theorem u_lrem {x y : Int64} (X : UC p s m args meth c cc nL own R fr lo D ad cs sd A) (hn : ¬ y = 0) (d : decode cc pc = .ok (.lrem, 1)) (k : W p l e R s m args below meth c H locs cells slots Q (F0 m (pc + 1) ls (.long (lrm x y) :: rest))) : W p l e R s m args below meth c H locs cells slots Q (F0 m pc ls (.long y :: .long x :: rest)) := lv_lrem X.1 X.2.1 d hn k
theorem u_lshl {x : Int64} {y : Int32} (X : UC p s m args meth c cc nL own R fr lo D ad cs sd A) (d : decode cc pc = .ok (.lshl, 1)) (k : W p l e R s m args below meth c H locs cells slots Q (F0 m (pc + 1) ls (.long (jshl x y) :: rest))) : W p l e R s m args below meth c H locs cells slots Q (F0 m pc ls (.int y :: .long x ::  rest)) := lv_lshl X.1 X.2.1 d rfl k
theorem u_lshr {x : Int64} {y : Int32} (X : UC p s m args meth c cc nL own R fr lo D ad cs sd A) (d : decode cc pc = .ok (.lshr, 1)) (k : W p l e R s m args below meth c H locs cells slots Q (F0 m (pc + 1) ls (.long (jshr x y) :: rest))) : W p l e R s m args below meth c H locs cells slots Q (F0 m pc ls (.int y :: .long x ::  rest)) := lv_lshr X.1 X.2.1 d rfl k
theorem u_lushr {x : Int64} {y : Int32} (X : UC p s m args meth c cc nL own R fr lo D ad cs sd A) (d : decode cc pc = .ok (.lushr, 1)) (k : W p l e R s m args below meth c H locs cells slots Q (F0 m (pc + 1) ls (.long (jush x y) :: rest))) : W p l e R s m args below meth c H locs cells slots Q (F0 m pc ls (.int y :: .long x ::  rest)) := lv_lushr X.1 X.2.1 d rfl k
theorem u_i2l {x : Int32} (X : UC p s m args meth c cc nL own R fr lo D ad cs sd A) (d : decode cc pc = .ok (.i2l, 1)) (k : W p l e R s m args below meth c H locs cells slots Q (F0 m (pc + 1) ls (.long x.toInt64 :: rest))) : W p l e R s m args below meth c H locs cells slots Q (F0 m pc ls (.int x ::  rest)) := lv_i2l X.1 X.2.1 d rfl k
theorem u_l2i {x : Int64} (X : UC p s m args meth c cc nL own R fr lo D ad cs sd A) (d : decode cc pc = .ok (.l2i, 1)) (k : W p l e R s m args below meth c H locs cells slots Q (F0 m (pc + 1) ls (.int x.toInt32 :: rest))) : W p l e R s m args below meth c H locs cells slots Q (F0 m pc ls (.long x ::  rest)) := lv_l2i X.1 X.2.1 d rfl k
theorem u_i2b {x : Int32} (X : UC p s m args meth c cc nL own R fr lo D ad cs sd A) (d : decode cc pc = .ok (.i2b, 1)) (k : W p l e R s m args below meth c H locs cells slots Q (F0 m (pc + 1) ls (.int x.toInt8.toInt32 :: rest))) : W p l e R s m args below meth c H locs cells slots Q (F0 m pc ls (.int x ::  rest)) := lv_i2b X.1 X.2.1 d rfl k
theorem u_i2s {x : Int32} (X : UC p s m args meth c cc nL own R fr lo D ad cs sd A) (d : decode cc pc = .ok (.i2s, 1)) (k : W p l e R s m args below meth c H locs cells slots Q (F0 m (pc + 1) ls (.int x.toInt16.toInt32 :: rest))) : W p l e R s m args below meth c H locs cells slots Q (F0 m pc ls (.int x ::  rest)) := lv_i2s X.1 X.2.1 d rfl k
theorem u_lcmp {x y : Int64} (X : UC p s m args meth c cc nL own R fr lo D ad cs sd A) (d : decode cc pc = .ok (.lcmp, 1)) (k : W p l e R s m args below meth c H locs cells slots Q (F0 m (pc + 1) ls (.int (lg_cmp x y) :: rest))) : W p l e R s m args below meth c H locs cells slots Q (F0 m pc ls (.long y :: .long x ::  rest)) := W.lcmp X.1 X.2.1 d k
theorem u_iconst {n : Int} {v : Int32} (X : UC p s m args meth c cc nL own R fr lo D ad cs sd A) (d : decode cc pc = .ok (.iconst n, 1)) (hv : Int32.ofInt n = v) (k : W p l e R s m args below meth c H locs cells slots Q (F0 m (pc + 1) ls (.int v :: rest))) : W p l e R s m args below meth c H locs cells slots Q (F0 m pc ls rest) := lv_iconst X.1 X.2.1 d hv k
theorem u_bipush {n : Int} {v : Int32} (X : UC p s m args meth c cc nL own R fr lo D ad cs sd A) (d : decode cc pc = .ok (.bipush n, 2)) (hv : (Int8.ofInt n).toInt32 = v) (k : W p l e R s m args below meth c H locs cells slots Q (F0 m (pc + 2) ls (.int v :: rest))) : W p l e R s m args below meth c H locs cells slots Q (F0 m pc ls rest) := lv_bipush X.1 X.2.1 d hv k
theorem u_sipush {n : Int} {v : Int32} (X : UC p s m args meth c cc nL own R fr lo D ad cs sd A) (d : decode cc pc = .ok (.sipush n, 3)) (hv : (Int16.ofInt n).toInt32 = v) (k : W p l e R s m args below meth c H locs cells slots Q (F0 m (pc + 3) ls (.int v :: rest))) : W p l e R s m args below meth c H locs cells slots Q (F0 m pc ls rest) := lv_sipush X.1 X.2.1 d hv k
theorem u_lconst {n : Fin 2} {v : Int64} (X : UC p s m args meth c cc nL own R fr lo D ad cs sd A) (d : decode cc pc = .ok (.lconst n, 1)) (hv : Int64.ofNat (n : Nat) = v) (k : W p l e R s m args below meth c H locs cells slots Q (F0 m (pc + 1) ls (.long v :: rest))) : W p l e R s m args below meth c H locs cells slots Q (F0 m pc ls rest) := lv_lconst X.1 X.2.1 d hv k
theorem u_ldc {index : Nat} {v : Int32} (X : UC p s m args meth c cc nL own R fr lo D ad cs sd A) (hw : Cond.constant own index v ∈ TBL) (d : decode cc pc = .ok (.ldc index, 2)) (k : W p l e R s m args below meth c H locs cells slots Q (F0 m (pc + 2) ls (.int v :: rest))) : W p l e R s m args below meth c H locs cells slots Q (F0 m pc ls rest) := lv_ldc X.1 X.2.1 X.2.2.2.1 (X.2.2.2.2.1 _ hw) d k
theorem u_ldc2 {index : Nat} {v : Int64} (X : UC p s m args meth c cc nL own R fr lo D ad cs sd A) (hw : Cond.constantLong own index v ∈ TBL) (d : decode cc pc = .ok (.ldc2_w index, 3)) (k : W p l e R s m args below meth c H locs cells slots Q (F0 m (pc + 3) ls (.long v :: rest))) : W p l e R s m args below meth c H locs cells slots Q (F0 m pc ls rest) := lv_ldc2 X.1 X.2.1 X.2.2.2.1 (X.2.2.2.2.1 _ hw) d k
theorem u_iload_n {lv : List (Nat × Value)} {q : Fin 4} {x : Int32} (X : UC p s m args meth c cc nL own R fr lo D ad cs sd A) (hl : lv_has ls nL lv) (d : decode cc pc = .ok (.iload_n q, 1)) (j : Nat) (hj : lv[j]? = some ((q : Nat), .int x)) (k : W p l e R s m args below meth c H locs cells slots Q (F0 m (pc + 1) ls (.int x :: rest))) : W p l e R s m args below meth c H locs cells slots Q (F0 m pc ls rest) := lv_iload_n X.1 X.2.1 d rfl (lv_at hl j hj) k
theorem u_iload {lv : List (Nat × Value)} {i : Nat} {x : Int32} (X : UC p s m args meth c cc nL own R fr lo D ad cs sd A) (hl : lv_has ls nL lv) (d : decode cc pc = .ok (.iload i, 2)) (j : Nat) (hj : lv[j]? = some (i, .int x)) (k : W p l e R s m args below meth c H locs cells slots Q (F0 m (pc + 2) ls (.int x :: rest))) : W p l e R s m args below meth c H locs cells slots Q (F0 m pc ls rest) := lv_iload X.1 X.2.1 d (lv_at hl j hj) k
theorem u_lload_n {lv : List (Nat × Value)} {q : Fin 4} {x : Int64} (X : UC p s m args meth c cc nL own R fr lo D ad cs sd A) (hl : lv_has ls nL lv) (d : decode cc pc = .ok (.lload_n q, 1)) (j : Nat) (hj : lv[j]? = some ((q : Nat), .long x)) (k : W p l e R s m args below meth c H locs cells slots Q (F0 m (pc + 1) ls (.long x :: rest))) : W p l e R s m args below meth c H locs cells slots Q (F0 m pc ls rest) := lv_lload_n X.1 X.2.1 d rfl (lv_at hl j hj) k
theorem u_lload {lv : List (Nat × Value)} {i : Nat} {x : Int64} (X : UC p s m args meth c cc nL own R fr lo D ad cs sd A) (hl : lv_has ls nL lv) (d : decode cc pc = .ok (.lload i, 2)) (j : Nat) (hj : lv[j]? = some (i, .long x)) (k : W p l e R s m args below meth c H locs cells slots Q (F0 m (pc + 2) ls (.long x :: rest))) : W p l e R s m args below meth c H locs cells slots Q (F0 m pc ls rest) := lv_lload X.1 X.2.1 d (lv_at hl j hj) k
theorem u_aload_n {lv : List (Nat × Value)} {q : Fin 4} {x : Nat} (X : UC p s m args meth c cc nL own R fr lo D ad cs sd A) (hl : lv_has ls nL lv) (d : decode cc pc = .ok (.aload_n q, 1)) (j : Nat) (hj : lv[j]? = some ((q : Nat), .ref x)) (k : W p l e R s m args below meth c H locs cells slots Q (F0 m (pc + 1) ls (.ref x :: rest))) : W p l e R s m args below meth c H locs cells slots Q (F0 m pc ls rest) := lv_aload_n X.1 X.2.1 d rfl (lv_at hl j hj) k
theorem u_aload {lv : List (Nat × Value)} {i : Nat} {x : Nat} (X : UC p s m args meth c cc nL own R fr lo D ad cs sd A) (hl : lv_has ls nL lv) (d : decode cc pc = .ok (.aload i, 2)) (j : Nat) (hj : lv[j]? = some (i, .ref x)) (k : W p l e R s m args below meth c H locs cells slots Q (F0 m (pc + 2) ls (.ref x :: rest))) : W p l e R s m args below meth c H locs cells slots Q (F0 m pc ls rest) := lv_aload X.1 X.2.1 d (lv_at hl j hj) k
theorem u_istore_n {lv : List (Nat × Value)} (lv1 : List (Nat × Value)) {q : Fin 4} {x : Int32} (X : UC p s m args meth c cc nL own R fr lo D ad cs sd A) (hl : lv_has ls nL lv) (d : decode cc pc = .ok (.istore_n q, 1)) (hn : (q : Nat) < nL) (hf : ((q : Nat), Value.int x) :: lv.filter (fun r => !(r.1 == (q : Nat)) && !(r.1 + 1 == (q : Nat) && r.2.category == 2)) = lv1) (k : ∀ ls : Array Slot, lv_has ls nL lv1 → W p l e R s m args below meth c H locs cells slots Q (F0 m (pc + 1) ls rest)) : W p l e R s m args below meth c H locs cells slots Q (F0 m pc ls (.int x :: rest)) := lv_istore_n X.1 X.2.1 d rfl hl hn hf k
theorem u_istore {lv : List (Nat × Value)} (lv1 : List (Nat × Value)) {i : Nat} {x : Int32} (X : UC p s m args meth c cc nL own R fr lo D ad cs sd A) (hl : lv_has ls nL lv) (d : decode cc pc = .ok (.istore i, 2)) (hn : i < nL) (hf : (i, Value.int x) :: lv.filter (fun r => !(r.1 == i) && !(r.1 + 1 == i && r.2.category == 2)) = lv1) (k : ∀ ls : Array Slot, lv_has ls nL lv1 → W p l e R s m args below meth c H locs cells slots Q (F0 m (pc + 2) ls rest)) : W p l e R s m args below meth c H locs cells slots Q (F0 m pc ls (.int x :: rest)) := lv_istore X.1 X.2.1 d hl hn hf k
theorem u_lstore_n {lv : List (Nat × Value)} (lv1 : List (Nat × Value)) {q : Fin 4} {x : Int64} (X : UC p s m args meth c cc nL own R fr lo D ad cs sd A) (hl : lv_has ls nL lv) (d : decode cc pc = .ok (.lstore_n q, 1)) (hn : (q : Nat) + 1 < nL) (hf : ((q : Nat), Value.long x) :: lv.filter (fun r => !(r.1 == (q : Nat)) && (!(r.1 == (q : Nat) + 1) && !(r.1 + 1 == (q : Nat) && r.2.category == 2))) = lv1) (k : ∀ ls : Array Slot, lv_has ls nL lv1 → W p l e R s m args below meth c H locs cells slots Q (F0 m (pc + 1) ls rest)) : W p l e R s m args below meth c H locs cells slots Q (F0 m pc ls (.long x :: rest)) := lv_lstore_n X.1 X.2.1 d rfl hl hn hf k
theorem u_lstore {lv : List (Nat × Value)} (lv1 : List (Nat × Value)) {i : Nat} {x : Int64} (X : UC p s m args meth c cc nL own R fr lo D ad cs sd A) (hl : lv_has ls nL lv) (d : decode cc pc = .ok (.lstore i, 2)) (hn : i + 1 < nL) (hf : (i, Value.long x) :: lv.filter (fun r => !(r.1 == i) && (!(r.1 == i + 1) && !(r.1 + 1 == i && r.2.category == 2))) = lv1) (k : ∀ ls : Array Slot, lv_has ls nL lv1 → W p l e R s m args below meth c H locs cells slots Q (F0 m (pc + 2) ls rest)) : W p l e R s m args below meth c H locs cells slots Q (F0 m pc ls (.long x :: rest)) := lv_lstore X.1 X.2.1 d hl hn hf k
theorem u_astore_n {lv : List (Nat × Value)} (lv1 : List (Nat × Value)) {q : Fin 4} {x : Nat} (X : UC p s m args meth c cc nL own R fr lo D ad cs sd A) (hl : lv_has ls nL lv) (d : decode cc pc = .ok (.astore_n q, 1)) (hn : (q : Nat) < nL) (hf : ((q : Nat), Value.ref x) :: lv.filter (fun r => !(r.1 == (q : Nat)) && !(r.1 + 1 == (q : Nat) && r.2.category == 2)) = lv1) (k : ∀ ls : Array Slot, lv_has ls nL lv1 → W p l e R s m args below meth c H locs cells slots Q (F0 m (pc + 1) ls rest)) : W p l e R s m args below meth c H locs cells slots Q (F0 m pc ls (.ref x :: rest)) := lv_astore_n X.1 X.2.1 d rfl hl hn hf k
theorem u_astore {lv : List (Nat × Value)} (lv1 : List (Nat × Value)) {i : Nat} {x : Nat} (X : UC p s m args meth c cc nL own R fr lo D ad cs sd A) (hl : lv_has ls nL lv) (d : decode cc pc = .ok (.astore i, 2)) (hn : i < nL) (hf : (i, Value.ref x) :: lv.filter (fun r => !(r.1 == i) && !(r.1 + 1 == i && r.2.category == 2)) = lv1) (k : ∀ ls : Array Slot, lv_has ls nL lv1 → W p l e R s m args below meth c H locs cells slots Q (F0 m (pc + 2) ls rest)) : W p l e R s m args below meth c H locs cells slots Q (F0 m pc ls (.ref x :: rest)) := lv_astore X.1 X.2.1 d hl hn hf k
theorem u_iinc {lv : List (Nat × Value)} (lv1 : List (Nat × Value)) {i : Nat} {n : Int} {x v : Int32} (X : UC p s m args meth c cc nL own R fr lo D ad cs sd A) (hl : lv_has ls nL lv) (d : decode cc pc = .ok (.iinc i n, 3)) (j : Nat) (hj : lv[j]? = some (i, .int x)) (hv : x + Int32.ofInt n = v) (hn : i < nL) (hf : (i, Value.int v) :: lv.filter (fun r => !(r.1 == i) && !(r.1 + 1 == i && r.2.category == 2)) = lv1) (k : ∀ ls : Array Slot, lv_has ls nL lv1 → W p l e R s m args below meth c H locs cells slots Q (F0 m (pc + 3) ls rest)) : W p l e R s m args below meth c H locs cells slots Q (F0 m pc ls rest) := lv_iinc X.1 X.2.1 d hl hj hv hn hf k
theorem u_dup {v : Value} (X : UC p s m args meth c cc nL own R fr lo D ad cs sd A) (hv : v.category = 1) (d : decode cc pc = .ok (.dup, 1)) (k : W p l e R s m args below meth c H locs cells slots Q (F0 m (pc + 1) ls (v :: v :: rest))) : W p l e R s m args below meth c H locs cells slots Q (F0 m pc ls (v :: rest)) := lv_dup X.1 X.2.1 d hv k
theorem u_pop {v : Value} (X : UC p s m args meth c cc nL own R fr lo D ad cs sd A) (hv : v.category = 1) (d : decode cc pc = .ok (.pop, 1)) (k : W p l e R s m args below meth c H locs cells slots Q (F0 m (pc + 1) ls rest)) : W p l e R s m args below meth c H locs cells slots Q (F0 m pc ls (v :: rest)) := lv_pop X.1 X.2.1 d hv k
theorem u_dup2 {v w : Value} (X : UC p s m args meth c cc nL own R fr lo D ad cs sd A) (hv : v.category = 1) (hw : w.category = 1) (d : decode cc pc = .ok (.dup2, 1)) (k : W p l e R s m args below meth c H locs cells slots Q (F0 m (pc + 1) ls (v :: w :: v :: w :: rest))) : W p l e R s m args below meth c H locs cells slots Q (F0 m pc ls (v :: w :: rest)) := lv_dup2_11 X.1 X.2.1 d hv hw k
theorem u_goto {off : Int} (tgt : Nat) (X : UC p s m args meth c cc nL own R fr lo D ad cs sd A) (d : decode cc pc = .ok (.goto off, 3)) (ht : (pc : Int) + off = (tgt : Int)) (k : W p l e R s m args below meth c H locs cells slots Q (F0 m tgt ls rest)) : W p l e R s m args below meth c H locs cells slots Q (F0 m pc ls rest) := lv_goto X.1 X.2.1 d ht k
theorem u_icmp_eq {x y : Int32} {off : Int} (tgt : Nat) (X : UC p s m args meth c cc nL own R fr lo D ad cs sd A) (d : decode cc pc = .ok (.if_icmp .eq off, 3)) (ht : (pc : Int) + off = (tgt : Int)) (kt : x = y → W p l e R s m args below meth c H locs cells slots Q (F0 m tgt ls rest)) (kf : ¬ x = y → W p l e R s m args below meth c H locs cells slots Q (F0 m (pc + 3) ls rest)) : W p l e R s m args below meth c H locs cells slots Q (F0 m pc ls (.int y :: .int x :: rest)) := lv_icmp_eq X.1 X.2.1 d ht kt kf
theorem u_if_eq {x : Int32} {off : Int} (tgt : Nat) (X : UC p s m args meth c cc nL own R fr lo D ad cs sd A) (d : decode cc pc = .ok (.ifCond .eq off, 3)) (ht : (pc : Int) + off = (tgt : Int)) (kt : x = 0 → W p l e R s m args below meth c H locs cells slots Q (F0 m tgt ls rest)) (kf : ¬ x = 0 → W p l e R s m args below meth c H locs cells slots Q (F0 m (pc + 3) ls rest)) : W p l e R s m args below meth c H locs cells slots Q (F0 m pc ls (.int x :: rest)) := lv_if_eq X.1 X.2.1 d ht kt kf
theorem u_icmp_ne {x y : Int32} {off : Int} (tgt : Nat) (X : UC p s m args meth c cc nL own R fr lo D ad cs sd A) (d : decode cc pc = .ok (.if_icmp .ne off, 3)) (ht : (pc : Int) + off = (tgt : Int)) (kt : ¬ x = y → W p l e R s m args below meth c H locs cells slots Q (F0 m tgt ls rest)) (kf : x = y → W p l e R s m args below meth c H locs cells slots Q (F0 m (pc + 3) ls rest)) : W p l e R s m args below meth c H locs cells slots Q (F0 m pc ls (.int y :: .int x :: rest)) := lv_icmp_ne X.1 X.2.1 d ht kt kf
theorem u_if_ne {x : Int32} {off : Int} (tgt : Nat) (X : UC p s m args meth c cc nL own R fr lo D ad cs sd A) (d : decode cc pc = .ok (.ifCond .ne off, 3)) (ht : (pc : Int) + off = (tgt : Int)) (kt : ¬ x = 0 → W p l e R s m args below meth c H locs cells slots Q (F0 m tgt ls rest)) (kf : x = 0 → W p l e R s m args below meth c H locs cells slots Q (F0 m (pc + 3) ls rest)) : W p l e R s m args below meth c H locs cells slots Q (F0 m pc ls (.int x :: rest)) := lv_if_ne X.1 X.2.1 d ht kt kf
theorem u_icmp_lt {x y : Int32} {off : Int} (tgt : Nat) (X : UC p s m args meth c cc nL own R fr lo D ad cs sd A) (d : decode cc pc = .ok (.if_icmp .lt off, 3)) (ht : (pc : Int) + off = (tgt : Int)) (kt : x < y → W p l e R s m args below meth c H locs cells slots Q (F0 m tgt ls rest)) (kf : ¬ x < y → W p l e R s m args below meth c H locs cells slots Q (F0 m (pc + 3) ls rest)) : W p l e R s m args below meth c H locs cells slots Q (F0 m pc ls (.int y :: .int x :: rest)) := lv_icmp_lt X.1 X.2.1 d ht kt kf
theorem u_if_lt {x : Int32} {off : Int} (tgt : Nat) (X : UC p s m args meth c cc nL own R fr lo D ad cs sd A) (d : decode cc pc = .ok (.ifCond .lt off, 3)) (ht : (pc : Int) + off = (tgt : Int)) (kt : x < 0 → W p l e R s m args below meth c H locs cells slots Q (F0 m tgt ls rest)) (kf : ¬ x < 0 → W p l e R s m args below meth c H locs cells slots Q (F0 m (pc + 3) ls rest)) : W p l e R s m args below meth c H locs cells slots Q (F0 m pc ls (.int x :: rest)) := lv_if_lt X.1 X.2.1 d ht kt kf
theorem u_icmp_ge {x y : Int32} {off : Int} (tgt : Nat) (X : UC p s m args meth c cc nL own R fr lo D ad cs sd A) (d : decode cc pc = .ok (.if_icmp .ge off, 3)) (ht : (pc : Int) + off = (tgt : Int)) (kt : y ≤ x → W p l e R s m args below meth c H locs cells slots Q (F0 m tgt ls rest)) (kf : ¬ y ≤ x → W p l e R s m args below meth c H locs cells slots Q (F0 m (pc + 3) ls rest)) : W p l e R s m args below meth c H locs cells slots Q (F0 m pc ls (.int y :: .int x :: rest)) := lv_icmp_ge X.1 X.2.1 d ht kt kf
theorem u_if_ge {x : Int32} {off : Int} (tgt : Nat) (X : UC p s m args meth c cc nL own R fr lo D ad cs sd A) (d : decode cc pc = .ok (.ifCond .ge off, 3)) (ht : (pc : Int) + off = (tgt : Int)) (kt : 0 ≤ x → W p l e R s m args below meth c H locs cells slots Q (F0 m tgt ls rest)) (kf : ¬ 0 ≤ x → W p l e R s m args below meth c H locs cells slots Q (F0 m (pc + 3) ls rest)) : W p l e R s m args below meth c H locs cells slots Q (F0 m pc ls (.int x :: rest)) := lv_if_ge X.1 X.2.1 d ht kt kf
theorem u_icmp_gt {x y : Int32} {off : Int} (tgt : Nat) (X : UC p s m args meth c cc nL own R fr lo D ad cs sd A) (d : decode cc pc = .ok (.if_icmp .gt off, 3)) (ht : (pc : Int) + off = (tgt : Int)) (kt : y < x → W p l e R s m args below meth c H locs cells slots Q (F0 m tgt ls rest)) (kf : ¬ y < x → W p l e R s m args below meth c H locs cells slots Q (F0 m (pc + 3) ls rest)) : W p l e R s m args below meth c H locs cells slots Q (F0 m pc ls (.int y :: .int x :: rest)) := lv_icmp_gt X.1 X.2.1 d ht kt kf
theorem u_if_gt {x : Int32} {off : Int} (tgt : Nat) (X : UC p s m args meth c cc nL own R fr lo D ad cs sd A) (d : decode cc pc = .ok (.ifCond .gt off, 3)) (ht : (pc : Int) + off = (tgt : Int)) (kt : 0 < x → W p l e R s m args below meth c H locs cells slots Q (F0 m tgt ls rest)) (kf : ¬ 0 < x → W p l e R s m args below meth c H locs cells slots Q (F0 m (pc + 3) ls rest)) : W p l e R s m args below meth c H locs cells slots Q (F0 m pc ls (.int x :: rest)) := lv_if_gt X.1 X.2.1 d ht kt kf
theorem u_icmp_le {x y : Int32} {off : Int} (tgt : Nat) (X : UC p s m args meth c cc nL own R fr lo D ad cs sd A) (d : decode cc pc = .ok (.if_icmp .le off, 3)) (ht : (pc : Int) + off = (tgt : Int)) (kt : x ≤ y → W p l e R s m args below meth c H locs cells slots Q (F0 m tgt ls rest)) (kf : ¬ x ≤ y → W p l e R s m args below meth c H locs cells slots Q (F0 m (pc + 3) ls rest)) : W p l e R s m args below meth c H locs cells slots Q (F0 m pc ls (.int y :: .int x :: rest)) := lv_icmp_le X.1 X.2.1 d ht kt kf
theorem u_if_le {x : Int32} {off : Int} (tgt : Nat) (X : UC p s m args meth c cc nL own R fr lo D ad cs sd A) (d : decode cc pc = .ok (.ifCond .le off, 3)) (ht : (pc : Int) + off = (tgt : Int)) (kt : x ≤ 0 → W p l e R s m args below meth c H locs cells slots Q (F0 m tgt ls rest)) (kf : ¬ x ≤ 0 → W p l e R s m args below meth c H locs cells slots Q (F0 m (pc + 3) ls rest)) : W p l e R s m args below meth c H locs cells slots Q (F0 m pc ls (.int x :: rest)) := lv_if_le X.1 X.2.1 d ht kt kf
theorem u_iald {a N i0 : Nat} {f : Nat → Int32} {i : Int32} (X : UC p s m args meth c cc nL own R fr lo D ad cs sd A) (hP : va_P D clss (wld cs ad z) H) (he : (wld cs ad z)[i0]? = some (a, .inl (cs 0, N, .inl f))) (hin : ¬ (i < 0 ∨ N ≤ i.toNatClampNeg)) (d : decode cc pc = .ok (.iaload, 1))
    (k : W p l e R s m args below meth c H locs cells slots Q (F0 m (pc + 1) ls (.int (f i.toNatClampNeg) :: rest))) : W p l e R s m args below meth c H locs cells slots Q (F0 m pc ls (.int i :: .ref a :: rest)) :=
  va_iald X.1 X.2.1 X.2.2.2.2.2.2.1 hP i0 0 he rfl hin d k
theorem u_lald {a N i0 : Nat} {f : Nat → Int64} {i : Int32} (X : UC p s m args meth c cc nL own R fr lo D ad cs sd A) (hP : va_P D clss (wld cs ad z) H) (he : (wld cs ad z)[i0]? = some (a, .inl (cs 1, N, .inr (.inl f)))) (hin : ¬ (i < 0 ∨ N ≤ i.toNatClampNeg)) (d : decode cc pc = .ok (.laload, 1))
    (k : W p l e R s m args below meth c H locs cells slots Q (F0 m (pc + 1) ls (.long (f i.toNatClampNeg) :: rest))) : W p l e R s m args below meth c H locs cells slots Q (F0 m pc ls (.int i :: .ref a :: rest)) :=
  va_lald X.1 X.2.1 X.2.2.2.2.2.2.1 hP i0 1 he rfl hin d k
theorem u_aald {a N i0 : Nat} {f : Nat → Option Nat} {i : Int32} (X : UC p s m args meth c cc nL own R fr lo D ad cs sd A) (hP : va_P D clss (wld cs ad z) H) (he : (wld cs ad z)[i0]? = some (a, .inl (cs 2, N, .inr (.inr (.inr (.inr f)))))) (hin : ¬ (i < 0 ∨ N ≤ i.toNatClampNeg)) (d : decode cc pc = .ok (.aaload, 1))
    {b : Nat} (hf : f i.toNatClampNeg = some b) (k : W p l e R s m args below meth c H locs cells slots Q (F0 m (pc + 1) ls (.ref b :: rest))) : W p l e R s m args below meth c H locs cells slots Q (F0 m pc ls (.int i :: .ref a :: rest)) := by
  have hlt : i.toNatClampNeg < N := Nat.not_le.mp fun q => hin (Or.inr q)
  refine W.aald (v := va_rf (f i.toNatClampNeg)) (ty := .array .int) X.1 X.2.1 (hP i0 _ he) ((X.2.2.2.2.2.2.1.2 2 _ rfl).1 N (fun j => va_rf (f j))) rfl (fun q => by cases q) (by show ¬ (i < 0 ∨ (arrV _ _ _).slots.size ≤ _); rw [arrV_size]; exact hin) (by show (arrV _ _ _).slots[_]? = _; rw [arrV_read _ _ hlt]) rfl rfl d ?_
  rw [hf]
  exact k
theorem u_iast {a N : Nat} (i0 : Nat) {f : Nat → Int32} {i v : Int32} {z : MS} (z1 : MS) (X : UC p s m args meth c cc nL own R fr lo D ad cs sd A) (hP : va_P D clss (wld cs ad z) H) (hS : va_S A s.heap H locs) (he : (wld cs ad z)[i0]? = some (a, .inl (cs 0, N, .inl f))) (hz : (wld cs ad z).set i0 (a, .inl (cs 0, N, .inl (upd f i.toNatClampNeg v))) = wld cs ad z1) (hin : ¬ (i < 0 ∨ N ≤ i.toNatClampNeg)) (d : decode cc pc = .ok (.iastore, 1))
    (k : ∀ (H : Heap) (locs : List Loc), va_P D clss (wld cs ad z1) H → va_S A s.heap H locs → W p l e R s m args below meth c H locs cells slots Q (F0 m (pc + 1) ls rest)) : W p l e R s m args below meth c H locs cells slots Q (F0 m pc ls (.int v :: .int i :: .ref a :: rest)) :=
  va_iast X.1 X.2.1 X.2.2.2.2.2.2.1 hP (uc_D X) hS i0 0 he rfl hin d (fun H1 locs1 q1 _ q3 => k H1 locs1 (by rw [hz] at q1; exact q1) q3)
theorem u_last {a N : Nat} (i0 : Nat) {f : Nat → Int64} {i : Int32} {v : Int64} {z : MS} (z1 : MS) (X : UC p s m args meth c cc nL own R fr lo D ad cs sd A) (hP : va_P D clss (wld cs ad z) H) (hS : va_S A s.heap H locs) (he : (wld cs ad z)[i0]? = some (a, .inl (cs 1, N, .inr (.inl f)))) (hz : (wld cs ad z).set i0 (a, .inl (cs 1, N, .inr (.inl (vp_updL f i.toNatClampNeg v)))) = wld cs ad z1) (hin : ¬ (i < 0 ∨ N ≤ i.toNatClampNeg)) (d : decode cc pc = .ok (.lastore, 1))
    (k : ∀ (H : Heap) (locs : List Loc), va_P D clss (wld cs ad z1) H → va_S A s.heap H locs → W p l e R s m args below meth c H locs cells slots Q (F0 m (pc + 1) ls rest)) : W p l e R s m args below meth c H locs cells slots Q (F0 m pc ls (.long v :: .int i :: .ref a :: rest)) :=
  va_last X.1 X.2.1 X.2.2.2.2.2.2.1 hP (uc_D X) hS i0 1 he rfl hin d (fun H1 locs1 q1 _ q3 => k H1 locs1 (by rw [hz] at q1; exact q1) q3)
theorem u_get {a : Nat} (ci i0 : Nat) {C ref : String} {T : u_T} {N index : Nat} {fs : List Value} {v : Value} (X : UC p s m args meth c cc nL own R fr lo D ad cs sd A) (hP : va_P D clss (wld cs ad z) H) (he : (wld cs ad z)[i0]? = some (a, .inr (ci, fs))) (hc : clss[ci]? = some (C, T, N)) (hin : ∀ w ∈ u_ws C T N, w ∈ TBL) (j : Nat) (hj : j < N) (hw : Cond.fieldLink own index ref (T j).2.1 (T j).2.2.1 ∈ TBL) (hr : (T j).1 = ref) (hv : fs[j]? = some v) (d : decode cc pc = .ok (.getfield index, 3))
    (k : W p l e R s m args below meth c H locs cells slots Q (F0 m (pc + 3) ls (v :: rest))) : W p l e R s m args below meth c H locs cells slots Q (F0 m pc ls (.ref a :: rest)) :=
  va_get X.1 X.2.1 X.2.2.2.2.1 hin X.2.2.2.1 X.2.2.2.2.2.2.1 hP i0 he hc j hj (X.2.2.2.2.1 _ hw) (fun _ h => hr ▸ h) hv d k
theorem u_getN {a : Nat} (ci i0 : Nat) {C ref host : String} {T : u_T} {N index : Nat} {fs : List Value} {v : Value} (X : UC p s m args meth c cc nL own R fr lo D ad cs sd A) (hP : va_P D clss (wld cs ad z) H) (he : (wld cs ad z)[i0]? = some (a, .inr (ci, fs))) (hc : clss[ci]? = some (C, T, N)) (hin : ∀ w ∈ u_ws C T N, w ∈ TBL) (j : Nat) (hj : j < N) (hw : Cond.fieldLinkNest own index ref (T j).2.1 (T j).2.2.1 host ∈ TNW) (hr : (T j).1 = ref) (hv : fs[j]? = some v) (d : decode cc pc = .ok (.getfield index, 3))
    (k : W p l e R s m args below meth c H locs cells slots Q (F0 m (pc + 3) ls (v :: rest))) : W p l e R s m args below meth c H locs cells slots Q (F0 m pc ls (.ref a :: rest)) :=
  va_getN X.1 X.2.1 X.2.2.2.2.1 hin X.2.2.2.1 X.2.2.2.2.2.2.1 hP i0 he hc j hj ((X.2.2.2.2.2.1 _ hw).use rfl) (fun _ h => hr ▸ h) hv d k
theorem u_put {a : Nat} (ci i0 : Nat) {C ref : String} {T : u_T} {N index : Nat} {fs : List Value} {v : Value} {z : MS} (z1 : MS) (X : UC p s m args meth c cc nL own R fr lo D ad cs sd A) (hP : va_P D clss (wld cs ad z) H) (hS : va_S A s.heap H locs) (he : (wld cs ad z)[i0]? = some (a, .inr (ci, fs))) (hc : clss[ci]? = some (C, T, N)) (hin : ∀ w ∈ u_ws C T N, w ∈ TBL) (ty0 : Nat → FieldType) (hty : ∀ k, k < N → parseFieldDescriptor (T k).2.2.1 = some (ty0 k)) (hnm : ∀ a, a < N → ∀ b, b < N → a ≠ b → (T a).2.1 ≠ (T b).2.1)
    (j : Nat) (hj : j < N) (hw : Cond.fieldLink own index ref (T j).2.1 (T j).2.2.1 ∈ TBL) (hr : (T j).1 = ref) (hfin : (T j).2.2.2 = false) {ty : FieldType} (ht : parseFieldDescriptor (T j).2.2.1 = some ty) (hn : narrow ty v = v) (hfit : fits ty v = true) (hl : j < fs.length) (hz : (wld cs ad z).set i0 (a, .inr (ci, fs.set j v)) = wld cs ad z1) (d : decode cc pc = .ok (.putfield index, 3))
    (k : ∀ (H : Heap) (locs : List Loc), va_P D clss (wld cs ad z1) H → va_S A s.heap H locs → W p l e R s m args below meth c H locs cells slots Q (F0 m (pc + 3) ls rest)) : W p l e R s m args below meth c H locs cells slots Q (F0 m pc ls (v :: .ref a :: rest)) :=
  va_put X.1 X.2.1 X.2.2.2.2.1 hin ty0 hty hnm X.2.2.2.1 X.2.2.2.2.2.2.1 hP (uc_D X) hS i0 he hc j hj (X.2.2.2.2.1 _ hw) (fun _ h => hr ▸ h) hfin ht hn hfit hl d (fun H1 locs1 q1 _ q3 => k H1 locs1 (by rw [hz] at q1; exact q1) q3)
theorem u_putN {a : Nat} (ci i0 : Nat) {C ref host : String} {T : u_T} {N index : Nat} {fs : List Value} {v : Value} {z : MS} (z1 : MS) (X : UC p s m args meth c cc nL own R fr lo D ad cs sd A) (hP : va_P D clss (wld cs ad z) H) (hS : va_S A s.heap H locs) (he : (wld cs ad z)[i0]? = some (a, .inr (ci, fs))) (hc : clss[ci]? = some (C, T, N)) (hin : ∀ w ∈ u_ws C T N, w ∈ TBL) (ty0 : Nat → FieldType) (hty : ∀ k, k < N → parseFieldDescriptor (T k).2.2.1 = some (ty0 k)) (hnm : ∀ a, a < N → ∀ b, b < N → a ≠ b → (T a).2.1 ≠ (T b).2.1)
    (j : Nat) (hj : j < N) (hw : Cond.fieldLinkNest own index ref (T j).2.1 (T j).2.2.1 host ∈ TNW) (hr : (T j).1 = ref) (hfin : (T j).2.2.2 = false) {ty : FieldType} (ht : parseFieldDescriptor (T j).2.2.1 = some ty) (hn : narrow ty v = v) (hfit : fits ty v = true) (hl : j < fs.length) (hz : (wld cs ad z).set i0 (a, .inr (ci, fs.set j v)) = wld cs ad z1) (d : decode cc pc = .ok (.putfield index, 3))
    (k : ∀ (H : Heap) (locs : List Loc), va_P D clss (wld cs ad z1) H → va_S A s.heap H locs → W p l e R s m args below meth c H locs cells slots Q (F0 m (pc + 3) ls rest)) : W p l e R s m args below meth c H locs cells slots Q (F0 m pc ls (v :: .ref a :: rest)) :=
  va_putN X.1 X.2.1 X.2.2.2.2.1 hin ty0 hty hnm X.2.2.2.1 X.2.2.2.2.2.2.1 hP (uc_D X) hS i0 he hc j hj ((X.2.2.2.2.2.1 _ hw).use rfl) (fun _ h => hr ▸ h) hfin ht hn hfit hl d (fun H1 locs1 q1 _ q3 => k H1 locs1 (by rw [hz] at q1; exact q1) q3)
/-- a call's own words -/
def MEW (y : MethodName) (bytes : ByteArray) (maxL : Nat) (ret : Option FieldType) (n : Nat) : Prop := Cond.code y bytes maxL ret ∈ TBL ∧ Cond.initialized y.cls ∈ TBL ∧ (y.cls ≠ "java/lang/invoke/MethodHandle" ∧ y.cls ≠ "java/lang/invoke/VarHandle" ∧ (parseMethodDescriptor y.desc).map (fun d => d.parameters.length) = some n)
theorem u_pre (X : UC p s m args meth c cc nL own R fr lo D ad cs sd A) (hP : va_P D clss (wld cs ad z) H) (hS : va_S A s.heap H locs) {U : State} (hU : U.heap = H) (hW : s.WarmedH U.vm) : UB D ad cs sd H.size z U := by
  refine ⟨by rw [hU], by rw [hU]; exact hP, va_K.moved hW.alike X.2.2.2.2.2.2.1, nw_warm hW X.2.2.2.2.2.1, ?_⟩
  rw [hU]
  refine ((X.2.2.2.2.2.2.2.2.2.2.2.1.kept hS.2.1).narrow ?_).warm hW
  intro q hq
  rcases hq with ⟨k, hk, rfl⟩ | hq
  · exact X.2.2.2.2.2.2.2.2.2.1 k hk
  · exact X.2.2.2.2.2.2.2.2.2.2.1 q (Nat.le_trans hS.1 hq)
theorem u_blind {avs : List Value} {sz : Nat} : FrameBlind (va_Pc avs (UB D ad cs sd sz z)) := fun a U g mk q => by
  obtain ⟨q0, q1, qP, qK, qN, qT⟩ := q
  exact ⟨q0, q1, qP, va_K.moved (u := U) (U := U.calling g mk a) (Vm.Alike.refl U.vm) qK, nw_same (s := U) (U := U.calling g mk a) rfl qN, STAT.same (u := U) (U := U.calling g mk a) rfl qT⟩
theorem u_WA (X : UC p s m args meth c cc nL own R fr lo D ad cs sd A) (hS : va_S A s.heap H locs) : ∀ q, WA ad H.size q → A q := by
  intro q hq
  rcases hq with ⟨k, hk, rfl⟩ | hq
  · exact X.2.2.2.2.2.2.2.2.2.1 k hk
  · exact X.2.2.2.2.2.2.2.2.2.2.1 q (Nat.le_trans hS.1 hq)
theorem u_back {y : MethodName} {v0 : Option Value} {z1 : MS} {st0 : List Value} {a : Array Value} (X : UC p s m args meth c cc nL own R fr lo D ad cs sd A) (hS : va_S A s.heap H locs)
    (hr : va_Run p l e R s m args below meth c H locs 0 0 0 0 (F0 m pc ls st0) rest (QU v0 D ad cs z1 (WA ad H.size) a) (WA ad H.size))
    (k : ∀ (H : Heap) (locs : List Loc), va_P D clss (wld cs ad z1) H → va_S A s.heap H locs → W p l e R s m args below meth c H locs 0 0 Q (F0 m (pc + 3) ls (v0.toList ++ rest))) : W p l e R s m args below meth c H locs 0 0 Q (F0 m pc ls st0) := by
  intro T hT X1
  obtain ⟨v, st₀, t, T', L, h0, X', hL, e1, e2, ⟨hv, hp, hz, hk⟩, st⟩ := hr T hT X1
  cases hv
  rw [h0] at hz hk
  have hA := u_WA X hS
  obtain ⟨t2, a1, b1⟩ := k T'.heap (locs ++ L) (by rw [e1]; exact hp)
    ⟨Nat.le_trans hS.1 (by rw [e1]; exact hz), fun q h1 h2 => by rw [e1, hk q (Nat.lt_of_lt_of_le h1 hS.1) (fun z => h2 (hA q z))]; exact hS.2.1 q h1 h2, fun q hq => by
      rcases List.mem_append.mp hq with h | h
      · exact hS.2.2 q h
      · exact hA _ (hL q h)⟩ T' rfl X'
  exact ⟨t2, st t2 a1, b1⟩
def CWV (own : String) (index : Nat) (C : String) (y : MethodName) (bytes : ByteArray) (maxL : Nat) (ret : Option FieldType) (n : Nat) : Prop := MEW y bytes maxL ret n ∧ Cond.methodLink own index y ∈ TBL ∧ Cond.instanceMethod y ∈ TBL ∧ Cond.selects C y y ∈ TBL
def CWS (own : String) (index : Nat) (y : MethodName) (bytes : ByteArray) (maxL : Nat) (ret : Option FieldType) (n : Nat) : Prop := MEW y bytes maxL ret n ∧ Cond.methodLink own index y ∈ TBL ∧ Cond.static y ∈ TBL
def isO (i0 : Nat) (C : String) : Prop := ∀ (cs : Nat → ClassId) (ad : Nat → Nat) (z : MS), ∃ (ci : Nat) (T : u_T) (N : Nat) (fs : List Value), (wld cs ad z)[i0]? = some (ad i0, .inr (ci, fs)) ∧ clss[ci]? = some (C, T, N)
theorem u_callV {y : MethodName} {bytes : ByteArray} {maxL n fr1 lo1 index : Nat} {ret : Option FieldType} {avs : (Nat → Nat) → (Nat → Nat) → List Value} {z z1 : MS} {v0 : Option Value} {As : List Value} {i0 : Nat} {C : String} {st : List Value} {lv : List (Nat × Value)} (X : UC p s m args meth c cc nL own R fr lo D ad cs sd A) (hP : va_P D clss (wld cs ad z) H) (hS : va_S A s.heap H locs) (hl : lv_has ls nL lv)
    (hC : CT l y bytes maxL ret fr1 lo1 avs z v0 z1) (hM : CWV own index C y bytes maxL ret n) (ho : isO i0 C)
    (ha : avs ad sd = .ref (ad i0) :: As) (hn : As.length = n) (hst : st = As.reverse ++ .ref (ad i0) :: rest) (hW : Nat.ble (rest.map fun v => v.category).sum 8 = true) (hR : Nat.ble (fr1 + 1) fr = true ∧ Nat.ble (8 + (maxL + 11) + lo1) lo = true) (d : decode cc pc = .ok (.invokevirtual index, 3))
    (k : ∀ (H : Heap) (locs : List Loc), va_P D clss (wld cs ad z1) H → va_S A s.heap H locs → W p l e R s m args below meth c H locs 0 0 Q (F0 m (pc + 3) ls (v0.toList ++ rest))) : W p l e R s m args below meth c H locs 0 0 Q (F0 m pc ls st) := by
  subst hst
  obtain ⟨hM, hw, hi, hs⟩ := hM
  obtain ⟨ci, T, N, fs, he, hc⟩ := ho cs ad z
  refine u_back (y := y) X hS (va_runV (Ts := TBL) (own := own) (nL := nL) (ws := .code y bytes maxL ret :: TBL) (rm := { frames := fr1, cells := 0, slots := 0, locals := lo1 }) ⟨X.1, X.2.1, X.2.2.1, X.2.2.2.1, X.2.2.2.2.1⟩ (hC D ad cs sd H.size X.2.2.2.2.2.2.2.2.1)
    ⟨⟨rfl, rfl, Nat.le_trans (Nat.le_of_ble_eq_true hR.1) X.2.2.2.2.2.2.2.2.2.2.2.2.1, Nat.le_trans (Nat.le_of_ble_eq_true hR.2) X.2.2.2.2.2.2.2.2.2.2.2.2.2.1, pay_in X.2.2.2.2.1 (tb_good (tb_cons hM.1)), List.mem_cons_self, X.2.2.2.2.1 _ hM.1, X.2.2.2.2.1 _ hM.2.1, ⟨hM.2.2.1, hM.2.2.2.1⟩, fun sig h => ?_, X.2.2.2.2.1 _ hw⟩, X.2.2.2.2.1 _ hi, X.2.2.2.2.1 _ hs⟩
    (by rw [ha]; exact ⟨u_blind, va_recv X.2.2.2.2.2.2.1 hP hc he, fun U hU hW => ⟨rfl, u_pre X hP hS hU hW⟩⟩) rfl hn hl.1 rfl (lv_room (Nat.le_of_ble_eq_true hW)) d ⟨Nat.zero_le _, Nat.zero_le _⟩) k
  have h2 := hM.2.2.2.2
  rw [h] at h2
  exact (Option.some.inj h2).symm
theorem u_callS {y : MethodName} {bytes : ByteArray} {maxL n fr1 lo1 index : Nat} {ret : Option FieldType} {avs : (Nat → Nat) → (Nat → Nat) → List Value} {z z1 : MS} {v0 : Option Value} {As : List Value} {st : List Value} {lv : List (Nat × Value)} (X : UC p s m args meth c cc nL own R fr lo D ad cs sd A) (hP : va_P D clss (wld cs ad z) H) (hS : va_S A s.heap H locs) (hl : lv_has ls nL lv)
    (hC : CT l y bytes maxL ret fr1 lo1 avs z v0 z1) (hM : CWS own index y bytes maxL ret n)
    (ha : avs ad sd = As) (hn : As.length = n) (hst : st = As.reverse ++ rest) (hW : Nat.ble (rest.map fun v => v.category).sum 8 = true) (hR : Nat.ble (fr1 + 1) fr = true ∧ Nat.ble (8 + (maxL + 11) + lo1) lo = true) (d : decode cc pc = .ok (.invokestatic index, 3))
    (k : ∀ (H : Heap) (locs : List Loc), va_P D clss (wld cs ad z1) H → va_S A s.heap H locs → W p l e R s m args below meth c H locs 0 0 Q (F0 m (pc + 3) ls (v0.toList ++ rest))) : W p l e R s m args below meth c H locs 0 0 Q (F0 m pc ls st) := by
  subst hst
  obtain ⟨hM, hw, hi⟩ := hM
  refine u_back (y := y) X hS (va_runS (Ts := TBL) (own := own) (nL := nL) (ws := .code y bytes maxL ret :: TBL) (rm := { frames := fr1, cells := 0, slots := 0, locals := lo1 }) ⟨X.1, X.2.1, X.2.2.1, X.2.2.2.1, X.2.2.2.2.1⟩ (hC D ad cs sd H.size X.2.2.2.2.2.2.2.2.1)
    ⟨⟨rfl, rfl, Nat.le_trans (Nat.le_of_ble_eq_true hR.1) X.2.2.2.2.2.2.2.2.2.2.2.2.1, Nat.le_trans (Nat.le_of_ble_eq_true hR.2) X.2.2.2.2.2.2.2.2.2.2.2.2.2.1, pay_in X.2.2.2.2.1 (tb_good (tb_cons hM.1)), List.mem_cons_self, X.2.2.2.2.1 _ hM.1, X.2.2.2.2.1 _ hM.2.1, ⟨hM.2.2.1, hM.2.2.2.1⟩, fun sig h => ?_, X.2.2.2.2.1 _ hw⟩, X.2.2.2.2.1 _ hi⟩
    (by rw [ha]; exact ⟨u_blind, fun U hU hW => ⟨rfl, u_pre X hP hS hU hW⟩⟩) rfl hn hl.1 rfl (lv_room (Nat.le_of_ble_eq_true hW)) d ⟨Nat.zero_le _, Nat.zero_le _⟩) k
  have h2 := hM.2.2.2.2
  rw [h] at h2
  exact (Option.some.inj h2).symm

theorem u_callVi {y : MethodName} {bytes : ByteArray} {maxL n fr1 lo1 index : Nat} {ret : Option FieldType} {avs : (Nat → Nat) → (Nat → Nat) → List Value} {z z1 : MS} {v : Int32} {As : List Value} {i0 : Nat} {C : String} {st : List Value} {lv : List (Nat × Value)} (X : UC p s m args meth c cc nL own R fr lo D ad cs sd A) (hP : va_P D clss (wld cs ad z) H) (hS : va_S A s.heap H locs) (hl : lv_has ls nL lv) (d : decode cc pc = .ok (.invokevirtual index, 3)) (hC : CT l y bytes maxL ret fr1 lo1 avs z (some (.int v)) z1) (hM : CWV own index C y bytes maxL ret n) (ho : isO i0 C) (ha : avs ad sd = .ref (ad i0) :: As) (hn : As.length = n) (hst : st = As.reverse ++ .ref (ad i0) :: rest) (hW : Nat.ble (rest.map fun v => v.category).sum 8 = true) (hR : Nat.ble (fr1 + 1) fr = true ∧ Nat.ble (8 + (maxL + 11) + lo1) lo = true) (k : ∀ (H : Heap) (locs : List Loc), va_P D clss (wld cs ad z1) H → va_S A s.heap H locs → W p l e R s m args below meth c H locs 0 0 Q (F0 m (pc + 3) ls (.int v :: rest))) : W p l e R s m args below meth c H locs 0 0 Q (F0 m pc ls st) := u_callV X hP hS hl hC hM ho ha hn hst hW hR d k
theorem u_callSi {y : MethodName} {bytes : ByteArray} {maxL n fr1 lo1 index : Nat} {ret : Option FieldType} {avs : (Nat → Nat) → (Nat → Nat) → List Value} {z z1 : MS} {v : Int32} {As : List Value} {st : List Value} {lv : List (Nat × Value)} (X : UC p s m args meth c cc nL own R fr lo D ad cs sd A) (hP : va_P D clss (wld cs ad z) H) (hS : va_S A s.heap H locs) (hl : lv_has ls nL lv) (d : decode cc pc = .ok (.invokestatic index, 3)) (hC : CT l y bytes maxL ret fr1 lo1 avs z (some (.int v)) z1) (hM : CWS own index y bytes maxL ret n) (ha : avs ad sd = As) (hn : As.length = n) (hst : st = As.reverse ++ rest) (hW : Nat.ble (rest.map fun v => v.category).sum 8 = true) (hR : Nat.ble (fr1 + 1) fr = true ∧ Nat.ble (8 + (maxL + 11) + lo1) lo = true) (k : ∀ (H : Heap) (locs : List Loc), va_P D clss (wld cs ad z1) H → va_S A s.heap H locs → W p l e R s m args below meth c H locs 0 0 Q (F0 m (pc + 3) ls (.int v :: rest))) : W p l e R s m args below meth c H locs 0 0 Q (F0 m pc ls st) := u_callS X hP hS hl hC hM ha hn hst hW hR d k
theorem u_callVl {y : MethodName} {bytes : ByteArray} {maxL n fr1 lo1 index : Nat} {ret : Option FieldType} {avs : (Nat → Nat) → (Nat → Nat) → List Value} {z z1 : MS} {v : Int64} {As : List Value} {i0 : Nat} {C : String} {st : List Value} {lv : List (Nat × Value)} (X : UC p s m args meth c cc nL own R fr lo D ad cs sd A) (hP : va_P D clss (wld cs ad z) H) (hS : va_S A s.heap H locs) (hl : lv_has ls nL lv) (d : decode cc pc = .ok (.invokevirtual index, 3)) (hC : CT l y bytes maxL ret fr1 lo1 avs z (some (.long v)) z1) (hM : CWV own index C y bytes maxL ret n) (ho : isO i0 C) (ha : avs ad sd = .ref (ad i0) :: As) (hn : As.length = n) (hst : st = As.reverse ++ .ref (ad i0) :: rest) (hW : Nat.ble (rest.map fun v => v.category).sum 8 = true) (hR : Nat.ble (fr1 + 1) fr = true ∧ Nat.ble (8 + (maxL + 11) + lo1) lo = true) (k : ∀ (H : Heap) (locs : List Loc), va_P D clss (wld cs ad z1) H → va_S A s.heap H locs → W p l e R s m args below meth c H locs 0 0 Q (F0 m (pc + 3) ls (.long v :: rest))) : W p l e R s m args below meth c H locs 0 0 Q (F0 m pc ls st) := u_callV X hP hS hl hC hM ho ha hn hst hW hR d k
theorem u_callSl {y : MethodName} {bytes : ByteArray} {maxL n fr1 lo1 index : Nat} {ret : Option FieldType} {avs : (Nat → Nat) → (Nat → Nat) → List Value} {z z1 : MS} {v : Int64} {As : List Value} {st : List Value} {lv : List (Nat × Value)} (X : UC p s m args meth c cc nL own R fr lo D ad cs sd A) (hP : va_P D clss (wld cs ad z) H) (hS : va_S A s.heap H locs) (hl : lv_has ls nL lv) (d : decode cc pc = .ok (.invokestatic index, 3)) (hC : CT l y bytes maxL ret fr1 lo1 avs z (some (.long v)) z1) (hM : CWS own index y bytes maxL ret n) (ha : avs ad sd = As) (hn : As.length = n) (hst : st = As.reverse ++ rest) (hW : Nat.ble (rest.map fun v => v.category).sum 8 = true) (hR : Nat.ble (fr1 + 1) fr = true ∧ Nat.ble (8 + (maxL + 11) + lo1) lo = true) (k : ∀ (H : Heap) (locs : List Loc), va_P D clss (wld cs ad z1) H → va_S A s.heap H locs → W p l e R s m args below meth c H locs 0 0 Q (F0 m (pc + 3) ls (.long v :: rest))) : W p l e R s m args below meth c H locs 0 0 Q (F0 m pc ls st) := u_callS X hP hS hl hC hM ha hn hst hW hR d k
theorem u_callVr {y : MethodName} {bytes : ByteArray} {maxL n fr1 lo1 index : Nat} {ret : Option FieldType} {avs : (Nat → Nat) → (Nat → Nat) → List Value} {z z1 : MS} {v : Nat} {As : List Value} {i0 : Nat} {C : String} {st : List Value} {lv : List (Nat × Value)} (X : UC p s m args meth c cc nL own R fr lo D ad cs sd A) (hP : va_P D clss (wld cs ad z) H) (hS : va_S A s.heap H locs) (hl : lv_has ls nL lv) (d : decode cc pc = .ok (.invokevirtual index, 3)) (hC : CT l y bytes maxL ret fr1 lo1 avs z (some (.ref v)) z1) (hM : CWV own index C y bytes maxL ret n) (ho : isO i0 C) (ha : avs ad sd = .ref (ad i0) :: As) (hn : As.length = n) (hst : st = As.reverse ++ .ref (ad i0) :: rest) (hW : Nat.ble (rest.map fun v => v.category).sum 8 = true) (hR : Nat.ble (fr1 + 1) fr = true ∧ Nat.ble (8 + (maxL + 11) + lo1) lo = true) (k : ∀ (H : Heap) (locs : List Loc), va_P D clss (wld cs ad z1) H → va_S A s.heap H locs → W p l e R s m args below meth c H locs 0 0 Q (F0 m (pc + 3) ls (.ref v :: rest))) : W p l e R s m args below meth c H locs 0 0 Q (F0 m pc ls st) := u_callV X hP hS hl hC hM ho ha hn hst hW hR d k
theorem u_callSr {y : MethodName} {bytes : ByteArray} {maxL n fr1 lo1 index : Nat} {ret : Option FieldType} {avs : (Nat → Nat) → (Nat → Nat) → List Value} {z z1 : MS} {v : Nat} {As : List Value} {st : List Value} {lv : List (Nat × Value)} (X : UC p s m args meth c cc nL own R fr lo D ad cs sd A) (hP : va_P D clss (wld cs ad z) H) (hS : va_S A s.heap H locs) (hl : lv_has ls nL lv) (d : decode cc pc = .ok (.invokestatic index, 3)) (hC : CT l y bytes maxL ret fr1 lo1 avs z (some (.ref v)) z1) (hM : CWS own index y bytes maxL ret n) (ha : avs ad sd = As) (hn : As.length = n) (hst : st = As.reverse ++ rest) (hW : Nat.ble (rest.map fun v => v.category).sum 8 = true) (hR : Nat.ble (fr1 + 1) fr = true ∧ Nat.ble (8 + (maxL + 11) + lo1) lo = true) (k : ∀ (H : Heap) (locs : List Loc), va_P D clss (wld cs ad z1) H → va_S A s.heap H locs → W p l e R s m args below meth c H locs 0 0 Q (F0 m (pc + 3) ls (.ref v :: rest))) : W p l e R s m args below meth c H locs 0 0 Q (F0 m pc ls st) := u_callS X hP hS hl hC hM ha hn hst hW hR d k
theorem u_callVv {y : MethodName} {bytes : ByteArray} {maxL n fr1 lo1 index : Nat} {ret : Option FieldType} {avs : (Nat → Nat) → (Nat → Nat) → List Value} {z z1 : MS} {As : List Value} {i0 : Nat} {C : String} {st : List Value} {lv : List (Nat × Value)} (X : UC p s m args meth c cc nL own R fr lo D ad cs sd A) (hP : va_P D clss (wld cs ad z) H) (hS : va_S A s.heap H locs) (hl : lv_has ls nL lv) (d : decode cc pc = .ok (.invokevirtual index, 3)) (hC : CT l y bytes maxL ret fr1 lo1 avs z (none) z1) (hM : CWV own index C y bytes maxL ret n) (ho : isO i0 C) (ha : avs ad sd = .ref (ad i0) :: As) (hn : As.length = n) (hst : st = As.reverse ++ .ref (ad i0) :: rest) (hW : Nat.ble (rest.map fun v => v.category).sum 8 = true) (hR : Nat.ble (fr1 + 1) fr = true ∧ Nat.ble (8 + (maxL + 11) + lo1) lo = true) (k : ∀ (H : Heap) (locs : List Loc), va_P D clss (wld cs ad z1) H → va_S A s.heap H locs → W p l e R s m args below meth c H locs 0 0 Q (F0 m (pc + 3) ls (rest))) : W p l e R s m args below meth c H locs 0 0 Q (F0 m pc ls st) := u_callV X hP hS hl hC hM ho ha hn hst hW hR d k
theorem u_callSv {y : MethodName} {bytes : ByteArray} {maxL n fr1 lo1 index : Nat} {ret : Option FieldType} {avs : (Nat → Nat) → (Nat → Nat) → List Value} {z z1 : MS} {As : List Value} {st : List Value} {lv : List (Nat × Value)} (X : UC p s m args meth c cc nL own R fr lo D ad cs sd A) (hP : va_P D clss (wld cs ad z) H) (hS : va_S A s.heap H locs) (hl : lv_has ls nL lv) (d : decode cc pc = .ok (.invokestatic index, 3)) (hC : CT l y bytes maxL ret fr1 lo1 avs z (none) z1) (hM : CWS own index y bytes maxL ret n) (ha : avs ad sd = As) (hn : As.length = n) (hst : st = As.reverse ++ rest) (hW : Nat.ble (rest.map fun v => v.category).sum 8 = true) (hR : Nat.ble (fr1 + 1) fr = true ∧ Nat.ble (8 + (maxL + 11) + lo1) lo = true) (k : ∀ (H : Heap) (locs : List Loc), va_P D clss (wld cs ad z1) H → va_S A s.heap H locs → W p l e R s m args below meth c H locs 0 0 Q (F0 m (pc + 3) ls (rest))) : W p l e R s m args below meth c H locs 0 0 Q (F0 m pc ls st) := u_callS X hP hS hl hC hM ha hn hst hW hR d k
theorem u_iretT {v r : Int32} (X : UC p s m args meth c cc nL own R fr lo D ad cs sd A) (hr : meth.sig.returnType = some .int) (hret : HR p l e R s m args below meth c D ad cs A Q z (some (.int r))) (h : v = r) (hP : va_P D clss (wld cs ad z) H) (hS : va_S A s.heap H locs) (d : decode cc pc = .ok (.ireturn, 1)) : W p l e R s m args below meth c H locs 0 0 Q (F0 m pc ls [.int v]) := u_iret X hr (h ▸ hret) hP hS d
theorem u_iretP {v r : Int32} (X : UC p s m args meth c cc nL own R fr lo D ad cs sd A) (hr : meth.sig.returnType = some .int) (hret : HR p l e R s m args below meth c D ad cs A Q z (some (.int r))) (h : some v = some r) (hP : va_P D clss (wld cs ad z) H) (hS : va_S A s.heap H locs) (d : decode cc pc = .ok (.ireturn, 1)) : W p l e R s m args below meth c H locs 0 0 Q (F0 m pc ls [.int v]) := u_iret X hr (Option.some.inj h ▸ hret) hP hS d
theorem u_iretM {v r : Int32} (X : UC p s m args meth c cc nL own R fr lo D ad cs sd A) (hr : meth.sig.returnType = some .int) (hret : HR p l e R s m args below meth c D ad cs A Q z1 (some (.int r))) (h : some (v, z) = some (r, z1)) (hP : va_P D clss (wld cs ad z) H) (hS : va_S A s.heap H locs) (d : decode cc pc = .ok (.ireturn, 1)) : W p l e R s m args below meth c H locs 0 0 Q (F0 m pc ls [.int v]) := by
  cases h
  exact u_iret X hr hret hP hS d
theorem u_lretT {v r : Int64} (X : UC p s m args meth c cc nL own R fr lo D ad cs sd A) (hr : meth.sig.returnType = some .long) (hret : HR p l e R s m args below meth c D ad cs A Q z (some (.long r))) (h : v = r) (hP : va_P D clss (wld cs ad z) H) (hS : va_S A s.heap H locs) (d : decode cc pc = .ok (.lreturn, 1)) : W p l e R s m args below meth c H locs 0 0 Q (F0 m pc ls [.long v]) := u_lret X hr (h ▸ hret) hP hS d
theorem u_lretP {v r : Int64} (X : UC p s m args meth c cc nL own R fr lo D ad cs sd A) (hr : meth.sig.returnType = some .long) (hret : HR p l e R s m args below meth c D ad cs A Q z (some (.long r))) (h : some v = some r) (hP : va_P D clss (wld cs ad z) H) (hS : va_S A s.heap H locs) (d : decode cc pc = .ok (.lreturn, 1)) : W p l e R s m args below meth c H locs 0 0 Q (F0 m pc ls [.long v]) := u_lret X hr (Option.some.inj h ▸ hret) hP hS d
theorem u_lretM {v r : Int64} (X : UC p s m args meth c cc nL own R fr lo D ad cs sd A) (hr : meth.sig.returnType = some .long) (hret : HR p l e R s m args below meth c D ad cs A Q z1 (some (.long r))) (h : some (v, z) = some (r, z1)) (hP : va_P D clss (wld cs ad z) H) (hS : va_S A s.heap H locs) (d : decode cc pc = .ok (.lreturn, 1)) : W p l e R s m args below meth c H locs 0 0 Q (F0 m pc ls [.long v]) := by
  cases h
  exact u_lret X hr hret hP hS d
theorem u_zretT {v r : Int32} (X : UC p s m args meth c cc nL own R fr lo D ad cs sd A) (hr : meth.sig.returnType = some .boolean) (hret : HR p l e R s m args below meth c D ad cs A Q z (some (.int r))) (h : v = r) (hP : va_P D clss (wld cs ad z) H) (hS : va_S A s.heap H locs) (hv : v = 0 ∨ v = 1) (d : decode cc pc = .ok (.ireturn, 1)) : W p l e R s m args below meth c H locs 0 0 Q (F0 m pc ls [.int v]) := u_zret X hr (h ▸ hret) hP hS hv d
theorem u_zretP {v r : Int32} (X : UC p s m args meth c cc nL own R fr lo D ad cs sd A) (hr : meth.sig.returnType = some .boolean) (hret : HR p l e R s m args below meth c D ad cs A Q z (some (.int r))) (h : some v = some r) (hP : va_P D clss (wld cs ad z) H) (hS : va_S A s.heap H locs) (hv : v = 0 ∨ v = 1) (d : decode cc pc = .ok (.ireturn, 1)) : W p l e R s m args below meth c H locs 0 0 Q (F0 m pc ls [.int v]) := u_zret X hr (Option.some.inj h ▸ hret) hP hS hv d
theorem u_zretM {v r : Int32} (X : UC p s m args meth c cc nL own R fr lo D ad cs sd A) (hr : meth.sig.returnType = some .boolean) (hret : HR p l e R s m args below meth c D ad cs A Q z1 (some (.int r))) (h : some (v, z) = some (r, z1)) (hP : va_P D clss (wld cs ad z) H) (hS : va_S A s.heap H locs) (hv : v = 0 ∨ v = 1) (d : decode cc pc = .ok (.ireturn, 1)) : W p l e R s m args below meth c H locs 0 0 Q (F0 m pc ls [.int v]) := by
  cases h
  exact u_zret X hr hret hP hS hv d
theorem u_vretM (X : UC p s m args meth c cc nL own R fr lo D ad cs sd A) (hr : meth.sig.returnType = none) (hret : HR p l e R s m args below meth c D ad cs A Q z1 none) (h : some z = some z1) (hP : va_P D clss (wld cs ad z) H) (hS : va_S A s.heap H locs) (d : decode cc pc = .ok (.return_, 1)) : W p l e R s m args below meth c H locs 0 0 Q (F0 m pc ls []) := by
  cases h
  exact u_vret X hr hret hP hS d
theorem u_mmin {x y : Int32} {index : Nat} {lv : List (Nat × Value)} (X : UC p s m args meth c cc nL own R fr lo D ad cs sd A) (hl : lv_has ls nL lv) (d : decode cc pc = .ok (.invokestatic index, 3)) (hw : Cond.methodLink own index Lib.Math.min.name ∈ TBL) (h1 : Cond.static Lib.Math.min.name ∈ TBL) (h2 : Cond.initialized "java/lang/Math" ∈ TBL) (h3 : Cond.code Lib.Math.min.name Lib.Math.min.code 2 (some .int) ∈ TBL) (hW : Nat.ble (rest.map fun v => v.category).sum 8 = true) (hR : Nat.ble 1 fr = true ∧ Nat.ble 23 lo = true) (k : W p l e R s m args below meth c H locs 0 0 Q (F0 m (pc + 3) ls (.int (mnI x y) :: rest))) : W p l e R s m args below meth c H locs 0 0 Q (F0 m pc ls (.int y :: .int x :: rest)) :=
  va_mmin X.1 X.2.1 (X.2.2.1.trans hl.1.symm) X.2.2.2.1 (X.2.2.2.2.1 _ hw) (X.2.2.2.2.1 _ h1) (X.2.2.2.2.1 _ h2) (X.2.2.2.2.1 _ h3) (Nat.le_trans (Nat.le_of_ble_eq_true hR.1) X.2.2.2.2.2.2.2.2.2.2.2.2.1) (Nat.le_trans (by have := Nat.le_of_ble_eq_true hW; omega) (Nat.le_trans (Nat.le_of_ble_eq_true hR.2) X.2.2.2.2.2.2.2.2.2.2.2.2.2.1)) (Nat.zero_le _) (Nat.zero_le _) d k
theorem u_mmax {x y : Int32} {index : Nat} {lv : List (Nat × Value)} (X : UC p s m args meth c cc nL own R fr lo D ad cs sd A) (hl : lv_has ls nL lv) (d : decode cc pc = .ok (.invokestatic index, 3)) (hw : Cond.methodLink own index Lib.Math.max.name ∈ TBL) (h1 : Cond.static Lib.Math.max.name ∈ TBL) (h2 : Cond.initialized "java/lang/Math" ∈ TBL) (h3 : Cond.code Lib.Math.max.name Lib.Math.max.code 2 (some .int) ∈ TBL) (hW : Nat.ble (rest.map fun v => v.category).sum 8 = true) (hR : Nat.ble 1 fr = true ∧ Nat.ble 23 lo = true) (k : W p l e R s m args below meth c H locs 0 0 Q (F0 m (pc + 3) ls (.int (mxI x y) :: rest))) : W p l e R s m args below meth c H locs 0 0 Q (F0 m pc ls (.int y :: .int x :: rest)) :=
  va_mmax X.1 X.2.1 (X.2.2.1.trans hl.1.symm) X.2.2.2.1 (X.2.2.2.2.1 _ hw) (X.2.2.2.2.1 _ h1) (X.2.2.2.2.1 _ h2) (X.2.2.2.2.1 _ h3) (Nat.le_trans (Nat.le_of_ble_eq_true hR.1) X.2.2.2.2.2.2.2.2.2.2.2.2.1) (Nat.le_trans (by have := Nat.le_of_ble_eq_true hW; omega) (Nat.le_trans (Nat.le_of_ble_eq_true hR.2) X.2.2.2.2.2.2.2.2.2.2.2.2.2.1)) (Nat.zero_le _) (Nat.zero_le _) d k
theorem u_mmaxl {x y : Int64} {index : Nat} {lv : List (Nat × Value)} (X : UC p s m args meth c cc nL own R fr lo D ad cs sd A) (hl : lv_has ls nL lv) (d : decode cc pc = .ok (.invokestatic index, 3)) (hw : Cond.methodLink own index Lib.MathLoose.max_long.x ∈ TBL) (h1 : Cond.static Lib.MathLoose.max_long.x ∈ TBL) (h2 : Cond.initialized "java/lang/Math" ∈ TBL) (h3 : Cond.code Lib.MathLoose.max_long.x Lib.MathLoose.max_long.code 4 (some .long) ∈ TBL) (hW : Nat.ble (rest.map fun v => v.category).sum 8 = true) (hR : Nat.ble 1 fr = true ∧ Nat.ble 23 lo = true) (k : W p l e R s m args below meth c H locs 0 0 Q (F0 m (pc + 3) ls (.long (mxJ x y) :: rest))) : W p l e R s m args below meth c H locs 0 0 Q (F0 m pc ls (.long y :: .long x :: rest)) :=
  va_mmax_long X.1 X.2.1 (X.2.2.1.trans hl.1.symm) X.2.2.2.1 (X.2.2.2.2.1 _ hw) (X.2.2.2.2.1 _ h1) (X.2.2.2.2.1 _ h2) (X.2.2.2.2.1 _ h3) (Nat.le_trans (Nat.le_of_ble_eq_true hR.1) X.2.2.2.2.2.2.2.2.2.2.2.2.1) (Nat.le_trans (by have := Nat.le_of_ble_eq_true hW; omega) (Nat.le_trans (Nat.le_of_ble_eq_true hR.2) X.2.2.2.2.2.2.2.2.2.2.2.2.2.1)) (Nat.zero_le _) (Nat.zero_le _) d k
theorem u_copy {a0 a1 i0 i1 n0 n1 N index : Nat} {f g : Nat → Int32} {n : Int32} {z : MS} (z1 : MS) {lv : List (Nat × Value)} (X : UC p s m args meth c cc nL own R fr lo D ad cs sd A) (hP : va_P D clss (wld cs ad z) H) (hS : va_S A s.heap H locs) (hl : lv_has ls nL lv) (d : decode cc pc = .ok (.invokestatic index, 3))
    (hw : Cond.methodLink own index arraycopyName ∈ TBL) (h1 : Cond.native arraycopyName ∈ TBL) (h2 : Cond.static arraycopyName ∈ TBL) (h3 : Cond.initialized "java/lang/System" ∈ TBL)
    (he0 : (wld cs ad z)[i0]? = some (a0, .inl (cs 0, n0, .inl f))) (he1 : (wld cs ad z)[i1]? = some (a1, .inl (cs 0, n1, .inl g))) (hn : ¬ n < 0) (hN : n.toNatClampNeg = N) (h4 : Nat.ble N n0 = true) (h5 : Nat.ble N n1 = true) (hz : (wld cs ad z).set i1 (a1, .inl (cs 0, n1, .inl (va_cpy f g 0 0 N))) = wld cs ad z1)
    (hW : Nat.ble (rest.map fun v => v.category).sum 8 = true) (hR : Nat.ble 1 fr = true ∧ Nat.ble 26 lo = true) (k : ∀ (H : Heap) (locs : List Loc), va_P D clss (wld cs ad z1) H → va_S A s.heap H locs → W p l e R s m args below meth c H locs 0 0 Q (F0 m (pc + 3) ls rest)) : W p l e R s m args below meth c H locs 0 0 Q (F0 m pc ls (.int n :: .int 0 :: .ref a1 :: .int 0 :: .ref a0 :: rest)) := by
  subst hN
  exact va_copyi X.1 X.2.1 (X.2.2.1.trans hl.1.symm) X.2.2.2.1 (X.2.2.2.2.1 _ hw) (X.2.2.2.2.1 _ h1) (X.2.2.2.2.1 _ h2) (X.2.2.2.2.1 _ h3) X.2.2.2.2.2.2.1 hP (uc_D X) hS i0 i1 0 0 he0 he1 rfl rfl rfl (by decide) (by decide) hn (by have := Nat.le_of_ble_eq_true h4; show 0 + _ ≤ _; omega) (by have := Nat.le_of_ble_eq_true h5; show 0 + _ ≤ _; omega) (fun _ _ => rfl) (Nat.le_trans (Nat.le_of_ble_eq_true hR.1) X.2.2.2.2.2.2.2.2.2.2.2.2.1) (Nat.le_trans (by have h9 : nativeFrameWords "java/lang/System" "arraycopy" 5 = 7 := rfl; have := Nat.le_of_ble_eq_true hW; rw [h9]; omega) (Nat.le_trans (Nat.le_of_ble_eq_true hR.2) X.2.2.2.2.2.2.2.2.2.2.2.2.2.1)) d (fun H1 locs1 q1 _ q3 => k H1 locs1 (by rw [← hz]; exact q1) q3)
theorem u_ldcw {index : Nat} {v : Int32} (X : UC p s m args meth c cc nL own R fr lo D ad cs sd A) (d : decode cc pc = .ok (.ldc_w index, 3)) (hw : Cond.constant own index v ∈ TBL) (k : W p l e R s m args below meth c H locs cells slots Q (F0 m (pc + 3) ls (.int v :: rest))) : W p l e R s m args below meth c H locs cells slots Q (F0 m pc ls rest) := lv_ldcw X.1 X.2.1 X.2.2.2.1 (X.2.2.2.2.1 _ hw) d k
theorem u_gets0 {index : Nat} (X : UC p s m args meth c cc nL own R fr lo D ad cs sd A) (hS : va_S A s.heap H locs) (d : decode cc pc = .ok (.getstatic index, 3)) (hw : Cond.fieldLink own index "TillPairs$House" "LAWS_AT_FIRST" "[I" ∈ TBL) (k : W p l e R s m args below meth c H locs cells slots Q (F0 m (pc + 3) ls (.ref (sd 0) :: rest))) : W p l e R s m args below meth c H locs cells slots Q (F0 m pc ls rest) := va_gets X.1 X.2.1 X.2.2.2.2.2.2.2.2.2.2.2.1.1.1 hS X.2.2.2.1 (X.2.2.2.2.1 _ hw) (fun _ h => h) d k
theorem u_getsN0 {index : Nat} {host : String} (X : UC p s m args meth c cc nL own R fr lo D ad cs sd A) (hS : va_S A s.heap H locs) (d : decode cc pc = .ok (.getstatic index, 3)) (hw : Cond.fieldLinkNest own index "TillPairs$House" "LAWS_AT_FIRST" "[I" host ∈ TNW) (k : W p l e R s m args below meth c H locs cells slots Q (F0 m (pc + 3) ls (.ref (sd 0) :: rest))) : W p l e R s m args below meth c H locs cells slots Q (F0 m pc ls rest) := va_getsN X.1 X.2.1 X.2.2.2.2.2.2.2.2.2.2.2.1.1.1 hS X.2.2.2.1 ((X.2.2.2.2.2.1 _ hw).use rfl) (fun _ h => h) d k
theorem u_tald0 {i : Int32} (X : UC p s m args meth c cc nL own R fr lo D ad cs sd A) (hS : va_S A s.heap H locs) (hin : ¬ (i < 0 ∨ 8 ≤ i.toNatClampNeg)) (d : decode cc pc = .ok (.iaload, 1)) (k : W p l e R s m args below meth c H locs cells slots Q (F0 m (pc + 1) ls (.int (cST0.getD i.toNatClampNeg 0) :: rest))) : W p l e R s m args below meth c H locs cells slots Q (F0 m pc ls (.int i :: .ref (sd 0) :: rest)) := va_ti X.1 X.2.1 X.2.2.2.2.2.2.2.2.2.2.2.1.1.2 hS hin rfl d k
theorem u_gets1 {index : Nat} (X : UC p s m args meth c cc nL own R fr lo D ad cs sd A) (hS : va_S A s.heap H locs) (d : decode cc pc = .ok (.getstatic index, 3)) (hw : Cond.fieldLink own index "TillPairs$House" "MOST_OF_LAW" "[I" ∈ TBL) (k : W p l e R s m args below meth c H locs cells slots Q (F0 m (pc + 3) ls (.ref (sd 1) :: rest))) : W p l e R s m args below meth c H locs cells slots Q (F0 m pc ls rest) := va_gets X.1 X.2.1 X.2.2.2.2.2.2.2.2.2.2.2.1.2.1.1 hS X.2.2.2.1 (X.2.2.2.2.1 _ hw) (fun _ h => h) d k
theorem u_getsN1 {index : Nat} {host : String} (X : UC p s m args meth c cc nL own R fr lo D ad cs sd A) (hS : va_S A s.heap H locs) (d : decode cc pc = .ok (.getstatic index, 3)) (hw : Cond.fieldLinkNest own index "TillPairs$House" "MOST_OF_LAW" "[I" host ∈ TNW) (k : W p l e R s m args below meth c H locs cells slots Q (F0 m (pc + 3) ls (.ref (sd 1) :: rest))) : W p l e R s m args below meth c H locs cells slots Q (F0 m pc ls rest) := va_getsN X.1 X.2.1 X.2.2.2.2.2.2.2.2.2.2.2.1.2.1.1 hS X.2.2.2.1 ((X.2.2.2.2.2.1 _ hw).use rfl) (fun _ h => h) d k
theorem u_tald1 {i : Int32} (X : UC p s m args meth c cc nL own R fr lo D ad cs sd A) (hS : va_S A s.heap H locs) (hin : ¬ (i < 0 ∨ 8 ≤ i.toNatClampNeg)) (d : decode cc pc = .ok (.iaload, 1)) (k : W p l e R s m args below meth c H locs cells slots Q (F0 m (pc + 1) ls (.int (cST1.getD i.toNatClampNeg 0) :: rest))) : W p l e R s m args below meth c H locs cells slots Q (F0 m pc ls (.int i :: .ref (sd 1) :: rest)) := va_ti X.1 X.2.1 X.2.2.2.2.2.2.2.2.2.2.2.1.2.1.2 hS hin rfl d k
theorem u_gets2 {index : Nat} (X : UC p s m args meth c cc nL own R fr lo D ad cs sd A) (hS : va_S A s.heap H locs) (d : decode cc pc = .ok (.getstatic index, 3)) (hw : Cond.fieldLink own index "TillPairs$Acts" "KIND_ABOVE" "[I" ∈ TBL) (k : W p l e R s m args below meth c H locs cells slots Q (F0 m (pc + 3) ls (.ref (sd 2) :: rest))) : W p l e R s m args below meth c H locs cells slots Q (F0 m pc ls rest) := va_gets X.1 X.2.1 X.2.2.2.2.2.2.2.2.2.2.2.1.2.2.1.1 hS X.2.2.2.1 (X.2.2.2.2.1 _ hw) (fun _ h => h) d k
theorem u_getsN2 {index : Nat} {host : String} (X : UC p s m args meth c cc nL own R fr lo D ad cs sd A) (hS : va_S A s.heap H locs) (d : decode cc pc = .ok (.getstatic index, 3)) (hw : Cond.fieldLinkNest own index "TillPairs$Acts" "KIND_ABOVE" "[I" host ∈ TNW) (k : W p l e R s m args below meth c H locs cells slots Q (F0 m (pc + 3) ls (.ref (sd 2) :: rest))) : W p l e R s m args below meth c H locs cells slots Q (F0 m pc ls rest) := va_getsN X.1 X.2.1 X.2.2.2.2.2.2.2.2.2.2.2.1.2.2.1.1 hS X.2.2.2.1 ((X.2.2.2.2.2.1 _ hw).use rfl) (fun _ h => h) d k
theorem u_tald2 {i : Int32} (X : UC p s m args meth c cc nL own R fr lo D ad cs sd A) (hS : va_S A s.heap H locs) (hin : ¬ (i < 0 ∨ 6 ≤ i.toNatClampNeg)) (d : decode cc pc = .ok (.iaload, 1)) (k : W p l e R s m args below meth c H locs cells slots Q (F0 m (pc + 1) ls (.int (cST2.getD i.toNatClampNeg 0) :: rest))) : W p l e R s m args below meth c H locs cells slots Q (F0 m pc ls (.int i :: .ref (sd 2) :: rest)) := va_ti X.1 X.2.1 X.2.2.2.2.2.2.2.2.2.2.2.1.2.2.1.2 hS hin rfl d k
theorem u_gets3 {index : Nat} (X : UC p s m args meth c cc nL own R fr lo D ad cs sd A) (hS : va_S A s.heap H locs) (d : decode cc pc = .ok (.getstatic index, 3)) (hw : Cond.fieldLink own index "TillPairs$Acts" "BODIES" "[I" ∈ TBL) (k : W p l e R s m args below meth c H locs cells slots Q (F0 m (pc + 3) ls (.ref (sd 3) :: rest))) : W p l e R s m args below meth c H locs cells slots Q (F0 m pc ls rest) := va_gets X.1 X.2.1 X.2.2.2.2.2.2.2.2.2.2.2.1.2.2.2.1.1 hS X.2.2.2.1 (X.2.2.2.2.1 _ hw) (fun _ h => h) d k
theorem u_getsN3 {index : Nat} {host : String} (X : UC p s m args meth c cc nL own R fr lo D ad cs sd A) (hS : va_S A s.heap H locs) (d : decode cc pc = .ok (.getstatic index, 3)) (hw : Cond.fieldLinkNest own index "TillPairs$Acts" "BODIES" "[I" host ∈ TNW) (k : W p l e R s m args below meth c H locs cells slots Q (F0 m (pc + 3) ls (.ref (sd 3) :: rest))) : W p l e R s m args below meth c H locs cells slots Q (F0 m pc ls rest) := va_getsN X.1 X.2.1 X.2.2.2.2.2.2.2.2.2.2.2.1.2.2.2.1.1 hS X.2.2.2.1 ((X.2.2.2.2.2.1 _ hw).use rfl) (fun _ h => h) d k
theorem u_tald3 {i : Int32} (X : UC p s m args meth c cc nL own R fr lo D ad cs sd A) (hS : va_S A s.heap H locs) (hin : ¬ (i < 0 ∨ 24 ≤ i.toNatClampNeg)) (d : decode cc pc = .ok (.iaload, 1)) (k : W p l e R s m args below meth c H locs cells slots Q (F0 m (pc + 1) ls (.int (cST3.getD i.toNatClampNeg 0) :: rest))) : W p l e R s m args below meth c H locs cells slots Q (F0 m pc ls (.int i :: .ref (sd 3) :: rest)) := va_ti X.1 X.2.1 X.2.2.2.2.2.2.2.2.2.2.2.1.2.2.2.1.2 hS hin rfl d k
def tswC (dflt lo hi : Int) (offs : Array Int) (v : Int) (d : Int) : Bool := !(decide (v < lo)) && !(decide (hi < v)) && (offs[(v - lo).toNat]? == some d)
theorem u_tsw {dflt lo hi : Int} {offs : Array Int} {len : Nat} {x : Int32} (tgt : Nat) {v : Int} (X : UC p s m args meth c cc nL own R fr lo0 D ad cs sd A) (d : decode cc pc = .ok (.tableswitch dflt lo hi offs, len)) (hx : x.toInt = v) (ht : tswC dflt lo hi offs v ((tgt : Int) - (pc : Int)) = true) (k : W p l e R s m args below meth c H locs cells slots Q (F0 m tgt ls rest)) : W p l e R s m args below meth c H locs cells slots Q (F0 m pc ls (.int x :: rest)) := by
  subst hx
  unfold tswC at ht
  simp only [Bool.and_eq_true, Bool.not_eq_true', decide_eq_false_iff_not, beq_iff_eq] at ht
  exact lv_tableIn X.1 X.2.1 d ht.1.1 ht.1.2 ht.2 (by omega) k
theorem u_tswD {dflt lo hi : Int} {offs : Array Int} {len : Nat} {x : Int32} (tgt : Nat) {vs : List Int} (X : UC p s m args meth c cc nL own R fr lo0 D ad cs sd A) (d : decode cc pc = .ok (.tableswitch dflt lo hi offs, len)) (ht : (pc : Int) + dflt = (tgt : Int)) (hno : ∀ v ∈ vs, ¬ x.toInt = v) (hall : ∀ k, k < (hi - lo + 1).toNat → (lo + (k : Int)) ∈ vs ∨ offs[k]? = some dflt) (k : W p l e R s m args below meth c H locs cells slots Q (F0 m tgt ls rest)) : W p l e R s m args below meth c H locs cells slots Q (F0 m pc ls (.int x :: rest)) := by
  by_cases h1 : x.toInt < lo
  · exact lv_tableOut X.1 X.2.1 d (Or.inl h1) ht k
  by_cases h2 : hi < x.toInt
  · exact lv_tableOut X.1 X.2.1 d (Or.inr h2) ht k
  rcases hall (x.toInt - lo).toNat (by omega) with h3 | h3
  · exact absurd (by omega) (hno _ h3)
  · exact lv_tableIn X.1 X.2.1 d h1 h2 h3 ht k
theorem u_lsw {dflt : Int} {ps : Array (Int × Int)} {len : Nat} {x : Int32} (tgt : Nat) {v : Int} (X : UC p s m args meth c cc nL own R fr lo0 D ad cs sd A) (d : decode cc pc = .ok (.lookupswitch dflt ps, len)) (hp : (ps.toList.zip (ps.toList.drop 1)).all (fun (a, next) => a.1 < next.1) = true) (hx : x.toInt = v) (ht : (pc : Int) + Op.lookupswitch.offset ps.toList dflt v = (tgt : Int)) (k : W p l e R s m args below meth c H locs cells slots Q (F0 m tgt ls rest)) : W p l e R s m args below meth c H locs cells slots Q (F0 m pc ls (.int x :: rest)) := by
  subst hx
  exact lv_lookup X.1 X.2.1 d hp rfl ht k
theorem u_lswD {dflt : Int} {ps : Array (Int × Int)} {len : Nat} {x : Int32} (tgt : Nat) {vs : List Int} (X : UC p s m args meth c cc nL own R fr lo0 D ad cs sd A) (d : decode cc pc = .ok (.lookupswitch dflt ps, len)) (hp : (ps.toList.zip (ps.toList.drop 1)).all (fun (a, next) => a.1 < next.1) = true) (ht : (pc : Int) + dflt = (tgt : Int)) (hno : ∀ v ∈ vs, ¬ x.toInt = v) (hall : ∀ q ∈ ps.toList, q.1 ∈ vs) (k : W p l e R s m args below meth c H locs cells slots Q (F0 m tgt ls rest)) : W p l e R s m args below meth c H locs cells slots Q (F0 m pc ls (.int x :: rest)) := by
  refine lv_lookup X.1 X.2.1 d hp ?_ ht k
  have hf : ps.toList.find? (fun q => q.1 == x.toInt) = none := List.find?_eq_none.mpr (fun q hq => by
    intro h9
    exact hno _ (hall q hq) (eq_of_beq h9).symm)
  exact Op.lookupswitch.offset_none hf

end UROWS
end
section
set_option maxRecDepth 20000 in
theorem hin_X0 : ∀ w ∈ u_ws RX0 TX0 6, w ∈ TBL := by
  have e : u_ws RX0 TX0 6 = [.laysFinal RX0 "TillPairs$Acts" "noted" "[I", .lays RX0 "TillPairs$Acts" "bodies" "I", .lays RX0 "TillPairs$Acts" "kind" "I", .lays RX0 "TillPairs$Acts" "number" "I", .lays RX0 "TillPairs$Acts" "a" "I", .lays RX0 "TillPairs$Acts" "parted" "Z"] := rfl
  rw [e]
  exact (List.forall_mem_cons.mpr ⟨tb_c1 233 rfl rfl, (List.forall_mem_cons.mpr ⟨tb_c1 235 rfl rfl, (List.forall_mem_cons.mpr ⟨tb_c1 237 rfl rfl, (List.forall_mem_cons.mpr ⟨tb_c1 239 rfl rfl, (List.forall_mem_cons.mpr ⟨tb_c2 1 rfl rfl, (List.forall_mem_cons.mpr ⟨tb_c2 3 rfl rfl, (fun _ h9 => by cases h9)⟩)⟩)⟩)⟩)⟩)⟩)
set_option maxRecDepth 20000 in
theorem hin_X1 : ∀ w ∈ u_ws RX1 TX1 6, w ∈ TBL := by
  have e : u_ws RX1 TX1 6 = [.laysFinal RX1 "TillPairs$Host" "sorts" "[I", .laysFinal RX1 "TillPairs$Host" "lengths" "[I", .laysFinal RX1 "TillPairs$Host" "items" "[[I", .laysFinal RX1 "TillPairs$Host" "heldWhat" "[I", .laysFinal RX1 "TillPairs$Host" "heldSort" "[I", .laysFinal RX1 "TillPairs$Host" "held" "[I"] := rfl
  rw [e]
  exact (List.forall_mem_cons.mpr ⟨tb_c2 25 rfl rfl, (List.forall_mem_cons.mpr ⟨tb_c2 27 rfl rfl, (List.forall_mem_cons.mpr ⟨tb_c2 29 rfl rfl, (List.forall_mem_cons.mpr ⟨tb_c2 31 rfl rfl, (List.forall_mem_cons.mpr ⟨tb_c2 33 rfl rfl, (List.forall_mem_cons.mpr ⟨tb_c2 35 rfl rfl, (fun _ h9 => by cases h9)⟩)⟩)⟩)⟩)⟩)⟩)
set_option maxRecDepth 20000 in
theorem hin_X2 : ∀ w ∈ u_ws RX2 TX2 8, w ∈ TBL := by
  have e : u_ws RX2 TX2 8 = [.lays RX2 "TillPairs$House" "people" "I", .lays RX2 "TillPairs$House" "surprises" "I", .laysFinal RX2 "TillPairs$House" "kinOf" "[I", .laysFinal RX2 "TillPairs$House" "awayOn" "[I", .laysFinal RX2 "TillPairs$House" "trustAtFirst" "[I", .laysFinal RX2 "TillPairs$House" "laws" "[I", .laysFinal RX2 "TillPairs$House" "seats" "[I", .laysFinal RX2 "TillPairs$House" "losses" "[I"] := rfl
  rw [e]
  exact (List.forall_mem_cons.mpr ⟨tb_c1 66 rfl rfl, (List.forall_mem_cons.mpr ⟨tb_c1 68 rfl rfl, (List.forall_mem_cons.mpr ⟨tb_c1 70 rfl rfl, (List.forall_mem_cons.mpr ⟨tb_c1 72 rfl rfl, (List.forall_mem_cons.mpr ⟨tb_c1 74 rfl rfl, (List.forall_mem_cons.mpr ⟨tb_c1 76 rfl rfl, (List.forall_mem_cons.mpr ⟨tb_c1 78 rfl rfl, (List.forall_mem_cons.mpr ⟨tb_c1 80 rfl rfl, (fun _ h9 => by cases h9)⟩)⟩)⟩)⟩)⟩)⟩)⟩)⟩)
set_option maxRecDepth 20000 in
theorem hin_X3 : ∀ w ∈ u_ws RX3 TX3 1, w ∈ TBL := by
  have e : u_ws RX3 TX3 1 = [.laysFinal RX3 "TillPairs$Judge" "home" "LTillPairs$House;"] := rfl
  rw [e]
  exact (List.forall_mem_cons.mpr ⟨tb_c1 116 rfl rfl, (fun _ h9 => by cases h9)⟩)
set_option maxRecDepth 20000 in
theorem hin_X4 : ∀ w ∈ u_ws RX4 TX4 4, w ∈ TBL := by
  have e : u_ws RX4 TX4 4 = [.laysFinal RX4 "TillPairs$Odds" "home" "LTillPairs$House;", .laysFinal RX4 "TillPairs$Odds" "mind" "LTillPairs$Judge;", .lays RX4 "TillPairs$Odds" "above" "J", .lays RX4 "TillPairs$Odds" "below" "J"] := rfl
  rw [e]
  exact (List.forall_mem_cons.mpr ⟨tb_c1 131 rfl rfl, (List.forall_mem_cons.mpr ⟨tb_c1 133 rfl rfl, (List.forall_mem_cons.mpr ⟨tb_c1 135 rfl rfl, (List.forall_mem_cons.mpr ⟨tb_c1 137 rfl rfl, (fun _ h9 => by cases h9)⟩)⟩)⟩)⟩)
set_option maxRecDepth 20000 in
theorem hin_X5 : ∀ w ∈ u_ws RX5 TX5 5, w ∈ TBL := by
  have e : u_ws RX5 TX5 5 = [.laysFinal RX5 "TillPairs$Plans" "kinds" "[I", .laysFinal RX5 "TillPairs$Plans" "as" "[I", .laysFinal RX5 "TillPairs$Plans" "seated" "[I", .lays RX5 "TillPairs$Plans" "count" "I", .lays RX5 "TillPairs$Plans" "z" "I"] := rfl
  rw [e]
  exact (List.forall_mem_cons.mpr ⟨tb_c1 187 rfl rfl, (List.forall_mem_cons.mpr ⟨tb_c1 189 rfl rfl, (List.forall_mem_cons.mpr ⟨tb_c1 191 rfl rfl, (List.forall_mem_cons.mpr ⟨tb_c1 193 rfl rfl, (List.forall_mem_cons.mpr ⟨tb_c1 195 rfl rfl, (fun _ h9 => by cases h9)⟩)⟩)⟩)⟩)⟩)
set_option maxRecDepth 20000 in
theorem hin_X6 : ∀ w ∈ u_ws RX6 TX6 4, w ∈ TBL := by
  have e : u_ws RX6 TX6 4 = [.laysFinal RX6 "TillPairs$Rows" "home" "LTillPairs$House;", .laysFinal RX6 "TillPairs$Rows" "mind" "LTillPairs$Judge;", .laysFinal RX6 "TillPairs$Rows" "cells" "[I", .lays RX6 "TillPairs$Rows" "count" "I"] := rfl
  rw [e]
  exact (List.forall_mem_cons.mpr ⟨tb_c1 210 rfl rfl, (List.forall_mem_cons.mpr ⟨tb_c1 212 rfl rfl, (List.forall_mem_cons.mpr ⟨tb_c1 214 rfl rfl, (List.forall_mem_cons.mpr ⟨tb_c1 216 rfl rfl, (fun _ h9 => by cases h9)⟩)⟩)⟩)⟩)
set_option maxRecDepth 20000 in
theorem hin_X7 : ∀ w ∈ u_ws RX7 TX7 5, w ∈ TBL := by
  have e : u_ws RX7 TX7 5 = [.laysFinal RX7 "TillPairs$Tape" "bytes" "[I", .laysFinal RX7 "TillPairs$Tape" "draft" "LTillPairs$House;", .lays RX7 "TillPairs$Tape" "length" "I", .lays RX7 "TillPairs$Tape" "at" "I", .lays RX7 "TillPairs$Tape" "fault" "I"] := rfl
  rw [e]
  exact (List.forall_mem_cons.mpr ⟨tb_c1 98 rfl rfl, (List.forall_mem_cons.mpr ⟨tb_c1 100 rfl rfl, (List.forall_mem_cons.mpr ⟨tb_c1 102 rfl rfl, (List.forall_mem_cons.mpr ⟨tb_c1 104 rfl rfl, (List.forall_mem_cons.mpr ⟨tb_c1 106 rfl rfl, (fun _ h9 => by cases h9)⟩)⟩)⟩)⟩)⟩)
set_option maxRecDepth 20000 in
theorem hin_X8 : ∀ w ∈ u_ws RX8 TX8 7, w ∈ TBL := by
  have e : u_ws RX8 TX8 7 = [.laysFinal RX8 "TillPairs$Ways" "home" "LTillPairs$House;", .laysFinal RX8 "TillPairs$Ways" "mind" "LTillPairs$Judge;", .laysFinal RX8 "TillPairs$Ways" "trusts" "[I", .laysFinal RX8 "TillPairs$Ways" "bounds" "[[I", .laysFinal RX8 "TillPairs$Ways" "chosen" "[I", .lays RX8 "TillPairs$Ways" "changes" "I", .lays RX8 "TillPairs$Ways" "digits" "I"] := rfl
  rw [e]
  exact (List.forall_mem_cons.mpr ⟨tb_c1 157 rfl rfl, (List.forall_mem_cons.mpr ⟨tb_c1 159 rfl rfl, (List.forall_mem_cons.mpr ⟨tb_c1 161 rfl rfl, (List.forall_mem_cons.mpr ⟨tb_c1 163 rfl rfl, (List.forall_mem_cons.mpr ⟨tb_c1 165 rfl rfl, (List.forall_mem_cons.mpr ⟨tb_c1 167 rfl rfl, (List.forall_mem_cons.mpr ⟨tb_c1 169 rfl rfl, (fun _ h9 => by cases h9)⟩)⟩)⟩)⟩)⟩)⟩)⟩)
set_option maxRecDepth 20000 in
theorem hin_X9 : ∀ w ∈ u_ws RX9 TX9 12, w ∈ TBL := by
  have e : u_ws RX9 TX9 12 = [.laysFinal RX9 "TillPairs" "home" "LTillPairs$House;", .laysFinal RX9 "TillPairs" "tape" "LTillPairs$Tape;", .laysFinal RX9 "TillPairs" "mind" "LTillPairs$Judge;", .laysFinal RX9 "TillPairs" "odds" "LTillPairs$Odds;", .laysFinal RX9 "TillPairs" "ways" "LTillPairs$Ways;", .laysFinal RX9 "TillPairs" "plans" "LTillPairs$Plans;", .laysFinal RX9 "TillPairs" "rows" "LTillPairs$Rows;", .laysFinal RX9 "TillPairs" "acts" "LTillPairs$Acts;", .laysFinal RX9 "TillPairs" "host" "LTillPairs$Host;", .laysFinal RX9 "TillPairs" "keptHome" "LTillPairs$House;", .laysFinal RX9 "TillPairs" "keptPlans" "LTillPairs$Plans;", .lays RX9 "TillPairs" "kept" "Z"] := rfl
  rw [e]
  exact (List.forall_mem_cons.mpr ⟨tb_c2 50 rfl rfl, (List.forall_mem_cons.mpr ⟨tb_c2 52 rfl rfl, (List.forall_mem_cons.mpr ⟨tb_c2 54 rfl rfl, (List.forall_mem_cons.mpr ⟨tb_c2 56 rfl rfl, (List.forall_mem_cons.mpr ⟨tb_c2 58 rfl rfl, (List.forall_mem_cons.mpr ⟨tb_c2 60 rfl rfl, (List.forall_mem_cons.mpr ⟨tb_c2 62 rfl rfl, (List.forall_mem_cons.mpr ⟨tb_c2 64 rfl rfl, (List.forall_mem_cons.mpr ⟨tb_c2 66 rfl rfl, (List.forall_mem_cons.mpr ⟨tb_c2 68 rfl rfl, (List.forall_mem_cons.mpr ⟨tb_c2 70 rfl rfl, (List.forall_mem_cons.mpr ⟨tb_c2 72 rfl rfl, (fun _ h9 => by cases h9)⟩)⟩)⟩)⟩)⟩)⟩)⟩)⟩)⟩)⟩)⟩)⟩)
set_option maxRecDepth 20000 in
theorem hin_X10 : ∀ w ∈ u_ws RX10 TX10 51, w ∈ TBL := by
  have e : u_ws RX10 TX10 51 = [.lays RX10 "TillPairsModel" "people" "I", .laysFinal RX10 "TillPairsModel" "kin" "[I", .laysFinal RX10 "TillPairsModel" "away" "[I", .laysFinal RX10 "TillPairsModel" "first" "[I", .laysFinal RX10 "TillPairsModel" "posts" "[I", .lays RX10 "TillPairsModel" "surprises" "I", .laysFinal RX10 "TillPairsModel" "losses" "[I", .laysFinal RX10 "TillPairsModel" "laws" "[I", .laysFinal RX10 "TillPairsModel" "mostOf" "[I", .lays RX10 "TillPairsModel" "plans" "I", .laysFinal RX10 "TillPairsModel" "plan" "[I", .lays RX10 "TillPairsModel" "z" "I", .laysFinal RX10 "TillPairsModel" "tape" "[I", .lays RX10 "TillPairsModel" "tapeMany" "I", .lays RX10 "TillPairsModel" "sort" "I", .lays RX10 "TillPairsModel" "begins" "I", .lays RX10 "TillPairsModel" "tokenEnds" "I", .lays RX10 "TillPairsModel" "word" "J", .lays RX10 "TillPairsModel" "value" "I", .lays RX10 "TillPairsModel" "good" "Z", .lays RX10 "TillPairsModel" "freshPeople" "I", .laysFinal RX10 "TillPairsModel" "freshKin" "[I", .laysFinal RX10 "TillPairsModel" "freshAway" "[I", .laysFinal RX10 "TillPairsModel" "freshFirst" "[I", .laysFinal RX10 "TillPairsModel" "freshLaws" "[I", .lays RX10 "TillPairsModel" "above" "J", .lays RX10 "TillPairsModel" "below" "J", .laysFinal RX10 "TillPairsModel" "had" "[I", .laysFinal RX10 "TillPairsModel" "bestWay" "[I", .laysFinal RX10 "TillPairsModel" "place" "[I", .laysFinal RX10 "TillPairsModel" "often" "[J", .laysFinal RX10 "TillPairsModel" "way" "[I", .laysFinal RX10 "TillPairsModel" "rows" "[I", .laysFinal RX10 "TillPairsModel" "must" "[I", .lays RX10 "TillPairsModel" "rowMany" "I", .laysFinal RX10 "TillPairsModel" "sorts" "[I", .laysFinal RX10 "TillPairsModel" "sizes" "[I", .laysFinal RX10 "TillPairsModel" "sheets" "[J", .laysFinal RX10 "TillPairsModel" "held" "[I", .laysFinal RX10 "TillPairsModel" "heldNumber" "[I", .laysFinal RX10 "TillPairsModel" "heldSize" "[I", .lays RX10 "TillPairsModel" "kind" "I", .lays RX10 "TillPairsModel" "number" "I", .lays RX10 "TillPairsModel" "own" "I", .laysFinal RX10 "TillPairsModel" "traced" "[I", .lays RX10 "TillPairsModel" "bodies" "I", .lays RX10 "TillPairsModel" "isParted" "Z", .lays RX10 "TillPairsModel" "isKept" "Z", .laysFinal RX10 "TillPairsModel" "kept" "[I", .lays RX10 "TillPairsModel" "movedTo" "I", .laysFinal RX10 "TillPairsModel" "single" "[I"] := rfl
  rw [e]
  exact (List.forall_mem_cons.mpr ⟨tb_c5 130 rfl rfl, (List.forall_mem_cons.mpr ⟨tb_c5 132 rfl rfl, (List.forall_mem_cons.mpr ⟨tb_c5 134 rfl rfl, (List.forall_mem_cons.mpr ⟨tb_c5 136 rfl rfl, (List.forall_mem_cons.mpr ⟨tb_c5 138 rfl rfl, (List.forall_mem_cons.mpr ⟨tb_c5 140 rfl rfl, (List.forall_mem_cons.mpr ⟨tb_c5 142 rfl rfl, (List.forall_mem_cons.mpr ⟨tb_c5 144 rfl rfl, (List.forall_mem_cons.mpr ⟨tb_c5 146 rfl rfl, (List.forall_mem_cons.mpr ⟨tb_c5 148 rfl rfl, (List.forall_mem_cons.mpr ⟨tb_c5 150 rfl rfl, (List.forall_mem_cons.mpr ⟨tb_c5 152 rfl rfl, (List.forall_mem_cons.mpr ⟨tb_c5 154 rfl rfl, (List.forall_mem_cons.mpr ⟨tb_c5 156 rfl rfl, (List.forall_mem_cons.mpr ⟨tb_c5 158 rfl rfl, (List.forall_mem_cons.mpr ⟨tb_c5 160 rfl rfl, (List.forall_mem_cons.mpr ⟨tb_c5 162 rfl rfl, (List.forall_mem_cons.mpr ⟨tb_c5 164 rfl rfl, (List.forall_mem_cons.mpr ⟨tb_c5 166 rfl rfl, (List.forall_mem_cons.mpr ⟨tb_c5 168 rfl rfl, (List.forall_mem_cons.mpr ⟨tb_c5 170 rfl rfl, (List.forall_mem_cons.mpr ⟨tb_c5 172 rfl rfl, (List.forall_mem_cons.mpr ⟨tb_c5 174 rfl rfl, (List.forall_mem_cons.mpr ⟨tb_c5 176 rfl rfl, (List.forall_mem_cons.mpr ⟨tb_c5 178 rfl rfl, (List.forall_mem_cons.mpr ⟨tb_c5 180 rfl rfl, (List.forall_mem_cons.mpr ⟨tb_c5 182 rfl rfl, (List.forall_mem_cons.mpr ⟨tb_c5 184 rfl rfl, (List.forall_mem_cons.mpr ⟨tb_c5 186 rfl rfl, (List.forall_mem_cons.mpr ⟨tb_c5 188 rfl rfl, (List.forall_mem_cons.mpr ⟨tb_c5 190 rfl rfl, (List.forall_mem_cons.mpr ⟨tb_c5 192 rfl rfl, (List.forall_mem_cons.mpr ⟨tb_c5 194 rfl rfl, (List.forall_mem_cons.mpr ⟨tb_c5 196 rfl rfl, (List.forall_mem_cons.mpr ⟨tb_c5 198 rfl rfl, (List.forall_mem_cons.mpr ⟨tb_c5 200 rfl rfl, (List.forall_mem_cons.mpr ⟨tb_c5 202 rfl rfl, (List.forall_mem_cons.mpr ⟨tb_c5 204 rfl rfl, (List.forall_mem_cons.mpr ⟨tb_c5 206 rfl rfl, (List.forall_mem_cons.mpr ⟨tb_c5 208 rfl rfl, (List.forall_mem_cons.mpr ⟨tb_c5 210 rfl rfl, (List.forall_mem_cons.mpr ⟨tb_c5 212 rfl rfl, (List.forall_mem_cons.mpr ⟨tb_c5 214 rfl rfl, (List.forall_mem_cons.mpr ⟨tb_c5 216 rfl rfl, (List.forall_mem_cons.mpr ⟨tb_c5 218 rfl rfl, (List.forall_mem_cons.mpr ⟨tb_c5 220 rfl rfl, (List.forall_mem_cons.mpr ⟨tb_c5 222 rfl rfl, (List.forall_mem_cons.mpr ⟨tb_c5 224 rfl rfl, (List.forall_mem_cons.mpr ⟨tb_c5 226 rfl rfl, (List.forall_mem_cons.mpr ⟨tb_c5 228 rfl rfl, (List.forall_mem_cons.mpr ⟨tb_c5 230 rfl rfl, (fun _ h9 => by cases h9)⟩)⟩)⟩)⟩)⟩)⟩)⟩)⟩)⟩)⟩)⟩)⟩)⟩)⟩)⟩)⟩)⟩)⟩)⟩)⟩)⟩)⟩)⟩)⟩)⟩)⟩)⟩)⟩)⟩)⟩)⟩)⟩)⟩)⟩)⟩)⟩)⟩)⟩)⟩)⟩)⟩)⟩)⟩)⟩)⟩)⟩)⟩)⟩)⟩)⟩)⟩)
set_option maxRecDepth 20000 in
theorem me_J0_charAt_5068e : MEW yJ0_charAt_5068e cJ0_charAt_5068e 2 (some .char) 1 := ⟨tb_c2 139 rfl rfl, tb_c1 14 rfl rfl, by decide +kernel⟩
set_option maxRecDepth 20000 in
theorem mi_J0_charAt_5068e : Cond.instanceMethod yJ0_charAt_5068e ∈ TBL := tb_c2 137 rfl rfl
set_option maxRecDepth 20000 in
theorem mz_J0_charAt_5068e : Cond.selects RJ0 yJ0_charAt_5068e yJ0_charAt_5068e ∈ TBL := tb_c2 138 rfl rfl
set_option maxRecDepth 20000 in
theorem me_J0_length_8abf5 : MEW yJ0_length_8abf5 cJ0_length_8abf5 1 (some .int) 0 := ⟨tb_c2 129 rfl rfl, tb_c1 14 rfl rfl, by decide +kernel⟩
set_option maxRecDepth 20000 in
theorem mi_J0_length_8abf5 : Cond.instanceMethod yJ0_length_8abf5 ∈ TBL := tb_c2 127 rfl rfl
set_option maxRecDepth 20000 in
theorem mz_J0_length_8abf5 : Cond.selects RJ0 yJ0_length_8abf5 yJ0_length_8abf5 ∈ TBL := tb_c2 128 rfl rfl
set_option maxRecDepth 20000 in
theorem me_J6_bitCount_0f7a4 : MEW yJ6_bitCount_0f7a4 cJ6_bitCount_0f7a4 1 (some .int) 1 := ⟨tb_c4 57 rfl rfl, tb_c1 19 rfl rfl, by decide +kernel⟩
set_option maxRecDepth 20000 in
theorem ms_J6_bitCount_0f7a4 : Cond.static yJ6_bitCount_0f7a4 ∈ TBL := tb_c4 56 rfl rfl
set_option maxRecDepth 20000 in
theorem me_J7_fill_53178 : MEW yJ7_fill_53178 cJ7_fill_53178 4 none 2 := ⟨tb_c1 41 rfl rfl, tb_c1 4 rfl rfl, by decide +kernel⟩
set_option maxRecDepth 20000 in
theorem ms_J7_fill_53178 : Cond.static yJ7_fill_53178 ∈ TBL := tb_c1 40 rfl rfl
set_option maxRecDepth 20000 in
theorem me_X0_bodyOf : MEW yX0_bodyOf cX0_bodyOf 4 (some .int) 2 := ⟨tb_c5 31 rfl rfl, tb_c1 11 rfl rfl, by decide +kernel⟩
set_option maxRecDepth 20000 in
theorem ms_X0_bodyOf : Cond.static yX0_bodyOf ∈ TBL := tb_c5 30 rfl rfl
set_option maxRecDepth 20000 in
theorem me_X0_forget : MEW yX0_forget cX0_forget 1 none 0 := ⟨tb_c5 24 rfl rfl, tb_c1 11 rfl rfl, by decide +kernel⟩
set_option maxRecDepth 20000 in
theorem mi_X0_forget : Cond.instanceMethod yX0_forget ∈ TBL := tb_c5 22 rfl rfl
set_option maxRecDepth 20000 in
theorem mz_X0_forget : Cond.selects RX0 yX0_forget yX0_forget ∈ TBL := tb_c5 23 rfl rfl
set_option maxRecDepth 20000 in
theorem me_X0_isUnder : MEW yX0_isUnder cX0_isUnder 4 (some .boolean) 2 := ⟨tb_c5 14 rfl rfl, tb_c1 11 rfl rfl, by decide +kernel⟩
set_option maxRecDepth 20000 in
theorem ms_X0_isUnder : Cond.static yX0_isUnder ∈ TBL := tb_c5 13 rfl rfl
set_option maxRecDepth 20000 in
theorem me_X0_note : MEW yX0_note cX0_note 2 none 1 := ⟨tb_c5 40 rfl rfl, tb_c1 11 rfl rfl, by decide +kernel⟩
set_option maxRecDepth 20000 in
theorem mi_X0_note : Cond.instanceMethod yX0_note ∈ TBL := tb_c5 39 rfl rfl
set_option maxRecDepth 20000 in
theorem mz_X0_note : Cond.selects RX0 yX0_note yX0_note ∈ TBL := tb_of 33 rfl rfl
set_option maxRecDepth 20000 in
theorem me_X0_perform : MEW yX0_perform cX0_perform 7 (some .int) 5 := ⟨tb_c5 28 rfl rfl, tb_c1 11 rfl rfl, by decide +kernel⟩
set_option maxRecDepth 20000 in
theorem mi_X0_perform : Cond.instanceMethod yX0_perform ∈ TBL := tb_c5 26 rfl rfl
set_option maxRecDepth 20000 in
theorem mz_X0_perform : Cond.selects RX0 yX0_perform yX0_perform ∈ TBL := tb_c5 27 rfl rfl
set_option maxRecDepth 20000 in
theorem me_X0_run : MEW yX0_run cX0_run 5 (some .int) 4 := ⟨tb_c5 36 rfl rfl, tb_c1 11 rfl rfl, by decide +kernel⟩
set_option maxRecDepth 20000 in
theorem ms_X0_run : Cond.static yX0_run ∈ TBL := tb_c5 35 rfl rfl
set_option maxRecDepth 20000 in
theorem me_X0_share : MEW yX0_share cX0_share 3 (some .int) 1 := ⟨tb_c5 44 rfl rfl, tb_c1 11 rfl rfl, by decide +kernel⟩
set_option maxRecDepth 20000 in
theorem mi_X0_share : Cond.instanceMethod yX0_share ∈ TBL := tb_c5 43 rfl rfl
set_option maxRecDepth 20000 in
theorem mz_X0_share : Cond.selects RX0 yX0_share yX0_share ∈ TBL := tb_of 34 rfl rfl
set_option maxRecDepth 20000 in
theorem me_X10_act : MEW yX10_act cX10_act 6 (some .int) 3 := ⟨tb_c7 136 rfl rfl, tb_c1 13 rfl rfl, by decide +kernel⟩
set_option maxRecDepth 20000 in
theorem mi_X10_act : Cond.instanceMethod yX10_act ∈ TBL := tb_c7 134 rfl rfl
set_option maxRecDepth 20000 in
theorem mz_X10_act : Cond.selects RX10 yX10_act yX10_act ∈ TBL := tb_c7 135 rfl rfl
set_option maxRecDepth 20000 in
theorem me_X10_advance : MEW yX10_advance cX10_advance 2 none 0 := ⟨tb_c6 9 rfl rfl, tb_c1 13 rfl rfl, by decide +kernel⟩
set_option maxRecDepth 20000 in
theorem mi_X10_advance : Cond.instanceMethod yX10_advance ∈ TBL := tb_c6 8 rfl rfl
set_option maxRecDepth 20000 in
theorem mz_X10_advance : Cond.selects RX10 yX10_advance yX10_advance ∈ TBL := tb_of 35 rfl rfl
set_option maxRecDepth 20000 in
theorem me_X10_again : MEW yX10_again cX10_again 1 (some .int) 0 := ⟨tb_c7 200 rfl rfl, tb_c1 13 rfl rfl, by decide +kernel⟩
set_option maxRecDepth 20000 in
theorem mi_X10_again : Cond.instanceMethod yX10_again ∈ TBL := tb_c7 198 rfl rfl
set_option maxRecDepth 20000 in
theorem mz_X10_again : Cond.selects RX10 yX10_again yX10_again ∈ TBL := tb_c7 199 rfl rfl
set_option maxRecDepth 20000 in
theorem me_X10_ahead : MEW yX10_ahead cX10_ahead 5 (some .int) 2 := ⟨tb_c6 235 rfl rfl, tb_c1 13 rfl rfl, by decide +kernel⟩
set_option maxRecDepth 20000 in
theorem mi_X10_ahead : Cond.instanceMethod yX10_ahead ∈ TBL := tb_c6 233 rfl rfl
set_option maxRecDepth 20000 in
theorem mz_X10_ahead : Cond.selects RX10 yX10_ahead yX10_ahead ∈ TBL := tb_c6 234 rfl rfl
set_option maxRecDepth 20000 in
theorem me_X10_alterRow : MEW yX10_alterRow cX10_alterRow 5 (some .int) 3 := ⟨tb_c7 86 rfl rfl, tb_c1 13 rfl rfl, by decide +kernel⟩
set_option maxRecDepth 20000 in
theorem mi_X10_alterRow : Cond.instanceMethod yX10_alterRow ∈ TBL := tb_c7 84 rfl rfl
set_option maxRecDepth 20000 in
theorem mz_X10_alterRow : Cond.selects RX10 yX10_alterRow yX10_alterRow ∈ TBL := tb_c7 85 rfl rfl
set_option maxRecDepth 20000 in
theorem me_X10_areKin : MEW yX10_areKin cX10_areKin 3 (some .boolean) 2 := ⟨tb_c6 92 rfl rfl, tb_c1 13 rfl rfl, by decide +kernel⟩
set_option maxRecDepth 20000 in
theorem mi_X10_areKin : Cond.instanceMethod yX10_areKin ∈ TBL := tb_c6 91 rfl rfl
set_option maxRecDepth 20000 in
theorem mz_X10_areKin : Cond.selects RX10 yX10_areKin yX10_areKin ∈ TBL := tb_of 48 rfl rfl
set_option maxRecDepth 20000 in
theorem me_X10_areTwo : MEW yX10_areTwo cX10_areTwo 3 (some .boolean) 2 := ⟨tb_c6 84 rfl rfl, tb_c1 13 rfl rfl, by decide +kernel⟩
set_option maxRecDepth 20000 in
theorem mi_X10_areTwo : Cond.instanceMethod yX10_areTwo ∈ TBL := tb_c6 83 rfl rfl
set_option maxRecDepth 20000 in
theorem mz_X10_areTwo : Cond.selects RX10 yX10_areTwo yX10_areTwo ∈ TBL := tb_of 46 rfl rfl
set_option maxRecDepth 20000 in
theorem me_X10_away : MEW yX10_away cX10_away 4 (some .int) 3 := ⟨tb_c6 100 rfl rfl, tb_c1 13 rfl rfl, by decide +kernel⟩
set_option maxRecDepth 20000 in
theorem mi_X10_away : Cond.instanceMethod yX10_away ∈ TBL := tb_c6 98 rfl rfl
set_option maxRecDepth 20000 in
theorem mz_X10_away : Cond.selects RX10 yX10_away yX10_away ∈ TBL := tb_c6 99 rfl rfl
set_option maxRecDepth 20000 in
theorem me_X10_best : MEW yX10_best cX10_best 12 (some .long) 3 := ⟨tb_c6 191 rfl rfl, tb_c1 13 rfl rfl, by decide +kernel⟩
set_option maxRecDepth 20000 in
theorem mi_X10_best : Cond.instanceMethod yX10_best ∈ TBL := tb_c6 189 rfl rfl
set_option maxRecDepth 20000 in
theorem mz_X10_best : Cond.selects RX10 yX10_best yX10_best ∈ TBL := tb_c6 190 rfl rfl
set_option maxRecDepth 20000 in
theorem me_X10_broken : MEW yX10_broken cX10_broken 2 (some .int) 1 := ⟨tb_c6 211 rfl rfl, tb_c1 13 rfl rfl, by decide +kernel⟩
set_option maxRecDepth 20000 in
theorem mi_X10_broken : Cond.instanceMethod yX10_broken ∈ TBL := tb_c6 209 rfl rfl
set_option maxRecDepth 20000 in
theorem mz_X10_broken : Cond.selects RX10 yX10_broken yX10_broken ∈ TBL := tb_c6 210 rfl rfl
set_option maxRecDepth 20000 in
theorem me_X10_brokenOn : MEW yX10_brokenOn cX10_brokenOn 6 (some .int) 1 := ⟨tb_c6 215 rfl rfl, tb_c1 13 rfl rfl, by decide +kernel⟩
set_option maxRecDepth 20000 in
theorem mi_X10_brokenOn : Cond.instanceMethod yX10_brokenOn ∈ TBL := tb_c6 214 rfl rfl
set_option maxRecDepth 20000 in
theorem mz_X10_brokenOn : Cond.selects RX10 yX10_brokenOn yX10_brokenOn ∈ TBL := tb_of 58 rfl rfl
set_option maxRecDepth 20000 in
theorem me_X10_byteAt : MEW yX10_byteAt cX10_byteAt 2 (some .int) 1 := ⟨tb_c6 13 rfl rfl, tb_c1 13 rfl rfl, by decide +kernel⟩
set_option maxRecDepth 20000 in
theorem mi_X10_byteAt : Cond.instanceMethod yX10_byteAt ∈ TBL := tb_c6 12 rfl rfl
set_option maxRecDepth 20000 in
theorem mz_X10_byteAt : Cond.selects RX10 yX10_byteAt yX10_byteAt ∈ TBL := tb_of 36 rfl rfl
set_option maxRecDepth 20000 in
theorem me_X10_comes : MEW yX10_comes cX10_comes 6 (some .boolean) 2 := ⟨tb_c6 227 rfl rfl, tb_c1 13 rfl rfl, by decide +kernel⟩
set_option maxRecDepth 20000 in
theorem mi_X10_comes : Cond.instanceMethod yX10_comes ∈ TBL := tb_c6 226 rfl rfl
set_option maxRecDepth 20000 in
theorem mz_X10_comes : Cond.selects RX10 yX10_comes yX10_comes ∈ TBL := tb_of 60 rfl rfl
set_option maxRecDepth 20000 in
theorem me_X10_countsIt : MEW yX10_countsIt cX10_countsIt 3 (some .int) 1 := ⟨tb_c7 152 rfl rfl, tb_c1 13 rfl rfl, by decide +kernel⟩
set_option maxRecDepth 20000 in
theorem mi_X10_countsIt : Cond.instanceMethod yX10_countsIt ∈ TBL := tb_c7 151 rfl rfl
set_option maxRecDepth 20000 in
theorem mz_X10_countsIt : Cond.selects RX10 yX10_countsIt yX10_countsIt ∈ TBL := tb_of 79 rfl rfl
set_option maxRecDepth 20000 in
theorem me_X10_days : MEW yX10_days cX10_days 7 (some .int) 2 := ⟨tb_c7 94 rfl rfl, tb_c1 13 rfl rfl, by decide +kernel⟩
set_option maxRecDepth 20000 in
theorem mi_X10_days : Cond.instanceMethod yX10_days ∈ TBL := tb_c7 92 rfl rfl
set_option maxRecDepth 20000 in
theorem mz_X10_days : Cond.selects RX10 yX10_days yX10_days ∈ TBL := tb_c7 93 rfl rfl
set_option maxRecDepth 20000 in
theorem me_X10_enough : MEW yX10_enough cX10_enough 4 (some .int) 0 := ⟨tb_c6 203 rfl rfl, tb_c1 13 rfl rfl, by decide +kernel⟩
set_option maxRecDepth 20000 in
theorem mi_X10_enough : Cond.instanceMethod yX10_enough ∈ TBL := tb_c6 201 rfl rfl
set_option maxRecDepth 20000 in
theorem mz_X10_enough : Cond.selects RX10 yX10_enough yX10_enough ∈ TBL := tb_c6 202 rfl rfl
set_option maxRecDepth 20000 in
theorem me_X10_feed : MEW yX10_feed cX10_feed 5 (some .int) 2 := ⟨tb_c5 237 rfl rfl, tb_c1 13 rfl rfl, by decide +kernel⟩
set_option maxRecDepth 20000 in
theorem mi_X10_feed : Cond.instanceMethod yX10_feed ∈ TBL := tb_c5 235 rfl rfl
set_option maxRecDepth 20000 in
theorem mz_X10_feed : Cond.selects RX10 yX10_feed yX10_feed ∈ TBL := tb_c5 236 rfl rfl
set_option maxRecDepth 20000 in
theorem me_X10_fill : MEW yX10_fill cX10_fill 8 (some .int) 2 := ⟨tb_c7 38 rfl rfl, tb_c1 13 rfl rfl, by decide +kernel⟩
set_option maxRecDepth 20000 in
theorem mi_X10_fill : Cond.instanceMethod yX10_fill ∈ TBL := tb_c7 36 rfl rfl
set_option maxRecDepth 20000 in
theorem mz_X10_fill : Cond.selects RX10 yX10_fill yX10_fill ∈ TBL := tb_c7 37 rfl rfl
set_option maxRecDepth 20000 in
theorem me_X10_fillsCount : MEW yX10_fillsCount cX10_fillsCount 3 none 1 := ⟨tb_c7 62 rfl rfl, tb_c1 13 rfl rfl, by decide +kernel⟩
set_option maxRecDepth 20000 in
theorem mi_X10_fillsCount : Cond.instanceMethod yX10_fillsCount ∈ TBL := tb_c7 61 rfl rfl
set_option maxRecDepth 20000 in
theorem mz_X10_fillsCount : Cond.selects RX10 yX10_fillsCount yX10_fillsCount ∈ TBL := tb_of 70 rfl rfl
set_option maxRecDepth 20000 in
theorem me_X10_fillsDraw : MEW yX10_fillsDraw cX10_fillsDraw 6 none 1 := ⟨tb_c7 57 rfl rfl, tb_c1 13 rfl rfl, by decide +kernel⟩
set_option maxRecDepth 20000 in
theorem mi_X10_fillsDraw : Cond.instanceMethod yX10_fillsDraw ∈ TBL := tb_c7 56 rfl rfl
set_option maxRecDepth 20000 in
theorem mz_X10_fillsDraw : Cond.selects RX10 yX10_fillsDraw yX10_fillsDraw ∈ TBL := tb_of 69 rfl rfl
set_option maxRecDepth 20000 in
theorem me_X10_fillsTold : MEW yX10_fillsTold cX10_fillsTold 4 (some .boolean) 1 := ⟨tb_c7 42 rfl rfl, tb_c1 13 rfl rfl, by decide +kernel⟩
set_option maxRecDepth 20000 in
theorem mi_X10_fillsTold : Cond.instanceMethod yX10_fillsTold ∈ TBL := tb_c7 41 rfl rfl
set_option maxRecDepth 20000 in
theorem mz_X10_fillsTold : Cond.selects RX10 yX10_fillsTold yX10_fillsTold ∈ TBL := tb_of 66 rfl rfl
set_option maxRecDepth 20000 in
theorem me_X10_fillsTurn : MEW yX10_fillsTurn cX10_fillsTurn 11 none 2 := ⟨tb_c7 46 rfl rfl, tb_c1 13 rfl rfl, by decide +kernel⟩
set_option maxRecDepth 20000 in
theorem mi_X10_fillsTurn : Cond.instanceMethod yX10_fillsTurn ∈ TBL := tb_c7 45 rfl rfl
set_option maxRecDepth 20000 in
theorem mz_X10_fillsTurn : Cond.selects RX10 yX10_fillsTurn yX10_fillsTurn ∈ TBL := tb_of 67 rfl rfl
set_option maxRecDepth 20000 in
theorem me_X10_findRows : MEW yX10_findRows cX10_findRows 2 none 0 := ⟨tb_c7 74 rfl rfl, tb_c1 13 rfl rfl, by decide +kernel⟩
set_option maxRecDepth 20000 in
theorem mi_X10_findRows : Cond.instanceMethod yX10_findRows ∈ TBL := tb_c7 73 rfl rfl
set_option maxRecDepth 20000 in
theorem mz_X10_findRows : Cond.selects RX10 yX10_findRows yX10_findRows ∈ TBL := tb_of 71 rfl rfl
set_option maxRecDepth 20000 in
theorem me_X10_givesPosts : MEW yX10_givesPosts cX10_givesPosts 4 none 2 := ⟨tb_c6 231 rfl rfl, tb_c1 13 rfl rfl, by decide +kernel⟩
set_option maxRecDepth 20000 in
theorem mi_X10_givesPosts : Cond.instanceMethod yX10_givesPosts ∈ TBL := tb_c6 230 rfl rfl
set_option maxRecDepth 20000 in
theorem mz_X10_givesPosts : Cond.selects RX10 yX10_givesPosts yX10_givesPosts ∈ TBL := tb_of 61 rfl rfl
set_option maxRecDepth 20000 in
theorem me_X10_house : MEW yX10_house cX10_house 2 (some .int) 0 := ⟨tb_c6 5 rfl rfl, tb_c1 13 rfl rfl, by decide +kernel⟩
set_option maxRecDepth 20000 in
theorem mi_X10_house : Cond.instanceMethod yX10_house ∈ TBL := tb_c6 3 rfl rfl
set_option maxRecDepth 20000 in
theorem mz_X10_house : Cond.selects RX10 yX10_house yX10_house ∈ TBL := tb_c6 4 rfl rfl
set_option maxRecDepth 20000 in
theorem me_X10_in : MEW yX10_in cX10_in 3 (some .boolean) 3 := ⟨tb_c6 0 rfl rfl, tb_c1 13 rfl rfl, by decide +kernel⟩
set_option maxRecDepth 20000 in
theorem ms_X10_in : Cond.static yX10_in ∈ TBL := tb_c5 239 rfl rfl
set_option maxRecDepth 20000 in
theorem me_X10_init : MEW yX10_init cX10_init 2 none 0 := ⟨tb_c5 77 rfl rfl, tb_c1 13 rfl rfl, by decide +kernel⟩
set_option maxRecDepth 20000 in
theorem mi_X10_init : Cond.instanceMethod yX10_init ∈ TBL := tb_c5 76 rfl rfl
set_option maxRecDepth 20000 in
theorem me_X10_isAway : MEW yX10_isAway cX10_isAway 3 (some .boolean) 2 := ⟨tb_c6 107 rfl rfl, tb_c1 13 rfl rfl, by decide +kernel⟩
set_option maxRecDepth 20000 in
theorem mi_X10_isAway : Cond.instanceMethod yX10_isAway ∈ TBL := tb_c6 106 rfl rfl
set_option maxRecDepth 20000 in
theorem mz_X10_isAway : Cond.selects RX10 yX10_isAway yX10_isAway ∈ TBL := tb_of 49 rfl rfl
set_option maxRecDepth 20000 in
theorem me_X10_isDay : MEW yX10_isDay cX10_isDay 1 (some .boolean) 1 := ⟨tb_c6 103 rfl rfl, tb_c1 13 rfl rfl, by decide +kernel⟩
set_option maxRecDepth 20000 in
theorem ms_X10_isDay : Cond.static yX10_isDay ∈ TBL := tb_c6 102 rfl rfl
set_option maxRecDepth 20000 in
theorem me_X10_isDigit : MEW yX10_isDigit cX10_isDigit 1 (some .boolean) 1 := ⟨tb_c6 19 rfl rfl, tb_c1 13 rfl rfl, by decide +kernel⟩
set_option maxRecDepth 20000 in
theorem ms_X10_isDigit : Cond.static yX10_isDigit ∈ TBL := tb_c6 18 rfl rfl
set_option maxRecDepth 20000 in
theorem me_X10_isHeld : MEW yX10_isHeld cX10_isHeld 3 (some .boolean) 2 := ⟨tb_c7 121 rfl rfl, tb_c1 13 rfl rfl, by decide +kernel⟩
set_option maxRecDepth 20000 in
theorem mi_X10_isHeld : Cond.instanceMethod yX10_isHeld ∈ TBL := tb_c7 120 rfl rfl
set_option maxRecDepth 20000 in
theorem mz_X10_isHeld : Cond.selects RX10 yX10_isHeld yX10_isHeld ∈ TBL := tb_of 74 rfl rfl
set_option maxRecDepth 20000 in
theorem me_X10_isLaw : MEW yX10_isLaw cX10_isLaw 1 (some .boolean) 1 := ⟨tb_c6 114 rfl rfl, tb_c1 13 rfl rfl, by decide +kernel⟩
set_option maxRecDepth 20000 in
theorem ms_X10_isLaw : Cond.static yX10_isLaw ∈ TBL := tb_c6 113 rfl rfl
set_option maxRecDepth 20000 in
theorem me_X10_isLetter : MEW yX10_isLetter cX10_isLetter 1 (some .boolean) 1 := ⟨tb_c6 16 rfl rfl, tb_c1 13 rfl rfl, by decide +kernel⟩
set_option maxRecDepth 20000 in
theorem ms_X10_isLetter : Cond.static yX10_isLetter ∈ TBL := tb_c6 15 rfl rfl
set_option maxRecDepth 20000 in
theorem me_X10_isMark : MEW yX10_isMark cX10_isMark 2 (some .boolean) 1 := ⟨tb_c6 39 rfl rfl, tb_c1 13 rfl rfl, by decide +kernel⟩
set_option maxRecDepth 20000 in
theorem mi_X10_isMark : Cond.instanceMethod yX10_isMark ∈ TBL := tb_c6 38 rfl rfl
set_option maxRecDepth 20000 in
theorem mz_X10_isMark : Cond.selects RX10 yX10_isMark yX10_isMark ∈ TBL := tb_of 40 rfl rfl
set_option maxRecDepth 20000 in
theorem me_X10_isNeither : MEW yX10_isNeither cX10_isNeither 5 (some .boolean) 3 := ⟨tb_c6 171 rfl rfl, tb_c1 13 rfl rfl, by decide +kernel⟩
set_option maxRecDepth 20000 in
theorem mi_X10_isNeither : Cond.instanceMethod yX10_isNeither ∈ TBL := tb_c6 170 rfl rfl
set_option maxRecDepth 20000 in
theorem mz_X10_isNeither : Cond.selects RX10 yX10_isNeither yX10_isNeither ∈ TBL := tb_of 54 rfl rfl
set_option maxRecDepth 20000 in
theorem me_X10_isPerson : MEW yX10_isPerson cX10_isPerson 2 (some .boolean) 1 := ⟨tb_c6 88 rfl rfl, tb_c1 13 rfl rfl, by decide +kernel⟩
set_option maxRecDepth 20000 in
theorem mi_X10_isPerson : Cond.instanceMethod yX10_isPerson ∈ TBL := tb_c6 87 rfl rfl
set_option maxRecDepth 20000 in
theorem mz_X10_isPerson : Cond.selects RX10 yX10_isPerson yX10_isPerson ∈ TBL := tb_of 47 rfl rfl
set_option maxRecDepth 20000 in
theorem me_X10_isPlan : MEW yX10_isPlan cX10_isPlan 2 (some .boolean) 1 := ⟨tb_c7 34 rfl rfl, tb_c1 13 rfl rfl, by decide +kernel⟩
set_option maxRecDepth 20000 in
theorem mi_X10_isPlan : Cond.instanceMethod yX10_isPlan ∈ TBL := tb_c7 33 rfl rfl
set_option maxRecDepth 20000 in
theorem mz_X10_isPlan : Cond.selects RX10 yX10_isPlan yX10_isPlan ∈ TBL := tb_of 65 rfl rfl
set_option maxRecDepth 20000 in
theorem me_X10_isPost : MEW yX10_isPost cX10_isPost 1 (some .boolean) 1 := ⟨tb_c6 125 rfl rfl, tb_c1 13 rfl rfl, by decide +kernel⟩
set_option maxRecDepth 20000 in
theorem ms_X10_isPost : Cond.static yX10_isPost ∈ TBL := tb_c6 124 rfl rfl
set_option maxRecDepth 20000 in
theorem me_X10_isRow : MEW yX10_isRow cX10_isRow 3 (some .boolean) 2 := ⟨tb_c7 82 rfl rfl, tb_c1 13 rfl rfl, by decide +kernel⟩
set_option maxRecDepth 20000 in
theorem mi_X10_isRow : Cond.instanceMethod yX10_isRow ∈ TBL := tb_c7 81 rfl rfl
set_option maxRecDepth 20000 in
theorem mz_X10_isRow : Cond.selects RX10 yX10_isRow yX10_isRow ∈ TBL := tb_of 72 rfl rfl
set_option maxRecDepth 20000 in
theorem me_X10_isShelf : MEW yX10_isShelf cX10_isShelf 1 (some .boolean) 1 := ⟨tb_c7 97 rfl rfl, tb_c1 13 rfl rfl, by decide +kernel⟩
set_option maxRecDepth 20000 in
theorem ms_X10_isShelf : Cond.static yX10_isShelf ∈ TBL := tb_c7 96 rfl rfl
set_option maxRecDepth 20000 in
theorem me_X10_isSide : MEW yX10_isSide cX10_isSide 1 (some .boolean) 1 := ⟨tb_c6 194 rfl rfl, tb_c1 13 rfl rfl, by decide +kernel⟩
set_option maxRecDepth 20000 in
theorem ms_X10_isSide : Cond.static yX10_isSide ∈ TBL := tb_c6 193 rfl rfl
set_option maxRecDepth 20000 in
theorem me_X10_isSurprise : MEW yX10_isSurprise cX10_isSurprise 2 (some .boolean) 1 := ⟨tb_c6 163 rfl rfl, tb_c1 13 rfl rfl, by decide +kernel⟩
set_option maxRecDepth 20000 in
theorem mi_X10_isSurprise : Cond.instanceMethod yX10_isSurprise ∈ TBL := tb_c6 162 rfl rfl
set_option maxRecDepth 20000 in
theorem mz_X10_isSurprise : Cond.selects RX10 yX10_isSurprise yX10_isSurprise ∈ TBL := tb_of 52 rfl rfl
set_option maxRecDepth 20000 in
theorem me_X10_isUnder : MEW yX10_isUnder cX10_isUnder 2 (some .boolean) 2 := ⟨tb_c7 132 rfl rfl, tb_c1 13 rfl rfl, by decide +kernel⟩
set_option maxRecDepth 20000 in
theorem ms_X10_isUnder : Cond.static yX10_isUnder ∈ TBL := tb_c7 131 rfl rfl
set_option maxRecDepth 20000 in
theorem me_X10_isWord : MEW yX10_isWord cX10_isWord 3 (some .boolean) 1 := ⟨tb_c6 31 rfl rfl, tb_c1 13 rfl rfl, by decide +kernel⟩
set_option maxRecDepth 20000 in
theorem mi_X10_isWord : Cond.instanceMethod yX10_isWord ∈ TBL := tb_c6 30 rfl rfl
set_option maxRecDepth 20000 in
theorem mz_X10_isWord : Cond.selects RX10 yX10_isWord yX10_isWord ∈ TBL := tb_of 38 rfl rfl
set_option maxRecDepth 20000 in
theorem me_X10_item : MEW yX10_item cX10_item 5 (some .int) 3 := ⟨tb_c7 113 rfl rfl, tb_c1 13 rfl rfl, by decide +kernel⟩
set_option maxRecDepth 20000 in
theorem mi_X10_item : Cond.instanceMethod yX10_item ∈ TBL := tb_c7 111 rfl rfl
set_option maxRecDepth 20000 in
theorem mz_X10_item : Cond.selects RX10 yX10_item yX10_item ∈ TBL := tb_c7 112 rfl rfl
set_option maxRecDepth 20000 in
theorem me_X10_judge : MEW yX10_judge cX10_judge 2 (some .int) 0 := ⟨tb_c7 90 rfl rfl, tb_c1 13 rfl rfl, by decide +kernel⟩
set_option maxRecDepth 20000 in
theorem mi_X10_judge : Cond.instanceMethod yX10_judge ∈ TBL := tb_c7 88 rfl rfl
set_option maxRecDepth 20000 in
theorem mz_X10_judge : Cond.selects RX10 yX10_judge yX10_judge ∈ TBL := tb_c7 89 rfl rfl
set_option maxRecDepth 20000 in
theorem me_X10_keep : MEW yX10_keep cX10_keep 1 (some .int) 0 := ⟨tb_c7 188 rfl rfl, tb_c1 13 rfl rfl, by decide +kernel⟩
set_option maxRecDepth 20000 in
theorem mi_X10_keep : Cond.instanceMethod yX10_keep ∈ TBL := tb_c7 186 rfl rfl
set_option maxRecDepth 20000 in
theorem mz_X10_keep : Cond.selects RX10 yX10_keep yX10_keep ∈ TBL := tb_c7 187 rfl rfl
set_option maxRecDepth 20000 in
theorem me_X10_keepsPosts : MEW yX10_keepsPosts cX10_keepsPosts 4 none 2 := ⟨tb_c6 223 rfl rfl, tb_c1 13 rfl rfl, by decide +kernel⟩
set_option maxRecDepth 20000 in
theorem mi_X10_keepsPosts : Cond.instanceMethod yX10_keepsPosts ∈ TBL := tb_c6 222 rfl rfl
set_option maxRecDepth 20000 in
theorem mz_X10_keepsPosts : Cond.selects RX10 yX10_keepsPosts yX10_keepsPosts ∈ TBL := tb_of 59 rfl rfl
set_option maxRecDepth 20000 in
theorem me_X10_kin : MEW yX10_kin cX10_kin 4 (some .int) 3 := ⟨tb_c6 80 rfl rfl, tb_c1 13 rfl rfl, by decide +kernel⟩
set_option maxRecDepth 20000 in
theorem mi_X10_kin : Cond.instanceMethod yX10_kin ∈ TBL := tb_c6 78 rfl rfl
set_option maxRecDepth 20000 in
theorem mz_X10_kin : Cond.selects RX10 yX10_kin yX10_kin ∈ TBL := tb_c6 79 rfl rfl
set_option maxRecDepth 20000 in
theorem me_X10_kindOn : MEW yX10_kindOn cX10_kindOn 2 (some .int) 1 := ⟨tb_c7 129 rfl rfl, tb_c1 13 rfl rfl, by decide +kernel⟩
set_option maxRecDepth 20000 in
theorem mi_X10_kindOn : Cond.instanceMethod yX10_kindOn ∈ TBL := tb_c7 128 rfl rfl
set_option maxRecDepth 20000 in
theorem mz_X10_kindOn : Cond.selects RX10 yX10_kindOn yX10_kindOn ∈ TBL := tb_of 75 rfl rfl
set_option maxRecDepth 20000 in
theorem me_X10_lacksSort : MEW yX10_lacksSort cX10_lacksSort 3 (some .int) 2 := ⟨tb_c7 101 rfl rfl, tb_c1 13 rfl rfl, by decide +kernel⟩
set_option maxRecDepth 20000 in
theorem mi_X10_lacksSort : Cond.instanceMethod yX10_lacksSort ∈ TBL := tb_c7 100 rfl rfl
set_option maxRecDepth 20000 in
theorem mz_X10_lacksSort : Cond.selects RX10 yX10_lacksSort yX10_lacksSort ∈ TBL := tb_of 73 rfl rfl
set_option maxRecDepth 20000 in
theorem me_X10_lastSat : MEW yX10_lastSat cX10_lastSat 6 (some .int) 3 := ⟨tb_c7 50 rfl rfl, tb_c1 13 rfl rfl, by decide +kernel⟩
set_option maxRecDepth 20000 in
theorem mi_X10_lastSat : Cond.instanceMethod yX10_lastSat ∈ TBL := tb_c7 49 rfl rfl
set_option maxRecDepth 20000 in
theorem mz_X10_lastSat : Cond.selects RX10 yX10_lastSat yX10_lastSat ∈ TBL := tb_of 68 rfl rfl
set_option maxRecDepth 20000 in
theorem me_X10_law : MEW yX10_law cX10_law 2 (some .int) 1 := ⟨tb_c6 118 rfl rfl, tb_c1 13 rfl rfl, by decide +kernel⟩
set_option maxRecDepth 20000 in
theorem mi_X10_law : Cond.instanceMethod yX10_law ∈ TBL := tb_c6 116 rfl rfl
set_option maxRecDepth 20000 in
theorem mz_X10_law : Cond.selects RX10 yX10_law yX10_law ∈ TBL := tb_c6 117 rfl rfl
set_option maxRecDepth 20000 in
theorem me_X10_lawHere : MEW yX10_lawHere cX10_lawHere 1 (some .int) 0 := ⟨tb_c6 64 rfl rfl, tb_c1 13 rfl rfl, by decide +kernel⟩
set_option maxRecDepth 20000 in
theorem mi_X10_lawHere : Cond.instanceMethod yX10_lawHere ∈ TBL := tb_c6 63 rfl rfl
set_option maxRecDepth 20000 in
theorem mz_X10_lawHere : Cond.selects RX10 yX10_lawHere yX10_lawHere ∈ TBL := tb_of 45 rfl rfl
set_option maxRecDepth 20000 in
theorem me_X10_leastOf : MEW yX10_leastOf cX10_leastOf 2 (some .int) 1 := ⟨tb_c7 53 rfl rfl, tb_c1 13 rfl rfl, by decide +kernel⟩
set_option maxRecDepth 20000 in
theorem ms_X10_leastOf : Cond.static yX10_leastOf ∈ TBL := tb_c7 52 rfl rfl
set_option maxRecDepth 20000 in
theorem me_X10_loss : MEW yX10_loss cX10_loss 4 (some .int) 2 := ⟨tb_c6 140 rfl rfl, tb_c1 13 rfl rfl, by decide +kernel⟩
set_option maxRecDepth 20000 in
theorem mi_X10_loss : Cond.instanceMethod yX10_loss ∈ TBL := tb_c6 138 rfl rfl
set_option maxRecDepth 20000 in
theorem mz_X10_loss : Cond.selects RX10 yX10_loss yX10_loss ∈ TBL := tb_c6 139 rfl rfl
set_option maxRecDepth 20000 in
theorem me_X10_lot : MEW yX10_lot cX10_lot 11 (some .long) 3 := ⟨tb_c7 11 rfl rfl, tb_c1 13 rfl rfl, by decide +kernel⟩
set_option maxRecDepth 20000 in
theorem mi_X10_lot : Cond.instanceMethod yX10_lot ∈ TBL := tb_c7 9 rfl rfl
set_option maxRecDepth 20000 in
theorem mz_X10_lot : Cond.selects RX10 yX10_lot yX10_lot ∈ TBL := tb_c7 10 rfl rfl
set_option maxRecDepth 20000 in
theorem me_X10_lowest : MEW yX10_lowest cX10_lowest 11 none 2 := ⟨tb_c6 199 rfl rfl, tb_c1 13 rfl rfl, by decide +kernel⟩
set_option maxRecDepth 20000 in
theorem mi_X10_lowest : Cond.instanceMethod yX10_lowest ∈ TBL := tb_c6 198 rfl rfl
set_option maxRecDepth 20000 in
theorem mz_X10_lowest : Cond.selects RX10 yX10_lowest yX10_lowest ∈ TBL := tb_of 57 rfl rfl
set_option maxRecDepth 20000 in
theorem me_X10_many : MEW yX10_many cX10_many 2 (some .int) 1 := ⟨tb_c7 184 rfl rfl, tb_c1 13 rfl rfl, by decide +kernel⟩
set_option maxRecDepth 20000 in
theorem mi_X10_many : Cond.instanceMethod yX10_many ∈ TBL := tb_c7 182 rfl rfl
set_option maxRecDepth 20000 in
theorem mz_X10_many : Cond.selects RX10 yX10_many yX10_many ∈ TBL := tb_c7 183 rfl rfl
set_option maxRecDepth 20000 in
theorem me_X10_mended : MEW yX10_mended cX10_mended 7 (some .int) 2 := ⟨tb_c6 219 rfl rfl, tb_c1 13 rfl rfl, by decide +kernel⟩
set_option maxRecDepth 20000 in
theorem mi_X10_mended : Cond.instanceMethod yX10_mended ∈ TBL := tb_c6 217 rfl rfl
set_option maxRecDepth 20000 in
theorem mz_X10_mended : Cond.selects RX10 yX10_mended yX10_mended ∈ TBL := tb_c6 218 rfl rfl
set_option maxRecDepth 20000 in
theorem me_X10_move : MEW yX10_move cX10_move 5 none 3 := ⟨tb_c7 196 rfl rfl, tb_c1 13 rfl rfl, by decide +kernel⟩
set_option maxRecDepth 20000 in
theorem mi_X10_move : Cond.instanceMethod yX10_move ∈ TBL := tb_c7 195 rfl rfl
set_option maxRecDepth 20000 in
theorem mz_X10_move : Cond.selects RX10 yX10_move yX10_move ∈ TBL := tb_of 87 rfl rfl
set_option maxRecDepth 20000 in
theorem me_X10_moveAll : MEW yX10_moveAll cX10_moveAll 2 none 1 := ⟨tb_c7 192 rfl rfl, tb_c1 13 rfl rfl, by decide +kernel⟩
set_option maxRecDepth 20000 in
theorem mi_X10_moveAll : Cond.instanceMethod yX10_moveAll ∈ TBL := tb_c7 191 rfl rfl
set_option maxRecDepth 20000 in
theorem mz_X10_moveAll : Cond.selects RX10 yX10_moveAll yX10_moveAll ∈ TBL := tb_of 86 rfl rfl
set_option maxRecDepth 20000 in
theorem me_X10_needed : MEW yX10_needed cX10_needed 3 (some .int) 0 := ⟨tb_c6 207 rfl rfl, tb_c1 13 rfl rfl, by decide +kernel⟩
set_option maxRecDepth 20000 in
theorem mi_X10_needed : Cond.instanceMethod yX10_needed ∈ TBL := tb_c6 205 rfl rfl
set_option maxRecDepth 20000 in
theorem mz_X10_needed : Cond.selects RX10 yX10_needed yX10_needed ∈ TBL := tb_c6 206 rfl rfl
set_option maxRecDepth 20000 in
theorem me_X10_ones : MEW yX10_ones cX10_ones 3 (some .int) 1 := ⟨tb_c7 18 rfl rfl, tb_c1 13 rfl rfl, by decide +kernel⟩
set_option maxRecDepth 20000 in
theorem ms_X10_ones : Cond.static yX10_ones ∈ TBL := tb_c7 17 rfl rfl
set_option maxRecDepth 20000 in
theorem me_X10_orNobody : MEW yX10_orNobody cX10_orNobody 1 (some .int) 1 := ⟨tb_c6 128 rfl rfl, tb_c1 13 rfl rfl, by decide +kernel⟩
set_option maxRecDepth 20000 in
theorem ms_X10_orNobody : Cond.static yX10_orNobody ∈ TBL := tb_c6 127 rfl rfl
set_option maxRecDepth 20000 in
theorem me_X10_pair : MEW yX10_pair cX10_pair 2 (some .int) 2 := ⟨tb_c6 155 rfl rfl, tb_c1 13 rfl rfl, by decide +kernel⟩
set_option maxRecDepth 20000 in
theorem ms_X10_pair : Cond.static yX10_pair ∈ TBL := tb_c6 154 rfl rfl
set_option maxRecDepth 20000 in
theorem me_X10_pays : MEW yX10_pays cX10_pays 3 (some .int) 0 := ⟨tb_c6 183 rfl rfl, tb_c1 13 rfl rfl, by decide +kernel⟩
set_option maxRecDepth 20000 in
theorem mi_X10_pays : Cond.instanceMethod yX10_pays ∈ TBL := tb_c6 181 rfl rfl
set_option maxRecDepth 20000 in
theorem mz_X10_pays : Cond.selects RX10 yX10_pays yX10_pays ∈ TBL := tb_c6 182 rfl rfl
set_option maxRecDepth 20000 in
theorem me_X10_paysBy : MEW yX10_paysBy cX10_paysBy 5 (some .boolean) 3 := ⟨tb_c6 187 rfl rfl, tb_c1 13 rfl rfl, by decide +kernel⟩
set_option maxRecDepth 20000 in
theorem mi_X10_paysBy : Cond.instanceMethod yX10_paysBy ∈ TBL := tb_c6 186 rfl rfl
set_option maxRecDepth 20000 in
theorem mz_X10_paysBy : Cond.selects RX10 yX10_paysBy yX10_paysBy ∈ TBL := tb_of 56 rfl rfl
set_option maxRecDepth 20000 in
theorem me_X10_person : MEW yX10_person cX10_person 2 (some .int) 0 := ⟨tb_c6 76 rfl rfl, tb_c1 13 rfl rfl, by decide +kernel⟩
set_option maxRecDepth 20000 in
theorem mi_X10_person : Cond.instanceMethod yX10_person ∈ TBL := tb_c6 74 rfl rfl
set_option maxRecDepth 20000 in
theorem mz_X10_person : Cond.selects RX10 yX10_person yX10_person ∈ TBL := tb_c6 75 rfl rfl
set_option maxRecDepth 20000 in
theorem me_X10_plainCounts : MEW yX10_plainCounts cX10_plainCounts 2 (some .int) 1 := ⟨tb_c7 156 rfl rfl, tb_c1 13 rfl rfl, by decide +kernel⟩
set_option maxRecDepth 20000 in
theorem mi_X10_plainCounts : Cond.instanceMethod yX10_plainCounts ∈ TBL := tb_c7 155 rfl rfl
set_option maxRecDepth 20000 in
theorem mz_X10_plainCounts : Cond.selects RX10 yX10_plainCounts yX10_plainCounts ∈ TBL := tb_of 80 rfl rfl
set_option maxRecDepth 20000 in
theorem me_X10_plainShares : MEW yX10_plainShares cX10_plainShares 2 (some .int) 1 := ⟨tb_c7 168 rfl rfl, tb_c1 13 rfl rfl, by decide +kernel⟩
set_option maxRecDepth 20000 in
theorem mi_X10_plainShares : Cond.instanceMethod yX10_plainShares ∈ TBL := tb_c7 167 rfl rfl
set_option maxRecDepth 20000 in
theorem mz_X10_plainShares : Cond.selects RX10 yX10_plainShares yX10_plainShares ∈ TBL := tb_of 83 rfl rfl
set_option maxRecDepth 20000 in
theorem me_X10_plainSits : MEW yX10_plainSits cX10_plainSits 2 (some .int) 1 := ⟨tb_c7 148 rfl rfl, tb_c1 13 rfl rfl, by decide +kernel⟩
set_option maxRecDepth 20000 in
theorem mi_X10_plainSits : Cond.instanceMethod yX10_plainSits ∈ TBL := tb_c7 147 rfl rfl
set_option maxRecDepth 20000 in
theorem mz_X10_plainSits : Cond.selects RX10 yX10_plainSits yX10_plainSits ∈ TBL := tb_of 78 rfl rfl
set_option maxRecDepth 20000 in
theorem me_X10_plainTells : MEW yX10_plainTells cX10_plainTells 2 (some .int) 1 := ⟨tb_c7 176 rfl rfl, tb_c1 13 rfl rfl, by decide +kernel⟩
set_option maxRecDepth 20000 in
theorem mi_X10_plainTells : Cond.instanceMethod yX10_plainTells ∈ TBL := tb_c7 175 rfl rfl
set_option maxRecDepth 20000 in
theorem mz_X10_plainTells : Cond.selects RX10 yX10_plainTells yX10_plainTells ∈ TBL := tb_of 85 rfl rfl
set_option maxRecDepth 20000 in
theorem me_X10_plan : MEW yX10_plan cX10_plan 3 (some .int) 2 := ⟨tb_c7 26 rfl rfl, tb_c1 13 rfl rfl, by decide +kernel⟩
set_option maxRecDepth 20000 in
theorem mi_X10_plan : Cond.instanceMethod yX10_plan ∈ TBL := tb_c7 24 rfl rfl
set_option maxRecDepth 20000 in
theorem mz_X10_plan : Cond.selects RX10 yX10_plan yX10_plan ∈ TBL := tb_c7 25 rfl rfl
set_option maxRecDepth 20000 in
theorem me_X10_planOf : MEW yX10_planOf cX10_planOf 3 (some .int) 2 := ⟨tb_c7 30 rfl rfl, tb_c1 13 rfl rfl, by decide +kernel⟩
set_option maxRecDepth 20000 in
theorem mi_X10_planOf : Cond.instanceMethod yX10_planOf ∈ TBL := tb_c7 28 rfl rfl
set_option maxRecDepth 20000 in
theorem mz_X10_planOf : Cond.selects RX10 yX10_planOf yX10_planOf ∈ TBL := tb_c7 29 rfl rfl
set_option maxRecDepth 20000 in
theorem me_X10_post : MEW yX10_post cX10_post 5 (some .int) 3 := ⟨tb_c6 122 rfl rfl, tb_c1 13 rfl rfl, by decide +kernel⟩
set_option maxRecDepth 20000 in
theorem mi_X10_post : Cond.instanceMethod yX10_post ∈ TBL := tb_c6 120 rfl rfl
set_option maxRecDepth 20000 in
theorem mz_X10_post : Cond.selects RX10 yX10_post yX10_post ∈ TBL := tb_c6 121 rfl rfl
set_option maxRecDepth 20000 in
theorem me_X10_postOf : MEW yX10_postOf cX10_postOf 3 (some .int) 2 := ⟨tb_c6 132 rfl rfl, tb_c1 13 rfl rfl, by decide +kernel⟩
set_option maxRecDepth 20000 in
theorem mi_X10_postOf : Cond.instanceMethod yX10_postOf ∈ TBL := tb_c6 130 rfl rfl
set_option maxRecDepth 20000 in
theorem mz_X10_postOf : Cond.selects RX10 yX10_postOf yX10_postOf ∈ TBL := tb_c6 131 rfl rfl
set_option maxRecDepth 20000 in
theorem me_X10_prove : MEW yX10_prove cX10_prove 2 (some .int) 0 := ⟨tb_c7 70 rfl rfl, tb_c1 13 rfl rfl, by decide +kernel⟩
set_option maxRecDepth 20000 in
theorem mi_X10_prove : Cond.instanceMethod yX10_prove ∈ TBL := tb_c7 68 rfl rfl
set_option maxRecDepth 20000 in
theorem mz_X10_prove : Cond.selects RX10 yX10_prove yX10_prove ∈ TBL := tb_c7 69 rfl rfl
set_option maxRecDepth 20000 in
theorem me_X10_put : MEW yX10_put cX10_put 4 (some .int) 3 := ⟨tb_c7 109 rfl rfl, tb_c1 13 rfl rfl, by decide +kernel⟩
set_option maxRecDepth 20000 in
theorem mi_X10_put : Cond.instanceMethod yX10_put ∈ TBL := tb_c7 107 rfl rfl
set_option maxRecDepth 20000 in
theorem mz_X10_put : Cond.selects RX10 yX10_put yX10_put ∈ TBL := tb_c7 108 rfl rfl
set_option maxRecDepth 20000 in
theorem me_X10_ran : MEW yX10_ran cX10_ran 2 none 1 := ⟨tb_c7 144 rfl rfl, tb_c1 13 rfl rfl, by decide +kernel⟩
set_option maxRecDepth 20000 in
theorem mi_X10_ran : Cond.instanceMethod yX10_ran ∈ TBL := tb_c7 143 rfl rfl
set_option maxRecDepth 20000 in
theorem mz_X10_ran : Cond.selects RX10 yX10_ran yX10_ran ∈ TBL := tb_of 77 rfl rfl
set_option maxRecDepth 20000 in
theorem me_X10_row : MEW yX10_row cX10_row 3 (some .int) 2 := ⟨tb_c7 78 rfl rfl, tb_c1 13 rfl rfl, by decide +kernel⟩
set_option maxRecDepth 20000 in
theorem mi_X10_row : Cond.instanceMethod yX10_row ∈ TBL := tb_c7 76 rfl rfl
set_option maxRecDepth 20000 in
theorem mz_X10_row : Cond.selects RX10 yX10_row yX10_row ∈ TBL := tb_c7 77 rfl rfl
set_option maxRecDepth 20000 in
theorem me_X10_sat : MEW yX10_sat cX10_sat 3 (some .int) 2 := ⟨tb_c7 3 rfl rfl, tb_c1 13 rfl rfl, by decide +kernel⟩
set_option maxRecDepth 20000 in
theorem mi_X10_sat : Cond.instanceMethod yX10_sat ∈ TBL := tb_c7 1 rfl rfl
set_option maxRecDepth 20000 in
theorem mz_X10_sat : Cond.selects RX10 yX10_sat yX10_sat ∈ TBL := tb_c7 2 rfl rfl
set_option maxRecDepth 20000 in
theorem me_X10_satOn : MEW yX10_satOn cX10_satOn 5 (some .int) 2 := ⟨tb_c7 7 rfl rfl, tb_c1 13 rfl rfl, by decide +kernel⟩
set_option maxRecDepth 20000 in
theorem mi_X10_satOn : Cond.instanceMethod yX10_satOn ∈ TBL := tb_c7 6 rfl rfl
set_option maxRecDepth 20000 in
theorem mz_X10_satOn : Cond.selects RX10 yX10_satOn yX10_satOn ∈ TBL := tb_of 63 rfl rfl
set_option maxRecDepth 20000 in
theorem me_X10_seed : MEW yX10_seed cX10_seed 3 (some .int) 1 := ⟨tb_c7 66 rfl rfl, tb_c1 13 rfl rfl, by decide +kernel⟩
set_option maxRecDepth 20000 in
theorem mi_X10_seed : Cond.instanceMethod yX10_seed ∈ TBL := tb_c7 64 rfl rfl
set_option maxRecDepth 20000 in
theorem mz_X10_seed : Cond.selects RX10 yX10_seed yX10_seed ∈ TBL := tb_c7 65 rfl rfl
set_option maxRecDepth 20000 in
theorem me_X10_seen : MEW yX10_seen cX10_seen 2 (some .int) 1 := ⟨tb_c6 159 rfl rfl, tb_c1 13 rfl rfl, by decide +kernel⟩
set_option maxRecDepth 20000 in
theorem mi_X10_seen : Cond.instanceMethod yX10_seen ∈ TBL := tb_c6 157 rfl rfl
set_option maxRecDepth 20000 in
theorem mz_X10_seen : Cond.selects RX10 yX10_seen yX10_seen ∈ TBL := tb_c6 158 rfl rfl
set_option maxRecDepth 20000 in
theorem me_X10_seenBy : MEW yX10_seenBy cX10_seenBy 5 (some .int) 2 := ⟨tb_c6 167 rfl rfl, tb_c1 13 rfl rfl, by decide +kernel⟩
set_option maxRecDepth 20000 in
theorem mi_X10_seenBy : Cond.instanceMethod yX10_seenBy ∈ TBL := tb_c6 166 rfl rfl
set_option maxRecDepth 20000 in
theorem mz_X10_seenBy : Cond.selects RX10 yX10_seenBy yX10_seenBy ∈ TBL := tb_of 53 rfl rfl
set_option maxRecDepth 20000 in
theorem me_X10_set : MEW yX10_set cX10_set 4 (some .int) 2 := ⟨tb_c6 111 rfl rfl, tb_c1 13 rfl rfl, by decide +kernel⟩
set_option maxRecDepth 20000 in
theorem mi_X10_set : Cond.instanceMethod yX10_set ∈ TBL := tb_c6 109 rfl rfl
set_option maxRecDepth 20000 in
theorem mz_X10_set : Cond.selects RX10 yX10_set yX10_set ∈ TBL := tb_c6 110 rfl rfl
set_option maxRecDepth 20000 in
theorem me_X10_sharesIt : MEW yX10_sharesIt cX10_sharesIt 3 (some .int) 1 := ⟨tb_c7 164 rfl rfl, tb_c1 13 rfl rfl, by decide +kernel⟩
set_option maxRecDepth 20000 in
theorem mi_X10_sharesIt : Cond.instanceMethod yX10_sharesIt ∈ TBL := tb_c7 163 rfl rfl
set_option maxRecDepth 20000 in
theorem mz_X10_sharesIt : Cond.selects RX10 yX10_sharesIt yX10_sharesIt ∈ TBL := tb_of 82 rfl rfl
set_option maxRecDepth 20000 in
theorem me_X10_sheet : MEW yX10_sheet cX10_sheet 5 (some .int) 3 := ⟨tb_c7 105 rfl rfl, tb_c1 13 rfl rfl, by decide +kernel⟩
set_option maxRecDepth 20000 in
theorem mi_X10_sheet : Cond.instanceMethod yX10_sheet ∈ TBL := tb_c7 103 rfl rfl
set_option maxRecDepth 20000 in
theorem mz_X10_sheet : Cond.selects RX10 yX10_sheet yX10_sheet ∈ TBL := tb_c7 104 rfl rfl
set_option maxRecDepth 20000 in
theorem me_X10_shelf : MEW yX10_shelf cX10_shelf 4 (some .int) 3 := ⟨tb_c7 117 rfl rfl, tb_c1 13 rfl rfl, by decide +kernel⟩
set_option maxRecDepth 20000 in
theorem mi_X10_shelf : Cond.instanceMethod yX10_shelf ∈ TBL := tb_c7 115 rfl rfl
set_option maxRecDepth 20000 in
theorem mz_X10_shelf : Cond.selects RX10 yX10_shelf yX10_shelf ∈ TBL := tb_c7 116 rfl rfl
set_option maxRecDepth 20000 in
theorem me_X10_sits : MEW yX10_sits cX10_sits 5 (some .boolean) 2 := ⟨tb_c6 239 rfl rfl, tb_c1 13 rfl rfl, by decide +kernel⟩
set_option maxRecDepth 20000 in
theorem mi_X10_sits : Cond.instanceMethod yX10_sits ∈ TBL := tb_c6 238 rfl rfl
set_option maxRecDepth 20000 in
theorem mz_X10_sits : Cond.selects RX10 yX10_sits yX10_sits ∈ TBL := tb_of 62 rfl rfl
set_option maxRecDepth 20000 in
theorem me_X10_sitsIt : MEW yX10_sitsIt cX10_sitsIt 2 (some .int) 1 := ⟨tb_c7 140 rfl rfl, tb_c1 13 rfl rfl, by decide +kernel⟩
set_option maxRecDepth 20000 in
theorem mi_X10_sitsIt : Cond.instanceMethod yX10_sitsIt ∈ TBL := tb_c7 139 rfl rfl
set_option maxRecDepth 20000 in
theorem mz_X10_sitsIt : Cond.selects RX10 yX10_sitsIt yX10_sitsIt ∈ TBL := tb_of 76 rfl rfl
set_option maxRecDepth 20000 in
theorem me_X10_sitting : MEW yX10_sitting cX10_sitting 3 (some .int) 0 := ⟨tb_c7 15 rfl rfl, tb_c1 13 rfl rfl, by decide +kernel⟩
set_option maxRecDepth 20000 in
theorem mi_X10_sitting : Cond.instanceMethod yX10_sitting ∈ TBL := tb_c7 14 rfl rfl
set_option maxRecDepth 20000 in
theorem mz_X10_sitting : Cond.selects RX10 yX10_sitting yX10_sitting ∈ TBL := tb_of 64 rfl rfl
set_option maxRecDepth 20000 in
theorem me_X10_surprise : MEW yX10_surprise cX10_surprise 3 (some .int) 2 := ⟨tb_c6 136 rfl rfl, tb_c1 13 rfl rfl, by decide +kernel⟩
set_option maxRecDepth 20000 in
theorem mi_X10_surprise : Cond.instanceMethod yX10_surprise ∈ TBL := tb_c6 134 rfl rfl
set_option maxRecDepth 20000 in
theorem mz_X10_surprise : Cond.selects RX10 yX10_surprise yX10_surprise ∈ TBL := tb_c6 135 rfl rfl
set_option maxRecDepth 20000 in
theorem me_X10_suspects : MEW yX10_suspects cX10_suspects 8 (some .int) 1 := ⟨tb_c7 22 rfl rfl, tb_c1 13 rfl rfl, by decide +kernel⟩
set_option maxRecDepth 20000 in
theorem mi_X10_suspects : Cond.instanceMethod yX10_suspects ∈ TBL := tb_c7 20 rfl rfl
set_option maxRecDepth 20000 in
theorem mz_X10_suspects : Cond.selects RX10 yX10_suspects yX10_suspects ∈ TBL := tb_c7 21 rfl rfl
set_option maxRecDepth 20000 in
theorem me_X10_taken : MEW yX10_taken cX10_taken 4 (some .int) 2 := ⟨tb_c7 125 rfl rfl, tb_c1 13 rfl rfl, by decide +kernel⟩
set_option maxRecDepth 20000 in
theorem mi_X10_taken : Cond.instanceMethod yX10_taken ∈ TBL := tb_c7 123 rfl rfl
set_option maxRecDepth 20000 in
theorem mz_X10_taken : Cond.selects RX10 yX10_taken yX10_taken ∈ TBL := tb_c7 124 rfl rfl
set_option maxRecDepth 20000 in
theorem me_X10_tellsIt : MEW yX10_tellsIt cX10_tellsIt 3 (some .int) 1 := ⟨tb_c7 172 rfl rfl, tb_c1 13 rfl rfl, by decide +kernel⟩
set_option maxRecDepth 20000 in
theorem mi_X10_tellsIt : Cond.instanceMethod yX10_tellsIt ∈ TBL := tb_c7 171 rfl rfl
set_option maxRecDepth 20000 in
theorem mz_X10_tellsIt : Cond.selects RX10 yX10_tellsIt yX10_tellsIt ∈ TBL := tb_of 84 rfl rfl
set_option maxRecDepth 20000 in
theorem me_X10_trace : MEW yX10_trace cX10_trace 2 (some .int) 1 := ⟨tb_c7 180 rfl rfl, tb_c1 13 rfl rfl, by decide +kernel⟩
set_option maxRecDepth 20000 in
theorem mi_X10_trace : Cond.instanceMethod yX10_trace ∈ TBL := tb_c7 178 rfl rfl
set_option maxRecDepth 20000 in
theorem mz_X10_trace : Cond.selects RX10 yX10_trace yX10_trace ∈ TBL := tb_c7 179 rfl rfl
set_option maxRecDepth 20000 in
theorem me_X10_trust : MEW yX10_trust cX10_trust 5 (some .int) 3 := ⟨tb_c6 96 rfl rfl, tb_c1 13 rfl rfl, by decide +kernel⟩
set_option maxRecDepth 20000 in
theorem mi_X10_trust : Cond.instanceMethod yX10_trust ∈ TBL := tb_c6 94 rfl rfl
set_option maxRecDepth 20000 in
theorem mz_X10_trust : Cond.selects RX10 yX10_trust yX10_trust ∈ TBL := tb_c6 95 rfl rfl
set_option maxRecDepth 20000 in
theorem me_X10_trustOf : MEW yX10_trustOf cX10_trustOf 6 (some .int) 3 := ⟨tb_c6 148 rfl rfl, tb_c1 13 rfl rfl, by decide +kernel⟩
set_option maxRecDepth 20000 in
theorem mi_X10_trustOf : Cond.instanceMethod yX10_trustOf ∈ TBL := tb_c6 147 rfl rfl
set_option maxRecDepth 20000 in
theorem mz_X10_trustOf : Cond.selects RX10 yX10_trustOf yX10_trustOf ∈ TBL := tb_of 50 rfl rfl
set_option maxRecDepth 20000 in
theorem me_X10_trustOn : MEW yX10_trustOn cX10_trustOn 4 (some .int) 3 := ⟨tb_c6 144 rfl rfl, tb_c1 13 rfl rfl, by decide +kernel⟩
set_option maxRecDepth 20000 in
theorem mi_X10_trustOn : Cond.instanceMethod yX10_trustOn ∈ TBL := tb_c6 142 rfl rfl
set_option maxRecDepth 20000 in
theorem mz_X10_trustOn : Cond.selects RX10 yX10_trustOn yX10_trustOn ∈ TBL := tb_c6 143 rfl rfl
set_option maxRecDepth 20000 in
theorem me_X10_turnCounts : MEW yX10_turnCounts cX10_turnCounts 2 (some .int) 1 := ⟨tb_c7 160 rfl rfl, tb_c1 13 rfl rfl, by decide +kernel⟩
set_option maxRecDepth 20000 in
theorem mi_X10_turnCounts : Cond.instanceMethod yX10_turnCounts ∈ TBL := tb_c7 159 rfl rfl
set_option maxRecDepth 20000 in
theorem mz_X10_turnCounts : Cond.selects RX10 yX10_turnCounts yX10_turnCounts ∈ TBL := tb_of 81 rfl rfl
set_option maxRecDepth 20000 in
theorem me_X10_twoOn : MEW yX10_twoOn cX10_twoOn 4 (some .int) 1 := ⟨tb_c6 152 rfl rfl, tb_c1 13 rfl rfl, by decide +kernel⟩
set_option maxRecDepth 20000 in
theorem mi_X10_twoOn : Cond.instanceMethod yX10_twoOn ∈ TBL := tb_c6 151 rfl rfl
set_option maxRecDepth 20000 in
theorem mz_X10_twoOn : Cond.selects RX10 yX10_twoOn yX10_twoOn ∈ TBL := tb_of 51 rfl rfl
set_option maxRecDepth 20000 in
theorem me_X10_wantAway : MEW yX10_wantAway cX10_wantAway 5 none 0 := ⟨tb_c6 54 rfl rfl, tb_c1 13 rfl rfl, by decide +kernel⟩
set_option maxRecDepth 20000 in
theorem mi_X10_wantAway : Cond.instanceMethod yX10_wantAway ∈ TBL := tb_c6 53 rfl rfl
set_option maxRecDepth 20000 in
theorem mz_X10_wantAway : Cond.selects RX10 yX10_wantAway yX10_wantAway ∈ TBL := tb_of 43 rfl rfl
set_option maxRecDepth 20000 in
theorem me_X10_wantClause : MEW yX10_wantClause cX10_wantClause 3 none 0 := ⟨tb_c6 26 rfl rfl, tb_c1 13 rfl rfl, by decide +kernel⟩
set_option maxRecDepth 20000 in
theorem mi_X10_wantClause : Cond.instanceMethod yX10_wantClause ∈ TBL := tb_c6 25 rfl rfl
set_option maxRecDepth 20000 in
theorem mz_X10_wantClause : Cond.selects RX10 yX10_wantClause yX10_wantClause ∈ TBL := tb_of 37 rfl rfl
set_option maxRecDepth 20000 in
theorem me_X10_wantEnd : MEW yX10_wantEnd cX10_wantEnd 1 none 0 := ⟨tb_c6 35 rfl rfl, tb_c1 13 rfl rfl, by decide +kernel⟩
set_option maxRecDepth 20000 in
theorem mi_X10_wantEnd : Cond.instanceMethod yX10_wantEnd ∈ TBL := tb_c6 34 rfl rfl
set_option maxRecDepth 20000 in
theorem mz_X10_wantEnd : Cond.selects RX10 yX10_wantEnd yX10_wantEnd ∈ TBL := tb_of 39 rfl rfl
set_option maxRecDepth 20000 in
theorem me_X10_wantNumber : MEW yX10_wantNumber cX10_wantNumber 4 (some .int) 2 := ⟨tb_c6 49 rfl rfl, tb_c1 13 rfl rfl, by decide +kernel⟩
set_option maxRecDepth 20000 in
theorem mi_X10_wantNumber : Cond.instanceMethod yX10_wantNumber ∈ TBL := tb_c6 48 rfl rfl
set_option maxRecDepth 20000 in
theorem mz_X10_wantNumber : Cond.selects RX10 yX10_wantNumber yX10_wantNumber ∈ TBL := tb_of 42 rfl rfl
set_option maxRecDepth 20000 in
theorem me_X10_wantTwo : MEW yX10_wantTwo cX10_wantTwo 5 none 1 := ⟨tb_c6 45 rfl rfl, tb_c1 13 rfl rfl, by decide +kernel⟩
set_option maxRecDepth 20000 in
theorem mi_X10_wantTwo : Cond.instanceMethod yX10_wantTwo ∈ TBL := tb_c6 44 rfl rfl
set_option maxRecDepth 20000 in
theorem mz_X10_wantTwo : Cond.selects RX10 yX10_wantTwo yX10_wantTwo ∈ TBL := tb_of 41 rfl rfl
set_option maxRecDepth 20000 in
theorem me_X10_wantWord : MEW yX10_wantWord cX10_wantWord 3 none 1 := ⟨tb_c6 59 rfl rfl, tb_c1 13 rfl rfl, by decide +kernel⟩
set_option maxRecDepth 20000 in
theorem mi_X10_wantWord : Cond.instanceMethod yX10_wantWord ∈ TBL := tb_c6 58 rfl rfl
set_option maxRecDepth 20000 in
theorem mz_X10_wantWord : Cond.selects RX10 yX10_wantWord yX10_wantWord ∈ TBL := tb_of 44 rfl rfl
set_option maxRecDepth 20000 in
theorem me_X10_worth : MEW yX10_worth cX10_worth 2 (some .int) 1 := ⟨tb_c6 175 rfl rfl, tb_c1 13 rfl rfl, by decide +kernel⟩
set_option maxRecDepth 20000 in
theorem mi_X10_worth : Cond.instanceMethod yX10_worth ∈ TBL := tb_c6 173 rfl rfl
set_option maxRecDepth 20000 in
theorem mz_X10_worth : Cond.selects RX10 yX10_worth yX10_worth ∈ TBL := tb_c6 174 rfl rfl
set_option maxRecDepth 20000 in
theorem me_X10_worthBy : MEW yX10_worthBy cX10_worthBy 4 (some .int) 2 := ⟨tb_c6 179 rfl rfl, tb_c1 13 rfl rfl, by decide +kernel⟩
set_option maxRecDepth 20000 in
theorem mi_X10_worthBy : Cond.instanceMethod yX10_worthBy ∈ TBL := tb_c6 178 rfl rfl
set_option maxRecDepth 20000 in
theorem mz_X10_worthBy : Cond.selects RX10 yX10_worthBy yX10_worthBy ∈ TBL := tb_of 55 rfl rfl
set_option maxRecDepth 20000 in
theorem me_X1_clear : MEW yX1_clear cX1_clear 2 (some .int) 1 := ⟨tb_c4 235 rfl rfl, tb_c1 12 rfl rfl, by decide +kernel⟩
set_option maxRecDepth 20000 in
theorem mi_X1_clear : Cond.instanceMethod yX1_clear ∈ TBL := tb_c4 233 rfl rfl
set_option maxRecDepth 20000 in
theorem mz_X1_clear : Cond.selects RX1 yX1_clear yX1_clear ∈ TBL := tb_c4 234 rfl rfl
set_option maxRecDepth 20000 in
theorem me_X1_heldPlan : MEW yX1_heldPlan cX1_heldPlan 2 (some .boolean) 1 := ⟨tb_c5 11 rfl rfl, tb_c1 12 rfl rfl, by decide +kernel⟩
set_option maxRecDepth 20000 in
theorem mi_X1_heldPlan : Cond.instanceMethod yX1_heldPlan ∈ TBL := tb_c5 9 rfl rfl
set_option maxRecDepth 20000 in
theorem mz_X1_heldPlan : Cond.selects RX1 yX1_heldPlan yX1_heldPlan ∈ TBL := tb_c5 10 rfl rfl
set_option maxRecDepth 20000 in
theorem me_X1_heldRow : MEW yX1_heldRow cX1_heldRow 2 (some .boolean) 1 := ⟨tb_c5 3 rfl rfl, tb_c1 12 rfl rfl, by decide +kernel⟩
set_option maxRecDepth 20000 in
theorem mi_X1_heldRow : Cond.instanceMethod yX1_heldRow ∈ TBL := tb_c5 1 rfl rfl
set_option maxRecDepth 20000 in
theorem mz_X1_heldRow : Cond.selects RX1 yX1_heldRow yX1_heldRow ∈ TBL := tb_c5 2 rfl rfl
set_option maxRecDepth 20000 in
theorem me_X1_holds : MEW yX1_holds cX1_holds 3 (some .boolean) 2 := ⟨tb_c4 211 rfl rfl, tb_c1 12 rfl rfl, by decide +kernel⟩
set_option maxRecDepth 20000 in
theorem mi_X1_holds : Cond.instanceMethod yX1_holds ∈ TBL := tb_c4 209 rfl rfl
set_option maxRecDepth 20000 in
theorem mz_X1_holds : Cond.selects RX1 yX1_holds yX1_holds ∈ TBL := tb_c4 210 rfl rfl
set_option maxRecDepth 20000 in
theorem me_X1_lay : MEW yX1_lay cX1_lay 4 (some .int) 3 := ⟨tb_c4 203 rfl rfl, tb_c1 12 rfl rfl, by decide +kernel⟩
set_option maxRecDepth 20000 in
theorem mi_X1_lay : Cond.instanceMethod yX1_lay ∈ TBL := tb_c4 201 rfl rfl
set_option maxRecDepth 20000 in
theorem mz_X1_lay : Cond.selects RX1 yX1_lay yX1_lay ∈ TBL := tb_c4 202 rfl rfl
set_option maxRecDepth 20000 in
theorem me_X1_shelvePlan : MEW yX1_shelvePlan cX1_shelvePlan 3 (some .int) 2 := ⟨tb_c4 227 rfl rfl, tb_c1 12 rfl rfl, by decide +kernel⟩
set_option maxRecDepth 20000 in
theorem mi_X1_shelvePlan : Cond.instanceMethod yX1_shelvePlan ∈ TBL := tb_c4 225 rfl rfl
set_option maxRecDepth 20000 in
theorem mz_X1_shelvePlan : Cond.selects RX1 yX1_shelvePlan yX1_shelvePlan ∈ TBL := tb_c4 226 rfl rfl
set_option maxRecDepth 20000 in
theorem me_X1_shelveRow : MEW yX1_shelveRow cX1_shelveRow 3 (some .int) 2 := ⟨tb_c4 231 rfl rfl, tb_c1 12 rfl rfl, by decide +kernel⟩
set_option maxRecDepth 20000 in
theorem mi_X1_shelveRow : Cond.instanceMethod yX1_shelveRow ∈ TBL := tb_c4 229 rfl rfl
set_option maxRecDepth 20000 in
theorem mz_X1_shelveRow : Cond.selects RX1 yX1_shelveRow yX1_shelveRow ∈ TBL := tb_c4 230 rfl rfl
set_option maxRecDepth 20000 in
theorem me_X1_write : MEW yX1_write cX1_write 4 (some .int) 3 := ⟨tb_c4 215 rfl rfl, tb_c1 12 rfl rfl, by decide +kernel⟩
set_option maxRecDepth 20000 in
theorem mi_X1_write : Cond.instanceMethod yX1_write ∈ TBL := tb_c4 213 rfl rfl
set_option maxRecDepth 20000 in
theorem mz_X1_write : Cond.selects RX1 yX1_write yX1_write ∈ TBL := tb_c4 214 rfl rfl
set_option maxRecDepth 20000 in
theorem me_X2_addPerson : MEW yX2_addPerson cX2_addPerson 1 (some .int) 0 := ⟨tb_c2 184 rfl rfl, tb_c1 2 rfl rfl, by decide +kernel⟩
set_option maxRecDepth 20000 in
theorem mi_X2_addPerson : Cond.instanceMethod yX2_addPerson ∈ TBL := tb_c2 182 rfl rfl
set_option maxRecDepth 20000 in
theorem mz_X2_addPerson : Cond.selects RX2 yX2_addPerson yX2_addPerson ∈ TBL := tb_c2 183 rfl rfl
set_option maxRecDepth 20000 in
theorem me_X2_areKin : MEW yX2_areKin cX2_areKin 3 (some .boolean) 2 := ⟨tb_c2 203 rfl rfl, tb_c1 2 rfl rfl, by decide +kernel⟩
set_option maxRecDepth 20000 in
theorem mi_X2_areKin : Cond.instanceMethod yX2_areKin ∈ TBL := tb_c2 201 rfl rfl
set_option maxRecDepth 20000 in
theorem mz_X2_areKin : Cond.selects RX2 yX2_areKin yX2_areKin ∈ TBL := tb_c2 202 rfl rfl
set_option maxRecDepth 20000 in
theorem me_X2_areTwo : MEW yX2_areTwo cX2_areTwo 3 (some .boolean) 2 := ⟨tb_c3 20 rfl rfl, tb_c1 2 rfl rfl, by decide +kernel⟩
set_option maxRecDepth 20000 in
theorem mi_X2_areTwo : Cond.instanceMethod yX2_areTwo ∈ TBL := tb_c3 18 rfl rfl
set_option maxRecDepth 20000 in
theorem mz_X2_areTwo : Cond.selects RX2 yX2_areTwo yX2_areTwo ∈ TBL := tb_c3 19 rfl rfl
set_option maxRecDepth 20000 in
theorem me_X2_at : MEW yX2_at cX2_at 3 (some .int) 2 := ⟨tb_c3 59 rfl rfl, tb_c1 2 rfl rfl, by decide +kernel⟩
set_option maxRecDepth 20000 in
theorem mi_X2_at : Cond.instanceMethod yX2_at ∈ TBL := tb_c3 57 rfl rfl
set_option maxRecDepth 20000 in
theorem mz_X2_at : Cond.selects RX2 yX2_at yX2_at ∈ TBL := tb_c3 58 rfl rfl
set_option maxRecDepth 20000 in
theorem me_X2_become : MEW yX2_become cX2_become 2 none 1 := ⟨tb_c3 2 rfl rfl, tb_c1 2 rfl rfl, by decide +kernel⟩
set_option maxRecDepth 20000 in
theorem mi_X2_become : Cond.instanceMethod yX2_become ∈ TBL := tb_c3 0 rfl rfl
set_option maxRecDepth 20000 in
theorem mz_X2_become : Cond.selects RX2 yX2_become yX2_become ∈ TBL := tb_c3 1 rfl rfl
set_option maxRecDepth 20000 in
theorem me_X2_daysOf : MEW yX2_daysOf cX2_daysOf 4 (some .int) 1 := ⟨tb_c4 54 rfl rfl, tb_c1 2 rfl rfl, by decide +kernel⟩
set_option maxRecDepth 20000 in
theorem mi_X2_daysOf : Cond.instanceMethod yX2_daysOf ∈ TBL := tb_c4 52 rfl rfl
set_option maxRecDepth 20000 in
theorem mz_X2_daysOf : Cond.selects RX2 yX2_daysOf yX2_daysOf ∈ TBL := tb_c4 53 rfl rfl
set_option maxRecDepth 20000 in
theorem me_X2_emptyBut : MEW yX2_emptyBut cX2_emptyBut 2 none 1 := ⟨tb_c2 94 rfl rfl, tb_c1 2 rfl rfl, by decide +kernel⟩
set_option maxRecDepth 20000 in
theorem mi_X2_emptyBut : Cond.instanceMethod yX2_emptyBut ∈ TBL := tb_c2 92 rfl rfl
set_option maxRecDepth 20000 in
theorem mz_X2_emptyBut : Cond.selects RX2 yX2_emptyBut yX2_emptyBut ∈ TBL := tb_c2 93 rfl rfl
set_option maxRecDepth 20000 in
theorem me_X2_hasSurprise : MEW yX2_hasSurprise cX2_hasSurprise 2 (some .boolean) 1 := ⟨tb_c3 79 rfl rfl, tb_c1 2 rfl rfl, by decide +kernel⟩
set_option maxRecDepth 20000 in
theorem mi_X2_hasSurprise : Cond.instanceMethod yX2_hasSurprise ∈ TBL := tb_c3 77 rfl rfl
set_option maxRecDepth 20000 in
theorem mz_X2_hasSurprise : Cond.selects RX2 yX2_hasSurprise yX2_hasSurprise ∈ TBL := tb_c3 78 rfl rfl
set_option maxRecDepth 20000 in
theorem me_X2_isAway : MEW yX2_isAway cX2_isAway 3 (some .boolean) 2 := ⟨tb_c2 227 rfl rfl, tb_c1 2 rfl rfl, by decide +kernel⟩
set_option maxRecDepth 20000 in
theorem mi_X2_isAway : Cond.instanceMethod yX2_isAway ∈ TBL := tb_c2 225 rfl rfl
set_option maxRecDepth 20000 in
theorem mz_X2_isAway : Cond.selects RX2 yX2_isAway yX2_isAway ∈ TBL := tb_c2 226 rfl rfl
set_option maxRecDepth 20000 in
theorem me_X2_isPerson : MEW yX2_isPerson cX2_isPerson 2 (some .boolean) 1 := ⟨tb_c3 24 rfl rfl, tb_c1 2 rfl rfl, by decide +kernel⟩
set_option maxRecDepth 20000 in
theorem mi_X2_isPerson : Cond.instanceMethod yX2_isPerson ∈ TBL := tb_c3 22 rfl rfl
set_option maxRecDepth 20000 in
theorem mz_X2_isPerson : Cond.selects RX2 yX2_isPerson yX2_isPerson ∈ TBL := tb_c3 23 rfl rfl
set_option maxRecDepth 20000 in
theorem me_X2_lastDayOf : MEW yX2_lastDayOf cX2_lastDayOf 4 (some .int) 2 := ⟨tb_c3 218 rfl rfl, tb_c1 2 rfl rfl, by decide +kernel⟩
set_option maxRecDepth 20000 in
theorem mi_X2_lastDayOf : Cond.instanceMethod yX2_lastDayOf ∈ TBL := tb_c3 216 rfl rfl
set_option maxRecDepth 20000 in
theorem mz_X2_lastDayOf : Cond.selects RX2 yX2_lastDayOf yX2_lastDayOf ∈ TBL := tb_c3 217 rfl rfl
set_option maxRecDepth 20000 in
theorem me_X2_lossOf : MEW yX2_lossOf cX2_lossOf 4 (some .int) 1 := ⟨tb_c4 83 rfl rfl, tb_c1 2 rfl rfl, by decide +kernel⟩
set_option maxRecDepth 20000 in
theorem mi_X2_lossOf : Cond.instanceMethod yX2_lossOf ∈ TBL := tb_c4 81 rfl rfl
set_option maxRecDepth 20000 in
theorem mz_X2_lossOf : Cond.selects RX2 yX2_lossOf yX2_lossOf ∈ TBL := tb_c4 82 rfl rfl
set_option maxRecDepth 20000 in
theorem me_X2_pairOf : MEW yX2_pairOf cX2_pairOf 2 (some .int) 2 := ⟨tb_c2 210 rfl rfl, tb_c1 2 rfl rfl, by decide +kernel⟩
set_option maxRecDepth 20000 in
theorem ms_X2_pairOf : Cond.static yX2_pairOf ∈ TBL := tb_c2 209 rfl rfl
set_option maxRecDepth 20000 in
theorem me_X2_pairOfMostLoss : MEW yX2_pairOfMostLoss cX2_pairOfMostLoss 6 (some .int) 0 := ⟨tb_c4 79 rfl rfl, tb_c1 2 rfl rfl, by decide +kernel⟩
set_option maxRecDepth 20000 in
theorem mi_X2_pairOfMostLoss : Cond.instanceMethod yX2_pairOfMostLoss ∈ TBL := tb_c4 77 rfl rfl
set_option maxRecDepth 20000 in
theorem mz_X2_pairOfMostLoss : Cond.selects RX2 yX2_pairOfMostLoss yX2_pairOfMostLoss ∈ TBL := tb_c4 78 rfl rfl
set_option maxRecDepth 20000 in
theorem me_X2_pairOn : MEW yX2_pairOn cX2_pairOn 4 (some .int) 1 := ⟨tb_c3 95 rfl rfl, tb_c1 2 rfl rfl, by decide +kernel⟩
set_option maxRecDepth 20000 in
theorem mi_X2_pairOn : Cond.instanceMethod yX2_pairOn ∈ TBL := tb_c3 93 rfl rfl
set_option maxRecDepth 20000 in
theorem mz_X2_pairOn : Cond.selects RX2 yX2_pairOn yX2_pairOn ∈ TBL := tb_c3 94 rfl rfl
set_option maxRecDepth 20000 in
theorem me_X2_satInGap : MEW yX2_satInGap cX2_satInGap 4 (some .boolean) 2 := ⟨tb_c3 214 rfl rfl, tb_c1 2 rfl rfl, by decide +kernel⟩
set_option maxRecDepth 20000 in
theorem mi_X2_satInGap : Cond.instanceMethod yX2_satInGap ∈ TBL := tb_c3 212 rfl rfl
set_option maxRecDepth 20000 in
theorem mz_X2_satInGap : Cond.selects RX2 yX2_satInGap yX2_satInGap ∈ TBL := tb_c3 213 rfl rfl
set_option maxRecDepth 20000 in
theorem me_X2_seat : MEW yX2_seat cX2_seat 4 none 3 := ⟨tb_c3 63 rfl rfl, tb_c1 2 rfl rfl, by decide +kernel⟩
set_option maxRecDepth 20000 in
theorem mi_X2_seat : Cond.instanceMethod yX2_seat ∈ TBL := tb_c3 61 rfl rfl
set_option maxRecDepth 20000 in
theorem mz_X2_seat : Cond.selects RX2 yX2_seat yX2_seat ∈ TBL := tb_c3 62 rfl rfl
set_option maxRecDepth 20000 in
theorem me_X2_setAway : MEW yX2_setAway cX2_setAway 4 (some .int) 3 := ⟨tb_c2 223 rfl rfl, tb_c1 2 rfl rfl, by decide +kernel⟩
set_option maxRecDepth 20000 in
theorem mi_X2_setAway : Cond.instanceMethod yX2_setAway ∈ TBL := tb_c2 221 rfl rfl
set_option maxRecDepth 20000 in
theorem mz_X2_setAway : Cond.selects RX2 yX2_setAway yX2_setAway ∈ TBL := tb_c2 222 rfl rfl
set_option maxRecDepth 20000 in
theorem me_X2_setKin : MEW yX2_setKin cX2_setKin 4 (some .int) 3 := ⟨tb_c2 199 rfl rfl, tb_c1 2 rfl rfl, by decide +kernel⟩
set_option maxRecDepth 20000 in
theorem mi_X2_setKin : Cond.instanceMethod yX2_setKin ∈ TBL := tb_c2 197 rfl rfl
set_option maxRecDepth 20000 in
theorem mz_X2_setKin : Cond.selects RX2 yX2_setKin yX2_setKin ∈ TBL := tb_c2 198 rfl rfl
set_option maxRecDepth 20000 in
theorem me_X2_setSurprise : MEW yX2_setSurprise cX2_setSurprise 3 (some .int) 2 := ⟨tb_c3 75 rfl rfl, tb_c1 2 rfl rfl, by decide +kernel⟩
set_option maxRecDepth 20000 in
theorem mi_X2_setSurprise : Cond.instanceMethod yX2_setSurprise ∈ TBL := tb_c3 73 rfl rfl
set_option maxRecDepth 20000 in
theorem mz_X2_setSurprise : Cond.selects RX2 yX2_setSurprise yX2_setSurprise ∈ TBL := tb_c3 74 rfl rfl
set_option maxRecDepth 20000 in
theorem me_X2_sittings : MEW yX2_sittings cX2_sittings 3 (some .int) 0 := ⟨tb_c4 50 rfl rfl, tb_c1 2 rfl rfl, by decide +kernel⟩
set_option maxRecDepth 20000 in
theorem mi_X2_sittings : Cond.instanceMethod yX2_sittings ∈ TBL := tb_c4 48 rfl rfl
set_option maxRecDepth 20000 in
theorem mz_X2_sittings : Cond.selects RX2 yX2_sittings yX2_sittings ∈ TBL := tb_c4 49 rfl rfl
set_option maxRecDepth 20000 in
theorem me_X3_brokenOn : MEW yX3_brokenOn cX3_brokenOn 3 (some .int) 1 := ⟨tb_c3 200 rfl rfl, tb_c1 6 rfl rfl, by decide +kernel⟩
set_option maxRecDepth 20000 in
theorem mi_X3_brokenOn : Cond.instanceMethod yX3_brokenOn ∈ TBL := tb_c3 198 rfl rfl
set_option maxRecDepth 20000 in
theorem mz_X3_brokenOn : Cond.selects RX3 yX3_brokenOn yX3_brokenOn ∈ TBL := tb_c3 199 rfl rfl
set_option maxRecDepth 20000 in
theorem me_X3_isPaying : MEW yX3_isPaying cX3_isPaying 3 (some .boolean) 2 := ⟨tb_c3 153 rfl rfl, tb_c1 6 rfl rfl, by decide +kernel⟩
set_option maxRecDepth 20000 in
theorem mi_X3_isPaying : Cond.instanceMethod yX3_isPaying ∈ TBL := tb_c3 151 rfl rfl
set_option maxRecDepth 20000 in
theorem mz_X3_isPaying : Cond.selects RX3 yX3_isPaying yX3_isPaying ∈ TBL := tb_c3 152 rfl rfl
set_option maxRecDepth 20000 in
theorem me_X3_leastTell : MEW yX3_leastTell cX3_leastTell 2 (some .int) 0 := ⟨tb_c3 184 rfl rfl, tb_c1 6 rfl rfl, by decide +kernel⟩
set_option maxRecDepth 20000 in
theorem mi_X3_leastTell : Cond.instanceMethod yX3_leastTell ∈ TBL := tb_c3 182 rfl rfl
set_option maxRecDepth 20000 in
theorem mz_X3_leastTell : Cond.selects RX3 yX3_leastTell yX3_leastTell ∈ TBL := tb_c3 183 rfl rfl
set_option maxRecDepth 20000 in
theorem me_X3_payingDays : MEW yX3_payingDays cX3_payingDays 1 (some .int) 0 := ⟨tb_c3 144 rfl rfl, tb_c1 6 rfl rfl, by decide +kernel⟩
set_option maxRecDepth 20000 in
theorem mi_X3_payingDays : Cond.instanceMethod yX3_payingDays ∈ TBL := tb_c3 142 rfl rfl
set_option maxRecDepth 20000 in
theorem mz_X3_payingDays : Cond.selects RX3 yX3_payingDays yX3_payingDays ∈ TBL := tb_c3 143 rfl rfl
set_option maxRecDepth 20000 in
theorem me_X3_payingDaysBy : MEW yX3_payingDaysBy cX3_payingDaysBy 4 (some .int) 1 := ⟨tb_c3 148 rfl rfl, tb_c1 6 rfl rfl, by decide +kernel⟩
set_option maxRecDepth 20000 in
theorem mi_X3_payingDaysBy : Cond.instanceMethod yX3_payingDaysBy ∈ TBL := tb_c3 147 rfl rfl
set_option maxRecDepth 20000 in
theorem mz_X3_payingDaysBy : Cond.selects RX3 yX3_payingDaysBy yX3_payingDaysBy ∈ TBL := tb_of 13 rfl rfl
set_option maxRecDepth 20000 in
theorem me_X3_seenOf : MEW yX3_seenOf cX3_seenOf 7 (some .int) 4 := ⟨tb_c3 119 rfl rfl, tb_c1 6 rfl rfl, by decide +kernel⟩
set_option maxRecDepth 20000 in
theorem mi_X3_seenOf : Cond.instanceMethod yX3_seenOf ∈ TBL := tb_c3 117 rfl rfl
set_option maxRecDepth 20000 in
theorem mz_X3_seenOf : Cond.selects RX3 yX3_seenOf yX3_seenOf ∈ TBL := tb_c3 118 rfl rfl
set_option maxRecDepth 20000 in
theorem me_X3_seenOn : MEW yX3_seenOn cX3_seenOn 2 (some .int) 1 := ⟨tb_c3 113 rfl rfl, tb_c1 6 rfl rfl, by decide +kernel⟩
set_option maxRecDepth 20000 in
theorem mi_X3_seenOn : Cond.instanceMethod yX3_seenOn ∈ TBL := tb_c3 111 rfl rfl
set_option maxRecDepth 20000 in
theorem mz_X3_seenOn : Cond.selects RX3 yX3_seenOn yX3_seenOn ∈ TBL := tb_c3 112 rfl rfl
set_option maxRecDepth 20000 in
theorem me_X3_somebodyIsAway : MEW yX3_somebodyIsAway cX3_somebodyIsAway 4 (some .boolean) 1 := ⟨tb_c3 204 rfl rfl, tb_c1 6 rfl rfl, by decide +kernel⟩
set_option maxRecDepth 20000 in
theorem mi_X3_somebodyIsAway : Cond.instanceMethod yX3_somebodyIsAway ∈ TBL := tb_c3 203 rfl rfl
set_option maxRecDepth 20000 in
theorem mz_X3_somebodyIsAway : Cond.selects RX3 yX3_somebodyIsAway yX3_somebodyIsAway ∈ TBL := tb_of 15 rfl rfl
set_option maxRecDepth 20000 in
theorem me_X3_somebodyIsTwice : MEW yX3_somebodyIsTwice cX3_somebodyIsTwice 5 (some .boolean) 1 := ⟨tb_c3 209 rfl rfl, tb_c1 6 rfl rfl, by decide +kernel⟩
set_option maxRecDepth 20000 in
theorem mi_X3_somebodyIsTwice : Cond.instanceMethod yX3_somebodyIsTwice ∈ TBL := tb_c3 208 rfl rfl
set_option maxRecDepth 20000 in
theorem mz_X3_somebodyIsTwice : Cond.selects RX3 yX3_somebodyIsTwice yX3_somebodyIsTwice ∈ TBL := tb_of 16 rfl rfl
set_option maxRecDepth 20000 in
theorem me_X3_surprisesNeeded : MEW yX3_surprisesNeeded cX3_surprisesNeeded 4 (some .int) 0 := ⟨tb_c3 192 rfl rfl, tb_c1 6 rfl rfl, by decide +kernel⟩
set_option maxRecDepth 20000 in
theorem mi_X3_surprisesNeeded : Cond.instanceMethod yX3_surprisesNeeded ∈ TBL := tb_c3 190 rfl rfl
set_option maxRecDepth 20000 in
theorem mz_X3_surprisesNeeded : Cond.selects RX3 yX3_surprisesNeeded yX3_surprisesNeeded ∈ TBL := tb_c3 191 rfl rfl
set_option maxRecDepth 20000 in
theorem me_X3_trustAfter : MEW yX3_trustAfter cX3_trustAfter 3 (some .int) 2 := ⟨tb_c3 100 rfl rfl, tb_c1 6 rfl rfl, by decide +kernel⟩
set_option maxRecDepth 20000 in
theorem mi_X3_trustAfter : Cond.instanceMethod yX3_trustAfter ∈ TBL := tb_c3 98 rfl rfl
set_option maxRecDepth 20000 in
theorem mz_X3_trustAfter : Cond.selects RX3 yX3_trustAfter yX3_trustAfter ∈ TBL := tb_c3 99 rfl rfl
set_option maxRecDepth 20000 in
theorem me_X3_trustOfPair : MEW yX3_trustOfPair cX3_trustOfPair 5 (some .int) 2 := ⟨tb_c3 91 rfl rfl, tb_c1 6 rfl rfl, by decide +kernel⟩
set_option maxRecDepth 20000 in
theorem mi_X3_trustOfPair : Cond.instanceMethod yX3_trustOfPair ∈ TBL := tb_c3 89 rfl rfl
set_option maxRecDepth 20000 in
theorem mz_X3_trustOfPair : Cond.selects RX3 yX3_trustOfPair yX3_trustOfPair ∈ TBL := tb_c3 90 rfl rfl
set_option maxRecDepth 20000 in
theorem me_X3_worthIf : MEW yX3_worthIf cX3_worthIf 5 (some .int) 2 := ⟨tb_c3 131 rfl rfl, tb_c1 6 rfl rfl, by decide +kernel⟩
set_option maxRecDepth 20000 in
theorem mi_X3_worthIf : Cond.instanceMethod yX3_worthIf ∈ TBL := tb_c3 130 rfl rfl
set_option maxRecDepth 20000 in
theorem mz_X3_worthIf : Cond.selects RX3 yX3_worthIf yX3_worthIf ∈ TBL := tb_of 12 rfl rfl
set_option maxRecDepth 20000 in
theorem me_X3_worthOf : MEW yX3_worthOf cX3_worthOf 3 (some .int) 2 := ⟨tb_c3 136 rfl rfl, tb_c1 6 rfl rfl, by decide +kernel⟩
set_option maxRecDepth 20000 in
theorem mi_X3_worthOf : Cond.instanceMethod yX3_worthOf ∈ TBL := tb_c3 134 rfl rfl
set_option maxRecDepth 20000 in
theorem mz_X3_worthOf : Cond.selects RX3 yX3_worthOf yX3_worthOf ∈ TBL := tb_c3 135 rfl rfl
set_option maxRecDepth 20000 in
theorem me_X3_worthOn : MEW yX3_worthOn cX3_worthOn 2 (some .int) 1 := ⟨tb_c3 127 rfl rfl, tb_c1 6 rfl rfl, by decide +kernel⟩
set_option maxRecDepth 20000 in
theorem mi_X3_worthOn : Cond.instanceMethod yX3_worthOn ∈ TBL := tb_c3 125 rfl rfl
set_option maxRecDepth 20000 in
theorem mz_X3_worthOn : Cond.selects RX3 yX3_worthOn yX3_worthOn ∈ TBL := tb_c3 126 rfl rfl
set_option maxRecDepth 20000 in
theorem me_X4_findBest : MEW yX4_findBest cX4_findBest 8 none 1 := ⟨tb_c3 165 rfl rfl, tb_c1 7 rfl rfl, by decide +kernel⟩
set_option maxRecDepth 20000 in
theorem mi_X4_findBest : Cond.instanceMethod yX4_findBest ∈ TBL := tb_c3 163 rfl rfl
set_option maxRecDepth 20000 in
theorem mz_X4_findBest : Cond.selects RX4 yX4_findBest yX4_findBest ∈ TBL := tb_c3 164 rfl rfl
set_option maxRecDepth 20000 in
theorem me_X4_findLot : MEW yX4_findLot cX4_findLot 7 none 1 := ⟨tb_c4 46 rfl rfl, tb_c1 7 rfl rfl, by decide +kernel⟩
set_option maxRecDepth 20000 in
theorem mi_X4_findLot : Cond.instanceMethod yX4_findLot ∈ TBL := tb_c4 44 rfl rfl
set_option maxRecDepth 20000 in
theorem mz_X4_findLot : Cond.selects RX4 yX4_findLot yX4_findLot ∈ TBL := tb_c4 45 rfl rfl
set_option maxRecDepth 20000 in
theorem me_X4_power : MEW yX4_power cX4_power 6 (some .long) 2 := ⟨tb_c4 66 rfl rfl, tb_c1 7 rfl rfl, by decide +kernel⟩
set_option maxRecDepth 20000 in
theorem ms_X4_power : Cond.static yX4_power ∈ TBL := tb_c4 65 rfl rfl
set_option maxRecDepth 20000 in
theorem me_X4_reduce : MEW yX4_reduce cX4_reduce 8 none 0 := ⟨tb_c3 176 rfl rfl, tb_c1 7 rfl rfl, by decide +kernel⟩
set_option maxRecDepth 20000 in
theorem mi_X4_reduce : Cond.instanceMethod yX4_reduce ∈ TBL := tb_c3 175 rfl rfl
set_option maxRecDepth 20000 in
theorem mz_X4_reduce : Cond.selects RX4 yX4_reduce yX4_reduce ∈ TBL := tb_of 14 rfl rfl
set_option maxRecDepth 20000 in
theorem me_X4_ways : MEW yX4_ways cX4_ways 5 (some .long) 2 := ⟨tb_c4 63 rfl rfl, tb_c1 7 rfl rfl, by decide +kernel⟩
set_option maxRecDepth 20000 in
theorem ms_X4_ways : Cond.static yX4_ways ∈ TBL := tb_c4 62 rfl rfl
set_option maxRecDepth 20000 in
theorem me_X5_add : MEW yX5_add cX5_add 3 (some .int) 2 := ⟨tb_c4 92 rfl rfl, tb_c1 9 rfl rfl, by decide +kernel⟩
set_option maxRecDepth 20000 in
theorem mi_X5_add : Cond.instanceMethod yX5_add ∈ TBL := tb_c4 90 rfl rfl
set_option maxRecDepth 20000 in
theorem mz_X5_add : Cond.selects RX5 yX5_add yX5_add ∈ TBL := tb_c4 91 rfl rfl
set_option maxRecDepth 20000 in
theorem me_X5_become : MEW yX5_become cX5_become 2 none 1 := ⟨tb_c5 67 rfl rfl, tb_c1 9 rfl rfl, by decide +kernel⟩
set_option maxRecDepth 20000 in
theorem mi_X5_become : Cond.instanceMethod yX5_become ∈ TBL := tb_c5 65 rfl rfl
set_option maxRecDepth 20000 in
theorem mz_X5_become : Cond.selects RX5 yX5_become yX5_become ∈ TBL := tb_c5 66 rfl rfl
set_option maxRecDepth 20000 in
theorem me_X5_drawFrom : MEW yX5_drawFrom cX5_drawFrom 5 (some .int) 1 := ⟨tb_c4 144 rfl rfl, tb_c1 9 rfl rfl, by decide +kernel⟩
set_option maxRecDepth 20000 in
theorem mi_X5_drawFrom : Cond.instanceMethod yX5_drawFrom ∈ TBL := tb_c4 143 rfl rfl
set_option maxRecDepth 20000 in
theorem mz_X5_drawFrom : Cond.selects RX5 yX5_drawFrom yX5_drawFrom ∈ TBL := tb_of 28 rfl rfl
set_option maxRecDepth 20000 in
theorem me_X5_fillDay : MEW yX5_fillDay cX5_fillDay 6 (some .int) 3 := ⟨tb_c4 108 rfl rfl, tb_c1 9 rfl rfl, by decide +kernel⟩
set_option maxRecDepth 20000 in
theorem mi_X5_fillDay : Cond.instanceMethod yX5_fillDay ∈ TBL := tb_c4 106 rfl rfl
set_option maxRecDepth 20000 in
theorem mz_X5_fillDay : Cond.selects RX5 yX5_fillDay yX5_fillDay ∈ TBL := tb_c4 107 rfl rfl
set_option maxRecDepth 20000 in
theorem me_X5_has : MEW yX5_has cX5_has 2 (some .boolean) 1 := ⟨tb_c4 100 rfl rfl, tb_c1 9 rfl rfl, by decide +kernel⟩
set_option maxRecDepth 20000 in
theorem mi_X5_has : Cond.instanceMethod yX5_has ∈ TBL := tb_c4 98 rfl rfl
set_option maxRecDepth 20000 in
theorem mz_X5_has : Cond.selects RX5 yX5_has yX5_has ∈ TBL := tb_c4 99 rfl rfl
set_option maxRecDepth 20000 in
theorem me_X5_isIn : MEW yX5_isIn cX5_isIn 2 (some .boolean) 2 := ⟨tb_c4 129 rfl rfl, tb_c1 9 rfl rfl, by decide +kernel⟩
set_option maxRecDepth 20000 in
theorem ms_X5_isIn : Cond.static yX5_isIn ∈ TBL := tb_c4 128 rfl rfl
set_option maxRecDepth 20000 in
theorem me_X5_leastOf : MEW yX5_leastOf cX5_leastOf 2 (some .int) 1 := ⟨tb_c4 135 rfl rfl, tb_c1 9 rfl rfl, by decide +kernel⟩
set_option maxRecDepth 20000 in
theorem ms_X5_leastOf : Cond.static yX5_leastOf ∈ TBL := tb_c4 134 rfl rfl
set_option maxRecDepth 20000 in
theorem me_X5_longestApart : MEW yX5_longestApart cX5_longestApart 9 (some .int) 4 := ⟨tb_c4 126 rfl rfl, tb_c1 9 rfl rfl, by decide +kernel⟩
set_option maxRecDepth 20000 in
theorem ms_X5_longestApart : Cond.static yX5_longestApart ∈ TBL := tb_c4 125 rfl rfl
set_option maxRecDepth 20000 in
theorem me_X5_presentFor : MEW yX5_presentFor cX5_presentFor 7 (some .int) 3 := ⟨tb_c4 117 rfl rfl, tb_c1 9 rfl rfl, by decide +kernel⟩
set_option maxRecDepth 20000 in
theorem mi_X5_presentFor : Cond.instanceMethod yX5_presentFor ∈ TBL := tb_c4 116 rfl rfl
set_option maxRecDepth 20000 in
theorem mz_X5_presentFor : Cond.selects RX5 yX5_presentFor yX5_presentFor ∈ TBL := tb_of 25 rfl rfl
set_option maxRecDepth 20000 in
theorem me_X5_seatByDraw : MEW yX5_seatByDraw cX5_seatByDraw 4 none 1 := ⟨tb_c4 139 rfl rfl, tb_c1 9 rfl rfl, by decide +kernel⟩
set_option maxRecDepth 20000 in
theorem mi_X5_seatByDraw : Cond.instanceMethod yX5_seatByDraw ∈ TBL := tb_c4 138 rfl rfl
set_option maxRecDepth 20000 in
theorem mz_X5_seatByDraw : Cond.selects RX5 yX5_seatByDraw yX5_seatByDraw ∈ TBL := tb_of 27 rfl rfl
set_option maxRecDepth 20000 in
theorem me_X5_seatByTurn : MEW yX5_seatByTurn cX5_seatByTurn 6 none 3 := ⟨tb_c4 123 rfl rfl, tb_c1 9 rfl rfl, by decide +kernel⟩
set_option maxRecDepth 20000 in
theorem mi_X5_seatByTurn : Cond.instanceMethod yX5_seatByTurn ∈ TBL := tb_c4 122 rfl rfl
set_option maxRecDepth 20000 in
theorem mz_X5_seatByTurn : Cond.selects RX5 yX5_seatByTurn yX5_seatByTurn ∈ TBL := tb_of 26 rfl rfl
set_option maxRecDepth 20000 in
theorem me_X5_seatStranger : MEW yX5_seatStranger cX5_seatStranger 6 none 2 := ⟨tb_c4 148 rfl rfl, tb_c1 9 rfl rfl, by decide +kernel⟩
set_option maxRecDepth 20000 in
theorem mi_X5_seatStranger : Cond.instanceMethod yX5_seatStranger ∈ TBL := tb_c4 147 rfl rfl
set_option maxRecDepth 20000 in
theorem mz_X5_seatStranger : Cond.selects RX5 yX5_seatStranger yX5_seatStranger ∈ TBL := tb_of 29 rfl rfl
set_option maxRecDepth 20000 in
theorem me_X5_seatTold : MEW yX5_seatTold cX5_seatTold 4 (some .boolean) 2 := ⟨tb_c4 112 rfl rfl, tb_c1 9 rfl rfl, by decide +kernel⟩
set_option maxRecDepth 20000 in
theorem mi_X5_seatTold : Cond.instanceMethod yX5_seatTold ∈ TBL := tb_c4 111 rfl rfl
set_option maxRecDepth 20000 in
theorem mz_X5_seatTold : Cond.selects RX5 yX5_seatTold yX5_seatTold ∈ TBL := tb_of 24 rfl rfl
set_option maxRecDepth 20000 in
theorem me_X5_sitDown : MEW yX5_sitDown cX5_sitDown 5 (some .int) 2 := ⟨tb_c4 152 rfl rfl, tb_c1 9 rfl rfl, by decide +kernel⟩
set_option maxRecDepth 20000 in
theorem mi_X5_sitDown : Cond.instanceMethod yX5_sitDown ∈ TBL := tb_c4 151 rfl rfl
set_option maxRecDepth 20000 in
theorem mz_X5_sitDown : Cond.selects RX5 yX5_sitDown yX5_sitDown ∈ TBL := tb_of 30 rfl rfl
set_option maxRecDepth 20000 in
theorem me_X6_drop : MEW yX6_drop cX6_drop 1 none 0 := ⟨tb_c3 6 rfl rfl, tb_c1 10 rfl rfl, by decide +kernel⟩
set_option maxRecDepth 20000 in
theorem mi_X6_drop : Cond.instanceMethod yX6_drop ∈ TBL := tb_c3 4 rfl rfl
set_option maxRecDepth 20000 in
theorem mz_X6_drop : Cond.selects RX6 yX6_drop yX6_drop ∈ TBL := tb_c3 5 rfl rfl
set_option maxRecDepth 20000 in
theorem me_X6_due : MEW yX6_due cX6_due 4 (some .int) 2 := ⟨tb_c4 169 rfl rfl, tb_c1 10 rfl rfl, by decide +kernel⟩
set_option maxRecDepth 20000 in
theorem mi_X6_due : Cond.instanceMethod yX6_due ∈ TBL := tb_c4 168 rfl rfl
set_option maxRecDepth 20000 in
theorem mz_X6_due : Cond.selects RX6 yX6_due yX6_due ∈ TBL := tb_of 31 rfl rfl
set_option maxRecDepth 20000 in
theorem me_X6_firstWrong : MEW yX6_firstWrong cX6_firstWrong 3 (some .int) 0 := ⟨tb_c4 192 rfl rfl, tb_c1 10 rfl rfl, by decide +kernel⟩
set_option maxRecDepth 20000 in
theorem mi_X6_firstWrong : Cond.instanceMethod yX6_firstWrong ∈ TBL := tb_c4 190 rfl rfl
set_option maxRecDepth 20000 in
theorem mz_X6_firstWrong : Cond.selects RX6 yX6_firstWrong yX6_firstWrong ∈ TBL := tb_c4 191 rfl rfl
set_option maxRecDepth 20000 in
theorem me_X6_has : MEW yX6_has cX6_has 3 (some .boolean) 2 := ⟨tb_c4 180 rfl rfl, tb_c1 10 rfl rfl, by decide +kernel⟩
set_option maxRecDepth 20000 in
theorem mi_X6_has : Cond.instanceMethod yX6_has ∈ TBL := tb_c4 178 rfl rfl
set_option maxRecDepth 20000 in
theorem mz_X6_has : Cond.selects RX6 yX6_has yX6_has ∈ TBL := tb_c4 179 rfl rfl
set_option maxRecDepth 20000 in
theorem me_X6_write : MEW yX6_write cX6_write 3 (some .int) 0 := ⟨tb_c4 165 rfl rfl, tb_c1 10 rfl rfl, by decide +kernel⟩
set_option maxRecDepth 20000 in
theorem mi_X6_write : Cond.instanceMethod yX6_write ∈ TBL := tb_c4 163 rfl rfl
set_option maxRecDepth 20000 in
theorem mz_X6_write : Cond.selects RX6 yX6_write yX6_write ∈ TBL := tb_c4 164 rfl rfl
set_option maxRecDepth 20000 in
theorem me_X7_add : MEW yX7_add cX7_add 5 (some .int) 2 := ⟨tb_c2 82 rfl rfl, tb_c1 5 rfl rfl, by decide +kernel⟩
set_option maxRecDepth 20000 in
theorem mi_X7_add : Cond.instanceMethod yX7_add ∈ TBL := tb_c2 80 rfl rfl
set_option maxRecDepth 20000 in
theorem mz_X7_add : Cond.selects RX7 yX7_add yX7_add ∈ TBL := tb_c2 81 rfl rfl
set_option maxRecDepth 20000 in
theorem me_X7_endOfName : MEW yX7_endOfName cX7_endOfName 2 (some .int) 0 := ⟨tb_c2 106 rfl rfl, tb_c1 5 rfl rfl, by decide +kernel⟩
set_option maxRecDepth 20000 in
theorem mi_X7_endOfName : Cond.instanceMethod yX7_endOfName ∈ TBL := tb_c2 105 rfl rfl
set_option maxRecDepth 20000 in
theorem mz_X7_endOfName : Cond.selects RX7 yX7_endOfName yX7_endOfName ∈ TBL := tb_of 2 rfl rfl
set_option maxRecDepth 20000 in
theorem me_X7_fail : MEW yX7_fail cX7_fail 2 none 1 := ⟨tb_c2 177 rfl rfl, tb_c1 5 rfl rfl, by decide +kernel⟩
set_option maxRecDepth 20000 in
theorem mi_X7_fail : Cond.instanceMethod yX7_fail ∈ TBL := tb_c2 176 rfl rfl
set_option maxRecDepth 20000 in
theorem mz_X7_fail : Cond.selects RX7 yX7_fail yX7_fail ∈ TBL := tb_of 4 rfl rfl
set_option maxRecDepth 20000 in
theorem me_X7_isDigit : MEW yX7_isDigit cX7_isDigit 1 (some .boolean) 1 := ⟨tb_c2 195 rfl rfl, tb_c1 5 rfl rfl, by decide +kernel⟩
set_option maxRecDepth 20000 in
theorem ms_X7_isDigit : Cond.static yX7_isDigit ∈ TBL := tb_c2 194 rfl rfl
set_option maxRecDepth 20000 in
theorem me_X7_nameOf : MEW yX7_nameOf cX7_nameOf 1 (some (.object "java/lang/String")) 1 := ⟨tb_c2 109 rfl rfl, tb_c1 5 rfl rfl, by decide +kernel⟩
set_option maxRecDepth 20000 in
theorem ms_X7_nameOf : Cond.static yX7_nameOf ∈ TBL := tb_c2 108 rfl rfl
set_option maxRecDepth 20000 in
theorem me_X7_readAway : MEW yX7_readAway cX7_readAway 5 none 0 := ⟨tb_c2 214 rfl rfl, tb_c1 5 rfl rfl, by decide +kernel⟩
set_option maxRecDepth 20000 in
theorem mi_X7_readAway : Cond.instanceMethod yX7_readAway ∈ TBL := tb_c2 213 rfl rfl
set_option maxRecDepth 20000 in
theorem mz_X7_readAway : Cond.selects RX7 yX7_readAway yX7_readAway ∈ TBL := tb_of 8 rfl rfl
set_option maxRecDepth 20000 in
theorem me_X7_readEnd : MEW yX7_readEnd cX7_readEnd 1 none 0 := ⟨tb_c2 238 rfl rfl, tb_c1 5 rfl rfl, by decide +kernel⟩
set_option maxRecDepth 20000 in
theorem mi_X7_readEnd : Cond.instanceMethod yX7_readEnd ∈ TBL := tb_c2 237 rfl rfl
set_option maxRecDepth 20000 in
theorem mz_X7_readEnd : Cond.selects RX7 yX7_readEnd yX7_readEnd ∈ TBL := tb_of 11 rfl rfl
set_option maxRecDepth 20000 in
theorem me_X7_readKin : MEW yX7_readKin cX7_readKin 3 none 0 := ⟨tb_c2 188 rfl rfl, tb_c1 5 rfl rfl, by decide +kernel⟩
set_option maxRecDepth 20000 in
theorem mi_X7_readKin : Cond.instanceMethod yX7_readKin ∈ TBL := tb_c2 187 rfl rfl
set_option maxRecDepth 20000 in
theorem mz_X7_readKin : Cond.selects RX7 yX7_readKin yX7_readKin ∈ TBL := tb_of 5 rfl rfl
set_option maxRecDepth 20000 in
theorem me_X7_readLaw : MEW yX7_readLaw cX7_readLaw 3 none 1 := ⟨tb_c2 232 rfl rfl, tb_c1 5 rfl rfl, by decide +kernel⟩
set_option maxRecDepth 20000 in
theorem mi_X7_readLaw : Cond.instanceMethod yX7_readLaw ∈ TBL := tb_c2 231 rfl rfl
set_option maxRecDepth 20000 in
theorem mz_X7_readLaw : Cond.selects RX7 yX7_readLaw yX7_readLaw ∈ TBL := tb_of 10 rfl rfl
set_option maxRecDepth 20000 in
theorem me_X7_readNumber : MEW yX7_readNumber cX7_readNumber 6 (some .int) 2 := ⟨tb_c2 192 rfl rfl, tb_c1 5 rfl rfl, by decide +kernel⟩
set_option maxRecDepth 20000 in
theorem mi_X7_readNumber : Cond.instanceMethod yX7_readNumber ∈ TBL := tb_c2 191 rfl rfl
set_option maxRecDepth 20000 in
theorem mz_X7_readNumber : Cond.selects RX7 yX7_readNumber yX7_readNumber ∈ TBL := tb_of 6 rfl rfl
set_option maxRecDepth 20000 in
theorem me_X7_readStatement : MEW yX7_readStatement cX7_readStatement 3 none 0 := ⟨tb_c2 102 rfl rfl, tb_c1 5 rfl rfl, by decide +kernel⟩
set_option maxRecDepth 20000 in
theorem mi_X7_readStatement : Cond.instanceMethod yX7_readStatement ∈ TBL := tb_c2 101 rfl rfl
set_option maxRecDepth 20000 in
theorem mz_X7_readStatement : Cond.selects RX7 yX7_readStatement yX7_readStatement ∈ TBL := tb_of 1 rfl rfl
set_option maxRecDepth 20000 in
theorem me_X7_readTrust : MEW yX7_readTrust cX7_readTrust 4 none 0 := ⟨tb_c2 207 rfl rfl, tb_c1 5 rfl rfl, by decide +kernel⟩
set_option maxRecDepth 20000 in
theorem mi_X7_readTrust : Cond.instanceMethod yX7_readTrust ∈ TBL := tb_c2 206 rfl rfl
set_option maxRecDepth 20000 in
theorem mz_X7_readTrust : Cond.selects RX7 yX7_readTrust yX7_readTrust ∈ TBL := tb_of 7 rfl rfl
set_option maxRecDepth 20000 in
theorem me_X7_readWord : MEW yX7_readWord cX7_readWord 3 none 1 := ⟨tb_c2 219 rfl rfl, tb_c1 5 rfl rfl, by decide +kernel⟩
set_option maxRecDepth 20000 in
theorem mi_X7_readWord : Cond.instanceMethod yX7_readWord ∈ TBL := tb_c2 218 rfl rfl
set_option maxRecDepth 20000 in
theorem mz_X7_readWord : Cond.selects RX7 yX7_readWord yX7_readWord ∈ TBL := tb_of 9 rfl rfl
set_option maxRecDepth 20000 in
theorem me_X7_skipBlanks : MEW yX7_skipBlanks cX7_skipBlanks 1 none 0 := ⟨tb_c2 98 rfl rfl, tb_c1 5 rfl rfl, by decide +kernel⟩
set_option maxRecDepth 20000 in
theorem mi_X7_skipBlanks : Cond.instanceMethod yX7_skipBlanks ∈ TBL := tb_c2 97 rfl rfl
set_option maxRecDepth 20000 in
theorem mz_X7_skipBlanks : Cond.selects RX7 yX7_skipBlanks yX7_skipBlanks ∈ TBL := tb_of 0 rfl rfl
set_option maxRecDepth 20000 in
theorem me_X7_stands : MEW yX7_stands cX7_stands 4 (some .boolean) 2 := ⟨tb_c2 125 rfl rfl, tb_c1 5 rfl rfl, by decide +kernel⟩
set_option maxRecDepth 20000 in
theorem mi_X7_stands : Cond.instanceMethod yX7_stands ∈ TBL := tb_c2 124 rfl rfl
set_option maxRecDepth 20000 in
theorem mz_X7_stands : Cond.selects RX7 yX7_stands yX7_stands ∈ TBL := tb_of 3 rfl rfl
set_option maxRecDepth 20000 in
theorem me_X7_tell : MEW yX7_tell cX7_tell 3 (some .int) 1 := ⟨tb_c2 90 rfl rfl, tb_c1 5 rfl rfl, by decide +kernel⟩
set_option maxRecDepth 20000 in
theorem mi_X7_tell : Cond.instanceMethod yX7_tell ∈ TBL := tb_c2 88 rfl rfl
set_option maxRecDepth 20000 in
theorem mz_X7_tell : Cond.selects RX7 yX7_tell yX7_tell ∈ TBL := tb_c2 89 rfl rfl
set_option maxRecDepth 20000 in
theorem me_X8_change : MEW yX8_change cX8_change 4 (some .int) 3 := ⟨tb_c4 4 rfl rfl, tb_c1 8 rfl rfl, by decide +kernel⟩
set_option maxRecDepth 20000 in
theorem mi_X8_change : Cond.instanceMethod yX8_change ∈ TBL := tb_c4 3 rfl rfl
set_option maxRecDepth 20000 in
theorem mz_X8_change : Cond.selects RX8 yX8_change yX8_change ∈ TBL := tb_of 19 rfl rfl
set_option maxRecDepth 20000 in
theorem me_X8_countRows : MEW yX8_countRows cX8_countRows 7 (some .int) 3 := ⟨tb_c4 33 rfl rfl, tb_c1 8 rfl rfl, by decide +kernel⟩
set_option maxRecDepth 20000 in
theorem ms_X8_countRows : Cond.static yX8_countRows ∈ TBL := tb_c4 32 rfl rfl
set_option maxRecDepth 20000 in
theorem me_X8_isFree : MEW yX8_isFree cX8_isFree 4 (some .boolean) 3 := ⟨tb_c4 9 rfl rfl, tb_c1 8 rfl rfl, by decide +kernel⟩
set_option maxRecDepth 20000 in
theorem mi_X8_isFree : Cond.instanceMethod yX8_isFree ∈ TBL := tb_c4 8 rfl rfl
set_option maxRecDepth 20000 in
theorem mz_X8_isFree : Cond.selects RX8 yX8_isFree yX8_isFree ∈ TBL := tb_of 20 rfl rfl
set_option maxRecDepth 20000 in
theorem me_X8_maySit : MEW yX8_maySit cX8_maySit 4 (some .boolean) 3 := ⟨tb_c3 231 rfl rfl, tb_c1 8 rfl rfl, by decide +kernel⟩
set_option maxRecDepth 20000 in
theorem mi_X8_maySit : Cond.instanceMethod yX8_maySit ∈ TBL := tb_c3 230 rfl rfl
set_option maxRecDepth 20000 in
theorem mz_X8_maySit : Cond.selects RX8 yX8_maySit yX8_maySit ∈ TBL := tb_of 17 rfl rfl
set_option maxRecDepth 20000 in
theorem me_X8_mend : MEW yX8_mend cX8_mend 4 (some .boolean) 1 := ⟨tb_c3 227 rfl rfl, tb_c1 8 rfl rfl, by decide +kernel⟩
set_option maxRecDepth 20000 in
theorem mi_X8_mend : Cond.instanceMethod yX8_mend ∈ TBL := tb_c3 225 rfl rfl
set_option maxRecDepth 20000 in
theorem mz_X8_mend : Cond.selects RX8 yX8_mend yX8_mend ∈ TBL := tb_c3 226 rfl rfl
set_option maxRecDepth 20000 in
theorem me_X8_mendBy : MEW yX8_mendBy cX8_mendBy 10 none 3 := ⟨tb_c3 239 rfl rfl, tb_c1 8 rfl rfl, by decide +kernel⟩
set_option maxRecDepth 20000 in
theorem mi_X8_mendBy : Cond.instanceMethod yX8_mendBy ∈ TBL := tb_c3 238 rfl rfl
set_option maxRecDepth 20000 in
theorem mz_X8_mendBy : Cond.selects RX8 yX8_mendBy yX8_mendBy ∈ TBL := tb_of 18 rfl rfl
set_option maxRecDepth 20000 in
theorem me_X8_mostTrust : MEW yX8_mostTrust cX8_mostTrust 7 (some .int) 2 := ⟨tb_c4 30 rfl rfl, tb_c1 8 rfl rfl, by decide +kernel⟩
set_option maxRecDepth 20000 in
theorem mi_X8_mostTrust : Cond.instanceMethod yX8_mostTrust ∈ TBL := tb_c4 29 rfl rfl
set_option maxRecDepth 20000 in
theorem mz_X8_mostTrust : Cond.selects RX8 yX8_mostTrust yX8_mostTrust ∈ TBL := tb_of 22 rfl rfl
set_option maxRecDepth 20000 in
theorem me_X8_rowsAhead : MEW yX8_rowsAhead cX8_rowsAhead 9 (some .int) 2 := ⟨tb_c4 25 rfl rfl, tb_c1 8 rfl rfl, by decide +kernel⟩
set_option maxRecDepth 20000 in
theorem mi_X8_rowsAhead : Cond.instanceMethod yX8_rowsAhead ∈ TBL := tb_c4 23 rfl rfl
set_option maxRecDepth 20000 in
theorem mz_X8_rowsAhead : Cond.selects RX8 yX8_rowsAhead yX8_rowsAhead ∈ TBL := tb_c4 24 rfl rfl
set_option maxRecDepth 20000 in
theorem me_X8_standsBehindChosen : MEW yX8_standsBehindChosen cX8_standsBehindChosen 6 (some .boolean) 2 := ⟨tb_c4 37 rfl rfl, tb_c1 8 rfl rfl, by decide +kernel⟩
set_option maxRecDepth 20000 in
theorem mi_X8_standsBehindChosen : Cond.instanceMethod yX8_standsBehindChosen ∈ TBL := tb_c4 36 rfl rfl
set_option maxRecDepth 20000 in
theorem mz_X8_standsBehindChosen : Cond.selects RX8 yX8_standsBehindChosen yX8_standsBehindChosen ∈ TBL := tb_of 23 rfl rfl
set_option maxRecDepth 20000 in
theorem me_X8_wouldPay : MEW yX8_wouldPay cX8_wouldPay 7 (some .boolean) 5 := ⟨tb_c4 13 rfl rfl, tb_c1 8 rfl rfl, by decide +kernel⟩
set_option maxRecDepth 20000 in
theorem mi_X8_wouldPay : Cond.instanceMethod yX8_wouldPay ∈ TBL := tb_c4 12 rfl rfl
set_option maxRecDepth 20000 in
theorem mz_X8_wouldPay : Cond.selects RX8 yX8_wouldPay yX8_wouldPay ∈ TBL := tb_of 21 rfl rfl
set_option maxRecDepth 20000 in
theorem me_X9_act : MEW yX9_act cX9_act 5 (some .int) 3 := ⟨tb_c5 20 rfl rfl, tb_c1 1 rfl rfl, by decide +kernel⟩
set_option maxRecDepth 20000 in
theorem mi_X9_act : Cond.instanceMethod yX9_act ∈ TBL := tb_c5 18 rfl rfl
set_option maxRecDepth 20000 in
theorem mz_X9_act : Cond.selects RX9 yX9_act yX9_act ∈ TBL := tb_c5 19 rfl rfl
set_option maxRecDepth 20000 in
theorem me_X9_again : MEW yX9_again cX9_again 1 (some .int) 0 := ⟨tb_c5 72 rfl rfl, tb_c1 1 rfl rfl, by decide +kernel⟩
set_option maxRecDepth 20000 in
theorem mi_X9_again : Cond.instanceMethod yX9_again ∈ TBL := tb_c5 70 rfl rfl
set_option maxRecDepth 20000 in
theorem mz_X9_again : Cond.selects RX9 yX9_again yX9_again ∈ TBL := tb_c5 71 rfl rfl
set_option maxRecDepth 20000 in
theorem me_X9_ahead : MEW yX9_ahead cX9_ahead 3 (some .int) 2 := ⟨tb_c4 21 rfl rfl, tb_c1 1 rfl rfl, by decide +kernel⟩
set_option maxRecDepth 20000 in
theorem mi_X9_ahead : Cond.instanceMethod yX9_ahead ∈ TBL := tb_c4 19 rfl rfl
set_option maxRecDepth 20000 in
theorem mz_X9_ahead : Cond.selects RX9 yX9_ahead yX9_ahead ∈ TBL := tb_c4 20 rfl rfl
set_option maxRecDepth 20000 in
theorem me_X9_alterRow : MEW yX9_alterRow cX9_alterRow 6 (some .int) 3 := ⟨tb_c4 184 rfl rfl, tb_c1 1 rfl rfl, by decide +kernel⟩
set_option maxRecDepth 20000 in
theorem mi_X9_alterRow : Cond.instanceMethod yX9_alterRow ∈ TBL := tb_c4 182 rfl rfl
set_option maxRecDepth 20000 in
theorem mz_X9_alterRow : Cond.selects RX9 yX9_alterRow yX9_alterRow ∈ TBL := tb_c4 183 rfl rfl
set_option maxRecDepth 20000 in
theorem me_X9_away : MEW yX9_away cX9_away 4 (some .int) 3 := ⟨tb_c3 34 rfl rfl, tb_c1 1 rfl rfl, by decide +kernel⟩
set_option maxRecDepth 20000 in
theorem mi_X9_away : Cond.instanceMethod yX9_away ∈ TBL := tb_c3 32 rfl rfl
set_option maxRecDepth 20000 in
theorem mz_X9_away : Cond.selects RX9 yX9_away yX9_away ∈ TBL := tb_c3 33 rfl rfl
set_option maxRecDepth 20000 in
theorem me_X9_best : MEW yX9_best cX9_best 4 (some .long) 3 := ⟨tb_c3 157 rfl rfl, tb_c1 1 rfl rfl, by decide +kernel⟩
set_option maxRecDepth 20000 in
theorem mi_X9_best : Cond.instanceMethod yX9_best ∈ TBL := tb_c3 155 rfl rfl
set_option maxRecDepth 20000 in
theorem mz_X9_best : Cond.selects RX9 yX9_best yX9_best ∈ TBL := tb_c3 156 rfl rfl
set_option maxRecDepth 20000 in
theorem me_X9_broken : MEW yX9_broken cX9_broken 2 (some .int) 1 := ⟨tb_c3 196 rfl rfl, tb_c1 1 rfl rfl, by decide +kernel⟩
set_option maxRecDepth 20000 in
theorem mi_X9_broken : Cond.instanceMethod yX9_broken ∈ TBL := tb_c3 194 rfl rfl
set_option maxRecDepth 20000 in
theorem mz_X9_broken : Cond.selects RX9 yX9_broken yX9_broken ∈ TBL := tb_c3 195 rfl rfl
set_option maxRecDepth 20000 in
theorem me_X9_days : MEW yX9_days cX9_days 6 (some .int) 2 := ⟨tb_c5 52 rfl rfl, tb_c1 1 rfl rfl, by decide +kernel⟩
set_option maxRecDepth 20000 in
theorem mi_X9_days : Cond.instanceMethod yX9_days ∈ TBL := tb_c5 50 rfl rfl
set_option maxRecDepth 20000 in
theorem mz_X9_days : Cond.selects RX9 yX9_days yX9_days ∈ TBL := tb_c5 51 rfl rfl
set_option maxRecDepth 20000 in
theorem me_X9_enough : MEW yX9_enough cX9_enough 1 (some .int) 0 := ⟨tb_c3 180 rfl rfl, tb_c1 1 rfl rfl, by decide +kernel⟩
set_option maxRecDepth 20000 in
theorem mi_X9_enough : Cond.instanceMethod yX9_enough ∈ TBL := tb_c3 178 rfl rfl
set_option maxRecDepth 20000 in
theorem mz_X9_enough : Cond.selects RX9 yX9_enough yX9_enough ∈ TBL := tb_c3 179 rfl rfl
set_option maxRecDepth 20000 in
theorem me_X9_feed : MEW yX9_feed cX9_feed 4 (some .int) 2 := ⟨tb_c2 78 rfl rfl, tb_c1 1 rfl rfl, by decide +kernel⟩
set_option maxRecDepth 20000 in
theorem mi_X9_feed : Cond.instanceMethod yX9_feed ∈ TBL := tb_c2 76 rfl rfl
set_option maxRecDepth 20000 in
theorem mz_X9_feed : Cond.selects RX9 yX9_feed yX9_feed ∈ TBL := tb_c2 77 rfl rfl
set_option maxRecDepth 20000 in
theorem me_X9_fill : MEW yX9_fill cX9_fill 3 (some .int) 2 := ⟨tb_c4 104 rfl rfl, tb_c1 1 rfl rfl, by decide +kernel⟩
set_option maxRecDepth 20000 in
theorem mi_X9_fill : Cond.instanceMethod yX9_fill ∈ TBL := tb_c4 102 rfl rfl
set_option maxRecDepth 20000 in
theorem mz_X9_fill : Cond.selects RX9 yX9_fill yX9_fill ∈ TBL := tb_c4 103 rfl rfl
set_option maxRecDepth 20000 in
theorem me_X9_house : MEW yX9_house cX9_house 2 (some .int) 0 := ⟨tb_c2 86 rfl rfl, tb_c1 1 rfl rfl, by decide +kernel⟩
set_option maxRecDepth 20000 in
theorem mi_X9_house : Cond.instanceMethod yX9_house ∈ TBL := tb_c2 84 rfl rfl
set_option maxRecDepth 20000 in
theorem mz_X9_house : Cond.selects RX9 yX9_house yX9_house ∈ TBL := tb_c2 85 rfl rfl
set_option maxRecDepth 20000 in
theorem me_X9_init : MEW yX9_init cX9_init 1 none 0 := ⟨tb_c1 24 rfl rfl, tb_c1 1 rfl rfl, by decide +kernel⟩
set_option maxRecDepth 20000 in
theorem mi_X9_init : Cond.instanceMethod yX9_init ∈ TBL := tb_c1 23 rfl rfl
set_option maxRecDepth 20000 in
theorem me_X9_isDay : MEW yX9_isDay cX9_isDay 1 (some .boolean) 1 := ⟨tb_c3 38 rfl rfl, tb_c1 1 rfl rfl, by decide +kernel⟩
set_option maxRecDepth 20000 in
theorem ms_X9_isDay : Cond.static yX9_isDay ∈ TBL := tb_c3 37 rfl rfl
set_option maxRecDepth 20000 in
theorem me_X9_isPart : MEW yX9_isPart cX9_isPart 1 (some .boolean) 1 := ⟨tb_c3 160 rfl rfl, tb_c1 1 rfl rfl, by decide +kernel⟩
set_option maxRecDepth 20000 in
theorem ms_X9_isPart : Cond.static yX9_isPart ∈ TBL := tb_c3 159 rfl rfl
set_option maxRecDepth 20000 in
theorem me_X9_isPlace : MEW yX9_isPlace cX9_isPlace 1 (some .boolean) 1 := ⟨tb_c4 199 rfl rfl, tb_c1 1 rfl rfl, by decide +kernel⟩
set_option maxRecDepth 20000 in
theorem ms_X9_isPlace : Cond.static yX9_isPlace ∈ TBL := tb_c4 198 rfl rfl
set_option maxRecDepth 20000 in
theorem me_X9_isPost : MEW yX9_isPost cX9_isPost 1 (some .boolean) 1 := ⟨tb_c3 55 rfl rfl, tb_c1 1 rfl rfl, by decide +kernel⟩
set_option maxRecDepth 20000 in
theorem ms_X9_isPost : Cond.static yX9_isPost ∈ TBL := tb_c3 54 rfl rfl
set_option maxRecDepth 20000 in
theorem me_X9_item : MEW yX9_item cX9_item 4 (some .int) 3 := ⟨tb_c4 219 rfl rfl, tb_c1 1 rfl rfl, by decide +kernel⟩
set_option maxRecDepth 20000 in
theorem mi_X9_item : Cond.instanceMethod yX9_item ∈ TBL := tb_c4 217 rfl rfl
set_option maxRecDepth 20000 in
theorem mz_X9_item : Cond.selects RX9 yX9_item yX9_item ∈ TBL := tb_c4 218 rfl rfl
set_option maxRecDepth 20000 in
theorem me_X9_judge : MEW yX9_judge cX9_judge 1 (some .int) 0 := ⟨tb_c4 188 rfl rfl, tb_c1 1 rfl rfl, by decide +kernel⟩
set_option maxRecDepth 20000 in
theorem mi_X9_judge : Cond.instanceMethod yX9_judge ∈ TBL := tb_c4 186 rfl rfl
set_option maxRecDepth 20000 in
theorem mz_X9_judge : Cond.selects RX9 yX9_judge yX9_judge ∈ TBL := tb_c4 187 rfl rfl
set_option maxRecDepth 20000 in
theorem me_X9_keep : MEW yX9_keep cX9_keep 1 (some .int) 0 := ⟨tb_c5 62 rfl rfl, tb_c1 1 rfl rfl, by decide +kernel⟩
set_option maxRecDepth 20000 in
theorem mi_X9_keep : Cond.instanceMethod yX9_keep ∈ TBL := tb_c5 60 rfl rfl
set_option maxRecDepth 20000 in
theorem mz_X9_keep : Cond.selects RX9 yX9_keep yX9_keep ∈ TBL := tb_c5 61 rfl rfl
set_option maxRecDepth 20000 in
theorem me_X9_kin : MEW yX9_kin cX9_kin 4 (some .int) 3 := ⟨tb_c3 16 rfl rfl, tb_c1 1 rfl rfl, by decide +kernel⟩
set_option maxRecDepth 20000 in
theorem mi_X9_kin : Cond.instanceMethod yX9_kin ∈ TBL := tb_c3 14 rfl rfl
set_option maxRecDepth 20000 in
theorem mz_X9_kin : Cond.selects RX9 yX9_kin yX9_kin ∈ TBL := tb_c3 15 rfl rfl
set_option maxRecDepth 20000 in
theorem me_X9_law : MEW yX9_law cX9_law 2 (some .int) 1 := ⟨tb_c3 48 rfl rfl, tb_c1 1 rfl rfl, by decide +kernel⟩
set_option maxRecDepth 20000 in
theorem mi_X9_law : Cond.instanceMethod yX9_law ∈ TBL := tb_c3 46 rfl rfl
set_option maxRecDepth 20000 in
theorem mz_X9_law : Cond.selects RX9 yX9_law yX9_law ∈ TBL := tb_c3 47 rfl rfl
set_option maxRecDepth 20000 in
theorem me_X9_loss : MEW yX9_loss cX9_loss 4 (some .int) 2 := ⟨tb_c3 83 rfl rfl, tb_c1 1 rfl rfl, by decide +kernel⟩
set_option maxRecDepth 20000 in
theorem mi_X9_loss : Cond.instanceMethod yX9_loss ∈ TBL := tb_c3 81 rfl rfl
set_option maxRecDepth 20000 in
theorem mz_X9_loss : Cond.selects RX9 yX9_loss yX9_loss ∈ TBL := tb_c3 82 rfl rfl
set_option maxRecDepth 20000 in
theorem me_X9_lot : MEW yX9_lot cX9_lot 4 (some .long) 3 := ⟨tb_c4 42 rfl rfl, tb_c1 1 rfl rfl, by decide +kernel⟩
set_option maxRecDepth 20000 in
theorem mi_X9_lot : Cond.instanceMethod yX9_lot ∈ TBL := tb_c4 40 rfl rfl
set_option maxRecDepth 20000 in
theorem mz_X9_lot : Cond.selects RX9 yX9_lot yX9_lot ∈ TBL := tb_c4 41 rfl rfl
set_option maxRecDepth 20000 in
theorem me_X9_many : MEW yX9_many cX9_many 2 (some .int) 1 := ⟨tb_c5 57 rfl rfl, tb_c1 1 rfl rfl, by decide +kernel⟩
set_option maxRecDepth 20000 in
theorem mi_X9_many : Cond.instanceMethod yX9_many ∈ TBL := tb_c5 55 rfl rfl
set_option maxRecDepth 20000 in
theorem mz_X9_many : Cond.selects RX9 yX9_many yX9_many ∈ TBL := tb_c5 56 rfl rfl
set_option maxRecDepth 20000 in
theorem me_X9_mended : MEW yX9_mended cX9_mended 3 (some .int) 2 := ⟨tb_c3 223 rfl rfl, tb_c1 1 rfl rfl, by decide +kernel⟩
set_option maxRecDepth 20000 in
theorem mi_X9_mended : Cond.instanceMethod yX9_mended ∈ TBL := tb_c3 221 rfl rfl
set_option maxRecDepth 20000 in
theorem mz_X9_mended : Cond.selects RX9 yX9_mended yX9_mended ∈ TBL := tb_c3 222 rfl rfl
set_option maxRecDepth 20000 in
theorem me_X9_needed : MEW yX9_needed cX9_needed 1 (some .int) 0 := ⟨tb_c3 188 rfl rfl, tb_c1 1 rfl rfl, by decide +kernel⟩
set_option maxRecDepth 20000 in
theorem mi_X9_needed : Cond.instanceMethod yX9_needed ∈ TBL := tb_c3 186 rfl rfl
set_option maxRecDepth 20000 in
theorem mz_X9_needed : Cond.selects RX9 yX9_needed yX9_needed ∈ TBL := tb_c3 187 rfl rfl
set_option maxRecDepth 20000 in
theorem me_X9_pays : MEW yX9_pays cX9_pays 1 (some .int) 0 := ⟨tb_c3 140 rfl rfl, tb_c1 1 rfl rfl, by decide +kernel⟩
set_option maxRecDepth 20000 in
theorem mi_X9_pays : Cond.instanceMethod yX9_pays ∈ TBL := tb_c3 138 rfl rfl
set_option maxRecDepth 20000 in
theorem mz_X9_pays : Cond.selects RX9 yX9_pays yX9_pays ∈ TBL := tb_c3 139 rfl rfl
set_option maxRecDepth 20000 in
theorem me_X9_person : MEW yX9_person cX9_person 1 (some .int) 0 := ⟨tb_c3 11 rfl rfl, tb_c1 1 rfl rfl, by decide +kernel⟩
set_option maxRecDepth 20000 in
theorem mi_X9_person : Cond.instanceMethod yX9_person ∈ TBL := tb_c3 9 rfl rfl
set_option maxRecDepth 20000 in
theorem mz_X9_person : Cond.selects RX9 yX9_person yX9_person ∈ TBL := tb_c3 10 rfl rfl
set_option maxRecDepth 20000 in
theorem me_X9_plan : MEW yX9_plan cX9_plan 3 (some .int) 2 := ⟨tb_c4 88 rfl rfl, tb_c1 1 rfl rfl, by decide +kernel⟩
set_option maxRecDepth 20000 in
theorem mi_X9_plan : Cond.instanceMethod yX9_plan ∈ TBL := tb_c4 86 rfl rfl
set_option maxRecDepth 20000 in
theorem mz_X9_plan : Cond.selects RX9 yX9_plan yX9_plan ∈ TBL := tb_c4 87 rfl rfl
set_option maxRecDepth 20000 in
theorem me_X9_planOf : MEW yX9_planOf cX9_planOf 3 (some .int) 2 := ⟨tb_c4 96 rfl rfl, tb_c1 1 rfl rfl, by decide +kernel⟩
set_option maxRecDepth 20000 in
theorem mi_X9_planOf : Cond.instanceMethod yX9_planOf ∈ TBL := tb_c4 94 rfl rfl
set_option maxRecDepth 20000 in
theorem mz_X9_planOf : Cond.selects RX9 yX9_planOf yX9_planOf ∈ TBL := tb_c4 95 rfl rfl
set_option maxRecDepth 20000 in
theorem me_X9_planOn : MEW yX9_planOn cX9_planOn 2 (some .int) 1 := ⟨tb_c5 7 rfl rfl, tb_c1 1 rfl rfl, by decide +kernel⟩
set_option maxRecDepth 20000 in
theorem mi_X9_planOn : Cond.instanceMethod yX9_planOn ∈ TBL := tb_c5 6 rfl rfl
set_option maxRecDepth 20000 in
theorem mz_X9_planOn : Cond.selects RX9 yX9_planOn yX9_planOn ∈ TBL := tb_of 32 rfl rfl
set_option maxRecDepth 20000 in
theorem me_X9_post : MEW yX9_post cX9_post 5 (some .int) 3 := ⟨tb_c3 52 rfl rfl, tb_c1 1 rfl rfl, by decide +kernel⟩
set_option maxRecDepth 20000 in
theorem mi_X9_post : Cond.instanceMethod yX9_post ∈ TBL := tb_c3 50 rfl rfl
set_option maxRecDepth 20000 in
theorem mz_X9_post : Cond.selects RX9 yX9_post yX9_post ∈ TBL := tb_c3 51 rfl rfl
set_option maxRecDepth 20000 in
theorem me_X9_postOf : MEW yX9_postOf cX9_postOf 4 (some .int) 2 := ⟨tb_c3 67 rfl rfl, tb_c1 1 rfl rfl, by decide +kernel⟩
set_option maxRecDepth 20000 in
theorem mi_X9_postOf : Cond.instanceMethod yX9_postOf ∈ TBL := tb_c3 65 rfl rfl
set_option maxRecDepth 20000 in
theorem mz_X9_postOf : Cond.selects RX9 yX9_postOf yX9_postOf ∈ TBL := tb_c3 66 rfl rfl
set_option maxRecDepth 20000 in
theorem me_X9_prove : MEW yX9_prove cX9_prove 1 (some .int) 0 := ⟨tb_c4 161 rfl rfl, tb_c1 1 rfl rfl, by decide +kernel⟩
set_option maxRecDepth 20000 in
theorem mi_X9_prove : Cond.instanceMethod yX9_prove ∈ TBL := tb_c4 159 rfl rfl
set_option maxRecDepth 20000 in
theorem mz_X9_prove : Cond.selects RX9 yX9_prove yX9_prove ∈ TBL := tb_c4 160 rfl rfl
set_option maxRecDepth 20000 in
theorem me_X9_put : MEW yX9_put cX9_put 4 (some .int) 3 := ⟨tb_c4 207 rfl rfl, tb_c1 1 rfl rfl, by decide +kernel⟩
set_option maxRecDepth 20000 in
theorem mi_X9_put : Cond.instanceMethod yX9_put ∈ TBL := tb_c4 205 rfl rfl
set_option maxRecDepth 20000 in
theorem mz_X9_put : Cond.selects RX9 yX9_put yX9_put ∈ TBL := tb_c4 206 rfl rfl
set_option maxRecDepth 20000 in
theorem me_X9_row : MEW yX9_row cX9_row 3 (some .int) 2 := ⟨tb_c4 176 rfl rfl, tb_c1 1 rfl rfl, by decide +kernel⟩
set_option maxRecDepth 20000 in
theorem mi_X9_row : Cond.instanceMethod yX9_row ∈ TBL := tb_c4 174 rfl rfl
set_option maxRecDepth 20000 in
theorem mz_X9_row : Cond.selects RX9 yX9_row yX9_row ∈ TBL := tb_c4 175 rfl rfl
set_option maxRecDepth 20000 in
theorem me_X9_sat : MEW yX9_sat cX9_sat 3 (some .int) 2 := ⟨tb_c4 70 rfl rfl, tb_c1 1 rfl rfl, by decide +kernel⟩
set_option maxRecDepth 20000 in
theorem mi_X9_sat : Cond.instanceMethod yX9_sat ∈ TBL := tb_c4 68 rfl rfl
set_option maxRecDepth 20000 in
theorem mz_X9_sat : Cond.selects RX9 yX9_sat yX9_sat ∈ TBL := tb_c4 69 rfl rfl
set_option maxRecDepth 20000 in
theorem me_X9_seed : MEW yX9_seed cX9_seed 3 (some .int) 1 := ⟨tb_c4 157 rfl rfl, tb_c1 1 rfl rfl, by decide +kernel⟩
set_option maxRecDepth 20000 in
theorem mi_X9_seed : Cond.instanceMethod yX9_seed ∈ TBL := tb_c4 155 rfl rfl
set_option maxRecDepth 20000 in
theorem mz_X9_seed : Cond.selects RX9 yX9_seed yX9_seed ∈ TBL := tb_c4 156 rfl rfl
set_option maxRecDepth 20000 in
theorem me_X9_seen : MEW yX9_seen cX9_seen 2 (some .int) 1 := ⟨tb_c3 108 rfl rfl, tb_c1 1 rfl rfl, by decide +kernel⟩
set_option maxRecDepth 20000 in
theorem mi_X9_seen : Cond.instanceMethod yX9_seen ∈ TBL := tb_c3 106 rfl rfl
set_option maxRecDepth 20000 in
theorem mz_X9_seen : Cond.selects RX9 yX9_seen yX9_seen ∈ TBL := tb_c3 107 rfl rfl
set_option maxRecDepth 20000 in
theorem me_X9_set : MEW yX9_set cX9_set 4 (some .int) 2 := ⟨tb_c3 43 rfl rfl, tb_c1 1 rfl rfl, by decide +kernel⟩
set_option maxRecDepth 20000 in
theorem mi_X9_set : Cond.instanceMethod yX9_set ∈ TBL := tb_c3 41 rfl rfl
set_option maxRecDepth 20000 in
theorem mz_X9_set : Cond.selects RX9 yX9_set yX9_set ∈ TBL := tb_c3 42 rfl rfl
set_option maxRecDepth 20000 in
theorem me_X9_sheet : MEW yX9_sheet cX9_sheet 4 (some .int) 3 := ⟨tb_c4 196 rfl rfl, tb_c1 1 rfl rfl, by decide +kernel⟩
set_option maxRecDepth 20000 in
theorem mi_X9_sheet : Cond.instanceMethod yX9_sheet ∈ TBL := tb_c4 194 rfl rfl
set_option maxRecDepth 20000 in
theorem mz_X9_sheet : Cond.selects RX9 yX9_sheet yX9_sheet ∈ TBL := tb_c4 195 rfl rfl
set_option maxRecDepth 20000 in
theorem me_X9_shelf : MEW yX9_shelf cX9_shelf 4 (some .int) 3 := ⟨tb_c4 223 rfl rfl, tb_c1 1 rfl rfl, by decide +kernel⟩
set_option maxRecDepth 20000 in
theorem mi_X9_shelf : Cond.instanceMethod yX9_shelf ∈ TBL := tb_c4 221 rfl rfl
set_option maxRecDepth 20000 in
theorem mz_X9_shelf : Cond.selects RX9 yX9_shelf yX9_shelf ∈ TBL := tb_c4 222 rfl rfl
set_option maxRecDepth 20000 in
theorem me_X9_surprise : MEW yX9_surprise cX9_surprise 3 (some .int) 2 := ⟨tb_c3 71 rfl rfl, tb_c1 1 rfl rfl, by decide +kernel⟩
set_option maxRecDepth 20000 in
theorem mi_X9_surprise : Cond.instanceMethod yX9_surprise ∈ TBL := tb_c3 69 rfl rfl
set_option maxRecDepth 20000 in
theorem mz_X9_surprise : Cond.selects RX9 yX9_surprise yX9_surprise ∈ TBL := tb_c3 70 rfl rfl
set_option maxRecDepth 20000 in
theorem me_X9_suspects : MEW yX9_suspects cX9_suspects 3 (some .int) 1 := ⟨tb_c4 75 rfl rfl, tb_c1 1 rfl rfl, by decide +kernel⟩
set_option maxRecDepth 20000 in
theorem mi_X9_suspects : Cond.instanceMethod yX9_suspects ∈ TBL := tb_c4 73 rfl rfl
set_option maxRecDepth 20000 in
theorem mz_X9_suspects : Cond.selects RX9 yX9_suspects yX9_suspects ∈ TBL := tb_c4 74 rfl rfl
set_option maxRecDepth 20000 in
theorem me_X9_taken : MEW yX9_taken cX9_taken 6 (some .int) 2 := ⟨tb_c4 239 rfl rfl, tb_c1 1 rfl rfl, by decide +kernel⟩
set_option maxRecDepth 20000 in
theorem mi_X9_taken : Cond.instanceMethod yX9_taken ∈ TBL := tb_c4 237 rfl rfl
set_option maxRecDepth 20000 in
theorem mz_X9_taken : Cond.selects RX9 yX9_taken yX9_taken ∈ TBL := tb_c4 238 rfl rfl
set_option maxRecDepth 20000 in
theorem me_X9_trace : MEW yX9_trace cX9_trace 2 (some .int) 1 := ⟨tb_c5 48 rfl rfl, tb_c1 1 rfl rfl, by decide +kernel⟩
set_option maxRecDepth 20000 in
theorem mi_X9_trace : Cond.instanceMethod yX9_trace ∈ TBL := tb_c5 46 rfl rfl
set_option maxRecDepth 20000 in
theorem mz_X9_trace : Cond.selects RX9 yX9_trace yX9_trace ∈ TBL := tb_c5 47 rfl rfl
set_option maxRecDepth 20000 in
theorem me_X9_trust : MEW yX9_trust cX9_trust 6 (some .int) 3 := ⟨tb_c3 29 rfl rfl, tb_c1 1 rfl rfl, by decide +kernel⟩
set_option maxRecDepth 20000 in
theorem mi_X9_trust : Cond.instanceMethod yX9_trust ∈ TBL := tb_c3 27 rfl rfl
set_option maxRecDepth 20000 in
theorem mz_X9_trust : Cond.selects RX9 yX9_trust yX9_trust ∈ TBL := tb_c3 28 rfl rfl
set_option maxRecDepth 20000 in
theorem me_X9_trustOn : MEW yX9_trustOn cX9_trustOn 4 (some .int) 3 := ⟨tb_c3 87 rfl rfl, tb_c1 1 rfl rfl, by decide +kernel⟩
set_option maxRecDepth 20000 in
theorem mi_X9_trustOn : Cond.instanceMethod yX9_trustOn ∈ TBL := tb_c3 85 rfl rfl
set_option maxRecDepth 20000 in
theorem mz_X9_trustOn : Cond.selects RX9 yX9_trustOn yX9_trustOn ∈ TBL := tb_c3 86 rfl rfl
set_option maxRecDepth 20000 in
theorem me_X9_worth : MEW yX9_worth cX9_worth 2 (some .int) 1 := ⟨tb_c3 123 rfl rfl, tb_c1 1 rfl rfl, by decide +kernel⟩
set_option maxRecDepth 20000 in
theorem mi_X9_worth : Cond.instanceMethod yX9_worth ∈ TBL := tb_c3 121 rfl rfl
set_option maxRecDepth 20000 in
theorem mz_X9_worth : Cond.selects RX9 yX9_worth yX9_worth ∈ TBL := tb_c3 122 rfl rfl
set_option maxRecDepth 20000 in
theorem cw_X0_35 : CWS RX0 35 yX0_bodyOf cX0_bodyOf 4 (some .int) 2 := ⟨me_X0_bodyOf, tb_c5 29 rfl rfl, ms_X0_bodyOf⟩
set_option maxRecDepth 20000 in
theorem cw_X0_39 : CWS RX0 39 yX0_run cX0_run 5 (some .int) 4 := ⟨me_X0_run, tb_c5 34 rfl rfl, ms_X0_run⟩
set_option maxRecDepth 20000 in
theorem cw_X0_46 : CWV RX0 46 RX0 yX0_note cX0_note 2 none 1 := ⟨me_X0_note, tb_c5 37 rfl rfl, mi_X0_note, mz_X0_note⟩
set_option maxRecDepth 20000 in
theorem cw_X0_50 : CWV RX0 50 RX0 yX0_share cX0_share 3 (some .int) 1 := ⟨me_X0_share, tb_c5 41 rfl rfl, mi_X0_share, mz_X0_share⟩
set_option maxRecDepth 20000 in
theorem cw_X10_105 : CWS RX10 105 yX10_in cX10_in 3 (some .boolean) 3 := ⟨me_X10_in, tb_c5 238 rfl rfl, ms_X10_in⟩
set_option maxRecDepth 20000 in
theorem cw_X10_109 : CWV RX10 109 RX10 yX10_isPerson cX10_isPerson 2 (some .boolean) 1 := ⟨me_X10_isPerson, tb_c6 85 rfl rfl, mi_X10_isPerson, mz_X10_isPerson⟩
set_option maxRecDepth 20000 in
theorem cw_X10_124 : CWV RX10 124 RX10 yX10_byteAt cX10_byteAt 2 (some .int) 1 := ⟨me_X10_byteAt, tb_c6 10 rfl rfl, mi_X10_byteAt, mz_X10_byteAt⟩
set_option maxRecDepth 20000 in
theorem cw_X10_128 : CWS RX10 128 yX10_isLetter cX10_isLetter 1 (some .boolean) 1 := ⟨me_X10_isLetter, tb_c6 14 rfl rfl, ms_X10_isLetter⟩
set_option maxRecDepth 20000 in
theorem cw_X10_131 : CWS RX10 131 yX10_isDigit cX10_isDigit 1 (some .boolean) 1 := ⟨me_X10_isDigit, tb_c6 17 rfl rfl, ms_X10_isDigit⟩
set_option maxRecDepth 20000 in
theorem cw_X10_152 : CWV RX10 152 RX10 yX10_isWord cX10_isWord 3 (some .boolean) 1 := ⟨me_X10_isWord, tb_c6 28 rfl rfl, mi_X10_isWord, mz_X10_isWord⟩
set_option maxRecDepth 20000 in
theorem cw_X10_174 : CWV RX10 174 RX10 yX10_advance cX10_advance 2 none 0 := ⟨me_X10_advance, tb_c6 6 rfl rfl, mi_X10_advance, mz_X10_advance⟩
set_option maxRecDepth 20000 in
theorem cw_X10_177 : CWV RX10 177 RX10 yX10_isMark cX10_isMark 2 (some .boolean) 1 := ⟨me_X10_isMark, tb_c6 36 rfl rfl, mi_X10_isMark, mz_X10_isMark⟩
set_option maxRecDepth 20000 in
theorem cw_X10_183 : CWV RX10 183 RX10 yX10_wantNumber cX10_wantNumber 4 (some .int) 2 := ⟨me_X10_wantNumber, tb_c6 46 rfl rfl, mi_X10_wantNumber, mz_X10_wantNumber⟩
set_option maxRecDepth 20000 in
theorem cw_X10_187 : CWV RX10 187 RX10 yX10_wantEnd cX10_wantEnd 1 none 0 := ⟨me_X10_wantEnd, tb_c6 32 rfl rfl, mi_X10_wantEnd, mz_X10_wantEnd⟩
set_option maxRecDepth 20000 in
theorem cw_X10_192 : CWV RX10 192 RX10 yX10_wantWord cX10_wantWord 3 none 1 := ⟨me_X10_wantWord, tb_c6 56 rfl rfl, mi_X10_wantWord, mz_X10_wantWord⟩
set_option maxRecDepth 20000 in
theorem cw_X10_204 : CWV RX10 204 RX10 yX10_wantTwo cX10_wantTwo 5 none 1 := ⟨me_X10_wantTwo, tb_c6 42 rfl rfl, mi_X10_wantTwo, mz_X10_wantTwo⟩
set_option maxRecDepth 20000 in
theorem cw_X10_210 : CWV RX10 210 RX10 yX10_wantAway cX10_wantAway 5 none 0 := ⟨me_X10_wantAway, tb_c6 51 rfl rfl, mi_X10_wantAway, mz_X10_wantAway⟩
set_option maxRecDepth 20000 in
theorem cw_X10_213 : CWV RX10 213 RX10 yX10_lawHere cX10_lawHere 1 (some .int) 0 := ⟨me_X10_lawHere, tb_c6 61 rfl rfl, mi_X10_lawHere, mz_X10_lawHere⟩
set_option maxRecDepth 20000 in
theorem cw_X10_217 : CWV RX10 217 RX10 yX10_wantClause cX10_wantClause 3 none 0 := ⟨me_X10_wantClause, tb_c6 23 rfl rfl, mi_X10_wantClause, mz_X10_wantClause⟩
set_option maxRecDepth 20000 in
theorem cw_X10_226 : CWV RX10 226 RX10 yX10_areTwo cX10_areTwo 3 (some .boolean) 2 := ⟨me_X10_areTwo, tb_c6 81 rfl rfl, mi_X10_areTwo, mz_X10_areTwo⟩
set_option maxRecDepth 20000 in
theorem cw_X10_230 : CWV RX10 230 RX10 yX10_areKin cX10_areKin 3 (some .boolean) 2 := ⟨me_X10_areKin, tb_c6 89 rfl rfl, mi_X10_areKin, mz_X10_areKin⟩
set_option maxRecDepth 20000 in
theorem cw_X10_233 : CWS RX10 233 yX10_isDay cX10_isDay 1 (some .boolean) 1 := ⟨me_X10_isDay, tb_c6 101 rfl rfl, ms_X10_isDay⟩
set_option maxRecDepth 20000 in
theorem cw_X10_236 : CWV RX10 236 RX10 yX10_isAway cX10_isAway 3 (some .boolean) 2 := ⟨me_X10_isAway, tb_c6 104 rfl rfl, mi_X10_isAway, mz_X10_isAway⟩
set_option maxRecDepth 20000 in
theorem cw_X10_239 : CWS RX10 239 yX10_isLaw cX10_isLaw 1 (some .boolean) 1 := ⟨me_X10_isLaw, tb_c6 112 rfl rfl, ms_X10_isLaw⟩
set_option maxRecDepth 20000 in
theorem cw_X10_242 : CWS RX10 242 yX10_isPost cX10_isPost 1 (some .boolean) 1 := ⟨me_X10_isPost, tb_c6 123 rfl rfl, ms_X10_isPost⟩
set_option maxRecDepth 20000 in
theorem cw_X10_245 : CWS RX10 245 yX10_orNobody cX10_orNobody 1 (some .int) 1 := ⟨me_X10_orNobody, tb_c6 126 rfl rfl, ms_X10_orNobody⟩
set_option maxRecDepth 20000 in
theorem cw_X10_248 : CWV RX10 248 RX10 yX10_twoOn cX10_twoOn 4 (some .int) 1 := ⟨me_X10_twoOn, tb_c6 149 rfl rfl, mi_X10_twoOn, mz_X10_twoOn⟩
set_option maxRecDepth 20000 in
theorem cw_X10_251 : CWS RX10 251 yX10_pair cX10_pair 2 (some .int) 2 := ⟨me_X10_pair, tb_c6 153 rfl rfl, ms_X10_pair⟩
set_option maxRecDepth 20000 in
theorem cw_X10_254 : CWV RX10 254 RX10 yX10_trustOf cX10_trustOf 6 (some .int) 3 := ⟨me_X10_trustOf, tb_c6 145 rfl rfl, mi_X10_trustOf, mz_X10_trustOf⟩
set_option maxRecDepth 20000 in
theorem cw_X10_258 : CWV RX10 258 RX10 yX10_isNeither cX10_isNeither 5 (some .boolean) 3 := ⟨me_X10_isNeither, tb_c6 168 rfl rfl, mi_X10_isNeither, mz_X10_isNeither⟩
set_option maxRecDepth 20000 in
theorem cw_X10_261 : CWV RX10 261 RX10 yX10_isSurprise cX10_isSurprise 2 (some .boolean) 1 := ⟨me_X10_isSurprise, tb_c6 160 rfl rfl, mi_X10_isSurprise, mz_X10_isSurprise⟩
set_option maxRecDepth 20000 in
theorem cw_X10_264 : CWV RX10 264 RX10 yX10_seenBy cX10_seenBy 5 (some .int) 2 := ⟨me_X10_seenBy, tb_c6 164 rfl rfl, mi_X10_seenBy, mz_X10_seenBy⟩
set_option maxRecDepth 20000 in
theorem cw_X10_268 : CWV RX10 268 RX10 yX10_worthBy cX10_worthBy 4 (some .int) 2 := ⟨me_X10_worthBy, tb_c6 176 rfl rfl, mi_X10_worthBy, mz_X10_worthBy⟩
set_option maxRecDepth 20000 in
theorem cw_X10_271 : CWV RX10 271 RX10 yX10_paysBy cX10_paysBy 5 (some .boolean) 3 := ⟨me_X10_paysBy, tb_c6 184 rfl rfl, mi_X10_paysBy, mz_X10_paysBy⟩
set_option maxRecDepth 20000 in
theorem cw_X10_281 : CWS RX10 281 yX10_isSide cX10_isSide 1 (some .boolean) 1 := ⟨me_X10_isSide, tb_c6 192 rfl rfl, ms_X10_isSide⟩
set_option maxRecDepth 20000 in
theorem cw_X10_286 : CWV RX10 286 RX10 yX10_lowest cX10_lowest 11 none 2 := ⟨me_X10_lowest, tb_c6 196 rfl rfl, mi_X10_lowest, mz_X10_lowest⟩
set_option maxRecDepth 20000 in
theorem cw_X10_290 : CWV RX10 290 RX10 yX10_brokenOn cX10_brokenOn 6 (some .int) 1 := ⟨me_X10_brokenOn, tb_c6 212 rfl rfl, mi_X10_brokenOn, mz_X10_brokenOn⟩
set_option maxRecDepth 20000 in
theorem cw_X10_293 : CWV RX10 293 RX10 yX10_keepsPosts cX10_keepsPosts 4 none 2 := ⟨me_X10_keepsPosts, tb_c6 220 rfl rfl, mi_X10_keepsPosts, mz_X10_keepsPosts⟩
set_option maxRecDepth 20000 in
theorem cw_X10_297 : CWV RX10 297 RX10 yX10_comes cX10_comes 6 (some .boolean) 2 := ⟨me_X10_comes, tb_c6 224 rfl rfl, mi_X10_comes, mz_X10_comes⟩
set_option maxRecDepth 20000 in
theorem cw_X10_300 : CWV RX10 300 RX10 yX10_givesPosts cX10_givesPosts 4 none 2 := ⟨me_X10_givesPosts, tb_c6 228 rfl rfl, mi_X10_givesPosts, mz_X10_givesPosts⟩
set_option maxRecDepth 20000 in
theorem cw_X10_303 : CWV RX10 303 RX10 yX10_sits cX10_sits 5 (some .boolean) 2 := ⟨me_X10_sits, tb_c6 236 rfl rfl, mi_X10_sits, mz_X10_sits⟩
set_option maxRecDepth 20000 in
theorem cw_X10_306 : CWV RX10 306 RX10 yX10_satOn cX10_satOn 5 (some .int) 2 := ⟨me_X10_satOn, tb_c7 4 rfl rfl, mi_X10_satOn, mz_X10_satOn⟩
set_option maxRecDepth 20000 in
theorem cw_X10_309 : CWV RX10 309 RX10 yX10_sitting cX10_sitting 3 (some .int) 0 := ⟨me_X10_sitting, tb_c7 12 rfl rfl, mi_X10_sitting, mz_X10_sitting⟩
set_option maxRecDepth 20000 in
theorem cw_X10_312 : CWS RX10 312 yX10_ones cX10_ones 3 (some .int) 1 := ⟨me_X10_ones, tb_c7 16 rfl rfl, ms_X10_ones⟩
set_option maxRecDepth 20000 in
theorem cw_X10_318 : CWV RX10 318 RX10 yX10_isPlan cX10_isPlan 2 (some .boolean) 1 := ⟨me_X10_isPlan, tb_c7 31 rfl rfl, mi_X10_isPlan, mz_X10_isPlan⟩
set_option maxRecDepth 20000 in
theorem cw_X10_321 : CWV RX10 321 RX10 yX10_lastSat cX10_lastSat 6 (some .int) 3 := ⟨me_X10_lastSat, tb_c7 47 rfl rfl, mi_X10_lastSat, mz_X10_lastSat⟩
set_option maxRecDepth 20000 in
theorem cw_X10_324 : CWS RX10 324 yX10_leastOf cX10_leastOf 2 (some .int) 1 := ⟨me_X10_leastOf, tb_c7 51 rfl rfl, ms_X10_leastOf⟩
set_option maxRecDepth 20000 in
theorem cw_X10_328 : CWV RX10 328 RX10 yX10_fillsDraw cX10_fillsDraw 6 none 1 := ⟨me_X10_fillsDraw, tb_c7 54 rfl rfl, mi_X10_fillsDraw, mz_X10_fillsDraw⟩
set_option maxRecDepth 20000 in
theorem cw_X10_332 : CWV RX10 332 RX10 yX10_fillsTold cX10_fillsTold 4 (some .boolean) 1 := ⟨me_X10_fillsTold, tb_c7 39 rfl rfl, mi_X10_fillsTold, mz_X10_fillsTold⟩
set_option maxRecDepth 20000 in
theorem cw_X10_335 : CWV RX10 335 RX10 yX10_fillsTurn cX10_fillsTurn 11 none 2 := ⟨me_X10_fillsTurn, tb_c7 43 rfl rfl, mi_X10_fillsTurn, mz_X10_fillsTurn⟩
set_option maxRecDepth 20000 in
theorem cw_X10_338 : CWV RX10 338 RX10 yX10_fillsCount cX10_fillsCount 3 none 1 := ⟨me_X10_fillsCount, tb_c7 59 rfl rfl, mi_X10_fillsCount, mz_X10_fillsCount⟩
set_option maxRecDepth 20000 in
theorem cw_X10_341 : CWV RX10 341 RX10 yX10_findRows cX10_findRows 2 none 0 := ⟨me_X10_findRows, tb_c7 71 rfl rfl, mi_X10_findRows, mz_X10_findRows⟩
set_option maxRecDepth 20000 in
theorem cw_X10_344 : CWV RX10 344 RX10 yX10_isRow cX10_isRow 3 (some .boolean) 2 := ⟨me_X10_isRow, tb_c7 79 rfl rfl, mi_X10_isRow, mz_X10_isRow⟩
set_option maxRecDepth 20000 in
theorem cw_X10_347 : CWS RX10 347 yX10_isShelf cX10_isShelf 1 (some .boolean) 1 := ⟨me_X10_isShelf, tb_c7 95 rfl rfl, ms_X10_isShelf⟩
set_option maxRecDepth 20000 in
theorem cw_X10_350 : CWV RX10 350 RX10 yX10_lacksSort cX10_lacksSort 3 (some .int) 2 := ⟨me_X10_lacksSort, tb_c7 98 rfl rfl, mi_X10_lacksSort, mz_X10_lacksSort⟩
set_option maxRecDepth 20000 in
theorem cw_X10_353 : CWV RX10 353 RX10 yX10_isHeld cX10_isHeld 3 (some .boolean) 2 := ⟨me_X10_isHeld, tb_c7 118 rfl rfl, mi_X10_isHeld, mz_X10_isHeld⟩
set_option maxRecDepth 20000 in
theorem cw_X10_356 : CWV RX10 356 RX10 yX10_kindOn cX10_kindOn 2 (some .int) 1 := ⟨me_X10_kindOn, tb_c7 126 rfl rfl, mi_X10_kindOn, mz_X10_kindOn⟩
set_option maxRecDepth 20000 in
theorem cw_X10_359 : CWS RX10 359 yX10_isUnder cX10_isUnder 2 (some .boolean) 2 := ⟨me_X10_isUnder, tb_c7 130 rfl rfl, ms_X10_isUnder⟩
set_option maxRecDepth 20000 in
theorem cw_X10_365 : CWV RX10 365 RX10 yX10_ran cX10_ran 2 none 1 := ⟨me_X10_ran, tb_c7 141 rfl rfl, mi_X10_ran, mz_X10_ran⟩
set_option maxRecDepth 20000 in
theorem cw_X10_374 : CWV RX10 374 RX10 yX10_plainSits cX10_plainSits 2 (some .int) 1 := ⟨me_X10_plainSits, tb_c7 145 rfl rfl, mi_X10_plainSits, mz_X10_plainSits⟩
set_option maxRecDepth 20000 in
theorem cw_X10_377 : CWV RX10 377 RX10 yX10_sitsIt cX10_sitsIt 2 (some .int) 1 := ⟨me_X10_sitsIt, tb_c7 137 rfl rfl, mi_X10_sitsIt, mz_X10_sitsIt⟩
set_option maxRecDepth 20000 in
theorem cw_X10_380 : CWV RX10 380 RX10 yX10_plainCounts cX10_plainCounts 2 (some .int) 1 := ⟨me_X10_plainCounts, tb_c7 153 rfl rfl, mi_X10_plainCounts, mz_X10_plainCounts⟩
set_option maxRecDepth 20000 in
theorem cw_X10_386 : CWV RX10 386 RX10 yX10_turnCounts cX10_turnCounts 2 (some .int) 1 := ⟨me_X10_turnCounts, tb_c7 157 rfl rfl, mi_X10_turnCounts, mz_X10_turnCounts⟩
set_option maxRecDepth 20000 in
theorem cw_X10_392 : CWV RX10 392 RX10 yX10_plainShares cX10_plainShares 2 (some .int) 1 := ⟨me_X10_plainShares, tb_c7 165 rfl rfl, mi_X10_plainShares, mz_X10_plainShares⟩
set_option maxRecDepth 20000 in
theorem cw_X10_395 : CWV RX10 395 RX10 yX10_countsIt cX10_countsIt 3 (some .int) 1 := ⟨me_X10_countsIt, tb_c7 149 rfl rfl, mi_X10_countsIt, mz_X10_countsIt⟩
set_option maxRecDepth 20000 in
theorem cw_X10_398 : CWV RX10 398 RX10 yX10_plainTells cX10_plainTells 2 (some .int) 1 := ⟨me_X10_plainTells, tb_c7 173 rfl rfl, mi_X10_plainTells, mz_X10_plainTells⟩
set_option maxRecDepth 20000 in
theorem cw_X10_401 : CWV RX10 401 RX10 yX10_sharesIt cX10_sharesIt 3 (some .int) 1 := ⟨me_X10_sharesIt, tb_c7 161 rfl rfl, mi_X10_sharesIt, mz_X10_sharesIt⟩
set_option maxRecDepth 20000 in
theorem cw_X10_404 : CWV RX10 404 RX10 yX10_tellsIt cX10_tellsIt 3 (some .int) 1 := ⟨me_X10_tellsIt, tb_c7 169 rfl rfl, mi_X10_tellsIt, mz_X10_tellsIt⟩
set_option maxRecDepth 20000 in
theorem cw_X10_410 : CWV RX10 410 RX10 yX10_move cX10_move 5 none 3 := ⟨me_X10_move, tb_c7 193 rfl rfl, mi_X10_move, mz_X10_move⟩
set_option maxRecDepth 20000 in
theorem cw_X10_414 : CWV RX10 414 RX10 yX10_moveAll cX10_moveAll 2 none 1 := ⟨me_X10_moveAll, tb_c7 189 rfl rfl, mi_X10_moveAll, mz_X10_moveAll⟩
set_option maxRecDepth 20000 in
theorem cw_X1_30 : CWS RX1 30 yJ7_fill_53178 cJ7_fill_53178 4 none 2 := ⟨me_J7_fill_53178, tb_c2 13 rfl rfl, ms_J7_fill_53178⟩
set_option maxRecDepth 20000 in
theorem cw_X2_46 : CWS RX2 46 yJ7_fill_53178 cJ7_fill_53178 4 none 2 := ⟨me_J7_fill_53178, tb_c1 39 rfl rfl, ms_J7_fill_53178⟩
set_option maxRecDepth 20000 in
theorem cw_X2_52 : CWV RX2 52 RX2 yX2_isPerson cX2_isPerson 2 (some .boolean) 1 := ⟨me_X2_isPerson, tb_c3 21 rfl rfl, mi_X2_isPerson, mz_X2_isPerson⟩
set_option maxRecDepth 20000 in
theorem cw_X2_56 : CWV RX2 56 RX2 yX2_areKin cX2_areKin 3 (some .boolean) 2 := ⟨me_X2_areKin, tb_c2 200 rfl rfl, mi_X2_areKin, mz_X2_areKin⟩
set_option maxRecDepth 20000 in
theorem cw_X2_60 : CWV RX2 60 RX2 yX2_isAway cX2_isAway 3 (some .boolean) 2 := ⟨me_X2_isAway, tb_c2 224 rfl rfl, mi_X2_isAway, mz_X2_isAway⟩
set_option maxRecDepth 20000 in
theorem cw_X2_63 : CWV RX2 63 RX2 yX2_hasSurprise cX2_hasSurprise 2 (some .boolean) 1 := ⟨me_X2_hasSurprise, tb_c3 76 rfl rfl, mi_X2_hasSurprise, mz_X2_hasSurprise⟩
set_option maxRecDepth 20000 in
theorem cw_X2_66 : CWS RX2 66 yX2_pairOf cX2_pairOf 2 (some .int) 2 := ⟨me_X2_pairOf, tb_c3 96 rfl rfl, ms_X2_pairOf⟩
set_option maxRecDepth 20000 in
theorem cw_X2_70 : CWV RX2 70 RX2 yX2_pairOn cX2_pairOn 4 (some .int) 1 := ⟨me_X2_pairOn, tb_c3 219 rfl rfl, mi_X2_pairOn, mz_X2_pairOn⟩
set_option maxRecDepth 20000 in
theorem cw_X2_74 : CWV RX2 74 RX2 yX2_lastDayOf cX2_lastDayOf 4 (some .int) 2 := ⟨me_X2_lastDayOf, tb_c3 215 rfl rfl, mi_X2_lastDayOf, mz_X2_lastDayOf⟩
set_option maxRecDepth 20000 in
theorem cw_X2_77 : CWV RX2 77 RX2 yX2_lossOf cX2_lossOf 4 (some .int) 1 := ⟨me_X2_lossOf, tb_c4 80 rfl rfl, mi_X2_lossOf, mz_X2_lossOf⟩
set_option maxRecDepth 20000 in
theorem cw_X3_21 : CWV RX3 21 RX2 yX2_pairOn cX2_pairOn 4 (some .int) 1 := ⟨me_X2_pairOn, tb_c3 92 rfl rfl, mi_X2_pairOn, mz_X2_pairOn⟩
set_option maxRecDepth 20000 in
theorem cw_X3_25 : CWV RX3 25 RX3 yX3_trustAfter cX3_trustAfter 3 (some .int) 2 := ⟨me_X3_trustAfter, tb_c3 97 rfl rfl, mi_X3_trustAfter, mz_X3_trustAfter⟩
set_option maxRecDepth 20000 in
theorem cw_X3_44 : CWV RX3 44 RX2 yX2_at cX2_at 3 (some .int) 2 := ⟨me_X2_at, tb_c3 114 rfl rfl, mi_X2_at, mz_X2_at⟩
set_option maxRecDepth 20000 in
theorem cw_X3_47 : CWV RX3 47 RX2 yX2_hasSurprise cX2_hasSurprise 2 (some .boolean) 1 := ⟨me_X2_hasSurprise, tb_c3 115 rfl rfl, mi_X2_hasSurprise, mz_X2_hasSurprise⟩
set_option maxRecDepth 20000 in
theorem cw_X3_51 : CWV RX3 51 RX3 yX3_seenOf cX3_seenOf 7 (some .int) 4 := ⟨me_X3_seenOf, tb_c3 116 rfl rfl, mi_X3_seenOf, mz_X3_seenOf⟩
set_option maxRecDepth 20000 in
theorem cw_X3_55 : CWV RX3 55 RX3 yX3_worthIf cX3_worthIf 5 (some .int) 2 := ⟨me_X3_worthIf, tb_c3 128 rfl rfl, mi_X3_worthIf, mz_X3_worthIf⟩
set_option maxRecDepth 20000 in
theorem cw_X3_58 : CWV RX3 58 RX3 yX3_trustOfPair cX3_trustOfPair 5 (some .int) 2 := ⟨me_X3_trustOfPair, tb_c3 132 rfl rfl, mi_X3_trustOfPair, mz_X3_trustOfPair⟩
set_option maxRecDepth 20000 in
theorem cw_X3_61 : CWV RX3 61 RX3 yX3_worthOf cX3_worthOf 3 (some .int) 2 := ⟨me_X3_worthOf, tb_c3 133 rfl rfl, mi_X3_worthOf, mz_X3_worthOf⟩
set_option maxRecDepth 20000 in
theorem cw_X3_64 : CWV RX3 64 RX3 yX3_payingDaysBy cX3_payingDaysBy 4 (some .int) 1 := ⟨me_X3_payingDaysBy, tb_c3 145 rfl rfl, mi_X3_payingDaysBy, mz_X3_payingDaysBy⟩
set_option maxRecDepth 20000 in
theorem cw_X3_67 : CWV RX3 67 RX3 yX3_worthOn cX3_worthOn 2 (some .int) 1 := ⟨me_X3_worthOn, tb_c3 149 rfl rfl, mi_X3_worthOn, mz_X3_worthOn⟩
set_option maxRecDepth 20000 in
theorem cw_X3_70 : CWV RX3 70 RX3 yX3_isPaying cX3_isPaying 3 (some .boolean) 2 := ⟨me_X3_isPaying, tb_c3 150 rfl rfl, mi_X3_isPaying, mz_X3_isPaying⟩
set_option maxRecDepth 20000 in
theorem cw_X3_74 : CWV RX3 74 RX3 yX3_somebodyIsAway cX3_somebodyIsAway 4 (some .boolean) 1 := ⟨me_X3_somebodyIsAway, tb_c3 201 rfl rfl, mi_X3_somebodyIsAway, mz_X3_somebodyIsAway⟩
set_option maxRecDepth 20000 in
theorem cw_X3_77 : CWV RX3 77 RX3 yX3_somebodyIsTwice cX3_somebodyIsTwice 5 (some .boolean) 1 := ⟨me_X3_somebodyIsTwice, tb_c3 206 rfl rfl, mi_X3_somebodyIsTwice, mz_X3_somebodyIsTwice⟩
set_option maxRecDepth 20000 in
theorem cw_X3_80 : CWV RX3 80 RX2 yX2_areKin cX2_areKin 3 (some .boolean) 2 := ⟨me_X2_areKin, tb_c3 210 rfl rfl, mi_X2_areKin, mz_X2_areKin⟩
set_option maxRecDepth 20000 in
theorem cw_X3_83 : CWV RX3 83 RX2 yX2_satInGap cX2_satInGap 4 (some .boolean) 2 := ⟨me_X2_satInGap, tb_c3 211 rfl rfl, mi_X2_satInGap, mz_X2_satInGap⟩
set_option maxRecDepth 20000 in
theorem cw_X3_86 : CWV RX3 86 RX2 yX2_isAway cX2_isAway 3 (some .boolean) 2 := ⟨me_X2_isAway, tb_c3 205 rfl rfl, mi_X2_isAway, mz_X2_isAway⟩
set_option maxRecDepth 20000 in
theorem cw_X4_26 : CWV RX4 26 RX2 yX2_pairOn cX2_pairOn 4 (some .int) 1 := ⟨me_X2_pairOn, tb_c3 166 rfl rfl, mi_X2_pairOn, mz_X2_pairOn⟩
set_option maxRecDepth 20000 in
theorem cw_X4_32 : CWV RX4 32 RX3 yX3_seenOn cX3_seenOn 2 (some .int) 1 := ⟨me_X3_seenOn, tb_c3 167 rfl rfl, mi_X3_seenOn, mz_X3_seenOn⟩
set_option maxRecDepth 20000 in
theorem cw_X4_41 : CWV RX4 41 RX3 yX3_trustOfPair cX3_trustOfPair 5 (some .int) 2 := ⟨me_X3_trustOfPair, tb_c3 168 rfl rfl, mi_X3_trustOfPair, mz_X3_trustOfPair⟩
set_option maxRecDepth 20000 in
theorem cw_X4_53 : CWV RX4 53 RX4 yX4_reduce cX4_reduce 8 none 0 := ⟨me_X4_reduce, tb_c3 173 rfl rfl, mi_X4_reduce, mz_X4_reduce⟩
set_option maxRecDepth 20000 in
theorem cw_X4_56 : CWV RX4 56 RX2 yX2_sittings cX2_sittings 3 (some .int) 0 := ⟨me_X2_sittings, tb_c4 47 rfl rfl, mi_X2_sittings, mz_X2_sittings⟩
set_option maxRecDepth 20000 in
theorem cw_X4_60 : CWV RX4 60 RX2 yX2_daysOf cX2_daysOf 4 (some .int) 1 := ⟨me_X2_daysOf, tb_c4 51 rfl rfl, mi_X2_daysOf, mz_X2_daysOf⟩
set_option maxRecDepth 20000 in
theorem cw_X4_63 : CWS RX4 63 yJ6_bitCount_0f7a4 cJ6_bitCount_0f7a4 1 (some .int) 1 := ⟨me_J6_bitCount_0f7a4, tb_c4 55 rfl rfl, ms_J6_bitCount_0f7a4⟩
set_option maxRecDepth 20000 in
theorem cw_X4_72 : CWS RX4 72 yX4_ways cX4_ways 5 (some .long) 2 := ⟨me_X4_ways, tb_c4 61 rfl rfl, ms_X4_ways⟩
set_option maxRecDepth 20000 in
theorem cw_X4_76 : CWS RX4 76 yX4_power cX4_power 6 (some .long) 2 := ⟨me_X4_power, tb_c4 64 rfl rfl, ms_X4_power⟩
set_option maxRecDepth 20000 in
theorem cw_X5_100 : CWV RX5 100 RX5 yX5_drawFrom cX5_drawFrom 5 (some .int) 1 := ⟨me_X5_drawFrom, tb_c4 141 rfl rfl, mi_X5_drawFrom, mz_X5_drawFrom⟩
set_option maxRecDepth 20000 in
theorem cw_X5_106 : CWV RX5 106 RX2 yX2_seat cX2_seat 4 none 3 := ⟨me_X2_seat, tb_c4 153 rfl rfl, mi_X2_seat, mz_X2_seat⟩
set_option maxRecDepth 20000 in
theorem cw_X5_36 : CWV RX5 36 RX5 yX5_seatTold cX5_seatTold 4 (some .boolean) 2 := ⟨me_X5_seatTold, tb_c4 109 rfl rfl, mi_X5_seatTold, mz_X5_seatTold⟩
set_option maxRecDepth 20000 in
theorem cw_X5_40 : CWV RX5 40 RX5 yX5_presentFor cX5_presentFor 7 (some .int) 3 := ⟨me_X5_presentFor, tb_c4 114 rfl rfl, mi_X5_presentFor, mz_X5_presentFor⟩
set_option maxRecDepth 20000 in
theorem cw_X5_44 : CWS RX5 44 yJ6_bitCount_0f7a4 cJ6_bitCount_0f7a4 1 (some .int) 1 := ⟨me_J6_bitCount_0f7a4, tb_c4 119 rfl rfl, ms_J6_bitCount_0f7a4⟩
set_option maxRecDepth 20000 in
theorem cw_X5_50 : CWV RX5 50 RX5 yX5_seatByTurn cX5_seatByTurn 6 none 3 := ⟨me_X5_seatByTurn, tb_c4 120 rfl rfl, mi_X5_seatByTurn, mz_X5_seatByTurn⟩
set_option maxRecDepth 20000 in
theorem cw_X5_54 : CWV RX5 54 RX5 yX5_seatByDraw cX5_seatByDraw 4 none 1 := ⟨me_X5_seatByDraw, tb_c4 136 rfl rfl, mi_X5_seatByDraw, mz_X5_seatByDraw⟩
set_option maxRecDepth 20000 in
theorem cw_X5_58 : CWV RX5 58 RX5 yX5_seatStranger cX5_seatStranger 6 none 2 := ⟨me_X5_seatStranger, tb_c4 145 rfl rfl, mi_X5_seatStranger, mz_X5_seatStranger⟩
set_option maxRecDepth 20000 in
theorem cw_X5_62 : CWV RX5 62 RX5 yX5_sitDown cX5_sitDown 5 (some .int) 2 := ⟨me_X5_sitDown, tb_c4 149 rfl rfl, mi_X5_sitDown, mz_X5_sitDown⟩
set_option maxRecDepth 20000 in
theorem cw_X5_71 : CWV RX5 71 RX2 yX2_isAway cX2_isAway 3 (some .boolean) 2 := ⟨me_X2_isAway, tb_c4 118 rfl rfl, mi_X2_isAway, mz_X2_isAway⟩
set_option maxRecDepth 20000 in
theorem cw_X5_75 : CWV RX5 75 RX2 yX2_isPerson cX2_isPerson 2 (some .boolean) 1 := ⟨me_X2_isPerson, tb_c4 113 rfl rfl, mi_X2_isPerson, mz_X2_isPerson⟩
set_option maxRecDepth 20000 in
theorem cw_X5_79 : CWS RX5 79 yX5_longestApart cX5_longestApart 9 (some .int) 4 := ⟨me_X5_longestApart, tb_c4 124 rfl rfl, ms_X5_longestApart⟩
set_option maxRecDepth 20000 in
theorem cw_X5_83 : CWS RX5 83 yX5_leastOf cX5_leastOf 2 (some .int) 1 := ⟨me_X5_leastOf, tb_c4 133 rfl rfl, ms_X5_leastOf⟩
set_option maxRecDepth 20000 in
theorem cw_X5_86 : CWS RX5 86 yX5_isIn cX5_isIn 2 (some .boolean) 2 := ⟨me_X5_isIn, tb_c4 127 rfl rfl, ms_X5_isIn⟩
set_option maxRecDepth 20000 in
theorem cw_X5_89 : CWV RX5 89 RX2 yX2_areKin cX2_areKin 3 (some .boolean) 2 := ⟨me_X2_areKin, tb_c4 130 rfl rfl, mi_X2_areKin, mz_X2_areKin⟩
set_option maxRecDepth 20000 in
theorem cw_X5_92 : CWS RX5 92 yX2_pairOf cX2_pairOf 2 (some .int) 2 := ⟨me_X2_pairOf, tb_c4 131 rfl rfl, ms_X2_pairOf⟩
set_option maxRecDepth 20000 in
theorem cw_X5_96 : CWV RX5 96 RX2 yX2_lastDayOf cX2_lastDayOf 4 (some .int) 2 := ⟨me_X2_lastDayOf, tb_c4 132 rfl rfl, mi_X2_lastDayOf, mz_X2_lastDayOf⟩
set_option maxRecDepth 20000 in
theorem cw_X6_27 : CWV RX6 27 RX6 yX6_due cX6_due 4 (some .int) 2 := ⟨me_X6_due, tb_c4 166 rfl rfl, mi_X6_due, mz_X6_due⟩
set_option maxRecDepth 20000 in
theorem cw_X6_31 : CWV RX6 31 RX2 yX2_pairOn cX2_pairOn 4 (some .int) 1 := ⟨me_X2_pairOn, tb_c4 170 rfl rfl, mi_X2_pairOn, mz_X2_pairOn⟩
set_option maxRecDepth 20000 in
theorem cw_X6_37 : CWV RX6 37 RX3 yX3_seenOn cX3_seenOn 2 (some .int) 1 := ⟨me_X3_seenOn, tb_c4 171 rfl rfl, mi_X3_seenOn, mz_X3_seenOn⟩
set_option maxRecDepth 20000 in
theorem cw_X6_42 : CWV RX6 42 RX3 yX3_brokenOn cX3_brokenOn 3 (some .int) 1 := ⟨me_X3_brokenOn, tb_c4 172 rfl rfl, mi_X3_brokenOn, mz_X3_brokenOn⟩
set_option maxRecDepth 20000 in
theorem cw_X7_110 : CWV RX7 110 RX7 yX7_readNumber cX7_readNumber 6 (some .int) 2 := ⟨me_X7_readNumber, tb_c2 189 rfl rfl, mi_X7_readNumber, mz_X7_readNumber⟩
set_option maxRecDepth 20000 in
theorem cw_X7_114 : CWV RX7 114 RX2 yX2_setKin cX2_setKin 4 (some .int) 3 := ⟨me_X2_setKin, tb_c2 196 rfl rfl, mi_X2_setKin, mz_X2_setKin⟩
set_option maxRecDepth 20000 in
theorem cw_X7_121 : CWS RX7 121 yX2_pairOf cX2_pairOf 2 (some .int) 2 := ⟨me_X2_pairOf, tb_c2 208 rfl rfl, ms_X2_pairOf⟩
set_option maxRecDepth 20000 in
theorem cw_X7_126 : CWV RX7 126 RX7 yX7_readWord cX7_readWord 3 none 1 := ⟨me_X7_readWord, tb_c2 216 rfl rfl, mi_X7_readWord, mz_X7_readWord⟩
set_option maxRecDepth 20000 in
theorem cw_X7_130 : CWV RX7 130 RX2 yX2_setAway cX2_setAway 4 (some .int) 3 := ⟨me_X2_setAway, tb_c2 220 rfl rfl, mi_X2_setAway, mz_X2_setAway⟩
set_option maxRecDepth 20000 in
theorem cw_X7_138 : CWS RX7 138 yX7_isDigit cX7_isDigit 1 (some .boolean) 1 := ⟨me_X7_isDigit, tb_c2 193 rfl rfl, ms_X7_isDigit⟩
set_option maxRecDepth 20000 in
theorem cw_X7_147 : CWV RX7 147 RJ0 yJ0_length_8abf5 cJ0_length_8abf5 1 (some .int) 0 := ⟨me_J0_length_8abf5, tb_c2 126 rfl rfl, mi_J0_length_8abf5, mz_J0_length_8abf5⟩
set_option maxRecDepth 20000 in
theorem cw_X7_151 : CWV RX7 151 RJ0 yJ0_charAt_5068e cJ0_charAt_5068e 2 (some .char) 1 := ⟨me_J0_charAt_5068e, tb_c2 136 rfl rfl, mi_J0_charAt_5068e, mz_J0_charAt_5068e⟩
set_option maxRecDepth 20000 in
theorem cw_X7_35 : CWV RX7 35 RX2 yX2_emptyBut cX2_emptyBut 2 none 1 := ⟨me_X2_emptyBut, tb_c2 91 rfl rfl, mi_X2_emptyBut, mz_X2_emptyBut⟩
set_option maxRecDepth 20000 in
theorem cw_X7_39 : CWV RX7 39 RX7 yX7_skipBlanks cX7_skipBlanks 1 none 0 := ⟨me_X7_skipBlanks, tb_c2 95 rfl rfl, mi_X7_skipBlanks, mz_X7_skipBlanks⟩
set_option maxRecDepth 20000 in
theorem cw_X7_42 : CWV RX7 42 RX7 yX7_readStatement cX7_readStatement 3 none 0 := ⟨me_X7_readStatement, tb_c2 99 rfl rfl, mi_X7_readStatement, mz_X7_readStatement⟩
set_option maxRecDepth 20000 in
theorem cw_X7_45 : CWV RX7 45 RX2 yX2_become cX2_become 2 none 1 := ⟨me_X2_become, tb_c2 239 rfl rfl, mi_X2_become, mz_X2_become⟩
set_option maxRecDepth 20000 in
theorem cw_X7_49 : CWV RX7 49 RX7 yX7_endOfName cX7_endOfName 2 (some .int) 0 := ⟨me_X7_endOfName, tb_c2 103 rfl rfl, mi_X7_endOfName, mz_X7_endOfName⟩
set_option maxRecDepth 20000 in
theorem cw_X7_53 : CWS RX7 53 yX7_nameOf cX7_nameOf 1 (some (.object "java/lang/String")) 1 := ⟨me_X7_nameOf, tb_c2 107 rfl rfl, ms_X7_nameOf⟩
set_option maxRecDepth 20000 in
theorem cw_X7_57 : CWV RX7 57 RX7 yX7_stands cX7_stands 4 (some .boolean) 2 := ⟨me_X7_stands, tb_c2 122 rfl rfl, mi_X7_stands, mz_X7_stands⟩
set_option maxRecDepth 20000 in
theorem cw_X7_64 : CWV RX7 64 RX7 yX7_fail cX7_fail 2 none 1 := ⟨me_X7_fail, tb_c2 174 rfl rfl, mi_X7_fail, mz_X7_fail⟩
set_option maxRecDepth 20000 in
theorem cw_X7_68 : CWV RX7 68 RX2 yX2_addPerson cX2_addPerson 1 (some .int) 0 := ⟨me_X2_addPerson, tb_c2 181 rfl rfl, mi_X2_addPerson, mz_X2_addPerson⟩
set_option maxRecDepth 20000 in
theorem cw_X7_71 : CWV RX7 71 RX7 yX7_readKin cX7_readKin 3 none 0 := ⟨me_X7_readKin, tb_c2 185 rfl rfl, mi_X7_readKin, mz_X7_readKin⟩
set_option maxRecDepth 20000 in
theorem cw_X7_74 : CWV RX7 74 RX7 yX7_readTrust cX7_readTrust 4 none 0 := ⟨me_X7_readTrust, tb_c2 204 rfl rfl, mi_X7_readTrust, mz_X7_readTrust⟩
set_option maxRecDepth 20000 in
theorem cw_X7_77 : CWV RX7 77 RX7 yX7_readAway cX7_readAway 5 none 0 := ⟨me_X7_readAway, tb_c2 211 rfl rfl, mi_X7_readAway, mz_X7_readAway⟩
set_option maxRecDepth 20000 in
theorem cw_X7_80 : CWV RX7 80 RX7 yX7_readLaw cX7_readLaw 3 none 1 := ⟨me_X7_readLaw, tb_c2 229 rfl rfl, mi_X7_readLaw, mz_X7_readLaw⟩
set_option maxRecDepth 20000 in
theorem cw_X7_83 : CWV RX7 83 RX7 yX7_readEnd cX7_readEnd 1 none 0 := ⟨me_X7_readEnd, tb_c2 235 rfl rfl, mi_X7_readEnd, mz_X7_readEnd⟩
set_option maxRecDepth 20000 in
theorem cw_X8_101 : CWV RX8 101 RX2 yX2_lastDayOf cX2_lastDayOf 4 (some .int) 2 := ⟨me_X2_lastDayOf, tb_c4 26 rfl rfl, mi_X2_lastDayOf, mz_X2_lastDayOf⟩
set_option maxRecDepth 20000 in
theorem cw_X8_104 : CWV RX8 104 RX8 yX8_mostTrust cX8_mostTrust 7 (some .int) 2 := ⟨me_X8_mostTrust, tb_c4 27 rfl rfl, mi_X8_mostTrust, mz_X8_mostTrust⟩
set_option maxRecDepth 20000 in
theorem cw_X8_107 : CWS RX8 107 yX8_countRows cX8_countRows 7 (some .int) 3 := ⟨me_X8_countRows, tb_c4 31 rfl rfl, ms_X8_countRows⟩
set_option maxRecDepth 20000 in
theorem cw_X8_111 : CWV RX8 111 RX8 yX8_standsBehindChosen cX8_standsBehindChosen 6 (some .boolean) 2 := ⟨me_X8_standsBehindChosen, tb_c4 34 rfl rfl, mi_X8_standsBehindChosen, mz_X8_standsBehindChosen⟩
set_option maxRecDepth 20000 in
theorem cw_X8_114 : CWV RX8 114 RX3 yX3_trustAfter cX3_trustAfter 3 (some .int) 2 := ⟨me_X3_trustAfter, tb_c4 38 rfl rfl, mi_X3_trustAfter, mz_X3_trustAfter⟩
set_option maxRecDepth 20000 in
theorem cw_X8_43 : CWV RX8 43 RX8 yX8_maySit cX8_maySit 4 (some .boolean) 3 := ⟨me_X8_maySit, tb_c3 228 rfl rfl, mi_X8_maySit, mz_X8_maySit⟩
set_option maxRecDepth 20000 in
theorem cw_X8_47 : CWS RX8 47 yX2_pairOf cX2_pairOf 2 (some .int) 2 := ⟨me_X2_pairOf, tb_c3 234 rfl rfl, ms_X2_pairOf⟩
set_option maxRecDepth 20000 in
theorem cw_X8_51 : CWV RX8 51 RX2 yX2_satInGap cX2_satInGap 4 (some .boolean) 2 := ⟨me_X2_satInGap, tb_c3 235 rfl rfl, mi_X2_satInGap, mz_X2_satInGap⟩
set_option maxRecDepth 20000 in
theorem cw_X8_55 : CWV RX8 55 RX8 yX8_mendBy cX8_mendBy 10 none 3 := ⟨me_X8_mendBy, tb_c3 236 rfl rfl, mi_X8_mendBy, mz_X8_mendBy⟩
set_option maxRecDepth 20000 in
theorem cw_X8_59 : CWV RX8 59 RX3 yX3_trustOfPair cX3_trustOfPair 5 (some .int) 2 := ⟨me_X3_trustOfPair, tb_c4 0 rfl rfl, mi_X3_trustOfPair, mz_X3_trustOfPair⟩
set_option maxRecDepth 20000 in
theorem cw_X8_64 : CWV RX8 64 RX8 yX8_change cX8_change 4 (some .int) 3 := ⟨me_X8_change, tb_c4 1 rfl rfl, mi_X8_change, mz_X8_change⟩
set_option maxRecDepth 20000 in
theorem cw_X8_68 : CWV RX8 68 RX8 yX8_isFree cX8_isFree 4 (some .boolean) 3 := ⟨me_X8_isFree, tb_c4 6 rfl rfl, mi_X8_isFree, mz_X8_isFree⟩
set_option maxRecDepth 20000 in
theorem cw_X8_71 : CWV RX8 71 RX8 yX8_wouldPay cX8_wouldPay 7 (some .boolean) 5 := ⟨me_X8_wouldPay, tb_c4 10 rfl rfl, mi_X8_wouldPay, mz_X8_wouldPay⟩
set_option maxRecDepth 20000 in
theorem cw_X8_75 : CWV RX8 75 RX2 yX2_at cX2_at 3 (some .int) 2 := ⟨me_X2_at, tb_c4 5 rfl rfl, mi_X2_at, mz_X2_at⟩
set_option maxRecDepth 20000 in
theorem cw_X8_78 : CWV RX8 78 RX2 yX2_isAway cX2_isAway 3 (some .boolean) 2 := ⟨me_X2_isAway, tb_c3 232 rfl rfl, mi_X2_isAway, mz_X2_isAway⟩
set_option maxRecDepth 20000 in
theorem cw_X8_81 : CWV RX8 81 RX2 yX2_areKin cX2_areKin 3 (some .boolean) 2 := ⟨me_X2_areKin, tb_c3 233 rfl rfl, mi_X2_areKin, mz_X2_areKin⟩
set_option maxRecDepth 20000 in
theorem cw_X8_84 : CWV RX8 84 RX2 yX2_hasSurprise cX2_hasSurprise 2 (some .boolean) 1 := ⟨me_X2_hasSurprise, tb_c4 14 rfl rfl, mi_X2_hasSurprise, mz_X2_hasSurprise⟩
set_option maxRecDepth 20000 in
theorem cw_X8_88 : CWV RX8 88 RX3 yX3_seenOf cX3_seenOf 7 (some .int) 4 := ⟨me_X3_seenOf, tb_c4 15 rfl rfl, mi_X3_seenOf, mz_X3_seenOf⟩
set_option maxRecDepth 20000 in
theorem cw_X8_92 : CWV RX8 92 RX3 yX3_worthOf cX3_worthOf 3 (some .int) 2 := ⟨me_X3_worthOf, tb_c4 16 rfl rfl, mi_X3_worthOf, mz_X3_worthOf⟩
set_option maxRecDepth 20000 in
theorem cw_X8_98 : CWV RX8 98 RX3 yX3_isPaying cX3_isPaying 3 (some .boolean) 2 := ⟨me_X3_isPaying, tb_c4 17 rfl rfl, mi_X3_isPaying, mz_X3_isPaying⟩
set_option maxRecDepth 20000 in
theorem cw_X9_104 : CWV RX9 104 RX2 yX2_addPerson cX2_addPerson 1 (some .int) 0 := ⟨me_X2_addPerson, tb_c3 12 rfl rfl, mi_X2_addPerson, mz_X2_addPerson⟩
set_option maxRecDepth 20000 in
theorem cw_X9_108 : CWV RX9 108 RX2 yX2_areTwo cX2_areTwo 3 (some .boolean) 2 := ⟨me_X2_areTwo, tb_c3 17 rfl rfl, mi_X2_areTwo, mz_X2_areTwo⟩
set_option maxRecDepth 20000 in
theorem cw_X9_112 : CWV RX9 112 RX2 yX2_setKin cX2_setKin 4 (some .int) 3 := ⟨me_X2_setKin, tb_c3 25 rfl rfl, mi_X2_setKin, mz_X2_setKin⟩
set_option maxRecDepth 20000 in
theorem cw_X9_116 : CWS RX9 116 yX2_pairOf cX2_pairOf 2 (some .int) 2 := ⟨me_X2_pairOf, tb_c3 30 rfl rfl, ms_X2_pairOf⟩
set_option maxRecDepth 20000 in
theorem cw_X9_124 : CWV RX9 124 RX2 yX2_isPerson cX2_isPerson 2 (some .boolean) 1 := ⟨me_X2_isPerson, tb_c3 35 rfl rfl, mi_X2_isPerson, mz_X2_isPerson⟩
set_option maxRecDepth 20000 in
theorem cw_X9_128 : CWS RX9 128 yX9_isDay cX9_isDay 1 (some .boolean) 1 := ⟨me_X9_isDay, tb_c3 36 rfl rfl, ms_X9_isDay⟩
set_option maxRecDepth 20000 in
theorem cw_X9_131 : CWV RX9 131 RX2 yX2_setAway cX2_setAway 4 (some .int) 3 := ⟨me_X2_setAway, tb_c3 39 rfl rfl, mi_X2_setAway, mz_X2_setAway⟩
set_option maxRecDepth 20000 in
theorem cw_X9_140 : CWS RX9 140 yX9_isPost cX9_isPost 1 (some .boolean) 1 := ⟨me_X9_isPost, tb_c3 53 rfl rfl, ms_X9_isPost⟩
set_option maxRecDepth 20000 in
theorem cw_X9_143 : CWV RX9 143 RX2 yX2_at cX2_at 3 (some .int) 2 := ⟨me_X2_at, tb_c3 56 rfl rfl, mi_X2_at, mz_X2_at⟩
set_option maxRecDepth 20000 in
theorem cw_X9_146 : CWV RX9 146 RX2 yX2_seat cX2_seat 4 none 3 := ⟨me_X2_seat, tb_c3 60 rfl rfl, mi_X2_seat, mz_X2_seat⟩
set_option maxRecDepth 20000 in
theorem cw_X9_150 : CWV RX9 150 RX2 yX2_setSurprise cX2_setSurprise 3 (some .int) 2 := ⟨me_X2_setSurprise, tb_c3 72 rfl rfl, mi_X2_setSurprise, mz_X2_setSurprise⟩
set_option maxRecDepth 20000 in
theorem cw_X9_157 : CWV RX9 157 RX3 yX3_trustOfPair cX3_trustOfPair 5 (some .int) 2 := ⟨me_X3_trustOfPair, tb_c3 88 rfl rfl, mi_X3_trustOfPair, mz_X3_trustOfPair⟩
set_option maxRecDepth 20000 in
theorem cw_X9_160 : CWV RX9 160 RX2 yX2_pairOn cX2_pairOn 4 (some .int) 1 := ⟨me_X2_pairOn, tb_c3 109 rfl rfl, mi_X2_pairOn, mz_X2_pairOn⟩
set_option maxRecDepth 20000 in
theorem cw_X9_164 : CWV RX9 164 RX3 yX3_seenOn cX3_seenOn 2 (some .int) 1 := ⟨me_X3_seenOn, tb_c3 110 rfl rfl, mi_X3_seenOn, mz_X3_seenOn⟩
set_option maxRecDepth 20000 in
theorem cw_X9_167 : CWV RX9 167 RX3 yX3_worthOn cX3_worthOn 2 (some .int) 1 := ⟨me_X3_worthOn, tb_c3 124 rfl rfl, mi_X3_worthOn, mz_X3_worthOn⟩
set_option maxRecDepth 20000 in
theorem cw_X9_170 : CWV RX9 170 RX3 yX3_payingDays cX3_payingDays 1 (some .int) 0 := ⟨me_X3_payingDays, tb_c3 141 rfl rfl, mi_X3_payingDays, mz_X3_payingDays⟩
set_option maxRecDepth 20000 in
theorem cw_X9_173 : CWS RX9 173 yX9_isPart cX9_isPart 1 (some .boolean) 1 := ⟨me_X9_isPart, tb_c3 158 rfl rfl, ms_X9_isPart⟩
set_option maxRecDepth 20000 in
theorem cw_X9_178 : CWV RX9 178 RX4 yX4_findBest cX4_findBest 8 none 1 := ⟨me_X4_findBest, tb_c3 162 rfl rfl, mi_X4_findBest, mz_X4_findBest⟩
set_option maxRecDepth 20000 in
theorem cw_X9_189 : CWV RX9 189 RX3 yX3_leastTell cX3_leastTell 2 (some .int) 0 := ⟨me_X3_leastTell, tb_c3 181 rfl rfl, mi_X3_leastTell, mz_X3_leastTell⟩
set_option maxRecDepth 20000 in
theorem cw_X9_192 : CWV RX9 192 RX3 yX3_surprisesNeeded cX3_surprisesNeeded 4 (some .int) 0 := ⟨me_X3_surprisesNeeded, tb_c3 189 rfl rfl, mi_X3_surprisesNeeded, mz_X3_surprisesNeeded⟩
set_option maxRecDepth 20000 in
theorem cw_X9_195 : CWV RX9 195 RX3 yX3_brokenOn cX3_brokenOn 3 (some .int) 1 := ⟨me_X3_brokenOn, tb_c3 197 rfl rfl, mi_X3_brokenOn, mz_X3_brokenOn⟩
set_option maxRecDepth 20000 in
theorem cw_X9_198 : CWV RX9 198 RX8 yX8_mend cX8_mend 4 (some .boolean) 1 := ⟨me_X8_mend, tb_c3 224 rfl rfl, mi_X8_mend, mz_X8_mend⟩
set_option maxRecDepth 20000 in
theorem cw_X9_207 : CWV RX9 207 RX8 yX8_rowsAhead cX8_rowsAhead 9 (some .int) 2 := ⟨me_X8_rowsAhead, tb_c4 22 rfl rfl, mi_X8_rowsAhead, mz_X8_rowsAhead⟩
set_option maxRecDepth 20000 in
theorem cw_X9_210 : CWV RX9 210 RX4 yX4_findLot cX4_findLot 7 none 1 := ⟨me_X4_findLot, tb_c4 43 rfl rfl, mi_X4_findLot, mz_X4_findLot⟩
set_option maxRecDepth 20000 in
theorem cw_X9_213 : CWV RX9 213 RX2 yX2_daysOf cX2_daysOf 4 (some .int) 1 := ⟨me_X2_daysOf, tb_c4 71 rfl rfl, mi_X2_daysOf, mz_X2_daysOf⟩
set_option maxRecDepth 20000 in
theorem cw_X9_216 : CWV RX9 216 RX2 yX2_pairOfMostLoss cX2_pairOfMostLoss 6 (some .int) 0 := ⟨me_X2_pairOfMostLoss, tb_c4 76 rfl rfl, mi_X2_pairOfMostLoss, mz_X2_pairOfMostLoss⟩
set_option maxRecDepth 20000 in
theorem cw_X9_219 : CWV RX9 219 RX2 yX2_lossOf cX2_lossOf 4 (some .int) 1 := ⟨me_X2_lossOf, tb_c4 84 rfl rfl, mi_X2_lossOf, mz_X2_lossOf⟩
set_option maxRecDepth 20000 in
theorem cw_X9_225 : CWV RX9 225 RX5 yX5_add cX5_add 3 (some .int) 2 := ⟨me_X5_add, tb_c4 89 rfl rfl, mi_X5_add, mz_X5_add⟩
set_option maxRecDepth 20000 in
theorem cw_X9_227 : CWV RX9 227 RX5 yX5_has cX5_has 2 (some .boolean) 1 := ⟨me_X5_has, tb_c4 97 rfl rfl, mi_X5_has, mz_X5_has⟩
set_option maxRecDepth 20000 in
theorem cw_X9_236 : CWV RX9 236 RX5 yX5_fillDay cX5_fillDay 6 (some .int) 3 := ⟨me_X5_fillDay, tb_c4 105 rfl rfl, mi_X5_fillDay, mz_X5_fillDay⟩
set_option maxRecDepth 20000 in
theorem cw_X9_243 : CWV RX9 243 RX6 yX6_write cX6_write 3 (some .int) 0 := ⟨me_X6_write, tb_c4 162 rfl rfl, mi_X6_write, mz_X6_write⟩
set_option maxRecDepth 20000 in
theorem cw_X9_246 : CWV RX9 246 RX6 yX6_has cX6_has 3 (some .boolean) 2 := ⟨me_X6_has, tb_c4 177 rfl rfl, mi_X6_has, mz_X6_has⟩
set_option maxRecDepth 20000 in
theorem cw_X9_251 : CWV RX9 251 RX6 yX6_firstWrong cX6_firstWrong 3 (some .int) 0 := ⟨me_X6_firstWrong, tb_c4 189 rfl rfl, mi_X6_firstWrong, mz_X6_firstWrong⟩
set_option maxRecDepth 20000 in
theorem cw_X9_254 : CWS RX9 254 yX9_isPlace cX9_isPlace 1 (some .boolean) 1 := ⟨me_X9_isPlace, tb_c4 197 rfl rfl, ms_X9_isPlace⟩
set_option maxRecDepth 20000 in
theorem cw_X9_257 : CWV RX9 257 RX1 yX1_lay cX1_lay 4 (some .int) 3 := ⟨me_X1_lay, tb_c4 200 rfl rfl, mi_X1_lay, mz_X1_lay⟩
set_option maxRecDepth 20000 in
theorem cw_X9_264 : CWV RX9 264 RX1 yX1_holds cX1_holds 3 (some .boolean) 2 := ⟨me_X1_holds, tb_c4 208 rfl rfl, mi_X1_holds, mz_X1_holds⟩
set_option maxRecDepth 20000 in
theorem cw_X9_267 : CWV RX9 267 RX1 yX1_write cX1_write 4 (some .int) 3 := ⟨me_X1_write, tb_c4 212 rfl rfl, mi_X1_write, mz_X1_write⟩
set_option maxRecDepth 20000 in
theorem cw_X9_273 : CWV RX9 273 RX1 yX1_shelvePlan cX1_shelvePlan 3 (some .int) 2 := ⟨me_X1_shelvePlan, tb_c4 224 rfl rfl, mi_X1_shelvePlan, mz_X1_shelvePlan⟩
set_option maxRecDepth 20000 in
theorem cw_X9_276 : CWV RX9 276 RX1 yX1_shelveRow cX1_shelveRow 3 (some .int) 2 := ⟨me_X1_shelveRow, tb_c4 228 rfl rfl, mi_X1_shelveRow, mz_X1_shelveRow⟩
set_option maxRecDepth 20000 in
theorem cw_X9_279 : CWV RX9 279 RX1 yX1_clear cX1_clear 2 (some .int) 1 := ⟨me_X1_clear, tb_c4 232 rfl rfl, mi_X1_clear, mz_X1_clear⟩
set_option maxRecDepth 20000 in
theorem cw_X9_282 : CWV RX9 282 RX1 yX1_heldRow cX1_heldRow 2 (some .boolean) 1 := ⟨me_X1_heldRow, tb_c5 0 rfl rfl, mi_X1_heldRow, mz_X1_heldRow⟩
set_option maxRecDepth 20000 in
theorem cw_X9_291 : CWV RX9 291 RX9 yX9_planOn cX9_planOn 2 (some .int) 1 := ⟨me_X9_planOn, tb_c5 4 rfl rfl, mi_X9_planOn, mz_X9_planOn⟩
set_option maxRecDepth 20000 in
theorem cw_X9_294 : CWS RX9 294 yX0_isUnder cX0_isUnder 4 (some .boolean) 2 := ⟨me_X0_isUnder, tb_c5 12 rfl rfl, ms_X0_isUnder⟩
set_option maxRecDepth 20000 in
theorem cw_X9_297 : CWV RX9 297 RX0 yX0_forget cX0_forget 1 none 0 := ⟨me_X0_forget, tb_c5 21 rfl rfl, mi_X0_forget, mz_X0_forget⟩
set_option maxRecDepth 20000 in
theorem cw_X9_300 : CWV RX9 300 RX0 yX0_perform cX0_perform 7 (some .int) 5 := ⟨me_X0_perform, tb_c5 25 rfl rfl, mi_X0_perform, mz_X0_perform⟩
set_option maxRecDepth 20000 in
theorem cw_X9_318 : CWV RX9 318 RX2 yX2_sittings cX2_sittings 3 (some .int) 0 := ⟨me_X2_sittings, tb_c5 58 rfl rfl, mi_X2_sittings, mz_X2_sittings⟩
set_option maxRecDepth 20000 in
theorem cw_X9_322 : CWV RX9 322 RX2 yX2_become cX2_become 2 none 1 := ⟨me_X2_become, tb_c5 63 rfl rfl, mi_X2_become, mz_X2_become⟩
set_option maxRecDepth 20000 in
theorem cw_X9_325 : CWV RX9 325 RX5 yX5_become cX5_become 2 none 1 := ⟨me_X5_become, tb_c5 64 rfl rfl, mi_X5_become, mz_X5_become⟩
set_option maxRecDepth 20000 in
theorem cw_X9_328 : CWV RX9 328 RX1 yX1_heldPlan cX1_heldPlan 2 (some .boolean) 1 := ⟨me_X1_heldPlan, tb_c5 8 rfl rfl, mi_X1_heldPlan, mz_X1_heldPlan⟩
set_option maxRecDepth 20000 in
theorem cw_X9_90 : CWV RX9 90 RX7 yX7_add cX7_add 5 (some .int) 2 := ⟨me_X7_add, tb_c2 79 rfl rfl, mi_X7_add, mz_X7_add⟩
set_option maxRecDepth 20000 in
theorem cw_X9_94 : CWV RX9 94 RX7 yX7_tell cX7_tell 3 (some .int) 1 := ⟨me_X7_tell, tb_c2 87 rfl rfl, mi_X7_tell, mz_X7_tell⟩
set_option maxRecDepth 20000 in
theorem cw_X9_98 : CWV RX9 98 RX6 yX6_drop cX6_drop 1 none 0 := ⟨me_X6_drop, tb_c3 3 rfl rfl, mi_X6_drop, mz_X6_drop⟩
set_option maxRecDepth 20000 in
theorem kw_J6_265 : ((Jvm.Cond.constant "java/lang/Integer" (265 : Nat) (1431655765 : Int32)) : Cond) ∈ TBL := tb_c4 58 rfl rfl
set_option maxRecDepth 20000 in
theorem kw_J6_266 : ((Jvm.Cond.constant "java/lang/Integer" (266 : Nat) (858993459 : Int32)) : Cond) ∈ TBL := tb_c4 59 rfl rfl
set_option maxRecDepth 20000 in
theorem kw_J6_267 : ((Jvm.Cond.constant "java/lang/Integer" (267 : Nat) (252645135 : Int32)) : Cond) ∈ TBL := tb_c4 60 rfl rfl
set_option maxRecDepth 20000 in
theorem kw_X10_116 : ((Jvm.Cond.constantLong "TillPairsModel" (116 : Nat) (255 : Int64)) : Cond) ∈ TBL := tb_c6 1 rfl rfl
set_option maxRecDepth 20000 in
theorem kw_X10_144 : ((Jvm.Cond.constantLong "TillPairsModel" (144 : Nat) (27 : Int64)) : Cond) ∈ TBL := tb_c6 20 rfl rfl
set_option maxRecDepth 20000 in
theorem kw_X10_146 : ((Jvm.Cond.constantLong "TillPairsModel" (146 : Nat) (96 : Int64)) : Cond) ∈ TBL := tb_c6 21 rfl rfl
set_option maxRecDepth 20000 in
theorem kw_X10_148 : ((Jvm.Cond.constantLong "TillPairsModel" (148 : Nat) (-1 : Int64)) : Cond) ∈ TBL := tb_c6 22 rfl rfl
set_option maxRecDepth 20000 in
theorem kw_X10_150 : ((Jvm.Cond.constantLong "TillPairsModel" (150 : Nat) (394691 : Int64)) : Cond) ∈ TBL := tb_c6 65 rfl rfl
set_option maxRecDepth 20000 in
theorem kw_X10_156 : ((Jvm.Cond.constantLong "TillPairsModel" (156 : Nat) (315914 : Int64)) : Cond) ∈ TBL := tb_c6 66 rfl rfl
set_option maxRecDepth 20000 in
theorem kw_X10_158 : ((Jvm.Cond.constantLong "TillPairsModel" (158 : Nat) (4325 : Int64)) : Cond) ∈ TBL := tb_c6 67 rfl rfl
set_option maxRecDepth 20000 in
theorem kw_X10_160 : ((Jvm.Cond.constantLong "TillPairsModel" (160 : Nat) (1388945628 : Int64)) : Cond) ∈ TBL := tb_c6 68 rfl rfl
set_option maxRecDepth 20000 in
theorem kw_X10_162 : ((Jvm.Cond.constantLong "TillPairsModel" (162 : Nat) (260960283 : Int64)) : Cond) ∈ TBL := tb_c6 69 rfl rfl
set_option maxRecDepth 20000 in
theorem kw_X10_164 : ((Jvm.Cond.constantLong "TillPairsModel" (164 : Nat) (118940 : Int64)) : Cond) ∈ TBL := tb_c6 70 rfl rfl
set_option maxRecDepth 20000 in
theorem kw_X10_166 : ((Jvm.Cond.constantLong "TillPairsModel" (166 : Nat) (397641 : Int64)) : Cond) ∈ TBL := tb_c6 71 rfl rfl
set_option maxRecDepth 20000 in
theorem kw_X10_168 : ((Jvm.Cond.constantLong "TillPairsModel" (168 : Nat) (5146 : Int64)) : Cond) ∈ TBL := tb_c6 72 rfl rfl
set_option maxRecDepth 20000 in
theorem kw_X10_190 : ((Jvm.Cond.constantLong "TillPairsModel" (190 : Nat) (419 : Int64)) : Cond) ∈ TBL := tb_c6 55 rfl rfl
set_option maxRecDepth 20000 in
theorem kw_X10_196 : ((Jvm.Cond.constantLong "TillPairsModel" (196 : Nat) (1111 : Int64)) : Cond) ∈ TBL := tb_c6 60 rfl rfl
set_option maxRecDepth 20000 in
theorem kw_X10_198 : ((Jvm.Cond.constantLong "TillPairsModel" (198 : Nat) (232608281 : Int64)) : Cond) ∈ TBL := tb_c6 27 rfl rfl
set_option maxRecDepth 20000 in
theorem kw_X10_200 : ((Jvm.Cond.constantLong "TillPairsModel" (200 : Nat) (8276 : Int64)) : Cond) ∈ TBL := tb_c6 40 rfl rfl
set_option maxRecDepth 20000 in
theorem kw_X10_202 : ((Jvm.Cond.constantLong "TillPairsModel" (202 : Nat) (10998956 : Int64)) : Cond) ∈ TBL := tb_c6 41 rfl rfl
set_option maxRecDepth 20000 in
theorem kw_X10_208 : ((Jvm.Cond.constantLong "TillPairsModel" (208 : Nat) (36502 : Int64)) : Cond) ∈ TBL := tb_c6 50 rfl rfl
set_option maxRecDepth 20000 in
theorem kw_X10_284 : ((Jvm.Cond.constantLong "TillPairsModel" (284 : Nat) (12 : Int64)) : Cond) ∈ TBL := tb_c6 195 rfl rfl
set_option maxRecDepth 20000 in
theorem kw_X10_327 : ((Jvm.Cond.constant "TillPairsModel" (327 : Nat) (1103515245 : Int32)) : Cond) ∈ TBL := tb_c7 58 rfl rfl
set_option maxRecDepth 20000 in
theorem kw_X4_45 : ((Jvm.Cond.constantLong "TillPairs$Odds" (45 : Nat) (12 : Int64)) : Cond) ∈ TBL := tb_c3 169 rfl rfl
set_option maxRecDepth 20000 in
theorem kw_X5_99 : ((Jvm.Cond.constant "TillPairs$Plans" (99 : Nat) (1103515245 : Int32)) : Cond) ∈ TBL := tb_c4 140 rfl rfl
set_option maxRecDepth 20000 in
theorem kw_X9_176 : ((Jvm.Cond.constantLong "TillPairs" (176 : Nat) (-1 : Int64)) : Cond) ∈ TBL := tb_c3 161 rfl rfl
theorem io_0 : isO 0 RX9 := fun _ _ _ => ⟨9, _, _, _, rfl, rfl⟩
theorem io_1 : isO 1 RX2 := fun _ _ _ => ⟨2, _, _, _, rfl, rfl⟩
theorem io_8 : isO 8 RX7 := fun _ _ _ => ⟨7, _, _, _, rfl, rfl⟩
theorem io_10 : isO 10 RX2 := fun _ _ _ => ⟨2, _, _, _, rfl, rfl⟩
theorem io_17 : isO 17 RX3 := fun _ _ _ => ⟨3, _, _, _, rfl, rfl⟩
theorem io_18 : isO 18 RX4 := fun _ _ _ => ⟨4, _, _, _, rfl, rfl⟩
theorem io_19 : isO 19 RX8 := fun _ _ _ => ⟨8, _, _, _, rfl, rfl⟩
theorem io_26 : isO 26 RX5 := fun _ _ _ => ⟨5, _, _, _, rfl, rfl⟩
theorem io_30 : isO 30 RX6 := fun _ _ _ => ⟨6, _, _, _, rfl, rfl⟩
theorem io_32 : isO 32 RX0 := fun _ _ _ => ⟨0, _, _, _, rfl, rfl⟩
theorem io_34 : isO 34 RX1 := fun _ _ _ => ⟨1, _, _, _, rfl, rfl⟩
theorem io_45 : isO 45 RX2 := fun _ _ _ => ⟨2, _, _, _, rfl, rfl⟩
theorem io_52 : isO 52 RX5 := fun _ _ _ => ⟨5, _, _, _, rfl, rfl⟩
theorem io_56 : isO 56 RX10 := fun _ _ _ => ⟨10, _, _, _, rfl, rfl⟩
section UFLD
variable {p : Program} {l : Launch} {e : Env} {R : Room} {s : State} {m : MethodId} {args : Array Value} {below : List Frame} {meth : Method} {c : Code} {H : Heap} {locs : List Loc} {cells slots : Nat} {Q : State → Prop}
variable {cc : ByteArray} {nL fr lo pc : Nat} {own : String} {ls : Array Slot} {rest : List Value} {D : va_G} {ad : Nat → Nat} {cs : Nat → ClassId} {sd : Nat → Nat} {A : Nat → Prop} {z : MS}
set_option maxRecDepth 20000 in
theorem gf_X0_11_32 (X : UC p s m args meth c cc nL RX0 R fr lo D ad cs sd A) (hP : va_P D clss (wld cs ad z) H) (d : decode cc pc = .ok (.getfield 11, 3)) (k : W p l e R s m args below meth c H locs cells slots Q (F0 m (pc + 3) ls (.ref (ad 33) :: rest))) : W p l e R s m args below meth c H locs cells slots Q (F0 m pc ls (.ref (ad 32) :: rest)) := u_get (C := RX0) (T := TX0) (N := 6) 0 32 X hP rfl rfl hin_X0 0 (Nat.le_of_ble_eq_true rfl) (tb_c1 (w := Cond.fieldLink "TillPairs$Acts" 11 "TillPairs$Acts" "noted" "[I") 225 rfl rfl) rfl rfl d k
set_option maxRecDepth 20000 in
theorem gf_X0_15_32 (X : UC p s m args meth c cc nL RX0 R fr lo D ad cs sd A) (hP : va_P D clss (wld cs ad z) H) (d : decode cc pc = .ok (.getfield 15, 3)) (k : W p l e R s m args below meth c H locs cells slots Q (F0 m (pc + 3) ls (.int (gI z 32 1) :: rest))) : W p l e R s m args below meth c H locs cells slots Q (F0 m pc ls (.ref (ad 32) :: rest)) := u_get (C := RX0) (T := TX0) (N := 6) 0 32 X hP rfl rfl hin_X0 1 (Nat.le_of_ble_eq_true rfl) (tb_c1 (w := Cond.fieldLink "TillPairs$Acts" 15 "TillPairs$Acts" "bodies" "I") 227 rfl rfl) rfl rfl d k
set_option maxRecDepth 20000 in
theorem gf_X0_19_32 (X : UC p s m args meth c cc nL RX0 R fr lo D ad cs sd A) (hP : va_P D clss (wld cs ad z) H) (d : decode cc pc = .ok (.getfield 19, 3)) (k : W p l e R s m args below meth c H locs cells slots Q (F0 m (pc + 3) ls (.int (gI z 32 2) :: rest))) : W p l e R s m args below meth c H locs cells slots Q (F0 m pc ls (.ref (ad 32) :: rest)) := u_get (C := RX0) (T := TX0) (N := 6) 0 32 X hP rfl rfl hin_X0 2 (Nat.le_of_ble_eq_true rfl) (tb_c1 (w := Cond.fieldLink "TillPairs$Acts" 19 "TillPairs$Acts" "kind" "I") 229 rfl rfl) rfl rfl d k
set_option maxRecDepth 20000 in
theorem gf_X0_22_32 (X : UC p s m args meth c cc nL RX0 R fr lo D ad cs sd A) (hP : va_P D clss (wld cs ad z) H) (d : decode cc pc = .ok (.getfield 22, 3)) (k : W p l e R s m args below meth c H locs cells slots Q (F0 m (pc + 3) ls (.int (gI z 32 3) :: rest))) : W p l e R s m args below meth c H locs cells slots Q (F0 m pc ls (.ref (ad 32) :: rest)) := u_get (C := RX0) (T := TX0) (N := 6) 0 32 X hP rfl rfl hin_X0 3 (Nat.le_of_ble_eq_true rfl) (tb_c1 (w := Cond.fieldLink "TillPairs$Acts" 22 "TillPairs$Acts" "number" "I") 230 rfl rfl) rfl rfl d k
set_option maxRecDepth 20000 in
theorem gf_X0_25_32 (X : UC p s m args meth c cc nL RX0 R fr lo D ad cs sd A) (hP : va_P D clss (wld cs ad z) H) (d : decode cc pc = .ok (.getfield 25, 3)) (k : W p l e R s m args below meth c H locs cells slots Q (F0 m (pc + 3) ls (.int (gI z 32 4) :: rest))) : W p l e R s m args below meth c H locs cells slots Q (F0 m pc ls (.ref (ad 32) :: rest)) := u_get (C := RX0) (T := TX0) (N := 6) 0 32 X hP rfl rfl hin_X0 4 (Nat.le_of_ble_eq_true rfl) (tb_c1 (w := Cond.fieldLink "TillPairs$Acts" 25 "TillPairs$Acts" "a" "I") 231 rfl rfl) rfl rfl d k
set_option maxRecDepth 20000 in
theorem gf_X0_28_32 (X : UC p s m args meth c cc nL RX0 R fr lo D ad cs sd A) (hP : va_P D clss (wld cs ad z) H) (d : decode cc pc = .ok (.getfield 28, 3)) (k : W p l e R s m args below meth c H locs cells slots Q (F0 m (pc + 3) ls (.int (gI z 32 5) :: rest))) : W p l e R s m args below meth c H locs cells slots Q (F0 m pc ls (.ref (ad 32) :: rest)) := u_get (C := RX0) (T := TX0) (N := 6) 0 32 X hP rfl rfl hin_X0 5 (Nat.le_of_ble_eq_true rfl) (tb_c1 (w := Cond.fieldLink "TillPairs$Acts" 28 "TillPairs$Acts" "parted" "Z") 232 rfl rfl) rfl rfl d k
set_option maxRecDepth 20000 in
theorem gf_X10_102_56 (X : UC p s m args meth c cc nL RX10 R fr lo D ad cs sd A) (hP : va_P D clss (wld cs ad z) H) (d : decode cc pc = .ok (.getfield 102, 3)) (k : W p l e R s m args below meth c H locs cells slots Q (F0 m (pc + 3) ls (.int (gI z 56 0) :: rest))) : W p l e R s m args below meth c H locs cells slots Q (F0 m pc ls (.ref (ad 56) :: rest)) := u_get (C := RX10) (T := TX10) (N := 51) 10 56 X hP rfl rfl hin_X10 0 (Nat.le_of_ble_eq_true rfl) (tb_c5 (w := Cond.fieldLink "TillPairsModel" 102 "TillPairsModel" "people" "I") 79 rfl rfl) rfl rfl d k
set_option maxRecDepth 20000 in
theorem gf_X10_113_56 (X : UC p s m args meth c cc nL RX10 R fr lo D ad cs sd A) (hP : va_P D clss (wld cs ad z) H) (d : decode cc pc = .ok (.getfield 113, 3)) (k : W p l e R s m args below meth c H locs cells slots Q (F0 m (pc + 3) ls (.int (gI z 56 13) :: rest))) : W p l e R s m args below meth c H locs cells slots Q (F0 m pc ls (.ref (ad 56) :: rest)) := u_get (C := RX10) (T := TX10) (N := 51) 10 56 X hP rfl rfl hin_X10 13 (Nat.le_of_ble_eq_true rfl) (tb_c5 (w := Cond.fieldLink "TillPairsModel" 113 "TillPairsModel" "tapeMany" "I") 92 rfl rfl) rfl rfl d k
set_option maxRecDepth 20000 in
theorem gf_X10_118_56 (X : UC p s m args meth c cc nL RX10 R fr lo D ad cs sd A) (hP : va_P D clss (wld cs ad z) H) (d : decode cc pc = .ok (.getfield 118, 3)) (k : W p l e R s m args below meth c H locs cells slots Q (F0 m (pc + 3) ls (.int (gI z 56 16) :: rest))) : W p l e R s m args below meth c H locs cells slots Q (F0 m pc ls (.ref (ad 56) :: rest)) := u_get (C := RX10) (T := TX10) (N := 51) 10 56 X hP rfl rfl hin_X10 16 (Nat.le_of_ble_eq_true rfl) (tb_c5 (w := Cond.fieldLink "TillPairsModel" 118 "TillPairsModel" "tokenEnds" "I") 95 rfl rfl) rfl rfl d k
set_option maxRecDepth 20000 in
theorem gf_X10_121_56 (X : UC p s m args meth c cc nL RX10 R fr lo D ad cs sd A) (hP : va_P D clss (wld cs ad z) H) (d : decode cc pc = .ok (.getfield 121, 3)) (k : W p l e R s m args below meth c H locs cells slots Q (F0 m (pc + 3) ls (.int (gI z 56 15) :: rest))) : W p l e R s m args below meth c H locs cells slots Q (F0 m pc ls (.ref (ad 56) :: rest)) := u_get (C := RX10) (T := TX10) (N := 51) 10 56 X hP rfl rfl hin_X10 15 (Nat.le_of_ble_eq_true rfl) (tb_c5 (w := Cond.fieldLink "TillPairsModel" 121 "TillPairsModel" "begins" "I") 94 rfl rfl) rfl rfl d k
set_option maxRecDepth 20000 in
theorem gf_X10_134_56 (X : UC p s m args meth c cc nL RX10 R fr lo D ad cs sd A) (hP : va_P D clss (wld cs ad z) H) (d : decode cc pc = .ok (.getfield 134, 3)) (k : W p l e R s m args below meth c H locs cells slots Q (F0 m (pc + 3) ls (.int (gI z 56 14) :: rest))) : W p l e R s m args below meth c H locs cells slots Q (F0 m pc ls (.ref (ad 56) :: rest)) := u_get (C := RX10) (T := TX10) (N := 51) 10 56 X hP rfl rfl hin_X10 14 (Nat.le_of_ble_eq_true rfl) (tb_c5 (w := Cond.fieldLink "TillPairsModel" 134 "TillPairsModel" "sort" "I") 93 rfl rfl) rfl rfl d k
set_option maxRecDepth 20000 in
theorem gf_X10_137_56 (X : UC p s m args meth c cc nL RX10 R fr lo D ad cs sd A) (hP : va_P D clss (wld cs ad z) H) (d : decode cc pc = .ok (.getfield 137, 3)) (k : W p l e R s m args below meth c H locs cells slots Q (F0 m (pc + 3) ls (.long (gJ z 56 17) :: rest))) : W p l e R s m args below meth c H locs cells slots Q (F0 m pc ls (.ref (ad 56) :: rest)) := u_get (C := RX10) (T := TX10) (N := 51) 10 56 X hP rfl rfl hin_X10 17 (Nat.le_of_ble_eq_true rfl) (tb_c5 (w := Cond.fieldLink "TillPairsModel" 137 "TillPairsModel" "word" "J") 96 rfl rfl) rfl rfl d k
set_option maxRecDepth 20000 in
theorem gf_X10_13_56 (X : UC p s m args meth c cc nL RX10 R fr lo D ad cs sd A) (hP : va_P D clss (wld cs ad z) H) (d : decode cc pc = .ok (.getfield 13, 3)) (k : W p l e R s m args below meth c H locs cells slots Q (F0 m (pc + 3) ls (.ref (ad 58) :: rest))) : W p l e R s m args below meth c H locs cells slots Q (F0 m pc ls (.ref (ad 56) :: rest)) := u_get (C := RX10) (T := TX10) (N := 51) 10 56 X hP rfl rfl hin_X10 2 (Nat.le_of_ble_eq_true rfl) (tb_c5 (w := Cond.fieldLink "TillPairsModel" 13 "TillPairsModel" "away" "[I") 81 rfl rfl) rfl rfl d k
set_option maxRecDepth 20000 in
theorem gf_X10_141_56 (X : UC p s m args meth c cc nL RX10 R fr lo D ad cs sd A) (hP : va_P D clss (wld cs ad z) H) (d : decode cc pc = .ok (.getfield 141, 3)) (k : W p l e R s m args below meth c H locs cells slots Q (F0 m (pc + 3) ls (.int (gI z 56 18) :: rest))) : W p l e R s m args below meth c H locs cells slots Q (F0 m pc ls (.ref (ad 56) :: rest)) := u_get (C := RX10) (T := TX10) (N := 51) 10 56 X hP rfl rfl hin_X10 18 (Nat.le_of_ble_eq_true rfl) (tb_c5 (w := Cond.fieldLink "TillPairsModel" 141 "TillPairsModel" "value" "I") 97 rfl rfl) rfl rfl d k
set_option maxRecDepth 20000 in
theorem gf_X10_16_56 (X : UC p s m args meth c cc nL RX10 R fr lo D ad cs sd A) (hP : va_P D clss (wld cs ad z) H) (d : decode cc pc = .ok (.getfield 16, 3)) (k : W p l e R s m args below meth c H locs cells slots Q (F0 m (pc + 3) ls (.ref (ad 59) :: rest))) : W p l e R s m args below meth c H locs cells slots Q (F0 m pc ls (.ref (ad 56) :: rest)) := u_get (C := RX10) (T := TX10) (N := 51) 10 56 X hP rfl rfl hin_X10 3 (Nat.le_of_ble_eq_true rfl) (tb_c5 (w := Cond.fieldLink "TillPairsModel" 16 "TillPairsModel" "first" "[I") 82 rfl rfl) rfl rfl d k
set_option maxRecDepth 20000 in
theorem gf_X10_170_56 (X : UC p s m args meth c cc nL RX10 R fr lo D ad cs sd A) (hP : va_P D clss (wld cs ad z) H) (d : decode cc pc = .ok (.getfield 170, 3)) (k : W p l e R s m args below meth c H locs cells slots Q (F0 m (pc + 3) ls (.int (gI z 56 19) :: rest))) : W p l e R s m args below meth c H locs cells slots Q (F0 m pc ls (.ref (ad 56) :: rest)) := u_get (C := RX10) (T := TX10) (N := 51) 10 56 X hP rfl rfl hin_X10 19 (Nat.le_of_ble_eq_true rfl) (tb_c5 (w := Cond.fieldLink "TillPairsModel" 170 "TillPairsModel" "good" "Z") 98 rfl rfl) rfl rfl d k
set_option maxRecDepth 20000 in
theorem gf_X10_180_56 (X : UC p s m args meth c cc nL RX10 R fr lo D ad cs sd A) (hP : va_P D clss (wld cs ad z) H) (d : decode cc pc = .ok (.getfield 180, 3)) (k : W p l e R s m args below meth c H locs cells slots Q (F0 m (pc + 3) ls (.int (gI z 56 20) :: rest))) : W p l e R s m args below meth c H locs cells slots Q (F0 m pc ls (.ref (ad 56) :: rest)) := u_get (C := RX10) (T := TX10) (N := 51) 10 56 X hP rfl rfl hin_X10 20 (Nat.le_of_ble_eq_true rfl) (tb_c5 (w := Cond.fieldLink "TillPairsModel" 180 "TillPairsModel" "freshPeople" "I") 99 rfl rfl) rfl rfl d k
set_option maxRecDepth 20000 in
theorem gf_X10_19_56 (X : UC p s m args meth c cc nL RX10 R fr lo D ad cs sd A) (hP : va_P D clss (wld cs ad z) H) (d : decode cc pc = .ok (.getfield 19, 3)) (k : W p l e R s m args below meth c H locs cells slots Q (F0 m (pc + 3) ls (.ref (ad 60) :: rest))) : W p l e R s m args below meth c H locs cells slots Q (F0 m pc ls (.ref (ad 56) :: rest)) := u_get (C := RX10) (T := TX10) (N := 51) 10 56 X hP rfl rfl hin_X10 4 (Nat.le_of_ble_eq_true rfl) (tb_c5 (w := Cond.fieldLink "TillPairsModel" 19 "TillPairsModel" "posts" "[I") 83 rfl rfl) rfl rfl d k
set_option maxRecDepth 20000 in
theorem gf_X10_220_56 (X : UC p s m args meth c cc nL RX10 R fr lo D ad cs sd A) (hP : va_P D clss (wld cs ad z) H) (d : decode cc pc = .ok (.getfield 220, 3)) (k : W p l e R s m args below meth c H locs cells slots Q (F0 m (pc + 3) ls (.int (gI z 56 5) :: rest))) : W p l e R s m args below meth c H locs cells slots Q (F0 m pc ls (.ref (ad 56) :: rest)) := u_get (C := RX10) (T := TX10) (N := 51) 10 56 X hP rfl rfl hin_X10 5 (Nat.le_of_ble_eq_true rfl) (tb_c5 (w := Cond.fieldLink "TillPairsModel" 220 "TillPairsModel" "surprises" "I") 84 rfl rfl) rfl rfl d k
set_option maxRecDepth 20000 in
theorem gf_X10_223_56 (X : UC p s m args meth c cc nL RX10 R fr lo D ad cs sd A) (hP : va_P D clss (wld cs ad z) H) (d : decode cc pc = .ok (.getfield 223, 3)) (k : W p l e R s m args below meth c H locs cells slots Q (F0 m (pc + 3) ls (.int (gI z 56 34) :: rest))) : W p l e R s m args below meth c H locs cells slots Q (F0 m pc ls (.ref (ad 56) :: rest)) := u_get (C := RX10) (T := TX10) (N := 51) 10 56 X hP rfl rfl hin_X10 34 (Nat.le_of_ble_eq_true rfl) (tb_c5 (w := Cond.fieldLink "TillPairsModel" 223 "TillPairsModel" "rowMany" "I") 113 rfl rfl) rfl rfl d k
set_option maxRecDepth 20000 in
theorem gf_X10_22_56 (X : UC p s m args meth c cc nL RX10 R fr lo D ad cs sd A) (hP : va_P D clss (wld cs ad z) H) (d : decode cc pc = .ok (.getfield 22, 3)) (k : W p l e R s m args below meth c H locs cells slots Q (F0 m (pc + 3) ls (.ref (ad 61) :: rest))) : W p l e R s m args below meth c H locs cells slots Q (F0 m pc ls (.ref (ad 56) :: rest)) := u_get (C := RX10) (T := TX10) (N := 51) 10 56 X hP rfl rfl hin_X10 6 (Nat.le_of_ble_eq_true rfl) (tb_c5 (w := Cond.fieldLink "TillPairsModel" 22 "TillPairsModel" "losses" "[I") 85 rfl rfl) rfl rfl d k
set_option maxRecDepth 20000 in
theorem gf_X10_25_56 (X : UC p s m args meth c cc nL RX10 R fr lo D ad cs sd A) (hP : va_P D clss (wld cs ad z) H) (d : decode cc pc = .ok (.getfield 25, 3)) (k : W p l e R s m args below meth c H locs cells slots Q (F0 m (pc + 3) ls (.ref (ad 62) :: rest))) : W p l e R s m args below meth c H locs cells slots Q (F0 m pc ls (.ref (ad 56) :: rest)) := u_get (C := RX10) (T := TX10) (N := 51) 10 56 X hP rfl rfl hin_X10 7 (Nat.le_of_ble_eq_true rfl) (tb_c5 (w := Cond.fieldLink "TillPairsModel" 25 "TillPairsModel" "laws" "[I") 86 rfl rfl) rfl rfl d k
set_option maxRecDepth 20000 in
theorem gf_X10_275_56 (X : UC p s m args meth c cc nL RX10 R fr lo D ad cs sd A) (hP : va_P D clss (wld cs ad z) H) (d : decode cc pc = .ok (.getfield 275, 3)) (k : W p l e R s m args below meth c H locs cells slots Q (F0 m (pc + 3) ls (.long (gJ z 56 25) :: rest))) : W p l e R s m args below meth c H locs cells slots Q (F0 m pc ls (.ref (ad 56) :: rest)) := u_get (C := RX10) (T := TX10) (N := 51) 10 56 X hP rfl rfl hin_X10 25 (Nat.le_of_ble_eq_true rfl) (tb_c5 (w := Cond.fieldLink "TillPairsModel" 275 "TillPairsModel" "above" "J") 104 rfl rfl) rfl rfl d k
set_option maxRecDepth 20000 in
theorem gf_X10_278_56 (X : UC p s m args meth c cc nL RX10 R fr lo D ad cs sd A) (hP : va_P D clss (wld cs ad z) H) (d : decode cc pc = .ok (.getfield 278, 3)) (k : W p l e R s m args below meth c H locs cells slots Q (F0 m (pc + 3) ls (.long (gJ z 56 26) :: rest))) : W p l e R s m args below meth c H locs cells slots Q (F0 m pc ls (.ref (ad 56) :: rest)) := u_get (C := RX10) (T := TX10) (N := 51) 10 56 X hP rfl rfl hin_X10 26 (Nat.le_of_ble_eq_true rfl) (tb_c5 (w := Cond.fieldLink "TillPairsModel" 278 "TillPairsModel" "below" "J") 105 rfl rfl) rfl rfl d k
set_option maxRecDepth 20000 in
theorem gf_X10_28_56 (X : UC p s m args meth c cc nL RX10 R fr lo D ad cs sd A) (hP : va_P D clss (wld cs ad z) H) (d : decode cc pc = .ok (.getfield 28, 3)) (k : W p l e R s m args below meth c H locs cells slots Q (F0 m (pc + 3) ls (.ref (ad 63) :: rest))) : W p l e R s m args below meth c H locs cells slots Q (F0 m pc ls (.ref (ad 56) :: rest)) := u_get (C := RX10) (T := TX10) (N := 51) 10 56 X hP rfl rfl hin_X10 8 (Nat.le_of_ble_eq_true rfl) (tb_c5 (w := Cond.fieldLink "TillPairsModel" 28 "TillPairsModel" "mostOf" "[I") 87 rfl rfl) rfl rfl d k
set_option maxRecDepth 20000 in
theorem gf_X10_315_56 (X : UC p s m args meth c cc nL RX10 R fr lo D ad cs sd A) (hP : va_P D clss (wld cs ad z) H) (d : decode cc pc = .ok (.getfield 315, 3)) (k : W p l e R s m args below meth c H locs cells slots Q (F0 m (pc + 3) ls (.int (gI z 56 9) :: rest))) : W p l e R s m args below meth c H locs cells slots Q (F0 m pc ls (.ref (ad 56) :: rest)) := u_get (C := RX10) (T := TX10) (N := 51) 10 56 X hP rfl rfl hin_X10 9 (Nat.le_of_ble_eq_true rfl) (tb_c5 (w := Cond.fieldLink "TillPairsModel" 315 "TillPairsModel" "plans" "I") 88 rfl rfl) rfl rfl d k
set_option maxRecDepth 20000 in
theorem gf_X10_31_56 (X : UC p s m args meth c cc nL RX10 R fr lo D ad cs sd A) (hP : va_P D clss (wld cs ad z) H) (d : decode cc pc = .ok (.getfield 31, 3)) (k : W p l e R s m args below meth c H locs cells slots Q (F0 m (pc + 3) ls (.ref (ad 64) :: rest))) : W p l e R s m args below meth c H locs cells slots Q (F0 m pc ls (.ref (ad 56) :: rest)) := u_get (C := RX10) (T := TX10) (N := 51) 10 56 X hP rfl rfl hin_X10 10 (Nat.le_of_ble_eq_true rfl) (tb_c5 (w := Cond.fieldLink "TillPairsModel" 31 "TillPairsModel" "plan" "[I") 89 rfl rfl) rfl rfl d k
set_option maxRecDepth 20000 in
theorem gf_X10_34_56 (X : UC p s m args meth c cc nL RX10 R fr lo D ad cs sd A) (hP : va_P D clss (wld cs ad z) H) (d : decode cc pc = .ok (.getfield 34, 3)) (k : W p l e R s m args below meth c H locs cells slots Q (F0 m (pc + 3) ls (.int (gI z 56 11) :: rest))) : W p l e R s m args below meth c H locs cells slots Q (F0 m pc ls (.ref (ad 56) :: rest)) := u_get (C := RX10) (T := TX10) (N := 51) 10 56 X hP rfl rfl hin_X10 11 (Nat.le_of_ble_eq_true rfl) (tb_c5 (w := Cond.fieldLink "TillPairsModel" 34 "TillPairsModel" "z" "I") 90 rfl rfl) rfl rfl d k
set_option maxRecDepth 20000 in
theorem gf_X10_362_56 (X : UC p s m args meth c cc nL RX10 R fr lo D ad cs sd A) (hP : va_P D clss (wld cs ad z) H) (d : decode cc pc = .ok (.getfield 362, 3)) (k : W p l e R s m args below meth c H locs cells slots Q (F0 m (pc + 3) ls (.int (gI z 56 45) :: rest))) : W p l e R s m args below meth c H locs cells slots Q (F0 m pc ls (.ref (ad 56) :: rest)) := u_get (C := RX10) (T := TX10) (N := 51) 10 56 X hP rfl rfl hin_X10 45 (Nat.le_of_ble_eq_true rfl) (tb_c5 (w := Cond.fieldLink "TillPairsModel" 362 "TillPairsModel" "bodies" "I") 124 rfl rfl) rfl rfl d k
set_option maxRecDepth 20000 in
theorem gf_X10_368_56 (X : UC p s m args meth c cc nL RX10 R fr lo D ad cs sd A) (hP : va_P D clss (wld cs ad z) H) (d : decode cc pc = .ok (.getfield 368, 3)) (k : W p l e R s m args below meth c H locs cells slots Q (F0 m (pc + 3) ls (.int (gI z 56 42) :: rest))) : W p l e R s m args below meth c H locs cells slots Q (F0 m pc ls (.ref (ad 56) :: rest)) := u_get (C := RX10) (T := TX10) (N := 51) 10 56 X hP rfl rfl hin_X10 42 (Nat.le_of_ble_eq_true rfl) (tb_c5 (w := Cond.fieldLink "TillPairsModel" 368 "TillPairsModel" "number" "I") 121 rfl rfl) rfl rfl d k
set_option maxRecDepth 20000 in
theorem gf_X10_371_56 (X : UC p s m args meth c cc nL RX10 R fr lo D ad cs sd A) (hP : va_P D clss (wld cs ad z) H) (d : decode cc pc = .ok (.getfield 371, 3)) (k : W p l e R s m args below meth c H locs cells slots Q (F0 m (pc + 3) ls (.int (gI z 56 41) :: rest))) : W p l e R s m args below meth c H locs cells slots Q (F0 m pc ls (.ref (ad 56) :: rest)) := u_get (C := RX10) (T := TX10) (N := 51) 10 56 X hP rfl rfl hin_X10 41 (Nat.le_of_ble_eq_true rfl) (tb_c5 (w := Cond.fieldLink "TillPairsModel" 371 "TillPairsModel" "kind" "I") 120 rfl rfl) rfl rfl d k
set_option maxRecDepth 20000 in
theorem gf_X10_383_56 (X : UC p s m args meth c cc nL RX10 R fr lo D ad cs sd A) (hP : va_P D clss (wld cs ad z) H) (d : decode cc pc = .ok (.getfield 383, 3)) (k : W p l e R s m args below meth c H locs cells slots Q (F0 m (pc + 3) ls (.int (gI z 56 43) :: rest))) : W p l e R s m args below meth c H locs cells slots Q (F0 m pc ls (.ref (ad 56) :: rest)) := u_get (C := RX10) (T := TX10) (N := 51) 10 56 X hP rfl rfl hin_X10 43 (Nat.le_of_ble_eq_true rfl) (tb_c5 (w := Cond.fieldLink "TillPairsModel" 383 "TillPairsModel" "own" "I") 122 rfl rfl) rfl rfl d k
set_option maxRecDepth 20000 in
theorem gf_X10_389_56 (X : UC p s m args meth c cc nL RX10 R fr lo D ad cs sd A) (hP : va_P D clss (wld cs ad z) H) (d : decode cc pc = .ok (.getfield 389, 3)) (k : W p l e R s m args below meth c H locs cells slots Q (F0 m (pc + 3) ls (.int (gI z 56 46) :: rest))) : W p l e R s m args below meth c H locs cells slots Q (F0 m pc ls (.ref (ad 56) :: rest)) := u_get (C := RX10) (T := TX10) (N := 51) 10 56 X hP rfl rfl hin_X10 46 (Nat.le_of_ble_eq_true rfl) (tb_c5 (w := Cond.fieldLink "TillPairsModel" 389 "TillPairsModel" "isParted" "Z") 125 rfl rfl) rfl rfl d k
set_option maxRecDepth 20000 in
theorem gf_X10_38_56 (X : UC p s m args meth c cc nL RX10 R fr lo D ad cs sd A) (hP : va_P D clss (wld cs ad z) H) (d : decode cc pc = .ok (.getfield 38, 3)) (k : W p l e R s m args below meth c H locs cells slots Q (F0 m (pc + 3) ls (.ref (ad 65) :: rest))) : W p l e R s m args below meth c H locs cells slots Q (F0 m pc ls (.ref (ad 56) :: rest)) := u_get (C := RX10) (T := TX10) (N := 51) 10 56 X hP rfl rfl hin_X10 12 (Nat.le_of_ble_eq_true rfl) (tb_c5 (w := Cond.fieldLink "TillPairsModel" 38 "TillPairsModel" "tape" "[I") 91 rfl rfl) rfl rfl d k
set_option maxRecDepth 20000 in
theorem gf_X10_407_56 (X : UC p s m args meth c cc nL RX10 R fr lo D ad cs sd A) (hP : va_P D clss (wld cs ad z) H) (d : decode cc pc = .ok (.getfield 407, 3)) (k : W p l e R s m args below meth c H locs cells slots Q (F0 m (pc + 3) ls (.int (gI z 56 49) :: rest))) : W p l e R s m args below meth c H locs cells slots Q (F0 m pc ls (.ref (ad 56) :: rest)) := u_get (C := RX10) (T := TX10) (N := 51) 10 56 X hP rfl rfl hin_X10 49 (Nat.le_of_ble_eq_true rfl) (tb_c5 (w := Cond.fieldLink "TillPairsModel" 407 "TillPairsModel" "movedTo" "I") 128 rfl rfl) rfl rfl d k
set_option maxRecDepth 20000 in
theorem gf_X10_417_56 (X : UC p s m args meth c cc nL RX10 R fr lo D ad cs sd A) (hP : va_P D clss (wld cs ad z) H) (d : decode cc pc = .ok (.getfield 417, 3)) (k : W p l e R s m args below meth c H locs cells slots Q (F0 m (pc + 3) ls (.int (gI z 56 47) :: rest))) : W p l e R s m args below meth c H locs cells slots Q (F0 m pc ls (.ref (ad 56) :: rest)) := u_get (C := RX10) (T := TX10) (N := 51) 10 56 X hP rfl rfl hin_X10 47 (Nat.le_of_ble_eq_true rfl) (tb_c5 (w := Cond.fieldLink "TillPairsModel" 417 "TillPairsModel" "isKept" "Z") 126 rfl rfl) rfl rfl d k
set_option maxRecDepth 20000 in
theorem gf_X10_41_56 (X : UC p s m args meth c cc nL RX10 R fr lo D ad cs sd A) (hP : va_P D clss (wld cs ad z) H) (d : decode cc pc = .ok (.getfield 41, 3)) (k : W p l e R s m args below meth c H locs cells slots Q (F0 m (pc + 3) ls (.ref (ad 66) :: rest))) : W p l e R s m args below meth c H locs cells slots Q (F0 m pc ls (.ref (ad 56) :: rest)) := u_get (C := RX10) (T := TX10) (N := 51) 10 56 X hP rfl rfl hin_X10 21 (Nat.le_of_ble_eq_true rfl) (tb_c5 (w := Cond.fieldLink "TillPairsModel" 41 "TillPairsModel" "freshKin" "[I") 100 rfl rfl) rfl rfl d k
set_option maxRecDepth 20000 in
theorem gf_X10_44_56 (X : UC p s m args meth c cc nL RX10 R fr lo D ad cs sd A) (hP : va_P D clss (wld cs ad z) H) (d : decode cc pc = .ok (.getfield 44, 3)) (k : W p l e R s m args below meth c H locs cells slots Q (F0 m (pc + 3) ls (.ref (ad 67) :: rest))) : W p l e R s m args below meth c H locs cells slots Q (F0 m pc ls (.ref (ad 56) :: rest)) := u_get (C := RX10) (T := TX10) (N := 51) 10 56 X hP rfl rfl hin_X10 22 (Nat.le_of_ble_eq_true rfl) (tb_c5 (w := Cond.fieldLink "TillPairsModel" 44 "TillPairsModel" "freshAway" "[I") 101 rfl rfl) rfl rfl d k
set_option maxRecDepth 20000 in
theorem gf_X10_47_56 (X : UC p s m args meth c cc nL RX10 R fr lo D ad cs sd A) (hP : va_P D clss (wld cs ad z) H) (d : decode cc pc = .ok (.getfield 47, 3)) (k : W p l e R s m args below meth c H locs cells slots Q (F0 m (pc + 3) ls (.ref (ad 68) :: rest))) : W p l e R s m args below meth c H locs cells slots Q (F0 m pc ls (.ref (ad 56) :: rest)) := u_get (C := RX10) (T := TX10) (N := 51) 10 56 X hP rfl rfl hin_X10 23 (Nat.le_of_ble_eq_true rfl) (tb_c5 (w := Cond.fieldLink "TillPairsModel" 47 "TillPairsModel" "freshFirst" "[I") 102 rfl rfl) rfl rfl d k
set_option maxRecDepth 20000 in
theorem gf_X10_50_56 (X : UC p s m args meth c cc nL RX10 R fr lo D ad cs sd A) (hP : va_P D clss (wld cs ad z) H) (d : decode cc pc = .ok (.getfield 50, 3)) (k : W p l e R s m args below meth c H locs cells slots Q (F0 m (pc + 3) ls (.ref (ad 69) :: rest))) : W p l e R s m args below meth c H locs cells slots Q (F0 m pc ls (.ref (ad 56) :: rest)) := u_get (C := RX10) (T := TX10) (N := 51) 10 56 X hP rfl rfl hin_X10 24 (Nat.le_of_ble_eq_true rfl) (tb_c5 (w := Cond.fieldLink "TillPairsModel" 50 "TillPairsModel" "freshLaws" "[I") 103 rfl rfl) rfl rfl d k
set_option maxRecDepth 20000 in
theorem gf_X10_53_56 (X : UC p s m args meth c cc nL RX10 R fr lo D ad cs sd A) (hP : va_P D clss (wld cs ad z) H) (d : decode cc pc = .ok (.getfield 53, 3)) (k : W p l e R s m args below meth c H locs cells slots Q (F0 m (pc + 3) ls (.ref (ad 70) :: rest))) : W p l e R s m args below meth c H locs cells slots Q (F0 m pc ls (.ref (ad 56) :: rest)) := u_get (C := RX10) (T := TX10) (N := 51) 10 56 X hP rfl rfl hin_X10 27 (Nat.le_of_ble_eq_true rfl) (tb_c5 (w := Cond.fieldLink "TillPairsModel" 53 "TillPairsModel" "had" "[I") 106 rfl rfl) rfl rfl d k
set_option maxRecDepth 20000 in
theorem gf_X10_56_56 (X : UC p s m args meth c cc nL RX10 R fr lo D ad cs sd A) (hP : va_P D clss (wld cs ad z) H) (d : decode cc pc = .ok (.getfield 56, 3)) (k : W p l e R s m args below meth c H locs cells slots Q (F0 m (pc + 3) ls (.ref (ad 71) :: rest))) : W p l e R s m args below meth c H locs cells slots Q (F0 m pc ls (.ref (ad 56) :: rest)) := u_get (C := RX10) (T := TX10) (N := 51) 10 56 X hP rfl rfl hin_X10 28 (Nat.le_of_ble_eq_true rfl) (tb_c5 (w := Cond.fieldLink "TillPairsModel" 56 "TillPairsModel" "bestWay" "[I") 107 rfl rfl) rfl rfl d k
set_option maxRecDepth 20000 in
theorem gf_X10_59_56 (X : UC p s m args meth c cc nL RX10 R fr lo D ad cs sd A) (hP : va_P D clss (wld cs ad z) H) (d : decode cc pc = .ok (.getfield 59, 3)) (k : W p l e R s m args below meth c H locs cells slots Q (F0 m (pc + 3) ls (.ref (ad 72) :: rest))) : W p l e R s m args below meth c H locs cells slots Q (F0 m pc ls (.ref (ad 56) :: rest)) := u_get (C := RX10) (T := TX10) (N := 51) 10 56 X hP rfl rfl hin_X10 29 (Nat.le_of_ble_eq_true rfl) (tb_c5 (w := Cond.fieldLink "TillPairsModel" 59 "TillPairsModel" "place" "[I") 108 rfl rfl) rfl rfl d k
set_option maxRecDepth 20000 in
theorem gf_X10_62_56 (X : UC p s m args meth c cc nL RX10 R fr lo D ad cs sd A) (hP : va_P D clss (wld cs ad z) H) (d : decode cc pc = .ok (.getfield 62, 3)) (k : W p l e R s m args below meth c H locs cells slots Q (F0 m (pc + 3) ls (.ref (ad 73) :: rest))) : W p l e R s m args below meth c H locs cells slots Q (F0 m pc ls (.ref (ad 56) :: rest)) := u_get (C := RX10) (T := TX10) (N := 51) 10 56 X hP rfl rfl hin_X10 30 (Nat.le_of_ble_eq_true rfl) (tb_c5 (w := Cond.fieldLink "TillPairsModel" 62 "TillPairsModel" "often" "[J") 109 rfl rfl) rfl rfl d k
set_option maxRecDepth 20000 in
theorem gf_X10_66_56 (X : UC p s m args meth c cc nL RX10 R fr lo D ad cs sd A) (hP : va_P D clss (wld cs ad z) H) (d : decode cc pc = .ok (.getfield 66, 3)) (k : W p l e R s m args below meth c H locs cells slots Q (F0 m (pc + 3) ls (.ref (ad 74) :: rest))) : W p l e R s m args below meth c H locs cells slots Q (F0 m pc ls (.ref (ad 56) :: rest)) := u_get (C := RX10) (T := TX10) (N := 51) 10 56 X hP rfl rfl hin_X10 31 (Nat.le_of_ble_eq_true rfl) (tb_c5 (w := Cond.fieldLink "TillPairsModel" 66 "TillPairsModel" "way" "[I") 110 rfl rfl) rfl rfl d k
set_option maxRecDepth 20000 in
theorem gf_X10_69_56 (X : UC p s m args meth c cc nL RX10 R fr lo D ad cs sd A) (hP : va_P D clss (wld cs ad z) H) (d : decode cc pc = .ok (.getfield 69, 3)) (k : W p l e R s m args below meth c H locs cells slots Q (F0 m (pc + 3) ls (.ref (ad 75) :: rest))) : W p l e R s m args below meth c H locs cells slots Q (F0 m pc ls (.ref (ad 56) :: rest)) := u_get (C := RX10) (T := TX10) (N := 51) 10 56 X hP rfl rfl hin_X10 32 (Nat.le_of_ble_eq_true rfl) (tb_c5 (w := Cond.fieldLink "TillPairsModel" 69 "TillPairsModel" "rows" "[I") 111 rfl rfl) rfl rfl d k
set_option maxRecDepth 20000 in
theorem gf_X10_72_56 (X : UC p s m args meth c cc nL RX10 R fr lo D ad cs sd A) (hP : va_P D clss (wld cs ad z) H) (d : decode cc pc = .ok (.getfield 72, 3)) (k : W p l e R s m args below meth c H locs cells slots Q (F0 m (pc + 3) ls (.ref (ad 76) :: rest))) : W p l e R s m args below meth c H locs cells slots Q (F0 m pc ls (.ref (ad 56) :: rest)) := u_get (C := RX10) (T := TX10) (N := 51) 10 56 X hP rfl rfl hin_X10 33 (Nat.le_of_ble_eq_true rfl) (tb_c5 (w := Cond.fieldLink "TillPairsModel" 72 "TillPairsModel" "must" "[I") 112 rfl rfl) rfl rfl d k
set_option maxRecDepth 20000 in
theorem gf_X10_75_56 (X : UC p s m args meth c cc nL RX10 R fr lo D ad cs sd A) (hP : va_P D clss (wld cs ad z) H) (d : decode cc pc = .ok (.getfield 75, 3)) (k : W p l e R s m args below meth c H locs cells slots Q (F0 m (pc + 3) ls (.ref (ad 77) :: rest))) : W p l e R s m args below meth c H locs cells slots Q (F0 m pc ls (.ref (ad 56) :: rest)) := u_get (C := RX10) (T := TX10) (N := 51) 10 56 X hP rfl rfl hin_X10 35 (Nat.le_of_ble_eq_true rfl) (tb_c5 (w := Cond.fieldLink "TillPairsModel" 75 "TillPairsModel" "sorts" "[I") 114 rfl rfl) rfl rfl d k
set_option maxRecDepth 20000 in
theorem gf_X10_78_56 (X : UC p s m args meth c cc nL RX10 R fr lo D ad cs sd A) (hP : va_P D clss (wld cs ad z) H) (d : decode cc pc = .ok (.getfield 78, 3)) (k : W p l e R s m args below meth c H locs cells slots Q (F0 m (pc + 3) ls (.ref (ad 78) :: rest))) : W p l e R s m args below meth c H locs cells slots Q (F0 m pc ls (.ref (ad 56) :: rest)) := u_get (C := RX10) (T := TX10) (N := 51) 10 56 X hP rfl rfl hin_X10 36 (Nat.le_of_ble_eq_true rfl) (tb_c5 (w := Cond.fieldLink "TillPairsModel" 78 "TillPairsModel" "sizes" "[I") 115 rfl rfl) rfl rfl d k
set_option maxRecDepth 20000 in
theorem gf_X10_7_56 (X : UC p s m args meth c cc nL RX10 R fr lo D ad cs sd A) (hP : va_P D clss (wld cs ad z) H) (d : decode cc pc = .ok (.getfield 7, 3)) (k : W p l e R s m args below meth c H locs cells slots Q (F0 m (pc + 3) ls (.ref (ad 57) :: rest))) : W p l e R s m args below meth c H locs cells slots Q (F0 m pc ls (.ref (ad 56) :: rest)) := u_get (C := RX10) (T := TX10) (N := 51) 10 56 X hP rfl rfl hin_X10 1 (Nat.le_of_ble_eq_true rfl) (tb_c5 (w := Cond.fieldLink "TillPairsModel" 7 "TillPairsModel" "kin" "[I") 80 rfl rfl) rfl rfl d k
set_option maxRecDepth 20000 in
theorem gf_X10_81_56 (X : UC p s m args meth c cc nL RX10 R fr lo D ad cs sd A) (hP : va_P D clss (wld cs ad z) H) (d : decode cc pc = .ok (.getfield 81, 3)) (k : W p l e R s m args below meth c H locs cells slots Q (F0 m (pc + 3) ls (.ref (ad 79) :: rest))) : W p l e R s m args below meth c H locs cells slots Q (F0 m pc ls (.ref (ad 56) :: rest)) := u_get (C := RX10) (T := TX10) (N := 51) 10 56 X hP rfl rfl hin_X10 37 (Nat.le_of_ble_eq_true rfl) (tb_c5 (w := Cond.fieldLink "TillPairsModel" 81 "TillPairsModel" "sheets" "[J") 116 rfl rfl) rfl rfl d k
set_option maxRecDepth 20000 in
theorem gf_X10_84_56 (X : UC p s m args meth c cc nL RX10 R fr lo D ad cs sd A) (hP : va_P D clss (wld cs ad z) H) (d : decode cc pc = .ok (.getfield 84, 3)) (k : W p l e R s m args below meth c H locs cells slots Q (F0 m (pc + 3) ls (.ref (ad 80) :: rest))) : W p l e R s m args below meth c H locs cells slots Q (F0 m pc ls (.ref (ad 56) :: rest)) := u_get (C := RX10) (T := TX10) (N := 51) 10 56 X hP rfl rfl hin_X10 38 (Nat.le_of_ble_eq_true rfl) (tb_c5 (w := Cond.fieldLink "TillPairsModel" 84 "TillPairsModel" "held" "[I") 117 rfl rfl) rfl rfl d k
set_option maxRecDepth 20000 in
theorem gf_X10_87_56 (X : UC p s m args meth c cc nL RX10 R fr lo D ad cs sd A) (hP : va_P D clss (wld cs ad z) H) (d : decode cc pc = .ok (.getfield 87, 3)) (k : W p l e R s m args below meth c H locs cells slots Q (F0 m (pc + 3) ls (.ref (ad 81) :: rest))) : W p l e R s m args below meth c H locs cells slots Q (F0 m pc ls (.ref (ad 56) :: rest)) := u_get (C := RX10) (T := TX10) (N := 51) 10 56 X hP rfl rfl hin_X10 39 (Nat.le_of_ble_eq_true rfl) (tb_c5 (w := Cond.fieldLink "TillPairsModel" 87 "TillPairsModel" "heldNumber" "[I") 118 rfl rfl) rfl rfl d k
set_option maxRecDepth 20000 in
theorem gf_X10_90_56 (X : UC p s m args meth c cc nL RX10 R fr lo D ad cs sd A) (hP : va_P D clss (wld cs ad z) H) (d : decode cc pc = .ok (.getfield 90, 3)) (k : W p l e R s m args below meth c H locs cells slots Q (F0 m (pc + 3) ls (.ref (ad 82) :: rest))) : W p l e R s m args below meth c H locs cells slots Q (F0 m pc ls (.ref (ad 56) :: rest)) := u_get (C := RX10) (T := TX10) (N := 51) 10 56 X hP rfl rfl hin_X10 40 (Nat.le_of_ble_eq_true rfl) (tb_c5 (w := Cond.fieldLink "TillPairsModel" 90 "TillPairsModel" "heldSize" "[I") 119 rfl rfl) rfl rfl d k
set_option maxRecDepth 20000 in
theorem gf_X10_93_56 (X : UC p s m args meth c cc nL RX10 R fr lo D ad cs sd A) (hP : va_P D clss (wld cs ad z) H) (d : decode cc pc = .ok (.getfield 93, 3)) (k : W p l e R s m args below meth c H locs cells slots Q (F0 m (pc + 3) ls (.ref (ad 83) :: rest))) : W p l e R s m args below meth c H locs cells slots Q (F0 m pc ls (.ref (ad 56) :: rest)) := u_get (C := RX10) (T := TX10) (N := 51) 10 56 X hP rfl rfl hin_X10 44 (Nat.le_of_ble_eq_true rfl) (tb_c5 (w := Cond.fieldLink "TillPairsModel" 93 "TillPairsModel" "traced" "[I") 123 rfl rfl) rfl rfl d k
set_option maxRecDepth 20000 in
theorem gf_X10_96_56 (X : UC p s m args meth c cc nL RX10 R fr lo D ad cs sd A) (hP : va_P D clss (wld cs ad z) H) (d : decode cc pc = .ok (.getfield 96, 3)) (k : W p l e R s m args below meth c H locs cells slots Q (F0 m (pc + 3) ls (.ref (ad 84) :: rest))) : W p l e R s m args below meth c H locs cells slots Q (F0 m pc ls (.ref (ad 56) :: rest)) := u_get (C := RX10) (T := TX10) (N := 51) 10 56 X hP rfl rfl hin_X10 48 (Nat.le_of_ble_eq_true rfl) (tb_c5 (w := Cond.fieldLink "TillPairsModel" 96 "TillPairsModel" "kept" "[I") 127 rfl rfl) rfl rfl d k
set_option maxRecDepth 20000 in
theorem gf_X10_99_56 (X : UC p s m args meth c cc nL RX10 R fr lo D ad cs sd A) (hP : va_P D clss (wld cs ad z) H) (d : decode cc pc = .ok (.getfield 99, 3)) (k : W p l e R s m args below meth c H locs cells slots Q (F0 m (pc + 3) ls (.ref (ad 85) :: rest))) : W p l e R s m args below meth c H locs cells slots Q (F0 m pc ls (.ref (ad 56) :: rest)) := u_get (C := RX10) (T := TX10) (N := 51) 10 56 X hP rfl rfl hin_X10 50 (Nat.le_of_ble_eq_true rfl) (tb_c5 (w := Cond.fieldLink "TillPairsModel" 99 "TillPairsModel" "single" "[I") 129 rfl rfl) rfl rfl d k
set_option maxRecDepth 20000 in
theorem gf_X1_13_34 (X : UC p s m args meth c cc nL RX1 R fr lo D ad cs sd A) (hP : va_P D clss (wld cs ad z) H) (d : decode cc pc = .ok (.getfield 13, 3)) (k : W p l e R s m args below meth c H locs cells slots Q (F0 m (pc + 3) ls (.ref (ad 36) :: rest))) : W p l e R s m args below meth c H locs cells slots Q (F0 m pc ls (.ref (ad 34) :: rest)) := u_get (C := RX1) (T := TX1) (N := 6) 1 34 X hP rfl rfl hin_X1 1 (Nat.le_of_ble_eq_true rfl) (tb_c2 (w := Cond.fieldLink "TillPairs$Host" 13 "TillPairs$Host" "lengths" "[I") 16 rfl rfl) rfl rfl d k
set_option maxRecDepth 20000 in
theorem gf_X1_18_34 (X : UC p s m args meth c cc nL RX1 R fr lo D ad cs sd A) (hP : va_P D clss (wld cs ad z) H) (d : decode cc pc = .ok (.getfield 18, 3)) (k : W p l e R s m args below meth c H locs cells slots Q (F0 m (pc + 3) ls (.ref (ad 37) :: rest))) : W p l e R s m args below meth c H locs cells slots Q (F0 m pc ls (.ref (ad 34) :: rest)) := u_get (C := RX1) (T := TX1) (N := 6) 1 34 X hP rfl rfl hin_X1 2 (Nat.le_of_ble_eq_true rfl) (tb_c2 (w := Cond.fieldLink "TillPairs$Host" 18 "TillPairs$Host" "items" "[[I") 18 rfl rfl) rfl rfl d k
set_option maxRecDepth 20000 in
theorem gf_X1_21_34 (X : UC p s m args meth c cc nL RX1 R fr lo D ad cs sd A) (hP : va_P D clss (wld cs ad z) H) (d : decode cc pc = .ok (.getfield 21, 3)) (k : W p l e R s m args below meth c H locs cells slots Q (F0 m (pc + 3) ls (.ref (ad 42) :: rest))) : W p l e R s m args below meth c H locs cells slots Q (F0 m pc ls (.ref (ad 34) :: rest)) := u_get (C := RX1) (T := TX1) (N := 6) 1 34 X hP rfl rfl hin_X1 3 (Nat.le_of_ble_eq_true rfl) (tb_c2 (w := Cond.fieldLink "TillPairs$Host" 21 "TillPairs$Host" "heldWhat" "[I") 20 rfl rfl) rfl rfl d k
set_option maxRecDepth 20000 in
theorem gf_X1_24_34 (X : UC p s m args meth c cc nL RX1 R fr lo D ad cs sd A) (hP : va_P D clss (wld cs ad z) H) (d : decode cc pc = .ok (.getfield 24, 3)) (k : W p l e R s m args below meth c H locs cells slots Q (F0 m (pc + 3) ls (.ref (ad 43) :: rest))) : W p l e R s m args below meth c H locs cells slots Q (F0 m pc ls (.ref (ad 34) :: rest)) := u_get (C := RX1) (T := TX1) (N := 6) 1 34 X hP rfl rfl hin_X1 4 (Nat.le_of_ble_eq_true rfl) (tb_c2 (w := Cond.fieldLink "TillPairs$Host" 24 "TillPairs$Host" "heldSort" "[I") 21 rfl rfl) rfl rfl d k
set_option maxRecDepth 20000 in
theorem gf_X1_27_34 (X : UC p s m args meth c cc nL RX1 R fr lo D ad cs sd A) (hP : va_P D clss (wld cs ad z) H) (d : decode cc pc = .ok (.getfield 27, 3)) (k : W p l e R s m args below meth c H locs cells slots Q (F0 m (pc + 3) ls (.ref (ad 44) :: rest))) : W p l e R s m args below meth c H locs cells slots Q (F0 m pc ls (.ref (ad 34) :: rest)) := u_get (C := RX1) (T := TX1) (N := 6) 1 34 X hP rfl rfl hin_X1 5 (Nat.le_of_ble_eq_true rfl) (tb_c2 (w := Cond.fieldLink "TillPairs$Host" 27 "TillPairs$Host" "held" "[I") 23 rfl rfl) rfl rfl d k
set_option maxRecDepth 20000 in
theorem gf_X1_9_34 (X : UC p s m args meth c cc nL RX1 R fr lo D ad cs sd A) (hP : va_P D clss (wld cs ad z) H) (d : decode cc pc = .ok (.getfield 9, 3)) (k : W p l e R s m args below meth c H locs cells slots Q (F0 m (pc + 3) ls (.ref (ad 35) :: rest))) : W p l e R s m args below meth c H locs cells slots Q (F0 m pc ls (.ref (ad 34) :: rest)) := u_get (C := RX1) (T := TX1) (N := 6) 1 34 X hP rfl rfl hin_X1 0 (Nat.le_of_ble_eq_true rfl) (tb_c2 (w := Cond.fieldLink "TillPairs$Host" 9 "TillPairs$Host" "sorts" "[I") 14 rfl rfl) rfl rfl d k
set_option maxRecDepth 20000 in
theorem gf_X2_15_1 (X : UC p s m args meth c cc nL RX2 R fr lo D ad cs sd A) (hP : va_P D clss (wld cs ad z) H) (d : decode cc pc = .ok (.getfield 15, 3)) (k : W p l e R s m args below meth c H locs cells slots Q (F0 m (pc + 3) ls (.int (gI z 1 1) :: rest))) : W p l e R s m args below meth c H locs cells slots Q (F0 m pc ls (.ref (ad 1) :: rest)) := u_get (C := RX2) (T := TX2) (N := 8) 2 1 X hP rfl rfl hin_X2 1 (Nat.le_of_ble_eq_true rfl) (tb_c1 (w := Cond.fieldLink "TillPairs$House" 15 "TillPairs$House" "surprises" "I") 48 rfl rfl) rfl rfl d k
set_option maxRecDepth 20000 in
theorem gf_X2_15_10 (X : UC p s m args meth c cc nL RX2 R fr lo D ad cs sd A) (hP : va_P D clss (wld cs ad z) H) (d : decode cc pc = .ok (.getfield 15, 3)) (k : W p l e R s m args below meth c H locs cells slots Q (F0 m (pc + 3) ls (.int (gI z 10 1) :: rest))) : W p l e R s m args below meth c H locs cells slots Q (F0 m pc ls (.ref (ad 10) :: rest)) := u_get (C := RX2) (T := TX2) (N := 8) 2 10 X hP rfl rfl hin_X2 1 (Nat.le_of_ble_eq_true rfl) (tb_c1 (w := Cond.fieldLink "TillPairs$House" 15 "TillPairs$House" "surprises" "I") 48 rfl rfl) rfl rfl d k
set_option maxRecDepth 20000 in
theorem gf_X2_15_45 (X : UC p s m args meth c cc nL RX2 R fr lo D ad cs sd A) (hP : va_P D clss (wld cs ad z) H) (d : decode cc pc = .ok (.getfield 15, 3)) (k : W p l e R s m args below meth c H locs cells slots Q (F0 m (pc + 3) ls (.int (gI z 45 1) :: rest))) : W p l e R s m args below meth c H locs cells slots Q (F0 m pc ls (.ref (ad 45) :: rest)) := u_get (C := RX2) (T := TX2) (N := 8) 2 45 X hP rfl rfl hin_X2 1 (Nat.le_of_ble_eq_true rfl) (tb_c1 (w := Cond.fieldLink "TillPairs$House" 15 "TillPairs$House" "surprises" "I") 48 rfl rfl) rfl rfl d k
set_option maxRecDepth 20000 in
theorem gf_X2_18_1 (X : UC p s m args meth c cc nL RX2 R fr lo D ad cs sd A) (hP : va_P D clss (wld cs ad z) H) (d : decode cc pc = .ok (.getfield 18, 3)) (k : W p l e R s m args below meth c H locs cells slots Q (F0 m (pc + 3) ls (.ref (ad 2) :: rest))) : W p l e R s m args below meth c H locs cells slots Q (F0 m pc ls (.ref (ad 1) :: rest)) := u_get (C := RX2) (T := TX2) (N := 8) 2 1 X hP rfl rfl hin_X2 2 (Nat.le_of_ble_eq_true rfl) (tb_c1 (w := Cond.fieldLink "TillPairs$House" 18 "TillPairs$House" "kinOf" "[I") 49 rfl rfl) rfl rfl d k
set_option maxRecDepth 20000 in
theorem gf_X2_18_10 (X : UC p s m args meth c cc nL RX2 R fr lo D ad cs sd A) (hP : va_P D clss (wld cs ad z) H) (d : decode cc pc = .ok (.getfield 18, 3)) (k : W p l e R s m args below meth c H locs cells slots Q (F0 m (pc + 3) ls (.ref (ad 11) :: rest))) : W p l e R s m args below meth c H locs cells slots Q (F0 m pc ls (.ref (ad 10) :: rest)) := u_get (C := RX2) (T := TX2) (N := 8) 2 10 X hP rfl rfl hin_X2 2 (Nat.le_of_ble_eq_true rfl) (tb_c1 (w := Cond.fieldLink "TillPairs$House" 18 "TillPairs$House" "kinOf" "[I") 49 rfl rfl) rfl rfl d k
set_option maxRecDepth 20000 in
theorem gf_X2_18_45 (X : UC p s m args meth c cc nL RX2 R fr lo D ad cs sd A) (hP : va_P D clss (wld cs ad z) H) (d : decode cc pc = .ok (.getfield 18, 3)) (k : W p l e R s m args below meth c H locs cells slots Q (F0 m (pc + 3) ls (.ref (ad 46) :: rest))) : W p l e R s m args below meth c H locs cells slots Q (F0 m pc ls (.ref (ad 45) :: rest)) := u_get (C := RX2) (T := TX2) (N := 8) 2 45 X hP rfl rfl hin_X2 2 (Nat.le_of_ble_eq_true rfl) (tb_c1 (w := Cond.fieldLink "TillPairs$House" 18 "TillPairs$House" "kinOf" "[I") 49 rfl rfl) rfl rfl d k
set_option maxRecDepth 20000 in
theorem gf_X2_22_1 (X : UC p s m args meth c cc nL RX2 R fr lo D ad cs sd A) (hP : va_P D clss (wld cs ad z) H) (d : decode cc pc = .ok (.getfield 22, 3)) (k : W p l e R s m args below meth c H locs cells slots Q (F0 m (pc + 3) ls (.ref (ad 3) :: rest))) : W p l e R s m args below meth c H locs cells slots Q (F0 m pc ls (.ref (ad 1) :: rest)) := u_get (C := RX2) (T := TX2) (N := 8) 2 1 X hP rfl rfl hin_X2 3 (Nat.le_of_ble_eq_true rfl) (tb_c1 (w := Cond.fieldLink "TillPairs$House" 22 "TillPairs$House" "awayOn" "[I") 52 rfl rfl) rfl rfl d k
set_option maxRecDepth 20000 in
theorem gf_X2_22_10 (X : UC p s m args meth c cc nL RX2 R fr lo D ad cs sd A) (hP : va_P D clss (wld cs ad z) H) (d : decode cc pc = .ok (.getfield 22, 3)) (k : W p l e R s m args below meth c H locs cells slots Q (F0 m (pc + 3) ls (.ref (ad 12) :: rest))) : W p l e R s m args below meth c H locs cells slots Q (F0 m pc ls (.ref (ad 10) :: rest)) := u_get (C := RX2) (T := TX2) (N := 8) 2 10 X hP rfl rfl hin_X2 3 (Nat.le_of_ble_eq_true rfl) (tb_c1 (w := Cond.fieldLink "TillPairs$House" 22 "TillPairs$House" "awayOn" "[I") 52 rfl rfl) rfl rfl d k
set_option maxRecDepth 20000 in
theorem gf_X2_22_45 (X : UC p s m args meth c cc nL RX2 R fr lo D ad cs sd A) (hP : va_P D clss (wld cs ad z) H) (d : decode cc pc = .ok (.getfield 22, 3)) (k : W p l e R s m args below meth c H locs cells slots Q (F0 m (pc + 3) ls (.ref (ad 47) :: rest))) : W p l e R s m args below meth c H locs cells slots Q (F0 m pc ls (.ref (ad 45) :: rest)) := u_get (C := RX2) (T := TX2) (N := 8) 2 45 X hP rfl rfl hin_X2 3 (Nat.le_of_ble_eq_true rfl) (tb_c1 (w := Cond.fieldLink "TillPairs$House" 22 "TillPairs$House" "awayOn" "[I") 52 rfl rfl) rfl rfl d k
set_option maxRecDepth 20000 in
theorem gf_X2_25_1 (X : UC p s m args meth c cc nL RX2 R fr lo D ad cs sd A) (hP : va_P D clss (wld cs ad z) H) (d : decode cc pc = .ok (.getfield 25, 3)) (k : W p l e R s m args below meth c H locs cells slots Q (F0 m (pc + 3) ls (.ref (ad 4) :: rest))) : W p l e R s m args below meth c H locs cells slots Q (F0 m pc ls (.ref (ad 1) :: rest)) := u_get (C := RX2) (T := TX2) (N := 8) 2 1 X hP rfl rfl hin_X2 4 (Nat.le_of_ble_eq_true rfl) (tb_c1 (w := Cond.fieldLink "TillPairs$House" 25 "TillPairs$House" "trustAtFirst" "[I") 53 rfl rfl) rfl rfl d k
set_option maxRecDepth 20000 in
theorem gf_X2_25_10 (X : UC p s m args meth c cc nL RX2 R fr lo D ad cs sd A) (hP : va_P D clss (wld cs ad z) H) (d : decode cc pc = .ok (.getfield 25, 3)) (k : W p l e R s m args below meth c H locs cells slots Q (F0 m (pc + 3) ls (.ref (ad 13) :: rest))) : W p l e R s m args below meth c H locs cells slots Q (F0 m pc ls (.ref (ad 10) :: rest)) := u_get (C := RX2) (T := TX2) (N := 8) 2 10 X hP rfl rfl hin_X2 4 (Nat.le_of_ble_eq_true rfl) (tb_c1 (w := Cond.fieldLink "TillPairs$House" 25 "TillPairs$House" "trustAtFirst" "[I") 53 rfl rfl) rfl rfl d k
set_option maxRecDepth 20000 in
theorem gf_X2_25_45 (X : UC p s m args meth c cc nL RX2 R fr lo D ad cs sd A) (hP : va_P D clss (wld cs ad z) H) (d : decode cc pc = .ok (.getfield 25, 3)) (k : W p l e R s m args below meth c H locs cells slots Q (F0 m (pc + 3) ls (.ref (ad 48) :: rest))) : W p l e R s m args below meth c H locs cells slots Q (F0 m pc ls (.ref (ad 45) :: rest)) := u_get (C := RX2) (T := TX2) (N := 8) 2 45 X hP rfl rfl hin_X2 4 (Nat.le_of_ble_eq_true rfl) (tb_c1 (w := Cond.fieldLink "TillPairs$House" 25 "TillPairs$House" "trustAtFirst" "[I") 53 rfl rfl) rfl rfl d k
set_option maxRecDepth 20000 in
theorem gf_X2_28_1 (X : UC p s m args meth c cc nL RX2 R fr lo D ad cs sd A) (hP : va_P D clss (wld cs ad z) H) (d : decode cc pc = .ok (.getfield 28, 3)) (k : W p l e R s m args below meth c H locs cells slots Q (F0 m (pc + 3) ls (.ref (ad 5) :: rest))) : W p l e R s m args below meth c H locs cells slots Q (F0 m pc ls (.ref (ad 1) :: rest)) := u_get (C := RX2) (T := TX2) (N := 8) 2 1 X hP rfl rfl hin_X2 5 (Nat.le_of_ble_eq_true rfl) (tb_c1 (w := Cond.fieldLink "TillPairs$House" 28 "TillPairs$House" "laws" "[I") 57 rfl rfl) rfl rfl d k
set_option maxRecDepth 20000 in
theorem gf_X2_28_10 (X : UC p s m args meth c cc nL RX2 R fr lo D ad cs sd A) (hP : va_P D clss (wld cs ad z) H) (d : decode cc pc = .ok (.getfield 28, 3)) (k : W p l e R s m args below meth c H locs cells slots Q (F0 m (pc + 3) ls (.ref (ad 14) :: rest))) : W p l e R s m args below meth c H locs cells slots Q (F0 m pc ls (.ref (ad 10) :: rest)) := u_get (C := RX2) (T := TX2) (N := 8) 2 10 X hP rfl rfl hin_X2 5 (Nat.le_of_ble_eq_true rfl) (tb_c1 (w := Cond.fieldLink "TillPairs$House" 28 "TillPairs$House" "laws" "[I") 57 rfl rfl) rfl rfl d k
set_option maxRecDepth 20000 in
theorem gf_X2_28_45 (X : UC p s m args meth c cc nL RX2 R fr lo D ad cs sd A) (hP : va_P D clss (wld cs ad z) H) (d : decode cc pc = .ok (.getfield 28, 3)) (k : W p l e R s m args below meth c H locs cells slots Q (F0 m (pc + 3) ls (.ref (ad 49) :: rest))) : W p l e R s m args below meth c H locs cells slots Q (F0 m pc ls (.ref (ad 45) :: rest)) := u_get (C := RX2) (T := TX2) (N := 8) 2 45 X hP rfl rfl hin_X2 5 (Nat.le_of_ble_eq_true rfl) (tb_c1 (w := Cond.fieldLink "TillPairs$House" 28 "TillPairs$House" "laws" "[I") 57 rfl rfl) rfl rfl d k
set_option maxRecDepth 20000 in
theorem gf_X2_31_1 (X : UC p s m args meth c cc nL RX2 R fr lo D ad cs sd A) (hP : va_P D clss (wld cs ad z) H) (d : decode cc pc = .ok (.getfield 31, 3)) (k : W p l e R s m args below meth c H locs cells slots Q (F0 m (pc + 3) ls (.ref (ad 6) :: rest))) : W p l e R s m args below meth c H locs cells slots Q (F0 m pc ls (.ref (ad 1) :: rest)) := u_get (C := RX2) (T := TX2) (N := 8) 2 1 X hP rfl rfl hin_X2 6 (Nat.le_of_ble_eq_true rfl) (tb_c1 (w := Cond.fieldLink "TillPairs$House" 31 "TillPairs$House" "seats" "[I") 63 rfl rfl) rfl rfl d k
set_option maxRecDepth 20000 in
theorem gf_X2_31_10 (X : UC p s m args meth c cc nL RX2 R fr lo D ad cs sd A) (hP : va_P D clss (wld cs ad z) H) (d : decode cc pc = .ok (.getfield 31, 3)) (k : W p l e R s m args below meth c H locs cells slots Q (F0 m (pc + 3) ls (.ref (ad 15) :: rest))) : W p l e R s m args below meth c H locs cells slots Q (F0 m pc ls (.ref (ad 10) :: rest)) := u_get (C := RX2) (T := TX2) (N := 8) 2 10 X hP rfl rfl hin_X2 6 (Nat.le_of_ble_eq_true rfl) (tb_c1 (w := Cond.fieldLink "TillPairs$House" 31 "TillPairs$House" "seats" "[I") 63 rfl rfl) rfl rfl d k
set_option maxRecDepth 20000 in
theorem gf_X2_31_45 (X : UC p s m args meth c cc nL RX2 R fr lo D ad cs sd A) (hP : va_P D clss (wld cs ad z) H) (d : decode cc pc = .ok (.getfield 31, 3)) (k : W p l e R s m args below meth c H locs cells slots Q (F0 m (pc + 3) ls (.ref (ad 50) :: rest))) : W p l e R s m args below meth c H locs cells slots Q (F0 m pc ls (.ref (ad 45) :: rest)) := u_get (C := RX2) (T := TX2) (N := 8) 2 45 X hP rfl rfl hin_X2 6 (Nat.le_of_ble_eq_true rfl) (tb_c1 (w := Cond.fieldLink "TillPairs$House" 31 "TillPairs$House" "seats" "[I") 63 rfl rfl) rfl rfl d k
set_option maxRecDepth 20000 in
theorem gf_X2_34_1 (X : UC p s m args meth c cc nL RX2 R fr lo D ad cs sd A) (hP : va_P D clss (wld cs ad z) H) (d : decode cc pc = .ok (.getfield 34, 3)) (k : W p l e R s m args below meth c H locs cells slots Q (F0 m (pc + 3) ls (.ref (ad 7) :: rest))) : W p l e R s m args below meth c H locs cells slots Q (F0 m pc ls (.ref (ad 1) :: rest)) := u_get (C := RX2) (T := TX2) (N := 8) 2 1 X hP rfl rfl hin_X2 7 (Nat.le_of_ble_eq_true rfl) (tb_c1 (w := Cond.fieldLink "TillPairs$House" 34 "TillPairs$House" "losses" "[I") 64 rfl rfl) rfl rfl d k
set_option maxRecDepth 20000 in
theorem gf_X2_34_10 (X : UC p s m args meth c cc nL RX2 R fr lo D ad cs sd A) (hP : va_P D clss (wld cs ad z) H) (d : decode cc pc = .ok (.getfield 34, 3)) (k : W p l e R s m args below meth c H locs cells slots Q (F0 m (pc + 3) ls (.ref (ad 16) :: rest))) : W p l e R s m args below meth c H locs cells slots Q (F0 m pc ls (.ref (ad 10) :: rest)) := u_get (C := RX2) (T := TX2) (N := 8) 2 10 X hP rfl rfl hin_X2 7 (Nat.le_of_ble_eq_true rfl) (tb_c1 (w := Cond.fieldLink "TillPairs$House" 34 "TillPairs$House" "losses" "[I") 64 rfl rfl) rfl rfl d k
set_option maxRecDepth 20000 in
theorem gf_X2_34_45 (X : UC p s m args meth c cc nL RX2 R fr lo D ad cs sd A) (hP : va_P D clss (wld cs ad z) H) (d : decode cc pc = .ok (.getfield 34, 3)) (k : W p l e R s m args below meth c H locs cells slots Q (F0 m (pc + 3) ls (.ref (ad 51) :: rest))) : W p l e R s m args below meth c H locs cells slots Q (F0 m pc ls (.ref (ad 45) :: rest)) := u_get (C := RX2) (T := TX2) (N := 8) 2 45 X hP rfl rfl hin_X2 7 (Nat.le_of_ble_eq_true rfl) (tb_c1 (w := Cond.fieldLink "TillPairs$House" 34 "TillPairs$House" "losses" "[I") 64 rfl rfl) rfl rfl d k
set_option maxRecDepth 20000 in
theorem gf_X2_9_1 (X : UC p s m args meth c cc nL RX2 R fr lo D ad cs sd A) (hP : va_P D clss (wld cs ad z) H) (d : decode cc pc = .ok (.getfield 9, 3)) (k : W p l e R s m args below meth c H locs cells slots Q (F0 m (pc + 3) ls (.int (gI z 1 0) :: rest))) : W p l e R s m args below meth c H locs cells slots Q (F0 m pc ls (.ref (ad 1) :: rest)) := u_get (C := RX2) (T := TX2) (N := 8) 2 1 X hP rfl rfl hin_X2 0 (Nat.le_of_ble_eq_true rfl) (tb_c1 (w := Cond.fieldLink "TillPairs$House" 9 "TillPairs$House" "people" "I") 42 rfl rfl) rfl rfl d k
set_option maxRecDepth 20000 in
theorem gf_X2_9_10 (X : UC p s m args meth c cc nL RX2 R fr lo D ad cs sd A) (hP : va_P D clss (wld cs ad z) H) (d : decode cc pc = .ok (.getfield 9, 3)) (k : W p l e R s m args below meth c H locs cells slots Q (F0 m (pc + 3) ls (.int (gI z 10 0) :: rest))) : W p l e R s m args below meth c H locs cells slots Q (F0 m pc ls (.ref (ad 10) :: rest)) := u_get (C := RX2) (T := TX2) (N := 8) 2 10 X hP rfl rfl hin_X2 0 (Nat.le_of_ble_eq_true rfl) (tb_c1 (w := Cond.fieldLink "TillPairs$House" 9 "TillPairs$House" "people" "I") 42 rfl rfl) rfl rfl d k
set_option maxRecDepth 20000 in
theorem gf_X2_9_45 (X : UC p s m args meth c cc nL RX2 R fr lo D ad cs sd A) (hP : va_P D clss (wld cs ad z) H) (d : decode cc pc = .ok (.getfield 9, 3)) (k : W p l e R s m args below meth c H locs cells slots Q (F0 m (pc + 3) ls (.int (gI z 45 0) :: rest))) : W p l e R s m args below meth c H locs cells slots Q (F0 m pc ls (.ref (ad 45) :: rest)) := u_get (C := RX2) (T := TX2) (N := 8) 2 45 X hP rfl rfl hin_X2 0 (Nat.le_of_ble_eq_true rfl) (tb_c1 (w := Cond.fieldLink "TillPairs$House" 9 "TillPairs$House" "people" "I") 42 rfl rfl) rfl rfl d k
set_option maxRecDepth 20000 in
theorem gf_X3_15_1 (X : UC p s m args meth c cc nL RX3 R fr lo D ad cs sd A) (hP : va_P D clss (wld cs ad z) H) (d : decode cc pc = .ok (.getfield 15, 3)) (k : W p l e R s m args below meth c H locs cells slots Q (F0 m (pc + 3) ls (.ref (ad 4) :: rest))) : W p l e R s m args below meth c H locs cells slots Q (F0 m pc ls (.ref (ad 1) :: rest)) := u_getN (C := RX2) (T := TX2) (N := 8) 2 1 X hP rfl rfl hin_X2 4 (Nat.le_of_ble_eq_true rfl) (nw_c1 (w := Cond.fieldLinkNest "TillPairs$Judge" 15 "TillPairs$House" "trustAtFirst" "[I" "TillPairs") 54 rfl rfl) rfl rfl d k
set_option maxRecDepth 20000 in
theorem gf_X3_35_1 (X : UC p s m args meth c cc nL RX3 R fr lo D ad cs sd A) (hP : va_P D clss (wld cs ad z) H) (d : decode cc pc = .ok (.getfield 35, 3)) (k : W p l e R s m args below meth c H locs cells slots Q (F0 m (pc + 3) ls (.ref (ad 5) :: rest))) : W p l e R s m args below meth c H locs cells slots Q (F0 m pc ls (.ref (ad 1) :: rest)) := u_getN (C := RX2) (T := TX2) (N := 8) 2 1 X hP rfl rfl hin_X2 5 (Nat.le_of_ble_eq_true rfl) (nw_c1 (w := Cond.fieldLinkNest "TillPairs$Judge" 35 "TillPairs$House" "laws" "[I" "TillPairs") 60 rfl rfl) rfl rfl d k
set_option maxRecDepth 20000 in
theorem gf_X3_41_1 (X : UC p s m args meth c cc nL RX3 R fr lo D ad cs sd A) (hP : va_P D clss (wld cs ad z) H) (d : decode cc pc = .ok (.getfield 41, 3)) (k : W p l e R s m args below meth c H locs cells slots Q (F0 m (pc + 3) ls (.ref (ad 2) :: rest))) : W p l e R s m args below meth c H locs cells slots Q (F0 m pc ls (.ref (ad 1) :: rest)) := u_getN (C := RX2) (T := TX2) (N := 8) 2 1 X hP rfl rfl hin_X2 2 (Nat.le_of_ble_eq_true rfl) (nw_c1 (w := Cond.fieldLinkNest "TillPairs$Judge" 41 "TillPairs$House" "kinOf" "[I" "TillPairs") 50 rfl rfl) rfl rfl d k
set_option maxRecDepth 20000 in
theorem gf_X3_9_17 (X : UC p s m args meth c cc nL RX3 R fr lo D ad cs sd A) (hP : va_P D clss (wld cs ad z) H) (d : decode cc pc = .ok (.getfield 9, 3)) (k : W p l e R s m args below meth c H locs cells slots Q (F0 m (pc + 3) ls (.ref (ad 1) :: rest))) : W p l e R s m args below meth c H locs cells slots Q (F0 m pc ls (.ref (ad 17) :: rest)) := u_get (C := RX3) (T := TX3) (N := 1) 3 17 X hP rfl rfl hin_X3 0 (Nat.le_of_ble_eq_true rfl) (tb_c1 (w := Cond.fieldLink "TillPairs$Judge" 9 "TillPairs$Judge" "home" "LTillPairs$House;") 115 rfl rfl) rfl rfl d k
set_option maxRecDepth 20000 in
theorem gf_X4_15_18 (X : UC p s m args meth c cc nL RX4 R fr lo D ad cs sd A) (hP : va_P D clss (wld cs ad z) H) (d : decode cc pc = .ok (.getfield 15, 3)) (k : W p l e R s m args below meth c H locs cells slots Q (F0 m (pc + 3) ls (.ref (ad 17) :: rest))) : W p l e R s m args below meth c H locs cells slots Q (F0 m pc ls (.ref (ad 18) :: rest)) := u_get (C := RX4) (T := TX4) (N := 4) 4 18 X hP rfl rfl hin_X4 1 (Nat.le_of_ble_eq_true rfl) (tb_c1 (w := Cond.fieldLink "TillPairs$Odds" 15 "TillPairs$Odds" "mind" "LTillPairs$Judge;") 126 rfl rfl) rfl rfl d k
set_option maxRecDepth 20000 in
theorem gf_X4_19_18 (X : UC p s m args meth c cc nL RX4 R fr lo D ad cs sd A) (hP : va_P D clss (wld cs ad z) H) (d : decode cc pc = .ok (.getfield 19, 3)) (k : W p l e R s m args below meth c H locs cells slots Q (F0 m (pc + 3) ls (.long (gJ z 18 2) :: rest))) : W p l e R s m args below meth c H locs cells slots Q (F0 m pc ls (.ref (ad 18) :: rest)) := u_get (C := RX4) (T := TX4) (N := 4) 4 18 X hP rfl rfl hin_X4 2 (Nat.le_of_ble_eq_true rfl) (tb_c1 (w := Cond.fieldLink "TillPairs$Odds" 19 "TillPairs$Odds" "above" "J") 127 rfl rfl) rfl rfl d k
set_option maxRecDepth 20000 in
theorem gf_X4_23_18 (X : UC p s m args meth c cc nL RX4 R fr lo D ad cs sd A) (hP : va_P D clss (wld cs ad z) H) (d : decode cc pc = .ok (.getfield 23, 3)) (k : W p l e R s m args below meth c H locs cells slots Q (F0 m (pc + 3) ls (.long (gJ z 18 3) :: rest))) : W p l e R s m args below meth c H locs cells slots Q (F0 m pc ls (.ref (ad 18) :: rest)) := u_get (C := RX4) (T := TX4) (N := 4) 4 18 X hP rfl rfl hin_X4 3 (Nat.le_of_ble_eq_true rfl) (tb_c1 (w := Cond.fieldLink "TillPairs$Odds" 23 "TillPairs$Odds" "below" "J") 129 rfl rfl) rfl rfl d k
set_option maxRecDepth 20000 in
theorem gf_X4_37_1 (X : UC p s m args meth c cc nL RX4 R fr lo D ad cs sd A) (hP : va_P D clss (wld cs ad z) H) (d : decode cc pc = .ok (.getfield 37, 3)) (k : W p l e R s m args below meth c H locs cells slots Q (F0 m (pc + 3) ls (.ref (ad 5) :: rest))) : W p l e R s m args below meth c H locs cells slots Q (F0 m pc ls (.ref (ad 1) :: rest)) := u_getN (C := RX2) (T := TX2) (N := 8) 2 1 X hP rfl rfl hin_X2 5 (Nat.le_of_ble_eq_true rfl) (nw_c1 (w := Cond.fieldLinkNest "TillPairs$Odds" 37 "TillPairs$House" "laws" "[I" "TillPairs") 58 rfl rfl) rfl rfl d k
set_option maxRecDepth 20000 in
theorem gf_X4_68_1 (X : UC p s m args meth c cc nL RX4 R fr lo D ad cs sd A) (hP : va_P D clss (wld cs ad z) H) (d : decode cc pc = .ok (.getfield 68, 3)) (k : W p l e R s m args below meth c H locs cells slots Q (F0 m (pc + 3) ls (.int (gI z 1 0) :: rest))) : W p l e R s m args below meth c H locs cells slots Q (F0 m pc ls (.ref (ad 1) :: rest)) := u_getN (C := RX2) (T := TX2) (N := 8) 2 1 X hP rfl rfl hin_X2 0 (Nat.le_of_ble_eq_true rfl) (nw_c1 (w := Cond.fieldLinkNest "TillPairs$Odds" 68 "TillPairs$House" "people" "I" "TillPairs") 44 rfl rfl) rfl rfl d k
set_option maxRecDepth 20000 in
theorem gf_X4_9_18 (X : UC p s m args meth c cc nL RX4 R fr lo D ad cs sd A) (hP : va_P D clss (wld cs ad z) H) (d : decode cc pc = .ok (.getfield 9, 3)) (k : W p l e R s m args below meth c H locs cells slots Q (F0 m (pc + 3) ls (.ref (ad 1) :: rest))) : W p l e R s m args below meth c H locs cells slots Q (F0 m pc ls (.ref (ad 18) :: rest)) := u_get (C := RX4) (T := TX4) (N := 4) 4 18 X hP rfl rfl hin_X4 0 (Nat.le_of_ble_eq_true rfl) (tb_c1 (w := Cond.fieldLink "TillPairs$Odds" 9 "TillPairs$Odds" "home" "LTillPairs$House;") 125 rfl rfl) rfl rfl d k
set_option maxRecDepth 20000 in
theorem gf_X5_103_1 (X : UC p s m args meth c cc nL RX5 R fr lo D ad cs sd A) (hP : va_P D clss (wld cs ad z) H) (d : decode cc pc = .ok (.getfield 103, 3)) (k : W p l e R s m args below meth c H locs cells slots Q (F0 m (pc + 3) ls (.ref (ad 2) :: rest))) : W p l e R s m args below meth c H locs cells slots Q (F0 m pc ls (.ref (ad 1) :: rest)) := u_getN (C := RX2) (T := TX2) (N := 8) 2 1 X hP rfl rfl hin_X2 2 (Nat.le_of_ble_eq_true rfl) (nw_c1 (w := Cond.fieldLinkNest "TillPairs$Plans" 103 "TillPairs$House" "kinOf" "[I" "TillPairs") 51 rfl rfl) rfl rfl d k
set_option maxRecDepth 20000 in
theorem gf_X5_11_26 (X : UC p s m args meth c cc nL RX5 R fr lo D ad cs sd A) (hP : va_P D clss (wld cs ad z) H) (d : decode cc pc = .ok (.getfield 11, 3)) (k : W p l e R s m args below meth c H locs cells slots Q (F0 m (pc + 3) ls (.ref (ad 27) :: rest))) : W p l e R s m args below meth c H locs cells slots Q (F0 m pc ls (.ref (ad 26) :: rest)) := u_get (C := RX5) (T := TX5) (N := 5) 5 26 X hP rfl rfl hin_X5 0 (Nat.le_of_ble_eq_true rfl) (tb_c1 (w := Cond.fieldLink "TillPairs$Plans" 11 "TillPairs$Plans" "kinds" "[I") 178 rfl rfl) rfl rfl d k
set_option maxRecDepth 20000 in
theorem gf_X5_11_52 (X : UC p s m args meth c cc nL RX5 R fr lo D ad cs sd A) (hP : va_P D clss (wld cs ad z) H) (d : decode cc pc = .ok (.getfield 11, 3)) (k : W p l e R s m args below meth c H locs cells slots Q (F0 m (pc + 3) ls (.ref (ad 53) :: rest))) : W p l e R s m args below meth c H locs cells slots Q (F0 m pc ls (.ref (ad 52) :: rest)) := u_get (C := RX5) (T := TX5) (N := 5) 5 52 X hP rfl rfl hin_X5 0 (Nat.le_of_ble_eq_true rfl) (tb_c1 (w := Cond.fieldLink "TillPairs$Plans" 11 "TillPairs$Plans" "kinds" "[I") 178 rfl rfl) rfl rfl d k
set_option maxRecDepth 20000 in
theorem gf_X5_15_26 (X : UC p s m args meth c cc nL RX5 R fr lo D ad cs sd A) (hP : va_P D clss (wld cs ad z) H) (d : decode cc pc = .ok (.getfield 15, 3)) (k : W p l e R s m args below meth c H locs cells slots Q (F0 m (pc + 3) ls (.ref (ad 28) :: rest))) : W p l e R s m args below meth c H locs cells slots Q (F0 m pc ls (.ref (ad 26) :: rest)) := u_get (C := RX5) (T := TX5) (N := 5) 5 26 X hP rfl rfl hin_X5 1 (Nat.le_of_ble_eq_true rfl) (tb_c1 (w := Cond.fieldLink "TillPairs$Plans" 15 "TillPairs$Plans" "as" "[I") 180 rfl rfl) rfl rfl d k
set_option maxRecDepth 20000 in
theorem gf_X5_15_52 (X : UC p s m args meth c cc nL RX5 R fr lo D ad cs sd A) (hP : va_P D clss (wld cs ad z) H) (d : decode cc pc = .ok (.getfield 15, 3)) (k : W p l e R s m args below meth c H locs cells slots Q (F0 m (pc + 3) ls (.ref (ad 54) :: rest))) : W p l e R s m args below meth c H locs cells slots Q (F0 m pc ls (.ref (ad 52) :: rest)) := u_get (C := RX5) (T := TX5) (N := 5) 5 52 X hP rfl rfl hin_X5 1 (Nat.le_of_ble_eq_true rfl) (tb_c1 (w := Cond.fieldLink "TillPairs$Plans" 15 "TillPairs$Plans" "as" "[I") 180 rfl rfl) rfl rfl d k
set_option maxRecDepth 20000 in
theorem gf_X5_18_26 (X : UC p s m args meth c cc nL RX5 R fr lo D ad cs sd A) (hP : va_P D clss (wld cs ad z) H) (d : decode cc pc = .ok (.getfield 18, 3)) (k : W p l e R s m args below meth c H locs cells slots Q (F0 m (pc + 3) ls (.ref (ad 29) :: rest))) : W p l e R s m args below meth c H locs cells slots Q (F0 m pc ls (.ref (ad 26) :: rest)) := u_get (C := RX5) (T := TX5) (N := 5) 5 26 X hP rfl rfl hin_X5 2 (Nat.le_of_ble_eq_true rfl) (tb_c1 (w := Cond.fieldLink "TillPairs$Plans" 18 "TillPairs$Plans" "seated" "[I") 182 rfl rfl) rfl rfl d k
set_option maxRecDepth 20000 in
theorem gf_X5_21_26 (X : UC p s m args meth c cc nL RX5 R fr lo D ad cs sd A) (hP : va_P D clss (wld cs ad z) H) (d : decode cc pc = .ok (.getfield 21, 3)) (k : W p l e R s m args below meth c H locs cells slots Q (F0 m (pc + 3) ls (.int (gI z 26 3) :: rest))) : W p l e R s m args below meth c H locs cells slots Q (F0 m pc ls (.ref (ad 26) :: rest)) := u_get (C := RX5) (T := TX5) (N := 5) 5 26 X hP rfl rfl hin_X5 3 (Nat.le_of_ble_eq_true rfl) (tb_c1 (w := Cond.fieldLink "TillPairs$Plans" 21 "TillPairs$Plans" "count" "I") 183 rfl rfl) rfl rfl d k
set_option maxRecDepth 20000 in
theorem gf_X5_21_52 (X : UC p s m args meth c cc nL RX5 R fr lo D ad cs sd A) (hP : va_P D clss (wld cs ad z) H) (d : decode cc pc = .ok (.getfield 21, 3)) (k : W p l e R s m args below meth c H locs cells slots Q (F0 m (pc + 3) ls (.int (gI z 52 3) :: rest))) : W p l e R s m args below meth c H locs cells slots Q (F0 m pc ls (.ref (ad 52) :: rest)) := u_get (C := RX5) (T := TX5) (N := 5) 5 52 X hP rfl rfl hin_X5 3 (Nat.le_of_ble_eq_true rfl) (tb_c1 (w := Cond.fieldLink "TillPairs$Plans" 21 "TillPairs$Plans" "count" "I") 183 rfl rfl) rfl rfl d k
set_option maxRecDepth 20000 in
theorem gf_X5_25_26 (X : UC p s m args meth c cc nL RX5 R fr lo D ad cs sd A) (hP : va_P D clss (wld cs ad z) H) (d : decode cc pc = .ok (.getfield 25, 3)) (k : W p l e R s m args below meth c H locs cells slots Q (F0 m (pc + 3) ls (.int (gI z 26 4) :: rest))) : W p l e R s m args below meth c H locs cells slots Q (F0 m pc ls (.ref (ad 26) :: rest)) := u_get (C := RX5) (T := TX5) (N := 5) 5 26 X hP rfl rfl hin_X5 4 (Nat.le_of_ble_eq_true rfl) (tb_c1 (w := Cond.fieldLink "TillPairs$Plans" 25 "TillPairs$Plans" "z" "I") 185 rfl rfl) rfl rfl d k
set_option maxRecDepth 20000 in
theorem gf_X5_25_52 (X : UC p s m args meth c cc nL RX5 R fr lo D ad cs sd A) (hP : va_P D clss (wld cs ad z) H) (d : decode cc pc = .ok (.getfield 25, 3)) (k : W p l e R s m args below meth c H locs cells slots Q (F0 m (pc + 3) ls (.int (gI z 52 4) :: rest))) : W p l e R s m args below meth c H locs cells slots Q (F0 m pc ls (.ref (ad 52) :: rest)) := u_get (C := RX5) (T := TX5) (N := 5) 5 52 X hP rfl rfl hin_X5 4 (Nat.le_of_ble_eq_true rfl) (tb_c1 (w := Cond.fieldLink "TillPairs$Plans" 25 "TillPairs$Plans" "z" "I") 185 rfl rfl) rfl rfl d k
set_option maxRecDepth 20000 in
theorem gf_X5_66_1 (X : UC p s m args meth c cc nL RX5 R fr lo D ad cs sd A) (hP : va_P D clss (wld cs ad z) H) (d : decode cc pc = .ok (.getfield 66, 3)) (k : W p l e R s m args below meth c H locs cells slots Q (F0 m (pc + 3) ls (.int (gI z 1 0) :: rest))) : W p l e R s m args below meth c H locs cells slots Q (F0 m pc ls (.ref (ad 1) :: rest)) := u_getN (C := RX2) (T := TX2) (N := 8) 2 1 X hP rfl rfl hin_X2 0 (Nat.le_of_ble_eq_true rfl) (nw_c1 (w := Cond.fieldLinkNest "TillPairs$Plans" 66 "TillPairs$House" "people" "I" "TillPairs") 47 rfl rfl) rfl rfl d k
set_option maxRecDepth 20000 in
theorem gf_X6_15_30 (X : UC p s m args meth c cc nL RX6 R fr lo D ad cs sd A) (hP : va_P D clss (wld cs ad z) H) (d : decode cc pc = .ok (.getfield 15, 3)) (k : W p l e R s m args below meth c H locs cells slots Q (F0 m (pc + 3) ls (.ref (ad 17) :: rest))) : W p l e R s m args below meth c H locs cells slots Q (F0 m pc ls (.ref (ad 30) :: rest)) := u_get (C := RX6) (T := TX6) (N := 4) 6 30 X hP rfl rfl hin_X6 1 (Nat.le_of_ble_eq_true rfl) (tb_c1 (w := Cond.fieldLink "TillPairs$Rows" 15 "TillPairs$Rows" "mind" "LTillPairs$Judge;") 205 rfl rfl) rfl rfl d k
set_option maxRecDepth 20000 in
theorem gf_X6_19_30 (X : UC p s m args meth c cc nL RX6 R fr lo D ad cs sd A) (hP : va_P D clss (wld cs ad z) H) (d : decode cc pc = .ok (.getfield 19, 3)) (k : W p l e R s m args below meth c H locs cells slots Q (F0 m (pc + 3) ls (.ref (ad 31) :: rest))) : W p l e R s m args below meth c H locs cells slots Q (F0 m pc ls (.ref (ad 30) :: rest)) := u_get (C := RX6) (T := TX6) (N := 4) 6 30 X hP rfl rfl hin_X6 2 (Nat.le_of_ble_eq_true rfl) (tb_c1 (w := Cond.fieldLink "TillPairs$Rows" 19 "TillPairs$Rows" "cells" "[I") 206 rfl rfl) rfl rfl d k
set_option maxRecDepth 20000 in
theorem gf_X6_23_30 (X : UC p s m args meth c cc nL RX6 R fr lo D ad cs sd A) (hP : va_P D clss (wld cs ad z) H) (d : decode cc pc = .ok (.getfield 23, 3)) (k : W p l e R s m args below meth c H locs cells slots Q (F0 m (pc + 3) ls (.int (gI z 30 3) :: rest))) : W p l e R s m args below meth c H locs cells slots Q (F0 m pc ls (.ref (ad 30) :: rest)) := u_get (C := RX6) (T := TX6) (N := 4) 6 30 X hP rfl rfl hin_X6 3 (Nat.le_of_ble_eq_true rfl) (tb_c1 (w := Cond.fieldLink "TillPairs$Rows" 23 "TillPairs$Rows" "count" "I") 208 rfl rfl) rfl rfl d k
set_option maxRecDepth 20000 in
theorem gf_X6_9_30 (X : UC p s m args meth c cc nL RX6 R fr lo D ad cs sd A) (hP : va_P D clss (wld cs ad z) H) (d : decode cc pc = .ok (.getfield 9, 3)) (k : W p l e R s m args below meth c H locs cells slots Q (F0 m (pc + 3) ls (.ref (ad 1) :: rest))) : W p l e R s m args below meth c H locs cells slots Q (F0 m pc ls (.ref (ad 30) :: rest)) := u_get (C := RX6) (T := TX6) (N := 4) 6 30 X hP rfl rfl hin_X6 0 (Nat.le_of_ble_eq_true rfl) (tb_c1 (w := Cond.fieldLink "TillPairs$Rows" 9 "TillPairs$Rows" "home" "LTillPairs$House;") 204 rfl rfl) rfl rfl d k
set_option maxRecDepth 20000 in
theorem gf_X7_118_10 (X : UC p s m args meth c cc nL RX7 R fr lo D ad cs sd A) (hP : va_P D clss (wld cs ad z) H) (d : decode cc pc = .ok (.getfield 118, 3)) (k : W p l e R s m args below meth c H locs cells slots Q (F0 m (pc + 3) ls (.ref (ad 13) :: rest))) : W p l e R s m args below meth c H locs cells slots Q (F0 m pc ls (.ref (ad 10) :: rest)) := u_getN (C := RX2) (T := TX2) (N := 8) 2 10 X hP rfl rfl hin_X2 4 (Nat.le_of_ble_eq_true rfl) (nw_c1 (w := Cond.fieldLinkNest "TillPairs$Tape" 118 "TillPairs$House" "trustAtFirst" "[I" "TillPairs") 56 rfl rfl) rfl rfl d k
set_option maxRecDepth 20000 in
theorem gf_X7_11_8 (X : UC p s m args meth c cc nL RX7 R fr lo D ad cs sd A) (hP : va_P D clss (wld cs ad z) H) (d : decode cc pc = .ok (.getfield 11, 3)) (k : W p l e R s m args below meth c H locs cells slots Q (F0 m (pc + 3) ls (.ref (ad 9) :: rest))) : W p l e R s m args below meth c H locs cells slots Q (F0 m pc ls (.ref (ad 8) :: rest)) := u_get (C := RX7) (T := TX7) (N := 5) 7 8 X hP rfl rfl hin_X7 0 (Nat.le_of_ble_eq_true rfl) (tb_c1 (w := Cond.fieldLink "TillPairs$Tape" 11 "TillPairs$Tape" "bytes" "[I") 92 rfl rfl) rfl rfl d k
set_option maxRecDepth 20000 in
theorem gf_X7_18_8 (X : UC p s m args meth c cc nL RX7 R fr lo D ad cs sd A) (hP : va_P D clss (wld cs ad z) H) (d : decode cc pc = .ok (.getfield 18, 3)) (k : W p l e R s m args below meth c H locs cells slots Q (F0 m (pc + 3) ls (.ref (ad 10) :: rest))) : W p l e R s m args below meth c H locs cells slots Q (F0 m pc ls (.ref (ad 8) :: rest)) := u_get (C := RX7) (T := TX7) (N := 5) 7 8 X hP rfl rfl hin_X7 1 (Nat.le_of_ble_eq_true rfl) (tb_c1 (w := Cond.fieldLink "TillPairs$Tape" 18 "TillPairs$Tape" "draft" "LTillPairs$House;") 93 rfl rfl) rfl rfl d k
set_option maxRecDepth 20000 in
theorem gf_X7_22_8 (X : UC p s m args meth c cc nL RX7 R fr lo D ad cs sd A) (hP : va_P D clss (wld cs ad z) H) (d : decode cc pc = .ok (.getfield 22, 3)) (k : W p l e R s m args below meth c H locs cells slots Q (F0 m (pc + 3) ls (.int (gI z 8 2) :: rest))) : W p l e R s m args below meth c H locs cells slots Q (F0 m pc ls (.ref (ad 8) :: rest)) := u_get (C := RX7) (T := TX7) (N := 5) 7 8 X hP rfl rfl hin_X7 2 (Nat.le_of_ble_eq_true rfl) (tb_c1 (w := Cond.fieldLink "TillPairs$Tape" 22 "TillPairs$Tape" "length" "I") 94 rfl rfl) rfl rfl d k
set_option maxRecDepth 20000 in
theorem gf_X7_26_8 (X : UC p s m args meth c cc nL RX7 R fr lo D ad cs sd A) (hP : va_P D clss (wld cs ad z) H) (d : decode cc pc = .ok (.getfield 26, 3)) (k : W p l e R s m args below meth c H locs cells slots Q (F0 m (pc + 3) ls (.int (gI z 8 3) :: rest))) : W p l e R s m args below meth c H locs cells slots Q (F0 m pc ls (.ref (ad 8) :: rest)) := u_get (C := RX7) (T := TX7) (N := 5) 7 8 X hP rfl rfl hin_X7 3 (Nat.le_of_ble_eq_true rfl) (tb_c1 (w := Cond.fieldLink "TillPairs$Tape" 26 "TillPairs$Tape" "at" "I") 96 rfl rfl) rfl rfl d k
set_option maxRecDepth 20000 in
theorem gf_X7_29_8 (X : UC p s m args meth c cc nL RX7 R fr lo D ad cs sd A) (hP : va_P D clss (wld cs ad z) H) (d : decode cc pc = .ok (.getfield 29, 3)) (k : W p l e R s m args below meth c H locs cells slots Q (F0 m (pc + 3) ls (.int (gI z 8 4) :: rest))) : W p l e R s m args below meth c H locs cells slots Q (F0 m pc ls (.ref (ad 8) :: rest)) := u_get (C := RX7) (T := TX7) (N := 5) 7 8 X hP rfl rfl hin_X7 4 (Nat.le_of_ble_eq_true rfl) (tb_c1 (w := Cond.fieldLink "TillPairs$Tape" 29 "TillPairs$Tape" "fault" "I") 97 rfl rfl) rfl rfl d k
set_option maxRecDepth 20000 in
theorem gf_X7_32_1 (X : UC p s m args meth c cc nL RX7 R fr lo D ad cs sd A) (hP : va_P D clss (wld cs ad z) H) (d : decode cc pc = .ok (.getfield 32, 3)) (k : W p l e R s m args below meth c H locs cells slots Q (F0 m (pc + 3) ls (.ref (ad 5) :: rest))) : W p l e R s m args below meth c H locs cells slots Q (F0 m pc ls (.ref (ad 1) :: rest)) := u_getN (C := RX2) (T := TX2) (N := 8) 2 1 X hP rfl rfl hin_X2 5 (Nat.le_of_ble_eq_true rfl) (nw_c1 (w := Cond.fieldLinkNest "TillPairs$Tape" 32 "TillPairs$House" "laws" "[I" "TillPairs") 59 rfl rfl) rfl rfl d k
set_option maxRecDepth 20000 in
theorem gf_X7_32_10 (X : UC p s m args meth c cc nL RX7 R fr lo D ad cs sd A) (hP : va_P D clss (wld cs ad z) H) (d : decode cc pc = .ok (.getfield 32, 3)) (k : W p l e R s m args below meth c H locs cells slots Q (F0 m (pc + 3) ls (.ref (ad 14) :: rest))) : W p l e R s m args below meth c H locs cells slots Q (F0 m pc ls (.ref (ad 10) :: rest)) := u_getN (C := RX2) (T := TX2) (N := 8) 2 10 X hP rfl rfl hin_X2 5 (Nat.le_of_ble_eq_true rfl) (nw_c1 (w := Cond.fieldLinkNest "TillPairs$Tape" 32 "TillPairs$House" "laws" "[I" "TillPairs") 59 rfl rfl) rfl rfl d k
set_option maxRecDepth 20000 in
theorem gf_X7_61_10 (X : UC p s m args meth c cc nL RX7 R fr lo D ad cs sd A) (hP : va_P D clss (wld cs ad z) H) (d : decode cc pc = .ok (.getfield 61, 3)) (k : W p l e R s m args below meth c H locs cells slots Q (F0 m (pc + 3) ls (.int (gI z 10 0) :: rest))) : W p l e R s m args below meth c H locs cells slots Q (F0 m pc ls (.ref (ad 10) :: rest)) := u_getN (C := RX2) (T := TX2) (N := 8) 2 10 X hP rfl rfl hin_X2 0 (Nat.le_of_ble_eq_true rfl) (nw_c1 (w := Cond.fieldLinkNest "TillPairs$Tape" 61 "TillPairs$House" "people" "I" "TillPairs") 46 rfl rfl) rfl rfl d k
set_option maxRecDepth 20000 in
theorem gf_X8_15_19 (X : UC p s m args meth c cc nL RX8 R fr lo D ad cs sd A) (hP : va_P D clss (wld cs ad z) H) (d : decode cc pc = .ok (.getfield 15, 3)) (k : W p l e R s m args below meth c H locs cells slots Q (F0 m (pc + 3) ls (.ref (ad 17) :: rest))) : W p l e R s m args below meth c H locs cells slots Q (F0 m pc ls (.ref (ad 19) :: rest)) := u_get (C := RX8) (T := TX8) (N := 7) 8 19 X hP rfl rfl hin_X8 1 (Nat.le_of_ble_eq_true rfl) (tb_c1 (w := Cond.fieldLink "TillPairs$Ways" 15 "TillPairs$Ways" "mind" "LTillPairs$Judge;") 149 rfl rfl) rfl rfl d k
set_option maxRecDepth 20000 in
theorem gf_X8_19_19 (X : UC p s m args meth c cc nL RX8 R fr lo D ad cs sd A) (hP : va_P D clss (wld cs ad z) H) (d : decode cc pc = .ok (.getfield 19, 3)) (k : W p l e R s m args below meth c H locs cells slots Q (F0 m (pc + 3) ls (.ref (ad 20) :: rest))) : W p l e R s m args below meth c H locs cells slots Q (F0 m pc ls (.ref (ad 19) :: rest)) := u_get (C := RX8) (T := TX8) (N := 7) 8 19 X hP rfl rfl hin_X8 2 (Nat.le_of_ble_eq_true rfl) (tb_c1 (w := Cond.fieldLink "TillPairs$Ways" 19 "TillPairs$Ways" "trusts" "[I") 150 rfl rfl) rfl rfl d k
set_option maxRecDepth 20000 in
theorem gf_X8_25_19 (X : UC p s m args meth c cc nL RX8 R fr lo D ad cs sd A) (hP : va_P D clss (wld cs ad z) H) (d : decode cc pc = .ok (.getfield 25, 3)) (k : W p l e R s m args below meth c H locs cells slots Q (F0 m (pc + 3) ls (.ref (ad 21) :: rest))) : W p l e R s m args below meth c H locs cells slots Q (F0 m pc ls (.ref (ad 19) :: rest)) := u_get (C := RX8) (T := TX8) (N := 7) 8 19 X hP rfl rfl hin_X8 3 (Nat.le_of_ble_eq_true rfl) (tb_c1 (w := Cond.fieldLink "TillPairs$Ways" 25 "TillPairs$Ways" "bounds" "[[I") 151 rfl rfl) rfl rfl d k
set_option maxRecDepth 20000 in
theorem gf_X8_28_19 (X : UC p s m args meth c cc nL RX8 R fr lo D ad cs sd A) (hP : va_P D clss (wld cs ad z) H) (d : decode cc pc = .ok (.getfield 28, 3)) (k : W p l e R s m args below meth c H locs cells slots Q (F0 m (pc + 3) ls (.ref (ad 25) :: rest))) : W p l e R s m args below meth c H locs cells slots Q (F0 m pc ls (.ref (ad 19) :: rest)) := u_get (C := RX8) (T := TX8) (N := 7) 8 19 X hP rfl rfl hin_X8 4 (Nat.le_of_ble_eq_true rfl) (tb_c1 (w := Cond.fieldLink "TillPairs$Ways" 28 "TillPairs$Ways" "chosen" "[I") 152 rfl rfl) rfl rfl d k
set_option maxRecDepth 20000 in
theorem gf_X8_31_19 (X : UC p s m args meth c cc nL RX8 R fr lo D ad cs sd A) (hP : va_P D clss (wld cs ad z) H) (d : decode cc pc = .ok (.getfield 31, 3)) (k : W p l e R s m args below meth c H locs cells slots Q (F0 m (pc + 3) ls (.int (gI z 19 5) :: rest))) : W p l e R s m args below meth c H locs cells slots Q (F0 m pc ls (.ref (ad 19) :: rest)) := u_get (C := RX8) (T := TX8) (N := 7) 8 19 X hP rfl rfl hin_X8 5 (Nat.le_of_ble_eq_true rfl) (tb_c1 (w := Cond.fieldLink "TillPairs$Ways" 31 "TillPairs$Ways" "changes" "I") 153 rfl rfl) rfl rfl d k
set_option maxRecDepth 20000 in
theorem gf_X8_38_1 (X : UC p s m args meth c cc nL RX8 R fr lo D ad cs sd A) (hP : va_P D clss (wld cs ad z) H) (d : decode cc pc = .ok (.getfield 38, 3)) (k : W p l e R s m args below meth c H locs cells slots Q (F0 m (pc + 3) ls (.int (gI z 1 0) :: rest))) : W p l e R s m args below meth c H locs cells slots Q (F0 m pc ls (.ref (ad 1) :: rest)) := u_getN (C := RX2) (T := TX2) (N := 8) 2 1 X hP rfl rfl hin_X2 0 (Nat.le_of_ble_eq_true rfl) (nw_c1 (w := Cond.fieldLinkNest "TillPairs$Ways" 38 "TillPairs$House" "people" "I" "TillPairs") 43 rfl rfl) rfl rfl d k
set_option maxRecDepth 20000 in
theorem gf_X8_95_1 (X : UC p s m args meth c cc nL RX8 R fr lo D ad cs sd A) (hP : va_P D clss (wld cs ad z) H) (d : decode cc pc = .ok (.getfield 95, 3)) (k : W p l e R s m args below meth c H locs cells slots Q (F0 m (pc + 3) ls (.ref (ad 5) :: rest))) : W p l e R s m args below meth c H locs cells slots Q (F0 m pc ls (.ref (ad 1) :: rest)) := u_getN (C := RX2) (T := TX2) (N := 8) 2 1 X hP rfl rfl hin_X2 5 (Nat.le_of_ble_eq_true rfl) (nw_c1 (w := Cond.fieldLinkNest "TillPairs$Ways" 95 "TillPairs$House" "laws" "[I" "TillPairs") 61 rfl rfl) rfl rfl d k
set_option maxRecDepth 20000 in
theorem gf_X8_9_19 (X : UC p s m args meth c cc nL RX8 R fr lo D ad cs sd A) (hP : va_P D clss (wld cs ad z) H) (d : decode cc pc = .ok (.getfield 9, 3)) (k : W p l e R s m args below meth c H locs cells slots Q (F0 m (pc + 3) ls (.ref (ad 1) :: rest))) : W p l e R s m args below meth c H locs cells slots Q (F0 m pc ls (.ref (ad 19) :: rest)) := u_get (C := RX8) (T := TX8) (N := 7) 8 19 X hP rfl rfl hin_X8 0 (Nat.le_of_ble_eq_true rfl) (tb_c1 (w := Cond.fieldLink "TillPairs$Ways" 9 "TillPairs$Ways" "home" "LTillPairs$House;") 148 rfl rfl) rfl rfl d k
set_option maxRecDepth 20000 in
theorem gf_X9_101_1 (X : UC p s m args meth c cc nL RX9 R fr lo D ad cs sd A) (hP : va_P D clss (wld cs ad z) H) (d : decode cc pc = .ok (.getfield 101, 3)) (k : W p l e R s m args below meth c H locs cells slots Q (F0 m (pc + 3) ls (.int (gI z 1 0) :: rest))) : W p l e R s m args below meth c H locs cells slots Q (F0 m pc ls (.ref (ad 1) :: rest)) := u_getN (C := RX2) (T := TX2) (N := 8) 2 1 X hP rfl rfl hin_X2 0 (Nat.le_of_ble_eq_true rfl) (nw_c1 (w := Cond.fieldLinkNest "TillPairs" 101 "TillPairs$House" "people" "I" "TillPairs") 45 rfl rfl) rfl rfl d k
set_option maxRecDepth 20000 in
theorem gf_X9_10_0 (X : UC p s m args meth c cc nL RX9 R fr lo D ad cs sd A) (hP : va_P D clss (wld cs ad z) H) (d : decode cc pc = .ok (.getfield 10, 3)) (k : W p l e R s m args below meth c H locs cells slots Q (F0 m (pc + 3) ls (.ref (ad 1) :: rest))) : W p l e R s m args below meth c H locs cells slots Q (F0 m pc ls (.ref (ad 0) :: rest)) := u_get (C := RX9) (T := TX9) (N := 12) 9 0 X hP rfl rfl hin_X9 0 (Nat.le_of_ble_eq_true rfl) (tb_c2 (w := Cond.fieldLink "TillPairs" 10 "TillPairs" "home" "LTillPairs$House;") 38 rfl rfl) rfl rfl d k
set_option maxRecDepth 20000 in
theorem gf_X9_120_1 (X : UC p s m args meth c cc nL RX9 R fr lo D ad cs sd A) (hP : va_P D clss (wld cs ad z) H) (d : decode cc pc = .ok (.getfield 120, 3)) (k : W p l e R s m args below meth c H locs cells slots Q (F0 m (pc + 3) ls (.ref (ad 4) :: rest))) : W p l e R s m args below meth c H locs cells slots Q (F0 m pc ls (.ref (ad 1) :: rest)) := u_getN (C := RX2) (T := TX2) (N := 8) 2 1 X hP rfl rfl hin_X2 4 (Nat.le_of_ble_eq_true rfl) (nw_c1 (w := Cond.fieldLinkNest "TillPairs" 120 "TillPairs$House" "trustAtFirst" "[I" "TillPairs") 55 rfl rfl) rfl rfl d k
set_option maxRecDepth 20000 in
theorem gf_X9_137_1 (X : UC p s m args meth c cc nL RX9 R fr lo D ad cs sd A) (hP : va_P D clss (wld cs ad z) H) (d : decode cc pc = .ok (.getfield 137, 3)) (k : W p l e R s m args below meth c H locs cells slots Q (F0 m (pc + 3) ls (.ref (ad 5) :: rest))) : W p l e R s m args below meth c H locs cells slots Q (F0 m pc ls (.ref (ad 1) :: rest)) := u_getN (C := RX2) (T := TX2) (N := 8) 2 1 X hP rfl rfl hin_X2 5 (Nat.le_of_ble_eq_true rfl) (nw_c1 (w := Cond.fieldLinkNest "TillPairs" 137 "TillPairs$House" "laws" "[I" "TillPairs") 62 rfl rfl) rfl rfl d k
set_option maxRecDepth 20000 in
theorem gf_X9_154_1 (X : UC p s m args meth c cc nL RX9 R fr lo D ad cs sd A) (hP : va_P D clss (wld cs ad z) H) (d : decode cc pc = .ok (.getfield 154, 3)) (k : W p l e R s m args below meth c H locs cells slots Q (F0 m (pc + 3) ls (.ref (ad 7) :: rest))) : W p l e R s m args below meth c H locs cells slots Q (F0 m pc ls (.ref (ad 1) :: rest)) := u_getN (C := RX2) (T := TX2) (N := 8) 2 1 X hP rfl rfl hin_X2 7 (Nat.le_of_ble_eq_true rfl) (nw_c1 (w := Cond.fieldLinkNest "TillPairs" 154 "TillPairs$House" "losses" "[I" "TillPairs") 65 rfl rfl) rfl rfl d k
set_option maxRecDepth 20000 in
theorem gf_X9_182_18 (X : UC p s m args meth c cc nL RX9 R fr lo D ad cs sd A) (hP : va_P D clss (wld cs ad z) H) (d : decode cc pc = .ok (.getfield 182, 3)) (k : W p l e R s m args below meth c H locs cells slots Q (F0 m (pc + 3) ls (.long (gJ z 18 2) :: rest))) : W p l e R s m args below meth c H locs cells slots Q (F0 m pc ls (.ref (ad 18) :: rest)) := u_getN (C := RX4) (T := TX4) (N := 4) 4 18 X hP rfl rfl hin_X4 2 (Nat.le_of_ble_eq_true rfl) (nw_c1 (w := Cond.fieldLinkNest "TillPairs" 182 "TillPairs$Odds" "above" "J" "TillPairs") 128 rfl rfl) rfl rfl d k
set_option maxRecDepth 20000 in
theorem gf_X9_186_18 (X : UC p s m args meth c cc nL RX9 R fr lo D ad cs sd A) (hP : va_P D clss (wld cs ad z) H) (d : decode cc pc = .ok (.getfield 186, 3)) (k : W p l e R s m args below meth c H locs cells slots Q (F0 m (pc + 3) ls (.long (gJ z 18 3) :: rest))) : W p l e R s m args below meth c H locs cells slots Q (F0 m pc ls (.ref (ad 18) :: rest)) := u_getN (C := RX4) (T := TX4) (N := 4) 4 18 X hP rfl rfl hin_X4 3 (Nat.le_of_ble_eq_true rfl) (nw_c1 (w := Cond.fieldLinkNest "TillPairs" 186 "TillPairs$Odds" "below" "J" "TillPairs") 130 rfl rfl) rfl rfl d k
set_option maxRecDepth 20000 in
theorem gf_X9_19_0 (X : UC p s m args meth c cc nL RX9 R fr lo D ad cs sd A) (hP : va_P D clss (wld cs ad z) H) (d : decode cc pc = .ok (.getfield 19, 3)) (k : W p l e R s m args below meth c H locs cells slots Q (F0 m (pc + 3) ls (.ref (ad 8) :: rest))) : W p l e R s m args below meth c H locs cells slots Q (F0 m pc ls (.ref (ad 0) :: rest)) := u_get (C := RX9) (T := TX9) (N := 12) 9 0 X hP rfl rfl hin_X9 1 (Nat.le_of_ble_eq_true rfl) (tb_c2 (w := Cond.fieldLink "TillPairs" 19 "TillPairs" "tape" "LTillPairs$Tape;") 39 rfl rfl) rfl rfl d k
set_option maxRecDepth 20000 in
theorem gf_X9_201_19 (X : UC p s m args meth c cc nL RX9 R fr lo D ad cs sd A) (hP : va_P D clss (wld cs ad z) H) (d : decode cc pc = .ok (.getfield 201, 3)) (k : W p l e R s m args below meth c H locs cells slots Q (F0 m (pc + 3) ls (.int (gI z 19 5) :: rest))) : W p l e R s m args below meth c H locs cells slots Q (F0 m pc ls (.ref (ad 19) :: rest)) := u_getN (C := RX8) (T := TX8) (N := 7) 8 19 X hP rfl rfl hin_X8 5 (Nat.le_of_ble_eq_true rfl) (nw_c1 (w := Cond.fieldLinkNest "TillPairs" 201 "TillPairs$Ways" "changes" "I" "TillPairs") 154 rfl rfl) rfl rfl d k
set_option maxRecDepth 20000 in
theorem gf_X9_204_19 (X : UC p s m args meth c cc nL RX9 R fr lo D ad cs sd A) (hP : va_P D clss (wld cs ad z) H) (d : decode cc pc = .ok (.getfield 204, 3)) (k : W p l e R s m args below meth c H locs cells slots Q (F0 m (pc + 3) ls (.int (gI z 19 6) :: rest))) : W p l e R s m args below meth c H locs cells slots Q (F0 m pc ls (.ref (ad 19) :: rest)) := u_getN (C := RX8) (T := TX8) (N := 7) 8 19 X hP rfl rfl hin_X8 6 (Nat.le_of_ble_eq_true rfl) (nw_c1 (w := Cond.fieldLinkNest "TillPairs" 204 "TillPairs$Ways" "digits" "I" "TillPairs") 156 rfl rfl) rfl rfl d k
set_option maxRecDepth 20000 in
theorem gf_X9_222_26 (X : UC p s m args meth c cc nL RX9 R fr lo D ad cs sd A) (hP : va_P D clss (wld cs ad z) H) (d : decode cc pc = .ok (.getfield 222, 3)) (k : W p l e R s m args below meth c H locs cells slots Q (F0 m (pc + 3) ls (.int (gI z 26 3) :: rest))) : W p l e R s m args below meth c H locs cells slots Q (F0 m pc ls (.ref (ad 26) :: rest)) := u_getN (C := RX5) (T := TX5) (N := 5) 5 26 X hP rfl rfl hin_X5 3 (Nat.le_of_ble_eq_true rfl) (nw_c1 (w := Cond.fieldLinkNest "TillPairs" 222 "TillPairs$Plans" "count" "I" "TillPairs") 184 rfl rfl) rfl rfl d k
set_option maxRecDepth 20000 in
theorem gf_X9_230_26 (X : UC p s m args meth c cc nL RX9 R fr lo D ad cs sd A) (hP : va_P D clss (wld cs ad z) H) (d : decode cc pc = .ok (.getfield 230, 3)) (k : W p l e R s m args below meth c H locs cells slots Q (F0 m (pc + 3) ls (.ref (ad 27) :: rest))) : W p l e R s m args below meth c H locs cells slots Q (F0 m pc ls (.ref (ad 26) :: rest)) := u_getN (C := RX5) (T := TX5) (N := 5) 5 26 X hP rfl rfl hin_X5 0 (Nat.le_of_ble_eq_true rfl) (nw_c1 (w := Cond.fieldLinkNest "TillPairs" 230 "TillPairs$Plans" "kinds" "[I" "TillPairs") 179 rfl rfl) rfl rfl d k
set_option maxRecDepth 20000 in
theorem gf_X9_233_26 (X : UC p s m args meth c cc nL RX9 R fr lo D ad cs sd A) (hP : va_P D clss (wld cs ad z) H) (d : decode cc pc = .ok (.getfield 233, 3)) (k : W p l e R s m args below meth c H locs cells slots Q (F0 m (pc + 3) ls (.ref (ad 28) :: rest))) : W p l e R s m args below meth c H locs cells slots Q (F0 m pc ls (.ref (ad 26) :: rest)) := u_getN (C := RX5) (T := TX5) (N := 5) 5 26 X hP rfl rfl hin_X5 1 (Nat.le_of_ble_eq_true rfl) (nw_c1 (w := Cond.fieldLinkNest "TillPairs" 233 "TillPairs$Plans" "as" "[I" "TillPairs") 181 rfl rfl) rfl rfl d k
set_option maxRecDepth 20000 in
theorem gf_X9_240_26 (X : UC p s m args meth c cc nL RX9 R fr lo D ad cs sd A) (hP : va_P D clss (wld cs ad z) H) (d : decode cc pc = .ok (.getfield 240, 3)) (k : W p l e R s m args below meth c H locs cells slots Q (F0 m (pc + 3) ls (.int (gI z 26 4) :: rest))) : W p l e R s m args below meth c H locs cells slots Q (F0 m pc ls (.ref (ad 26) :: rest)) := u_getN (C := RX5) (T := TX5) (N := 5) 5 26 X hP rfl rfl hin_X5 4 (Nat.le_of_ble_eq_true rfl) (nw_c1 (w := Cond.fieldLinkNest "TillPairs" 240 "TillPairs$Plans" "z" "I" "TillPairs") 186 rfl rfl) rfl rfl d k
set_option maxRecDepth 20000 in
theorem gf_X9_248_30 (X : UC p s m args meth c cc nL RX9 R fr lo D ad cs sd A) (hP : va_P D clss (wld cs ad z) H) (d : decode cc pc = .ok (.getfield 248, 3)) (k : W p l e R s m args below meth c H locs cells slots Q (F0 m (pc + 3) ls (.ref (ad 31) :: rest))) : W p l e R s m args below meth c H locs cells slots Q (F0 m pc ls (.ref (ad 30) :: rest)) := u_getN (C := RX6) (T := TX6) (N := 4) 6 30 X hP rfl rfl hin_X6 2 (Nat.le_of_ble_eq_true rfl) (nw_c1 (w := Cond.fieldLinkNest "TillPairs" 248 "TillPairs$Rows" "cells" "[I" "TillPairs") 207 rfl rfl) rfl rfl d k
set_option maxRecDepth 20000 in
theorem gf_X9_261_34 (X : UC p s m args meth c cc nL RX9 R fr lo D ad cs sd A) (hP : va_P D clss (wld cs ad z) H) (d : decode cc pc = .ok (.getfield 261, 3)) (k : W p l e R s m args below meth c H locs cells slots Q (F0 m (pc + 3) ls (.ref (ad 35) :: rest))) : W p l e R s m args below meth c H locs cells slots Q (F0 m pc ls (.ref (ad 34) :: rest)) := u_getN (C := RX1) (T := TX1) (N := 6) 1 34 X hP rfl rfl hin_X1 0 (Nat.le_of_ble_eq_true rfl) (nw_c2 (w := Cond.fieldLinkNest "TillPairs" 261 "TillPairs$Host" "sorts" "[I" "TillPairs") 15 rfl rfl) rfl rfl d k
set_option maxRecDepth 20000 in
theorem gf_X9_269_34 (X : UC p s m args meth c cc nL RX9 R fr lo D ad cs sd A) (hP : va_P D clss (wld cs ad z) H) (d : decode cc pc = .ok (.getfield 269, 3)) (k : W p l e R s m args below meth c H locs cells slots Q (F0 m (pc + 3) ls (.ref (ad 37) :: rest))) : W p l e R s m args below meth c H locs cells slots Q (F0 m pc ls (.ref (ad 34) :: rest)) := u_getN (C := RX1) (T := TX1) (N := 6) 1 34 X hP rfl rfl hin_X1 2 (Nat.le_of_ble_eq_true rfl) (nw_c2 (w := Cond.fieldLinkNest "TillPairs" 269 "TillPairs$Host" "items" "[[I" "TillPairs") 19 rfl rfl) rfl rfl d k
set_option maxRecDepth 20000 in
theorem gf_X9_285_34 (X : UC p s m args meth c cc nL RX9 R fr lo D ad cs sd A) (hP : va_P D clss (wld cs ad z) H) (d : decode cc pc = .ok (.getfield 285, 3)) (k : W p l e R s m args below meth c H locs cells slots Q (F0 m (pc + 3) ls (.ref (ad 43) :: rest))) : W p l e R s m args below meth c H locs cells slots Q (F0 m pc ls (.ref (ad 34) :: rest)) := u_getN (C := RX1) (T := TX1) (N := 6) 1 34 X hP rfl rfl hin_X1 4 (Nat.le_of_ble_eq_true rfl) (nw_c2 (w := Cond.fieldLinkNest "TillPairs" 285 "TillPairs$Host" "heldSort" "[I" "TillPairs") 22 rfl rfl) rfl rfl d k
set_option maxRecDepth 20000 in
theorem gf_X9_288_34 (X : UC p s m args meth c cc nL RX9 R fr lo D ad cs sd A) (hP : va_P D clss (wld cs ad z) H) (d : decode cc pc = .ok (.getfield 288, 3)) (k : W p l e R s m args below meth c H locs cells slots Q (F0 m (pc + 3) ls (.ref (ad 44) :: rest))) : W p l e R s m args below meth c H locs cells slots Q (F0 m pc ls (.ref (ad 34) :: rest)) := u_getN (C := RX1) (T := TX1) (N := 6) 1 34 X hP rfl rfl hin_X1 5 (Nat.le_of_ble_eq_true rfl) (nw_c2 (w := Cond.fieldLinkNest "TillPairs" 288 "TillPairs$Host" "held" "[I" "TillPairs") 24 rfl rfl) rfl rfl d k
set_option maxRecDepth 20000 in
theorem gf_X9_28_0 (X : UC p s m args meth c cc nL RX9 R fr lo D ad cs sd A) (hP : va_P D clss (wld cs ad z) H) (d : decode cc pc = .ok (.getfield 28, 3)) (k : W p l e R s m args below meth c H locs cells slots Q (F0 m (pc + 3) ls (.ref (ad 17) :: rest))) : W p l e R s m args below meth c H locs cells slots Q (F0 m pc ls (.ref (ad 0) :: rest)) := u_get (C := RX9) (T := TX9) (N := 12) 9 0 X hP rfl rfl hin_X9 2 (Nat.le_of_ble_eq_true rfl) (tb_c2 (w := Cond.fieldLink "TillPairs" 28 "TillPairs" "mind" "LTillPairs$Judge;") 40 rfl rfl) rfl rfl d k
set_option maxRecDepth 20000 in
theorem gf_X9_304_32 (X : UC p s m args meth c cc nL RX9 R fr lo D ad cs sd A) (hP : va_P D clss (wld cs ad z) H) (d : decode cc pc = .ok (.getfield 304, 3)) (k : W p l e R s m args below meth c H locs cells slots Q (F0 m (pc + 3) ls (.int (gI z 32 1) :: rest))) : W p l e R s m args below meth c H locs cells slots Q (F0 m pc ls (.ref (ad 32) :: rest)) := u_getN (C := RX0) (T := TX0) (N := 6) 0 32 X hP rfl rfl hin_X0 1 (Nat.le_of_ble_eq_true rfl) (nw_c1 (w := Cond.fieldLinkNest "TillPairs" 304 "TillPairs$Acts" "bodies" "I" "TillPairs") 228 rfl rfl) rfl rfl d k
set_option maxRecDepth 20000 in
theorem gf_X9_307_32 (X : UC p s m args meth c cc nL RX9 R fr lo D ad cs sd A) (hP : va_P D clss (wld cs ad z) H) (d : decode cc pc = .ok (.getfield 307, 3)) (k : W p l e R s m args below meth c H locs cells slots Q (F0 m (pc + 3) ls (.ref (ad 33) :: rest))) : W p l e R s m args below meth c H locs cells slots Q (F0 m pc ls (.ref (ad 32) :: rest)) := u_getN (C := RX0) (T := TX0) (N := 6) 0 32 X hP rfl rfl hin_X0 0 (Nat.le_of_ble_eq_true rfl) (nw_c1 (w := Cond.fieldLinkNest "TillPairs" 307 "TillPairs$Acts" "noted" "[I" "TillPairs") 226 rfl rfl) rfl rfl d k
set_option maxRecDepth 20000 in
theorem gf_X9_310_34 (X : UC p s m args meth c cc nL RX9 R fr lo D ad cs sd A) (hP : va_P D clss (wld cs ad z) H) (d : decode cc pc = .ok (.getfield 310, 3)) (k : W p l e R s m args below meth c H locs cells slots Q (F0 m (pc + 3) ls (.ref (ad 36) :: rest))) : W p l e R s m args below meth c H locs cells slots Q (F0 m pc ls (.ref (ad 34) :: rest)) := u_getN (C := RX1) (T := TX1) (N := 6) 1 34 X hP rfl rfl hin_X1 1 (Nat.le_of_ble_eq_true rfl) (nw_c2 (w := Cond.fieldLinkNest "TillPairs" 310 "TillPairs$Host" "lengths" "[I" "TillPairs") 17 rfl rfl) rfl rfl d k
set_option maxRecDepth 20000 in
theorem gf_X9_321_30 (X : UC p s m args meth c cc nL RX9 R fr lo D ad cs sd A) (hP : va_P D clss (wld cs ad z) H) (d : decode cc pc = .ok (.getfield 321, 3)) (k : W p l e R s m args below meth c H locs cells slots Q (F0 m (pc + 3) ls (.int (gI z 30 3) :: rest))) : W p l e R s m args below meth c H locs cells slots Q (F0 m pc ls (.ref (ad 30) :: rest)) := u_getN (C := RX6) (T := TX6) (N := 4) 6 30 X hP rfl rfl hin_X6 3 (Nat.le_of_ble_eq_true rfl) (nw_c1 (w := Cond.fieldLinkNest "TillPairs" 321 "TillPairs$Rows" "count" "I" "TillPairs") 209 rfl rfl) rfl rfl d k
set_option maxRecDepth 20000 in
theorem gf_X9_37_0 (X : UC p s m args meth c cc nL RX9 R fr lo D ad cs sd A) (hP : va_P D clss (wld cs ad z) H) (d : decode cc pc = .ok (.getfield 37, 3)) (k : W p l e R s m args below meth c H locs cells slots Q (F0 m (pc + 3) ls (.ref (ad 18) :: rest))) : W p l e R s m args below meth c H locs cells slots Q (F0 m pc ls (.ref (ad 0) :: rest)) := u_get (C := RX9) (T := TX9) (N := 12) 9 0 X hP rfl rfl hin_X9 3 (Nat.le_of_ble_eq_true rfl) (tb_c2 (w := Cond.fieldLink "TillPairs" 37 "TillPairs" "odds" "LTillPairs$Odds;") 41 rfl rfl) rfl rfl d k
set_option maxRecDepth 20000 in
theorem gf_X9_44_0 (X : UC p s m args meth c cc nL RX9 R fr lo D ad cs sd A) (hP : va_P D clss (wld cs ad z) H) (d : decode cc pc = .ok (.getfield 44, 3)) (k : W p l e R s m args below meth c H locs cells slots Q (F0 m (pc + 3) ls (.ref (ad 19) :: rest))) : W p l e R s m args below meth c H locs cells slots Q (F0 m pc ls (.ref (ad 0) :: rest)) := u_get (C := RX9) (T := TX9) (N := 12) 9 0 X hP rfl rfl hin_X9 4 (Nat.le_of_ble_eq_true rfl) (tb_c2 (w := Cond.fieldLink "TillPairs" 44 "TillPairs" "ways" "LTillPairs$Ways;") 42 rfl rfl) rfl rfl d k
set_option maxRecDepth 20000 in
theorem gf_X9_51_0 (X : UC p s m args meth c cc nL RX9 R fr lo D ad cs sd A) (hP : va_P D clss (wld cs ad z) H) (d : decode cc pc = .ok (.getfield 51, 3)) (k : W p l e R s m args below meth c H locs cells slots Q (F0 m (pc + 3) ls (.ref (ad 26) :: rest))) : W p l e R s m args below meth c H locs cells slots Q (F0 m pc ls (.ref (ad 0) :: rest)) := u_get (C := RX9) (T := TX9) (N := 12) 9 0 X hP rfl rfl hin_X9 5 (Nat.le_of_ble_eq_true rfl) (tb_c2 (w := Cond.fieldLink "TillPairs" 51 "TillPairs" "plans" "LTillPairs$Plans;") 43 rfl rfl) rfl rfl d k
set_option maxRecDepth 20000 in
theorem gf_X9_58_0 (X : UC p s m args meth c cc nL RX9 R fr lo D ad cs sd A) (hP : va_P D clss (wld cs ad z) H) (d : decode cc pc = .ok (.getfield 58, 3)) (k : W p l e R s m args below meth c H locs cells slots Q (F0 m (pc + 3) ls (.ref (ad 30) :: rest))) : W p l e R s m args below meth c H locs cells slots Q (F0 m pc ls (.ref (ad 0) :: rest)) := u_get (C := RX9) (T := TX9) (N := 12) 9 0 X hP rfl rfl hin_X9 6 (Nat.le_of_ble_eq_true rfl) (tb_c2 (w := Cond.fieldLink "TillPairs" 58 "TillPairs" "rows" "LTillPairs$Rows;") 44 rfl rfl) rfl rfl d k
set_option maxRecDepth 20000 in
theorem gf_X9_65_0 (X : UC p s m args meth c cc nL RX9 R fr lo D ad cs sd A) (hP : va_P D clss (wld cs ad z) H) (d : decode cc pc = .ok (.getfield 65, 3)) (k : W p l e R s m args below meth c H locs cells slots Q (F0 m (pc + 3) ls (.ref (ad 32) :: rest))) : W p l e R s m args below meth c H locs cells slots Q (F0 m pc ls (.ref (ad 0) :: rest)) := u_get (C := RX9) (T := TX9) (N := 12) 9 0 X hP rfl rfl hin_X9 7 (Nat.le_of_ble_eq_true rfl) (tb_c2 (w := Cond.fieldLink "TillPairs" 65 "TillPairs" "acts" "LTillPairs$Acts;") 45 rfl rfl) rfl rfl d k
set_option maxRecDepth 20000 in
theorem gf_X9_72_0 (X : UC p s m args meth c cc nL RX9 R fr lo D ad cs sd A) (hP : va_P D clss (wld cs ad z) H) (d : decode cc pc = .ok (.getfield 72, 3)) (k : W p l e R s m args below meth c H locs cells slots Q (F0 m (pc + 3) ls (.ref (ad 34) :: rest))) : W p l e R s m args below meth c H locs cells slots Q (F0 m pc ls (.ref (ad 0) :: rest)) := u_get (C := RX9) (T := TX9) (N := 12) 9 0 X hP rfl rfl hin_X9 8 (Nat.le_of_ble_eq_true rfl) (tb_c2 (w := Cond.fieldLink "TillPairs" 72 "TillPairs" "host" "LTillPairs$Host;") 46 rfl rfl) rfl rfl d k
set_option maxRecDepth 20000 in
theorem gf_X9_76_0 (X : UC p s m args meth c cc nL RX9 R fr lo D ad cs sd A) (hP : va_P D clss (wld cs ad z) H) (d : decode cc pc = .ok (.getfield 76, 3)) (k : W p l e R s m args below meth c H locs cells slots Q (F0 m (pc + 3) ls (.ref (ad 45) :: rest))) : W p l e R s m args below meth c H locs cells slots Q (F0 m pc ls (.ref (ad 0) :: rest)) := u_get (C := RX9) (T := TX9) (N := 12) 9 0 X hP rfl rfl hin_X9 9 (Nat.le_of_ble_eq_true rfl) (tb_c2 (w := Cond.fieldLink "TillPairs" 76 "TillPairs" "keptHome" "LTillPairs$House;") 47 rfl rfl) rfl rfl d k
set_option maxRecDepth 20000 in
theorem gf_X9_79_0 (X : UC p s m args meth c cc nL RX9 R fr lo D ad cs sd A) (hP : va_P D clss (wld cs ad z) H) (d : decode cc pc = .ok (.getfield 79, 3)) (k : W p l e R s m args below meth c H locs cells slots Q (F0 m (pc + 3) ls (.ref (ad 52) :: rest))) : W p l e R s m args below meth c H locs cells slots Q (F0 m pc ls (.ref (ad 0) :: rest)) := u_get (C := RX9) (T := TX9) (N := 12) 9 0 X hP rfl rfl hin_X9 10 (Nat.le_of_ble_eq_true rfl) (tb_c2 (w := Cond.fieldLink "TillPairs" 79 "TillPairs" "keptPlans" "LTillPairs$Plans;") 48 rfl rfl) rfl rfl d k
set_option maxRecDepth 20000 in
theorem gf_X9_82_0 (X : UC p s m args meth c cc nL RX9 R fr lo D ad cs sd A) (hP : va_P D clss (wld cs ad z) H) (d : decode cc pc = .ok (.getfield 82, 3)) (k : W p l e R s m args below meth c H locs cells slots Q (F0 m (pc + 3) ls (.int (gI z 0 11) :: rest))) : W p l e R s m args below meth c H locs cells slots Q (F0 m pc ls (.ref (ad 0) :: rest)) := u_get (C := RX9) (T := TX9) (N := 12) 9 0 X hP rfl rfl hin_X9 11 (Nat.le_of_ble_eq_true rfl) (tb_c2 (w := Cond.fieldLink "TillPairs" 82 "TillPairs" "kept" "Z") 49 rfl rfl) rfl rfl d k
set_option maxRecDepth 20000 in
theorem gf_X9_86_8 (X : UC p s m args meth c cc nL RX9 R fr lo D ad cs sd A) (hP : va_P D clss (wld cs ad z) H) (d : decode cc pc = .ok (.getfield 86, 3)) (k : W p l e R s m args below meth c H locs cells slots Q (F0 m (pc + 3) ls (.int (gI z 8 2) :: rest))) : W p l e R s m args below meth c H locs cells slots Q (F0 m pc ls (.ref (ad 8) :: rest)) := u_getN (C := RX7) (T := TX7) (N := 5) 7 8 X hP rfl rfl hin_X7 2 (Nat.le_of_ble_eq_true rfl) (nw_c1 (w := Cond.fieldLinkNest "TillPairs" 86 "TillPairs$Tape" "length" "I" "TillPairs") 95 rfl rfl) rfl rfl d k
set_option maxRecDepth 20000 in
theorem pf_X0_15_32 {v : Int32} (X : UC p s m args meth c cc nL RX0 R fr lo D ad cs sd A) (hP : va_P D clss (wld cs ad z) H) (hS : va_S A s.heap H locs) (d : decode cc pc = .ok (.putfield 15, 3)) (k : ∀ (H : Heap) (locs : List Loc), va_P D clss (wld cs ad (pI z 32 1 v)) H → va_S A s.heap H locs → W p l e R s m args below meth c H locs cells slots Q (F0 m (pc + 3) ls rest)) : W p l e R s m args below meth c H locs cells slots Q (F0 m pc ls (.int v :: .ref (ad 32) :: rest)) := u_put (C := RX0) (T := TX0) (N := 6) (ty := .int) 0 32 (pI z 32 1 v) X hP hS rfl rfl hin_X0 tyX0 tyX0_ok nmX0 1 (Nat.le_of_ble_eq_true rfl) (tb_c1 (w := Cond.fieldLink "TillPairs$Acts" 15 "TillPairs$Acts" "bodies" "I") 227 rfl rfl) rfl rfl (by decide +kernel) rfl rfl (Nat.le_of_ble_eq_true rfl) rfl d k
set_option maxRecDepth 20000 in
theorem pf_X0_19_32 {v : Int32} (X : UC p s m args meth c cc nL RX0 R fr lo D ad cs sd A) (hP : va_P D clss (wld cs ad z) H) (hS : va_S A s.heap H locs) (d : decode cc pc = .ok (.putfield 19, 3)) (k : ∀ (H : Heap) (locs : List Loc), va_P D clss (wld cs ad (pI z 32 2 v)) H → va_S A s.heap H locs → W p l e R s m args below meth c H locs cells slots Q (F0 m (pc + 3) ls rest)) : W p l e R s m args below meth c H locs cells slots Q (F0 m pc ls (.int v :: .ref (ad 32) :: rest)) := u_put (C := RX0) (T := TX0) (N := 6) (ty := .int) 0 32 (pI z 32 2 v) X hP hS rfl rfl hin_X0 tyX0 tyX0_ok nmX0 2 (Nat.le_of_ble_eq_true rfl) (tb_c1 (w := Cond.fieldLink "TillPairs$Acts" 19 "TillPairs$Acts" "kind" "I") 229 rfl rfl) rfl rfl (by decide +kernel) rfl rfl (Nat.le_of_ble_eq_true rfl) rfl d k
set_option maxRecDepth 20000 in
theorem pf_X0_22_32 {v : Int32} (X : UC p s m args meth c cc nL RX0 R fr lo D ad cs sd A) (hP : va_P D clss (wld cs ad z) H) (hS : va_S A s.heap H locs) (d : decode cc pc = .ok (.putfield 22, 3)) (k : ∀ (H : Heap) (locs : List Loc), va_P D clss (wld cs ad (pI z 32 3 v)) H → va_S A s.heap H locs → W p l e R s m args below meth c H locs cells slots Q (F0 m (pc + 3) ls rest)) : W p l e R s m args below meth c H locs cells slots Q (F0 m pc ls (.int v :: .ref (ad 32) :: rest)) := u_put (C := RX0) (T := TX0) (N := 6) (ty := .int) 0 32 (pI z 32 3 v) X hP hS rfl rfl hin_X0 tyX0 tyX0_ok nmX0 3 (Nat.le_of_ble_eq_true rfl) (tb_c1 (w := Cond.fieldLink "TillPairs$Acts" 22 "TillPairs$Acts" "number" "I") 230 rfl rfl) rfl rfl (by decide +kernel) rfl rfl (Nat.le_of_ble_eq_true rfl) rfl d k
set_option maxRecDepth 20000 in
theorem pf_X0_25_32 {v : Int32} (X : UC p s m args meth c cc nL RX0 R fr lo D ad cs sd A) (hP : va_P D clss (wld cs ad z) H) (hS : va_S A s.heap H locs) (d : decode cc pc = .ok (.putfield 25, 3)) (k : ∀ (H : Heap) (locs : List Loc), va_P D clss (wld cs ad (pI z 32 4 v)) H → va_S A s.heap H locs → W p l e R s m args below meth c H locs cells slots Q (F0 m (pc + 3) ls rest)) : W p l e R s m args below meth c H locs cells slots Q (F0 m pc ls (.int v :: .ref (ad 32) :: rest)) := u_put (C := RX0) (T := TX0) (N := 6) (ty := .int) 0 32 (pI z 32 4 v) X hP hS rfl rfl hin_X0 tyX0 tyX0_ok nmX0 4 (Nat.le_of_ble_eq_true rfl) (tb_c1 (w := Cond.fieldLink "TillPairs$Acts" 25 "TillPairs$Acts" "a" "I") 231 rfl rfl) rfl rfl (by decide +kernel) rfl rfl (Nat.le_of_ble_eq_true rfl) rfl d k
set_option maxRecDepth 20000 in
theorem pf_X0_28_32 {v : Int32} (X : UC p s m args meth c cc nL RX0 R fr lo D ad cs sd A) (hP : va_P D clss (wld cs ad z) H) (hS : va_S A s.heap H locs) (hb : v = 0 ∨ v = 1) (d : decode cc pc = .ok (.putfield 28, 3)) (k : ∀ (H : Heap) (locs : List Loc), va_P D clss (wld cs ad (pI z 32 5 v)) H → va_S A s.heap H locs → W p l e R s m args below meth c H locs cells slots Q (F0 m (pc + 3) ls rest)) : W p l e R s m args below meth c H locs cells slots Q (F0 m pc ls (.int v :: .ref (ad 32) :: rest)) := u_put (C := RX0) (T := TX0) (N := 6) (ty := .boolean) 0 32 (pI z 32 5 v) X hP hS rfl rfl hin_X0 tyX0 tyX0_ok nmX0 5 (Nat.le_of_ble_eq_true rfl) (tb_c1 (w := Cond.fieldLink "TillPairs$Acts" 28 "TillPairs$Acts" "parted" "Z") 232 rfl rfl) rfl rfl (by decide +kernel) (by rcases hb with h | h <;> subst h <;> rfl) (by rcases hb with h | h <;> subst h <;> rfl) (Nat.le_of_ble_eq_true rfl) rfl d k
set_option maxRecDepth 20000 in
theorem pf_X10_102_56 {v : Int32} (X : UC p s m args meth c cc nL RX10 R fr lo D ad cs sd A) (hP : va_P D clss (wld cs ad z) H) (hS : va_S A s.heap H locs) (d : decode cc pc = .ok (.putfield 102, 3)) (k : ∀ (H : Heap) (locs : List Loc), va_P D clss (wld cs ad (pI z 56 0 v)) H → va_S A s.heap H locs → W p l e R s m args below meth c H locs cells slots Q (F0 m (pc + 3) ls rest)) : W p l e R s m args below meth c H locs cells slots Q (F0 m pc ls (.int v :: .ref (ad 56) :: rest)) := u_put (C := RX10) (T := TX10) (N := 51) (ty := .int) 10 56 (pI z 56 0 v) X hP hS rfl rfl hin_X10 tyX10 tyX10_ok nmX10 0 (Nat.le_of_ble_eq_true rfl) (tb_c5 (w := Cond.fieldLink "TillPairsModel" 102 "TillPairsModel" "people" "I") 79 rfl rfl) rfl rfl (by decide +kernel) rfl rfl (Nat.le_of_ble_eq_true rfl) rfl d k
set_option maxRecDepth 20000 in
theorem pf_X10_113_56 {v : Int32} (X : UC p s m args meth c cc nL RX10 R fr lo D ad cs sd A) (hP : va_P D clss (wld cs ad z) H) (hS : va_S A s.heap H locs) (d : decode cc pc = .ok (.putfield 113, 3)) (k : ∀ (H : Heap) (locs : List Loc), va_P D clss (wld cs ad (pI z 56 13 v)) H → va_S A s.heap H locs → W p l e R s m args below meth c H locs cells slots Q (F0 m (pc + 3) ls rest)) : W p l e R s m args below meth c H locs cells slots Q (F0 m pc ls (.int v :: .ref (ad 56) :: rest)) := u_put (C := RX10) (T := TX10) (N := 51) (ty := .int) 10 56 (pI z 56 13 v) X hP hS rfl rfl hin_X10 tyX10 tyX10_ok nmX10 13 (Nat.le_of_ble_eq_true rfl) (tb_c5 (w := Cond.fieldLink "TillPairsModel" 113 "TillPairsModel" "tapeMany" "I") 92 rfl rfl) rfl rfl (by decide +kernel) rfl rfl (Nat.le_of_ble_eq_true rfl) rfl d k
set_option maxRecDepth 20000 in
theorem pf_X10_118_56 {v : Int32} (X : UC p s m args meth c cc nL RX10 R fr lo D ad cs sd A) (hP : va_P D clss (wld cs ad z) H) (hS : va_S A s.heap H locs) (d : decode cc pc = .ok (.putfield 118, 3)) (k : ∀ (H : Heap) (locs : List Loc), va_P D clss (wld cs ad (pI z 56 16 v)) H → va_S A s.heap H locs → W p l e R s m args below meth c H locs cells slots Q (F0 m (pc + 3) ls rest)) : W p l e R s m args below meth c H locs cells slots Q (F0 m pc ls (.int v :: .ref (ad 56) :: rest)) := u_put (C := RX10) (T := TX10) (N := 51) (ty := .int) 10 56 (pI z 56 16 v) X hP hS rfl rfl hin_X10 tyX10 tyX10_ok nmX10 16 (Nat.le_of_ble_eq_true rfl) (tb_c5 (w := Cond.fieldLink "TillPairsModel" 118 "TillPairsModel" "tokenEnds" "I") 95 rfl rfl) rfl rfl (by decide +kernel) rfl rfl (Nat.le_of_ble_eq_true rfl) rfl d k
set_option maxRecDepth 20000 in
theorem pf_X10_121_56 {v : Int32} (X : UC p s m args meth c cc nL RX10 R fr lo D ad cs sd A) (hP : va_P D clss (wld cs ad z) H) (hS : va_S A s.heap H locs) (d : decode cc pc = .ok (.putfield 121, 3)) (k : ∀ (H : Heap) (locs : List Loc), va_P D clss (wld cs ad (pI z 56 15 v)) H → va_S A s.heap H locs → W p l e R s m args below meth c H locs cells slots Q (F0 m (pc + 3) ls rest)) : W p l e R s m args below meth c H locs cells slots Q (F0 m pc ls (.int v :: .ref (ad 56) :: rest)) := u_put (C := RX10) (T := TX10) (N := 51) (ty := .int) 10 56 (pI z 56 15 v) X hP hS rfl rfl hin_X10 tyX10 tyX10_ok nmX10 15 (Nat.le_of_ble_eq_true rfl) (tb_c5 (w := Cond.fieldLink "TillPairsModel" 121 "TillPairsModel" "begins" "I") 94 rfl rfl) rfl rfl (by decide +kernel) rfl rfl (Nat.le_of_ble_eq_true rfl) rfl d k
set_option maxRecDepth 20000 in
theorem pf_X10_134_56 {v : Int32} (X : UC p s m args meth c cc nL RX10 R fr lo D ad cs sd A) (hP : va_P D clss (wld cs ad z) H) (hS : va_S A s.heap H locs) (d : decode cc pc = .ok (.putfield 134, 3)) (k : ∀ (H : Heap) (locs : List Loc), va_P D clss (wld cs ad (pI z 56 14 v)) H → va_S A s.heap H locs → W p l e R s m args below meth c H locs cells slots Q (F0 m (pc + 3) ls rest)) : W p l e R s m args below meth c H locs cells slots Q (F0 m pc ls (.int v :: .ref (ad 56) :: rest)) := u_put (C := RX10) (T := TX10) (N := 51) (ty := .int) 10 56 (pI z 56 14 v) X hP hS rfl rfl hin_X10 tyX10 tyX10_ok nmX10 14 (Nat.le_of_ble_eq_true rfl) (tb_c5 (w := Cond.fieldLink "TillPairsModel" 134 "TillPairsModel" "sort" "I") 93 rfl rfl) rfl rfl (by decide +kernel) rfl rfl (Nat.le_of_ble_eq_true rfl) rfl d k
set_option maxRecDepth 20000 in
theorem pf_X10_137_56 {v : Int64} (X : UC p s m args meth c cc nL RX10 R fr lo D ad cs sd A) (hP : va_P D clss (wld cs ad z) H) (hS : va_S A s.heap H locs) (d : decode cc pc = .ok (.putfield 137, 3)) (k : ∀ (H : Heap) (locs : List Loc), va_P D clss (wld cs ad (pJ z 56 17 v)) H → va_S A s.heap H locs → W p l e R s m args below meth c H locs cells slots Q (F0 m (pc + 3) ls rest)) : W p l e R s m args below meth c H locs cells slots Q (F0 m pc ls (.long v :: .ref (ad 56) :: rest)) := u_put (C := RX10) (T := TX10) (N := 51) (ty := .long) 10 56 (pJ z 56 17 v) X hP hS rfl rfl hin_X10 tyX10 tyX10_ok nmX10 17 (Nat.le_of_ble_eq_true rfl) (tb_c5 (w := Cond.fieldLink "TillPairsModel" 137 "TillPairsModel" "word" "J") 96 rfl rfl) rfl rfl (by decide +kernel) rfl rfl (Nat.le_of_ble_eq_true rfl) rfl d k
set_option maxRecDepth 20000 in
theorem pf_X10_141_56 {v : Int32} (X : UC p s m args meth c cc nL RX10 R fr lo D ad cs sd A) (hP : va_P D clss (wld cs ad z) H) (hS : va_S A s.heap H locs) (d : decode cc pc = .ok (.putfield 141, 3)) (k : ∀ (H : Heap) (locs : List Loc), va_P D clss (wld cs ad (pI z 56 18 v)) H → va_S A s.heap H locs → W p l e R s m args below meth c H locs cells slots Q (F0 m (pc + 3) ls rest)) : W p l e R s m args below meth c H locs cells slots Q (F0 m pc ls (.int v :: .ref (ad 56) :: rest)) := u_put (C := RX10) (T := TX10) (N := 51) (ty := .int) 10 56 (pI z 56 18 v) X hP hS rfl rfl hin_X10 tyX10 tyX10_ok nmX10 18 (Nat.le_of_ble_eq_true rfl) (tb_c5 (w := Cond.fieldLink "TillPairsModel" 141 "TillPairsModel" "value" "I") 97 rfl rfl) rfl rfl (by decide +kernel) rfl rfl (Nat.le_of_ble_eq_true rfl) rfl d k
set_option maxRecDepth 20000 in
theorem pf_X10_170_56 {v : Int32} (X : UC p s m args meth c cc nL RX10 R fr lo D ad cs sd A) (hP : va_P D clss (wld cs ad z) H) (hS : va_S A s.heap H locs) (hb : v = 0 ∨ v = 1) (d : decode cc pc = .ok (.putfield 170, 3)) (k : ∀ (H : Heap) (locs : List Loc), va_P D clss (wld cs ad (pI z 56 19 v)) H → va_S A s.heap H locs → W p l e R s m args below meth c H locs cells slots Q (F0 m (pc + 3) ls rest)) : W p l e R s m args below meth c H locs cells slots Q (F0 m pc ls (.int v :: .ref (ad 56) :: rest)) := u_put (C := RX10) (T := TX10) (N := 51) (ty := .boolean) 10 56 (pI z 56 19 v) X hP hS rfl rfl hin_X10 tyX10 tyX10_ok nmX10 19 (Nat.le_of_ble_eq_true rfl) (tb_c5 (w := Cond.fieldLink "TillPairsModel" 170 "TillPairsModel" "good" "Z") 98 rfl rfl) rfl rfl (by decide +kernel) (by rcases hb with h | h <;> subst h <;> rfl) (by rcases hb with h | h <;> subst h <;> rfl) (Nat.le_of_ble_eq_true rfl) rfl d k
set_option maxRecDepth 20000 in
theorem pf_X10_180_56 {v : Int32} (X : UC p s m args meth c cc nL RX10 R fr lo D ad cs sd A) (hP : va_P D clss (wld cs ad z) H) (hS : va_S A s.heap H locs) (d : decode cc pc = .ok (.putfield 180, 3)) (k : ∀ (H : Heap) (locs : List Loc), va_P D clss (wld cs ad (pI z 56 20 v)) H → va_S A s.heap H locs → W p l e R s m args below meth c H locs cells slots Q (F0 m (pc + 3) ls rest)) : W p l e R s m args below meth c H locs cells slots Q (F0 m pc ls (.int v :: .ref (ad 56) :: rest)) := u_put (C := RX10) (T := TX10) (N := 51) (ty := .int) 10 56 (pI z 56 20 v) X hP hS rfl rfl hin_X10 tyX10 tyX10_ok nmX10 20 (Nat.le_of_ble_eq_true rfl) (tb_c5 (w := Cond.fieldLink "TillPairsModel" 180 "TillPairsModel" "freshPeople" "I") 99 rfl rfl) rfl rfl (by decide +kernel) rfl rfl (Nat.le_of_ble_eq_true rfl) rfl d k
set_option maxRecDepth 20000 in
theorem pf_X10_220_56 {v : Int32} (X : UC p s m args meth c cc nL RX10 R fr lo D ad cs sd A) (hP : va_P D clss (wld cs ad z) H) (hS : va_S A s.heap H locs) (d : decode cc pc = .ok (.putfield 220, 3)) (k : ∀ (H : Heap) (locs : List Loc), va_P D clss (wld cs ad (pI z 56 5 v)) H → va_S A s.heap H locs → W p l e R s m args below meth c H locs cells slots Q (F0 m (pc + 3) ls rest)) : W p l e R s m args below meth c H locs cells slots Q (F0 m pc ls (.int v :: .ref (ad 56) :: rest)) := u_put (C := RX10) (T := TX10) (N := 51) (ty := .int) 10 56 (pI z 56 5 v) X hP hS rfl rfl hin_X10 tyX10 tyX10_ok nmX10 5 (Nat.le_of_ble_eq_true rfl) (tb_c5 (w := Cond.fieldLink "TillPairsModel" 220 "TillPairsModel" "surprises" "I") 84 rfl rfl) rfl rfl (by decide +kernel) rfl rfl (Nat.le_of_ble_eq_true rfl) rfl d k
set_option maxRecDepth 20000 in
theorem pf_X10_223_56 {v : Int32} (X : UC p s m args meth c cc nL RX10 R fr lo D ad cs sd A) (hP : va_P D clss (wld cs ad z) H) (hS : va_S A s.heap H locs) (d : decode cc pc = .ok (.putfield 223, 3)) (k : ∀ (H : Heap) (locs : List Loc), va_P D clss (wld cs ad (pI z 56 34 v)) H → va_S A s.heap H locs → W p l e R s m args below meth c H locs cells slots Q (F0 m (pc + 3) ls rest)) : W p l e R s m args below meth c H locs cells slots Q (F0 m pc ls (.int v :: .ref (ad 56) :: rest)) := u_put (C := RX10) (T := TX10) (N := 51) (ty := .int) 10 56 (pI z 56 34 v) X hP hS rfl rfl hin_X10 tyX10 tyX10_ok nmX10 34 (Nat.le_of_ble_eq_true rfl) (tb_c5 (w := Cond.fieldLink "TillPairsModel" 223 "TillPairsModel" "rowMany" "I") 113 rfl rfl) rfl rfl (by decide +kernel) rfl rfl (Nat.le_of_ble_eq_true rfl) rfl d k
set_option maxRecDepth 20000 in
theorem pf_X10_275_56 {v : Int64} (X : UC p s m args meth c cc nL RX10 R fr lo D ad cs sd A) (hP : va_P D clss (wld cs ad z) H) (hS : va_S A s.heap H locs) (d : decode cc pc = .ok (.putfield 275, 3)) (k : ∀ (H : Heap) (locs : List Loc), va_P D clss (wld cs ad (pJ z 56 25 v)) H → va_S A s.heap H locs → W p l e R s m args below meth c H locs cells slots Q (F0 m (pc + 3) ls rest)) : W p l e R s m args below meth c H locs cells slots Q (F0 m pc ls (.long v :: .ref (ad 56) :: rest)) := u_put (C := RX10) (T := TX10) (N := 51) (ty := .long) 10 56 (pJ z 56 25 v) X hP hS rfl rfl hin_X10 tyX10 tyX10_ok nmX10 25 (Nat.le_of_ble_eq_true rfl) (tb_c5 (w := Cond.fieldLink "TillPairsModel" 275 "TillPairsModel" "above" "J") 104 rfl rfl) rfl rfl (by decide +kernel) rfl rfl (Nat.le_of_ble_eq_true rfl) rfl d k
set_option maxRecDepth 20000 in
theorem pf_X10_278_56 {v : Int64} (X : UC p s m args meth c cc nL RX10 R fr lo D ad cs sd A) (hP : va_P D clss (wld cs ad z) H) (hS : va_S A s.heap H locs) (d : decode cc pc = .ok (.putfield 278, 3)) (k : ∀ (H : Heap) (locs : List Loc), va_P D clss (wld cs ad (pJ z 56 26 v)) H → va_S A s.heap H locs → W p l e R s m args below meth c H locs cells slots Q (F0 m (pc + 3) ls rest)) : W p l e R s m args below meth c H locs cells slots Q (F0 m pc ls (.long v :: .ref (ad 56) :: rest)) := u_put (C := RX10) (T := TX10) (N := 51) (ty := .long) 10 56 (pJ z 56 26 v) X hP hS rfl rfl hin_X10 tyX10 tyX10_ok nmX10 26 (Nat.le_of_ble_eq_true rfl) (tb_c5 (w := Cond.fieldLink "TillPairsModel" 278 "TillPairsModel" "below" "J") 105 rfl rfl) rfl rfl (by decide +kernel) rfl rfl (Nat.le_of_ble_eq_true rfl) rfl d k
set_option maxRecDepth 20000 in
theorem pf_X10_315_56 {v : Int32} (X : UC p s m args meth c cc nL RX10 R fr lo D ad cs sd A) (hP : va_P D clss (wld cs ad z) H) (hS : va_S A s.heap H locs) (d : decode cc pc = .ok (.putfield 315, 3)) (k : ∀ (H : Heap) (locs : List Loc), va_P D clss (wld cs ad (pI z 56 9 v)) H → va_S A s.heap H locs → W p l e R s m args below meth c H locs cells slots Q (F0 m (pc + 3) ls rest)) : W p l e R s m args below meth c H locs cells slots Q (F0 m pc ls (.int v :: .ref (ad 56) :: rest)) := u_put (C := RX10) (T := TX10) (N := 51) (ty := .int) 10 56 (pI z 56 9 v) X hP hS rfl rfl hin_X10 tyX10 tyX10_ok nmX10 9 (Nat.le_of_ble_eq_true rfl) (tb_c5 (w := Cond.fieldLink "TillPairsModel" 315 "TillPairsModel" "plans" "I") 88 rfl rfl) rfl rfl (by decide +kernel) rfl rfl (Nat.le_of_ble_eq_true rfl) rfl d k
set_option maxRecDepth 20000 in
theorem pf_X10_34_56 {v : Int32} (X : UC p s m args meth c cc nL RX10 R fr lo D ad cs sd A) (hP : va_P D clss (wld cs ad z) H) (hS : va_S A s.heap H locs) (d : decode cc pc = .ok (.putfield 34, 3)) (k : ∀ (H : Heap) (locs : List Loc), va_P D clss (wld cs ad (pI z 56 11 v)) H → va_S A s.heap H locs → W p l e R s m args below meth c H locs cells slots Q (F0 m (pc + 3) ls rest)) : W p l e R s m args below meth c H locs cells slots Q (F0 m pc ls (.int v :: .ref (ad 56) :: rest)) := u_put (C := RX10) (T := TX10) (N := 51) (ty := .int) 10 56 (pI z 56 11 v) X hP hS rfl rfl hin_X10 tyX10 tyX10_ok nmX10 11 (Nat.le_of_ble_eq_true rfl) (tb_c5 (w := Cond.fieldLink "TillPairsModel" 34 "TillPairsModel" "z" "I") 90 rfl rfl) rfl rfl (by decide +kernel) rfl rfl (Nat.le_of_ble_eq_true rfl) rfl d k
set_option maxRecDepth 20000 in
theorem pf_X10_362_56 {v : Int32} (X : UC p s m args meth c cc nL RX10 R fr lo D ad cs sd A) (hP : va_P D clss (wld cs ad z) H) (hS : va_S A s.heap H locs) (d : decode cc pc = .ok (.putfield 362, 3)) (k : ∀ (H : Heap) (locs : List Loc), va_P D clss (wld cs ad (pI z 56 45 v)) H → va_S A s.heap H locs → W p l e R s m args below meth c H locs cells slots Q (F0 m (pc + 3) ls rest)) : W p l e R s m args below meth c H locs cells slots Q (F0 m pc ls (.int v :: .ref (ad 56) :: rest)) := u_put (C := RX10) (T := TX10) (N := 51) (ty := .int) 10 56 (pI z 56 45 v) X hP hS rfl rfl hin_X10 tyX10 tyX10_ok nmX10 45 (Nat.le_of_ble_eq_true rfl) (tb_c5 (w := Cond.fieldLink "TillPairsModel" 362 "TillPairsModel" "bodies" "I") 124 rfl rfl) rfl rfl (by decide +kernel) rfl rfl (Nat.le_of_ble_eq_true rfl) rfl d k
set_option maxRecDepth 20000 in
theorem pf_X10_368_56 {v : Int32} (X : UC p s m args meth c cc nL RX10 R fr lo D ad cs sd A) (hP : va_P D clss (wld cs ad z) H) (hS : va_S A s.heap H locs) (d : decode cc pc = .ok (.putfield 368, 3)) (k : ∀ (H : Heap) (locs : List Loc), va_P D clss (wld cs ad (pI z 56 42 v)) H → va_S A s.heap H locs → W p l e R s m args below meth c H locs cells slots Q (F0 m (pc + 3) ls rest)) : W p l e R s m args below meth c H locs cells slots Q (F0 m pc ls (.int v :: .ref (ad 56) :: rest)) := u_put (C := RX10) (T := TX10) (N := 51) (ty := .int) 10 56 (pI z 56 42 v) X hP hS rfl rfl hin_X10 tyX10 tyX10_ok nmX10 42 (Nat.le_of_ble_eq_true rfl) (tb_c5 (w := Cond.fieldLink "TillPairsModel" 368 "TillPairsModel" "number" "I") 121 rfl rfl) rfl rfl (by decide +kernel) rfl rfl (Nat.le_of_ble_eq_true rfl) rfl d k
set_option maxRecDepth 20000 in
theorem pf_X10_371_56 {v : Int32} (X : UC p s m args meth c cc nL RX10 R fr lo D ad cs sd A) (hP : va_P D clss (wld cs ad z) H) (hS : va_S A s.heap H locs) (d : decode cc pc = .ok (.putfield 371, 3)) (k : ∀ (H : Heap) (locs : List Loc), va_P D clss (wld cs ad (pI z 56 41 v)) H → va_S A s.heap H locs → W p l e R s m args below meth c H locs cells slots Q (F0 m (pc + 3) ls rest)) : W p l e R s m args below meth c H locs cells slots Q (F0 m pc ls (.int v :: .ref (ad 56) :: rest)) := u_put (C := RX10) (T := TX10) (N := 51) (ty := .int) 10 56 (pI z 56 41 v) X hP hS rfl rfl hin_X10 tyX10 tyX10_ok nmX10 41 (Nat.le_of_ble_eq_true rfl) (tb_c5 (w := Cond.fieldLink "TillPairsModel" 371 "TillPairsModel" "kind" "I") 120 rfl rfl) rfl rfl (by decide +kernel) rfl rfl (Nat.le_of_ble_eq_true rfl) rfl d k
set_option maxRecDepth 20000 in
theorem pf_X10_383_56 {v : Int32} (X : UC p s m args meth c cc nL RX10 R fr lo D ad cs sd A) (hP : va_P D clss (wld cs ad z) H) (hS : va_S A s.heap H locs) (d : decode cc pc = .ok (.putfield 383, 3)) (k : ∀ (H : Heap) (locs : List Loc), va_P D clss (wld cs ad (pI z 56 43 v)) H → va_S A s.heap H locs → W p l e R s m args below meth c H locs cells slots Q (F0 m (pc + 3) ls rest)) : W p l e R s m args below meth c H locs cells slots Q (F0 m pc ls (.int v :: .ref (ad 56) :: rest)) := u_put (C := RX10) (T := TX10) (N := 51) (ty := .int) 10 56 (pI z 56 43 v) X hP hS rfl rfl hin_X10 tyX10 tyX10_ok nmX10 43 (Nat.le_of_ble_eq_true rfl) (tb_c5 (w := Cond.fieldLink "TillPairsModel" 383 "TillPairsModel" "own" "I") 122 rfl rfl) rfl rfl (by decide +kernel) rfl rfl (Nat.le_of_ble_eq_true rfl) rfl d k
set_option maxRecDepth 20000 in
theorem pf_X10_389_56 {v : Int32} (X : UC p s m args meth c cc nL RX10 R fr lo D ad cs sd A) (hP : va_P D clss (wld cs ad z) H) (hS : va_S A s.heap H locs) (hb : v = 0 ∨ v = 1) (d : decode cc pc = .ok (.putfield 389, 3)) (k : ∀ (H : Heap) (locs : List Loc), va_P D clss (wld cs ad (pI z 56 46 v)) H → va_S A s.heap H locs → W p l e R s m args below meth c H locs cells slots Q (F0 m (pc + 3) ls rest)) : W p l e R s m args below meth c H locs cells slots Q (F0 m pc ls (.int v :: .ref (ad 56) :: rest)) := u_put (C := RX10) (T := TX10) (N := 51) (ty := .boolean) 10 56 (pI z 56 46 v) X hP hS rfl rfl hin_X10 tyX10 tyX10_ok nmX10 46 (Nat.le_of_ble_eq_true rfl) (tb_c5 (w := Cond.fieldLink "TillPairsModel" 389 "TillPairsModel" "isParted" "Z") 125 rfl rfl) rfl rfl (by decide +kernel) (by rcases hb with h | h <;> subst h <;> rfl) (by rcases hb with h | h <;> subst h <;> rfl) (Nat.le_of_ble_eq_true rfl) rfl d k
set_option maxRecDepth 20000 in
theorem pf_X10_407_56 {v : Int32} (X : UC p s m args meth c cc nL RX10 R fr lo D ad cs sd A) (hP : va_P D clss (wld cs ad z) H) (hS : va_S A s.heap H locs) (d : decode cc pc = .ok (.putfield 407, 3)) (k : ∀ (H : Heap) (locs : List Loc), va_P D clss (wld cs ad (pI z 56 49 v)) H → va_S A s.heap H locs → W p l e R s m args below meth c H locs cells slots Q (F0 m (pc + 3) ls rest)) : W p l e R s m args below meth c H locs cells slots Q (F0 m pc ls (.int v :: .ref (ad 56) :: rest)) := u_put (C := RX10) (T := TX10) (N := 51) (ty := .int) 10 56 (pI z 56 49 v) X hP hS rfl rfl hin_X10 tyX10 tyX10_ok nmX10 49 (Nat.le_of_ble_eq_true rfl) (tb_c5 (w := Cond.fieldLink "TillPairsModel" 407 "TillPairsModel" "movedTo" "I") 128 rfl rfl) rfl rfl (by decide +kernel) rfl rfl (Nat.le_of_ble_eq_true rfl) rfl d k
set_option maxRecDepth 20000 in
theorem pf_X10_417_56 {v : Int32} (X : UC p s m args meth c cc nL RX10 R fr lo D ad cs sd A) (hP : va_P D clss (wld cs ad z) H) (hS : va_S A s.heap H locs) (hb : v = 0 ∨ v = 1) (d : decode cc pc = .ok (.putfield 417, 3)) (k : ∀ (H : Heap) (locs : List Loc), va_P D clss (wld cs ad (pI z 56 47 v)) H → va_S A s.heap H locs → W p l e R s m args below meth c H locs cells slots Q (F0 m (pc + 3) ls rest)) : W p l e R s m args below meth c H locs cells slots Q (F0 m pc ls (.int v :: .ref (ad 56) :: rest)) := u_put (C := RX10) (T := TX10) (N := 51) (ty := .boolean) 10 56 (pI z 56 47 v) X hP hS rfl rfl hin_X10 tyX10 tyX10_ok nmX10 47 (Nat.le_of_ble_eq_true rfl) (tb_c5 (w := Cond.fieldLink "TillPairsModel" 417 "TillPairsModel" "isKept" "Z") 126 rfl rfl) rfl rfl (by decide +kernel) (by rcases hb with h | h <;> subst h <;> rfl) (by rcases hb with h | h <;> subst h <;> rfl) (Nat.le_of_ble_eq_true rfl) rfl d k
set_option maxRecDepth 20000 in
theorem pf_X2_15_1 {v : Int32} (X : UC p s m args meth c cc nL RX2 R fr lo D ad cs sd A) (hP : va_P D clss (wld cs ad z) H) (hS : va_S A s.heap H locs) (d : decode cc pc = .ok (.putfield 15, 3)) (k : ∀ (H : Heap) (locs : List Loc), va_P D clss (wld cs ad (pI z 1 1 v)) H → va_S A s.heap H locs → W p l e R s m args below meth c H locs cells slots Q (F0 m (pc + 3) ls rest)) : W p l e R s m args below meth c H locs cells slots Q (F0 m pc ls (.int v :: .ref (ad 1) :: rest)) := u_put (C := RX2) (T := TX2) (N := 8) (ty := .int) 2 1 (pI z 1 1 v) X hP hS rfl rfl hin_X2 tyX2 tyX2_ok nmX2 1 (Nat.le_of_ble_eq_true rfl) (tb_c1 (w := Cond.fieldLink "TillPairs$House" 15 "TillPairs$House" "surprises" "I") 48 rfl rfl) rfl rfl (by decide +kernel) rfl rfl (Nat.le_of_ble_eq_true rfl) rfl d k
set_option maxRecDepth 20000 in
theorem pf_X2_15_10 {v : Int32} (X : UC p s m args meth c cc nL RX2 R fr lo D ad cs sd A) (hP : va_P D clss (wld cs ad z) H) (hS : va_S A s.heap H locs) (d : decode cc pc = .ok (.putfield 15, 3)) (k : ∀ (H : Heap) (locs : List Loc), va_P D clss (wld cs ad (pI z 10 1 v)) H → va_S A s.heap H locs → W p l e R s m args below meth c H locs cells slots Q (F0 m (pc + 3) ls rest)) : W p l e R s m args below meth c H locs cells slots Q (F0 m pc ls (.int v :: .ref (ad 10) :: rest)) := u_put (C := RX2) (T := TX2) (N := 8) (ty := .int) 2 10 (pI z 10 1 v) X hP hS rfl rfl hin_X2 tyX2 tyX2_ok nmX2 1 (Nat.le_of_ble_eq_true rfl) (tb_c1 (w := Cond.fieldLink "TillPairs$House" 15 "TillPairs$House" "surprises" "I") 48 rfl rfl) rfl rfl (by decide +kernel) rfl rfl (Nat.le_of_ble_eq_true rfl) rfl d k
set_option maxRecDepth 20000 in
theorem pf_X2_15_45 {v : Int32} (X : UC p s m args meth c cc nL RX2 R fr lo D ad cs sd A) (hP : va_P D clss (wld cs ad z) H) (hS : va_S A s.heap H locs) (d : decode cc pc = .ok (.putfield 15, 3)) (k : ∀ (H : Heap) (locs : List Loc), va_P D clss (wld cs ad (pI z 45 1 v)) H → va_S A s.heap H locs → W p l e R s m args below meth c H locs cells slots Q (F0 m (pc + 3) ls rest)) : W p l e R s m args below meth c H locs cells slots Q (F0 m pc ls (.int v :: .ref (ad 45) :: rest)) := u_put (C := RX2) (T := TX2) (N := 8) (ty := .int) 2 45 (pI z 45 1 v) X hP hS rfl rfl hin_X2 tyX2 tyX2_ok nmX2 1 (Nat.le_of_ble_eq_true rfl) (tb_c1 (w := Cond.fieldLink "TillPairs$House" 15 "TillPairs$House" "surprises" "I") 48 rfl rfl) rfl rfl (by decide +kernel) rfl rfl (Nat.le_of_ble_eq_true rfl) rfl d k
set_option maxRecDepth 20000 in
theorem pf_X2_9_1 {v : Int32} (X : UC p s m args meth c cc nL RX2 R fr lo D ad cs sd A) (hP : va_P D clss (wld cs ad z) H) (hS : va_S A s.heap H locs) (d : decode cc pc = .ok (.putfield 9, 3)) (k : ∀ (H : Heap) (locs : List Loc), va_P D clss (wld cs ad (pI z 1 0 v)) H → va_S A s.heap H locs → W p l e R s m args below meth c H locs cells slots Q (F0 m (pc + 3) ls rest)) : W p l e R s m args below meth c H locs cells slots Q (F0 m pc ls (.int v :: .ref (ad 1) :: rest)) := u_put (C := RX2) (T := TX2) (N := 8) (ty := .int) 2 1 (pI z 1 0 v) X hP hS rfl rfl hin_X2 tyX2 tyX2_ok nmX2 0 (Nat.le_of_ble_eq_true rfl) (tb_c1 (w := Cond.fieldLink "TillPairs$House" 9 "TillPairs$House" "people" "I") 42 rfl rfl) rfl rfl (by decide +kernel) rfl rfl (Nat.le_of_ble_eq_true rfl) rfl d k
set_option maxRecDepth 20000 in
theorem pf_X2_9_10 {v : Int32} (X : UC p s m args meth c cc nL RX2 R fr lo D ad cs sd A) (hP : va_P D clss (wld cs ad z) H) (hS : va_S A s.heap H locs) (d : decode cc pc = .ok (.putfield 9, 3)) (k : ∀ (H : Heap) (locs : List Loc), va_P D clss (wld cs ad (pI z 10 0 v)) H → va_S A s.heap H locs → W p l e R s m args below meth c H locs cells slots Q (F0 m (pc + 3) ls rest)) : W p l e R s m args below meth c H locs cells slots Q (F0 m pc ls (.int v :: .ref (ad 10) :: rest)) := u_put (C := RX2) (T := TX2) (N := 8) (ty := .int) 2 10 (pI z 10 0 v) X hP hS rfl rfl hin_X2 tyX2 tyX2_ok nmX2 0 (Nat.le_of_ble_eq_true rfl) (tb_c1 (w := Cond.fieldLink "TillPairs$House" 9 "TillPairs$House" "people" "I") 42 rfl rfl) rfl rfl (by decide +kernel) rfl rfl (Nat.le_of_ble_eq_true rfl) rfl d k
set_option maxRecDepth 20000 in
theorem pf_X2_9_45 {v : Int32} (X : UC p s m args meth c cc nL RX2 R fr lo D ad cs sd A) (hP : va_P D clss (wld cs ad z) H) (hS : va_S A s.heap H locs) (d : decode cc pc = .ok (.putfield 9, 3)) (k : ∀ (H : Heap) (locs : List Loc), va_P D clss (wld cs ad (pI z 45 0 v)) H → va_S A s.heap H locs → W p l e R s m args below meth c H locs cells slots Q (F0 m (pc + 3) ls rest)) : W p l e R s m args below meth c H locs cells slots Q (F0 m pc ls (.int v :: .ref (ad 45) :: rest)) := u_put (C := RX2) (T := TX2) (N := 8) (ty := .int) 2 45 (pI z 45 0 v) X hP hS rfl rfl hin_X2 tyX2 tyX2_ok nmX2 0 (Nat.le_of_ble_eq_true rfl) (tb_c1 (w := Cond.fieldLink "TillPairs$House" 9 "TillPairs$House" "people" "I") 42 rfl rfl) rfl rfl (by decide +kernel) rfl rfl (Nat.le_of_ble_eq_true rfl) rfl d k
set_option maxRecDepth 20000 in
theorem pf_X4_19_18 {v : Int64} (X : UC p s m args meth c cc nL RX4 R fr lo D ad cs sd A) (hP : va_P D clss (wld cs ad z) H) (hS : va_S A s.heap H locs) (d : decode cc pc = .ok (.putfield 19, 3)) (k : ∀ (H : Heap) (locs : List Loc), va_P D clss (wld cs ad (pJ z 18 2 v)) H → va_S A s.heap H locs → W p l e R s m args below meth c H locs cells slots Q (F0 m (pc + 3) ls rest)) : W p l e R s m args below meth c H locs cells slots Q (F0 m pc ls (.long v :: .ref (ad 18) :: rest)) := u_put (C := RX4) (T := TX4) (N := 4) (ty := .long) 4 18 (pJ z 18 2 v) X hP hS rfl rfl hin_X4 tyX4 tyX4_ok nmX4 2 (Nat.le_of_ble_eq_true rfl) (tb_c1 (w := Cond.fieldLink "TillPairs$Odds" 19 "TillPairs$Odds" "above" "J") 127 rfl rfl) rfl rfl (by decide +kernel) rfl rfl (Nat.le_of_ble_eq_true rfl) rfl d k
set_option maxRecDepth 20000 in
theorem pf_X4_23_18 {v : Int64} (X : UC p s m args meth c cc nL RX4 R fr lo D ad cs sd A) (hP : va_P D clss (wld cs ad z) H) (hS : va_S A s.heap H locs) (d : decode cc pc = .ok (.putfield 23, 3)) (k : ∀ (H : Heap) (locs : List Loc), va_P D clss (wld cs ad (pJ z 18 3 v)) H → va_S A s.heap H locs → W p l e R s m args below meth c H locs cells slots Q (F0 m (pc + 3) ls rest)) : W p l e R s m args below meth c H locs cells slots Q (F0 m pc ls (.long v :: .ref (ad 18) :: rest)) := u_put (C := RX4) (T := TX4) (N := 4) (ty := .long) 4 18 (pJ z 18 3 v) X hP hS rfl rfl hin_X4 tyX4 tyX4_ok nmX4 3 (Nat.le_of_ble_eq_true rfl) (tb_c1 (w := Cond.fieldLink "TillPairs$Odds" 23 "TillPairs$Odds" "below" "J") 129 rfl rfl) rfl rfl (by decide +kernel) rfl rfl (Nat.le_of_ble_eq_true rfl) rfl d k
set_option maxRecDepth 20000 in
theorem pf_X5_21_26 {v : Int32} (X : UC p s m args meth c cc nL RX5 R fr lo D ad cs sd A) (hP : va_P D clss (wld cs ad z) H) (hS : va_S A s.heap H locs) (d : decode cc pc = .ok (.putfield 21, 3)) (k : ∀ (H : Heap) (locs : List Loc), va_P D clss (wld cs ad (pI z 26 3 v)) H → va_S A s.heap H locs → W p l e R s m args below meth c H locs cells slots Q (F0 m (pc + 3) ls rest)) : W p l e R s m args below meth c H locs cells slots Q (F0 m pc ls (.int v :: .ref (ad 26) :: rest)) := u_put (C := RX5) (T := TX5) (N := 5) (ty := .int) 5 26 (pI z 26 3 v) X hP hS rfl rfl hin_X5 tyX5 tyX5_ok nmX5 3 (Nat.le_of_ble_eq_true rfl) (tb_c1 (w := Cond.fieldLink "TillPairs$Plans" 21 "TillPairs$Plans" "count" "I") 183 rfl rfl) rfl rfl (by decide +kernel) rfl rfl (Nat.le_of_ble_eq_true rfl) rfl d k
set_option maxRecDepth 20000 in
theorem pf_X5_21_52 {v : Int32} (X : UC p s m args meth c cc nL RX5 R fr lo D ad cs sd A) (hP : va_P D clss (wld cs ad z) H) (hS : va_S A s.heap H locs) (d : decode cc pc = .ok (.putfield 21, 3)) (k : ∀ (H : Heap) (locs : List Loc), va_P D clss (wld cs ad (pI z 52 3 v)) H → va_S A s.heap H locs → W p l e R s m args below meth c H locs cells slots Q (F0 m (pc + 3) ls rest)) : W p l e R s m args below meth c H locs cells slots Q (F0 m pc ls (.int v :: .ref (ad 52) :: rest)) := u_put (C := RX5) (T := TX5) (N := 5) (ty := .int) 5 52 (pI z 52 3 v) X hP hS rfl rfl hin_X5 tyX5 tyX5_ok nmX5 3 (Nat.le_of_ble_eq_true rfl) (tb_c1 (w := Cond.fieldLink "TillPairs$Plans" 21 "TillPairs$Plans" "count" "I") 183 rfl rfl) rfl rfl (by decide +kernel) rfl rfl (Nat.le_of_ble_eq_true rfl) rfl d k
set_option maxRecDepth 20000 in
theorem pf_X5_25_26 {v : Int32} (X : UC p s m args meth c cc nL RX5 R fr lo D ad cs sd A) (hP : va_P D clss (wld cs ad z) H) (hS : va_S A s.heap H locs) (d : decode cc pc = .ok (.putfield 25, 3)) (k : ∀ (H : Heap) (locs : List Loc), va_P D clss (wld cs ad (pI z 26 4 v)) H → va_S A s.heap H locs → W p l e R s m args below meth c H locs cells slots Q (F0 m (pc + 3) ls rest)) : W p l e R s m args below meth c H locs cells slots Q (F0 m pc ls (.int v :: .ref (ad 26) :: rest)) := u_put (C := RX5) (T := TX5) (N := 5) (ty := .int) 5 26 (pI z 26 4 v) X hP hS rfl rfl hin_X5 tyX5 tyX5_ok nmX5 4 (Nat.le_of_ble_eq_true rfl) (tb_c1 (w := Cond.fieldLink "TillPairs$Plans" 25 "TillPairs$Plans" "z" "I") 185 rfl rfl) rfl rfl (by decide +kernel) rfl rfl (Nat.le_of_ble_eq_true rfl) rfl d k
set_option maxRecDepth 20000 in
theorem pf_X5_25_52 {v : Int32} (X : UC p s m args meth c cc nL RX5 R fr lo D ad cs sd A) (hP : va_P D clss (wld cs ad z) H) (hS : va_S A s.heap H locs) (d : decode cc pc = .ok (.putfield 25, 3)) (k : ∀ (H : Heap) (locs : List Loc), va_P D clss (wld cs ad (pI z 52 4 v)) H → va_S A s.heap H locs → W p l e R s m args below meth c H locs cells slots Q (F0 m (pc + 3) ls rest)) : W p l e R s m args below meth c H locs cells slots Q (F0 m pc ls (.int v :: .ref (ad 52) :: rest)) := u_put (C := RX5) (T := TX5) (N := 5) (ty := .int) 5 52 (pI z 52 4 v) X hP hS rfl rfl hin_X5 tyX5 tyX5_ok nmX5 4 (Nat.le_of_ble_eq_true rfl) (tb_c1 (w := Cond.fieldLink "TillPairs$Plans" 25 "TillPairs$Plans" "z" "I") 185 rfl rfl) rfl rfl (by decide +kernel) rfl rfl (Nat.le_of_ble_eq_true rfl) rfl d k
set_option maxRecDepth 20000 in
theorem pf_X6_23_30 {v : Int32} (X : UC p s m args meth c cc nL RX6 R fr lo D ad cs sd A) (hP : va_P D clss (wld cs ad z) H) (hS : va_S A s.heap H locs) (d : decode cc pc = .ok (.putfield 23, 3)) (k : ∀ (H : Heap) (locs : List Loc), va_P D clss (wld cs ad (pI z 30 3 v)) H → va_S A s.heap H locs → W p l e R s m args below meth c H locs cells slots Q (F0 m (pc + 3) ls rest)) : W p l e R s m args below meth c H locs cells slots Q (F0 m pc ls (.int v :: .ref (ad 30) :: rest)) := u_put (C := RX6) (T := TX6) (N := 4) (ty := .int) 6 30 (pI z 30 3 v) X hP hS rfl rfl hin_X6 tyX6 tyX6_ok nmX6 3 (Nat.le_of_ble_eq_true rfl) (tb_c1 (w := Cond.fieldLink "TillPairs$Rows" 23 "TillPairs$Rows" "count" "I") 208 rfl rfl) rfl rfl (by decide +kernel) rfl rfl (Nat.le_of_ble_eq_true rfl) rfl d k
set_option maxRecDepth 20000 in
theorem pf_X7_22_8 {v : Int32} (X : UC p s m args meth c cc nL RX7 R fr lo D ad cs sd A) (hP : va_P D clss (wld cs ad z) H) (hS : va_S A s.heap H locs) (d : decode cc pc = .ok (.putfield 22, 3)) (k : ∀ (H : Heap) (locs : List Loc), va_P D clss (wld cs ad (pI z 8 2 v)) H → va_S A s.heap H locs → W p l e R s m args below meth c H locs cells slots Q (F0 m (pc + 3) ls rest)) : W p l e R s m args below meth c H locs cells slots Q (F0 m pc ls (.int v :: .ref (ad 8) :: rest)) := u_put (C := RX7) (T := TX7) (N := 5) (ty := .int) 7 8 (pI z 8 2 v) X hP hS rfl rfl hin_X7 tyX7 tyX7_ok nmX7 2 (Nat.le_of_ble_eq_true rfl) (tb_c1 (w := Cond.fieldLink "TillPairs$Tape" 22 "TillPairs$Tape" "length" "I") 94 rfl rfl) rfl rfl (by decide +kernel) rfl rfl (Nat.le_of_ble_eq_true rfl) rfl d k
set_option maxRecDepth 20000 in
theorem pf_X7_26_8 {v : Int32} (X : UC p s m args meth c cc nL RX7 R fr lo D ad cs sd A) (hP : va_P D clss (wld cs ad z) H) (hS : va_S A s.heap H locs) (d : decode cc pc = .ok (.putfield 26, 3)) (k : ∀ (H : Heap) (locs : List Loc), va_P D clss (wld cs ad (pI z 8 3 v)) H → va_S A s.heap H locs → W p l e R s m args below meth c H locs cells slots Q (F0 m (pc + 3) ls rest)) : W p l e R s m args below meth c H locs cells slots Q (F0 m pc ls (.int v :: .ref (ad 8) :: rest)) := u_put (C := RX7) (T := TX7) (N := 5) (ty := .int) 7 8 (pI z 8 3 v) X hP hS rfl rfl hin_X7 tyX7 tyX7_ok nmX7 3 (Nat.le_of_ble_eq_true rfl) (tb_c1 (w := Cond.fieldLink "TillPairs$Tape" 26 "TillPairs$Tape" "at" "I") 96 rfl rfl) rfl rfl (by decide +kernel) rfl rfl (Nat.le_of_ble_eq_true rfl) rfl d k
set_option maxRecDepth 20000 in
theorem pf_X7_29_8 {v : Int32} (X : UC p s m args meth c cc nL RX7 R fr lo D ad cs sd A) (hP : va_P D clss (wld cs ad z) H) (hS : va_S A s.heap H locs) (d : decode cc pc = .ok (.putfield 29, 3)) (k : ∀ (H : Heap) (locs : List Loc), va_P D clss (wld cs ad (pI z 8 4 v)) H → va_S A s.heap H locs → W p l e R s m args below meth c H locs cells slots Q (F0 m (pc + 3) ls rest)) : W p l e R s m args below meth c H locs cells slots Q (F0 m pc ls (.int v :: .ref (ad 8) :: rest)) := u_put (C := RX7) (T := TX7) (N := 5) (ty := .int) 7 8 (pI z 8 4 v) X hP hS rfl rfl hin_X7 tyX7 tyX7_ok nmX7 4 (Nat.le_of_ble_eq_true rfl) (tb_c1 (w := Cond.fieldLink "TillPairs$Tape" 29 "TillPairs$Tape" "fault" "I") 97 rfl rfl) rfl rfl (by decide +kernel) rfl rfl (Nat.le_of_ble_eq_true rfl) rfl d k
set_option maxRecDepth 20000 in
theorem pf_X8_31_19 {v : Int32} (X : UC p s m args meth c cc nL RX8 R fr lo D ad cs sd A) (hP : va_P D clss (wld cs ad z) H) (hS : va_S A s.heap H locs) (d : decode cc pc = .ok (.putfield 31, 3)) (k : ∀ (H : Heap) (locs : List Loc), va_P D clss (wld cs ad (pI z 19 5 v)) H → va_S A s.heap H locs → W p l e R s m args below meth c H locs cells slots Q (F0 m (pc + 3) ls rest)) : W p l e R s m args below meth c H locs cells slots Q (F0 m pc ls (.int v :: .ref (ad 19) :: rest)) := u_put (C := RX8) (T := TX8) (N := 7) (ty := .int) 8 19 (pI z 19 5 v) X hP hS rfl rfl hin_X8 tyX8 tyX8_ok nmX8 5 (Nat.le_of_ble_eq_true rfl) (tb_c1 (w := Cond.fieldLink "TillPairs$Ways" 31 "TillPairs$Ways" "changes" "I") 153 rfl rfl) rfl rfl (by decide +kernel) rfl rfl (Nat.le_of_ble_eq_true rfl) rfl d k
set_option maxRecDepth 20000 in
theorem pf_X8_35_19 {v : Int32} (X : UC p s m args meth c cc nL RX8 R fr lo D ad cs sd A) (hP : va_P D clss (wld cs ad z) H) (hS : va_S A s.heap H locs) (d : decode cc pc = .ok (.putfield 35, 3)) (k : ∀ (H : Heap) (locs : List Loc), va_P D clss (wld cs ad (pI z 19 6 v)) H → va_S A s.heap H locs → W p l e R s m args below meth c H locs cells slots Q (F0 m (pc + 3) ls rest)) : W p l e R s m args below meth c H locs cells slots Q (F0 m pc ls (.int v :: .ref (ad 19) :: rest)) := u_put (C := RX8) (T := TX8) (N := 7) (ty := .int) 8 19 (pI z 19 6 v) X hP hS rfl rfl hin_X8 tyX8 tyX8_ok nmX8 6 (Nat.le_of_ble_eq_true rfl) (tb_c1 (w := Cond.fieldLink "TillPairs$Ways" 35 "TillPairs$Ways" "digits" "I") 155 rfl rfl) rfl rfl (by decide +kernel) rfl rfl (Nat.le_of_ble_eq_true rfl) rfl d k
set_option maxRecDepth 20000 in
theorem pf_X9_240_26 {v : Int32} (X : UC p s m args meth c cc nL RX9 R fr lo D ad cs sd A) (hP : va_P D clss (wld cs ad z) H) (hS : va_S A s.heap H locs) (d : decode cc pc = .ok (.putfield 240, 3)) (k : ∀ (H : Heap) (locs : List Loc), va_P D clss (wld cs ad (pI z 26 4 v)) H → va_S A s.heap H locs → W p l e R s m args below meth c H locs cells slots Q (F0 m (pc + 3) ls rest)) : W p l e R s m args below meth c H locs cells slots Q (F0 m pc ls (.int v :: .ref (ad 26) :: rest)) := u_putN (C := RX5) (T := TX5) (N := 5) (ty := .int) 5 26 (pI z 26 4 v) X hP hS rfl rfl hin_X5 tyX5 tyX5_ok nmX5 4 (Nat.le_of_ble_eq_true rfl) (nw_c1 (w := Cond.fieldLinkNest "TillPairs" 240 "TillPairs$Plans" "z" "I" "TillPairs") 186 rfl rfl) rfl rfl (by decide +kernel) rfl rfl (Nat.le_of_ble_eq_true rfl) rfl d k
set_option maxRecDepth 20000 in
theorem pf_X9_82_0 {v : Int32} (X : UC p s m args meth c cc nL RX9 R fr lo D ad cs sd A) (hP : va_P D clss (wld cs ad z) H) (hS : va_S A s.heap H locs) (hb : v = 0 ∨ v = 1) (d : decode cc pc = .ok (.putfield 82, 3)) (k : ∀ (H : Heap) (locs : List Loc), va_P D clss (wld cs ad (pI z 0 11 v)) H → va_S A s.heap H locs → W p l e R s m args below meth c H locs cells slots Q (F0 m (pc + 3) ls rest)) : W p l e R s m args below meth c H locs cells slots Q (F0 m pc ls (.int v :: .ref (ad 0) :: rest)) := u_put (C := RX9) (T := TX9) (N := 12) (ty := .boolean) 9 0 (pI z 0 11 v) X hP hS rfl rfl hin_X9 tyX9 tyX9_ok nmX9 11 (Nat.le_of_ble_eq_true rfl) (tb_c2 (w := Cond.fieldLink "TillPairs" 82 "TillPairs" "kept" "Z") 49 rfl rfl) rfl rfl (by decide +kernel) (by rcases hb with h | h <;> subst h <;> rfl) (by rcases hb with h | h <;> subst h <;> rfl) (Nat.le_of_ble_eq_true rfl) rfl d k
set_option maxRecDepth 20000 in
theorem gs_X0_32 (X : UC p s m args meth c cc nL RX0 R fr lo D ad cs sd A) (hS : va_S A s.heap H locs) (d : decode cc pc = .ok (.getstatic 32, 3)) (k : W p l e R s m args below meth c H locs cells slots Q (F0 m (pc + 3) ls (.ref (sd 2) :: rest))) : W p l e R s m args below meth c H locs cells slots Q (F0 m pc ls rest) := u_gets2 X hS d (tb_of 1063 (by decide +kernel) rfl) k
set_option maxRecDepth 20000 in
theorem gs_X0_43 (X : UC p s m args meth c cc nL RX0 R fr lo D ad cs sd A) (hS : va_S A s.heap H locs) (d : decode cc pc = .ok (.getstatic 43, 3)) (k : W p l e R s m args below meth c H locs cells slots Q (F0 m (pc + 3) ls (.ref (sd 3) :: rest))) : W p l e R s m args below meth c H locs cells slots Q (F0 m pc ls rest) := u_gets3 X hS d (tb_of 1080 (by decide +kernel) rfl) k
set_option maxRecDepth 20000 in
theorem gs_X7_135 (X : UC p s m args meth c cc nL RX7 R fr lo D ad cs sd A) (hS : va_S A s.heap H locs) (d : decode cc pc = .ok (.getstatic 135, 3)) (k : W p l e R s m args below meth c H locs cells slots Q (F0 m (pc + 3) ls (.ref (sd 1) :: rest))) : W p l e R s m args below meth c H locs cells slots Q (F0 m pc ls rest) := u_getsN1 (host := "TillPairs") X hS d (nw_of 473 (by decide +kernel) rfl) k
set_option maxRecDepth 20000 in
theorem gs_X9_134 (X : UC p s m args meth c cc nL RX9 R fr lo D ad cs sd A) (hS : va_S A s.heap H locs) (d : decode cc pc = .ok (.getstatic 134, 3)) (k : W p l e R s m args below meth c H locs cells slots Q (F0 m (pc + 3) ls (.ref (sd 1) :: rest))) : W p l e R s m args below meth c H locs cells slots Q (F0 m pc ls rest) := u_getsN1 (host := "TillPairs") X hS d (nw_of 524 (by decide +kernel) rfl) k
set_option maxRecDepth 20000 in
theorem cp_X2_40 {a0 a1 i0 i1 n0 n1 N : Nat} {f g : Nat → Int32} {n : Int32} {z : MS} (z1 : MS) {lv : List (Nat × Value)} (X : UC p s m args meth c cc nL RX2 R fr lo D ad cs sd A) (hP : va_P D clss (wld cs ad z) H) (hS : va_S A s.heap H locs) (hl : lv_has ls nL lv) (d : decode cc pc = .ok (.invokestatic 40, 3)) (he0 : (wld cs ad z)[i0]? = some (a0, .inl (cs 0, n0, .inl f))) (he1 : (wld cs ad z)[i1]? = some (a1, .inl (cs 0, n1, .inl g))) (hn : ¬ n < 0) (hN : n.toNatClampNeg = N) (h4 : Nat.ble N n0 = true) (h5 : Nat.ble N n1 = true) (hz : (wld cs ad z).set i1 (a1, .inl (cs 0, n1, .inl (va_cpy f g 0 0 N))) = wld cs ad z1) (hW : Nat.ble (rest.map fun v => v.category).sum 8 = true) (hR : Nat.ble 1 fr = true ∧ Nat.ble 26 lo = true) (k : ∀ (H : Heap) (locs : List Loc), va_P D clss (wld cs ad z1) H → va_S A s.heap H locs → W p l e R s m args below meth c H locs 0 0 Q (F0 m (pc + 3) ls rest)) : W p l e R s m args below meth c H locs 0 0 Q (F0 m pc ls (.int n :: .int 0 :: .ref a1 :: .int 0 :: .ref a0 :: rest)) := u_copy z1 X hP hS hl d (tb_c1 36 rfl rfl) (tb_c1 38 rfl rfl) (tb_c1 37 rfl rfl) (tb_c1 3 rfl rfl) he0 he1 hn hN h4 h5 hz hW hR k
set_option maxRecDepth 20000 in
theorem cp_X5_28 {a0 a1 i0 i1 n0 n1 N : Nat} {f g : Nat → Int32} {n : Int32} {z : MS} (z1 : MS) {lv : List (Nat × Value)} (X : UC p s m args meth c cc nL RX5 R fr lo D ad cs sd A) (hP : va_P D clss (wld cs ad z) H) (hS : va_S A s.heap H locs) (hl : lv_has ls nL lv) (d : decode cc pc = .ok (.invokestatic 28, 3)) (he0 : (wld cs ad z)[i0]? = some (a0, .inl (cs 0, n0, .inl f))) (he1 : (wld cs ad z)[i1]? = some (a1, .inl (cs 0, n1, .inl g))) (hn : ¬ n < 0) (hN : n.toNatClampNeg = N) (h4 : Nat.ble N n0 = true) (h5 : Nat.ble N n1 = true) (hz : (wld cs ad z).set i1 (a1, .inl (cs 0, n1, .inl (va_cpy f g 0 0 N))) = wld cs ad z1) (hW : Nat.ble (rest.map fun v => v.category).sum 8 = true) (hR : Nat.ble 1 fr = true ∧ Nat.ble 26 lo = true) (k : ∀ (H : Heap) (locs : List Loc), va_P D clss (wld cs ad z1) H → va_S A s.heap H locs → W p l e R s m args below meth c H locs 0 0 Q (F0 m (pc + 3) ls rest)) : W p l e R s m args below meth c H locs 0 0 Q (F0 m pc ls (.int n :: .int 0 :: .ref a1 :: .int 0 :: .ref a0 :: rest)) := u_copy z1 X hP hS hl d (tb_c5 68 rfl rfl) (tb_c1 38 rfl rfl) (tb_c1 37 rfl rfl) (tb_c1 3 rfl rfl) he0 he1 hn hN h4 h5 hz hW hR k
set_option maxRecDepth 20000 in
theorem mw_X3_29 {x y : Int32} {lv : List (Nat × Value)} (X : UC p s m args meth c cc nL RX3 R fr lo D ad cs sd A) (hl : lv_has ls nL lv) (d : decode cc pc = .ok (.invokestatic 29, 3)) (hW : Nat.ble (rest.map fun v => v.category).sum 8 = true) (hR : Nat.ble 1 fr = true ∧ Nat.ble 23 lo = true) (k : W p l e R s m args below meth c H locs 0 0 Q (F0 m (pc + 3) ls (.int (mnI x y) :: rest))) : W p l e R s m args below meth c H locs 0 0 Q (F0 m pc ls (.int y :: .int x :: rest)) := u_mmin X hl d (tb_c3 101 rfl rfl) (tb_c2 179 rfl rfl) (tb_c1 18 rfl rfl) (tb_c2 180 rfl rfl) hW hR k
set_option maxRecDepth 20000 in
theorem mw_X3_38 {x y : Int32} {lv : List (Nat × Value)} (X : UC p s m args meth c cc nL RX3 R fr lo D ad cs sd A) (hl : lv_has ls nL lv) (d : decode cc pc = .ok (.invokestatic 38, 3)) (hW : Nat.ble (rest.map fun v => v.category).sum 8 = true) (hR : Nat.ble 1 fr = true ∧ Nat.ble 23 lo = true) (k : W p l e R s m args below meth c H locs 0 0 Q (F0 m (pc + 3) ls (.int (mxI x y) :: rest))) : W p l e R s m args below meth c H locs 0 0 Q (F0 m pc ls (.int y :: .int x :: rest)) := u_mmax X hl d (tb_c3 102 rfl rfl) (tb_c3 103 rfl rfl) (tb_c1 18 rfl rfl) (tb_c3 104 rfl rfl) hW hR k
set_option maxRecDepth 20000 in
theorem mw_X4_47 {x y : Int64} {lv : List (Nat × Value)} (X : UC p s m args meth c cc nL RX4 R fr lo D ad cs sd A) (hl : lv_has ls nL lv) (d : decode cc pc = .ok (.invokestatic 47, 3)) (hW : Nat.ble (rest.map fun v => v.category).sum 8 = true) (hR : Nat.ble 1 fr = true ∧ Nat.ble 23 lo = true) (k : W p l e R s m args below meth c H locs 0 0 Q (F0 m (pc + 3) ls (.long (mxJ x y) :: rest))) : W p l e R s m args below meth c H locs 0 0 Q (F0 m pc ls (.long y :: .long x :: rest)) := u_mmaxl X hl d (tb_c3 170 rfl rfl) (tb_c3 171 rfl rfl) (tb_c1 18 rfl rfl) (tb_c3 172 rfl rfl) hW hR k
set_option maxRecDepth 20000 in
theorem mw_X7_142 {x y : Int32} {lv : List (Nat × Value)} (X : UC p s m args meth c cc nL RX7 R fr lo D ad cs sd A) (hl : lv_has ls nL lv) (d : decode cc pc = .ok (.invokestatic 142, 3)) (hW : Nat.ble (rest.map fun v => v.category).sum 8 = true) (hR : Nat.ble 1 fr = true ∧ Nat.ble 23 lo = true) (k : W p l e R s m args below meth c H locs 0 0 Q (F0 m (pc + 3) ls (.int (mnI x y) :: rest))) : W p l e R s m args below meth c H locs 0 0 Q (F0 m pc ls (.int y :: .int x :: rest)) := u_mmin X hl d (tb_c2 178 rfl rfl) (tb_c2 179 rfl rfl) (tb_c1 18 rfl rfl) (tb_c2 180 rfl rfl) hW hR k
set_option maxRecDepth 20000 in
theorem mw_X9_313 {x y : Int32} {lv : List (Nat × Value)} (X : UC p s m args meth c cc nL RX9 R fr lo D ad cs sd A) (hl : lv_has ls nL lv) (d : decode cc pc = .ok (.invokestatic 313, 3)) (hW : Nat.ble (rest.map fun v => v.category).sum 8 = true) (hR : Nat.ble 1 fr = true ∧ Nat.ble 23 lo = true) (k : W p l e R s m args below meth c H locs 0 0 Q (F0 m (pc + 3) ls (.int (mnI x y) :: rest))) : W p l e R s m args below meth c H locs 0 0 Q (F0 m pc ls (.int y :: .int x :: rest)) := u_mmin X hl d (tb_c5 53 rfl rfl) (tb_c2 179 rfl rfl) (tb_c1 18 rfl rfl) (tb_c2 180 rfl rfl) hW hR k
theorem en_dyn22 {j : Nat} (hj : j < 3) (cs : Nat → ClassId) (ad : Nat → Nat) (z : MS) : (wld cs ad z)[22 + j]? = some (ad (22 + j), .inl (cs 0, 64, .inl (gI z (22 + j)))) := by
  rcases (show j = 0 ∨ j = 1 ∨ j = 2 by omega) with rfl | rfl | rfl <;> rfl
theorem st_dyn22 {j : Nat} (hj : j < 3) (cs : Nat → ClassId) (ad : Nat → Nat) (z : MS) (F : Nat → Int32) : (wld cs ad z).set (22 + j) (ad (22 + j), .inl (cs 0, 64, .inl F)) = wld cs ad (wI z (22 + j) F) := by
  rcases (show j = 0 ∨ j = 1 ∨ j = 2 by omega) with rfl | rfl | rfl <;> rfl
theorem ax_dyn22 {j : Nat} (hj : j < 3) (cs : Nat → ClassId) (ad : Nat → Nat) (z : MS) (F : Nat → Int32) : (wld cs ad z).set (22 + j) (ad (22 + j), .inl (cs 0, 64, .inl F)) = wld cs ad (wI z (22 + j) F) := st_dyn22 hj cs ad z F
theorem en_dyn38 {j : Nat} (hj : j < 4) (cs : Nat → ClassId) (ad : Nat → Nat) (z : MS) : (wld cs ad z)[38 + j]? = some (ad (38 + j), .inl (cs 0, 40, .inl (gI z (38 + j)))) := by
  rcases (show j = 0 ∨ j = 1 ∨ j = 2 ∨ j = 3 by omega) with rfl | rfl | rfl | rfl <;> rfl
theorem st_dyn38 {j : Nat} (hj : j < 4) (cs : Nat → ClassId) (ad : Nat → Nat) (z : MS) (F : Nat → Int32) : (wld cs ad z).set (38 + j) (ad (38 + j), .inl (cs 0, 40, .inl F)) = wld cs ad (wI z (38 + j) F) := by
  rcases (show j = 0 ∨ j = 1 ∨ j = 2 ∨ j = 3 by omega) with rfl | rfl | rfl | rfl <;> rfl
theorem ax_dyn38 {j : Nat} (hj : j < 4) (cs : Nat → ClassId) (ad : Nat → Nat) (z : MS) (F : Nat → Int32) : (wld cs ad z).set (38 + j) (ad (38 + j), .inl (cs 0, 40, .inl F)) = wld cs ad (wI z (38 + j) F) := st_dyn38 hj cs ad z F
theorem ax_2 (cs : Nat → ClassId) (ad : Nat → Nat) (z : MS) (F : Nat → Int32) : (wld cs ad z).set 2 (ad 2, .inl (cs 0, 8, .inl F)) = wld cs ad (wI z 2 F) := rfl
theorem ax_3 (cs : Nat → ClassId) (ad : Nat → Nat) (z : MS) (F : Nat → Int32) : (wld cs ad z).set 3 (ad 3, .inl (cs 0, 8, .inl F)) = wld cs ad (wI z 3 F) := rfl
theorem ax_4 (cs : Nat → ClassId) (ad : Nat → Nat) (z : MS) (F : Nat → Int32) : (wld cs ad z).set 4 (ad 4, .inl (cs 0, 64, .inl F)) = wld cs ad (wI z 4 F) := rfl
theorem ax_5 (cs : Nat → ClassId) (ad : Nat → Nat) (z : MS) (F : Nat → Int32) : (wld cs ad z).set 5 (ad 5, .inl (cs 0, 8, .inl F)) = wld cs ad (wI z 5 F) := rfl
theorem ax_6 (cs : Nat → ClassId) (ad : Nat → Nat) (z : MS) (F : Nat → Int32) : (wld cs ad z).set 6 (ad 6, .inl (cs 0, 40, .inl F)) = wld cs ad (wI z 6 F) := rfl
theorem ax_7 (cs : Nat → ClassId) (ad : Nat → Nat) (z : MS) (F : Nat → Int32) : (wld cs ad z).set 7 (ad 7, .inl (cs 0, 10, .inl F)) = wld cs ad (wI z 7 F) := rfl
theorem ax_9 (cs : Nat → ClassId) (ad : Nat → Nat) (z : MS) (F : Nat → Int32) : (wld cs ad z).set 9 (ad 9, .inl (cs 0, 200, .inl F)) = wld cs ad (wI z 9 F) := rfl
theorem ax_11 (cs : Nat → ClassId) (ad : Nat → Nat) (z : MS) (F : Nat → Int32) : (wld cs ad z).set 11 (ad 11, .inl (cs 0, 8, .inl F)) = wld cs ad (wI z 11 F) := rfl
theorem ax_12 (cs : Nat → ClassId) (ad : Nat → Nat) (z : MS) (F : Nat → Int32) : (wld cs ad z).set 12 (ad 12, .inl (cs 0, 8, .inl F)) = wld cs ad (wI z 12 F) := rfl
theorem ax_13 (cs : Nat → ClassId) (ad : Nat → Nat) (z : MS) (F : Nat → Int32) : (wld cs ad z).set 13 (ad 13, .inl (cs 0, 64, .inl F)) = wld cs ad (wI z 13 F) := rfl
theorem ax_14 (cs : Nat → ClassId) (ad : Nat → Nat) (z : MS) (F : Nat → Int32) : (wld cs ad z).set 14 (ad 14, .inl (cs 0, 8, .inl F)) = wld cs ad (wI z 14 F) := rfl
theorem ax_15 (cs : Nat → ClassId) (ad : Nat → Nat) (z : MS) (F : Nat → Int32) : (wld cs ad z).set 15 (ad 15, .inl (cs 0, 40, .inl F)) = wld cs ad (wI z 15 F) := rfl
theorem ax_16 (cs : Nat → ClassId) (ad : Nat → Nat) (z : MS) (F : Nat → Int32) : (wld cs ad z).set 16 (ad 16, .inl (cs 0, 10, .inl F)) = wld cs ad (wI z 16 F) := rfl
theorem ax_20 (cs : Nat → ClassId) (ad : Nat → Nat) (z : MS) (F : Nat → Int32) : (wld cs ad z).set 20 (ad 20, .inl (cs 0, 64, .inl F)) = wld cs ad (wI z 20 F) := rfl
theorem ax_25 (cs : Nat → ClassId) (ad : Nat → Nat) (z : MS) (F : Nat → Int32) : (wld cs ad z).set 25 (ad 25, .inl (cs 0, 3, .inl F)) = wld cs ad (wI z 25 F) := rfl
theorem ax_27 (cs : Nat → ClassId) (ad : Nat → Nat) (z : MS) (F : Nat → Int32) : (wld cs ad z).set 27 (ad 27, .inl (cs 0, 4, .inl F)) = wld cs ad (wI z 27 F) := rfl
theorem ax_28 (cs : Nat → ClassId) (ad : Nat → Nat) (z : MS) (F : Nat → Int32) : (wld cs ad z).set 28 (ad 28, .inl (cs 0, 4, .inl F)) = wld cs ad (wI z 28 F) := rfl
theorem ax_29 (cs : Nat → ClassId) (ad : Nat → Nat) (z : MS) (F : Nat → Int32) : (wld cs ad z).set 29 (ad 29, .inl (cs 0, 4, .inl F)) = wld cs ad (wI z 29 F) := rfl
theorem ax_31 (cs : Nat → ClassId) (ad : Nat → Nat) (z : MS) (F : Nat → Int32) : (wld cs ad z).set 31 (ad 31, .inl (cs 0, 30, .inl F)) = wld cs ad (wI z 31 F) := rfl
theorem ax_33 (cs : Nat → ClassId) (ad : Nat → Nat) (z : MS) (F : Nat → Int32) : (wld cs ad z).set 33 (ad 33, .inl (cs 0, 30, .inl F)) = wld cs ad (wI z 33 F) := rfl
theorem ax_35 (cs : Nat → ClassId) (ad : Nat → Nat) (z : MS) (F : Nat → Int32) : (wld cs ad z).set 35 (ad 35, .inl (cs 0, 4, .inl F)) = wld cs ad (wI z 35 F) := rfl
theorem ax_36 (cs : Nat → ClassId) (ad : Nat → Nat) (z : MS) (F : Nat → Int32) : (wld cs ad z).set 36 (ad 36, .inl (cs 0, 4, .inl F)) = wld cs ad (wI z 36 F) := rfl
theorem ax_42 (cs : Nat → ClassId) (ad : Nat → Nat) (z : MS) (F : Nat → Int32) : (wld cs ad z).set 42 (ad 42, .inl (cs 0, 4, .inl F)) = wld cs ad (wI z 42 F) := rfl
theorem ax_43 (cs : Nat → ClassId) (ad : Nat → Nat) (z : MS) (F : Nat → Int32) : (wld cs ad z).set 43 (ad 43, .inl (cs 0, 4, .inl F)) = wld cs ad (wI z 43 F) := rfl
theorem ax_44 (cs : Nat → ClassId) (ad : Nat → Nat) (z : MS) (F : Nat → Int32) : (wld cs ad z).set 44 (ad 44, .inl (cs 0, 4, .inl F)) = wld cs ad (wI z 44 F) := rfl
theorem ax_46 (cs : Nat → ClassId) (ad : Nat → Nat) (z : MS) (F : Nat → Int32) : (wld cs ad z).set 46 (ad 46, .inl (cs 0, 8, .inl F)) = wld cs ad (wI z 46 F) := rfl
theorem ax_47 (cs : Nat → ClassId) (ad : Nat → Nat) (z : MS) (F : Nat → Int32) : (wld cs ad z).set 47 (ad 47, .inl (cs 0, 8, .inl F)) = wld cs ad (wI z 47 F) := rfl
theorem ax_48 (cs : Nat → ClassId) (ad : Nat → Nat) (z : MS) (F : Nat → Int32) : (wld cs ad z).set 48 (ad 48, .inl (cs 0, 64, .inl F)) = wld cs ad (wI z 48 F) := rfl
theorem ax_49 (cs : Nat → ClassId) (ad : Nat → Nat) (z : MS) (F : Nat → Int32) : (wld cs ad z).set 49 (ad 49, .inl (cs 0, 8, .inl F)) = wld cs ad (wI z 49 F) := rfl
theorem ax_50 (cs : Nat → ClassId) (ad : Nat → Nat) (z : MS) (F : Nat → Int32) : (wld cs ad z).set 50 (ad 50, .inl (cs 0, 40, .inl F)) = wld cs ad (wI z 50 F) := rfl
theorem ax_51 (cs : Nat → ClassId) (ad : Nat → Nat) (z : MS) (F : Nat → Int32) : (wld cs ad z).set 51 (ad 51, .inl (cs 0, 10, .inl F)) = wld cs ad (wI z 51 F) := rfl
theorem ax_53 (cs : Nat → ClassId) (ad : Nat → Nat) (z : MS) (F : Nat → Int32) : (wld cs ad z).set 53 (ad 53, .inl (cs 0, 4, .inl F)) = wld cs ad (wI z 53 F) := rfl
theorem ax_54 (cs : Nat → ClassId) (ad : Nat → Nat) (z : MS) (F : Nat → Int32) : (wld cs ad z).set 54 (ad 54, .inl (cs 0, 4, .inl F)) = wld cs ad (wI z 54 F) := rfl
theorem ax_57 (cs : Nat → ClassId) (ad : Nat → Nat) (z : MS) (F : Nat → Int32) : (wld cs ad z).set 57 (ad 57, .inl (cs 0, 8, .inl F)) = wld cs ad (wI z 57 F) := rfl
theorem ax_58 (cs : Nat → ClassId) (ad : Nat → Nat) (z : MS) (F : Nat → Int32) : (wld cs ad z).set 58 (ad 58, .inl (cs 0, 8, .inl F)) = wld cs ad (wI z 58 F) := rfl
theorem ax_59 (cs : Nat → ClassId) (ad : Nat → Nat) (z : MS) (F : Nat → Int32) : (wld cs ad z).set 59 (ad 59, .inl (cs 0, 64, .inl F)) = wld cs ad (wI z 59 F) := rfl
theorem ax_60 (cs : Nat → ClassId) (ad : Nat → Nat) (z : MS) (F : Nat → Int32) : (wld cs ad z).set 60 (ad 60, .inl (cs 0, 40, .inl F)) = wld cs ad (wI z 60 F) := rfl
theorem ax_61 (cs : Nat → ClassId) (ad : Nat → Nat) (z : MS) (F : Nat → Int32) : (wld cs ad z).set 61 (ad 61, .inl (cs 0, 10, .inl F)) = wld cs ad (wI z 61 F) := rfl
theorem ax_62 (cs : Nat → ClassId) (ad : Nat → Nat) (z : MS) (F : Nat → Int32) : (wld cs ad z).set 62 (ad 62, .inl (cs 0, 8, .inl F)) = wld cs ad (wI z 62 F) := rfl
theorem ax_63 (cs : Nat → ClassId) (ad : Nat → Nat) (z : MS) (F : Nat → Int32) : (wld cs ad z).set 63 (ad 63, .inl (cs 0, 8, .inl F)) = wld cs ad (wI z 63 F) := rfl
theorem ax_64 (cs : Nat → ClassId) (ad : Nat → Nat) (z : MS) (F : Nat → Int32) : (wld cs ad z).set 64 (ad 64, .inl (cs 0, 8, .inl F)) = wld cs ad (wI z 64 F) := rfl
theorem ax_65 (cs : Nat → ClassId) (ad : Nat → Nat) (z : MS) (F : Nat → Int32) : (wld cs ad z).set 65 (ad 65, .inl (cs 0, 200, .inl F)) = wld cs ad (wI z 65 F) := rfl
theorem ax_66 (cs : Nat → ClassId) (ad : Nat → Nat) (z : MS) (F : Nat → Int32) : (wld cs ad z).set 66 (ad 66, .inl (cs 0, 8, .inl F)) = wld cs ad (wI z 66 F) := rfl
theorem ax_67 (cs : Nat → ClassId) (ad : Nat → Nat) (z : MS) (F : Nat → Int32) : (wld cs ad z).set 67 (ad 67, .inl (cs 0, 8, .inl F)) = wld cs ad (wI z 67 F) := rfl
theorem ax_68 (cs : Nat → ClassId) (ad : Nat → Nat) (z : MS) (F : Nat → Int32) : (wld cs ad z).set 68 (ad 68, .inl (cs 0, 64, .inl F)) = wld cs ad (wI z 68 F) := rfl
theorem ax_69 (cs : Nat → ClassId) (ad : Nat → Nat) (z : MS) (F : Nat → Int32) : (wld cs ad z).set 69 (ad 69, .inl (cs 0, 8, .inl F)) = wld cs ad (wI z 69 F) := rfl
theorem ax_70 (cs : Nat → ClassId) (ad : Nat → Nat) (z : MS) (F : Nat → Int32) : (wld cs ad z).set 70 (ad 70, .inl (cs 0, 12, .inl F)) = wld cs ad (wI z 70 F) := rfl
theorem ax_71 (cs : Nat → ClassId) (ad : Nat → Nat) (z : MS) (F : Nat → Int32) : (wld cs ad z).set 71 (ad 71, .inl (cs 0, 4, .inl F)) = wld cs ad (wI z 71 F) := rfl
theorem ax_72 (cs : Nat → ClassId) (ad : Nat → Nat) (z : MS) (F : Nat → Int32) : (wld cs ad z).set 72 (ad 72, .inl (cs 0, 3, .inl F)) = wld cs ad (wI z 72 F) := rfl
theorem ax_73 (cs : Nat → ClassId) (ad : Nat → Nat) (z : MS) (F : Nat → Int64) : (wld cs ad z).set 73 (ad 73, .inl (cs 1, 11, .inr (.inl F))) = wld cs ad (wJ z 73 F) := rfl
theorem ax_74 (cs : Nat → ClassId) (ad : Nat → Nat) (z : MS) (F : Nat → Int32) : (wld cs ad z).set 74 (ad 74, .inl (cs 0, 4, .inl F)) = wld cs ad (wI z 74 F) := rfl
theorem ax_75 (cs : Nat → ClassId) (ad : Nat → Nat) (z : MS) (F : Nat → Int32) : (wld cs ad z).set 75 (ad 75, .inl (cs 0, 30, .inl F)) = wld cs ad (wI z 75 F) := rfl
theorem ax_76 (cs : Nat → ClassId) (ad : Nat → Nat) (z : MS) (F : Nat → Int32) : (wld cs ad z).set 76 (ad 76, .inl (cs 0, 30, .inl F)) = wld cs ad (wI z 76 F) := rfl
theorem ax_77 (cs : Nat → ClassId) (ad : Nat → Nat) (z : MS) (F : Nat → Int32) : (wld cs ad z).set 77 (ad 77, .inl (cs 0, 4, .inl F)) = wld cs ad (wI z 77 F) := rfl
theorem ax_78 (cs : Nat → ClassId) (ad : Nat → Nat) (z : MS) (F : Nat → Int32) : (wld cs ad z).set 78 (ad 78, .inl (cs 0, 4, .inl F)) = wld cs ad (wI z 78 F) := rfl
theorem ax_79 (cs : Nat → ClassId) (ad : Nat → Nat) (z : MS) (F : Nat → Int64) : (wld cs ad z).set 79 (ad 79, .inl (cs 1, 160, .inr (.inl F))) = wld cs ad (wJ z 79 F) := rfl
theorem ax_80 (cs : Nat → ClassId) (ad : Nat → Nat) (z : MS) (F : Nat → Int32) : (wld cs ad z).set 80 (ad 80, .inl (cs 0, 4, .inl F)) = wld cs ad (wI z 80 F) := rfl
theorem ax_81 (cs : Nat → ClassId) (ad : Nat → Nat) (z : MS) (F : Nat → Int32) : (wld cs ad z).set 81 (ad 81, .inl (cs 0, 4, .inl F)) = wld cs ad (wI z 81 F) := rfl
theorem ax_82 (cs : Nat → ClassId) (ad : Nat → Nat) (z : MS) (F : Nat → Int32) : (wld cs ad z).set 82 (ad 82, .inl (cs 0, 4, .inl F)) = wld cs ad (wI z 82 F) := rfl
theorem ax_83 (cs : Nat → ClassId) (ad : Nat → Nat) (z : MS) (F : Nat → Int32) : (wld cs ad z).set 83 (ad 83, .inl (cs 0, 30, .inl F)) = wld cs ad (wI z 83 F) := rfl
theorem ax_84 (cs : Nat → ClassId) (ad : Nat → Nat) (z : MS) (F : Nat → Int32) : (wld cs ad z).set 84 (ad 84, .inl (cs 0, 200, .inl F)) = wld cs ad (wI z 84 F) := rfl
theorem ax_85 (cs : Nat → ClassId) (ad : Nat → Nat) (z : MS) (F : Nat → Int32) : (wld cs ad z).set 85 (ad 85, .inl (cs 0, 4, .inl F)) = wld cs ad (wI z 85 F) := rfl
theorem ld_11 {i : Int32} {w : Nat} (X : UC p s m args meth c cc nL own R fr lo D ad cs sd A) (hP : va_P D clss (wld cs ad z) H) (hw : i.toNatClampNeg = w) (hin : ¬ (i < 0 ∨ 8 ≤ i.toNatClampNeg)) (d : decode cc pc = .ok (.iaload, 1)) (k : W p l e R s m args below meth c H locs cells slots Q (F0 m (pc + 1) ls (.int (gI z 11 w) :: rest))) : W p l e R s m args below meth c H locs cells slots Q (F0 m pc ls (.int i :: .ref (ad 11) :: rest)) := by
  subst hw
  exact u_iald (i0 := 11) X hP rfl hin d k
theorem ld_12 {i : Int32} {w : Nat} (X : UC p s m args meth c cc nL own R fr lo D ad cs sd A) (hP : va_P D clss (wld cs ad z) H) (hw : i.toNatClampNeg = w) (hin : ¬ (i < 0 ∨ 8 ≤ i.toNatClampNeg)) (d : decode cc pc = .ok (.iaload, 1)) (k : W p l e R s m args below meth c H locs cells slots Q (F0 m (pc + 1) ls (.int (gI z 12 w) :: rest))) : W p l e R s m args below meth c H locs cells slots Q (F0 m pc ls (.int i :: .ref (ad 12) :: rest)) := by
  subst hw
  exact u_iald (i0 := 12) X hP rfl hin d k
theorem ld_2 {i : Int32} {w : Nat} (X : UC p s m args meth c cc nL own R fr lo D ad cs sd A) (hP : va_P D clss (wld cs ad z) H) (hw : i.toNatClampNeg = w) (hin : ¬ (i < 0 ∨ 8 ≤ i.toNatClampNeg)) (d : decode cc pc = .ok (.iaload, 1)) (k : W p l e R s m args below meth c H locs cells slots Q (F0 m (pc + 1) ls (.int (gI z 2 w) :: rest))) : W p l e R s m args below meth c H locs cells slots Q (F0 m pc ls (.int i :: .ref (ad 2) :: rest)) := by
  subst hw
  exact u_iald (i0 := 2) X hP rfl hin d k
theorem ld_20 {i : Int32} {w : Nat} (X : UC p s m args meth c cc nL own R fr lo D ad cs sd A) (hP : va_P D clss (wld cs ad z) H) (hw : i.toNatClampNeg = w) (hin : ¬ (i < 0 ∨ 64 ≤ i.toNatClampNeg)) (d : decode cc pc = .ok (.iaload, 1)) (k : W p l e R s m args below meth c H locs cells slots Q (F0 m (pc + 1) ls (.int (gI z 20 w) :: rest))) : W p l e R s m args below meth c H locs cells slots Q (F0 m pc ls (.int i :: .ref (ad 20) :: rest)) := by
  subst hw
  exact u_iald (i0 := 20) X hP rfl hin d k
theorem ld_25 {i : Int32} {w : Nat} (X : UC p s m args meth c cc nL own R fr lo D ad cs sd A) (hP : va_P D clss (wld cs ad z) H) (hw : i.toNatClampNeg = w) (hin : ¬ (i < 0 ∨ 3 ≤ i.toNatClampNeg)) (d : decode cc pc = .ok (.iaload, 1)) (k : W p l e R s m args below meth c H locs cells slots Q (F0 m (pc + 1) ls (.int (gI z 25 w) :: rest))) : W p l e R s m args below meth c H locs cells slots Q (F0 m pc ls (.int i :: .ref (ad 25) :: rest)) := by
  subst hw
  exact u_iald (i0 := 25) X hP rfl hin d k
theorem ld_27 {i : Int32} {w : Nat} (X : UC p s m args meth c cc nL own R fr lo D ad cs sd A) (hP : va_P D clss (wld cs ad z) H) (hw : i.toNatClampNeg = w) (hin : ¬ (i < 0 ∨ 4 ≤ i.toNatClampNeg)) (d : decode cc pc = .ok (.iaload, 1)) (k : W p l e R s m args below meth c H locs cells slots Q (F0 m (pc + 1) ls (.int (gI z 27 w) :: rest))) : W p l e R s m args below meth c H locs cells slots Q (F0 m pc ls (.int i :: .ref (ad 27) :: rest)) := by
  subst hw
  exact u_iald (i0 := 27) X hP rfl hin d k
theorem ld_28 {i : Int32} {w : Nat} (X : UC p s m args meth c cc nL own R fr lo D ad cs sd A) (hP : va_P D clss (wld cs ad z) H) (hw : i.toNatClampNeg = w) (hin : ¬ (i < 0 ∨ 4 ≤ i.toNatClampNeg)) (d : decode cc pc = .ok (.iaload, 1)) (k : W p l e R s m args below meth c H locs cells slots Q (F0 m (pc + 1) ls (.int (gI z 28 w) :: rest))) : W p l e R s m args below meth c H locs cells slots Q (F0 m pc ls (.int i :: .ref (ad 28) :: rest)) := by
  subst hw
  exact u_iald (i0 := 28) X hP rfl hin d k
theorem ld_29 {i : Int32} {w : Nat} (X : UC p s m args meth c cc nL own R fr lo D ad cs sd A) (hP : va_P D clss (wld cs ad z) H) (hw : i.toNatClampNeg = w) (hin : ¬ (i < 0 ∨ 4 ≤ i.toNatClampNeg)) (d : decode cc pc = .ok (.iaload, 1)) (k : W p l e R s m args below meth c H locs cells slots Q (F0 m (pc + 1) ls (.int (gI z 29 w) :: rest))) : W p l e R s m args below meth c H locs cells slots Q (F0 m pc ls (.int i :: .ref (ad 29) :: rest)) := by
  subst hw
  exact u_iald (i0 := 29) X hP rfl hin d k
theorem ld_3 {i : Int32} {w : Nat} (X : UC p s m args meth c cc nL own R fr lo D ad cs sd A) (hP : va_P D clss (wld cs ad z) H) (hw : i.toNatClampNeg = w) (hin : ¬ (i < 0 ∨ 8 ≤ i.toNatClampNeg)) (d : decode cc pc = .ok (.iaload, 1)) (k : W p l e R s m args below meth c H locs cells slots Q (F0 m (pc + 1) ls (.int (gI z 3 w) :: rest))) : W p l e R s m args below meth c H locs cells slots Q (F0 m pc ls (.int i :: .ref (ad 3) :: rest)) := by
  subst hw
  exact u_iald (i0 := 3) X hP rfl hin d k
theorem ld_31 {i : Int32} {w : Nat} (X : UC p s m args meth c cc nL own R fr lo D ad cs sd A) (hP : va_P D clss (wld cs ad z) H) (hw : i.toNatClampNeg = w) (hin : ¬ (i < 0 ∨ 30 ≤ i.toNatClampNeg)) (d : decode cc pc = .ok (.iaload, 1)) (k : W p l e R s m args below meth c H locs cells slots Q (F0 m (pc + 1) ls (.int (gI z 31 w) :: rest))) : W p l e R s m args below meth c H locs cells slots Q (F0 m pc ls (.int i :: .ref (ad 31) :: rest)) := by
  subst hw
  exact u_iald (i0 := 31) X hP rfl hin d k
theorem ld_33 {i : Int32} {w : Nat} (X : UC p s m args meth c cc nL own R fr lo D ad cs sd A) (hP : va_P D clss (wld cs ad z) H) (hw : i.toNatClampNeg = w) (hin : ¬ (i < 0 ∨ 30 ≤ i.toNatClampNeg)) (d : decode cc pc = .ok (.iaload, 1)) (k : W p l e R s m args below meth c H locs cells slots Q (F0 m (pc + 1) ls (.int (gI z 33 w) :: rest))) : W p l e R s m args below meth c H locs cells slots Q (F0 m pc ls (.int i :: .ref (ad 33) :: rest)) := by
  subst hw
  exact u_iald (i0 := 33) X hP rfl hin d k
theorem ld_35 {i : Int32} {w : Nat} (X : UC p s m args meth c cc nL own R fr lo D ad cs sd A) (hP : va_P D clss (wld cs ad z) H) (hw : i.toNatClampNeg = w) (hin : ¬ (i < 0 ∨ 4 ≤ i.toNatClampNeg)) (d : decode cc pc = .ok (.iaload, 1)) (k : W p l e R s m args below meth c H locs cells slots Q (F0 m (pc + 1) ls (.int (gI z 35 w) :: rest))) : W p l e R s m args below meth c H locs cells slots Q (F0 m pc ls (.int i :: .ref (ad 35) :: rest)) := by
  subst hw
  exact u_iald (i0 := 35) X hP rfl hin d k
theorem ld_36 {i : Int32} {w : Nat} (X : UC p s m args meth c cc nL own R fr lo D ad cs sd A) (hP : va_P D clss (wld cs ad z) H) (hw : i.toNatClampNeg = w) (hin : ¬ (i < 0 ∨ 4 ≤ i.toNatClampNeg)) (d : decode cc pc = .ok (.iaload, 1)) (k : W p l e R s m args below meth c H locs cells slots Q (F0 m (pc + 1) ls (.int (gI z 36 w) :: rest))) : W p l e R s m args below meth c H locs cells slots Q (F0 m pc ls (.int i :: .ref (ad 36) :: rest)) := by
  subst hw
  exact u_iald (i0 := 36) X hP rfl hin d k
theorem ld_4 {i : Int32} {w : Nat} (X : UC p s m args meth c cc nL own R fr lo D ad cs sd A) (hP : va_P D clss (wld cs ad z) H) (hw : i.toNatClampNeg = w) (hin : ¬ (i < 0 ∨ 64 ≤ i.toNatClampNeg)) (d : decode cc pc = .ok (.iaload, 1)) (k : W p l e R s m args below meth c H locs cells slots Q (F0 m (pc + 1) ls (.int (gI z 4 w) :: rest))) : W p l e R s m args below meth c H locs cells slots Q (F0 m pc ls (.int i :: .ref (ad 4) :: rest)) := by
  subst hw
  exact u_iald (i0 := 4) X hP rfl hin d k
theorem ld_42 {i : Int32} {w : Nat} (X : UC p s m args meth c cc nL own R fr lo D ad cs sd A) (hP : va_P D clss (wld cs ad z) H) (hw : i.toNatClampNeg = w) (hin : ¬ (i < 0 ∨ 4 ≤ i.toNatClampNeg)) (d : decode cc pc = .ok (.iaload, 1)) (k : W p l e R s m args below meth c H locs cells slots Q (F0 m (pc + 1) ls (.int (gI z 42 w) :: rest))) : W p l e R s m args below meth c H locs cells slots Q (F0 m pc ls (.int i :: .ref (ad 42) :: rest)) := by
  subst hw
  exact u_iald (i0 := 42) X hP rfl hin d k
theorem ld_43 {i : Int32} {w : Nat} (X : UC p s m args meth c cc nL own R fr lo D ad cs sd A) (hP : va_P D clss (wld cs ad z) H) (hw : i.toNatClampNeg = w) (hin : ¬ (i < 0 ∨ 4 ≤ i.toNatClampNeg)) (d : decode cc pc = .ok (.iaload, 1)) (k : W p l e R s m args below meth c H locs cells slots Q (F0 m (pc + 1) ls (.int (gI z 43 w) :: rest))) : W p l e R s m args below meth c H locs cells slots Q (F0 m pc ls (.int i :: .ref (ad 43) :: rest)) := by
  subst hw
  exact u_iald (i0 := 43) X hP rfl hin d k
theorem ld_44 {i : Int32} {w : Nat} (X : UC p s m args meth c cc nL own R fr lo D ad cs sd A) (hP : va_P D clss (wld cs ad z) H) (hw : i.toNatClampNeg = w) (hin : ¬ (i < 0 ∨ 4 ≤ i.toNatClampNeg)) (d : decode cc pc = .ok (.iaload, 1)) (k : W p l e R s m args below meth c H locs cells slots Q (F0 m (pc + 1) ls (.int (gI z 44 w) :: rest))) : W p l e R s m args below meth c H locs cells slots Q (F0 m pc ls (.int i :: .ref (ad 44) :: rest)) := by
  subst hw
  exact u_iald (i0 := 44) X hP rfl hin d k
theorem ld_5 {i : Int32} {w : Nat} (X : UC p s m args meth c cc nL own R fr lo D ad cs sd A) (hP : va_P D clss (wld cs ad z) H) (hw : i.toNatClampNeg = w) (hin : ¬ (i < 0 ∨ 8 ≤ i.toNatClampNeg)) (d : decode cc pc = .ok (.iaload, 1)) (k : W p l e R s m args below meth c H locs cells slots Q (F0 m (pc + 1) ls (.int (gI z 5 w) :: rest))) : W p l e R s m args below meth c H locs cells slots Q (F0 m pc ls (.int i :: .ref (ad 5) :: rest)) := by
  subst hw
  exact u_iald (i0 := 5) X hP rfl hin d k
theorem ld_57 {i : Int32} {w : Nat} (X : UC p s m args meth c cc nL own R fr lo D ad cs sd A) (hP : va_P D clss (wld cs ad z) H) (hw : i.toNatClampNeg = w) (hin : ¬ (i < 0 ∨ 8 ≤ i.toNatClampNeg)) (d : decode cc pc = .ok (.iaload, 1)) (k : W p l e R s m args below meth c H locs cells slots Q (F0 m (pc + 1) ls (.int (gI z 57 w) :: rest))) : W p l e R s m args below meth c H locs cells slots Q (F0 m pc ls (.int i :: .ref (ad 57) :: rest)) := by
  subst hw
  exact u_iald (i0 := 57) X hP rfl hin d k
theorem ld_58 {i : Int32} {w : Nat} (X : UC p s m args meth c cc nL own R fr lo D ad cs sd A) (hP : va_P D clss (wld cs ad z) H) (hw : i.toNatClampNeg = w) (hin : ¬ (i < 0 ∨ 8 ≤ i.toNatClampNeg)) (d : decode cc pc = .ok (.iaload, 1)) (k : W p l e R s m args below meth c H locs cells slots Q (F0 m (pc + 1) ls (.int (gI z 58 w) :: rest))) : W p l e R s m args below meth c H locs cells slots Q (F0 m pc ls (.int i :: .ref (ad 58) :: rest)) := by
  subst hw
  exact u_iald (i0 := 58) X hP rfl hin d k
theorem ld_59 {i : Int32} {w : Nat} (X : UC p s m args meth c cc nL own R fr lo D ad cs sd A) (hP : va_P D clss (wld cs ad z) H) (hw : i.toNatClampNeg = w) (hin : ¬ (i < 0 ∨ 64 ≤ i.toNatClampNeg)) (d : decode cc pc = .ok (.iaload, 1)) (k : W p l e R s m args below meth c H locs cells slots Q (F0 m (pc + 1) ls (.int (gI z 59 w) :: rest))) : W p l e R s m args below meth c H locs cells slots Q (F0 m pc ls (.int i :: .ref (ad 59) :: rest)) := by
  subst hw
  exact u_iald (i0 := 59) X hP rfl hin d k
theorem ld_6 {i : Int32} {w : Nat} (X : UC p s m args meth c cc nL own R fr lo D ad cs sd A) (hP : va_P D clss (wld cs ad z) H) (hw : i.toNatClampNeg = w) (hin : ¬ (i < 0 ∨ 40 ≤ i.toNatClampNeg)) (d : decode cc pc = .ok (.iaload, 1)) (k : W p l e R s m args below meth c H locs cells slots Q (F0 m (pc + 1) ls (.int (gI z 6 w) :: rest))) : W p l e R s m args below meth c H locs cells slots Q (F0 m pc ls (.int i :: .ref (ad 6) :: rest)) := by
  subst hw
  exact u_iald (i0 := 6) X hP rfl hin d k
theorem ld_60 {i : Int32} {w : Nat} (X : UC p s m args meth c cc nL own R fr lo D ad cs sd A) (hP : va_P D clss (wld cs ad z) H) (hw : i.toNatClampNeg = w) (hin : ¬ (i < 0 ∨ 40 ≤ i.toNatClampNeg)) (d : decode cc pc = .ok (.iaload, 1)) (k : W p l e R s m args below meth c H locs cells slots Q (F0 m (pc + 1) ls (.int (gI z 60 w) :: rest))) : W p l e R s m args below meth c H locs cells slots Q (F0 m pc ls (.int i :: .ref (ad 60) :: rest)) := by
  subst hw
  exact u_iald (i0 := 60) X hP rfl hin d k
theorem ld_61 {i : Int32} {w : Nat} (X : UC p s m args meth c cc nL own R fr lo D ad cs sd A) (hP : va_P D clss (wld cs ad z) H) (hw : i.toNatClampNeg = w) (hin : ¬ (i < 0 ∨ 10 ≤ i.toNatClampNeg)) (d : decode cc pc = .ok (.iaload, 1)) (k : W p l e R s m args below meth c H locs cells slots Q (F0 m (pc + 1) ls (.int (gI z 61 w) :: rest))) : W p l e R s m args below meth c H locs cells slots Q (F0 m pc ls (.int i :: .ref (ad 61) :: rest)) := by
  subst hw
  exact u_iald (i0 := 61) X hP rfl hin d k
theorem ld_62 {i : Int32} {w : Nat} (X : UC p s m args meth c cc nL own R fr lo D ad cs sd A) (hP : va_P D clss (wld cs ad z) H) (hw : i.toNatClampNeg = w) (hin : ¬ (i < 0 ∨ 8 ≤ i.toNatClampNeg)) (d : decode cc pc = .ok (.iaload, 1)) (k : W p l e R s m args below meth c H locs cells slots Q (F0 m (pc + 1) ls (.int (gI z 62 w) :: rest))) : W p l e R s m args below meth c H locs cells slots Q (F0 m pc ls (.int i :: .ref (ad 62) :: rest)) := by
  subst hw
  exact u_iald (i0 := 62) X hP rfl hin d k
theorem ld_63 {i : Int32} {w : Nat} (X : UC p s m args meth c cc nL own R fr lo D ad cs sd A) (hP : va_P D clss (wld cs ad z) H) (hw : i.toNatClampNeg = w) (hin : ¬ (i < 0 ∨ 8 ≤ i.toNatClampNeg)) (d : decode cc pc = .ok (.iaload, 1)) (k : W p l e R s m args below meth c H locs cells slots Q (F0 m (pc + 1) ls (.int (gI z 63 w) :: rest))) : W p l e R s m args below meth c H locs cells slots Q (F0 m pc ls (.int i :: .ref (ad 63) :: rest)) := by
  subst hw
  exact u_iald (i0 := 63) X hP rfl hin d k
theorem ld_64 {i : Int32} {w : Nat} (X : UC p s m args meth c cc nL own R fr lo D ad cs sd A) (hP : va_P D clss (wld cs ad z) H) (hw : i.toNatClampNeg = w) (hin : ¬ (i < 0 ∨ 8 ≤ i.toNatClampNeg)) (d : decode cc pc = .ok (.iaload, 1)) (k : W p l e R s m args below meth c H locs cells slots Q (F0 m (pc + 1) ls (.int (gI z 64 w) :: rest))) : W p l e R s m args below meth c H locs cells slots Q (F0 m pc ls (.int i :: .ref (ad 64) :: rest)) := by
  subst hw
  exact u_iald (i0 := 64) X hP rfl hin d k
theorem ld_65 {i : Int32} {w : Nat} (X : UC p s m args meth c cc nL own R fr lo D ad cs sd A) (hP : va_P D clss (wld cs ad z) H) (hw : i.toNatClampNeg = w) (hin : ¬ (i < 0 ∨ 200 ≤ i.toNatClampNeg)) (d : decode cc pc = .ok (.iaload, 1)) (k : W p l e R s m args below meth c H locs cells slots Q (F0 m (pc + 1) ls (.int (gI z 65 w) :: rest))) : W p l e R s m args below meth c H locs cells slots Q (F0 m pc ls (.int i :: .ref (ad 65) :: rest)) := by
  subst hw
  exact u_iald (i0 := 65) X hP rfl hin d k
theorem ld_66 {i : Int32} {w : Nat} (X : UC p s m args meth c cc nL own R fr lo D ad cs sd A) (hP : va_P D clss (wld cs ad z) H) (hw : i.toNatClampNeg = w) (hin : ¬ (i < 0 ∨ 8 ≤ i.toNatClampNeg)) (d : decode cc pc = .ok (.iaload, 1)) (k : W p l e R s m args below meth c H locs cells slots Q (F0 m (pc + 1) ls (.int (gI z 66 w) :: rest))) : W p l e R s m args below meth c H locs cells slots Q (F0 m pc ls (.int i :: .ref (ad 66) :: rest)) := by
  subst hw
  exact u_iald (i0 := 66) X hP rfl hin d k
theorem ld_67 {i : Int32} {w : Nat} (X : UC p s m args meth c cc nL own R fr lo D ad cs sd A) (hP : va_P D clss (wld cs ad z) H) (hw : i.toNatClampNeg = w) (hin : ¬ (i < 0 ∨ 8 ≤ i.toNatClampNeg)) (d : decode cc pc = .ok (.iaload, 1)) (k : W p l e R s m args below meth c H locs cells slots Q (F0 m (pc + 1) ls (.int (gI z 67 w) :: rest))) : W p l e R s m args below meth c H locs cells slots Q (F0 m pc ls (.int i :: .ref (ad 67) :: rest)) := by
  subst hw
  exact u_iald (i0 := 67) X hP rfl hin d k
theorem ld_68 {i : Int32} {w : Nat} (X : UC p s m args meth c cc nL own R fr lo D ad cs sd A) (hP : va_P D clss (wld cs ad z) H) (hw : i.toNatClampNeg = w) (hin : ¬ (i < 0 ∨ 64 ≤ i.toNatClampNeg)) (d : decode cc pc = .ok (.iaload, 1)) (k : W p l e R s m args below meth c H locs cells slots Q (F0 m (pc + 1) ls (.int (gI z 68 w) :: rest))) : W p l e R s m args below meth c H locs cells slots Q (F0 m pc ls (.int i :: .ref (ad 68) :: rest)) := by
  subst hw
  exact u_iald (i0 := 68) X hP rfl hin d k
theorem ld_69 {i : Int32} {w : Nat} (X : UC p s m args meth c cc nL own R fr lo D ad cs sd A) (hP : va_P D clss (wld cs ad z) H) (hw : i.toNatClampNeg = w) (hin : ¬ (i < 0 ∨ 8 ≤ i.toNatClampNeg)) (d : decode cc pc = .ok (.iaload, 1)) (k : W p l e R s m args below meth c H locs cells slots Q (F0 m (pc + 1) ls (.int (gI z 69 w) :: rest))) : W p l e R s m args below meth c H locs cells slots Q (F0 m pc ls (.int i :: .ref (ad 69) :: rest)) := by
  subst hw
  exact u_iald (i0 := 69) X hP rfl hin d k
theorem ld_7 {i : Int32} {w : Nat} (X : UC p s m args meth c cc nL own R fr lo D ad cs sd A) (hP : va_P D clss (wld cs ad z) H) (hw : i.toNatClampNeg = w) (hin : ¬ (i < 0 ∨ 10 ≤ i.toNatClampNeg)) (d : decode cc pc = .ok (.iaload, 1)) (k : W p l e R s m args below meth c H locs cells slots Q (F0 m (pc + 1) ls (.int (gI z 7 w) :: rest))) : W p l e R s m args below meth c H locs cells slots Q (F0 m pc ls (.int i :: .ref (ad 7) :: rest)) := by
  subst hw
  exact u_iald (i0 := 7) X hP rfl hin d k
theorem ld_70 {i : Int32} {w : Nat} (X : UC p s m args meth c cc nL own R fr lo D ad cs sd A) (hP : va_P D clss (wld cs ad z) H) (hw : i.toNatClampNeg = w) (hin : ¬ (i < 0 ∨ 12 ≤ i.toNatClampNeg)) (d : decode cc pc = .ok (.iaload, 1)) (k : W p l e R s m args below meth c H locs cells slots Q (F0 m (pc + 1) ls (.int (gI z 70 w) :: rest))) : W p l e R s m args below meth c H locs cells slots Q (F0 m pc ls (.int i :: .ref (ad 70) :: rest)) := by
  subst hw
  exact u_iald (i0 := 70) X hP rfl hin d k
theorem ld_71 {i : Int32} {w : Nat} (X : UC p s m args meth c cc nL own R fr lo D ad cs sd A) (hP : va_P D clss (wld cs ad z) H) (hw : i.toNatClampNeg = w) (hin : ¬ (i < 0 ∨ 4 ≤ i.toNatClampNeg)) (d : decode cc pc = .ok (.iaload, 1)) (k : W p l e R s m args below meth c H locs cells slots Q (F0 m (pc + 1) ls (.int (gI z 71 w) :: rest))) : W p l e R s m args below meth c H locs cells slots Q (F0 m pc ls (.int i :: .ref (ad 71) :: rest)) := by
  subst hw
  exact u_iald (i0 := 71) X hP rfl hin d k
theorem ld_72 {i : Int32} {w : Nat} (X : UC p s m args meth c cc nL own R fr lo D ad cs sd A) (hP : va_P D clss (wld cs ad z) H) (hw : i.toNatClampNeg = w) (hin : ¬ (i < 0 ∨ 3 ≤ i.toNatClampNeg)) (d : decode cc pc = .ok (.iaload, 1)) (k : W p l e R s m args below meth c H locs cells slots Q (F0 m (pc + 1) ls (.int (gI z 72 w) :: rest))) : W p l e R s m args below meth c H locs cells slots Q (F0 m pc ls (.int i :: .ref (ad 72) :: rest)) := by
  subst hw
  exact u_iald (i0 := 72) X hP rfl hin d k
theorem ld_73 {i : Int32} {w : Nat} (X : UC p s m args meth c cc nL own R fr lo D ad cs sd A) (hP : va_P D clss (wld cs ad z) H) (hw : i.toNatClampNeg = w) (hin : ¬ (i < 0 ∨ 11 ≤ i.toNatClampNeg)) (d : decode cc pc = .ok (.laload, 1)) (k : W p l e R s m args below meth c H locs cells slots Q (F0 m (pc + 1) ls (.long (gJ z 73 w) :: rest))) : W p l e R s m args below meth c H locs cells slots Q (F0 m pc ls (.int i :: .ref (ad 73) :: rest)) := by
  subst hw
  exact u_lald (i0 := 73) X hP rfl hin d k
theorem ld_74 {i : Int32} {w : Nat} (X : UC p s m args meth c cc nL own R fr lo D ad cs sd A) (hP : va_P D clss (wld cs ad z) H) (hw : i.toNatClampNeg = w) (hin : ¬ (i < 0 ∨ 4 ≤ i.toNatClampNeg)) (d : decode cc pc = .ok (.iaload, 1)) (k : W p l e R s m args below meth c H locs cells slots Q (F0 m (pc + 1) ls (.int (gI z 74 w) :: rest))) : W p l e R s m args below meth c H locs cells slots Q (F0 m pc ls (.int i :: .ref (ad 74) :: rest)) := by
  subst hw
  exact u_iald (i0 := 74) X hP rfl hin d k
theorem ld_75 {i : Int32} {w : Nat} (X : UC p s m args meth c cc nL own R fr lo D ad cs sd A) (hP : va_P D clss (wld cs ad z) H) (hw : i.toNatClampNeg = w) (hin : ¬ (i < 0 ∨ 30 ≤ i.toNatClampNeg)) (d : decode cc pc = .ok (.iaload, 1)) (k : W p l e R s m args below meth c H locs cells slots Q (F0 m (pc + 1) ls (.int (gI z 75 w) :: rest))) : W p l e R s m args below meth c H locs cells slots Q (F0 m pc ls (.int i :: .ref (ad 75) :: rest)) := by
  subst hw
  exact u_iald (i0 := 75) X hP rfl hin d k
theorem ld_76 {i : Int32} {w : Nat} (X : UC p s m args meth c cc nL own R fr lo D ad cs sd A) (hP : va_P D clss (wld cs ad z) H) (hw : i.toNatClampNeg = w) (hin : ¬ (i < 0 ∨ 30 ≤ i.toNatClampNeg)) (d : decode cc pc = .ok (.iaload, 1)) (k : W p l e R s m args below meth c H locs cells slots Q (F0 m (pc + 1) ls (.int (gI z 76 w) :: rest))) : W p l e R s m args below meth c H locs cells slots Q (F0 m pc ls (.int i :: .ref (ad 76) :: rest)) := by
  subst hw
  exact u_iald (i0 := 76) X hP rfl hin d k
theorem ld_77 {i : Int32} {w : Nat} (X : UC p s m args meth c cc nL own R fr lo D ad cs sd A) (hP : va_P D clss (wld cs ad z) H) (hw : i.toNatClampNeg = w) (hin : ¬ (i < 0 ∨ 4 ≤ i.toNatClampNeg)) (d : decode cc pc = .ok (.iaload, 1)) (k : W p l e R s m args below meth c H locs cells slots Q (F0 m (pc + 1) ls (.int (gI z 77 w) :: rest))) : W p l e R s m args below meth c H locs cells slots Q (F0 m pc ls (.int i :: .ref (ad 77) :: rest)) := by
  subst hw
  exact u_iald (i0 := 77) X hP rfl hin d k
theorem ld_78 {i : Int32} {w : Nat} (X : UC p s m args meth c cc nL own R fr lo D ad cs sd A) (hP : va_P D clss (wld cs ad z) H) (hw : i.toNatClampNeg = w) (hin : ¬ (i < 0 ∨ 4 ≤ i.toNatClampNeg)) (d : decode cc pc = .ok (.iaload, 1)) (k : W p l e R s m args below meth c H locs cells slots Q (F0 m (pc + 1) ls (.int (gI z 78 w) :: rest))) : W p l e R s m args below meth c H locs cells slots Q (F0 m pc ls (.int i :: .ref (ad 78) :: rest)) := by
  subst hw
  exact u_iald (i0 := 78) X hP rfl hin d k
theorem ld_79 {i : Int32} {w : Nat} (X : UC p s m args meth c cc nL own R fr lo D ad cs sd A) (hP : va_P D clss (wld cs ad z) H) (hw : i.toNatClampNeg = w) (hin : ¬ (i < 0 ∨ 160 ≤ i.toNatClampNeg)) (d : decode cc pc = .ok (.laload, 1)) (k : W p l e R s m args below meth c H locs cells slots Q (F0 m (pc + 1) ls (.long (gJ z 79 w) :: rest))) : W p l e R s m args below meth c H locs cells slots Q (F0 m pc ls (.int i :: .ref (ad 79) :: rest)) := by
  subst hw
  exact u_lald (i0 := 79) X hP rfl hin d k
theorem ld_80 {i : Int32} {w : Nat} (X : UC p s m args meth c cc nL own R fr lo D ad cs sd A) (hP : va_P D clss (wld cs ad z) H) (hw : i.toNatClampNeg = w) (hin : ¬ (i < 0 ∨ 4 ≤ i.toNatClampNeg)) (d : decode cc pc = .ok (.iaload, 1)) (k : W p l e R s m args below meth c H locs cells slots Q (F0 m (pc + 1) ls (.int (gI z 80 w) :: rest))) : W p l e R s m args below meth c H locs cells slots Q (F0 m pc ls (.int i :: .ref (ad 80) :: rest)) := by
  subst hw
  exact u_iald (i0 := 80) X hP rfl hin d k
theorem ld_81 {i : Int32} {w : Nat} (X : UC p s m args meth c cc nL own R fr lo D ad cs sd A) (hP : va_P D clss (wld cs ad z) H) (hw : i.toNatClampNeg = w) (hin : ¬ (i < 0 ∨ 4 ≤ i.toNatClampNeg)) (d : decode cc pc = .ok (.iaload, 1)) (k : W p l e R s m args below meth c H locs cells slots Q (F0 m (pc + 1) ls (.int (gI z 81 w) :: rest))) : W p l e R s m args below meth c H locs cells slots Q (F0 m pc ls (.int i :: .ref (ad 81) :: rest)) := by
  subst hw
  exact u_iald (i0 := 81) X hP rfl hin d k
theorem ld_82 {i : Int32} {w : Nat} (X : UC p s m args meth c cc nL own R fr lo D ad cs sd A) (hP : va_P D clss (wld cs ad z) H) (hw : i.toNatClampNeg = w) (hin : ¬ (i < 0 ∨ 4 ≤ i.toNatClampNeg)) (d : decode cc pc = .ok (.iaload, 1)) (k : W p l e R s m args below meth c H locs cells slots Q (F0 m (pc + 1) ls (.int (gI z 82 w) :: rest))) : W p l e R s m args below meth c H locs cells slots Q (F0 m pc ls (.int i :: .ref (ad 82) :: rest)) := by
  subst hw
  exact u_iald (i0 := 82) X hP rfl hin d k
theorem ld_83 {i : Int32} {w : Nat} (X : UC p s m args meth c cc nL own R fr lo D ad cs sd A) (hP : va_P D clss (wld cs ad z) H) (hw : i.toNatClampNeg = w) (hin : ¬ (i < 0 ∨ 30 ≤ i.toNatClampNeg)) (d : decode cc pc = .ok (.iaload, 1)) (k : W p l e R s m args below meth c H locs cells slots Q (F0 m (pc + 1) ls (.int (gI z 83 w) :: rest))) : W p l e R s m args below meth c H locs cells slots Q (F0 m pc ls (.int i :: .ref (ad 83) :: rest)) := by
  subst hw
  exact u_iald (i0 := 83) X hP rfl hin d k
theorem ld_84 {i : Int32} {w : Nat} (X : UC p s m args meth c cc nL own R fr lo D ad cs sd A) (hP : va_P D clss (wld cs ad z) H) (hw : i.toNatClampNeg = w) (hin : ¬ (i < 0 ∨ 200 ≤ i.toNatClampNeg)) (d : decode cc pc = .ok (.iaload, 1)) (k : W p l e R s m args below meth c H locs cells slots Q (F0 m (pc + 1) ls (.int (gI z 84 w) :: rest))) : W p l e R s m args below meth c H locs cells slots Q (F0 m pc ls (.int i :: .ref (ad 84) :: rest)) := by
  subst hw
  exact u_iald (i0 := 84) X hP rfl hin d k
theorem ld_85 {i : Int32} {w : Nat} (X : UC p s m args meth c cc nL own R fr lo D ad cs sd A) (hP : va_P D clss (wld cs ad z) H) (hw : i.toNatClampNeg = w) (hin : ¬ (i < 0 ∨ 4 ≤ i.toNatClampNeg)) (d : decode cc pc = .ok (.iaload, 1)) (k : W p l e R s m args below meth c H locs cells slots Q (F0 m (pc + 1) ls (.int (gI z 85 w) :: rest))) : W p l e R s m args below meth c H locs cells slots Q (F0 m pc ls (.int i :: .ref (ad 85) :: rest)) := by
  subst hw
  exact u_iald (i0 := 85) X hP rfl hin d k
theorem ld_9 {i : Int32} {w : Nat} (X : UC p s m args meth c cc nL own R fr lo D ad cs sd A) (hP : va_P D clss (wld cs ad z) H) (hw : i.toNatClampNeg = w) (hin : ¬ (i < 0 ∨ 200 ≤ i.toNatClampNeg)) (d : decode cc pc = .ok (.iaload, 1)) (k : W p l e R s m args below meth c H locs cells slots Q (F0 m (pc + 1) ls (.int (gI z 9 w) :: rest))) : W p l e R s m args below meth c H locs cells slots Q (F0 m pc ls (.int i :: .ref (ad 9) :: rest)) := by
  subst hw
  exact u_iald (i0 := 9) X hP rfl hin d k
theorem ld_dyn22 {j : Nat} (hj : j < 3) {i : Int32} {w : Nat} (X : UC p s m args meth c cc nL own R fr lo D ad cs sd A) (hP : va_P D clss (wld cs ad z) H) (hw : i.toNatClampNeg = w) (hin : ¬ (i < 0 ∨ 64 ≤ i.toNatClampNeg)) (d : decode cc pc = .ok (.iaload, 1)) (k : W p l e R s m args below meth c H locs cells slots Q (F0 m (pc + 1) ls (.int (gI z (22 + j) w) :: rest))) : W p l e R s m args below meth c H locs cells slots Q (F0 m pc ls (.int i :: .ref (ad (22 + j)) :: rest)) := by
  subst hw
  exact u_iald (i0 := (22 + j)) X hP (en_dyn22 hj cs ad z) hin d k
theorem ld_dyn38 {j : Nat} (hj : j < 4) {i : Int32} {w : Nat} (X : UC p s m args meth c cc nL own R fr lo D ad cs sd A) (hP : va_P D clss (wld cs ad z) H) (hw : i.toNatClampNeg = w) (hin : ¬ (i < 0 ∨ 40 ≤ i.toNatClampNeg)) (d : decode cc pc = .ok (.iaload, 1)) (k : W p l e R s m args below meth c H locs cells slots Q (F0 m (pc + 1) ls (.int (gI z (38 + j) w) :: rest))) : W p l e R s m args below meth c H locs cells slots Q (F0 m pc ls (.int i :: .ref (ad (38 + j)) :: rest)) := by
  subst hw
  exact u_iald (i0 := (38 + j)) X hP (en_dyn38 hj cs ad z) hin d k
theorem as_11 {i : Int32} {v : Int32} {w : Nat} (X : UC p s m args meth c cc nL own R fr lo D ad cs sd A) (hP : va_P D clss (wld cs ad z) H) (hS : va_S A s.heap H locs) (hw : i.toNatClampNeg = w) (hin : ¬ (i < 0 ∨ 8 ≤ i.toNatClampNeg)) (d : decode cc pc = .ok (.iastore, 1)) (k : ∀ (H : Heap) (locs : List Loc), va_P D clss (wld cs ad (pI z 11 w v)) H → va_S A s.heap H locs → W p l e R s m args below meth c H locs cells slots Q (F0 m (pc + 1) ls rest)) : W p l e R s m args below meth c H locs cells slots Q (F0 m pc ls (.int v :: .int i :: .ref (ad 11) :: rest)) := by
  subst hw
  exact u_iast 11 (pI z 11 i.toNatClampNeg v) X hP hS rfl (ax_11 cs ad z _) hin d k
theorem as_12 {i : Int32} {v : Int32} {w : Nat} (X : UC p s m args meth c cc nL own R fr lo D ad cs sd A) (hP : va_P D clss (wld cs ad z) H) (hS : va_S A s.heap H locs) (hw : i.toNatClampNeg = w) (hin : ¬ (i < 0 ∨ 8 ≤ i.toNatClampNeg)) (d : decode cc pc = .ok (.iastore, 1)) (k : ∀ (H : Heap) (locs : List Loc), va_P D clss (wld cs ad (pI z 12 w v)) H → va_S A s.heap H locs → W p l e R s m args below meth c H locs cells slots Q (F0 m (pc + 1) ls rest)) : W p l e R s m args below meth c H locs cells slots Q (F0 m pc ls (.int v :: .int i :: .ref (ad 12) :: rest)) := by
  subst hw
  exact u_iast 12 (pI z 12 i.toNatClampNeg v) X hP hS rfl (ax_12 cs ad z _) hin d k
theorem as_13 {i : Int32} {v : Int32} {w : Nat} (X : UC p s m args meth c cc nL own R fr lo D ad cs sd A) (hP : va_P D clss (wld cs ad z) H) (hS : va_S A s.heap H locs) (hw : i.toNatClampNeg = w) (hin : ¬ (i < 0 ∨ 64 ≤ i.toNatClampNeg)) (d : decode cc pc = .ok (.iastore, 1)) (k : ∀ (H : Heap) (locs : List Loc), va_P D clss (wld cs ad (pI z 13 w v)) H → va_S A s.heap H locs → W p l e R s m args below meth c H locs cells slots Q (F0 m (pc + 1) ls rest)) : W p l e R s m args below meth c H locs cells slots Q (F0 m pc ls (.int v :: .int i :: .ref (ad 13) :: rest)) := by
  subst hw
  exact u_iast 13 (pI z 13 i.toNatClampNeg v) X hP hS rfl (ax_13 cs ad z _) hin d k
theorem as_14 {i : Int32} {v : Int32} {w : Nat} (X : UC p s m args meth c cc nL own R fr lo D ad cs sd A) (hP : va_P D clss (wld cs ad z) H) (hS : va_S A s.heap H locs) (hw : i.toNatClampNeg = w) (hin : ¬ (i < 0 ∨ 8 ≤ i.toNatClampNeg)) (d : decode cc pc = .ok (.iastore, 1)) (k : ∀ (H : Heap) (locs : List Loc), va_P D clss (wld cs ad (pI z 14 w v)) H → va_S A s.heap H locs → W p l e R s m args below meth c H locs cells slots Q (F0 m (pc + 1) ls rest)) : W p l e R s m args below meth c H locs cells slots Q (F0 m pc ls (.int v :: .int i :: .ref (ad 14) :: rest)) := by
  subst hw
  exact u_iast 14 (pI z 14 i.toNatClampNeg v) X hP hS rfl (ax_14 cs ad z _) hin d k
theorem as_2 {i : Int32} {v : Int32} {w : Nat} (X : UC p s m args meth c cc nL own R fr lo D ad cs sd A) (hP : va_P D clss (wld cs ad z) H) (hS : va_S A s.heap H locs) (hw : i.toNatClampNeg = w) (hin : ¬ (i < 0 ∨ 8 ≤ i.toNatClampNeg)) (d : decode cc pc = .ok (.iastore, 1)) (k : ∀ (H : Heap) (locs : List Loc), va_P D clss (wld cs ad (pI z 2 w v)) H → va_S A s.heap H locs → W p l e R s m args below meth c H locs cells slots Q (F0 m (pc + 1) ls rest)) : W p l e R s m args below meth c H locs cells slots Q (F0 m pc ls (.int v :: .int i :: .ref (ad 2) :: rest)) := by
  subst hw
  exact u_iast 2 (pI z 2 i.toNatClampNeg v) X hP hS rfl (ax_2 cs ad z _) hin d k
theorem as_20 {i : Int32} {v : Int32} {w : Nat} (X : UC p s m args meth c cc nL own R fr lo D ad cs sd A) (hP : va_P D clss (wld cs ad z) H) (hS : va_S A s.heap H locs) (hw : i.toNatClampNeg = w) (hin : ¬ (i < 0 ∨ 64 ≤ i.toNatClampNeg)) (d : decode cc pc = .ok (.iastore, 1)) (k : ∀ (H : Heap) (locs : List Loc), va_P D clss (wld cs ad (pI z 20 w v)) H → va_S A s.heap H locs → W p l e R s m args below meth c H locs cells slots Q (F0 m (pc + 1) ls rest)) : W p l e R s m args below meth c H locs cells slots Q (F0 m pc ls (.int v :: .int i :: .ref (ad 20) :: rest)) := by
  subst hw
  exact u_iast 20 (pI z 20 i.toNatClampNeg v) X hP hS rfl (ax_20 cs ad z _) hin d k
theorem as_25 {i : Int32} {v : Int32} {w : Nat} (X : UC p s m args meth c cc nL own R fr lo D ad cs sd A) (hP : va_P D clss (wld cs ad z) H) (hS : va_S A s.heap H locs) (hw : i.toNatClampNeg = w) (hin : ¬ (i < 0 ∨ 3 ≤ i.toNatClampNeg)) (d : decode cc pc = .ok (.iastore, 1)) (k : ∀ (H : Heap) (locs : List Loc), va_P D clss (wld cs ad (pI z 25 w v)) H → va_S A s.heap H locs → W p l e R s m args below meth c H locs cells slots Q (F0 m (pc + 1) ls rest)) : W p l e R s m args below meth c H locs cells slots Q (F0 m pc ls (.int v :: .int i :: .ref (ad 25) :: rest)) := by
  subst hw
  exact u_iast 25 (pI z 25 i.toNatClampNeg v) X hP hS rfl (ax_25 cs ad z _) hin d k
theorem as_27 {i : Int32} {v : Int32} {w : Nat} (X : UC p s m args meth c cc nL own R fr lo D ad cs sd A) (hP : va_P D clss (wld cs ad z) H) (hS : va_S A s.heap H locs) (hw : i.toNatClampNeg = w) (hin : ¬ (i < 0 ∨ 4 ≤ i.toNatClampNeg)) (d : decode cc pc = .ok (.iastore, 1)) (k : ∀ (H : Heap) (locs : List Loc), va_P D clss (wld cs ad (pI z 27 w v)) H → va_S A s.heap H locs → W p l e R s m args below meth c H locs cells slots Q (F0 m (pc + 1) ls rest)) : W p l e R s m args below meth c H locs cells slots Q (F0 m pc ls (.int v :: .int i :: .ref (ad 27) :: rest)) := by
  subst hw
  exact u_iast 27 (pI z 27 i.toNatClampNeg v) X hP hS rfl (ax_27 cs ad z _) hin d k
theorem as_28 {i : Int32} {v : Int32} {w : Nat} (X : UC p s m args meth c cc nL own R fr lo D ad cs sd A) (hP : va_P D clss (wld cs ad z) H) (hS : va_S A s.heap H locs) (hw : i.toNatClampNeg = w) (hin : ¬ (i < 0 ∨ 4 ≤ i.toNatClampNeg)) (d : decode cc pc = .ok (.iastore, 1)) (k : ∀ (H : Heap) (locs : List Loc), va_P D clss (wld cs ad (pI z 28 w v)) H → va_S A s.heap H locs → W p l e R s m args below meth c H locs cells slots Q (F0 m (pc + 1) ls rest)) : W p l e R s m args below meth c H locs cells slots Q (F0 m pc ls (.int v :: .int i :: .ref (ad 28) :: rest)) := by
  subst hw
  exact u_iast 28 (pI z 28 i.toNatClampNeg v) X hP hS rfl (ax_28 cs ad z _) hin d k
theorem as_29 {i : Int32} {v : Int32} {w : Nat} (X : UC p s m args meth c cc nL own R fr lo D ad cs sd A) (hP : va_P D clss (wld cs ad z) H) (hS : va_S A s.heap H locs) (hw : i.toNatClampNeg = w) (hin : ¬ (i < 0 ∨ 4 ≤ i.toNatClampNeg)) (d : decode cc pc = .ok (.iastore, 1)) (k : ∀ (H : Heap) (locs : List Loc), va_P D clss (wld cs ad (pI z 29 w v)) H → va_S A s.heap H locs → W p l e R s m args below meth c H locs cells slots Q (F0 m (pc + 1) ls rest)) : W p l e R s m args below meth c H locs cells slots Q (F0 m pc ls (.int v :: .int i :: .ref (ad 29) :: rest)) := by
  subst hw
  exact u_iast 29 (pI z 29 i.toNatClampNeg v) X hP hS rfl (ax_29 cs ad z _) hin d k
theorem as_3 {i : Int32} {v : Int32} {w : Nat} (X : UC p s m args meth c cc nL own R fr lo D ad cs sd A) (hP : va_P D clss (wld cs ad z) H) (hS : va_S A s.heap H locs) (hw : i.toNatClampNeg = w) (hin : ¬ (i < 0 ∨ 8 ≤ i.toNatClampNeg)) (d : decode cc pc = .ok (.iastore, 1)) (k : ∀ (H : Heap) (locs : List Loc), va_P D clss (wld cs ad (pI z 3 w v)) H → va_S A s.heap H locs → W p l e R s m args below meth c H locs cells slots Q (F0 m (pc + 1) ls rest)) : W p l e R s m args below meth c H locs cells slots Q (F0 m pc ls (.int v :: .int i :: .ref (ad 3) :: rest)) := by
  subst hw
  exact u_iast 3 (pI z 3 i.toNatClampNeg v) X hP hS rfl (ax_3 cs ad z _) hin d k
theorem as_31 {i : Int32} {v : Int32} {w : Nat} (X : UC p s m args meth c cc nL own R fr lo D ad cs sd A) (hP : va_P D clss (wld cs ad z) H) (hS : va_S A s.heap H locs) (hw : i.toNatClampNeg = w) (hin : ¬ (i < 0 ∨ 30 ≤ i.toNatClampNeg)) (d : decode cc pc = .ok (.iastore, 1)) (k : ∀ (H : Heap) (locs : List Loc), va_P D clss (wld cs ad (pI z 31 w v)) H → va_S A s.heap H locs → W p l e R s m args below meth c H locs cells slots Q (F0 m (pc + 1) ls rest)) : W p l e R s m args below meth c H locs cells slots Q (F0 m pc ls (.int v :: .int i :: .ref (ad 31) :: rest)) := by
  subst hw
  exact u_iast 31 (pI z 31 i.toNatClampNeg v) X hP hS rfl (ax_31 cs ad z _) hin d k
theorem as_33 {i : Int32} {v : Int32} {w : Nat} (X : UC p s m args meth c cc nL own R fr lo D ad cs sd A) (hP : va_P D clss (wld cs ad z) H) (hS : va_S A s.heap H locs) (hw : i.toNatClampNeg = w) (hin : ¬ (i < 0 ∨ 30 ≤ i.toNatClampNeg)) (d : decode cc pc = .ok (.iastore, 1)) (k : ∀ (H : Heap) (locs : List Loc), va_P D clss (wld cs ad (pI z 33 w v)) H → va_S A s.heap H locs → W p l e R s m args below meth c H locs cells slots Q (F0 m (pc + 1) ls rest)) : W p l e R s m args below meth c H locs cells slots Q (F0 m pc ls (.int v :: .int i :: .ref (ad 33) :: rest)) := by
  subst hw
  exact u_iast 33 (pI z 33 i.toNatClampNeg v) X hP hS rfl (ax_33 cs ad z _) hin d k
theorem as_35 {i : Int32} {v : Int32} {w : Nat} (X : UC p s m args meth c cc nL own R fr lo D ad cs sd A) (hP : va_P D clss (wld cs ad z) H) (hS : va_S A s.heap H locs) (hw : i.toNatClampNeg = w) (hin : ¬ (i < 0 ∨ 4 ≤ i.toNatClampNeg)) (d : decode cc pc = .ok (.iastore, 1)) (k : ∀ (H : Heap) (locs : List Loc), va_P D clss (wld cs ad (pI z 35 w v)) H → va_S A s.heap H locs → W p l e R s m args below meth c H locs cells slots Q (F0 m (pc + 1) ls rest)) : W p l e R s m args below meth c H locs cells slots Q (F0 m pc ls (.int v :: .int i :: .ref (ad 35) :: rest)) := by
  subst hw
  exact u_iast 35 (pI z 35 i.toNatClampNeg v) X hP hS rfl (ax_35 cs ad z _) hin d k
theorem as_36 {i : Int32} {v : Int32} {w : Nat} (X : UC p s m args meth c cc nL own R fr lo D ad cs sd A) (hP : va_P D clss (wld cs ad z) H) (hS : va_S A s.heap H locs) (hw : i.toNatClampNeg = w) (hin : ¬ (i < 0 ∨ 4 ≤ i.toNatClampNeg)) (d : decode cc pc = .ok (.iastore, 1)) (k : ∀ (H : Heap) (locs : List Loc), va_P D clss (wld cs ad (pI z 36 w v)) H → va_S A s.heap H locs → W p l e R s m args below meth c H locs cells slots Q (F0 m (pc + 1) ls rest)) : W p l e R s m args below meth c H locs cells slots Q (F0 m pc ls (.int v :: .int i :: .ref (ad 36) :: rest)) := by
  subst hw
  exact u_iast 36 (pI z 36 i.toNatClampNeg v) X hP hS rfl (ax_36 cs ad z _) hin d k
theorem as_4 {i : Int32} {v : Int32} {w : Nat} (X : UC p s m args meth c cc nL own R fr lo D ad cs sd A) (hP : va_P D clss (wld cs ad z) H) (hS : va_S A s.heap H locs) (hw : i.toNatClampNeg = w) (hin : ¬ (i < 0 ∨ 64 ≤ i.toNatClampNeg)) (d : decode cc pc = .ok (.iastore, 1)) (k : ∀ (H : Heap) (locs : List Loc), va_P D clss (wld cs ad (pI z 4 w v)) H → va_S A s.heap H locs → W p l e R s m args below meth c H locs cells slots Q (F0 m (pc + 1) ls rest)) : W p l e R s m args below meth c H locs cells slots Q (F0 m pc ls (.int v :: .int i :: .ref (ad 4) :: rest)) := by
  subst hw
  exact u_iast 4 (pI z 4 i.toNatClampNeg v) X hP hS rfl (ax_4 cs ad z _) hin d k
theorem as_42 {i : Int32} {v : Int32} {w : Nat} (X : UC p s m args meth c cc nL own R fr lo D ad cs sd A) (hP : va_P D clss (wld cs ad z) H) (hS : va_S A s.heap H locs) (hw : i.toNatClampNeg = w) (hin : ¬ (i < 0 ∨ 4 ≤ i.toNatClampNeg)) (d : decode cc pc = .ok (.iastore, 1)) (k : ∀ (H : Heap) (locs : List Loc), va_P D clss (wld cs ad (pI z 42 w v)) H → va_S A s.heap H locs → W p l e R s m args below meth c H locs cells slots Q (F0 m (pc + 1) ls rest)) : W p l e R s m args below meth c H locs cells slots Q (F0 m pc ls (.int v :: .int i :: .ref (ad 42) :: rest)) := by
  subst hw
  exact u_iast 42 (pI z 42 i.toNatClampNeg v) X hP hS rfl (ax_42 cs ad z _) hin d k
theorem as_43 {i : Int32} {v : Int32} {w : Nat} (X : UC p s m args meth c cc nL own R fr lo D ad cs sd A) (hP : va_P D clss (wld cs ad z) H) (hS : va_S A s.heap H locs) (hw : i.toNatClampNeg = w) (hin : ¬ (i < 0 ∨ 4 ≤ i.toNatClampNeg)) (d : decode cc pc = .ok (.iastore, 1)) (k : ∀ (H : Heap) (locs : List Loc), va_P D clss (wld cs ad (pI z 43 w v)) H → va_S A s.heap H locs → W p l e R s m args below meth c H locs cells slots Q (F0 m (pc + 1) ls rest)) : W p l e R s m args below meth c H locs cells slots Q (F0 m pc ls (.int v :: .int i :: .ref (ad 43) :: rest)) := by
  subst hw
  exact u_iast 43 (pI z 43 i.toNatClampNeg v) X hP hS rfl (ax_43 cs ad z _) hin d k
theorem as_44 {i : Int32} {v : Int32} {w : Nat} (X : UC p s m args meth c cc nL own R fr lo D ad cs sd A) (hP : va_P D clss (wld cs ad z) H) (hS : va_S A s.heap H locs) (hw : i.toNatClampNeg = w) (hin : ¬ (i < 0 ∨ 4 ≤ i.toNatClampNeg)) (d : decode cc pc = .ok (.iastore, 1)) (k : ∀ (H : Heap) (locs : List Loc), va_P D clss (wld cs ad (pI z 44 w v)) H → va_S A s.heap H locs → W p l e R s m args below meth c H locs cells slots Q (F0 m (pc + 1) ls rest)) : W p l e R s m args below meth c H locs cells slots Q (F0 m pc ls (.int v :: .int i :: .ref (ad 44) :: rest)) := by
  subst hw
  exact u_iast 44 (pI z 44 i.toNatClampNeg v) X hP hS rfl (ax_44 cs ad z _) hin d k
theorem as_5 {i : Int32} {v : Int32} {w : Nat} (X : UC p s m args meth c cc nL own R fr lo D ad cs sd A) (hP : va_P D clss (wld cs ad z) H) (hS : va_S A s.heap H locs) (hw : i.toNatClampNeg = w) (hin : ¬ (i < 0 ∨ 8 ≤ i.toNatClampNeg)) (d : decode cc pc = .ok (.iastore, 1)) (k : ∀ (H : Heap) (locs : List Loc), va_P D clss (wld cs ad (pI z 5 w v)) H → va_S A s.heap H locs → W p l e R s m args below meth c H locs cells slots Q (F0 m (pc + 1) ls rest)) : W p l e R s m args below meth c H locs cells slots Q (F0 m pc ls (.int v :: .int i :: .ref (ad 5) :: rest)) := by
  subst hw
  exact u_iast 5 (pI z 5 i.toNatClampNeg v) X hP hS rfl (ax_5 cs ad z _) hin d k
theorem as_57 {i : Int32} {v : Int32} {w : Nat} (X : UC p s m args meth c cc nL own R fr lo D ad cs sd A) (hP : va_P D clss (wld cs ad z) H) (hS : va_S A s.heap H locs) (hw : i.toNatClampNeg = w) (hin : ¬ (i < 0 ∨ 8 ≤ i.toNatClampNeg)) (d : decode cc pc = .ok (.iastore, 1)) (k : ∀ (H : Heap) (locs : List Loc), va_P D clss (wld cs ad (pI z 57 w v)) H → va_S A s.heap H locs → W p l e R s m args below meth c H locs cells slots Q (F0 m (pc + 1) ls rest)) : W p l e R s m args below meth c H locs cells slots Q (F0 m pc ls (.int v :: .int i :: .ref (ad 57) :: rest)) := by
  subst hw
  exact u_iast 57 (pI z 57 i.toNatClampNeg v) X hP hS rfl (ax_57 cs ad z _) hin d k
theorem as_58 {i : Int32} {v : Int32} {w : Nat} (X : UC p s m args meth c cc nL own R fr lo D ad cs sd A) (hP : va_P D clss (wld cs ad z) H) (hS : va_S A s.heap H locs) (hw : i.toNatClampNeg = w) (hin : ¬ (i < 0 ∨ 8 ≤ i.toNatClampNeg)) (d : decode cc pc = .ok (.iastore, 1)) (k : ∀ (H : Heap) (locs : List Loc), va_P D clss (wld cs ad (pI z 58 w v)) H → va_S A s.heap H locs → W p l e R s m args below meth c H locs cells slots Q (F0 m (pc + 1) ls rest)) : W p l e R s m args below meth c H locs cells slots Q (F0 m pc ls (.int v :: .int i :: .ref (ad 58) :: rest)) := by
  subst hw
  exact u_iast 58 (pI z 58 i.toNatClampNeg v) X hP hS rfl (ax_58 cs ad z _) hin d k
theorem as_59 {i : Int32} {v : Int32} {w : Nat} (X : UC p s m args meth c cc nL own R fr lo D ad cs sd A) (hP : va_P D clss (wld cs ad z) H) (hS : va_S A s.heap H locs) (hw : i.toNatClampNeg = w) (hin : ¬ (i < 0 ∨ 64 ≤ i.toNatClampNeg)) (d : decode cc pc = .ok (.iastore, 1)) (k : ∀ (H : Heap) (locs : List Loc), va_P D clss (wld cs ad (pI z 59 w v)) H → va_S A s.heap H locs → W p l e R s m args below meth c H locs cells slots Q (F0 m (pc + 1) ls rest)) : W p l e R s m args below meth c H locs cells slots Q (F0 m pc ls (.int v :: .int i :: .ref (ad 59) :: rest)) := by
  subst hw
  exact u_iast 59 (pI z 59 i.toNatClampNeg v) X hP hS rfl (ax_59 cs ad z _) hin d k
theorem as_6 {i : Int32} {v : Int32} {w : Nat} (X : UC p s m args meth c cc nL own R fr lo D ad cs sd A) (hP : va_P D clss (wld cs ad z) H) (hS : va_S A s.heap H locs) (hw : i.toNatClampNeg = w) (hin : ¬ (i < 0 ∨ 40 ≤ i.toNatClampNeg)) (d : decode cc pc = .ok (.iastore, 1)) (k : ∀ (H : Heap) (locs : List Loc), va_P D clss (wld cs ad (pI z 6 w v)) H → va_S A s.heap H locs → W p l e R s m args below meth c H locs cells slots Q (F0 m (pc + 1) ls rest)) : W p l e R s m args below meth c H locs cells slots Q (F0 m pc ls (.int v :: .int i :: .ref (ad 6) :: rest)) := by
  subst hw
  exact u_iast 6 (pI z 6 i.toNatClampNeg v) X hP hS rfl (ax_6 cs ad z _) hin d k
theorem as_60 {i : Int32} {v : Int32} {w : Nat} (X : UC p s m args meth c cc nL own R fr lo D ad cs sd A) (hP : va_P D clss (wld cs ad z) H) (hS : va_S A s.heap H locs) (hw : i.toNatClampNeg = w) (hin : ¬ (i < 0 ∨ 40 ≤ i.toNatClampNeg)) (d : decode cc pc = .ok (.iastore, 1)) (k : ∀ (H : Heap) (locs : List Loc), va_P D clss (wld cs ad (pI z 60 w v)) H → va_S A s.heap H locs → W p l e R s m args below meth c H locs cells slots Q (F0 m (pc + 1) ls rest)) : W p l e R s m args below meth c H locs cells slots Q (F0 m pc ls (.int v :: .int i :: .ref (ad 60) :: rest)) := by
  subst hw
  exact u_iast 60 (pI z 60 i.toNatClampNeg v) X hP hS rfl (ax_60 cs ad z _) hin d k
theorem as_61 {i : Int32} {v : Int32} {w : Nat} (X : UC p s m args meth c cc nL own R fr lo D ad cs sd A) (hP : va_P D clss (wld cs ad z) H) (hS : va_S A s.heap H locs) (hw : i.toNatClampNeg = w) (hin : ¬ (i < 0 ∨ 10 ≤ i.toNatClampNeg)) (d : decode cc pc = .ok (.iastore, 1)) (k : ∀ (H : Heap) (locs : List Loc), va_P D clss (wld cs ad (pI z 61 w v)) H → va_S A s.heap H locs → W p l e R s m args below meth c H locs cells slots Q (F0 m (pc + 1) ls rest)) : W p l e R s m args below meth c H locs cells slots Q (F0 m pc ls (.int v :: .int i :: .ref (ad 61) :: rest)) := by
  subst hw
  exact u_iast 61 (pI z 61 i.toNatClampNeg v) X hP hS rfl (ax_61 cs ad z _) hin d k
theorem as_62 {i : Int32} {v : Int32} {w : Nat} (X : UC p s m args meth c cc nL own R fr lo D ad cs sd A) (hP : va_P D clss (wld cs ad z) H) (hS : va_S A s.heap H locs) (hw : i.toNatClampNeg = w) (hin : ¬ (i < 0 ∨ 8 ≤ i.toNatClampNeg)) (d : decode cc pc = .ok (.iastore, 1)) (k : ∀ (H : Heap) (locs : List Loc), va_P D clss (wld cs ad (pI z 62 w v)) H → va_S A s.heap H locs → W p l e R s m args below meth c H locs cells slots Q (F0 m (pc + 1) ls rest)) : W p l e R s m args below meth c H locs cells slots Q (F0 m pc ls (.int v :: .int i :: .ref (ad 62) :: rest)) := by
  subst hw
  exact u_iast 62 (pI z 62 i.toNatClampNeg v) X hP hS rfl (ax_62 cs ad z _) hin d k
theorem as_64 {i : Int32} {v : Int32} {w : Nat} (X : UC p s m args meth c cc nL own R fr lo D ad cs sd A) (hP : va_P D clss (wld cs ad z) H) (hS : va_S A s.heap H locs) (hw : i.toNatClampNeg = w) (hin : ¬ (i < 0 ∨ 8 ≤ i.toNatClampNeg)) (d : decode cc pc = .ok (.iastore, 1)) (k : ∀ (H : Heap) (locs : List Loc), va_P D clss (wld cs ad (pI z 64 w v)) H → va_S A s.heap H locs → W p l e R s m args below meth c H locs cells slots Q (F0 m (pc + 1) ls rest)) : W p l e R s m args below meth c H locs cells slots Q (F0 m pc ls (.int v :: .int i :: .ref (ad 64) :: rest)) := by
  subst hw
  exact u_iast 64 (pI z 64 i.toNatClampNeg v) X hP hS rfl (ax_64 cs ad z _) hin d k
theorem as_65 {i : Int32} {v : Int32} {w : Nat} (X : UC p s m args meth c cc nL own R fr lo D ad cs sd A) (hP : va_P D clss (wld cs ad z) H) (hS : va_S A s.heap H locs) (hw : i.toNatClampNeg = w) (hin : ¬ (i < 0 ∨ 200 ≤ i.toNatClampNeg)) (d : decode cc pc = .ok (.iastore, 1)) (k : ∀ (H : Heap) (locs : List Loc), va_P D clss (wld cs ad (pI z 65 w v)) H → va_S A s.heap H locs → W p l e R s m args below meth c H locs cells slots Q (F0 m (pc + 1) ls rest)) : W p l e R s m args below meth c H locs cells slots Q (F0 m pc ls (.int v :: .int i :: .ref (ad 65) :: rest)) := by
  subst hw
  exact u_iast 65 (pI z 65 i.toNatClampNeg v) X hP hS rfl (ax_65 cs ad z _) hin d k
theorem as_66 {i : Int32} {v : Int32} {w : Nat} (X : UC p s m args meth c cc nL own R fr lo D ad cs sd A) (hP : va_P D clss (wld cs ad z) H) (hS : va_S A s.heap H locs) (hw : i.toNatClampNeg = w) (hin : ¬ (i < 0 ∨ 8 ≤ i.toNatClampNeg)) (d : decode cc pc = .ok (.iastore, 1)) (k : ∀ (H : Heap) (locs : List Loc), va_P D clss (wld cs ad (pI z 66 w v)) H → va_S A s.heap H locs → W p l e R s m args below meth c H locs cells slots Q (F0 m (pc + 1) ls rest)) : W p l e R s m args below meth c H locs cells slots Q (F0 m pc ls (.int v :: .int i :: .ref (ad 66) :: rest)) := by
  subst hw
  exact u_iast 66 (pI z 66 i.toNatClampNeg v) X hP hS rfl (ax_66 cs ad z _) hin d k
theorem as_67 {i : Int32} {v : Int32} {w : Nat} (X : UC p s m args meth c cc nL own R fr lo D ad cs sd A) (hP : va_P D clss (wld cs ad z) H) (hS : va_S A s.heap H locs) (hw : i.toNatClampNeg = w) (hin : ¬ (i < 0 ∨ 8 ≤ i.toNatClampNeg)) (d : decode cc pc = .ok (.iastore, 1)) (k : ∀ (H : Heap) (locs : List Loc), va_P D clss (wld cs ad (pI z 67 w v)) H → va_S A s.heap H locs → W p l e R s m args below meth c H locs cells slots Q (F0 m (pc + 1) ls rest)) : W p l e R s m args below meth c H locs cells slots Q (F0 m pc ls (.int v :: .int i :: .ref (ad 67) :: rest)) := by
  subst hw
  exact u_iast 67 (pI z 67 i.toNatClampNeg v) X hP hS rfl (ax_67 cs ad z _) hin d k
theorem as_68 {i : Int32} {v : Int32} {w : Nat} (X : UC p s m args meth c cc nL own R fr lo D ad cs sd A) (hP : va_P D clss (wld cs ad z) H) (hS : va_S A s.heap H locs) (hw : i.toNatClampNeg = w) (hin : ¬ (i < 0 ∨ 64 ≤ i.toNatClampNeg)) (d : decode cc pc = .ok (.iastore, 1)) (k : ∀ (H : Heap) (locs : List Loc), va_P D clss (wld cs ad (pI z 68 w v)) H → va_S A s.heap H locs → W p l e R s m args below meth c H locs cells slots Q (F0 m (pc + 1) ls rest)) : W p l e R s m args below meth c H locs cells slots Q (F0 m pc ls (.int v :: .int i :: .ref (ad 68) :: rest)) := by
  subst hw
  exact u_iast 68 (pI z 68 i.toNatClampNeg v) X hP hS rfl (ax_68 cs ad z _) hin d k
theorem as_69 {i : Int32} {v : Int32} {w : Nat} (X : UC p s m args meth c cc nL own R fr lo D ad cs sd A) (hP : va_P D clss (wld cs ad z) H) (hS : va_S A s.heap H locs) (hw : i.toNatClampNeg = w) (hin : ¬ (i < 0 ∨ 8 ≤ i.toNatClampNeg)) (d : decode cc pc = .ok (.iastore, 1)) (k : ∀ (H : Heap) (locs : List Loc), va_P D clss (wld cs ad (pI z 69 w v)) H → va_S A s.heap H locs → W p l e R s m args below meth c H locs cells slots Q (F0 m (pc + 1) ls rest)) : W p l e R s m args below meth c H locs cells slots Q (F0 m pc ls (.int v :: .int i :: .ref (ad 69) :: rest)) := by
  subst hw
  exact u_iast 69 (pI z 69 i.toNatClampNeg v) X hP hS rfl (ax_69 cs ad z _) hin d k
theorem as_7 {i : Int32} {v : Int32} {w : Nat} (X : UC p s m args meth c cc nL own R fr lo D ad cs sd A) (hP : va_P D clss (wld cs ad z) H) (hS : va_S A s.heap H locs) (hw : i.toNatClampNeg = w) (hin : ¬ (i < 0 ∨ 10 ≤ i.toNatClampNeg)) (d : decode cc pc = .ok (.iastore, 1)) (k : ∀ (H : Heap) (locs : List Loc), va_P D clss (wld cs ad (pI z 7 w v)) H → va_S A s.heap H locs → W p l e R s m args below meth c H locs cells slots Q (F0 m (pc + 1) ls rest)) : W p l e R s m args below meth c H locs cells slots Q (F0 m pc ls (.int v :: .int i :: .ref (ad 7) :: rest)) := by
  subst hw
  exact u_iast 7 (pI z 7 i.toNatClampNeg v) X hP hS rfl (ax_7 cs ad z _) hin d k
theorem as_70 {i : Int32} {v : Int32} {w : Nat} (X : UC p s m args meth c cc nL own R fr lo D ad cs sd A) (hP : va_P D clss (wld cs ad z) H) (hS : va_S A s.heap H locs) (hw : i.toNatClampNeg = w) (hin : ¬ (i < 0 ∨ 12 ≤ i.toNatClampNeg)) (d : decode cc pc = .ok (.iastore, 1)) (k : ∀ (H : Heap) (locs : List Loc), va_P D clss (wld cs ad (pI z 70 w v)) H → va_S A s.heap H locs → W p l e R s m args below meth c H locs cells slots Q (F0 m (pc + 1) ls rest)) : W p l e R s m args below meth c H locs cells slots Q (F0 m pc ls (.int v :: .int i :: .ref (ad 70) :: rest)) := by
  subst hw
  exact u_iast 70 (pI z 70 i.toNatClampNeg v) X hP hS rfl (ax_70 cs ad z _) hin d k
theorem as_71 {i : Int32} {v : Int32} {w : Nat} (X : UC p s m args meth c cc nL own R fr lo D ad cs sd A) (hP : va_P D clss (wld cs ad z) H) (hS : va_S A s.heap H locs) (hw : i.toNatClampNeg = w) (hin : ¬ (i < 0 ∨ 4 ≤ i.toNatClampNeg)) (d : decode cc pc = .ok (.iastore, 1)) (k : ∀ (H : Heap) (locs : List Loc), va_P D clss (wld cs ad (pI z 71 w v)) H → va_S A s.heap H locs → W p l e R s m args below meth c H locs cells slots Q (F0 m (pc + 1) ls rest)) : W p l e R s m args below meth c H locs cells slots Q (F0 m pc ls (.int v :: .int i :: .ref (ad 71) :: rest)) := by
  subst hw
  exact u_iast 71 (pI z 71 i.toNatClampNeg v) X hP hS rfl (ax_71 cs ad z _) hin d k
theorem as_72 {i : Int32} {v : Int32} {w : Nat} (X : UC p s m args meth c cc nL own R fr lo D ad cs sd A) (hP : va_P D clss (wld cs ad z) H) (hS : va_S A s.heap H locs) (hw : i.toNatClampNeg = w) (hin : ¬ (i < 0 ∨ 3 ≤ i.toNatClampNeg)) (d : decode cc pc = .ok (.iastore, 1)) (k : ∀ (H : Heap) (locs : List Loc), va_P D clss (wld cs ad (pI z 72 w v)) H → va_S A s.heap H locs → W p l e R s m args below meth c H locs cells slots Q (F0 m (pc + 1) ls rest)) : W p l e R s m args below meth c H locs cells slots Q (F0 m pc ls (.int v :: .int i :: .ref (ad 72) :: rest)) := by
  subst hw
  exact u_iast 72 (pI z 72 i.toNatClampNeg v) X hP hS rfl (ax_72 cs ad z _) hin d k
theorem as_73 {i : Int32} {v : Int64} {w : Nat} (X : UC p s m args meth c cc nL own R fr lo D ad cs sd A) (hP : va_P D clss (wld cs ad z) H) (hS : va_S A s.heap H locs) (hw : i.toNatClampNeg = w) (hin : ¬ (i < 0 ∨ 11 ≤ i.toNatClampNeg)) (d : decode cc pc = .ok (.lastore, 1)) (k : ∀ (H : Heap) (locs : List Loc), va_P D clss (wld cs ad (pJ z 73 w v)) H → va_S A s.heap H locs → W p l e R s m args below meth c H locs cells slots Q (F0 m (pc + 1) ls rest)) : W p l e R s m args below meth c H locs cells slots Q (F0 m pc ls (.long v :: .int i :: .ref (ad 73) :: rest)) := by
  subst hw
  exact u_last 73 (pJ z 73 i.toNatClampNeg v) X hP hS rfl (ax_73 cs ad z _) hin d k
theorem as_74 {i : Int32} {v : Int32} {w : Nat} (X : UC p s m args meth c cc nL own R fr lo D ad cs sd A) (hP : va_P D clss (wld cs ad z) H) (hS : va_S A s.heap H locs) (hw : i.toNatClampNeg = w) (hin : ¬ (i < 0 ∨ 4 ≤ i.toNatClampNeg)) (d : decode cc pc = .ok (.iastore, 1)) (k : ∀ (H : Heap) (locs : List Loc), va_P D clss (wld cs ad (pI z 74 w v)) H → va_S A s.heap H locs → W p l e R s m args below meth c H locs cells slots Q (F0 m (pc + 1) ls rest)) : W p l e R s m args below meth c H locs cells slots Q (F0 m pc ls (.int v :: .int i :: .ref (ad 74) :: rest)) := by
  subst hw
  exact u_iast 74 (pI z 74 i.toNatClampNeg v) X hP hS rfl (ax_74 cs ad z _) hin d k
theorem as_75 {i : Int32} {v : Int32} {w : Nat} (X : UC p s m args meth c cc nL own R fr lo D ad cs sd A) (hP : va_P D clss (wld cs ad z) H) (hS : va_S A s.heap H locs) (hw : i.toNatClampNeg = w) (hin : ¬ (i < 0 ∨ 30 ≤ i.toNatClampNeg)) (d : decode cc pc = .ok (.iastore, 1)) (k : ∀ (H : Heap) (locs : List Loc), va_P D clss (wld cs ad (pI z 75 w v)) H → va_S A s.heap H locs → W p l e R s m args below meth c H locs cells slots Q (F0 m (pc + 1) ls rest)) : W p l e R s m args below meth c H locs cells slots Q (F0 m pc ls (.int v :: .int i :: .ref (ad 75) :: rest)) := by
  subst hw
  exact u_iast 75 (pI z 75 i.toNatClampNeg v) X hP hS rfl (ax_75 cs ad z _) hin d k
theorem as_76 {i : Int32} {v : Int32} {w : Nat} (X : UC p s m args meth c cc nL own R fr lo D ad cs sd A) (hP : va_P D clss (wld cs ad z) H) (hS : va_S A s.heap H locs) (hw : i.toNatClampNeg = w) (hin : ¬ (i < 0 ∨ 30 ≤ i.toNatClampNeg)) (d : decode cc pc = .ok (.iastore, 1)) (k : ∀ (H : Heap) (locs : List Loc), va_P D clss (wld cs ad (pI z 76 w v)) H → va_S A s.heap H locs → W p l e R s m args below meth c H locs cells slots Q (F0 m (pc + 1) ls rest)) : W p l e R s m args below meth c H locs cells slots Q (F0 m pc ls (.int v :: .int i :: .ref (ad 76) :: rest)) := by
  subst hw
  exact u_iast 76 (pI z 76 i.toNatClampNeg v) X hP hS rfl (ax_76 cs ad z _) hin d k
theorem as_77 {i : Int32} {v : Int32} {w : Nat} (X : UC p s m args meth c cc nL own R fr lo D ad cs sd A) (hP : va_P D clss (wld cs ad z) H) (hS : va_S A s.heap H locs) (hw : i.toNatClampNeg = w) (hin : ¬ (i < 0 ∨ 4 ≤ i.toNatClampNeg)) (d : decode cc pc = .ok (.iastore, 1)) (k : ∀ (H : Heap) (locs : List Loc), va_P D clss (wld cs ad (pI z 77 w v)) H → va_S A s.heap H locs → W p l e R s m args below meth c H locs cells slots Q (F0 m (pc + 1) ls rest)) : W p l e R s m args below meth c H locs cells slots Q (F0 m pc ls (.int v :: .int i :: .ref (ad 77) :: rest)) := by
  subst hw
  exact u_iast 77 (pI z 77 i.toNatClampNeg v) X hP hS rfl (ax_77 cs ad z _) hin d k
theorem as_78 {i : Int32} {v : Int32} {w : Nat} (X : UC p s m args meth c cc nL own R fr lo D ad cs sd A) (hP : va_P D clss (wld cs ad z) H) (hS : va_S A s.heap H locs) (hw : i.toNatClampNeg = w) (hin : ¬ (i < 0 ∨ 4 ≤ i.toNatClampNeg)) (d : decode cc pc = .ok (.iastore, 1)) (k : ∀ (H : Heap) (locs : List Loc), va_P D clss (wld cs ad (pI z 78 w v)) H → va_S A s.heap H locs → W p l e R s m args below meth c H locs cells slots Q (F0 m (pc + 1) ls rest)) : W p l e R s m args below meth c H locs cells slots Q (F0 m pc ls (.int v :: .int i :: .ref (ad 78) :: rest)) := by
  subst hw
  exact u_iast 78 (pI z 78 i.toNatClampNeg v) X hP hS rfl (ax_78 cs ad z _) hin d k
theorem as_79 {i : Int32} {v : Int64} {w : Nat} (X : UC p s m args meth c cc nL own R fr lo D ad cs sd A) (hP : va_P D clss (wld cs ad z) H) (hS : va_S A s.heap H locs) (hw : i.toNatClampNeg = w) (hin : ¬ (i < 0 ∨ 160 ≤ i.toNatClampNeg)) (d : decode cc pc = .ok (.lastore, 1)) (k : ∀ (H : Heap) (locs : List Loc), va_P D clss (wld cs ad (pJ z 79 w v)) H → va_S A s.heap H locs → W p l e R s m args below meth c H locs cells slots Q (F0 m (pc + 1) ls rest)) : W p l e R s m args below meth c H locs cells slots Q (F0 m pc ls (.long v :: .int i :: .ref (ad 79) :: rest)) := by
  subst hw
  exact u_last 79 (pJ z 79 i.toNatClampNeg v) X hP hS rfl (ax_79 cs ad z _) hin d k
theorem as_80 {i : Int32} {v : Int32} {w : Nat} (X : UC p s m args meth c cc nL own R fr lo D ad cs sd A) (hP : va_P D clss (wld cs ad z) H) (hS : va_S A s.heap H locs) (hw : i.toNatClampNeg = w) (hin : ¬ (i < 0 ∨ 4 ≤ i.toNatClampNeg)) (d : decode cc pc = .ok (.iastore, 1)) (k : ∀ (H : Heap) (locs : List Loc), va_P D clss (wld cs ad (pI z 80 w v)) H → va_S A s.heap H locs → W p l e R s m args below meth c H locs cells slots Q (F0 m (pc + 1) ls rest)) : W p l e R s m args below meth c H locs cells slots Q (F0 m pc ls (.int v :: .int i :: .ref (ad 80) :: rest)) := by
  subst hw
  exact u_iast 80 (pI z 80 i.toNatClampNeg v) X hP hS rfl (ax_80 cs ad z _) hin d k
theorem as_81 {i : Int32} {v : Int32} {w : Nat} (X : UC p s m args meth c cc nL own R fr lo D ad cs sd A) (hP : va_P D clss (wld cs ad z) H) (hS : va_S A s.heap H locs) (hw : i.toNatClampNeg = w) (hin : ¬ (i < 0 ∨ 4 ≤ i.toNatClampNeg)) (d : decode cc pc = .ok (.iastore, 1)) (k : ∀ (H : Heap) (locs : List Loc), va_P D clss (wld cs ad (pI z 81 w v)) H → va_S A s.heap H locs → W p l e R s m args below meth c H locs cells slots Q (F0 m (pc + 1) ls rest)) : W p l e R s m args below meth c H locs cells slots Q (F0 m pc ls (.int v :: .int i :: .ref (ad 81) :: rest)) := by
  subst hw
  exact u_iast 81 (pI z 81 i.toNatClampNeg v) X hP hS rfl (ax_81 cs ad z _) hin d k
theorem as_82 {i : Int32} {v : Int32} {w : Nat} (X : UC p s m args meth c cc nL own R fr lo D ad cs sd A) (hP : va_P D clss (wld cs ad z) H) (hS : va_S A s.heap H locs) (hw : i.toNatClampNeg = w) (hin : ¬ (i < 0 ∨ 4 ≤ i.toNatClampNeg)) (d : decode cc pc = .ok (.iastore, 1)) (k : ∀ (H : Heap) (locs : List Loc), va_P D clss (wld cs ad (pI z 82 w v)) H → va_S A s.heap H locs → W p l e R s m args below meth c H locs cells slots Q (F0 m (pc + 1) ls rest)) : W p l e R s m args below meth c H locs cells slots Q (F0 m pc ls (.int v :: .int i :: .ref (ad 82) :: rest)) := by
  subst hw
  exact u_iast 82 (pI z 82 i.toNatClampNeg v) X hP hS rfl (ax_82 cs ad z _) hin d k
theorem as_83 {i : Int32} {v : Int32} {w : Nat} (X : UC p s m args meth c cc nL own R fr lo D ad cs sd A) (hP : va_P D clss (wld cs ad z) H) (hS : va_S A s.heap H locs) (hw : i.toNatClampNeg = w) (hin : ¬ (i < 0 ∨ 30 ≤ i.toNatClampNeg)) (d : decode cc pc = .ok (.iastore, 1)) (k : ∀ (H : Heap) (locs : List Loc), va_P D clss (wld cs ad (pI z 83 w v)) H → va_S A s.heap H locs → W p l e R s m args below meth c H locs cells slots Q (F0 m (pc + 1) ls rest)) : W p l e R s m args below meth c H locs cells slots Q (F0 m pc ls (.int v :: .int i :: .ref (ad 83) :: rest)) := by
  subst hw
  exact u_iast 83 (pI z 83 i.toNatClampNeg v) X hP hS rfl (ax_83 cs ad z _) hin d k
theorem as_84 {i : Int32} {v : Int32} {w : Nat} (X : UC p s m args meth c cc nL own R fr lo D ad cs sd A) (hP : va_P D clss (wld cs ad z) H) (hS : va_S A s.heap H locs) (hw : i.toNatClampNeg = w) (hin : ¬ (i < 0 ∨ 200 ≤ i.toNatClampNeg)) (d : decode cc pc = .ok (.iastore, 1)) (k : ∀ (H : Heap) (locs : List Loc), va_P D clss (wld cs ad (pI z 84 w v)) H → va_S A s.heap H locs → W p l e R s m args below meth c H locs cells slots Q (F0 m (pc + 1) ls rest)) : W p l e R s m args below meth c H locs cells slots Q (F0 m pc ls (.int v :: .int i :: .ref (ad 84) :: rest)) := by
  subst hw
  exact u_iast 84 (pI z 84 i.toNatClampNeg v) X hP hS rfl (ax_84 cs ad z _) hin d k
theorem as_85 {i : Int32} {v : Int32} {w : Nat} (X : UC p s m args meth c cc nL own R fr lo D ad cs sd A) (hP : va_P D clss (wld cs ad z) H) (hS : va_S A s.heap H locs) (hw : i.toNatClampNeg = w) (hin : ¬ (i < 0 ∨ 4 ≤ i.toNatClampNeg)) (d : decode cc pc = .ok (.iastore, 1)) (k : ∀ (H : Heap) (locs : List Loc), va_P D clss (wld cs ad (pI z 85 w v)) H → va_S A s.heap H locs → W p l e R s m args below meth c H locs cells slots Q (F0 m (pc + 1) ls rest)) : W p l e R s m args below meth c H locs cells slots Q (F0 m pc ls (.int v :: .int i :: .ref (ad 85) :: rest)) := by
  subst hw
  exact u_iast 85 (pI z 85 i.toNatClampNeg v) X hP hS rfl (ax_85 cs ad z _) hin d k
theorem as_9 {i : Int32} {v : Int32} {w : Nat} (X : UC p s m args meth c cc nL own R fr lo D ad cs sd A) (hP : va_P D clss (wld cs ad z) H) (hS : va_S A s.heap H locs) (hw : i.toNatClampNeg = w) (hin : ¬ (i < 0 ∨ 200 ≤ i.toNatClampNeg)) (d : decode cc pc = .ok (.iastore, 1)) (k : ∀ (H : Heap) (locs : List Loc), va_P D clss (wld cs ad (pI z 9 w v)) H → va_S A s.heap H locs → W p l e R s m args below meth c H locs cells slots Q (F0 m (pc + 1) ls rest)) : W p l e R s m args below meth c H locs cells slots Q (F0 m pc ls (.int v :: .int i :: .ref (ad 9) :: rest)) := by
  subst hw
  exact u_iast 9 (pI z 9 i.toNatClampNeg v) X hP hS rfl (ax_9 cs ad z _) hin d k
theorem as_dyn22 {j : Nat} (hj : j < 3) {i : Int32} {v : Int32} {w : Nat} (X : UC p s m args meth c cc nL own R fr lo D ad cs sd A) (hP : va_P D clss (wld cs ad z) H) (hS : va_S A s.heap H locs) (hw : i.toNatClampNeg = w) (hin : ¬ (i < 0 ∨ 64 ≤ i.toNatClampNeg)) (d : decode cc pc = .ok (.iastore, 1)) (k : ∀ (H : Heap) (locs : List Loc), va_P D clss (wld cs ad (pI z (22 + j) w v)) H → va_S A s.heap H locs → W p l e R s m args below meth c H locs cells slots Q (F0 m (pc + 1) ls rest)) : W p l e R s m args below meth c H locs cells slots Q (F0 m pc ls (.int v :: .int i :: .ref (ad (22 + j)) :: rest)) := by
  subst hw
  exact u_iast (22 + j) (pI z (22 + j) i.toNatClampNeg v) X hP hS (en_dyn22 hj cs ad z) (st_dyn22 hj cs ad z _) hin d k
theorem as_dyn38 {j : Nat} (hj : j < 4) {i : Int32} {v : Int32} {w : Nat} (X : UC p s m args meth c cc nL own R fr lo D ad cs sd A) (hP : va_P D clss (wld cs ad z) H) (hS : va_S A s.heap H locs) (hw : i.toNatClampNeg = w) (hin : ¬ (i < 0 ∨ 40 ≤ i.toNatClampNeg)) (d : decode cc pc = .ok (.iastore, 1)) (k : ∀ (H : Heap) (locs : List Loc), va_P D clss (wld cs ad (pI z (38 + j) w v)) H → va_S A s.heap H locs → W p l e R s m args below meth c H locs cells slots Q (F0 m (pc + 1) ls rest)) : W p l e R s m args below meth c H locs cells slots Q (F0 m pc ls (.int v :: .int i :: .ref (ad (38 + j)) :: rest)) := by
  subst hw
  exact u_iast (38 + j) (pI z (38 + j) i.toNatClampNeg v) X hP hS (en_dyn38 hj cs ad z) (st_dyn38 hj cs ad z _) hin d k
theorem la_21 {i : Int32} (X : UC p s m args meth c cc nL own R fr lo D ad cs sd A) (hP : va_P D clss (wld cs ad z) H) (hin : ¬ (i < 0 ∨ 3 ≤ i.toNatClampNeg)) (d : decode cc pc = .ok (.aaload, 1)) (k : W p l e R s m args below meth c H locs cells slots Q (F0 m (pc + 1) ls (.ref (ad (22 + i.toNatClampNeg)) :: rest))) : W p l e R s m args below meth c H locs cells slots Q (F0 m pc ls (.int i :: .ref (ad 21) :: rest)) := u_aald (i0 := 21) X hP rfl hin d (if_pos (vp_lt hin)) k
theorem la_37 {i : Int32} (X : UC p s m args meth c cc nL own R fr lo D ad cs sd A) (hP : va_P D clss (wld cs ad z) H) (hin : ¬ (i < 0 ∨ 4 ≤ i.toNatClampNeg)) (d : decode cc pc = .ok (.aaload, 1)) (k : W p l e R s m args below meth c H locs cells slots Q (F0 m (pc + 1) ls (.ref (ad (38 + i.toNatClampNeg)) :: rest))) : W p l e R s m args below meth c H locs cells slots Q (F0 m pc ls (.int i :: .ref (ad 37) :: rest)) := u_aald (i0 := 37) X hP rfl hin d (if_pos (vp_lt hin)) k
end UFLD
end
section
theorem dX2_init_0 : decode cX2_init 0 = .ok (.aload_n 0, 1) := by decide +kernel
theorem dX2_init_1 : decode cX2_init 1 = .ok (.invokespecial 3, 3) := by decide +kernel
theorem dX2_init_4 : decode cX2_init 4 = .ok (.aload_n 0, 1) := by decide +kernel
theorem dX2_init_5 : decode cX2_init 5 = .ok (.iconst 0, 1) := by decide +kernel
theorem dX2_init_6 : decode cX2_init 6 = .ok (.putfield 9, 3) := by decide +kernel
theorem dX2_init_9 : decode cX2_init 9 = .ok (.aload_n 0, 1) := by decide +kernel
theorem dX2_init_10 : decode cX2_init 10 = .ok (.iconst 0, 1) := by decide +kernel
theorem dX2_init_11 : decode cX2_init 11 = .ok (.putfield 15, 3) := by decide +kernel
theorem dX2_init_14 : decode cX2_init 14 = .ok (.aload_n 0, 1) := by decide +kernel
theorem dX2_init_15 : decode cX2_init 15 = .ok (.bipush 8, 2) := by decide +kernel
theorem dX2_init_17 : decode cX2_init 17 = .ok (.newarray .int, 2) := by decide +kernel
theorem dX2_init_19 : decode cX2_init 19 = .ok (.putfield 18, 3) := by decide +kernel
theorem dX2_init_22 : decode cX2_init 22 = .ok (.aload_n 0, 1) := by decide +kernel
theorem dX2_init_23 : decode cX2_init 23 = .ok (.bipush 8, 2) := by decide +kernel
theorem dX2_init_25 : decode cX2_init 25 = .ok (.newarray .int, 2) := by decide +kernel
theorem dX2_init_27 : decode cX2_init 27 = .ok (.putfield 22, 3) := by decide +kernel
theorem dX2_init_30 : decode cX2_init 30 = .ok (.aload_n 0, 1) := by decide +kernel
theorem dX2_init_31 : decode cX2_init 31 = .ok (.bipush 64, 2) := by decide +kernel
theorem dX2_init_33 : decode cX2_init 33 = .ok (.newarray .int, 2) := by decide +kernel
theorem dX2_init_35 : decode cX2_init 35 = .ok (.putfield 25, 3) := by decide +kernel
theorem dX2_init_38 : decode cX2_init 38 = .ok (.aload_n 0, 1) := by decide +kernel
theorem dX2_init_39 : decode cX2_init 39 = .ok (.bipush 8, 2) := by decide +kernel
theorem dX2_init_41 : decode cX2_init 41 = .ok (.newarray .int, 2) := by decide +kernel
theorem dX2_init_43 : decode cX2_init 43 = .ok (.putfield 28, 3) := by decide +kernel
theorem dX2_init_46 : decode cX2_init 46 = .ok (.aload_n 0, 1) := by decide +kernel
theorem dX2_init_47 : decode cX2_init 47 = .ok (.bipush 40, 2) := by decide +kernel
theorem dX2_init_49 : decode cX2_init 49 = .ok (.newarray .int, 2) := by decide +kernel
theorem dX2_init_51 : decode cX2_init 51 = .ok (.putfield 31, 3) := by decide +kernel
theorem dX2_init_54 : decode cX2_init 54 = .ok (.aload_n 0, 1) := by decide +kernel
theorem dX2_init_55 : decode cX2_init 55 = .ok (.bipush 10, 2) := by decide +kernel
theorem dX2_init_57 : decode cX2_init 57 = .ok (.newarray .int, 2) := by decide +kernel
theorem dX2_init_59 : decode cX2_init 59 = .ok (.putfield 34, 3) := by decide +kernel
theorem dX2_init_62 : decode cX2_init 62 = .ok (.getstatic 37, 3) := by decide +kernel
theorem dX2_init_65 : decode cX2_init 65 = .ok (.iconst 0, 1) := by decide +kernel
theorem dX2_init_66 : decode cX2_init 66 = .ok (.aload_n 0, 1) := by decide +kernel
theorem dX2_init_67 : decode cX2_init 67 = .ok (.getfield 28, 3) := by decide +kernel
theorem dX2_init_70 : decode cX2_init 70 = .ok (.iconst 0, 1) := by decide +kernel
theorem dX2_init_71 : decode cX2_init 71 = .ok (.bipush 8, 2) := by decide +kernel
theorem dX2_init_73 : decode cX2_init 73 = .ok (.invokestatic 40, 3) := by decide +kernel
theorem dX2_init_76 : decode cX2_init 76 = .ok (.aload_n 0, 1) := by decide +kernel
theorem dX2_init_77 : decode cX2_init 77 = .ok (.getfield 31, 3) := by decide +kernel
theorem dX2_init_80 : decode cX2_init 80 = .ok (.iconst (-1), 1) := by decide +kernel
theorem dX2_init_81 : decode cX2_init 81 = .ok (.invokestatic 46, 3) := by decide +kernel
theorem dX2_init_84 : decode cX2_init 84 = .ok (.return_, 1) := by decide +kernel
theorem dX2_pairOf_0 : decode cX2_pairOf 0 = .ok (.iload_n 0, 1) := by decide +kernel
theorem dX2_pairOf_1 : decode cX2_pairOf 1 = .ok (.iload_n 1, 1) := by decide +kernel
theorem dX2_pairOf_2 : decode cX2_pairOf 2 = .ok (.if_icmp .ge 12, 3) := by decide +kernel
theorem dX2_pairOf_5 : decode cX2_pairOf 5 = .ok (.bipush 8, 2) := by decide +kernel
theorem dX2_pairOf_7 : decode cX2_pairOf 7 = .ok (.iload_n 0, 1) := by decide +kernel
theorem dX2_pairOf_8 : decode cX2_pairOf 8 = .ok (.imul, 1) := by decide +kernel
theorem dX2_pairOf_9 : decode cX2_pairOf 9 = .ok (.iload_n 1, 1) := by decide +kernel
theorem dX2_pairOf_10 : decode cX2_pairOf 10 = .ok (.iadd, 1) := by decide +kernel
theorem dX2_pairOf_11 : decode cX2_pairOf 11 = .ok (.goto 9, 3) := by decide +kernel
theorem dX2_pairOf_14 : decode cX2_pairOf 14 = .ok (.bipush 8, 2) := by decide +kernel
theorem dX2_pairOf_16 : decode cX2_pairOf 16 = .ok (.iload_n 1, 1) := by decide +kernel
theorem dX2_pairOf_17 : decode cX2_pairOf 17 = .ok (.imul, 1) := by decide +kernel
theorem dX2_pairOf_18 : decode cX2_pairOf 18 = .ok (.iload_n 0, 1) := by decide +kernel
theorem dX2_pairOf_19 : decode cX2_pairOf 19 = .ok (.iadd, 1) := by decide +kernel
theorem dX2_pairOf_20 : decode cX2_pairOf 20 = .ok (.ireturn, 1) := by decide +kernel
theorem dX2_become_0 : decode cX2_become 0 = .ok (.aload_n 0, 1) := by decide +kernel
theorem dX2_become_1 : decode cX2_become 1 = .ok (.aload_n 1, 1) := by decide +kernel
theorem dX2_become_2 : decode cX2_become 2 = .ok (.getfield 9, 3) := by decide +kernel
theorem dX2_become_5 : decode cX2_become 5 = .ok (.putfield 9, 3) := by decide +kernel
theorem dX2_become_8 : decode cX2_become 8 = .ok (.aload_n 0, 1) := by decide +kernel
theorem dX2_become_9 : decode cX2_become 9 = .ok (.aload_n 1, 1) := by decide +kernel
theorem dX2_become_10 : decode cX2_become 10 = .ok (.getfield 15, 3) := by decide +kernel
theorem dX2_become_13 : decode cX2_become 13 = .ok (.putfield 15, 3) := by decide +kernel
theorem dX2_become_16 : decode cX2_become 16 = .ok (.aload_n 1, 1) := by decide +kernel
theorem dX2_become_17 : decode cX2_become 17 = .ok (.getfield 18, 3) := by decide +kernel
theorem dX2_become_20 : decode cX2_become 20 = .ok (.iconst 0, 1) := by decide +kernel
theorem dX2_become_21 : decode cX2_become 21 = .ok (.aload_n 0, 1) := by decide +kernel
theorem dX2_become_22 : decode cX2_become 22 = .ok (.getfield 18, 3) := by decide +kernel
theorem dX2_become_25 : decode cX2_become 25 = .ok (.iconst 0, 1) := by decide +kernel
theorem dX2_become_26 : decode cX2_become 26 = .ok (.bipush 8, 2) := by decide +kernel
theorem dX2_become_28 : decode cX2_become 28 = .ok (.invokestatic 40, 3) := by decide +kernel
theorem dX2_become_31 : decode cX2_become 31 = .ok (.aload_n 1, 1) := by decide +kernel
theorem dX2_become_32 : decode cX2_become 32 = .ok (.getfield 22, 3) := by decide +kernel
theorem dX2_become_35 : decode cX2_become 35 = .ok (.iconst 0, 1) := by decide +kernel
theorem dX2_become_36 : decode cX2_become 36 = .ok (.aload_n 0, 1) := by decide +kernel
theorem dX2_become_37 : decode cX2_become 37 = .ok (.getfield 22, 3) := by decide +kernel
theorem dX2_become_40 : decode cX2_become 40 = .ok (.iconst 0, 1) := by decide +kernel
theorem dX2_become_41 : decode cX2_become 41 = .ok (.bipush 8, 2) := by decide +kernel
theorem dX2_become_43 : decode cX2_become 43 = .ok (.invokestatic 40, 3) := by decide +kernel
theorem dX2_become_46 : decode cX2_become 46 = .ok (.aload_n 1, 1) := by decide +kernel
theorem dX2_become_47 : decode cX2_become 47 = .ok (.getfield 25, 3) := by decide +kernel
theorem dX2_become_50 : decode cX2_become 50 = .ok (.iconst 0, 1) := by decide +kernel
theorem dX2_become_51 : decode cX2_become 51 = .ok (.aload_n 0, 1) := by decide +kernel
theorem dX2_become_52 : decode cX2_become 52 = .ok (.getfield 25, 3) := by decide +kernel
theorem dX2_become_55 : decode cX2_become 55 = .ok (.iconst 0, 1) := by decide +kernel
theorem dX2_become_56 : decode cX2_become 56 = .ok (.bipush 64, 2) := by decide +kernel
theorem dX2_become_58 : decode cX2_become 58 = .ok (.invokestatic 40, 3) := by decide +kernel
theorem dX2_become_61 : decode cX2_become 61 = .ok (.aload_n 1, 1) := by decide +kernel
theorem dX2_become_62 : decode cX2_become 62 = .ok (.getfield 28, 3) := by decide +kernel
theorem dX2_become_65 : decode cX2_become 65 = .ok (.iconst 0, 1) := by decide +kernel
theorem dX2_become_66 : decode cX2_become 66 = .ok (.aload_n 0, 1) := by decide +kernel
theorem dX2_become_67 : decode cX2_become 67 = .ok (.getfield 28, 3) := by decide +kernel
theorem dX2_become_70 : decode cX2_become 70 = .ok (.iconst 0, 1) := by decide +kernel
theorem dX2_become_71 : decode cX2_become 71 = .ok (.bipush 8, 2) := by decide +kernel
theorem dX2_become_73 : decode cX2_become 73 = .ok (.invokestatic 40, 3) := by decide +kernel
theorem dX2_become_76 : decode cX2_become 76 = .ok (.aload_n 1, 1) := by decide +kernel
theorem dX2_become_77 : decode cX2_become 77 = .ok (.getfield 31, 3) := by decide +kernel
theorem dX2_become_80 : decode cX2_become 80 = .ok (.iconst 0, 1) := by decide +kernel
theorem dX2_become_81 : decode cX2_become 81 = .ok (.aload_n 0, 1) := by decide +kernel
theorem dX2_become_82 : decode cX2_become 82 = .ok (.getfield 31, 3) := by decide +kernel
theorem dX2_become_85 : decode cX2_become 85 = .ok (.iconst 0, 1) := by decide +kernel
theorem dX2_become_86 : decode cX2_become 86 = .ok (.bipush 40, 2) := by decide +kernel
theorem dX2_become_88 : decode cX2_become 88 = .ok (.invokestatic 40, 3) := by decide +kernel
theorem dX2_become_91 : decode cX2_become 91 = .ok (.aload_n 1, 1) := by decide +kernel
theorem dX2_become_92 : decode cX2_become 92 = .ok (.getfield 34, 3) := by decide +kernel
theorem dX2_become_95 : decode cX2_become 95 = .ok (.iconst 0, 1) := by decide +kernel
theorem dX2_become_96 : decode cX2_become 96 = .ok (.aload_n 0, 1) := by decide +kernel
theorem dX2_become_97 : decode cX2_become 97 = .ok (.getfield 34, 3) := by decide +kernel
theorem dX2_become_100 : decode cX2_become 100 = .ok (.iconst 0, 1) := by decide +kernel
theorem dX2_become_101 : decode cX2_become 101 = .ok (.bipush 10, 2) := by decide +kernel
theorem dX2_become_103 : decode cX2_become 103 = .ok (.invokestatic 40, 3) := by decide +kernel
theorem dX2_become_106 : decode cX2_become 106 = .ok (.return_, 1) := by decide +kernel
theorem dX2_emptyBut_0 : decode cX2_emptyBut 0 = .ok (.aload_n 0, 1) := by decide +kernel
theorem dX2_emptyBut_1 : decode cX2_emptyBut 1 = .ok (.iconst 0, 1) := by decide +kernel
theorem dX2_emptyBut_2 : decode cX2_emptyBut 2 = .ok (.putfield 9, 3) := by decide +kernel
theorem dX2_emptyBut_5 : decode cX2_emptyBut 5 = .ok (.aload_n 0, 1) := by decide +kernel
theorem dX2_emptyBut_6 : decode cX2_emptyBut 6 = .ok (.iconst 0, 1) := by decide +kernel
theorem dX2_emptyBut_7 : decode cX2_emptyBut 7 = .ok (.putfield 15, 3) := by decide +kernel
theorem dX2_emptyBut_10 : decode cX2_emptyBut 10 = .ok (.aload_n 0, 1) := by decide +kernel
theorem dX2_emptyBut_11 : decode cX2_emptyBut 11 = .ok (.getfield 18, 3) := by decide +kernel
theorem dX2_emptyBut_14 : decode cX2_emptyBut 14 = .ok (.iconst 0, 1) := by decide +kernel
theorem dX2_emptyBut_15 : decode cX2_emptyBut 15 = .ok (.invokestatic 46, 3) := by decide +kernel
theorem dX2_emptyBut_18 : decode cX2_emptyBut 18 = .ok (.aload_n 0, 1) := by decide +kernel
theorem dX2_emptyBut_19 : decode cX2_emptyBut 19 = .ok (.getfield 22, 3) := by decide +kernel
theorem dX2_emptyBut_22 : decode cX2_emptyBut 22 = .ok (.iconst 0, 1) := by decide +kernel
theorem dX2_emptyBut_23 : decode cX2_emptyBut 23 = .ok (.invokestatic 46, 3) := by decide +kernel
theorem dX2_emptyBut_26 : decode cX2_emptyBut 26 = .ok (.aload_n 0, 1) := by decide +kernel
theorem dX2_emptyBut_27 : decode cX2_emptyBut 27 = .ok (.getfield 25, 3) := by decide +kernel
theorem dX2_emptyBut_30 : decode cX2_emptyBut 30 = .ok (.iconst 0, 1) := by decide +kernel
theorem dX2_emptyBut_31 : decode cX2_emptyBut 31 = .ok (.invokestatic 46, 3) := by decide +kernel
theorem dX2_emptyBut_34 : decode cX2_emptyBut 34 = .ok (.aload_n 1, 1) := by decide +kernel
theorem dX2_emptyBut_35 : decode cX2_emptyBut 35 = .ok (.iconst 0, 1) := by decide +kernel
theorem dX2_emptyBut_36 : decode cX2_emptyBut 36 = .ok (.aload_n 0, 1) := by decide +kernel
theorem dX2_emptyBut_37 : decode cX2_emptyBut 37 = .ok (.getfield 28, 3) := by decide +kernel
theorem dX2_emptyBut_40 : decode cX2_emptyBut 40 = .ok (.iconst 0, 1) := by decide +kernel
theorem dX2_emptyBut_41 : decode cX2_emptyBut 41 = .ok (.bipush 8, 2) := by decide +kernel
theorem dX2_emptyBut_43 : decode cX2_emptyBut 43 = .ok (.invokestatic 40, 3) := by decide +kernel
theorem dX2_emptyBut_46 : decode cX2_emptyBut 46 = .ok (.aload_n 0, 1) := by decide +kernel
theorem dX2_emptyBut_47 : decode cX2_emptyBut 47 = .ok (.getfield 31, 3) := by decide +kernel
theorem dX2_emptyBut_50 : decode cX2_emptyBut 50 = .ok (.iconst (-1), 1) := by decide +kernel
theorem dX2_emptyBut_51 : decode cX2_emptyBut 51 = .ok (.invokestatic 46, 3) := by decide +kernel
theorem dX2_emptyBut_54 : decode cX2_emptyBut 54 = .ok (.aload_n 0, 1) := by decide +kernel
theorem dX2_emptyBut_55 : decode cX2_emptyBut 55 = .ok (.getfield 34, 3) := by decide +kernel
theorem dX2_emptyBut_58 : decode cX2_emptyBut 58 = .ok (.iconst 0, 1) := by decide +kernel
theorem dX2_emptyBut_59 : decode cX2_emptyBut 59 = .ok (.invokestatic 46, 3) := by decide +kernel
theorem dX2_emptyBut_62 : decode cX2_emptyBut 62 = .ok (.return_, 1) := by decide +kernel
theorem dX2_isPerson_0 : decode cX2_isPerson 0 = .ok (.iload_n 1, 1) := by decide +kernel
theorem dX2_isPerson_1 : decode cX2_isPerson 1 = .ok (.ifCond .lt 15, 3) := by decide +kernel
theorem dX2_isPerson_4 : decode cX2_isPerson 4 = .ok (.iload_n 1, 1) := by decide +kernel
theorem dX2_isPerson_5 : decode cX2_isPerson 5 = .ok (.aload_n 0, 1) := by decide +kernel
theorem dX2_isPerson_6 : decode cX2_isPerson 6 = .ok (.getfield 9, 3) := by decide +kernel
theorem dX2_isPerson_9 : decode cX2_isPerson 9 = .ok (.if_icmp .ge 7, 3) := by decide +kernel
theorem dX2_isPerson_12 : decode cX2_isPerson 12 = .ok (.iconst 1, 1) := by decide +kernel
theorem dX2_isPerson_13 : decode cX2_isPerson 13 = .ok (.goto 4, 3) := by decide +kernel
theorem dX2_isPerson_16 : decode cX2_isPerson 16 = .ok (.iconst 0, 1) := by decide +kernel
theorem dX2_isPerson_17 : decode cX2_isPerson 17 = .ok (.ireturn, 1) := by decide +kernel
theorem dX2_areTwo_0 : decode cX2_areTwo 0 = .ok (.aload_n 0, 1) := by decide +kernel
theorem dX2_areTwo_1 : decode cX2_areTwo 1 = .ok (.iload_n 1, 1) := by decide +kernel
theorem dX2_areTwo_2 : decode cX2_areTwo 2 = .ok (.invokevirtual 52, 3) := by decide +kernel
theorem dX2_areTwo_5 : decode cX2_areTwo 5 = .ok (.ifCond .eq 20, 3) := by decide +kernel
theorem dX2_areTwo_8 : decode cX2_areTwo 8 = .ok (.aload_n 0, 1) := by decide +kernel
theorem dX2_areTwo_9 : decode cX2_areTwo 9 = .ok (.iload_n 2, 1) := by decide +kernel
theorem dX2_areTwo_10 : decode cX2_areTwo 10 = .ok (.invokevirtual 52, 3) := by decide +kernel
theorem dX2_areTwo_13 : decode cX2_areTwo 13 = .ok (.ifCond .eq 12, 3) := by decide +kernel
theorem dX2_areTwo_16 : decode cX2_areTwo 16 = .ok (.iload_n 1, 1) := by decide +kernel
theorem dX2_areTwo_17 : decode cX2_areTwo 17 = .ok (.iload_n 2, 1) := by decide +kernel
theorem dX2_areTwo_18 : decode cX2_areTwo 18 = .ok (.if_icmp .eq 7, 3) := by decide +kernel
theorem dX2_areTwo_21 : decode cX2_areTwo 21 = .ok (.iconst 1, 1) := by decide +kernel
theorem dX2_areTwo_22 : decode cX2_areTwo 22 = .ok (.goto 4, 3) := by decide +kernel
theorem dX2_areTwo_25 : decode cX2_areTwo 25 = .ok (.iconst 0, 1) := by decide +kernel
theorem dX2_areTwo_26 : decode cX2_areTwo 26 = .ok (.ireturn, 1) := by decide +kernel
theorem dX2_addPerson_0 : decode cX2_addPerson 0 = .ok (.aload_n 0, 1) := by decide +kernel
theorem dX2_addPerson_1 : decode cX2_addPerson 1 = .ok (.dup, 1) := by decide +kernel
theorem dX2_addPerson_2 : decode cX2_addPerson 2 = .ok (.getfield 9, 3) := by decide +kernel
theorem dX2_addPerson_5 : decode cX2_addPerson 5 = .ok (.iconst 1, 1) := by decide +kernel
theorem dX2_addPerson_6 : decode cX2_addPerson 6 = .ok (.iadd, 1) := by decide +kernel
theorem dX2_addPerson_7 : decode cX2_addPerson 7 = .ok (.putfield 9, 3) := by decide +kernel
theorem dX2_addPerson_10 : decode cX2_addPerson 10 = .ok (.aload_n 0, 1) := by decide +kernel
theorem dX2_addPerson_11 : decode cX2_addPerson 11 = .ok (.getfield 9, 3) := by decide +kernel
theorem dX2_addPerson_14 : decode cX2_addPerson 14 = .ok (.iconst 1, 1) := by decide +kernel
theorem dX2_addPerson_15 : decode cX2_addPerson 15 = .ok (.isub, 1) := by decide +kernel
theorem dX2_addPerson_16 : decode cX2_addPerson 16 = .ok (.ireturn, 1) := by decide +kernel
theorem dX2_setKin_0 : decode cX2_setKin 0 = .ok (.aload_n 0, 1) := by decide +kernel
theorem dX2_setKin_1 : decode cX2_setKin 1 = .ok (.iload_n 1, 1) := by decide +kernel
theorem dX2_setKin_2 : decode cX2_setKin 2 = .ok (.iload_n 2, 1) := by decide +kernel
theorem dX2_setKin_3 : decode cX2_setKin 3 = .ok (.invokevirtual 56, 3) := by decide +kernel
theorem dX2_setKin_6 : decode cX2_setKin 6 = .ok (.iload_n 3, 1) := by decide +kernel
theorem dX2_setKin_7 : decode cX2_setKin 7 = .ok (.if_icmp .ne 5, 3) := by decide +kernel
theorem dX2_setKin_10 : decode cX2_setKin 10 = .ok (.iconst 0, 1) := by decide +kernel
theorem dX2_setKin_11 : decode cX2_setKin 11 = .ok (.ireturn, 1) := by decide +kernel
theorem dX2_setKin_12 : decode cX2_setKin 12 = .ok (.aload_n 0, 1) := by decide +kernel
theorem dX2_setKin_13 : decode cX2_setKin 13 = .ok (.getfield 18, 3) := by decide +kernel
theorem dX2_setKin_16 : decode cX2_setKin 16 = .ok (.iload_n 1, 1) := by decide +kernel
theorem dX2_setKin_17 : decode cX2_setKin 17 = .ok (.dup2, 1) := by decide +kernel
theorem dX2_setKin_18 : decode cX2_setKin 18 = .ok (.iaload, 1) := by decide +kernel
theorem dX2_setKin_19 : decode cX2_setKin 19 = .ok (.iconst 1, 1) := by decide +kernel
theorem dX2_setKin_20 : decode cX2_setKin 20 = .ok (.iload_n 2, 1) := by decide +kernel
theorem dX2_setKin_21 : decode cX2_setKin 21 = .ok (.ishl, 1) := by decide +kernel
theorem dX2_setKin_22 : decode cX2_setKin 22 = .ok (.ixor, 1) := by decide +kernel
theorem dX2_setKin_23 : decode cX2_setKin 23 = .ok (.iastore, 1) := by decide +kernel
theorem dX2_setKin_24 : decode cX2_setKin 24 = .ok (.aload_n 0, 1) := by decide +kernel
theorem dX2_setKin_25 : decode cX2_setKin 25 = .ok (.getfield 18, 3) := by decide +kernel
theorem dX2_setKin_28 : decode cX2_setKin 28 = .ok (.iload_n 2, 1) := by decide +kernel
theorem dX2_setKin_29 : decode cX2_setKin 29 = .ok (.dup2, 1) := by decide +kernel
theorem dX2_setKin_30 : decode cX2_setKin 30 = .ok (.iaload, 1) := by decide +kernel
theorem dX2_setKin_31 : decode cX2_setKin 31 = .ok (.iconst 1, 1) := by decide +kernel
theorem dX2_setKin_32 : decode cX2_setKin 32 = .ok (.iload_n 1, 1) := by decide +kernel
theorem dX2_setKin_33 : decode cX2_setKin 33 = .ok (.ishl, 1) := by decide +kernel
theorem dX2_setKin_34 : decode cX2_setKin 34 = .ok (.ixor, 1) := by decide +kernel
theorem dX2_setKin_35 : decode cX2_setKin 35 = .ok (.iastore, 1) := by decide +kernel
theorem dX2_setKin_36 : decode cX2_setKin 36 = .ok (.iconst 1, 1) := by decide +kernel
theorem dX2_setKin_37 : decode cX2_setKin 37 = .ok (.ireturn, 1) := by decide +kernel
theorem dX2_areKin_0 : decode cX2_areKin 0 = .ok (.aload_n 0, 1) := by decide +kernel
theorem dX2_areKin_1 : decode cX2_areKin 1 = .ok (.getfield 18, 3) := by decide +kernel
theorem dX2_areKin_4 : decode cX2_areKin 4 = .ok (.iload_n 1, 1) := by decide +kernel
theorem dX2_areKin_5 : decode cX2_areKin 5 = .ok (.iaload, 1) := by decide +kernel
theorem dX2_areKin_6 : decode cX2_areKin 6 = .ok (.iload_n 2, 1) := by decide +kernel
theorem dX2_areKin_7 : decode cX2_areKin 7 = .ok (.ishr, 1) := by decide +kernel
theorem dX2_areKin_8 : decode cX2_areKin 8 = .ok (.iconst 1, 1) := by decide +kernel
theorem dX2_areKin_9 : decode cX2_areKin 9 = .ok (.iand, 1) := by decide +kernel
theorem dX2_areKin_10 : decode cX2_areKin 10 = .ok (.iconst 1, 1) := by decide +kernel
theorem dX2_areKin_11 : decode cX2_areKin 11 = .ok (.if_icmp .ne 7, 3) := by decide +kernel
theorem dX2_areKin_14 : decode cX2_areKin 14 = .ok (.iconst 1, 1) := by decide +kernel
theorem dX2_areKin_15 : decode cX2_areKin 15 = .ok (.goto 4, 3) := by decide +kernel
theorem dX2_areKin_18 : decode cX2_areKin 18 = .ok (.iconst 0, 1) := by decide +kernel
theorem dX2_areKin_19 : decode cX2_areKin 19 = .ok (.ireturn, 1) := by decide +kernel
theorem dX2_setAway_0 : decode cX2_setAway 0 = .ok (.aload_n 0, 1) := by decide +kernel
theorem dX2_setAway_1 : decode cX2_setAway 1 = .ok (.iload_n 1, 1) := by decide +kernel
theorem dX2_setAway_2 : decode cX2_setAway 2 = .ok (.iload_n 2, 1) := by decide +kernel
theorem dX2_setAway_3 : decode cX2_setAway 3 = .ok (.invokevirtual 60, 3) := by decide +kernel
theorem dX2_setAway_6 : decode cX2_setAway 6 = .ok (.iload_n 3, 1) := by decide +kernel
theorem dX2_setAway_7 : decode cX2_setAway 7 = .ok (.if_icmp .ne 5, 3) := by decide +kernel
theorem dX2_setAway_10 : decode cX2_setAway 10 = .ok (.iconst 0, 1) := by decide +kernel
theorem dX2_setAway_11 : decode cX2_setAway 11 = .ok (.ireturn, 1) := by decide +kernel
theorem dX2_setAway_12 : decode cX2_setAway 12 = .ok (.aload_n 0, 1) := by decide +kernel
theorem dX2_setAway_13 : decode cX2_setAway 13 = .ok (.getfield 22, 3) := by decide +kernel
theorem dX2_setAway_16 : decode cX2_setAway 16 = .ok (.iload_n 1, 1) := by decide +kernel
theorem dX2_setAway_17 : decode cX2_setAway 17 = .ok (.dup2, 1) := by decide +kernel
theorem dX2_setAway_18 : decode cX2_setAway 18 = .ok (.iaload, 1) := by decide +kernel
theorem dX2_setAway_19 : decode cX2_setAway 19 = .ok (.iconst 1, 1) := by decide +kernel
theorem dX2_setAway_20 : decode cX2_setAway 20 = .ok (.iload_n 2, 1) := by decide +kernel
theorem dX2_setAway_21 : decode cX2_setAway 21 = .ok (.ishl, 1) := by decide +kernel
theorem dX2_setAway_22 : decode cX2_setAway 22 = .ok (.ixor, 1) := by decide +kernel
theorem dX2_setAway_23 : decode cX2_setAway 23 = .ok (.iastore, 1) := by decide +kernel
theorem dX2_setAway_24 : decode cX2_setAway 24 = .ok (.iconst 1, 1) := by decide +kernel
theorem dX2_setAway_25 : decode cX2_setAway 25 = .ok (.ireturn, 1) := by decide +kernel
theorem dX2_isAway_0 : decode cX2_isAway 0 = .ok (.aload_n 0, 1) := by decide +kernel
theorem dX2_isAway_1 : decode cX2_isAway 1 = .ok (.getfield 22, 3) := by decide +kernel
theorem dX2_isAway_4 : decode cX2_isAway 4 = .ok (.iload_n 1, 1) := by decide +kernel
theorem dX2_isAway_5 : decode cX2_isAway 5 = .ok (.iaload, 1) := by decide +kernel
theorem dX2_isAway_6 : decode cX2_isAway 6 = .ok (.iload_n 2, 1) := by decide +kernel
theorem dX2_isAway_7 : decode cX2_isAway 7 = .ok (.ishr, 1) := by decide +kernel
theorem dX2_isAway_8 : decode cX2_isAway 8 = .ok (.iconst 1, 1) := by decide +kernel
theorem dX2_isAway_9 : decode cX2_isAway 9 = .ok (.iand, 1) := by decide +kernel
theorem dX2_isAway_10 : decode cX2_isAway 10 = .ok (.iconst 1, 1) := by decide +kernel
theorem dX2_isAway_11 : decode cX2_isAway 11 = .ok (.if_icmp .ne 7, 3) := by decide +kernel
theorem dX2_isAway_14 : decode cX2_isAway 14 = .ok (.iconst 1, 1) := by decide +kernel
theorem dX2_isAway_15 : decode cX2_isAway 15 = .ok (.goto 4, 3) := by decide +kernel
theorem dX2_isAway_18 : decode cX2_isAway 18 = .ok (.iconst 0, 1) := by decide +kernel
theorem dX2_isAway_19 : decode cX2_isAway 19 = .ok (.ireturn, 1) := by decide +kernel
theorem dX2_setSurprise_0 : decode cX2_setSurprise 0 = .ok (.aload_n 0, 1) := by decide +kernel
theorem dX2_setSurprise_1 : decode cX2_setSurprise 1 = .ok (.iload_n 1, 1) := by decide +kernel
theorem dX2_setSurprise_2 : decode cX2_setSurprise 2 = .ok (.invokevirtual 63, 3) := by decide +kernel
theorem dX2_setSurprise_5 : decode cX2_setSurprise 5 = .ok (.iload_n 2, 1) := by decide +kernel
theorem dX2_setSurprise_6 : decode cX2_setSurprise 6 = .ok (.if_icmp .ne 5, 3) := by decide +kernel
theorem dX2_setSurprise_9 : decode cX2_setSurprise 9 = .ok (.iconst 0, 1) := by decide +kernel
theorem dX2_setSurprise_10 : decode cX2_setSurprise 10 = .ok (.ireturn, 1) := by decide +kernel
theorem dX2_setSurprise_11 : decode cX2_setSurprise 11 = .ok (.aload_n 0, 1) := by decide +kernel
theorem dX2_setSurprise_12 : decode cX2_setSurprise 12 = .ok (.dup, 1) := by decide +kernel
theorem dX2_setSurprise_13 : decode cX2_setSurprise 13 = .ok (.getfield 15, 3) := by decide +kernel
theorem dX2_setSurprise_16 : decode cX2_setSurprise 16 = .ok (.iconst 1, 1) := by decide +kernel
theorem dX2_setSurprise_17 : decode cX2_setSurprise 17 = .ok (.iload_n 1, 1) := by decide +kernel
theorem dX2_setSurprise_18 : decode cX2_setSurprise 18 = .ok (.ishl, 1) := by decide +kernel
theorem dX2_setSurprise_19 : decode cX2_setSurprise 19 = .ok (.ixor, 1) := by decide +kernel
theorem dX2_setSurprise_20 : decode cX2_setSurprise 20 = .ok (.putfield 15, 3) := by decide +kernel
theorem dX2_setSurprise_23 : decode cX2_setSurprise 23 = .ok (.iconst 1, 1) := by decide +kernel
theorem dX2_setSurprise_24 : decode cX2_setSurprise 24 = .ok (.ireturn, 1) := by decide +kernel
theorem dX2_hasSurprise_0 : decode cX2_hasSurprise 0 = .ok (.aload_n 0, 1) := by decide +kernel
theorem dX2_hasSurprise_1 : decode cX2_hasSurprise 1 = .ok (.getfield 15, 3) := by decide +kernel
theorem dX2_hasSurprise_4 : decode cX2_hasSurprise 4 = .ok (.iload_n 1, 1) := by decide +kernel
theorem dX2_hasSurprise_5 : decode cX2_hasSurprise 5 = .ok (.ishr, 1) := by decide +kernel
theorem dX2_hasSurprise_6 : decode cX2_hasSurprise 6 = .ok (.iconst 1, 1) := by decide +kernel
theorem dX2_hasSurprise_7 : decode cX2_hasSurprise 7 = .ok (.iand, 1) := by decide +kernel
theorem dX2_hasSurprise_8 : decode cX2_hasSurprise 8 = .ok (.iconst 1, 1) := by decide +kernel
theorem dX2_hasSurprise_9 : decode cX2_hasSurprise 9 = .ok (.if_icmp .ne 7, 3) := by decide +kernel
theorem dX2_hasSurprise_12 : decode cX2_hasSurprise 12 = .ok (.iconst 1, 1) := by decide +kernel
theorem dX2_hasSurprise_13 : decode cX2_hasSurprise 13 = .ok (.goto 4, 3) := by decide +kernel
theorem dX2_hasSurprise_16 : decode cX2_hasSurprise 16 = .ok (.iconst 0, 1) := by decide +kernel
theorem dX2_hasSurprise_17 : decode cX2_hasSurprise 17 = .ok (.ireturn, 1) := by decide +kernel
theorem dX2_at_0 : decode cX2_at 0 = .ok (.aload_n 0, 1) := by decide +kernel
theorem dX2_at_1 : decode cX2_at 1 = .ok (.getfield 31, 3) := by decide +kernel
theorem dX2_at_4 : decode cX2_at 4 = .ok (.iload_n 1, 1) := by decide +kernel
theorem dX2_at_5 : decode cX2_at 5 = .ok (.iconst 4, 1) := by decide +kernel
theorem dX2_at_6 : decode cX2_at 6 = .ok (.imul, 1) := by decide +kernel
theorem dX2_at_7 : decode cX2_at 7 = .ok (.iload_n 2, 1) := by decide +kernel
theorem dX2_at_8 : decode cX2_at 8 = .ok (.iadd, 1) := by decide +kernel
theorem dX2_at_9 : decode cX2_at 9 = .ok (.iaload, 1) := by decide +kernel
theorem dX2_at_10 : decode cX2_at 10 = .ok (.ireturn, 1) := by decide +kernel
theorem dX2_seat_0 : decode cX2_seat 0 = .ok (.aload_n 0, 1) := by decide +kernel
theorem dX2_seat_1 : decode cX2_seat 1 = .ok (.getfield 31, 3) := by decide +kernel
theorem dX2_seat_4 : decode cX2_seat 4 = .ok (.iload_n 1, 1) := by decide +kernel
theorem dX2_seat_5 : decode cX2_seat 5 = .ok (.iconst 4, 1) := by decide +kernel
theorem dX2_seat_6 : decode cX2_seat 6 = .ok (.imul, 1) := by decide +kernel
theorem dX2_seat_7 : decode cX2_seat 7 = .ok (.iload_n 2, 1) := by decide +kernel
theorem dX2_seat_8 : decode cX2_seat 8 = .ok (.iadd, 1) := by decide +kernel
theorem dX2_seat_9 : decode cX2_seat 9 = .ok (.iload_n 3, 1) := by decide +kernel
theorem dX2_seat_10 : decode cX2_seat 10 = .ok (.iastore, 1) := by decide +kernel
theorem dX2_seat_11 : decode cX2_seat 11 = .ok (.return_, 1) := by decide +kernel
theorem dX2_pairOn_0 : decode cX2_pairOn 0 = .ok (.aload_n 0, 1) := by decide +kernel
theorem dX2_pairOn_1 : decode cX2_pairOn 1 = .ok (.getfield 31, 3) := by decide +kernel
theorem dX2_pairOn_4 : decode cX2_pairOn 4 = .ok (.iload_n 1, 1) := by decide +kernel
theorem dX2_pairOn_5 : decode cX2_pairOn 5 = .ok (.iconst 4, 1) := by decide +kernel
theorem dX2_pairOn_6 : decode cX2_pairOn 6 = .ok (.imul, 1) := by decide +kernel
theorem dX2_pairOn_7 : decode cX2_pairOn 7 = .ok (.iaload, 1) := by decide +kernel
theorem dX2_pairOn_8 : decode cX2_pairOn 8 = .ok (.istore_n 2, 1) := by decide +kernel
theorem dX2_pairOn_9 : decode cX2_pairOn 9 = .ok (.aload_n 0, 1) := by decide +kernel
theorem dX2_pairOn_10 : decode cX2_pairOn 10 = .ok (.getfield 31, 3) := by decide +kernel
theorem dX2_pairOn_13 : decode cX2_pairOn 13 = .ok (.iload_n 1, 1) := by decide +kernel
theorem dX2_pairOn_14 : decode cX2_pairOn 14 = .ok (.iconst 4, 1) := by decide +kernel
theorem dX2_pairOn_15 : decode cX2_pairOn 15 = .ok (.imul, 1) := by decide +kernel
theorem dX2_pairOn_16 : decode cX2_pairOn 16 = .ok (.iconst 1, 1) := by decide +kernel
theorem dX2_pairOn_17 : decode cX2_pairOn 17 = .ok (.iadd, 1) := by decide +kernel
theorem dX2_pairOn_18 : decode cX2_pairOn 18 = .ok (.iaload, 1) := by decide +kernel
theorem dX2_pairOn_19 : decode cX2_pairOn 19 = .ok (.istore_n 3, 1) := by decide +kernel
theorem dX2_pairOn_20 : decode cX2_pairOn 20 = .ok (.iload_n 2, 1) := by decide +kernel
theorem dX2_pairOn_21 : decode cX2_pairOn 21 = .ok (.iconst (-1), 1) := by decide +kernel
theorem dX2_pairOn_22 : decode cX2_pairOn 22 = .ok (.if_icmp .eq 13, 3) := by decide +kernel
theorem dX2_pairOn_25 : decode cX2_pairOn 25 = .ok (.iload_n 3, 1) := by decide +kernel
theorem dX2_pairOn_26 : decode cX2_pairOn 26 = .ok (.iconst (-1), 1) := by decide +kernel
theorem dX2_pairOn_27 : decode cX2_pairOn 27 = .ok (.if_icmp .eq 8, 3) := by decide +kernel
theorem dX2_pairOn_30 : decode cX2_pairOn 30 = .ok (.iload_n 2, 1) := by decide +kernel
theorem dX2_pairOn_31 : decode cX2_pairOn 31 = .ok (.iload_n 3, 1) := by decide +kernel
theorem dX2_pairOn_32 : decode cX2_pairOn 32 = .ok (.if_icmp .ne 7, 3) := by decide +kernel
theorem dX2_pairOn_35 : decode cX2_pairOn 35 = .ok (.iconst (-1), 1) := by decide +kernel
theorem dX2_pairOn_36 : decode cX2_pairOn 36 = .ok (.goto 8, 3) := by decide +kernel
theorem dX2_pairOn_39 : decode cX2_pairOn 39 = .ok (.iload_n 2, 1) := by decide +kernel
theorem dX2_pairOn_40 : decode cX2_pairOn 40 = .ok (.iload_n 3, 1) := by decide +kernel
theorem dX2_pairOn_41 : decode cX2_pairOn 41 = .ok (.invokestatic 66, 3) := by decide +kernel
theorem dX2_pairOn_44 : decode cX2_pairOn 44 = .ok (.ireturn, 1) := by decide +kernel
theorem dX2_sittings_0 : decode cX2_sittings 0 = .ok (.iconst 0, 1) := by decide +kernel
theorem dX2_sittings_1 : decode cX2_sittings 1 = .ok (.istore_n 1, 1) := by decide +kernel
theorem dX2_sittings_2 : decode cX2_sittings 2 = .ok (.iconst 0, 1) := by decide +kernel
theorem dX2_sittings_3 : decode cX2_sittings 3 = .ok (.istore_n 2, 1) := by decide +kernel
theorem dX2_sittings_4 : decode cX2_sittings 4 = .ok (.iload_n 2, 1) := by decide +kernel
theorem dX2_sittings_5 : decode cX2_sittings 5 = .ok (.bipush 10, 2) := by decide +kernel
theorem dX2_sittings_7 : decode cX2_sittings 7 = .ok (.if_icmp .ge 21, 3) := by decide +kernel
theorem dX2_sittings_10 : decode cX2_sittings 10 = .ok (.aload_n 0, 1) := by decide +kernel
theorem dX2_sittings_11 : decode cX2_sittings 11 = .ok (.iload_n 2, 1) := by decide +kernel
theorem dX2_sittings_12 : decode cX2_sittings 12 = .ok (.invokevirtual 70, 3) := by decide +kernel
theorem dX2_sittings_15 : decode cX2_sittings 15 = .ok (.iconst (-1), 1) := by decide +kernel
theorem dX2_sittings_16 : decode cX2_sittings 16 = .ok (.if_icmp .eq 6, 3) := by decide +kernel
theorem dX2_sittings_19 : decode cX2_sittings 19 = .ok (.iinc 1 1, 3) := by decide +kernel
theorem dX2_sittings_22 : decode cX2_sittings 22 = .ok (.iinc 2 1, 3) := by decide +kernel
theorem dX2_sittings_25 : decode cX2_sittings 25 = .ok (.goto (-21), 3) := by decide +kernel
theorem dX2_sittings_28 : decode cX2_sittings 28 = .ok (.iload_n 1, 1) := by decide +kernel
theorem dX2_sittings_29 : decode cX2_sittings 29 = .ok (.ireturn, 1) := by decide +kernel
theorem dX2_daysOf_0 : decode cX2_daysOf 0 = .ok (.iconst 0, 1) := by decide +kernel
theorem dX2_daysOf_1 : decode cX2_daysOf 1 = .ok (.istore_n 2, 1) := by decide +kernel
theorem dX2_daysOf_2 : decode cX2_daysOf 2 = .ok (.iconst 0, 1) := by decide +kernel
theorem dX2_daysOf_3 : decode cX2_daysOf 3 = .ok (.istore_n 3, 1) := by decide +kernel
theorem dX2_daysOf_4 : decode cX2_daysOf 4 = .ok (.iload_n 3, 1) := by decide +kernel
theorem dX2_daysOf_5 : decode cX2_daysOf 5 = .ok (.bipush 10, 2) := by decide +kernel
theorem dX2_daysOf_7 : decode cX2_daysOf 7 = .ok (.if_icmp .ge 24, 3) := by decide +kernel
theorem dX2_daysOf_10 : decode cX2_daysOf 10 = .ok (.aload_n 0, 1) := by decide +kernel
theorem dX2_daysOf_11 : decode cX2_daysOf 11 = .ok (.iload_n 3, 1) := by decide +kernel
theorem dX2_daysOf_12 : decode cX2_daysOf 12 = .ok (.invokevirtual 70, 3) := by decide +kernel
theorem dX2_daysOf_15 : decode cX2_daysOf 15 = .ok (.iload_n 1, 1) := by decide +kernel
theorem dX2_daysOf_16 : decode cX2_daysOf 16 = .ok (.if_icmp .ne 9, 3) := by decide +kernel
theorem dX2_daysOf_19 : decode cX2_daysOf 19 = .ok (.iload_n 2, 1) := by decide +kernel
theorem dX2_daysOf_20 : decode cX2_daysOf 20 = .ok (.iconst 1, 1) := by decide +kernel
theorem dX2_daysOf_21 : decode cX2_daysOf 21 = .ok (.iload_n 3, 1) := by decide +kernel
theorem dX2_daysOf_22 : decode cX2_daysOf 22 = .ok (.ishl, 1) := by decide +kernel
theorem dX2_daysOf_23 : decode cX2_daysOf 23 = .ok (.ior, 1) := by decide +kernel
theorem dX2_daysOf_24 : decode cX2_daysOf 24 = .ok (.istore_n 2, 1) := by decide +kernel
theorem dX2_daysOf_25 : decode cX2_daysOf 25 = .ok (.iinc 3 1, 3) := by decide +kernel
theorem dX2_daysOf_28 : decode cX2_daysOf 28 = .ok (.goto (-24), 3) := by decide +kernel
theorem dX2_daysOf_31 : decode cX2_daysOf 31 = .ok (.iload_n 2, 1) := by decide +kernel
theorem dX2_daysOf_32 : decode cX2_daysOf 32 = .ok (.ireturn, 1) := by decide +kernel
theorem dX2_lastDayOf_0 : decode cX2_lastDayOf 0 = .ok (.iload_n 2, 1) := by decide +kernel
theorem dX2_lastDayOf_1 : decode cX2_lastDayOf 1 = .ok (.iconst 1, 1) := by decide +kernel
theorem dX2_lastDayOf_2 : decode cX2_lastDayOf 2 = .ok (.isub, 1) := by decide +kernel
theorem dX2_lastDayOf_3 : decode cX2_lastDayOf 3 = .ok (.istore_n 3, 1) := by decide +kernel
theorem dX2_lastDayOf_4 : decode cX2_lastDayOf 4 = .ok (.iload_n 3, 1) := by decide +kernel
theorem dX2_lastDayOf_5 : decode cX2_lastDayOf 5 = .ok (.ifCond .lt 20, 3) := by decide +kernel
theorem dX2_lastDayOf_8 : decode cX2_lastDayOf 8 = .ok (.aload_n 0, 1) := by decide +kernel
theorem dX2_lastDayOf_9 : decode cX2_lastDayOf 9 = .ok (.iload_n 3, 1) := by decide +kernel
theorem dX2_lastDayOf_10 : decode cX2_lastDayOf 10 = .ok (.invokevirtual 70, 3) := by decide +kernel
theorem dX2_lastDayOf_13 : decode cX2_lastDayOf 13 = .ok (.iload_n 1, 1) := by decide +kernel
theorem dX2_lastDayOf_14 : decode cX2_lastDayOf 14 = .ok (.if_icmp .ne 5, 3) := by decide +kernel
theorem dX2_lastDayOf_17 : decode cX2_lastDayOf 17 = .ok (.iload_n 3, 1) := by decide +kernel
theorem dX2_lastDayOf_18 : decode cX2_lastDayOf 18 = .ok (.ireturn, 1) := by decide +kernel
theorem dX2_lastDayOf_19 : decode cX2_lastDayOf 19 = .ok (.iinc 3 (-1), 3) := by decide +kernel
theorem dX2_lastDayOf_22 : decode cX2_lastDayOf 22 = .ok (.goto (-18), 3) := by decide +kernel
theorem dX2_lastDayOf_25 : decode cX2_lastDayOf 25 = .ok (.iconst (-1), 1) := by decide +kernel
theorem dX2_lastDayOf_26 : decode cX2_lastDayOf 26 = .ok (.ireturn, 1) := by decide +kernel
theorem dX2_satInGap_0 : decode cX2_satInGap 0 = .ok (.aload_n 0, 1) := by decide +kernel
theorem dX2_satInGap_1 : decode cX2_satInGap 1 = .ok (.iload_n 1, 1) := by decide +kernel
theorem dX2_satInGap_2 : decode cX2_satInGap 2 = .ok (.iload_n 2, 1) := by decide +kernel
theorem dX2_satInGap_3 : decode cX2_satInGap 3 = .ok (.invokevirtual 74, 3) := by decide +kernel
theorem dX2_satInGap_6 : decode cX2_satInGap 6 = .ok (.istore_n 3, 1) := by decide +kernel
theorem dX2_satInGap_7 : decode cX2_satInGap 7 = .ok (.iload_n 3, 1) := by decide +kernel
theorem dX2_satInGap_8 : decode cX2_satInGap 8 = .ok (.ifCond .lt 20, 3) := by decide +kernel
theorem dX2_satInGap_11 : decode cX2_satInGap 11 = .ok (.iload_n 3, 1) := by decide +kernel
theorem dX2_satInGap_12 : decode cX2_satInGap 12 = .ok (.iload_n 2, 1) := by decide +kernel
theorem dX2_satInGap_13 : decode cX2_satInGap 13 = .ok (.aload_n 0, 1) := by decide +kernel
theorem dX2_satInGap_14 : decode cX2_satInGap 14 = .ok (.getfield 28, 3) := by decide +kernel
theorem dX2_satInGap_17 : decode cX2_satInGap 17 = .ok (.bipush 7, 2) := by decide +kernel
theorem dX2_satInGap_19 : decode cX2_satInGap 19 = .ok (.iaload, 1) := by decide +kernel
theorem dX2_satInGap_20 : decode cX2_satInGap 20 = .ok (.isub, 1) := by decide +kernel
theorem dX2_satInGap_21 : decode cX2_satInGap 21 = .ok (.if_icmp .lt 7, 3) := by decide +kernel
theorem dX2_satInGap_24 : decode cX2_satInGap 24 = .ok (.iconst 1, 1) := by decide +kernel
theorem dX2_satInGap_25 : decode cX2_satInGap 25 = .ok (.goto 4, 3) := by decide +kernel
theorem dX2_satInGap_28 : decode cX2_satInGap 28 = .ok (.iconst 0, 1) := by decide +kernel
theorem dX2_satInGap_29 : decode cX2_satInGap 29 = .ok (.ireturn, 1) := by decide +kernel
theorem dX2_lossOf_0 : decode cX2_lossOf 0 = .ok (.iconst 0, 1) := by decide +kernel
theorem dX2_lossOf_1 : decode cX2_lossOf 1 = .ok (.istore_n 2, 1) := by decide +kernel
theorem dX2_lossOf_2 : decode cX2_lossOf 2 = .ok (.iconst 0, 1) := by decide +kernel
theorem dX2_lossOf_3 : decode cX2_lossOf 3 = .ok (.istore_n 3, 1) := by decide +kernel
theorem dX2_lossOf_4 : decode cX2_lossOf 4 = .ok (.iload_n 3, 1) := by decide +kernel
theorem dX2_lossOf_5 : decode cX2_lossOf 5 = .ok (.bipush 10, 2) := by decide +kernel
theorem dX2_lossOf_7 : decode cX2_lossOf 7 = .ok (.if_icmp .ge 27, 3) := by decide +kernel
theorem dX2_lossOf_10 : decode cX2_lossOf 10 = .ok (.aload_n 0, 1) := by decide +kernel
theorem dX2_lossOf_11 : decode cX2_lossOf 11 = .ok (.iload_n 3, 1) := by decide +kernel
theorem dX2_lossOf_12 : decode cX2_lossOf 12 = .ok (.invokevirtual 70, 3) := by decide +kernel
theorem dX2_lossOf_15 : decode cX2_lossOf 15 = .ok (.iload_n 1, 1) := by decide +kernel
theorem dX2_lossOf_16 : decode cX2_lossOf 16 = .ok (.if_icmp .ne 12, 3) := by decide +kernel
theorem dX2_lossOf_19 : decode cX2_lossOf 19 = .ok (.iload_n 2, 1) := by decide +kernel
theorem dX2_lossOf_20 : decode cX2_lossOf 20 = .ok (.aload_n 0, 1) := by decide +kernel
theorem dX2_lossOf_21 : decode cX2_lossOf 21 = .ok (.getfield 34, 3) := by decide +kernel
theorem dX2_lossOf_24 : decode cX2_lossOf 24 = .ok (.iload_n 3, 1) := by decide +kernel
theorem dX2_lossOf_25 : decode cX2_lossOf 25 = .ok (.iaload, 1) := by decide +kernel
theorem dX2_lossOf_26 : decode cX2_lossOf 26 = .ok (.iadd, 1) := by decide +kernel
theorem dX2_lossOf_27 : decode cX2_lossOf 27 = .ok (.istore_n 2, 1) := by decide +kernel
theorem dX2_lossOf_28 : decode cX2_lossOf 28 = .ok (.iinc 3 1, 3) := by decide +kernel
theorem dX2_lossOf_31 : decode cX2_lossOf 31 = .ok (.goto (-27), 3) := by decide +kernel
theorem dX2_lossOf_34 : decode cX2_lossOf 34 = .ok (.iload_n 2, 1) := by decide +kernel
theorem dX2_lossOf_35 : decode cX2_lossOf 35 = .ok (.ireturn, 1) := by decide +kernel
theorem dX2_pairOfMostLoss_0 : decode cX2_pairOfMostLoss 0 = .ok (.iconst (-1), 1) := by decide +kernel
theorem dX2_pairOfMostLoss_1 : decode cX2_pairOfMostLoss 1 = .ok (.istore_n 1, 1) := by decide +kernel
theorem dX2_pairOfMostLoss_2 : decode cX2_pairOfMostLoss 2 = .ok (.iconst 0, 1) := by decide +kernel
theorem dX2_pairOfMostLoss_3 : decode cX2_pairOfMostLoss 3 = .ok (.istore_n 2, 1) := by decide +kernel
theorem dX2_pairOfMostLoss_4 : decode cX2_pairOfMostLoss 4 = .ok (.iconst 0, 1) := by decide +kernel
theorem dX2_pairOfMostLoss_5 : decode cX2_pairOfMostLoss 5 = .ok (.istore_n 3, 1) := by decide +kernel
theorem dX2_pairOfMostLoss_6 : decode cX2_pairOfMostLoss 6 = .ok (.iload_n 3, 1) := by decide +kernel
theorem dX2_pairOfMostLoss_7 : decode cX2_pairOfMostLoss 7 = .ok (.aload_n 0, 1) := by decide +kernel
theorem dX2_pairOfMostLoss_8 : decode cX2_pairOfMostLoss 8 = .ok (.getfield 9, 3) := by decide +kernel
theorem dX2_pairOfMostLoss_11 : decode cX2_pairOfMostLoss 11 = .ok (.if_icmp .ge 57, 3) := by decide +kernel
theorem dX2_pairOfMostLoss_14 : decode cX2_pairOfMostLoss 14 = .ok (.iload_n 3, 1) := by decide +kernel
theorem dX2_pairOfMostLoss_15 : decode cX2_pairOfMostLoss 15 = .ok (.iconst 1, 1) := by decide +kernel
theorem dX2_pairOfMostLoss_16 : decode cX2_pairOfMostLoss 16 = .ok (.iadd, 1) := by decide +kernel
theorem dX2_pairOfMostLoss_17 : decode cX2_pairOfMostLoss 17 = .ok (.istore 4, 2) := by decide +kernel
theorem dX2_pairOfMostLoss_19 : decode cX2_pairOfMostLoss 19 = .ok (.iload 4, 2) := by decide +kernel
theorem dX2_pairOfMostLoss_21 : decode cX2_pairOfMostLoss 21 = .ok (.aload_n 0, 1) := by decide +kernel
theorem dX2_pairOfMostLoss_22 : decode cX2_pairOfMostLoss 22 = .ok (.getfield 9, 3) := by decide +kernel
theorem dX2_pairOfMostLoss_25 : decode cX2_pairOfMostLoss 25 = .ok (.if_icmp .ge 37, 3) := by decide +kernel
theorem dX2_pairOfMostLoss_28 : decode cX2_pairOfMostLoss 28 = .ok (.aload_n 0, 1) := by decide +kernel
theorem dX2_pairOfMostLoss_29 : decode cX2_pairOfMostLoss 29 = .ok (.iload_n 3, 1) := by decide +kernel
theorem dX2_pairOfMostLoss_30 : decode cX2_pairOfMostLoss 30 = .ok (.iload 4, 2) := by decide +kernel
theorem dX2_pairOfMostLoss_32 : decode cX2_pairOfMostLoss 32 = .ok (.invokestatic 66, 3) := by decide +kernel
theorem dX2_pairOfMostLoss_35 : decode cX2_pairOfMostLoss 35 = .ok (.invokevirtual 77, 3) := by decide +kernel
theorem dX2_pairOfMostLoss_38 : decode cX2_pairOfMostLoss 38 = .ok (.istore 5, 2) := by decide +kernel
theorem dX2_pairOfMostLoss_40 : decode cX2_pairOfMostLoss 40 = .ok (.iload 5, 2) := by decide +kernel
theorem dX2_pairOfMostLoss_42 : decode cX2_pairOfMostLoss 42 = .ok (.iload_n 1, 1) := by decide +kernel
theorem dX2_pairOfMostLoss_43 : decode cX2_pairOfMostLoss 43 = .ok (.if_icmp .le 13, 3) := by decide +kernel
theorem dX2_pairOfMostLoss_46 : decode cX2_pairOfMostLoss 46 = .ok (.iload 5, 2) := by decide +kernel
theorem dX2_pairOfMostLoss_48 : decode cX2_pairOfMostLoss 48 = .ok (.istore_n 1, 1) := by decide +kernel
theorem dX2_pairOfMostLoss_49 : decode cX2_pairOfMostLoss 49 = .ok (.iload_n 3, 1) := by decide +kernel
theorem dX2_pairOfMostLoss_50 : decode cX2_pairOfMostLoss 50 = .ok (.iload 4, 2) := by decide +kernel
theorem dX2_pairOfMostLoss_52 : decode cX2_pairOfMostLoss 52 = .ok (.invokestatic 66, 3) := by decide +kernel
theorem dX2_pairOfMostLoss_55 : decode cX2_pairOfMostLoss 55 = .ok (.istore_n 2, 1) := by decide +kernel
theorem dX2_pairOfMostLoss_56 : decode cX2_pairOfMostLoss 56 = .ok (.iinc 4 1, 3) := by decide +kernel
theorem dX2_pairOfMostLoss_59 : decode cX2_pairOfMostLoss 59 = .ok (.goto (-40), 3) := by decide +kernel
theorem dX2_pairOfMostLoss_62 : decode cX2_pairOfMostLoss 62 = .ok (.iinc 3 1, 3) := by decide +kernel
theorem dX2_pairOfMostLoss_65 : decode cX2_pairOfMostLoss 65 = .ok (.goto (-59), 3) := by decide +kernel
theorem dX2_pairOfMostLoss_68 : decode cX2_pairOfMostLoss 68 = .ok (.iload_n 2, 1) := by decide +kernel
theorem dX2_pairOfMostLoss_69 : decode cX2_pairOfMostLoss 69 = .ok (.ireturn, 1) := by decide +kernel
theorem dJ6_bitCount_0f7a4_0 : decode cJ6_bitCount_0f7a4 0 = .ok (.iload_n 0, 1) := by decide +kernel
theorem dJ6_bitCount_0f7a4_1 : decode cJ6_bitCount_0f7a4 1 = .ok (.iload_n 0, 1) := by decide +kernel
theorem dJ6_bitCount_0f7a4_2 : decode cJ6_bitCount_0f7a4 2 = .ok (.iconst 1, 1) := by decide +kernel
theorem dJ6_bitCount_0f7a4_3 : decode cJ6_bitCount_0f7a4 3 = .ok (.iushr, 1) := by decide +kernel
theorem dJ6_bitCount_0f7a4_4 : decode cJ6_bitCount_0f7a4 4 = .ok (.ldc_w 265, 3) := by decide +kernel
theorem dJ6_bitCount_0f7a4_7 : decode cJ6_bitCount_0f7a4 7 = .ok (.iand, 1) := by decide +kernel
theorem dJ6_bitCount_0f7a4_8 : decode cJ6_bitCount_0f7a4 8 = .ok (.isub, 1) := by decide +kernel
theorem dJ6_bitCount_0f7a4_9 : decode cJ6_bitCount_0f7a4 9 = .ok (.istore_n 0, 1) := by decide +kernel
theorem dJ6_bitCount_0f7a4_10 : decode cJ6_bitCount_0f7a4 10 = .ok (.iload_n 0, 1) := by decide +kernel
theorem dJ6_bitCount_0f7a4_11 : decode cJ6_bitCount_0f7a4 11 = .ok (.ldc_w 266, 3) := by decide +kernel
theorem dJ6_bitCount_0f7a4_14 : decode cJ6_bitCount_0f7a4 14 = .ok (.iand, 1) := by decide +kernel
theorem dJ6_bitCount_0f7a4_15 : decode cJ6_bitCount_0f7a4 15 = .ok (.iload_n 0, 1) := by decide +kernel
theorem dJ6_bitCount_0f7a4_16 : decode cJ6_bitCount_0f7a4 16 = .ok (.iconst 2, 1) := by decide +kernel
theorem dJ6_bitCount_0f7a4_17 : decode cJ6_bitCount_0f7a4 17 = .ok (.iushr, 1) := by decide +kernel
theorem dJ6_bitCount_0f7a4_18 : decode cJ6_bitCount_0f7a4 18 = .ok (.ldc_w 266, 3) := by decide +kernel
theorem dJ6_bitCount_0f7a4_21 : decode cJ6_bitCount_0f7a4 21 = .ok (.iand, 1) := by decide +kernel
theorem dJ6_bitCount_0f7a4_22 : decode cJ6_bitCount_0f7a4 22 = .ok (.iadd, 1) := by decide +kernel
theorem dJ6_bitCount_0f7a4_23 : decode cJ6_bitCount_0f7a4 23 = .ok (.istore_n 0, 1) := by decide +kernel
theorem dJ6_bitCount_0f7a4_24 : decode cJ6_bitCount_0f7a4 24 = .ok (.iload_n 0, 1) := by decide +kernel
theorem dJ6_bitCount_0f7a4_25 : decode cJ6_bitCount_0f7a4 25 = .ok (.iload_n 0, 1) := by decide +kernel
theorem dJ6_bitCount_0f7a4_26 : decode cJ6_bitCount_0f7a4 26 = .ok (.iconst 4, 1) := by decide +kernel
theorem dJ6_bitCount_0f7a4_27 : decode cJ6_bitCount_0f7a4 27 = .ok (.iushr, 1) := by decide +kernel
theorem dJ6_bitCount_0f7a4_28 : decode cJ6_bitCount_0f7a4 28 = .ok (.iadd, 1) := by decide +kernel
theorem dJ6_bitCount_0f7a4_29 : decode cJ6_bitCount_0f7a4 29 = .ok (.ldc_w 267, 3) := by decide +kernel
theorem dJ6_bitCount_0f7a4_32 : decode cJ6_bitCount_0f7a4 32 = .ok (.iand, 1) := by decide +kernel
theorem dJ6_bitCount_0f7a4_33 : decode cJ6_bitCount_0f7a4 33 = .ok (.istore_n 0, 1) := by decide +kernel
theorem dJ6_bitCount_0f7a4_34 : decode cJ6_bitCount_0f7a4 34 = .ok (.iload_n 0, 1) := by decide +kernel
theorem dJ6_bitCount_0f7a4_35 : decode cJ6_bitCount_0f7a4 35 = .ok (.iload_n 0, 1) := by decide +kernel
theorem dJ6_bitCount_0f7a4_36 : decode cJ6_bitCount_0f7a4 36 = .ok (.bipush 8, 2) := by decide +kernel
theorem dJ6_bitCount_0f7a4_38 : decode cJ6_bitCount_0f7a4 38 = .ok (.iushr, 1) := by decide +kernel
theorem dJ6_bitCount_0f7a4_39 : decode cJ6_bitCount_0f7a4 39 = .ok (.iadd, 1) := by decide +kernel
theorem dJ6_bitCount_0f7a4_40 : decode cJ6_bitCount_0f7a4 40 = .ok (.istore_n 0, 1) := by decide +kernel
theorem dJ6_bitCount_0f7a4_41 : decode cJ6_bitCount_0f7a4 41 = .ok (.iload_n 0, 1) := by decide +kernel
theorem dJ6_bitCount_0f7a4_42 : decode cJ6_bitCount_0f7a4 42 = .ok (.iload_n 0, 1) := by decide +kernel
theorem dJ6_bitCount_0f7a4_43 : decode cJ6_bitCount_0f7a4 43 = .ok (.bipush 16, 2) := by decide +kernel
theorem dJ6_bitCount_0f7a4_45 : decode cJ6_bitCount_0f7a4 45 = .ok (.iushr, 1) := by decide +kernel
theorem dJ6_bitCount_0f7a4_46 : decode cJ6_bitCount_0f7a4 46 = .ok (.iadd, 1) := by decide +kernel
theorem dJ6_bitCount_0f7a4_47 : decode cJ6_bitCount_0f7a4 47 = .ok (.istore_n 0, 1) := by decide +kernel
theorem dJ6_bitCount_0f7a4_48 : decode cJ6_bitCount_0f7a4 48 = .ok (.iload_n 0, 1) := by decide +kernel
theorem dJ6_bitCount_0f7a4_49 : decode cJ6_bitCount_0f7a4 49 = .ok (.bipush 63, 2) := by decide +kernel
theorem dJ6_bitCount_0f7a4_51 : decode cJ6_bitCount_0f7a4 51 = .ok (.iand, 1) := by decide +kernel
theorem dJ6_bitCount_0f7a4_52 : decode cJ6_bitCount_0f7a4 52 = .ok (.ireturn, 1) := by decide +kernel
theorem dJ7_fill_53178_0 : decode cJ7_fill_53178 0 = .ok (.iconst 0, 1) := by decide +kernel
theorem dJ7_fill_53178_1 : decode cJ7_fill_53178 1 = .ok (.istore_n 2, 1) := by decide +kernel
theorem dJ7_fill_53178_2 : decode cJ7_fill_53178 2 = .ok (.aload_n 0, 1) := by decide +kernel
theorem dJ7_fill_53178_3 : decode cJ7_fill_53178 3 = .ok (.arraylength, 1) := by decide +kernel
theorem dJ7_fill_53178_4 : decode cJ7_fill_53178 4 = .ok (.istore_n 3, 1) := by decide +kernel
theorem dJ7_fill_53178_5 : decode cJ7_fill_53178 5 = .ok (.iload_n 2, 1) := by decide +kernel
theorem dJ7_fill_53178_6 : decode cJ7_fill_53178 6 = .ok (.iload_n 3, 1) := by decide +kernel
theorem dJ7_fill_53178_7 : decode cJ7_fill_53178 7 = .ok (.if_icmp .ge 13, 3) := by decide +kernel
theorem dJ7_fill_53178_10 : decode cJ7_fill_53178 10 = .ok (.aload_n 0, 1) := by decide +kernel
theorem dJ7_fill_53178_11 : decode cJ7_fill_53178 11 = .ok (.iload_n 2, 1) := by decide +kernel
theorem dJ7_fill_53178_12 : decode cJ7_fill_53178 12 = .ok (.iload_n 1, 1) := by decide +kernel
theorem dJ7_fill_53178_13 : decode cJ7_fill_53178 13 = .ok (.iastore, 1) := by decide +kernel
theorem dJ7_fill_53178_14 : decode cJ7_fill_53178 14 = .ok (.iinc 2 1, 3) := by decide +kernel
theorem dJ7_fill_53178_17 : decode cJ7_fill_53178 17 = .ok (.goto (-12), 3) := by decide +kernel
theorem dJ7_fill_53178_20 : decode cJ7_fill_53178 20 = .ok (.return_, 1) := by decide +kernel
theorem gI_wI (z : MS) (k : Nat) (F : Nat → Int32) : gI (wI z k F) k = F := if_pos rfl
theorem gI_wI_ne (z : MS) {k k1 : Nat} (F : Nat → Int32) (h : k1 ≠ k) : gI (wI z k F) k1 = gI z k1 := if_neg h
theorem wI_wI (z : MS) (k : Nat) (F G : Nat → Int32) : wI (wI z k F) k G = wI z k G := by
  refine Prod.ext (funext fun a => ?_) rfl
  show (if a = k then G else (if a = k then F else z.1 a)) = if a = k then G else z.1 a
  by_cases h : a = k
  · rw [if_pos h, if_pos h]
  · rw [if_neg h, if_neg h, if_neg h]
theorem wI_self (z : MS) (k : Nat) : wI z k (gI z k) = z := by
  refine Prod.ext (funext fun a => ?_) rfl
  show (if a = k then z.1 k else z.1 a) = z.1 a
  by_cases h : a = k
  · rw [if_pos h, h]
  · rw [if_neg h]
theorem fI_0 (z : MS) (k : Nat) (v : Int32) : fI z k 0 v = z := wI_self z k
theorem fI_s (z : MS) (k j : Nat) (v : Int32) : wI (fI z k j v) k (upd (gI (fI z k j v) k) j v) = fI z k (j + 1) v := by
  unfold fI
  rw [wI_wI, gI_wI]
  congr 1
  funext x
  unfold upd
  by_cases h1 : x = j
  · rw [if_pos h1, if_pos (by omega)]
  · rw [if_neg h1]
    show (if x < j then v else gI z k x) = if x < j + 1 then v else gI z k x
    by_cases h2 : x < j
    · rw [if_pos h2, if_pos (by omega)]
    · rw [if_neg h2, if_neg (by omega)]
theorem c_fill (l : Launch) {z : MS} (k N : Nat) (v : Int32) (hN : N < 2 ^ 31) (he : ∀ (cs : Nat → ClassId) (ad : Nat → Nat) (z : MS), (wld cs ad z)[k]? = some (ad k, .inl (cs 0, N, .inl (gI z k)))) (hs : ∀ (cs : Nat → ClassId) (ad : Nat → Nat) (z : MS) (F : Nat → Int32), (wld cs ad z).set k (ad k, .inl (cs 0, N, .inl F)) = wld cs ad (wI z k F)) :
    CT l yJ7_fill_53178 cJ7_fill_53178 4 none 0 0 (fun ad sd => [.ref (ad k), .int v]) z none (fI z k N v) := by
  refine u_start RJ7 rfl (by decide) (fun _ _ => Nat.le_of_ble_eq_true rfl) (fun p e s m args below meth c R D ad cs sd A Q ls X hP hS hl hr hret => ?_)
  have hl : lv_has ls 4 [(0, .ref (ad k)), (1, .int v)] := hl
  have hP : va_P D clss (wld cs ad (fI z k 0 v)) s.heap := by rw [fI_0]; exact hP
  refine u_iconst (v := 0) X dJ7_fill_53178_0 rfl ?_
  refine u_istore_n [(2, .int 0), (0, .ref (ad k)), (1, .int v)] X hl dJ7_fill_53178_1 (Nat.le_of_ble_eq_true rfl) rfl (fun ls hl => ?_)
  refine u_aload_n X hl dJ7_fill_53178_2 1 rfl ?_
  refine va_alen (v := nI N) X.1 X.2.1 X.2.2.2.2.2.2.1 hP k 0 (he cs ad _) rfl rfl dJ7_fill_53178_3 ?_
  refine u_istore_n [(3, .int (nI N)), (2, .int (nI 0)), (0, .ref (ad k)), (1, .int v)] X hl dJ7_fill_53178_4 (Nat.le_of_ble_eq_true rfl) rfl (fun ls hl => ?_)
  have L : ∀ (d j : Nat) (H : Heap) (locs : List Loc) (ls : Array Slot), j + d = N → lv_has ls 4 [(0, .ref (ad k)), (1, .int v), (2, .int (nI j)), (3, .int (nI N))] → va_P D clss (wld cs ad (fI z k j v)) H → va_S A s.heap H locs → W p l e R s m args below meth c H locs 0 0 Q (F0 m 5 ls []) := by
    intro d
    induction d with
    | zero =>
      intro j H locs ls hj hl hP hS
      have hj : j = N := hj
      subst hj
      refine u_iload_n X hl dJ7_fill_53178_5 2 rfl ?_
      refine u_iload_n X hl dJ7_fill_53178_6 3 rfl ?_
      refine u_icmp_ge 20 X dJ7_fill_53178_7 rfl (fun hc => ?_) (fun hc => ?_)
      · exact u_vret X hr hret hP hS dJ7_fill_53178_20
      · exact absurd (Int32.le_refl _) hc
    | succ d ih =>
      intro j H locs ls hj hl hP hS
      have hjN : j < N := by omega
      refine u_iload_n X hl dJ7_fill_53178_5 2 rfl ?_
      refine u_iload_n X hl dJ7_fill_53178_6 3 rfl ?_
      refine u_icmp_ge 20 X dJ7_fill_53178_7 rfl (fun hc => ?_) (fun hc => ?_)
      · exact absurd hc (nI_ge hjN hN)
      · refine u_aload_n X hl dJ7_fill_53178_10 0 rfl ?_
        refine u_iload_n X hl dJ7_fill_53178_11 2 rfl ?_
        refine u_iload_n X hl dJ7_fill_53178_12 1 rfl ?_
        refine u_iast k (fI z k (j + 1) v) X hP hS (he cs ad _) ?_ (nI_in hjN hN) dJ7_fill_53178_13 (fun H locs hP hS => ?_)
        · rw [hs, nI_clamp (by omega), fI_s]
        refine u_iinc [(2, .int (nI (j + 1))), (0, .ref (ad k)), (1, .int v), (3, .int (nI N))] X hl dJ7_fill_53178_14 2 rfl (nI_succ j).symm (Nat.le_of_ble_eq_true rfl) rfl (fun ls hl => ?_)
        refine u_goto 5 X dJ7_fill_53178_17 rfl ?_
        exact ih (j + 1) H locs ls (by omega) (lv_sub hl [1, 2, 0, 3] rfl) hP hS
  exact L N 0 _ _ _ (by omega) (lv_sub hl [2, 3, 1, 0] rfl) hP hS
def fHouse10_emptyBut (z : MS) : Option MS :=
  some (fI (fI (cI (fI (fI (fI (pI (pI z 10 0 0) 10 1 0) 11 8 0) 12 8 0) 13 64 0) 14 5 8) 15 40 (-1)) 16 10 0)
set_option maxRecDepth 4000 in
theorem cHouse10_emptyBut (l : Launch) {z : MS} {z1 : MS} (h : fHouse10_emptyBut z = some z1) : CT l yX2_emptyBut cX2_emptyBut 2 none 1 26 (fun ad sd => [.ref (ad 10), .ref (ad 5)]) z none z1 := by
  rw [fHouse10_emptyBut] at h
  refine u_start RX2 rfl (by decide) (fun _ _ => Nat.le_of_ble_eq_true rfl) (fun p e s m args below meth c R D ad cs sd A Q ls X hP hS hl hr hret => ?_)
  have hl : lv_has ls 2 [(0, .ref (ad 10)), (1, .ref (ad 5))] := hl
  refine u_aload_n X hl dX2_emptyBut_0 0 rfl ?_
  refine u_iconst (v := 0) X dX2_emptyBut_1 rfl ?_
  refine pf_X2_9_10 X hP hS dX2_emptyBut_2 (fun H locs hP hS => ?_)
  refine u_aload_n X hl dX2_emptyBut_5 0 rfl ?_
  refine u_iconst (v := 0) X dX2_emptyBut_6 rfl ?_
  refine pf_X2_15_10 X hP hS dX2_emptyBut_7 (fun H locs hP hS => ?_)
  refine u_aload_n X hl dX2_emptyBut_10 0 rfl ?_
  refine gf_X2_18_10 X hP dX2_emptyBut_11 ?_
  refine u_iconst (v := 0) X dX2_emptyBut_14 rfl ?_
  refine u_callSv X hP hS hl dX2_emptyBut_15 (c_fill l 11 8 0 (by decide) (fun _ _ _ => rfl) (ax_11)) cw_X2_46 rfl rfl rfl rfl ⟨rfl, rfl⟩ (fun H locs hP hS => ?_)
  refine u_aload_n X hl dX2_emptyBut_18 0 rfl ?_
  refine gf_X2_22_10 X hP dX2_emptyBut_19 ?_
  refine u_iconst (v := 0) X dX2_emptyBut_22 rfl ?_
  refine u_callSv X hP hS hl dX2_emptyBut_23 (c_fill l 12 8 0 (by decide) (fun _ _ _ => rfl) (ax_12)) cw_X2_46 rfl rfl rfl rfl ⟨rfl, rfl⟩ (fun H locs hP hS => ?_)
  refine u_aload_n X hl dX2_emptyBut_26 0 rfl ?_
  refine gf_X2_25_10 X hP dX2_emptyBut_27 ?_
  refine u_iconst (v := 0) X dX2_emptyBut_30 rfl ?_
  refine u_callSv X hP hS hl dX2_emptyBut_31 (c_fill l 13 64 0 (by decide) (fun _ _ _ => rfl) (ax_13)) cw_X2_46 rfl rfl rfl rfl ⟨rfl, rfl⟩ (fun H locs hP hS => ?_)
  refine u_aload_n X hl dX2_emptyBut_34 1 rfl ?_
  refine u_iconst (v := 0) X dX2_emptyBut_35 rfl ?_
  refine u_aload_n X hl dX2_emptyBut_36 0 rfl ?_
  refine gf_X2_28_10 X hP dX2_emptyBut_37 ?_
  refine u_iconst (v := 0) X dX2_emptyBut_40 rfl ?_
  refine u_bipush (v := 8) X dX2_emptyBut_41 rfl ?_
  refine cp_X2_40 (i0 := 5) (i1 := 14) (cI (fI (fI (fI (pI (pI z 10 0 0) 10 1 0) 11 8 0) 12 8 0) 13 64 0) 14 5 8) X hP hS hl dX2_emptyBut_43 rfl rfl (by decide) rfl rfl rfl (ax_14 _ _ _ _) rfl ⟨rfl, rfl⟩ (fun H locs hP hS => ?_)
  refine u_aload_n X hl dX2_emptyBut_46 0 rfl ?_
  refine gf_X2_31_10 X hP dX2_emptyBut_47 ?_
  refine u_iconst (v := (-1)) X dX2_emptyBut_50 rfl ?_
  refine u_callSv X hP hS hl dX2_emptyBut_51 (c_fill l 15 40 (-1) (by decide) (fun _ _ _ => rfl) (ax_15)) cw_X2_46 rfl rfl rfl rfl ⟨rfl, rfl⟩ (fun H locs hP hS => ?_)
  refine u_aload_n X hl dX2_emptyBut_54 0 rfl ?_
  refine gf_X2_34_10 X hP dX2_emptyBut_55 ?_
  refine u_iconst (v := 0) X dX2_emptyBut_58 rfl ?_
  refine u_callSv X hP hS hl dX2_emptyBut_59 (c_fill l 16 10 0 (by decide) (fun _ _ _ => rfl) (ax_16)) cw_X2_46 rfl rfl rfl rfl ⟨rfl, rfl⟩ (fun H locs hP hS => ?_)
  exact u_vretM X hr hret h hP hS dX2_emptyBut_62
def fHouse_become_10 (z : MS) : Option MS :=
  some (cI (cI (cI (cI (cI (cI (pI (pI z 1 0 (gI z 10 0)) 1 1 (gI (pI z 1 0 (gI z 10 0)) 10 1)) 2 11 8) 3 12 8) 4 13 64) 5 14 8) 6 15 40) 7 16 10)
set_option maxRecDepth 4000 in
theorem cHouse_become_10 (l : Launch) {z : MS} {z1 : MS} (h : fHouse_become_10 z = some z1) : CT l yX2_become cX2_become 2 none 1 26 (fun ad sd => [.ref (ad 1), .ref (ad 10)]) z none z1 := by
  rw [fHouse_become_10] at h
  refine u_start RX2 rfl (by decide) (fun _ _ => Nat.le_of_ble_eq_true rfl) (fun p e s m args below meth c R D ad cs sd A Q ls X hP hS hl hr hret => ?_)
  have hl : lv_has ls 2 [(0, .ref (ad 1)), (1, .ref (ad 10))] := hl
  refine u_aload_n X hl dX2_become_0 0 rfl ?_
  refine u_aload_n X hl dX2_become_1 1 rfl ?_
  refine gf_X2_9_10 X hP dX2_become_2 ?_
  refine pf_X2_9_1 X hP hS dX2_become_5 (fun H locs hP hS => ?_)
  refine u_aload_n X hl dX2_become_8 0 rfl ?_
  refine u_aload_n X hl dX2_become_9 1 rfl ?_
  refine gf_X2_15_10 X hP dX2_become_10 ?_
  refine pf_X2_15_1 X hP hS dX2_become_13 (fun H locs hP hS => ?_)
  refine u_aload_n X hl dX2_become_16 1 rfl ?_
  refine gf_X2_18_10 X hP dX2_become_17 ?_
  refine u_iconst (v := 0) X dX2_become_20 rfl ?_
  refine u_aload_n X hl dX2_become_21 0 rfl ?_
  refine gf_X2_18_1 X hP dX2_become_22 ?_
  refine u_iconst (v := 0) X dX2_become_25 rfl ?_
  refine u_bipush (v := 8) X dX2_become_26 rfl ?_
  refine cp_X2_40 (i0 := 11) (i1 := 2) (cI (pI (pI z 1 0 (gI z 10 0)) 1 1 (gI (pI z 1 0 (gI z 10 0)) 10 1)) 2 11 8) X hP hS hl dX2_become_28 rfl rfl (by decide) rfl rfl rfl (ax_2 _ _ _ _) rfl ⟨rfl, rfl⟩ (fun H locs hP hS => ?_)
  refine u_aload_n X hl dX2_become_31 1 rfl ?_
  refine gf_X2_22_10 X hP dX2_become_32 ?_
  refine u_iconst (v := 0) X dX2_become_35 rfl ?_
  refine u_aload_n X hl dX2_become_36 0 rfl ?_
  refine gf_X2_22_1 X hP dX2_become_37 ?_
  refine u_iconst (v := 0) X dX2_become_40 rfl ?_
  refine u_bipush (v := 8) X dX2_become_41 rfl ?_
  refine cp_X2_40 (i0 := 12) (i1 := 3) (cI (cI (pI (pI z 1 0 (gI z 10 0)) 1 1 (gI (pI z 1 0 (gI z 10 0)) 10 1)) 2 11 8) 3 12 8) X hP hS hl dX2_become_43 rfl rfl (by decide) rfl rfl rfl (ax_3 _ _ _ _) rfl ⟨rfl, rfl⟩ (fun H locs hP hS => ?_)
  refine u_aload_n X hl dX2_become_46 1 rfl ?_
  refine gf_X2_25_10 X hP dX2_become_47 ?_
  refine u_iconst (v := 0) X dX2_become_50 rfl ?_
  refine u_aload_n X hl dX2_become_51 0 rfl ?_
  refine gf_X2_25_1 X hP dX2_become_52 ?_
  refine u_iconst (v := 0) X dX2_become_55 rfl ?_
  refine u_bipush (v := 64) X dX2_become_56 rfl ?_
  refine cp_X2_40 (i0 := 13) (i1 := 4) (cI (cI (cI (pI (pI z 1 0 (gI z 10 0)) 1 1 (gI (pI z 1 0 (gI z 10 0)) 10 1)) 2 11 8) 3 12 8) 4 13 64) X hP hS hl dX2_become_58 rfl rfl (by decide) rfl rfl rfl (ax_4 _ _ _ _) rfl ⟨rfl, rfl⟩ (fun H locs hP hS => ?_)
  refine u_aload_n X hl dX2_become_61 1 rfl ?_
  refine gf_X2_28_10 X hP dX2_become_62 ?_
  refine u_iconst (v := 0) X dX2_become_65 rfl ?_
  refine u_aload_n X hl dX2_become_66 0 rfl ?_
  refine gf_X2_28_1 X hP dX2_become_67 ?_
  refine u_iconst (v := 0) X dX2_become_70 rfl ?_
  refine u_bipush (v := 8) X dX2_become_71 rfl ?_
  refine cp_X2_40 (i0 := 14) (i1 := 5) (cI (cI (cI (cI (pI (pI z 1 0 (gI z 10 0)) 1 1 (gI (pI z 1 0 (gI z 10 0)) 10 1)) 2 11 8) 3 12 8) 4 13 64) 5 14 8) X hP hS hl dX2_become_73 rfl rfl (by decide) rfl rfl rfl (ax_5 _ _ _ _) rfl ⟨rfl, rfl⟩ (fun H locs hP hS => ?_)
  refine u_aload_n X hl dX2_become_76 1 rfl ?_
  refine gf_X2_31_10 X hP dX2_become_77 ?_
  refine u_iconst (v := 0) X dX2_become_80 rfl ?_
  refine u_aload_n X hl dX2_become_81 0 rfl ?_
  refine gf_X2_31_1 X hP dX2_become_82 ?_
  refine u_iconst (v := 0) X dX2_become_85 rfl ?_
  refine u_bipush (v := 40) X dX2_become_86 rfl ?_
  refine cp_X2_40 (i0 := 15) (i1 := 6) (cI (cI (cI (cI (cI (pI (pI z 1 0 (gI z 10 0)) 1 1 (gI (pI z 1 0 (gI z 10 0)) 10 1)) 2 11 8) 3 12 8) 4 13 64) 5 14 8) 6 15 40) X hP hS hl dX2_become_88 rfl rfl (by decide) rfl rfl rfl (ax_6 _ _ _ _) rfl ⟨rfl, rfl⟩ (fun H locs hP hS => ?_)
  refine u_aload_n X hl dX2_become_91 1 rfl ?_
  refine gf_X2_34_10 X hP dX2_become_92 ?_
  refine u_iconst (v := 0) X dX2_become_95 rfl ?_
  refine u_aload_n X hl dX2_become_96 0 rfl ?_
  refine gf_X2_34_1 X hP dX2_become_97 ?_
  refine u_iconst (v := 0) X dX2_become_100 rfl ?_
  refine u_bipush (v := 10) X dX2_become_101 rfl ?_
  refine cp_X2_40 (i0 := 16) (i1 := 7) (cI (cI (cI (cI (cI (cI (pI (pI z 1 0 (gI z 10 0)) 1 1 (gI (pI z 1 0 (gI z 10 0)) 10 1)) 2 11 8) 3 12 8) 4 13 64) 5 14 8) 6 15 40) 7 16 10) X hP hS hl dX2_become_103 rfl rfl (by decide) rfl rfl rfl (ax_7 _ _ _ _) rfl ⟨rfl, rfl⟩ (fun H locs hP hS => ?_)
  exact u_vretM X hr hret h hP hS dX2_become_106
def fHouse10_addPerson (z : MS) : Option (Int32 × MS) :=
  some ((gI (pI z 10 0 ((gI z 10 0) + 1)) 10 0) - 1, pI z 10 0 ((gI z 10 0) + 1))
set_option maxRecDepth 4000 in
theorem cHouse10_addPerson (l : Launch) {z : MS} {r : Int32} {z1 : MS} (h : fHouse10_addPerson z = some (r, z1)) : CT l yX2_addPerson cX2_addPerson 1 (some .int) 0 0 (fun ad sd => [.ref (ad 10)]) z (some (.int r)) z1 := by
  rw [fHouse10_addPerson] at h
  refine u_start RX2 rfl (by decide) (fun _ _ => Nat.le_of_ble_eq_true rfl) (fun p e s m args below meth c R D ad cs sd A Q ls X hP hS hl hr hret => ?_)
  have hl : lv_has ls 1 [(0, .ref (ad 10))] := hl
  refine u_aload_n X hl dX2_addPerson_0 0 rfl ?_
  refine u_dup X rfl dX2_addPerson_1 ?_
  refine gf_X2_9_10 X hP dX2_addPerson_2 ?_
  refine u_iconst (v := 1) X dX2_addPerson_5 rfl ?_
  refine u_iadd X dX2_addPerson_6 ?_
  refine pf_X2_9_10 X hP hS dX2_addPerson_7 (fun H locs hP hS => ?_)
  refine u_aload_n X hl dX2_addPerson_10 0 rfl ?_
  refine gf_X2_9_10 X hP dX2_addPerson_11 ?_
  refine u_iconst (v := 1) X dX2_addPerson_14 rfl ?_
  refine u_isub X dX2_addPerson_15 ?_
  exact u_iretM X hr hret h hP hS dX2_addPerson_16
def fHouse10_areKin (z : MS) (a0 : Int32) (a1 : Int32) : Option Int32 :=
  if a0 < 0 ∨ 8 ≤ a0.toNatClampNeg then none else if (((gI z 11 a0.toNatClampNeg) >>> (a1 &&& 31)) &&& 1) = 1 then some 1 else some 0
set_option maxRecDepth 4000 in
theorem cHouse10_areKin (l : Launch) {z : MS} {a0 : Int32} {a1 : Int32} {r : Int32} (h : fHouse10_areKin z a0 a1 = some r) : CT l yX2_areKin cX2_areKin 3 (some .boolean) 0 0 (fun ad sd => [.ref (ad 10), .int a0, .int a1]) z (some (.int r)) z := by
  rw [fHouse10_areKin] at h
  refine u_start RX2 rfl (by decide) (fun _ _ => Nat.le_of_ble_eq_true rfl) (fun p e s m args below meth c R D ad cs sd A Q ls X hP hS hl hr hret => ?_)
  have hl : lv_has ls 3 [(0, .ref (ad 10)), (1, .int a0), (2, .int a1)] := hl
  refine u_aload_n X hl dX2_areKin_0 0 rfl ?_
  refine gf_X2_18_10 X hP dX2_areKin_1 ?_
  refine u_iload_n X hl dX2_areKin_4 1 rfl ?_
  obtain ⟨hin, h⟩ := ifn_inv h
  refine ld_11 X hP rfl hin dX2_areKin_5 ?_
  refine u_iload_n X hl dX2_areKin_6 2 rfl ?_
  refine u_ishr X dX2_areKin_7 ?_
  refine u_iconst (v := 1) X dX2_areKin_8 rfl ?_
  refine u_iand X dX2_areKin_9 ?_
  refine u_iconst (v := 1) X dX2_areKin_10 rfl ?_
  refine u_icmp_ne 18 X dX2_areKin_11 rfl (fun hc => ?_) (fun hc => ?_)
  · rw [if_neg hc] at h
    refine u_iconst (v := 0) X dX2_areKin_18 rfl ?_
    exact u_zretP X hr hret h hP hS (Or.inl rfl) dX2_areKin_19
  · rw [if_pos hc] at h
    refine u_iconst (v := 1) X dX2_areKin_14 rfl ?_
    refine u_goto 19 X dX2_areKin_15 rfl ?_
    exact u_zretP X hr hret h hP hS (Or.inr rfl) dX2_areKin_19
def fHouse10_setKin (z : MS) (a0 : Int32) (a1 : Int32) (a2 : Int32) : Option (Int32 × MS) :=
  Option.bind (fHouse10_areKin z a0 a1) (fun v3 => if v3 = a2 then some (0, z) else (if a0 < 0 ∨ 8 ≤ a0.toNatClampNeg then none else if a0 < 0 ∨ 8 ≤ a0.toNatClampNeg then none else if a1 < 0 ∨ 8 ≤ a1.toNatClampNeg then none else if a1 < 0 ∨ 8 ≤ a1.toNatClampNeg then none else some (1, pI (pI z 11 a0.toNatClampNeg ((gI z 11 a0.toNatClampNeg) ^^^ ((1 : Int32) <<< (a1 &&& 31)))) 11 a1.toNatClampNeg ((gI (pI z 11 a0.toNatClampNeg ((gI z 11 a0.toNatClampNeg) ^^^ ((1 : Int32) <<< (a1 &&& 31)))) 11 a1.toNatClampNeg) ^^^ ((1 : Int32) <<< (a0 &&& 31))))))
set_option maxRecDepth 4000 in
theorem cHouse10_setKin (l : Launch) {z : MS} {a0 : Int32} {a1 : Int32} {a2 : Int32} {r : Int32} {z1 : MS} (h : fHouse10_setKin z a0 a1 a2 = some (r, z1)) : CT l yX2_setKin cX2_setKin 4 (some .int) 1 22 (fun ad sd => [.ref (ad 10), .int a0, .int a1, .int a2]) z (some (.int r)) z1 := by
  rw [fHouse10_setKin] at h
  refine u_start RX2 rfl (by decide) (fun _ _ => Nat.le_of_ble_eq_true rfl) (fun p e s m args below meth c R D ad cs sd A Q ls X hP hS hl hr hret => ?_)
  have hl : lv_has ls 4 [(0, .ref (ad 10)), (1, .int a0), (2, .int a1), (3, .int a2)] := hl
  refine u_aload_n X hl dX2_setKin_0 0 rfl ?_
  refine u_iload_n X hl dX2_setKin_1 1 rfl ?_
  refine u_iload_n X hl dX2_setKin_2 2 rfl ?_
  obtain ⟨v3, hc3, h⟩ := ob_inv h
  refine u_callVi X hP hS hl dX2_setKin_3 (cHouse10_areKin l hc3) cw_X2_56 io_10 rfl rfl rfl rfl ⟨rfl, rfl⟩ (fun H locs hP hS => ?_)
  refine u_iload_n X hl dX2_setKin_6 3 rfl ?_
  refine u_icmp_ne 12 X dX2_setKin_7 rfl (fun hc => ?_) (fun hc => ?_)
  · rw [if_neg hc] at h
    refine u_aload_n X hl dX2_setKin_12 0 rfl ?_
    refine gf_X2_18_10 X hP dX2_setKin_13 ?_
    refine u_iload_n X hl dX2_setKin_16 1 rfl ?_
    refine u_dup2 X rfl rfl dX2_setKin_17 ?_
    obtain ⟨hin, h⟩ := ifn_inv h
    refine ld_11 X hP rfl hin dX2_setKin_18 ?_
    refine u_iconst (v := 1) X dX2_setKin_19 rfl ?_
    refine u_iload_n X hl dX2_setKin_20 2 rfl ?_
    refine u_ishl X dX2_setKin_21 ?_
    refine u_ixor X dX2_setKin_22 ?_
    obtain ⟨hin, h⟩ := ifn_inv h
    refine as_11 X hP hS rfl hin dX2_setKin_23 (fun H locs hP hS => ?_)
    refine u_aload_n X hl dX2_setKin_24 0 rfl ?_
    refine gf_X2_18_10 X hP dX2_setKin_25 ?_
    refine u_iload_n X hl dX2_setKin_28 2 rfl ?_
    refine u_dup2 X rfl rfl dX2_setKin_29 ?_
    obtain ⟨hin, h⟩ := ifn_inv h
    refine ld_11 X hP rfl hin dX2_setKin_30 ?_
    refine u_iconst (v := 1) X dX2_setKin_31 rfl ?_
    refine u_iload_n X hl dX2_setKin_32 1 rfl ?_
    refine u_ishl X dX2_setKin_33 ?_
    refine u_ixor X dX2_setKin_34 ?_
    obtain ⟨hin, h⟩ := ifn_inv h
    refine as_11 X hP hS rfl hin dX2_setKin_35 (fun H locs hP hS => ?_)
    refine u_iconst (v := 1) X dX2_setKin_36 rfl ?_
    exact u_iretM X hr hret h hP hS dX2_setKin_37
  · rw [if_pos hc] at h
    refine u_iconst (v := 0) X dX2_setKin_10 rfl ?_
    exact u_iretM X hr hret h hP hS dX2_setKin_11
def fHouse_pairOf (a0 : Int32) (a1 : Int32) : Int32 :=
  if a1 ≤ a0 then (8 * a1) + a0 else (8 * a0) + a1
set_option maxRecDepth 4000 in
theorem cHouse_pairOf (l : Launch) (z : MS) (a0 : Int32) (a1 : Int32) : CT l yX2_pairOf cX2_pairOf 2 (some .int) 0 0 (fun ad sd => [.int a0, .int a1]) z (some (.int (fHouse_pairOf a0 a1))) z := by
  generalize h : fHouse_pairOf a0 a1 = r
  rw [fHouse_pairOf] at h
  refine u_start RX2 rfl (by decide) (fun _ _ => Nat.le_of_ble_eq_true rfl) (fun p e s m args below meth c R D ad cs sd A Q ls X hP hS hl hr hret => ?_)
  have hl : lv_has ls 2 [(0, .int a0), (1, .int a1)] := hl
  refine u_iload_n X hl dX2_pairOf_0 0 rfl ?_
  refine u_iload_n X hl dX2_pairOf_1 1 rfl ?_
  refine u_icmp_ge 14 X dX2_pairOf_2 rfl (fun hc => ?_) (fun hc => ?_)
  · rw [if_pos hc] at h
    refine u_bipush (v := 8) X dX2_pairOf_14 rfl ?_
    refine u_iload_n X hl dX2_pairOf_16 1 rfl ?_
    refine u_imul X dX2_pairOf_17 ?_
    refine u_iload_n X hl dX2_pairOf_18 0 rfl ?_
    refine u_iadd X dX2_pairOf_19 ?_
    exact u_iretT X hr hret h hP hS dX2_pairOf_20
  · rw [if_neg hc] at h
    refine u_bipush (v := 8) X dX2_pairOf_5 rfl ?_
    refine u_iload_n X hl dX2_pairOf_7 0 rfl ?_
    refine u_imul X dX2_pairOf_8 ?_
    refine u_iload_n X hl dX2_pairOf_9 1 rfl ?_
    refine u_iadd X dX2_pairOf_10 ?_
    refine u_goto 20 X dX2_pairOf_11 rfl ?_
    exact u_iretT X hr hret h hP hS dX2_pairOf_20
def fHouse10_isAway (z : MS) (a0 : Int32) (a1 : Int32) : Option Int32 :=
  if a0 < 0 ∨ 8 ≤ a0.toNatClampNeg then none else if (((gI z 12 a0.toNatClampNeg) >>> (a1 &&& 31)) &&& 1) = 1 then some 1 else some 0
set_option maxRecDepth 4000 in
theorem cHouse10_isAway (l : Launch) {z : MS} {a0 : Int32} {a1 : Int32} {r : Int32} (h : fHouse10_isAway z a0 a1 = some r) : CT l yX2_isAway cX2_isAway 3 (some .boolean) 0 0 (fun ad sd => [.ref (ad 10), .int a0, .int a1]) z (some (.int r)) z := by
  rw [fHouse10_isAway] at h
  refine u_start RX2 rfl (by decide) (fun _ _ => Nat.le_of_ble_eq_true rfl) (fun p e s m args below meth c R D ad cs sd A Q ls X hP hS hl hr hret => ?_)
  have hl : lv_has ls 3 [(0, .ref (ad 10)), (1, .int a0), (2, .int a1)] := hl
  refine u_aload_n X hl dX2_isAway_0 0 rfl ?_
  refine gf_X2_22_10 X hP dX2_isAway_1 ?_
  refine u_iload_n X hl dX2_isAway_4 1 rfl ?_
  obtain ⟨hin, h⟩ := ifn_inv h
  refine ld_12 X hP rfl hin dX2_isAway_5 ?_
  refine u_iload_n X hl dX2_isAway_6 2 rfl ?_
  refine u_ishr X dX2_isAway_7 ?_
  refine u_iconst (v := 1) X dX2_isAway_8 rfl ?_
  refine u_iand X dX2_isAway_9 ?_
  refine u_iconst (v := 1) X dX2_isAway_10 rfl ?_
  refine u_icmp_ne 18 X dX2_isAway_11 rfl (fun hc => ?_) (fun hc => ?_)
  · rw [if_neg hc] at h
    refine u_iconst (v := 0) X dX2_isAway_18 rfl ?_
    exact u_zretP X hr hret h hP hS (Or.inl rfl) dX2_isAway_19
  · rw [if_pos hc] at h
    refine u_iconst (v := 1) X dX2_isAway_14 rfl ?_
    refine u_goto 19 X dX2_isAway_15 rfl ?_
    exact u_zretP X hr hret h hP hS (Or.inr rfl) dX2_isAway_19
def fHouse10_setAway (z : MS) (a0 : Int32) (a1 : Int32) (a2 : Int32) : Option (Int32 × MS) :=
  Option.bind (fHouse10_isAway z a0 a1) (fun v3 => if v3 = a2 then some (0, z) else (if a0 < 0 ∨ 8 ≤ a0.toNatClampNeg then none else if a0 < 0 ∨ 8 ≤ a0.toNatClampNeg then none else some (1, pI z 12 a0.toNatClampNeg ((gI z 12 a0.toNatClampNeg) ^^^ ((1 : Int32) <<< (a1 &&& 31))))))
set_option maxRecDepth 4000 in
theorem cHouse10_setAway (l : Launch) {z : MS} {a0 : Int32} {a1 : Int32} {a2 : Int32} {r : Int32} {z1 : MS} (h : fHouse10_setAway z a0 a1 a2 = some (r, z1)) : CT l yX2_setAway cX2_setAway 4 (some .int) 1 22 (fun ad sd => [.ref (ad 10), .int a0, .int a1, .int a2]) z (some (.int r)) z1 := by
  rw [fHouse10_setAway] at h
  refine u_start RX2 rfl (by decide) (fun _ _ => Nat.le_of_ble_eq_true rfl) (fun p e s m args below meth c R D ad cs sd A Q ls X hP hS hl hr hret => ?_)
  have hl : lv_has ls 4 [(0, .ref (ad 10)), (1, .int a0), (2, .int a1), (3, .int a2)] := hl
  refine u_aload_n X hl dX2_setAway_0 0 rfl ?_
  refine u_iload_n X hl dX2_setAway_1 1 rfl ?_
  refine u_iload_n X hl dX2_setAway_2 2 rfl ?_
  obtain ⟨v3, hc3, h⟩ := ob_inv h
  refine u_callVi X hP hS hl dX2_setAway_3 (cHouse10_isAway l hc3) cw_X2_60 io_10 rfl rfl rfl rfl ⟨rfl, rfl⟩ (fun H locs hP hS => ?_)
  refine u_iload_n X hl dX2_setAway_6 3 rfl ?_
  refine u_icmp_ne 12 X dX2_setAway_7 rfl (fun hc => ?_) (fun hc => ?_)
  · rw [if_neg hc] at h
    refine u_aload_n X hl dX2_setAway_12 0 rfl ?_
    refine gf_X2_22_10 X hP dX2_setAway_13 ?_
    refine u_iload_n X hl dX2_setAway_16 1 rfl ?_
    refine u_dup2 X rfl rfl dX2_setAway_17 ?_
    obtain ⟨hin, h⟩ := ifn_inv h
    refine ld_12 X hP rfl hin dX2_setAway_18 ?_
    refine u_iconst (v := 1) X dX2_setAway_19 rfl ?_
    refine u_iload_n X hl dX2_setAway_20 2 rfl ?_
    refine u_ishl X dX2_setAway_21 ?_
    refine u_ixor X dX2_setAway_22 ?_
    obtain ⟨hin, h⟩ := ifn_inv h
    refine as_12 X hP hS rfl hin dX2_setAway_23 (fun H locs hP hS => ?_)
    refine u_iconst (v := 1) X dX2_setAway_24 rfl ?_
    exact u_iretM X hr hret h hP hS dX2_setAway_25
  · rw [if_pos hc] at h
    refine u_iconst (v := 0) X dX2_setAway_10 rfl ?_
    exact u_iretM X hr hret h hP hS dX2_setAway_11
def fHouse_addPerson (z : MS) : Option (Int32 × MS) :=
  some ((gI (pI z 1 0 ((gI z 1 0) + 1)) 1 0) - 1, pI z 1 0 ((gI z 1 0) + 1))
set_option maxRecDepth 4000 in
theorem cHouse_addPerson (l : Launch) {z : MS} {r : Int32} {z1 : MS} (h : fHouse_addPerson z = some (r, z1)) : CT l yX2_addPerson cX2_addPerson 1 (some .int) 0 0 (fun ad sd => [.ref (ad 1)]) z (some (.int r)) z1 := by
  rw [fHouse_addPerson] at h
  refine u_start RX2 rfl (by decide) (fun _ _ => Nat.le_of_ble_eq_true rfl) (fun p e s m args below meth c R D ad cs sd A Q ls X hP hS hl hr hret => ?_)
  have hl : lv_has ls 1 [(0, .ref (ad 1))] := hl
  refine u_aload_n X hl dX2_addPerson_0 0 rfl ?_
  refine u_dup X rfl dX2_addPerson_1 ?_
  refine gf_X2_9_1 X hP dX2_addPerson_2 ?_
  refine u_iconst (v := 1) X dX2_addPerson_5 rfl ?_
  refine u_iadd X dX2_addPerson_6 ?_
  refine pf_X2_9_1 X hP hS dX2_addPerson_7 (fun H locs hP hS => ?_)
  refine u_aload_n X hl dX2_addPerson_10 0 rfl ?_
  refine gf_X2_9_1 X hP dX2_addPerson_11 ?_
  refine u_iconst (v := 1) X dX2_addPerson_14 rfl ?_
  refine u_isub X dX2_addPerson_15 ?_
  exact u_iretM X hr hret h hP hS dX2_addPerson_16
def fHouse_isPerson (z : MS) (a0 : Int32) : Int32 :=
  if a0 < 0 then 0 else (if (gI z 1 0) ≤ a0 then 0 else 1)
theorem fHouse_isPerson_b (z : MS) (a0 : Int32) : fHouse_isPerson z a0 = 0 ∨ fHouse_isPerson z a0 = 1 := by
  unfold fHouse_isPerson
  first | exact Or.inl rfl | exact Or.inl rfl | ((repeat' split) <;> first | exact Or.inl rfl | exact Or.inr rfl)
set_option maxRecDepth 4000 in
theorem cHouse_isPerson (l : Launch) (z : MS) (a0 : Int32) : CT l yX2_isPerson cX2_isPerson 2 (some .boolean) 0 0 (fun ad sd => [.ref (ad 1), .int a0]) z (some (.int (fHouse_isPerson z a0))) z := by
  generalize h : fHouse_isPerson z a0 = r
  rw [fHouse_isPerson] at h
  refine u_start RX2 rfl (by decide) (fun _ _ => Nat.le_of_ble_eq_true rfl) (fun p e s m args below meth c R D ad cs sd A Q ls X hP hS hl hr hret => ?_)
  have hl : lv_has ls 2 [(0, .ref (ad 1)), (1, .int a0)] := hl
  refine u_iload_n X hl dX2_isPerson_0 1 rfl ?_
  refine u_if_lt 16 X dX2_isPerson_1 rfl (fun hc => ?_) (fun hc => ?_)
  · rw [if_pos hc] at h
    refine u_iconst (v := 0) X dX2_isPerson_16 rfl ?_
    exact u_zretT X hr hret h hP hS (Or.inl rfl) dX2_isPerson_17
  · rw [if_neg hc] at h
    refine u_iload_n X hl dX2_isPerson_4 1 rfl ?_
    refine u_aload_n X hl dX2_isPerson_5 0 rfl ?_
    refine gf_X2_9_1 X hP dX2_isPerson_6 ?_
    refine u_icmp_ge 16 X dX2_isPerson_9 rfl (fun hc => ?_) (fun hc => ?_)
    · rw [if_pos hc] at h
      refine u_iconst (v := 0) X dX2_isPerson_16 rfl ?_
      exact u_zretT X hr hret h hP hS (Or.inl rfl) dX2_isPerson_17
    · rw [if_neg hc] at h
      refine u_iconst (v := 1) X dX2_isPerson_12 rfl ?_
      refine u_goto 17 X dX2_isPerson_13 rfl ?_
      exact u_zretT X hr hret h hP hS (Or.inr rfl) dX2_isPerson_17
def fHouse_areTwo (z : MS) (a0 : Int32) (a1 : Int32) : Int32 :=
  if (fHouse_isPerson z a0) = 0 then 0 else (if (fHouse_isPerson z a1) = 0 then 0 else (if a0 = a1 then 0 else 1))
theorem fHouse_areTwo_b (z : MS) (a0 : Int32) (a1 : Int32) : fHouse_areTwo z a0 a1 = 0 ∨ fHouse_areTwo z a0 a1 = 1 := by
  unfold fHouse_areTwo
  first | exact Or.inl rfl | exact Or.inl rfl | ((repeat' split) <;> first | exact Or.inl rfl | exact Or.inr rfl)
set_option maxRecDepth 4000 in
theorem cHouse_areTwo (l : Launch) (z : MS) (a0 : Int32) (a1 : Int32) : CT l yX2_areTwo cX2_areTwo 3 (some .boolean) 1 21 (fun ad sd => [.ref (ad 1), .int a0, .int a1]) z (some (.int (fHouse_areTwo z a0 a1))) z := by
  generalize h : fHouse_areTwo z a0 a1 = r
  rw [fHouse_areTwo] at h
  refine u_start RX2 rfl (by decide) (fun _ _ => Nat.le_of_ble_eq_true rfl) (fun p e s m args below meth c R D ad cs sd A Q ls X hP hS hl hr hret => ?_)
  have hl : lv_has ls 3 [(0, .ref (ad 1)), (1, .int a0), (2, .int a1)] := hl
  refine u_aload_n X hl dX2_areTwo_0 0 rfl ?_
  refine u_iload_n X hl dX2_areTwo_1 1 rfl ?_
  refine u_callVi X hP hS hl dX2_areTwo_2 (cHouse_isPerson l z a0) cw_X2_52 io_1 rfl rfl rfl rfl ⟨rfl, rfl⟩ (fun H locs hP hS => ?_)
  refine u_if_eq 25 X dX2_areTwo_5 rfl (fun hc => ?_) (fun hc => ?_)
  · rw [if_pos hc] at h
    refine u_iconst (v := 0) X dX2_areTwo_25 rfl ?_
    exact u_zretT X hr hret h hP hS (Or.inl rfl) dX2_areTwo_26
  · rw [if_neg hc] at h
    refine u_aload_n X hl dX2_areTwo_8 0 rfl ?_
    refine u_iload_n X hl dX2_areTwo_9 2 rfl ?_
    refine u_callVi X hP hS hl dX2_areTwo_10 (cHouse_isPerson l z a1) cw_X2_52 io_1 rfl rfl rfl rfl ⟨rfl, rfl⟩ (fun H locs hP hS => ?_)
    refine u_if_eq 25 X dX2_areTwo_13 rfl (fun hc => ?_) (fun hc => ?_)
    · rw [if_pos hc] at h
      refine u_iconst (v := 0) X dX2_areTwo_25 rfl ?_
      exact u_zretT X hr hret h hP hS (Or.inl rfl) dX2_areTwo_26
    · rw [if_neg hc] at h
      refine u_iload_n X hl dX2_areTwo_16 1 rfl ?_
      refine u_iload_n X hl dX2_areTwo_17 2 rfl ?_
      refine u_icmp_eq 25 X dX2_areTwo_18 rfl (fun hc => ?_) (fun hc => ?_)
      · rw [if_pos hc] at h
        refine u_iconst (v := 0) X dX2_areTwo_25 rfl ?_
        exact u_zretT X hr hret h hP hS (Or.inl rfl) dX2_areTwo_26
      · rw [if_neg hc] at h
        refine u_iconst (v := 1) X dX2_areTwo_21 rfl ?_
        refine u_goto 26 X dX2_areTwo_22 rfl ?_
        exact u_zretT X hr hret h hP hS (Or.inr rfl) dX2_areTwo_26
def fHouse_areKin (z : MS) (a0 : Int32) (a1 : Int32) : Option Int32 :=
  if a0 < 0 ∨ 8 ≤ a0.toNatClampNeg then none else if (((gI z 2 a0.toNatClampNeg) >>> (a1 &&& 31)) &&& 1) = 1 then some 1 else some 0
set_option maxRecDepth 4000 in
theorem cHouse_areKin (l : Launch) {z : MS} {a0 : Int32} {a1 : Int32} {r : Int32} (h : fHouse_areKin z a0 a1 = some r) : CT l yX2_areKin cX2_areKin 3 (some .boolean) 0 0 (fun ad sd => [.ref (ad 1), .int a0, .int a1]) z (some (.int r)) z := by
  rw [fHouse_areKin] at h
  refine u_start RX2 rfl (by decide) (fun _ _ => Nat.le_of_ble_eq_true rfl) (fun p e s m args below meth c R D ad cs sd A Q ls X hP hS hl hr hret => ?_)
  have hl : lv_has ls 3 [(0, .ref (ad 1)), (1, .int a0), (2, .int a1)] := hl
  refine u_aload_n X hl dX2_areKin_0 0 rfl ?_
  refine gf_X2_18_1 X hP dX2_areKin_1 ?_
  refine u_iload_n X hl dX2_areKin_4 1 rfl ?_
  obtain ⟨hin, h⟩ := ifn_inv h
  refine ld_2 X hP rfl hin dX2_areKin_5 ?_
  refine u_iload_n X hl dX2_areKin_6 2 rfl ?_
  refine u_ishr X dX2_areKin_7 ?_
  refine u_iconst (v := 1) X dX2_areKin_8 rfl ?_
  refine u_iand X dX2_areKin_9 ?_
  refine u_iconst (v := 1) X dX2_areKin_10 rfl ?_
  refine u_icmp_ne 18 X dX2_areKin_11 rfl (fun hc => ?_) (fun hc => ?_)
  · rw [if_neg hc] at h
    refine u_iconst (v := 0) X dX2_areKin_18 rfl ?_
    exact u_zretP X hr hret h hP hS (Or.inl rfl) dX2_areKin_19
  · rw [if_pos hc] at h
    refine u_iconst (v := 1) X dX2_areKin_14 rfl ?_
    refine u_goto 19 X dX2_areKin_15 rfl ?_
    exact u_zretP X hr hret h hP hS (Or.inr rfl) dX2_areKin_19
def fHouse_setKin (z : MS) (a0 : Int32) (a1 : Int32) (a2 : Int32) : Option (Int32 × MS) :=
  Option.bind (fHouse_areKin z a0 a1) (fun v3 => if v3 = a2 then some (0, z) else (if a0 < 0 ∨ 8 ≤ a0.toNatClampNeg then none else if a0 < 0 ∨ 8 ≤ a0.toNatClampNeg then none else if a1 < 0 ∨ 8 ≤ a1.toNatClampNeg then none else if a1 < 0 ∨ 8 ≤ a1.toNatClampNeg then none else some (1, pI (pI z 2 a0.toNatClampNeg ((gI z 2 a0.toNatClampNeg) ^^^ ((1 : Int32) <<< (a1 &&& 31)))) 2 a1.toNatClampNeg ((gI (pI z 2 a0.toNatClampNeg ((gI z 2 a0.toNatClampNeg) ^^^ ((1 : Int32) <<< (a1 &&& 31)))) 2 a1.toNatClampNeg) ^^^ ((1 : Int32) <<< (a0 &&& 31))))))
set_option maxRecDepth 4000 in
theorem cHouse_setKin (l : Launch) {z : MS} {a0 : Int32} {a1 : Int32} {a2 : Int32} {r : Int32} {z1 : MS} (h : fHouse_setKin z a0 a1 a2 = some (r, z1)) : CT l yX2_setKin cX2_setKin 4 (some .int) 1 22 (fun ad sd => [.ref (ad 1), .int a0, .int a1, .int a2]) z (some (.int r)) z1 := by
  rw [fHouse_setKin] at h
  refine u_start RX2 rfl (by decide) (fun _ _ => Nat.le_of_ble_eq_true rfl) (fun p e s m args below meth c R D ad cs sd A Q ls X hP hS hl hr hret => ?_)
  have hl : lv_has ls 4 [(0, .ref (ad 1)), (1, .int a0), (2, .int a1), (3, .int a2)] := hl
  refine u_aload_n X hl dX2_setKin_0 0 rfl ?_
  refine u_iload_n X hl dX2_setKin_1 1 rfl ?_
  refine u_iload_n X hl dX2_setKin_2 2 rfl ?_
  obtain ⟨v3, hc3, h⟩ := ob_inv h
  refine u_callVi X hP hS hl dX2_setKin_3 (cHouse_areKin l hc3) cw_X2_56 io_1 rfl rfl rfl rfl ⟨rfl, rfl⟩ (fun H locs hP hS => ?_)
  refine u_iload_n X hl dX2_setKin_6 3 rfl ?_
  refine u_icmp_ne 12 X dX2_setKin_7 rfl (fun hc => ?_) (fun hc => ?_)
  · rw [if_neg hc] at h
    refine u_aload_n X hl dX2_setKin_12 0 rfl ?_
    refine gf_X2_18_1 X hP dX2_setKin_13 ?_
    refine u_iload_n X hl dX2_setKin_16 1 rfl ?_
    refine u_dup2 X rfl rfl dX2_setKin_17 ?_
    obtain ⟨hin, h⟩ := ifn_inv h
    refine ld_2 X hP rfl hin dX2_setKin_18 ?_
    refine u_iconst (v := 1) X dX2_setKin_19 rfl ?_
    refine u_iload_n X hl dX2_setKin_20 2 rfl ?_
    refine u_ishl X dX2_setKin_21 ?_
    refine u_ixor X dX2_setKin_22 ?_
    obtain ⟨hin, h⟩ := ifn_inv h
    refine as_2 X hP hS rfl hin dX2_setKin_23 (fun H locs hP hS => ?_)
    refine u_aload_n X hl dX2_setKin_24 0 rfl ?_
    refine gf_X2_18_1 X hP dX2_setKin_25 ?_
    refine u_iload_n X hl dX2_setKin_28 2 rfl ?_
    refine u_dup2 X rfl rfl dX2_setKin_29 ?_
    obtain ⟨hin, h⟩ := ifn_inv h
    refine ld_2 X hP rfl hin dX2_setKin_30 ?_
    refine u_iconst (v := 1) X dX2_setKin_31 rfl ?_
    refine u_iload_n X hl dX2_setKin_32 1 rfl ?_
    refine u_ishl X dX2_setKin_33 ?_
    refine u_ixor X dX2_setKin_34 ?_
    obtain ⟨hin, h⟩ := ifn_inv h
    refine as_2 X hP hS rfl hin dX2_setKin_35 (fun H locs hP hS => ?_)
    refine u_iconst (v := 1) X dX2_setKin_36 rfl ?_
    exact u_iretM X hr hret h hP hS dX2_setKin_37
  · rw [if_pos hc] at h
    refine u_iconst (v := 0) X dX2_setKin_10 rfl ?_
    exact u_iretM X hr hret h hP hS dX2_setKin_11
def fHouse_isAway (z : MS) (a0 : Int32) (a1 : Int32) : Option Int32 :=
  if a0 < 0 ∨ 8 ≤ a0.toNatClampNeg then none else if (((gI z 3 a0.toNatClampNeg) >>> (a1 &&& 31)) &&& 1) = 1 then some 1 else some 0
set_option maxRecDepth 4000 in
theorem cHouse_isAway (l : Launch) {z : MS} {a0 : Int32} {a1 : Int32} {r : Int32} (h : fHouse_isAway z a0 a1 = some r) : CT l yX2_isAway cX2_isAway 3 (some .boolean) 0 0 (fun ad sd => [.ref (ad 1), .int a0, .int a1]) z (some (.int r)) z := by
  rw [fHouse_isAway] at h
  refine u_start RX2 rfl (by decide) (fun _ _ => Nat.le_of_ble_eq_true rfl) (fun p e s m args below meth c R D ad cs sd A Q ls X hP hS hl hr hret => ?_)
  have hl : lv_has ls 3 [(0, .ref (ad 1)), (1, .int a0), (2, .int a1)] := hl
  refine u_aload_n X hl dX2_isAway_0 0 rfl ?_
  refine gf_X2_22_1 X hP dX2_isAway_1 ?_
  refine u_iload_n X hl dX2_isAway_4 1 rfl ?_
  obtain ⟨hin, h⟩ := ifn_inv h
  refine ld_3 X hP rfl hin dX2_isAway_5 ?_
  refine u_iload_n X hl dX2_isAway_6 2 rfl ?_
  refine u_ishr X dX2_isAway_7 ?_
  refine u_iconst (v := 1) X dX2_isAway_8 rfl ?_
  refine u_iand X dX2_isAway_9 ?_
  refine u_iconst (v := 1) X dX2_isAway_10 rfl ?_
  refine u_icmp_ne 18 X dX2_isAway_11 rfl (fun hc => ?_) (fun hc => ?_)
  · rw [if_neg hc] at h
    refine u_iconst (v := 0) X dX2_isAway_18 rfl ?_
    exact u_zretP X hr hret h hP hS (Or.inl rfl) dX2_isAway_19
  · rw [if_pos hc] at h
    refine u_iconst (v := 1) X dX2_isAway_14 rfl ?_
    refine u_goto 19 X dX2_isAway_15 rfl ?_
    exact u_zretP X hr hret h hP hS (Or.inr rfl) dX2_isAway_19
def fHouse_setAway (z : MS) (a0 : Int32) (a1 : Int32) (a2 : Int32) : Option (Int32 × MS) :=
  Option.bind (fHouse_isAway z a0 a1) (fun v3 => if v3 = a2 then some (0, z) else (if a0 < 0 ∨ 8 ≤ a0.toNatClampNeg then none else if a0 < 0 ∨ 8 ≤ a0.toNatClampNeg then none else some (1, pI z 3 a0.toNatClampNeg ((gI z 3 a0.toNatClampNeg) ^^^ ((1 : Int32) <<< (a1 &&& 31))))))
set_option maxRecDepth 4000 in
theorem cHouse_setAway (l : Launch) {z : MS} {a0 : Int32} {a1 : Int32} {a2 : Int32} {r : Int32} {z1 : MS} (h : fHouse_setAway z a0 a1 a2 = some (r, z1)) : CT l yX2_setAway cX2_setAway 4 (some .int) 1 22 (fun ad sd => [.ref (ad 1), .int a0, .int a1, .int a2]) z (some (.int r)) z1 := by
  rw [fHouse_setAway] at h
  refine u_start RX2 rfl (by decide) (fun _ _ => Nat.le_of_ble_eq_true rfl) (fun p e s m args below meth c R D ad cs sd A Q ls X hP hS hl hr hret => ?_)
  have hl : lv_has ls 4 [(0, .ref (ad 1)), (1, .int a0), (2, .int a1), (3, .int a2)] := hl
  refine u_aload_n X hl dX2_setAway_0 0 rfl ?_
  refine u_iload_n X hl dX2_setAway_1 1 rfl ?_
  refine u_iload_n X hl dX2_setAway_2 2 rfl ?_
  obtain ⟨v3, hc3, h⟩ := ob_inv h
  refine u_callVi X hP hS hl dX2_setAway_3 (cHouse_isAway l hc3) cw_X2_60 io_1 rfl rfl rfl rfl ⟨rfl, rfl⟩ (fun H locs hP hS => ?_)
  refine u_iload_n X hl dX2_setAway_6 3 rfl ?_
  refine u_icmp_ne 12 X dX2_setAway_7 rfl (fun hc => ?_) (fun hc => ?_)
  · rw [if_neg hc] at h
    refine u_aload_n X hl dX2_setAway_12 0 rfl ?_
    refine gf_X2_22_1 X hP dX2_setAway_13 ?_
    refine u_iload_n X hl dX2_setAway_16 1 rfl ?_
    refine u_dup2 X rfl rfl dX2_setAway_17 ?_
    obtain ⟨hin, h⟩ := ifn_inv h
    refine ld_3 X hP rfl hin dX2_setAway_18 ?_
    refine u_iconst (v := 1) X dX2_setAway_19 rfl ?_
    refine u_iload_n X hl dX2_setAway_20 2 rfl ?_
    refine u_ishl X dX2_setAway_21 ?_
    refine u_ixor X dX2_setAway_22 ?_
    obtain ⟨hin, h⟩ := ifn_inv h
    refine as_3 X hP hS rfl hin dX2_setAway_23 (fun H locs hP hS => ?_)
    refine u_iconst (v := 1) X dX2_setAway_24 rfl ?_
    exact u_iretM X hr hret h hP hS dX2_setAway_25
  · rw [if_pos hc] at h
    refine u_iconst (v := 0) X dX2_setAway_10 rfl ?_
    exact u_iretM X hr hret h hP hS dX2_setAway_11
def fHouse_at (z : MS) (a0 : Int32) (a1 : Int32) : Option Int32 :=
  if ((a0 * 4) + a1) < 0 ∨ 40 ≤ ((a0 * 4) + a1).toNatClampNeg then none else some (gI z 6 ((a0 * 4) + a1).toNatClampNeg)
set_option maxRecDepth 4000 in
theorem cHouse_at (l : Launch) {z : MS} {a0 : Int32} {a1 : Int32} {r : Int32} (h : fHouse_at z a0 a1 = some r) : CT l yX2_at cX2_at 3 (some .int) 0 0 (fun ad sd => [.ref (ad 1), .int a0, .int a1]) z (some (.int r)) z := by
  rw [fHouse_at] at h
  refine u_start RX2 rfl (by decide) (fun _ _ => Nat.le_of_ble_eq_true rfl) (fun p e s m args below meth c R D ad cs sd A Q ls X hP hS hl hr hret => ?_)
  have hl : lv_has ls 3 [(0, .ref (ad 1)), (1, .int a0), (2, .int a1)] := hl
  refine u_aload_n X hl dX2_at_0 0 rfl ?_
  refine gf_X2_31_1 X hP dX2_at_1 ?_
  refine u_iload_n X hl dX2_at_4 1 rfl ?_
  refine u_iconst (v := 4) X dX2_at_5 rfl ?_
  refine u_imul X dX2_at_6 ?_
  refine u_iload_n X hl dX2_at_7 2 rfl ?_
  refine u_iadd X dX2_at_8 ?_
  obtain ⟨hin, h⟩ := ifn_inv h
  refine ld_6 X hP rfl hin dX2_at_9 ?_
  exact u_iretP X hr hret h hP hS dX2_at_10
def fHouse_seat (z : MS) (a0 : Int32) (a1 : Int32) (a2 : Int32) : Option MS :=
  if ((a0 * 4) + a1) < 0 ∨ 40 ≤ ((a0 * 4) + a1).toNatClampNeg then none else some (pI z 6 ((a0 * 4) + a1).toNatClampNeg a2)
set_option maxRecDepth 4000 in
theorem cHouse_seat (l : Launch) {z : MS} {a0 : Int32} {a1 : Int32} {a2 : Int32} {z1 : MS} (h : fHouse_seat z a0 a1 a2 = some z1) : CT l yX2_seat cX2_seat 4 none 0 0 (fun ad sd => [.ref (ad 1), .int a0, .int a1, .int a2]) z none z1 := by
  rw [fHouse_seat] at h
  refine u_start RX2 rfl (by decide) (fun _ _ => Nat.le_of_ble_eq_true rfl) (fun p e s m args below meth c R D ad cs sd A Q ls X hP hS hl hr hret => ?_)
  have hl : lv_has ls 4 [(0, .ref (ad 1)), (1, .int a0), (2, .int a1), (3, .int a2)] := hl
  refine u_aload_n X hl dX2_seat_0 0 rfl ?_
  refine gf_X2_31_1 X hP dX2_seat_1 ?_
  refine u_iload_n X hl dX2_seat_4 1 rfl ?_
  refine u_iconst (v := 4) X dX2_seat_5 rfl ?_
  refine u_imul X dX2_seat_6 ?_
  refine u_iload_n X hl dX2_seat_7 2 rfl ?_
  refine u_iadd X dX2_seat_8 ?_
  refine u_iload_n X hl dX2_seat_9 3 rfl ?_
  obtain ⟨hin, h⟩ := ifn_inv h
  refine as_6 X hP hS rfl hin dX2_seat_10 (fun H locs hP hS => ?_)
  exact u_vretM X hr hret h hP hS dX2_seat_11
def fHouse_hasSurprise (z : MS) (a0 : Int32) : Int32 :=
  if (((gI z 1 1) >>> (a0 &&& 31)) &&& 1) = 1 then 1 else 0
theorem fHouse_hasSurprise_b (z : MS) (a0 : Int32) : fHouse_hasSurprise z a0 = 0 ∨ fHouse_hasSurprise z a0 = 1 := by
  unfold fHouse_hasSurprise
  first | exact Or.inl rfl | exact Or.inl rfl | ((repeat' split) <;> first | exact Or.inl rfl | exact Or.inr rfl)
set_option maxRecDepth 4000 in
theorem cHouse_hasSurprise (l : Launch) (z : MS) (a0 : Int32) : CT l yX2_hasSurprise cX2_hasSurprise 2 (some .boolean) 0 0 (fun ad sd => [.ref (ad 1), .int a0]) z (some (.int (fHouse_hasSurprise z a0))) z := by
  generalize h : fHouse_hasSurprise z a0 = r
  rw [fHouse_hasSurprise] at h
  refine u_start RX2 rfl (by decide) (fun _ _ => Nat.le_of_ble_eq_true rfl) (fun p e s m args below meth c R D ad cs sd A Q ls X hP hS hl hr hret => ?_)
  have hl : lv_has ls 2 [(0, .ref (ad 1)), (1, .int a0)] := hl
  refine u_aload_n X hl dX2_hasSurprise_0 0 rfl ?_
  refine gf_X2_15_1 X hP dX2_hasSurprise_1 ?_
  refine u_iload_n X hl dX2_hasSurprise_4 1 rfl ?_
  refine u_ishr X dX2_hasSurprise_5 ?_
  refine u_iconst (v := 1) X dX2_hasSurprise_6 rfl ?_
  refine u_iand X dX2_hasSurprise_7 ?_
  refine u_iconst (v := 1) X dX2_hasSurprise_8 rfl ?_
  refine u_icmp_ne 16 X dX2_hasSurprise_9 rfl (fun hc => ?_) (fun hc => ?_)
  · rw [if_neg hc] at h
    refine u_iconst (v := 0) X dX2_hasSurprise_16 rfl ?_
    exact u_zretT X hr hret h hP hS (Or.inl rfl) dX2_hasSurprise_17
  · rw [if_pos hc] at h
    refine u_iconst (v := 1) X dX2_hasSurprise_12 rfl ?_
    refine u_goto 17 X dX2_hasSurprise_13 rfl ?_
    exact u_zretT X hr hret h hP hS (Or.inr rfl) dX2_hasSurprise_17
def fHouse_setSurprise (z : MS) (a0 : Int32) (a1 : Int32) : Option (Int32 × MS) :=
  if (fHouse_hasSurprise z a0) = a1 then some (0, z) else some (1, pI z 1 1 ((gI z 1 1) ^^^ ((1 : Int32) <<< (a0 &&& 31))))
set_option maxRecDepth 4000 in
theorem cHouse_setSurprise (l : Launch) {z : MS} {a0 : Int32} {a1 : Int32} {r : Int32} {z1 : MS} (h : fHouse_setSurprise z a0 a1 = some (r, z1)) : CT l yX2_setSurprise cX2_setSurprise 3 (some .int) 1 21 (fun ad sd => [.ref (ad 1), .int a0, .int a1]) z (some (.int r)) z1 := by
  rw [fHouse_setSurprise] at h
  refine u_start RX2 rfl (by decide) (fun _ _ => Nat.le_of_ble_eq_true rfl) (fun p e s m args below meth c R D ad cs sd A Q ls X hP hS hl hr hret => ?_)
  have hl : lv_has ls 3 [(0, .ref (ad 1)), (1, .int a0), (2, .int a1)] := hl
  refine u_aload_n X hl dX2_setSurprise_0 0 rfl ?_
  refine u_iload_n X hl dX2_setSurprise_1 1 rfl ?_
  refine u_callVi X hP hS hl dX2_setSurprise_2 (cHouse_hasSurprise l z a0) cw_X2_63 io_1 rfl rfl rfl rfl ⟨rfl, rfl⟩ (fun H locs hP hS => ?_)
  refine u_iload_n X hl dX2_setSurprise_5 2 rfl ?_
  refine u_icmp_ne 11 X dX2_setSurprise_6 rfl (fun hc => ?_) (fun hc => ?_)
  · rw [if_neg hc] at h
    refine u_aload_n X hl dX2_setSurprise_11 0 rfl ?_
    refine u_dup X rfl dX2_setSurprise_12 ?_
    refine gf_X2_15_1 X hP dX2_setSurprise_13 ?_
    refine u_iconst (v := 1) X dX2_setSurprise_16 rfl ?_
    refine u_iload_n X hl dX2_setSurprise_17 1 rfl ?_
    refine u_ishl X dX2_setSurprise_18 ?_
    refine u_ixor X dX2_setSurprise_19 ?_
    refine pf_X2_15_1 X hP hS dX2_setSurprise_20 (fun H locs hP hS => ?_)
    refine u_iconst (v := 1) X dX2_setSurprise_23 rfl ?_
    exact u_iretM X hr hret h hP hS dX2_setSurprise_24
  · rw [if_pos hc] at h
    refine u_iconst (v := 0) X dX2_setSurprise_9 rfl ?_
    exact u_iretM X hr hret h hP hS dX2_setSurprise_10
def fHouse_pairOn (z : MS) (a0 : Int32) : Option Int32 :=
  if (a0 * 4) < 0 ∨ 40 ≤ (a0 * 4).toNatClampNeg then none else if ((a0 * 4) + 1) < 0 ∨ 40 ≤ ((a0 * 4) + 1).toNatClampNeg then none else if (gI z 6 (a0 * 4).toNatClampNeg) = (-1) then some (-1) else (if (gI z 6 ((a0 * 4) + 1).toNatClampNeg) = (-1) then some (-1) else (if (gI z 6 (a0 * 4).toNatClampNeg) = (gI z 6 ((a0 * 4) + 1).toNatClampNeg) then some (-1) else some (fHouse_pairOf (gI z 6 (a0 * 4).toNatClampNeg) (gI z 6 ((a0 * 4) + 1).toNatClampNeg))))
set_option maxRecDepth 4000 in
theorem cHouse_pairOn (l : Launch) {z : MS} {a0 : Int32} {r : Int32} (h : fHouse_pairOn z a0 = some r) : CT l yX2_pairOn cX2_pairOn 4 (some .int) 1 21 (fun ad sd => [.ref (ad 1), .int a0]) z (some (.int r)) z := by
  rw [fHouse_pairOn] at h
  refine u_start RX2 rfl (by decide) (fun _ _ => Nat.le_of_ble_eq_true rfl) (fun p e s m args below meth c R D ad cs sd A Q ls X hP hS hl hr hret => ?_)
  have hl : lv_has ls 4 [(0, .ref (ad 1)), (1, .int a0)] := hl
  refine u_aload_n X hl dX2_pairOn_0 0 rfl ?_
  refine gf_X2_31_1 X hP dX2_pairOn_1 ?_
  refine u_iload_n X hl dX2_pairOn_4 1 rfl ?_
  refine u_iconst (v := 4) X dX2_pairOn_5 rfl ?_
  refine u_imul X dX2_pairOn_6 ?_
  obtain ⟨hin, h⟩ := ifn_inv h
  refine ld_6 X hP rfl hin dX2_pairOn_7 ?_
  refine u_istore_n [(2, .int (gI z 6 (a0 * 4).toNatClampNeg)), (0, .ref (ad 1)), (1, .int a0)] X hl dX2_pairOn_8 (Nat.le_of_ble_eq_true rfl) rfl (fun ls hl => ?_)
  refine u_aload_n X hl dX2_pairOn_9 1 rfl ?_
  refine gf_X2_31_1 X hP dX2_pairOn_10 ?_
  refine u_iload_n X hl dX2_pairOn_13 2 rfl ?_
  refine u_iconst (v := 4) X dX2_pairOn_14 rfl ?_
  refine u_imul X dX2_pairOn_15 ?_
  refine u_iconst (v := 1) X dX2_pairOn_16 rfl ?_
  refine u_iadd X dX2_pairOn_17 ?_
  obtain ⟨hin, h⟩ := ifn_inv h
  refine ld_6 X hP rfl hin dX2_pairOn_18 ?_
  refine u_istore_n [(3, .int (gI z 6 ((a0 * 4) + 1).toNatClampNeg)), (2, .int (gI z 6 (a0 * 4).toNatClampNeg)), (0, .ref (ad 1)), (1, .int a0)] X hl dX2_pairOn_19 (Nat.le_of_ble_eq_true rfl) rfl (fun ls hl => ?_)
  refine u_iload_n X hl dX2_pairOn_20 1 rfl ?_
  refine u_iconst (v := (-1)) X dX2_pairOn_21 rfl ?_
  refine u_icmp_eq 35 X dX2_pairOn_22 rfl (fun hc => ?_) (fun hc => ?_)
  · rw [if_pos hc] at h
    refine u_iconst (v := (-1)) X dX2_pairOn_35 rfl ?_
    refine u_goto 44 X dX2_pairOn_36 rfl ?_
    exact u_iretP X hr hret h hP hS dX2_pairOn_44
  · rw [if_neg hc] at h
    refine u_iload_n X hl dX2_pairOn_25 0 rfl ?_
    refine u_iconst (v := (-1)) X dX2_pairOn_26 rfl ?_
    refine u_icmp_eq 35 X dX2_pairOn_27 rfl (fun hc => ?_) (fun hc => ?_)
    · rw [if_pos hc] at h
      refine u_iconst (v := (-1)) X dX2_pairOn_35 rfl ?_
      refine u_goto 44 X dX2_pairOn_36 rfl ?_
      exact u_iretP X hr hret h hP hS dX2_pairOn_44
    · rw [if_neg hc] at h
      refine u_iload_n X hl dX2_pairOn_30 1 rfl ?_
      refine u_iload_n X hl dX2_pairOn_31 0 rfl ?_
      refine u_icmp_ne 39 X dX2_pairOn_32 rfl (fun hc => ?_) (fun hc => ?_)
      · rw [if_neg hc] at h
        refine u_iload_n X hl dX2_pairOn_39 1 rfl ?_
        refine u_iload_n X hl dX2_pairOn_40 0 rfl ?_
        refine u_callSi X hP hS hl dX2_pairOn_41 (cHouse_pairOf l z (gI z 6 (a0 * 4).toNatClampNeg) (gI z 6 ((a0 * 4) + 1).toNatClampNeg)) cw_X2_66 rfl rfl rfl rfl ⟨rfl, rfl⟩ (fun H locs hP hS => ?_)
        exact u_iretP X hr hret h hP hS dX2_pairOn_44
      · rw [if_pos hc] at h
        refine u_iconst (v := (-1)) X dX2_pairOn_35 rfl ?_
        refine u_goto 44 X dX2_pairOn_36 rfl ?_
        exact u_iretP X hr hret h hP hS dX2_pairOn_44
def fHouse_lastDayOf_L4 (z : MS) (l1 : Int32) : Nat → Int32 → Option Int32
  | 0, _ => none
  | n + 1, l3 => if l3 < 0 then some (-1) else Option.bind (fHouse_pairOn z l3) (fun v10 => if v10 = l1 then some l3 else fHouse_lastDayOf_L4 z l1 n (l3 + (-1)))
def fHouse_lastDayOf (z : MS) (a0 : Int32) (a1 : Int32) : Option Int32 :=
  fHouse_lastDayOf_L4 z a0 LF (a1 - 1)
set_option maxRecDepth 4000 in
theorem cHouse_lastDayOf (l : Launch) {z : MS} {a0 : Int32} {a1 : Int32} {r : Int32} (h : fHouse_lastDayOf z a0 a1 = some r) : CT l yX2_lastDayOf cX2_lastDayOf 4 (some .int) 2 44 (fun ad sd => [.ref (ad 1), .int a0, .int a1]) z (some (.int r)) z := by
  rw [fHouse_lastDayOf] at h
  refine u_start RX2 rfl (by decide) (fun _ _ => Nat.le_of_ble_eq_true rfl) (fun p e s m args below meth c R D ad cs sd A Q ls X hP hS hl hr hret => ?_)
  have hl : lv_has ls 4 [(0, .ref (ad 1)), (1, .int a0), (2, .int a1)] := hl
  refine u_iload_n X hl dX2_lastDayOf_0 2 rfl ?_
  refine u_iconst (v := 1) X dX2_lastDayOf_1 rfl ?_
  refine u_isub X dX2_lastDayOf_2 ?_
  refine u_istore_n [(3, .int (a1 - 1)), (0, .ref (ad 1)), (1, .int a0), (2, .int a1)] X hl dX2_lastDayOf_3 (Nat.le_of_ble_eq_true rfl) rfl (fun ls hl => ?_)
  have L4 : ∀ (n : Nat) (H : Heap) (locs : List Loc) (ls : Array Slot) (l3 : Int32), lv_has ls 4 [(0, .ref (ad 1)), (1, .int a0), (3, .int l3)] → va_P D clss (wld cs ad z) H → va_S A s.heap H locs → fHouse_lastDayOf_L4 z a0 n l3 = some r → W p l e R s m args below meth c H locs 0 0 Q (F0 m 4 ls []) := by
    intro n
    induction n with
    | zero =>
      intro H locs ls l3 hl hP hS h
      rw [fHouse_lastDayOf_L4] at h
      cases h
    | succ n4 ih4 =>
      intro H locs ls l3 hl hP hS h
      rw [fHouse_lastDayOf_L4] at h
      refine u_iload_n X hl dX2_lastDayOf_4 2 rfl ?_
      refine u_if_lt 25 X dX2_lastDayOf_5 rfl (fun hc => ?_) (fun hc => ?_)
      · rw [if_pos hc] at h
        refine u_iconst (v := (-1)) X dX2_lastDayOf_25 rfl ?_
        exact u_iretP X hr hret h hP hS dX2_lastDayOf_26
      · rw [if_neg hc] at h
        refine u_aload_n X hl dX2_lastDayOf_8 0 rfl ?_
        refine u_iload_n X hl dX2_lastDayOf_9 2 rfl ?_
        obtain ⟨v10, hc10, h⟩ := ob_inv h
        refine u_callVi X hP hS hl dX2_lastDayOf_10 (cHouse_pairOn l hc10) cw_X2_70 io_1 rfl rfl rfl rfl ⟨rfl, rfl⟩ (fun H locs hP hS => ?_)
        refine u_iload_n X hl dX2_lastDayOf_13 1 rfl ?_
        refine u_icmp_ne 19 X dX2_lastDayOf_14 rfl (fun hc => ?_) (fun hc => ?_)
        · rw [if_neg hc] at h
          refine u_iinc [(3, .int (l3 + (-1))), (0, .ref (ad 1)), (1, .int a0)] X hl dX2_lastDayOf_19 2 rfl rfl (Nat.le_of_ble_eq_true rfl) rfl (fun ls hl => ?_)
          refine u_goto 4 X dX2_lastDayOf_22 rfl ?_
          exact ih4 _ _ _ _ (lv_sub hl [1, 2, 0] rfl) hP hS h
        · rw [if_pos hc] at h
          refine u_iload_n X hl dX2_lastDayOf_17 2 rfl ?_
          exact u_iretP X hr hret h hP hS dX2_lastDayOf_18
  exact L4 LF _ _ _ _ (lv_sub hl [1, 2, 0] rfl) hP hS h
def fHouse_satInGap (z : MS) (a0 : Int32) (a1 : Int32) : Option Int32 :=
  Option.bind (fHouse_lastDayOf z a0 a1) (fun v3 => if v3 < 0 then some 0 else (if v3 < (a1 - (gI z 5 7)) then some 0 else some 1))
set_option maxRecDepth 4000 in
theorem cHouse_satInGap (l : Launch) {z : MS} {a0 : Int32} {a1 : Int32} {r : Int32} (h : fHouse_satInGap z a0 a1 = some r) : CT l yX2_satInGap cX2_satInGap 4 (some .boolean) 3 67 (fun ad sd => [.ref (ad 1), .int a0, .int a1]) z (some (.int r)) z := by
  rw [fHouse_satInGap] at h
  refine u_start RX2 rfl (by decide) (fun _ _ => Nat.le_of_ble_eq_true rfl) (fun p e s m args below meth c R D ad cs sd A Q ls X hP hS hl hr hret => ?_)
  have hl : lv_has ls 4 [(0, .ref (ad 1)), (1, .int a0), (2, .int a1)] := hl
  refine u_aload_n X hl dX2_satInGap_0 0 rfl ?_
  refine u_iload_n X hl dX2_satInGap_1 1 rfl ?_
  refine u_iload_n X hl dX2_satInGap_2 2 rfl ?_
  obtain ⟨v3, hc3, h⟩ := ob_inv h
  refine u_callVi X hP hS hl dX2_satInGap_3 (cHouse_lastDayOf l hc3) cw_X2_74 io_1 rfl rfl rfl rfl ⟨rfl, rfl⟩ (fun H locs hP hS => ?_)
  refine u_istore_n [(3, .int v3), (0, .ref (ad 1)), (1, .int a0), (2, .int a1)] X hl dX2_satInGap_6 (Nat.le_of_ble_eq_true rfl) rfl (fun ls hl => ?_)
  refine u_iload_n X hl dX2_satInGap_7 0 rfl ?_
  refine u_if_lt 28 X dX2_satInGap_8 rfl (fun hc => ?_) (fun hc => ?_)
  · rw [if_pos hc] at h
    refine u_iconst (v := 0) X dX2_satInGap_28 rfl ?_
    exact u_zretP X hr hret h hP hS (Or.inl rfl) dX2_satInGap_29
  · rw [if_neg hc] at h
    refine u_iload_n X hl dX2_satInGap_11 0 rfl ?_
    refine u_iload_n X hl dX2_satInGap_12 3 rfl ?_
    refine u_aload_n X hl dX2_satInGap_13 1 rfl ?_
    refine gf_X2_28_1 X hP dX2_satInGap_14 ?_
    refine u_bipush (v := 7) X dX2_satInGap_17 rfl ?_
    refine ld_5 (w := 7) X hP rfl (by decide) dX2_satInGap_19 ?_
    refine u_isub X dX2_satInGap_20 ?_
    refine u_icmp_lt 28 X dX2_satInGap_21 rfl (fun hc => ?_) (fun hc => ?_)
    · rw [if_pos hc] at h
      refine u_iconst (v := 0) X dX2_satInGap_28 rfl ?_
      exact u_zretP X hr hret h hP hS (Or.inl rfl) dX2_satInGap_29
    · rw [if_neg hc] at h
      refine u_iconst (v := 1) X dX2_satInGap_24 rfl ?_
      refine u_goto 29 X dX2_satInGap_25 rfl ?_
      exact u_zretP X hr hret h hP hS (Or.inr rfl) dX2_satInGap_29
def fHouse_sittings_L4 (z : MS) : Nat → Int32 → Int32 → Option Int32
  | 0, _, _ => none
  | n + 1, l1, l2 => if 10 ≤ l2 then some l1 else Option.bind (fHouse_pairOn z l2) (fun v12 => if v12 = (-1) then fHouse_sittings_L4 z n l1 (l2 + 1) else fHouse_sittings_L4 z n (l1 + 1) (l2 + 1))
def fHouse_sittings (z : MS) : Option Int32 :=
  fHouse_sittings_L4 z LF 0 0
set_option maxRecDepth 4000 in
theorem cHouse_sittings (l : Launch) {z : MS} {r : Int32} (h : fHouse_sittings z = some r) : CT l yX2_sittings cX2_sittings 3 (some .int) 2 44 (fun ad sd => [.ref (ad 1)]) z (some (.int r)) z := by
  rw [fHouse_sittings] at h
  refine u_start RX2 rfl (by decide) (fun _ _ => Nat.le_of_ble_eq_true rfl) (fun p e s m args below meth c R D ad cs sd A Q ls X hP hS hl hr hret => ?_)
  have hl : lv_has ls 3 [(0, .ref (ad 1))] := hl
  refine u_iconst (v := 0) X dX2_sittings_0 rfl ?_
  refine u_istore_n [(1, .int 0), (0, .ref (ad 1))] X hl dX2_sittings_1 (Nat.le_of_ble_eq_true rfl) rfl (fun ls hl => ?_)
  refine u_iconst (v := 0) X dX2_sittings_2 rfl ?_
  refine u_istore_n [(2, .int 0), (1, .int 0), (0, .ref (ad 1))] X hl dX2_sittings_3 (Nat.le_of_ble_eq_true rfl) rfl (fun ls hl => ?_)
  have L4 : ∀ (n : Nat) (H : Heap) (locs : List Loc) (ls : Array Slot) (l1 : Int32) (l2 : Int32), lv_has ls 3 [(0, .ref (ad 1)), (1, .int l1), (2, .int l2)] → va_P D clss (wld cs ad z) H → va_S A s.heap H locs → fHouse_sittings_L4 z n l1 l2 = some r → W p l e R s m args below meth c H locs 0 0 Q (F0 m 4 ls []) := by
    intro n
    induction n with
    | zero =>
      intro H locs ls l1 l2 hl hP hS h
      rw [fHouse_sittings_L4] at h
      cases h
    | succ n4 ih4 =>
      intro H locs ls l1 l2 hl hP hS h
      rw [fHouse_sittings_L4] at h
      refine u_iload_n X hl dX2_sittings_4 2 rfl ?_
      refine u_bipush (v := 10) X dX2_sittings_5 rfl ?_
      refine u_icmp_ge 28 X dX2_sittings_7 rfl (fun hc => ?_) (fun hc => ?_)
      · rw [if_pos hc] at h
        refine u_iload_n X hl dX2_sittings_28 1 rfl ?_
        exact u_iretP X hr hret h hP hS dX2_sittings_29
      · rw [if_neg hc] at h
        refine u_aload_n X hl dX2_sittings_10 0 rfl ?_
        refine u_iload_n X hl dX2_sittings_11 2 rfl ?_
        obtain ⟨v12, hc12, h⟩ := ob_inv h
        refine u_callVi X hP hS hl dX2_sittings_12 (cHouse_pairOn l hc12) cw_X2_70 io_1 rfl rfl rfl rfl ⟨rfl, rfl⟩ (fun H locs hP hS => ?_)
        refine u_iconst (v := (-1)) X dX2_sittings_15 rfl ?_
        refine u_icmp_eq 22 X dX2_sittings_16 rfl (fun hc => ?_) (fun hc => ?_)
        · rw [if_pos hc] at h
          refine u_iinc [(2, .int (l2 + 1)), (0, .ref (ad 1)), (1, .int l1)] X hl dX2_sittings_22 2 rfl rfl (Nat.le_of_ble_eq_true rfl) rfl (fun ls hl => ?_)
          refine u_goto 4 X dX2_sittings_25 rfl ?_
          exact ih4 _ _ _ _ _ (lv_sub hl [1, 2, 0] rfl) hP hS h
        · rw [if_neg hc] at h
          refine u_iinc [(1, .int (l1 + 1)), (0, .ref (ad 1)), (2, .int l2)] X hl dX2_sittings_19 1 rfl rfl (Nat.le_of_ble_eq_true rfl) rfl (fun ls hl => ?_)
          refine u_iinc [(2, .int (l2 + 1)), (1, .int (l1 + 1)), (0, .ref (ad 1))] X hl dX2_sittings_22 2 rfl rfl (Nat.le_of_ble_eq_true rfl) rfl (fun ls hl => ?_)
          refine u_goto 4 X dX2_sittings_25 rfl ?_
          exact ih4 _ _ _ _ _ (lv_sub hl [2, 1, 0] rfl) hP hS h
  exact L4 LF _ _ _ _ _ (lv_sub hl [2, 1, 0] rfl) hP hS h
def fHouse_daysOf_L4 (z : MS) (l1 : Int32) : Nat → Int32 → Int32 → Option Int32
  | 0, _, _ => none
  | n + 1, l2, l3 => if 10 ≤ l3 then some l2 else Option.bind (fHouse_pairOn z l3) (fun v12 => if v12 = l1 then fHouse_daysOf_L4 z l1 n (l2 ||| ((1 : Int32) <<< (l3 &&& 31))) (l3 + 1) else fHouse_daysOf_L4 z l1 n l2 (l3 + 1))
def fHouse_daysOf (z : MS) (a0 : Int32) : Option Int32 :=
  fHouse_daysOf_L4 z a0 LF 0 0
set_option maxRecDepth 4000 in
theorem cHouse_daysOf (l : Launch) {z : MS} {a0 : Int32} {r : Int32} (h : fHouse_daysOf z a0 = some r) : CT l yX2_daysOf cX2_daysOf 4 (some .int) 2 44 (fun ad sd => [.ref (ad 1), .int a0]) z (some (.int r)) z := by
  rw [fHouse_daysOf] at h
  refine u_start RX2 rfl (by decide) (fun _ _ => Nat.le_of_ble_eq_true rfl) (fun p e s m args below meth c R D ad cs sd A Q ls X hP hS hl hr hret => ?_)
  have hl : lv_has ls 4 [(0, .ref (ad 1)), (1, .int a0)] := hl
  refine u_iconst (v := 0) X dX2_daysOf_0 rfl ?_
  refine u_istore_n [(2, .int 0), (0, .ref (ad 1)), (1, .int a0)] X hl dX2_daysOf_1 (Nat.le_of_ble_eq_true rfl) rfl (fun ls hl => ?_)
  refine u_iconst (v := 0) X dX2_daysOf_2 rfl ?_
  refine u_istore_n [(3, .int 0), (2, .int 0), (0, .ref (ad 1)), (1, .int a0)] X hl dX2_daysOf_3 (Nat.le_of_ble_eq_true rfl) rfl (fun ls hl => ?_)
  have L4 : ∀ (n : Nat) (H : Heap) (locs : List Loc) (ls : Array Slot) (l2 : Int32) (l3 : Int32), lv_has ls 4 [(0, .ref (ad 1)), (1, .int a0), (2, .int l2), (3, .int l3)] → va_P D clss (wld cs ad z) H → va_S A s.heap H locs → fHouse_daysOf_L4 z a0 n l2 l3 = some r → W p l e R s m args below meth c H locs 0 0 Q (F0 m 4 ls []) := by
    intro n
    induction n with
    | zero =>
      intro H locs ls l2 l3 hl hP hS h
      rw [fHouse_daysOf_L4] at h
      cases h
    | succ n4 ih4 =>
      intro H locs ls l2 l3 hl hP hS h
      rw [fHouse_daysOf_L4] at h
      refine u_iload_n X hl dX2_daysOf_4 3 rfl ?_
      refine u_bipush (v := 10) X dX2_daysOf_5 rfl ?_
      refine u_icmp_ge 31 X dX2_daysOf_7 rfl (fun hc => ?_) (fun hc => ?_)
      · rw [if_pos hc] at h
        refine u_iload_n X hl dX2_daysOf_31 2 rfl ?_
        exact u_iretP X hr hret h hP hS dX2_daysOf_32
      · rw [if_neg hc] at h
        refine u_aload_n X hl dX2_daysOf_10 0 rfl ?_
        refine u_iload_n X hl dX2_daysOf_11 3 rfl ?_
        obtain ⟨v12, hc12, h⟩ := ob_inv h
        refine u_callVi X hP hS hl dX2_daysOf_12 (cHouse_pairOn l hc12) cw_X2_70 io_1 rfl rfl rfl rfl ⟨rfl, rfl⟩ (fun H locs hP hS => ?_)
        refine u_iload_n X hl dX2_daysOf_15 1 rfl ?_
        refine u_icmp_ne 25 X dX2_daysOf_16 rfl (fun hc => ?_) (fun hc => ?_)
        · rw [if_neg hc] at h
          refine u_iinc [(3, .int (l3 + 1)), (0, .ref (ad 1)), (1, .int a0), (2, .int l2)] X hl dX2_daysOf_25 3 rfl rfl (Nat.le_of_ble_eq_true rfl) rfl (fun ls hl => ?_)
          refine u_goto 4 X dX2_daysOf_28 rfl ?_
          exact ih4 _ _ _ _ _ (lv_sub hl [1, 2, 3, 0] rfl) hP hS h
        · rw [if_pos hc] at h
          refine u_iload_n X hl dX2_daysOf_19 2 rfl ?_
          refine u_iconst (v := 1) X dX2_daysOf_20 rfl ?_
          refine u_iload_n X hl dX2_daysOf_21 3 rfl ?_
          refine u_ishl X dX2_daysOf_22 ?_
          refine u_ior X dX2_daysOf_23 ?_
          refine u_istore_n [(2, .int (l2 ||| ((1 : Int32) <<< (l3 &&& 31)))), (0, .ref (ad 1)), (1, .int a0), (3, .int l3)] X hl dX2_daysOf_24 (Nat.le_of_ble_eq_true rfl) rfl (fun ls hl => ?_)
          refine u_iinc [(3, .int (l3 + 1)), (2, .int (l2 ||| ((1 : Int32) <<< (l3 &&& 31)))), (0, .ref (ad 1)), (1, .int a0)] X hl dX2_daysOf_25 3 rfl rfl (Nat.le_of_ble_eq_true rfl) rfl (fun ls hl => ?_)
          refine u_goto 4 X dX2_daysOf_28 rfl ?_
          exact ih4 _ _ _ _ _ (lv_sub hl [2, 3, 1, 0] rfl) hP hS h
  exact L4 LF _ _ _ _ _ (lv_sub hl [2, 3, 1, 0] rfl) hP hS h
def fJInt_bitCount (a0 : Int32) : Int32 :=
  (((((((a0 - ((iush a0 1) &&& 1431655765)) &&& 858993459) + ((iush (a0 - ((iush a0 1) &&& 1431655765)) 2) &&& 858993459)) + (iush (((a0 - ((iush a0 1) &&& 1431655765)) &&& 858993459) + ((iush (a0 - ((iush a0 1) &&& 1431655765)) 2) &&& 858993459)) 4)) &&& 252645135) + (iush (((((a0 - ((iush a0 1) &&& 1431655765)) &&& 858993459) + ((iush (a0 - ((iush a0 1) &&& 1431655765)) 2) &&& 858993459)) + (iush (((a0 - ((iush a0 1) &&& 1431655765)) &&& 858993459) + ((iush (a0 - ((iush a0 1) &&& 1431655765)) 2) &&& 858993459)) 4)) &&& 252645135) 8)) + (iush ((((((a0 - ((iush a0 1) &&& 1431655765)) &&& 858993459) + ((iush (a0 - ((iush a0 1) &&& 1431655765)) 2) &&& 858993459)) + (iush (((a0 - ((iush a0 1) &&& 1431655765)) &&& 858993459) + ((iush (a0 - ((iush a0 1) &&& 1431655765)) 2) &&& 858993459)) 4)) &&& 252645135) + (iush (((((a0 - ((iush a0 1) &&& 1431655765)) &&& 858993459) + ((iush (a0 - ((iush a0 1) &&& 1431655765)) 2) &&& 858993459)) + (iush (((a0 - ((iush a0 1) &&& 1431655765)) &&& 858993459) + ((iush (a0 - ((iush a0 1) &&& 1431655765)) 2) &&& 858993459)) 4)) &&& 252645135) 8)) 16)) &&& 63
set_option maxRecDepth 4000 in
theorem cJInt_bitCount (l : Launch) (z : MS) (a0 : Int32) : CT l yJ6_bitCount_0f7a4 cJ6_bitCount_0f7a4 1 (some .int) 0 0 (fun ad sd => [.int a0]) z (some (.int (fJInt_bitCount a0))) z := by
  generalize h : fJInt_bitCount a0 = r
  rw [fJInt_bitCount] at h
  refine u_start RJ6 rfl (by decide) (fun _ _ => Nat.le_of_ble_eq_true rfl) (fun p e s m args below meth c R D ad cs sd A Q ls X hP hS hl hr hret => ?_)
  have hl : lv_has ls 1 [(0, .int a0)] := hl
  refine u_iload_n X hl dJ6_bitCount_0f7a4_0 0 rfl ?_
  refine u_iload_n X hl dJ6_bitCount_0f7a4_1 0 rfl ?_
  refine u_iconst (v := 1) X dJ6_bitCount_0f7a4_2 rfl ?_
  refine u_iushr X dJ6_bitCount_0f7a4_3 ?_
  refine u_ldcw X dJ6_bitCount_0f7a4_4 kw_J6_265 ?_
  refine u_iand X dJ6_bitCount_0f7a4_7 ?_
  refine u_isub X dJ6_bitCount_0f7a4_8 ?_
  refine u_istore_n [(0, .int (a0 - ((iush a0 1) &&& 1431655765)))] X hl dJ6_bitCount_0f7a4_9 (Nat.le_of_ble_eq_true rfl) rfl (fun ls hl => ?_)
  refine u_iload_n X hl dJ6_bitCount_0f7a4_10 0 rfl ?_
  refine u_ldcw X dJ6_bitCount_0f7a4_11 kw_J6_266 ?_
  refine u_iand X dJ6_bitCount_0f7a4_14 ?_
  refine u_iload_n X hl dJ6_bitCount_0f7a4_15 0 rfl ?_
  refine u_iconst (v := 2) X dJ6_bitCount_0f7a4_16 rfl ?_
  refine u_iushr X dJ6_bitCount_0f7a4_17 ?_
  refine u_ldcw X dJ6_bitCount_0f7a4_18 kw_J6_266 ?_
  refine u_iand X dJ6_bitCount_0f7a4_21 ?_
  refine u_iadd X dJ6_bitCount_0f7a4_22 ?_
  refine u_istore_n [(0, .int (((a0 - ((iush a0 1) &&& 1431655765)) &&& 858993459) + ((iush (a0 - ((iush a0 1) &&& 1431655765)) 2) &&& 858993459)))] X hl dJ6_bitCount_0f7a4_23 (Nat.le_of_ble_eq_true rfl) rfl (fun ls hl => ?_)
  refine u_iload_n X hl dJ6_bitCount_0f7a4_24 0 rfl ?_
  refine u_iload_n X hl dJ6_bitCount_0f7a4_25 0 rfl ?_
  refine u_iconst (v := 4) X dJ6_bitCount_0f7a4_26 rfl ?_
  refine u_iushr X dJ6_bitCount_0f7a4_27 ?_
  refine u_iadd X dJ6_bitCount_0f7a4_28 ?_
  refine u_ldcw X dJ6_bitCount_0f7a4_29 kw_J6_267 ?_
  refine u_iand X dJ6_bitCount_0f7a4_32 ?_
  refine u_istore_n [(0, .int (((((a0 - ((iush a0 1) &&& 1431655765)) &&& 858993459) + ((iush (a0 - ((iush a0 1) &&& 1431655765)) 2) &&& 858993459)) + (iush (((a0 - ((iush a0 1) &&& 1431655765)) &&& 858993459) + ((iush (a0 - ((iush a0 1) &&& 1431655765)) 2) &&& 858993459)) 4)) &&& 252645135))] X hl dJ6_bitCount_0f7a4_33 (Nat.le_of_ble_eq_true rfl) rfl (fun ls hl => ?_)
  refine u_iload_n X hl dJ6_bitCount_0f7a4_34 0 rfl ?_
  refine u_iload_n X hl dJ6_bitCount_0f7a4_35 0 rfl ?_
  refine u_bipush (v := 8) X dJ6_bitCount_0f7a4_36 rfl ?_
  refine u_iushr X dJ6_bitCount_0f7a4_38 ?_
  refine u_iadd X dJ6_bitCount_0f7a4_39 ?_
  refine u_istore_n [(0, .int ((((((a0 - ((iush a0 1) &&& 1431655765)) &&& 858993459) + ((iush (a0 - ((iush a0 1) &&& 1431655765)) 2) &&& 858993459)) + (iush (((a0 - ((iush a0 1) &&& 1431655765)) &&& 858993459) + ((iush (a0 - ((iush a0 1) &&& 1431655765)) 2) &&& 858993459)) 4)) &&& 252645135) + (iush (((((a0 - ((iush a0 1) &&& 1431655765)) &&& 858993459) + ((iush (a0 - ((iush a0 1) &&& 1431655765)) 2) &&& 858993459)) + (iush (((a0 - ((iush a0 1) &&& 1431655765)) &&& 858993459) + ((iush (a0 - ((iush a0 1) &&& 1431655765)) 2) &&& 858993459)) 4)) &&& 252645135) 8)))] X hl dJ6_bitCount_0f7a4_40 (Nat.le_of_ble_eq_true rfl) rfl (fun ls hl => ?_)
  refine u_iload_n X hl dJ6_bitCount_0f7a4_41 0 rfl ?_
  refine u_iload_n X hl dJ6_bitCount_0f7a4_42 0 rfl ?_
  refine u_bipush (v := 16) X dJ6_bitCount_0f7a4_43 rfl ?_
  refine u_iushr X dJ6_bitCount_0f7a4_45 ?_
  refine u_iadd X dJ6_bitCount_0f7a4_46 ?_
  refine u_istore_n [(0, .int (((((((a0 - ((iush a0 1) &&& 1431655765)) &&& 858993459) + ((iush (a0 - ((iush a0 1) &&& 1431655765)) 2) &&& 858993459)) + (iush (((a0 - ((iush a0 1) &&& 1431655765)) &&& 858993459) + ((iush (a0 - ((iush a0 1) &&& 1431655765)) 2) &&& 858993459)) 4)) &&& 252645135) + (iush (((((a0 - ((iush a0 1) &&& 1431655765)) &&& 858993459) + ((iush (a0 - ((iush a0 1) &&& 1431655765)) 2) &&& 858993459)) + (iush (((a0 - ((iush a0 1) &&& 1431655765)) &&& 858993459) + ((iush (a0 - ((iush a0 1) &&& 1431655765)) 2) &&& 858993459)) 4)) &&& 252645135) 8)) + (iush ((((((a0 - ((iush a0 1) &&& 1431655765)) &&& 858993459) + ((iush (a0 - ((iush a0 1) &&& 1431655765)) 2) &&& 858993459)) + (iush (((a0 - ((iush a0 1) &&& 1431655765)) &&& 858993459) + ((iush (a0 - ((iush a0 1) &&& 1431655765)) 2) &&& 858993459)) 4)) &&& 252645135) + (iush (((((a0 - ((iush a0 1) &&& 1431655765)) &&& 858993459) + ((iush (a0 - ((iush a0 1) &&& 1431655765)) 2) &&& 858993459)) + (iush (((a0 - ((iush a0 1) &&& 1431655765)) &&& 858993459) + ((iush (a0 - ((iush a0 1) &&& 1431655765)) 2) &&& 858993459)) 4)) &&& 252645135) 8)) 16)))] X hl dJ6_bitCount_0f7a4_47 (Nat.le_of_ble_eq_true rfl) rfl (fun ls hl => ?_)
  refine u_iload_n X hl dJ6_bitCount_0f7a4_48 0 rfl ?_
  refine u_bipush (v := 63) X dJ6_bitCount_0f7a4_49 rfl ?_
  refine u_iand X dJ6_bitCount_0f7a4_51 ?_
  exact u_iretT X hr hret h hP hS dJ6_bitCount_0f7a4_52
def fHouse_lossOf_L4 (z : MS) (l1 : Int32) : Nat → Int32 → Int32 → Option Int32
  | 0, _, _ => none
  | n + 1, l2, l3 => if 10 ≤ l3 then some l2 else Option.bind (fHouse_pairOn z l3) (fun v12 => if v12 = l1 then (if l3 < 0 ∨ 10 ≤ l3.toNatClampNeg then none else fHouse_lossOf_L4 z l1 n (l2 + (gI z 7 l3.toNatClampNeg)) (l3 + 1)) else fHouse_lossOf_L4 z l1 n l2 (l3 + 1))
def fHouse_lossOf (z : MS) (a0 : Int32) : Option Int32 :=
  fHouse_lossOf_L4 z a0 LF 0 0
set_option maxRecDepth 4000 in
theorem cHouse_lossOf (l : Launch) {z : MS} {a0 : Int32} {r : Int32} (h : fHouse_lossOf z a0 = some r) : CT l yX2_lossOf cX2_lossOf 4 (some .int) 2 44 (fun ad sd => [.ref (ad 1), .int a0]) z (some (.int r)) z := by
  rw [fHouse_lossOf] at h
  refine u_start RX2 rfl (by decide) (fun _ _ => Nat.le_of_ble_eq_true rfl) (fun p e s m args below meth c R D ad cs sd A Q ls X hP hS hl hr hret => ?_)
  have hl : lv_has ls 4 [(0, .ref (ad 1)), (1, .int a0)] := hl
  refine u_iconst (v := 0) X dX2_lossOf_0 rfl ?_
  refine u_istore_n [(2, .int 0), (0, .ref (ad 1)), (1, .int a0)] X hl dX2_lossOf_1 (Nat.le_of_ble_eq_true rfl) rfl (fun ls hl => ?_)
  refine u_iconst (v := 0) X dX2_lossOf_2 rfl ?_
  refine u_istore_n [(3, .int 0), (2, .int 0), (0, .ref (ad 1)), (1, .int a0)] X hl dX2_lossOf_3 (Nat.le_of_ble_eq_true rfl) rfl (fun ls hl => ?_)
  have L4 : ∀ (n : Nat) (H : Heap) (locs : List Loc) (ls : Array Slot) (l2 : Int32) (l3 : Int32), lv_has ls 4 [(0, .ref (ad 1)), (1, .int a0), (2, .int l2), (3, .int l3)] → va_P D clss (wld cs ad z) H → va_S A s.heap H locs → fHouse_lossOf_L4 z a0 n l2 l3 = some r → W p l e R s m args below meth c H locs 0 0 Q (F0 m 4 ls []) := by
    intro n
    induction n with
    | zero =>
      intro H locs ls l2 l3 hl hP hS h
      rw [fHouse_lossOf_L4] at h
      cases h
    | succ n4 ih4 =>
      intro H locs ls l2 l3 hl hP hS h
      rw [fHouse_lossOf_L4] at h
      refine u_iload_n X hl dX2_lossOf_4 3 rfl ?_
      refine u_bipush (v := 10) X dX2_lossOf_5 rfl ?_
      refine u_icmp_ge 34 X dX2_lossOf_7 rfl (fun hc => ?_) (fun hc => ?_)
      · rw [if_pos hc] at h
        refine u_iload_n X hl dX2_lossOf_34 2 rfl ?_
        exact u_iretP X hr hret h hP hS dX2_lossOf_35
      · rw [if_neg hc] at h
        refine u_aload_n X hl dX2_lossOf_10 0 rfl ?_
        refine u_iload_n X hl dX2_lossOf_11 3 rfl ?_
        obtain ⟨v12, hc12, h⟩ := ob_inv h
        refine u_callVi X hP hS hl dX2_lossOf_12 (cHouse_pairOn l hc12) cw_X2_70 io_1 rfl rfl rfl rfl ⟨rfl, rfl⟩ (fun H locs hP hS => ?_)
        refine u_iload_n X hl dX2_lossOf_15 1 rfl ?_
        refine u_icmp_ne 28 X dX2_lossOf_16 rfl (fun hc => ?_) (fun hc => ?_)
        · rw [if_neg hc] at h
          refine u_iinc [(3, .int (l3 + 1)), (0, .ref (ad 1)), (1, .int a0), (2, .int l2)] X hl dX2_lossOf_28 3 rfl rfl (Nat.le_of_ble_eq_true rfl) rfl (fun ls hl => ?_)
          refine u_goto 4 X dX2_lossOf_31 rfl ?_
          exact ih4 _ _ _ _ _ (lv_sub hl [1, 2, 3, 0] rfl) hP hS h
        · rw [if_pos hc] at h
          refine u_iload_n X hl dX2_lossOf_19 2 rfl ?_
          refine u_aload_n X hl dX2_lossOf_20 0 rfl ?_
          refine gf_X2_34_1 X hP dX2_lossOf_21 ?_
          refine u_iload_n X hl dX2_lossOf_24 3 rfl ?_
          obtain ⟨hin, h⟩ := ifn_inv h
          refine ld_7 X hP rfl hin dX2_lossOf_25 ?_
          refine u_iadd X dX2_lossOf_26 ?_
          refine u_istore_n [(2, .int (l2 + (gI z 7 l3.toNatClampNeg))), (0, .ref (ad 1)), (1, .int a0), (3, .int l3)] X hl dX2_lossOf_27 (Nat.le_of_ble_eq_true rfl) rfl (fun ls hl => ?_)
          refine u_iinc [(3, .int (l3 + 1)), (2, .int (l2 + (gI z 7 l3.toNatClampNeg))), (0, .ref (ad 1)), (1, .int a0)] X hl dX2_lossOf_28 3 rfl rfl (Nat.le_of_ble_eq_true rfl) rfl (fun ls hl => ?_)
          refine u_goto 4 X dX2_lossOf_31 rfl ?_
          exact ih4 _ _ _ _ _ (lv_sub hl [2, 3, 1, 0] rfl) hP hS h
  exact L4 LF _ _ _ _ _ (lv_sub hl [2, 3, 1, 0] rfl) hP hS h
def fHouse_pairOfMostLoss_L19 (z : MS) (K6 : Int32 → Int32 → Int32 → Option Int32) (l3 : Int32) : Nat → Int32 → Int32 → Int32 → Option Int32
  | 0, _, _, _ => none
  | n + 1, l1, l2, l4 => if (gI z 1 0) ≤ l4 then K6 l1 l2 (l3 + 1) else Option.bind (fHouse_lossOf z (fHouse_pairOf l3 l4)) (fun v35 => if v35 ≤ l1 then fHouse_pairOfMostLoss_L19 z K6 l3 n l1 l2 (l4 + 1) else fHouse_pairOfMostLoss_L19 z K6 l3 n v35 (fHouse_pairOf l3 l4) (l4 + 1))
def fHouse_pairOfMostLoss_L6 (z : MS) : Nat → Int32 → Int32 → Int32 → Option Int32
  | 0, _, _, _ => none
  | n + 1, l1, l2, l3 => if (gI z 1 0) ≤ l3 then some l2 else fHouse_pairOfMostLoss_L19 z (fHouse_pairOfMostLoss_L6 z n) l3 LF l1 l2 (l3 + 1)
def fHouse_pairOfMostLoss (z : MS) : Option Int32 :=
  fHouse_pairOfMostLoss_L6 z LF (-1) 0 0
set_option maxRecDepth 4000 in
theorem cHouse_pairOfMostLoss (l : Launch) {z : MS} {r : Int32} (h : fHouse_pairOfMostLoss z = some r) : CT l yX2_pairOfMostLoss cX2_pairOfMostLoss 6 (some .int) 3 67 (fun ad sd => [.ref (ad 1)]) z (some (.int r)) z := by
  rw [fHouse_pairOfMostLoss] at h
  refine u_start RX2 rfl (by decide) (fun _ _ => Nat.le_of_ble_eq_true rfl) (fun p e s m args below meth c R D ad cs sd A Q ls X hP hS hl hr hret => ?_)
  have hl : lv_has ls 6 [(0, .ref (ad 1))] := hl
  refine u_iconst (v := (-1)) X dX2_pairOfMostLoss_0 rfl ?_
  refine u_istore_n [(1, .int (-1)), (0, .ref (ad 1))] X hl dX2_pairOfMostLoss_1 (Nat.le_of_ble_eq_true rfl) rfl (fun ls hl => ?_)
  refine u_iconst (v := 0) X dX2_pairOfMostLoss_2 rfl ?_
  refine u_istore_n [(2, .int 0), (1, .int (-1)), (0, .ref (ad 1))] X hl dX2_pairOfMostLoss_3 (Nat.le_of_ble_eq_true rfl) rfl (fun ls hl => ?_)
  refine u_iconst (v := 0) X dX2_pairOfMostLoss_4 rfl ?_
  refine u_istore_n [(3, .int 0), (2, .int 0), (1, .int (-1)), (0, .ref (ad 1))] X hl dX2_pairOfMostLoss_5 (Nat.le_of_ble_eq_true rfl) rfl (fun ls hl => ?_)
  have L6 : ∀ (n : Nat) (H : Heap) (locs : List Loc) (ls : Array Slot) (l1 : Int32) (l2 : Int32) (l3 : Int32), lv_has ls 6 [(0, .ref (ad 1)), (1, .int l1), (2, .int l2), (3, .int l3)] → va_P D clss (wld cs ad z) H → va_S A s.heap H locs → fHouse_pairOfMostLoss_L6 z n l1 l2 l3 = some r → W p l e R s m args below meth c H locs 0 0 Q (F0 m 6 ls []) := by
    intro n
    induction n with
    | zero =>
      intro H locs ls l1 l2 l3 hl hP hS h
      rw [fHouse_pairOfMostLoss_L6] at h
      cases h
    | succ n6 ih6 =>
      intro H locs ls l1 l2 l3 hl hP hS h
      rw [fHouse_pairOfMostLoss_L6] at h
      refine u_iload_n X hl dX2_pairOfMostLoss_6 3 rfl ?_
      refine u_aload_n X hl dX2_pairOfMostLoss_7 0 rfl ?_
      refine gf_X2_9_1 X hP dX2_pairOfMostLoss_8 ?_
      refine u_icmp_ge 68 X dX2_pairOfMostLoss_11 rfl (fun hc => ?_) (fun hc => ?_)
      · rw [if_pos hc] at h
        refine u_iload_n X hl dX2_pairOfMostLoss_68 2 rfl ?_
        exact u_iretP X hr hret h hP hS dX2_pairOfMostLoss_69
      · rw [if_neg hc] at h
        refine u_iload_n X hl dX2_pairOfMostLoss_14 3 rfl ?_
        refine u_iconst (v := 1) X dX2_pairOfMostLoss_15 rfl ?_
        refine u_iadd X dX2_pairOfMostLoss_16 ?_
        refine u_istore [(4, .int (l3 + 1)), (0, .ref (ad 1)), (1, .int l1), (2, .int l2), (3, .int l3)] X hl dX2_pairOfMostLoss_17 (Nat.le_of_ble_eq_true rfl) rfl (fun ls hl => ?_)
        have L19 : ∀ (n : Nat) (H : Heap) (locs : List Loc) (ls : Array Slot) (l1 : Int32) (l2 : Int32) (l4 : Int32), lv_has ls 6 [(0, .ref (ad 1)), (1, .int l1), (2, .int l2), (3, .int l3), (4, .int l4)] → va_P D clss (wld cs ad z) H → va_S A s.heap H locs → fHouse_pairOfMostLoss_L19 z (fHouse_pairOfMostLoss_L6 z n6) l3 n l1 l2 l4 = some r → W p l e R s m args below meth c H locs 0 0 Q (F0 m 19 ls []) := by
          intro n
          induction n with
          | zero =>
            intro H locs ls l1 l2 l4 hl hP hS h
            rw [fHouse_pairOfMostLoss_L19] at h
            cases h
          | succ n19 ih19 =>
            intro H locs ls l1 l2 l4 hl hP hS h
            rw [fHouse_pairOfMostLoss_L19] at h
            refine u_iload X hl dX2_pairOfMostLoss_19 4 rfl ?_
            refine u_aload_n X hl dX2_pairOfMostLoss_21 0 rfl ?_
            refine gf_X2_9_1 X hP dX2_pairOfMostLoss_22 ?_
            refine u_icmp_ge 62 X dX2_pairOfMostLoss_25 rfl (fun hc => ?_) (fun hc => ?_)
            · rw [if_pos hc] at h
              refine u_iinc [(3, .int (l3 + 1)), (0, .ref (ad 1)), (1, .int l1), (2, .int l2), (4, .int l4)] X hl dX2_pairOfMostLoss_62 3 rfl rfl (Nat.le_of_ble_eq_true rfl) rfl (fun ls hl => ?_)
              refine u_goto 6 X dX2_pairOfMostLoss_65 rfl ?_
              exact ih6 _ _ _ _ _ _ (lv_sub hl [1, 2, 3, 0] rfl) hP hS h
            · rw [if_neg hc] at h
              refine u_aload_n X hl dX2_pairOfMostLoss_28 0 rfl ?_
              refine u_iload_n X hl dX2_pairOfMostLoss_29 3 rfl ?_
              refine u_iload X hl dX2_pairOfMostLoss_30 4 rfl ?_
              refine u_callSi X hP hS hl dX2_pairOfMostLoss_32 (cHouse_pairOf l z l3 l4) cw_X2_66 rfl rfl rfl rfl ⟨rfl, rfl⟩ (fun H locs hP hS => ?_)
              obtain ⟨v35, hc35, h⟩ := ob_inv h
              refine u_callVi X hP hS hl dX2_pairOfMostLoss_35 (cHouse_lossOf l hc35) cw_X2_77 io_1 rfl rfl rfl rfl ⟨rfl, rfl⟩ (fun H locs hP hS => ?_)
              refine u_istore [(5, .int v35), (0, .ref (ad 1)), (1, .int l1), (2, .int l2), (3, .int l3), (4, .int l4)] X hl dX2_pairOfMostLoss_38 (Nat.le_of_ble_eq_true rfl) rfl (fun ls hl => ?_)
              refine u_iload X hl dX2_pairOfMostLoss_40 0 rfl ?_
              refine u_iload_n X hl dX2_pairOfMostLoss_42 2 rfl ?_
              refine u_icmp_le 56 X dX2_pairOfMostLoss_43 rfl (fun hc => ?_) (fun hc => ?_)
              · rw [if_pos hc] at h
                refine u_iinc [(4, .int (l4 + 1)), (5, .int v35), (0, .ref (ad 1)), (1, .int l1), (2, .int l2), (3, .int l3)] X hl dX2_pairOfMostLoss_56 5 rfl rfl (Nat.le_of_ble_eq_true rfl) rfl (fun ls hl => ?_)
                refine u_goto 19 X dX2_pairOfMostLoss_59 rfl ?_
                exact ih19 _ _ _ _ _ _ (lv_sub hl [2, 3, 4, 5, 0] rfl) hP hS h
              · rw [if_neg hc] at h
                refine u_iload X hl dX2_pairOfMostLoss_46 0 rfl ?_
                refine u_istore_n [(1, .int v35), (5, .int v35), (0, .ref (ad 1)), (2, .int l2), (3, .int l3), (4, .int l4)] X hl dX2_pairOfMostLoss_48 (Nat.le_of_ble_eq_true rfl) rfl (fun ls hl => ?_)
                refine u_iload_n X hl dX2_pairOfMostLoss_49 4 rfl ?_
                refine u_iload X hl dX2_pairOfMostLoss_50 5 rfl ?_
                refine u_callSi X hP hS hl dX2_pairOfMostLoss_52 (cHouse_pairOf l z l3 l4) cw_X2_66 rfl rfl rfl rfl ⟨rfl, rfl⟩ (fun H locs hP hS => ?_)
                refine u_istore_n [(2, .int (fHouse_pairOf l3 l4)), (1, .int v35), (5, .int v35), (0, .ref (ad 1)), (3, .int l3), (4, .int l4)] X hl dX2_pairOfMostLoss_55 (Nat.le_of_ble_eq_true rfl) rfl (fun ls hl => ?_)
                refine u_iinc [(4, .int (l4 + 1)), (2, .int (fHouse_pairOf l3 l4)), (1, .int v35), (5, .int v35), (0, .ref (ad 1)), (3, .int l3)] X hl dX2_pairOfMostLoss_56 5 rfl rfl (Nat.le_of_ble_eq_true rfl) rfl (fun ls hl => ?_)
                refine u_goto 19 X dX2_pairOfMostLoss_59 rfl ?_
                exact ih19 _ _ _ _ _ _ (lv_sub hl [4, 2, 1, 5, 0] rfl) hP hS h
        exact L19 LF _ _ _ _ _ _ (lv_sub hl [1, 2, 3, 4, 0] rfl) hP hS h
  exact L6 LF _ _ _ _ _ _ (lv_sub hl [3, 2, 1, 0] rfl) hP hS h
def fHouse45_become_1 (z : MS) : Option MS :=
  some (cI (cI (cI (cI (cI (cI (pI (pI z 45 0 (gI z 1 0)) 45 1 (gI (pI z 45 0 (gI z 1 0)) 1 1)) 46 2 8) 47 3 8) 48 4 64) 49 5 8) 50 6 40) 51 7 10)
set_option maxRecDepth 4000 in
theorem cHouse45_become_1 (l : Launch) {z : MS} {z1 : MS} (h : fHouse45_become_1 z = some z1) : CT l yX2_become cX2_become 2 none 1 26 (fun ad sd => [.ref (ad 45), .ref (ad 1)]) z none z1 := by
  rw [fHouse45_become_1] at h
  refine u_start RX2 rfl (by decide) (fun _ _ => Nat.le_of_ble_eq_true rfl) (fun p e s m args below meth c R D ad cs sd A Q ls X hP hS hl hr hret => ?_)
  have hl : lv_has ls 2 [(0, .ref (ad 45)), (1, .ref (ad 1))] := hl
  refine u_aload_n X hl dX2_become_0 0 rfl ?_
  refine u_aload_n X hl dX2_become_1 1 rfl ?_
  refine gf_X2_9_1 X hP dX2_become_2 ?_
  refine pf_X2_9_45 X hP hS dX2_become_5 (fun H locs hP hS => ?_)
  refine u_aload_n X hl dX2_become_8 0 rfl ?_
  refine u_aload_n X hl dX2_become_9 1 rfl ?_
  refine gf_X2_15_1 X hP dX2_become_10 ?_
  refine pf_X2_15_45 X hP hS dX2_become_13 (fun H locs hP hS => ?_)
  refine u_aload_n X hl dX2_become_16 1 rfl ?_
  refine gf_X2_18_1 X hP dX2_become_17 ?_
  refine u_iconst (v := 0) X dX2_become_20 rfl ?_
  refine u_aload_n X hl dX2_become_21 0 rfl ?_
  refine gf_X2_18_45 X hP dX2_become_22 ?_
  refine u_iconst (v := 0) X dX2_become_25 rfl ?_
  refine u_bipush (v := 8) X dX2_become_26 rfl ?_
  refine cp_X2_40 (i0 := 2) (i1 := 46) (cI (pI (pI z 45 0 (gI z 1 0)) 45 1 (gI (pI z 45 0 (gI z 1 0)) 1 1)) 46 2 8) X hP hS hl dX2_become_28 rfl rfl (by decide) rfl rfl rfl (ax_46 _ _ _ _) rfl ⟨rfl, rfl⟩ (fun H locs hP hS => ?_)
  refine u_aload_n X hl dX2_become_31 1 rfl ?_
  refine gf_X2_22_1 X hP dX2_become_32 ?_
  refine u_iconst (v := 0) X dX2_become_35 rfl ?_
  refine u_aload_n X hl dX2_become_36 0 rfl ?_
  refine gf_X2_22_45 X hP dX2_become_37 ?_
  refine u_iconst (v := 0) X dX2_become_40 rfl ?_
  refine u_bipush (v := 8) X dX2_become_41 rfl ?_
  refine cp_X2_40 (i0 := 3) (i1 := 47) (cI (cI (pI (pI z 45 0 (gI z 1 0)) 45 1 (gI (pI z 45 0 (gI z 1 0)) 1 1)) 46 2 8) 47 3 8) X hP hS hl dX2_become_43 rfl rfl (by decide) rfl rfl rfl (ax_47 _ _ _ _) rfl ⟨rfl, rfl⟩ (fun H locs hP hS => ?_)
  refine u_aload_n X hl dX2_become_46 1 rfl ?_
  refine gf_X2_25_1 X hP dX2_become_47 ?_
  refine u_iconst (v := 0) X dX2_become_50 rfl ?_
  refine u_aload_n X hl dX2_become_51 0 rfl ?_
  refine gf_X2_25_45 X hP dX2_become_52 ?_
  refine u_iconst (v := 0) X dX2_become_55 rfl ?_
  refine u_bipush (v := 64) X dX2_become_56 rfl ?_
  refine cp_X2_40 (i0 := 4) (i1 := 48) (cI (cI (cI (pI (pI z 45 0 (gI z 1 0)) 45 1 (gI (pI z 45 0 (gI z 1 0)) 1 1)) 46 2 8) 47 3 8) 48 4 64) X hP hS hl dX2_become_58 rfl rfl (by decide) rfl rfl rfl (ax_48 _ _ _ _) rfl ⟨rfl, rfl⟩ (fun H locs hP hS => ?_)
  refine u_aload_n X hl dX2_become_61 1 rfl ?_
  refine gf_X2_28_1 X hP dX2_become_62 ?_
  refine u_iconst (v := 0) X dX2_become_65 rfl ?_
  refine u_aload_n X hl dX2_become_66 0 rfl ?_
  refine gf_X2_28_45 X hP dX2_become_67 ?_
  refine u_iconst (v := 0) X dX2_become_70 rfl ?_
  refine u_bipush (v := 8) X dX2_become_71 rfl ?_
  refine cp_X2_40 (i0 := 5) (i1 := 49) (cI (cI (cI (cI (pI (pI z 45 0 (gI z 1 0)) 45 1 (gI (pI z 45 0 (gI z 1 0)) 1 1)) 46 2 8) 47 3 8) 48 4 64) 49 5 8) X hP hS hl dX2_become_73 rfl rfl (by decide) rfl rfl rfl (ax_49 _ _ _ _) rfl ⟨rfl, rfl⟩ (fun H locs hP hS => ?_)
  refine u_aload_n X hl dX2_become_76 1 rfl ?_
  refine gf_X2_31_1 X hP dX2_become_77 ?_
  refine u_iconst (v := 0) X dX2_become_80 rfl ?_
  refine u_aload_n X hl dX2_become_81 0 rfl ?_
  refine gf_X2_31_45 X hP dX2_become_82 ?_
  refine u_iconst (v := 0) X dX2_become_85 rfl ?_
  refine u_bipush (v := 40) X dX2_become_86 rfl ?_
  refine cp_X2_40 (i0 := 6) (i1 := 50) (cI (cI (cI (cI (cI (pI (pI z 45 0 (gI z 1 0)) 45 1 (gI (pI z 45 0 (gI z 1 0)) 1 1)) 46 2 8) 47 3 8) 48 4 64) 49 5 8) 50 6 40) X hP hS hl dX2_become_88 rfl rfl (by decide) rfl rfl rfl (ax_50 _ _ _ _) rfl ⟨rfl, rfl⟩ (fun H locs hP hS => ?_)
  refine u_aload_n X hl dX2_become_91 1 rfl ?_
  refine gf_X2_34_1 X hP dX2_become_92 ?_
  refine u_iconst (v := 0) X dX2_become_95 rfl ?_
  refine u_aload_n X hl dX2_become_96 0 rfl ?_
  refine gf_X2_34_45 X hP dX2_become_97 ?_
  refine u_iconst (v := 0) X dX2_become_100 rfl ?_
  refine u_bipush (v := 10) X dX2_become_101 rfl ?_
  refine cp_X2_40 (i0 := 7) (i1 := 51) (cI (cI (cI (cI (cI (cI (pI (pI z 45 0 (gI z 1 0)) 45 1 (gI (pI z 45 0 (gI z 1 0)) 1 1)) 46 2 8) 47 3 8) 48 4 64) 49 5 8) 50 6 40) 51 7 10) X hP hS hl dX2_become_103 rfl rfl (by decide) rfl rfl rfl (ax_51 _ _ _ _) rfl ⟨rfl, rfl⟩ (fun H locs hP hS => ?_)
  exact u_vretM X hr hret h hP hS dX2_become_106
def fHouse_become_45 (z : MS) : Option MS :=
  some (cI (cI (cI (cI (cI (cI (pI (pI z 1 0 (gI z 45 0)) 1 1 (gI (pI z 1 0 (gI z 45 0)) 45 1)) 2 46 8) 3 47 8) 4 48 64) 5 49 8) 6 50 40) 7 51 10)
set_option maxRecDepth 4000 in
theorem cHouse_become_45 (l : Launch) {z : MS} {z1 : MS} (h : fHouse_become_45 z = some z1) : CT l yX2_become cX2_become 2 none 1 26 (fun ad sd => [.ref (ad 1), .ref (ad 45)]) z none z1 := by
  rw [fHouse_become_45] at h
  refine u_start RX2 rfl (by decide) (fun _ _ => Nat.le_of_ble_eq_true rfl) (fun p e s m args below meth c R D ad cs sd A Q ls X hP hS hl hr hret => ?_)
  have hl : lv_has ls 2 [(0, .ref (ad 1)), (1, .ref (ad 45))] := hl
  refine u_aload_n X hl dX2_become_0 0 rfl ?_
  refine u_aload_n X hl dX2_become_1 1 rfl ?_
  refine gf_X2_9_45 X hP dX2_become_2 ?_
  refine pf_X2_9_1 X hP hS dX2_become_5 (fun H locs hP hS => ?_)
  refine u_aload_n X hl dX2_become_8 0 rfl ?_
  refine u_aload_n X hl dX2_become_9 1 rfl ?_
  refine gf_X2_15_45 X hP dX2_become_10 ?_
  refine pf_X2_15_1 X hP hS dX2_become_13 (fun H locs hP hS => ?_)
  refine u_aload_n X hl dX2_become_16 1 rfl ?_
  refine gf_X2_18_45 X hP dX2_become_17 ?_
  refine u_iconst (v := 0) X dX2_become_20 rfl ?_
  refine u_aload_n X hl dX2_become_21 0 rfl ?_
  refine gf_X2_18_1 X hP dX2_become_22 ?_
  refine u_iconst (v := 0) X dX2_become_25 rfl ?_
  refine u_bipush (v := 8) X dX2_become_26 rfl ?_
  refine cp_X2_40 (i0 := 46) (i1 := 2) (cI (pI (pI z 1 0 (gI z 45 0)) 1 1 (gI (pI z 1 0 (gI z 45 0)) 45 1)) 2 46 8) X hP hS hl dX2_become_28 rfl rfl (by decide) rfl rfl rfl (ax_2 _ _ _ _) rfl ⟨rfl, rfl⟩ (fun H locs hP hS => ?_)
  refine u_aload_n X hl dX2_become_31 1 rfl ?_
  refine gf_X2_22_45 X hP dX2_become_32 ?_
  refine u_iconst (v := 0) X dX2_become_35 rfl ?_
  refine u_aload_n X hl dX2_become_36 0 rfl ?_
  refine gf_X2_22_1 X hP dX2_become_37 ?_
  refine u_iconst (v := 0) X dX2_become_40 rfl ?_
  refine u_bipush (v := 8) X dX2_become_41 rfl ?_
  refine cp_X2_40 (i0 := 47) (i1 := 3) (cI (cI (pI (pI z 1 0 (gI z 45 0)) 1 1 (gI (pI z 1 0 (gI z 45 0)) 45 1)) 2 46 8) 3 47 8) X hP hS hl dX2_become_43 rfl rfl (by decide) rfl rfl rfl (ax_3 _ _ _ _) rfl ⟨rfl, rfl⟩ (fun H locs hP hS => ?_)
  refine u_aload_n X hl dX2_become_46 1 rfl ?_
  refine gf_X2_25_45 X hP dX2_become_47 ?_
  refine u_iconst (v := 0) X dX2_become_50 rfl ?_
  refine u_aload_n X hl dX2_become_51 0 rfl ?_
  refine gf_X2_25_1 X hP dX2_become_52 ?_
  refine u_iconst (v := 0) X dX2_become_55 rfl ?_
  refine u_bipush (v := 64) X dX2_become_56 rfl ?_
  refine cp_X2_40 (i0 := 48) (i1 := 4) (cI (cI (cI (pI (pI z 1 0 (gI z 45 0)) 1 1 (gI (pI z 1 0 (gI z 45 0)) 45 1)) 2 46 8) 3 47 8) 4 48 64) X hP hS hl dX2_become_58 rfl rfl (by decide) rfl rfl rfl (ax_4 _ _ _ _) rfl ⟨rfl, rfl⟩ (fun H locs hP hS => ?_)
  refine u_aload_n X hl dX2_become_61 1 rfl ?_
  refine gf_X2_28_45 X hP dX2_become_62 ?_
  refine u_iconst (v := 0) X dX2_become_65 rfl ?_
  refine u_aload_n X hl dX2_become_66 0 rfl ?_
  refine gf_X2_28_1 X hP dX2_become_67 ?_
  refine u_iconst (v := 0) X dX2_become_70 rfl ?_
  refine u_bipush (v := 8) X dX2_become_71 rfl ?_
  refine cp_X2_40 (i0 := 49) (i1 := 5) (cI (cI (cI (cI (pI (pI z 1 0 (gI z 45 0)) 1 1 (gI (pI z 1 0 (gI z 45 0)) 45 1)) 2 46 8) 3 47 8) 4 48 64) 5 49 8) X hP hS hl dX2_become_73 rfl rfl (by decide) rfl rfl rfl (ax_5 _ _ _ _) rfl ⟨rfl, rfl⟩ (fun H locs hP hS => ?_)
  refine u_aload_n X hl dX2_become_76 1 rfl ?_
  refine gf_X2_31_45 X hP dX2_become_77 ?_
  refine u_iconst (v := 0) X dX2_become_80 rfl ?_
  refine u_aload_n X hl dX2_become_81 0 rfl ?_
  refine gf_X2_31_1 X hP dX2_become_82 ?_
  refine u_iconst (v := 0) X dX2_become_85 rfl ?_
  refine u_bipush (v := 40) X dX2_become_86 rfl ?_
  refine cp_X2_40 (i0 := 50) (i1 := 6) (cI (cI (cI (cI (cI (pI (pI z 1 0 (gI z 45 0)) 1 1 (gI (pI z 1 0 (gI z 45 0)) 45 1)) 2 46 8) 3 47 8) 4 48 64) 5 49 8) 6 50 40) X hP hS hl dX2_become_88 rfl rfl (by decide) rfl rfl rfl (ax_6 _ _ _ _) rfl ⟨rfl, rfl⟩ (fun H locs hP hS => ?_)
  refine u_aload_n X hl dX2_become_91 1 rfl ?_
  refine gf_X2_34_45 X hP dX2_become_92 ?_
  refine u_iconst (v := 0) X dX2_become_95 rfl ?_
  refine u_aload_n X hl dX2_become_96 0 rfl ?_
  refine gf_X2_34_1 X hP dX2_become_97 ?_
  refine u_iconst (v := 0) X dX2_become_100 rfl ?_
  refine u_bipush (v := 10) X dX2_become_101 rfl ?_
  refine cp_X2_40 (i0 := 51) (i1 := 7) (cI (cI (cI (cI (cI (cI (pI (pI z 1 0 (gI z 45 0)) 1 1 (gI (pI z 1 0 (gI z 45 0)) 45 1)) 2 46 8) 3 47 8) 4 48 64) 5 49 8) 6 50 40) 7 51 10) X hP hS hl dX2_become_103 rfl rfl (by decide) rfl rfl rfl (ax_7 _ _ _ _) rfl ⟨rfl, rfl⟩ (fun H locs hP hS => ?_)
  exact u_vretM X hr hret h hP hS dX2_become_106
end
