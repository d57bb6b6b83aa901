section
-- ===== PART A: goes FIRST, ahead of the names: the tables' words, and 'selects' of the private methods out of them =====
/-- a private method of a class that the tables say can be made, by its rows of tables_1 -/
def lw_okq (q : MethodName × Nat) : Prop := (q.1.cls ≠ "java/lang/invoke/MethodHandle" ∧ q.1.cls ≠ "java/lang/invoke/VarHandle") ∧ Cond.instantiable q.1.cls q.2 ∈ tables_1 ∧ Cond.privateMethod q.1 ∈ tables_1 ∧ Cond.instanceMethod q.1 ∈ tables_1
theorem lw_p0 : lw_okq (⟨"NewsCows$Tape", "addRun", "(I)I"⟩, 16) := ⟨⟨by decide +kernel, by decide +kernel⟩, List.mem_of_getElem? (i := 36) (by decide +kernel), List.mem_of_getElem? (i := 655) (by decide +kernel), List.mem_of_getElem? (i := 656) (by decide +kernel)⟩
theorem lw_p1 : lw_okq (⟨"NewsCows$Tape", "toldWord", "(J)I"⟩, 16) := ⟨⟨by decide +kernel, by decide +kernel⟩, List.mem_of_getElem? (i := 36) (by decide +kernel), List.mem_of_getElem? (i := 659) (by decide +kernel), List.mem_of_getElem? (i := 660) (by decide +kernel)⟩
theorem lw_p2 : lw_okq (⟨"NewsCows$Tape", "add", "(IIIJ)V"⟩, 16) := ⟨⟨by decide +kernel, by decide +kernel⟩, List.mem_of_getElem? (i := 36) (by decide +kernel), List.mem_of_getElem? (i := 663) (by decide +kernel), List.mem_of_getElem? (i := 664) (by decide +kernel)⟩
theorem lw_p3 : lw_okq (⟨"NewsCows$DairyReader", "readLine", "()Z"⟩, 3) := ⟨⟨by decide +kernel, by decide +kernel⟩, List.mem_of_getElem? (i := 269) (by decide +kernel), List.mem_of_getElem? (i := 733) (by decide +kernel), List.mem_of_getElem? (i := 734) (by decide +kernel)⟩
theorem lw_p4 : lw_okq (⟨"NewsCows$DairyReader", "readFarm", "()Z"⟩, 3) := ⟨⟨by decide +kernel, by decide +kernel⟩, List.mem_of_getElem? (i := 269) (by decide +kernel), List.mem_of_getElem? (i := 741) (by decide +kernel), List.mem_of_getElem? (i := 742) (by decide +kernel)⟩
theorem lw_p5 : lw_okq (⟨"NewsCows$Dairy", "slotOf", "(J)I"⟩, 19) := ⟨⟨by decide +kernel, by decide +kernel⟩, List.mem_of_getElem? (i := 154) (by decide +kernel), List.mem_of_getElem? (i := 755) (by decide +kernel), List.mem_of_getElem? (i := 756) (by decide +kernel)⟩
theorem lw_p6 : lw_okq (⟨"NewsCows$DairyReader", "readCow", "()Z"⟩, 3) := ⟨⟨by decide +kernel, by decide +kernel⟩, List.mem_of_getElem? (i := 269) (by decide +kernel), List.mem_of_getElem? (i := 772) (by decide +kernel), List.mem_of_getElem? (i := 773) (by decide +kernel)⟩
theorem lw_p7 : lw_okq (⟨"NewsCows$DairyReader", "readNews", "()Z"⟩, 3) := ⟨⟨by decide +kernel, by decide +kernel⟩, List.mem_of_getElem? (i := 269) (by decide +kernel), List.mem_of_getElem? (i := 785) (by decide +kernel), List.mem_of_getElem? (i := 786) (by decide +kernel)⟩
theorem lw_p8 : lw_okq (⟨"NewsCows$DairyReader", "readHedge", "()Z"⟩, 3) := ⟨⟨by decide +kernel, by decide +kernel⟩, List.mem_of_getElem? (i := 269) (by decide +kernel), List.mem_of_getElem? (i := 790) (by decide +kernel), List.mem_of_getElem? (i := 791) (by decide +kernel)⟩
theorem lw_p9 : lw_okq (⟨"NewsCows$DairyReader", "readHears", "()Z"⟩, 3) := ⟨⟨by decide +kernel, by decide +kernel⟩, List.mem_of_getElem? (i := 269) (by decide +kernel), List.mem_of_getElem? (i := 802) (by decide +kernel), List.mem_of_getElem? (i := 803) (by decide +kernel)⟩
theorem lw_p10 : lw_okq (⟨"NewsCows", "isNews", "(I)Z"⟩, 16) := ⟨⟨by decide +kernel, by decide +kernel⟩, List.mem_of_getElem? (i := 28) (by decide +kernel), List.mem_of_getElem? (i := 837) (by decide +kernel), List.mem_of_getElem? (i := 838) (by decide +kernel)⟩
theorem lw_p11 : lw_okq (⟨"NewsCows", "cowsWith", "([II)I"⟩, 16) := ⟨⟨by decide +kernel, by decide +kernel⟩, List.mem_of_getElem? (i := 28) (by decide +kernel), List.mem_of_getElem? (i := 845) (by decide +kernel), List.mem_of_getElem? (i := 846) (by decide +kernel)⟩
theorem lw_p12 : lw_okq (⟨"NewsCows", "isCow", "(I)Z"⟩, 16) := ⟨⟨by decide +kernel, by decide +kernel⟩, List.mem_of_getElem? (i := 28) (by decide +kernel), List.mem_of_getElem? (i := 869) (by decide +kernel), List.mem_of_getElem? (i := 870) (by decide +kernel)⟩
theorem lw_p13 : lw_okq (⟨"NewsCows$Life", "comes", "(II)V"⟩, 17) := ⟨⟨by decide +kernel, by decide +kernel⟩, List.mem_of_getElem? (i := 285) (by decide +kernel), List.mem_of_getElem? (i := 901) (by decide +kernel), List.mem_of_getElem? (i := 902) (by decide +kernel)⟩
theorem lw_p14 : lw_okq (⟨"NewsCows$Life", "wouldDoubt", "(II)Z"⟩, 17) := ⟨⟨by decide +kernel, by decide +kernel⟩, List.mem_of_getElem? (i := 285) (by decide +kernel), List.mem_of_getElem? (i := 922) (by decide +kernel), List.mem_of_getElem? (i := 923) (by decide +kernel)⟩
theorem lw_p15 : lw_okq (⟨"NewsCows$Life", "fillPails", "()V"⟩, 17) := ⟨⟨by decide +kernel, by decide +kernel⟩, List.mem_of_getElem? (i := 285) (by decide +kernel), List.mem_of_getElem? (i := 934) (by decide +kernel), List.mem_of_getElem? (i := 935) (by decide +kernel)⟩
def lw_privs_1 : List (MethodName × Nat) := [(⟨"NewsCows$Tape", "addRun", "(I)I"⟩, 16), (⟨"NewsCows$Tape", "toldWord", "(J)I"⟩, 16), (⟨"NewsCows$Tape", "add", "(IIIJ)V"⟩, 16), (⟨"NewsCows$DairyReader", "readLine", "()Z"⟩, 3), (⟨"NewsCows$DairyReader", "readFarm", "()Z"⟩, 3), (⟨"NewsCows$Dairy", "slotOf", "(J)I"⟩, 19), (⟨"NewsCows$DairyReader", "readCow", "()Z"⟩, 3), (⟨"NewsCows$DairyReader", "readNews", "()Z"⟩, 3), (⟨"NewsCows$DairyReader", "readHedge", "()Z"⟩, 3), (⟨"NewsCows$DairyReader", "readHears", "()Z"⟩, 3), (⟨"NewsCows", "isNews", "(I)Z"⟩, 16), (⟨"NewsCows", "cowsWith", "([II)I"⟩, 16), (⟨"NewsCows", "isCow", "(I)Z"⟩, 16), (⟨"NewsCows$Life", "comes", "(II)V"⟩, 17), (⟨"NewsCows$Life", "wouldDoubt", "(II)Z"⟩, 17), (⟨"NewsCows$Life", "fillPails", "()V"⟩, 17)]
theorem lw_r1 : ∀ q ∈ lw_privs_1, lw_okq q := List.forall_mem_cons.mpr ⟨lw_p0, List.forall_mem_cons.mpr ⟨lw_p1, List.forall_mem_cons.mpr ⟨lw_p2, List.forall_mem_cons.mpr ⟨lw_p3, List.forall_mem_cons.mpr ⟨lw_p4, List.forall_mem_cons.mpr ⟨lw_p5, List.forall_mem_cons.mpr ⟨lw_p6, List.forall_mem_cons.mpr ⟨lw_p7, List.forall_mem_cons.mpr ⟨lw_p8, List.forall_mem_cons.mpr ⟨lw_p9, List.forall_mem_cons.mpr ⟨lw_p10, List.forall_mem_cons.mpr ⟨lw_p11, List.forall_mem_cons.mpr ⟨lw_p12, List.forall_mem_cons.mpr ⟨lw_p13, List.forall_mem_cons.mpr ⟨lw_p14, List.forall_mem_cons.mpr ⟨lw_p15, fun _ h => absurd h List.not_mem_nil⟩⟩⟩⟩⟩⟩⟩⟩⟩⟩⟩⟩⟩⟩⟩⟩
theorem lw_p16 : lw_okq (⟨"NewsCows$Life", "allComes", "(II)V"⟩, 17) := ⟨⟨by decide +kernel, by decide +kernel⟩, List.mem_of_getElem? (i := 285) (by decide +kernel), List.mem_of_getElem? (i := 964) (by decide +kernel), List.mem_of_getElem? (i := 965) (by decide +kernel)⟩
theorem lw_p17 : lw_okq (⟨"NewsCows$Life", "forget", "(I)V"⟩, 17) := ⟨⟨by decide +kernel, by decide +kernel⟩, List.mem_of_getElem? (i := 285) (by decide +kernel), List.mem_of_getElem? (i := 972) (by decide +kernel), List.mem_of_getElem? (i := 973) (by decide +kernel)⟩
theorem lw_p18 : lw_okq (⟨"NewsCows", "canBeTold", "(I)Z"⟩, 16) := ⟨⟨by decide +kernel, by decide +kernel⟩, List.mem_of_getElem? (i := 28) (by decide +kernel), List.mem_of_getElem? (i := 989) (by decide +kernel), List.mem_of_getElem? (i := 990) (by decide +kernel)⟩
theorem lw_p19 : lw_okq (⟨"NewsCows$Choice", "lookAt", "(I)V"⟩, 11) := ⟨⟨by decide +kernel, by decide +kernel⟩, List.mem_of_getElem? (i := 447) (by decide +kernel), List.mem_of_getElem? (i := 998) (by decide +kernel), List.mem_of_getElem? (i := 999) (by decide +kernel)⟩
theorem lw_p20 : lw_okq (⟨"NewsCows$Choice", "bestOf", "(I)I"⟩, 11) := ⟨⟨by decide +kernel, by decide +kernel⟩, List.mem_of_getElem? (i := 447) (by decide +kernel), List.mem_of_getElem? (i := 1011) (by decide +kernel), List.mem_of_getElem? (i := 1012) (by decide +kernel)⟩
theorem lw_p21 : lw_okq (⟨"NewsCows$Choice", "milkBy", "(I)I"⟩, 11) := ⟨⟨by decide +kernel, by decide +kernel⟩, List.mem_of_getElem? (i := 447) (by decide +kernel), List.mem_of_getElem? (i := 1018) (by decide +kernel), List.mem_of_getElem? (i := 1019) (by decide +kernel)⟩
theorem lw_p22 : lw_okq (⟨"NewsCows$Choice", "isLess", "(II)Z"⟩, 11) := ⟨⟨by decide +kernel, by decide +kernel⟩, List.mem_of_getElem? (i := 447) (by decide +kernel), List.mem_of_getElem? (i := 1031) (by decide +kernel), List.mem_of_getElem? (i := 1032) (by decide +kernel)⟩
theorem lw_p23 : lw_okq (⟨"NewsCows$Planner", "go", "(LNewsCows$Life;III)V"⟩, 7) := ⟨⟨by decide +kernel, by decide +kernel⟩, List.mem_of_getElem? (i := 490) (by decide +kernel), List.mem_of_getElem? (i := 1055) (by decide +kernel), List.mem_of_getElem? (i := 1056) (by decide +kernel)⟩
theorem lw_p24 : lw_okq (⟨"NewsCows$Planner", "goLast", "(LNewsCows$Life;III)V"⟩, 7) := ⟨⟨by decide +kernel, by decide +kernel⟩, List.mem_of_getElem? (i := 490) (by decide +kernel), List.mem_of_getElem? (i := 1059) (by decide +kernel), List.mem_of_getElem? (i := 1060) (by decide +kernel)⟩
theorem lw_p25 : lw_okq (⟨"NewsCows$Planner", "weigh", "(I)V"⟩, 7) := ⟨⟨by decide +kernel, by decide +kernel⟩, List.mem_of_getElem? (i := 490) (by decide +kernel), List.mem_of_getElem? (i := 1070) (by decide +kernel), List.mem_of_getElem? (i := 1071) (by decide +kernel)⟩
theorem lw_p26 : lw_okq (⟨"NewsCows", "isFarm", "(I)Z"⟩, 16) := ⟨⟨by decide +kernel, by decide +kernel⟩, List.mem_of_getElem? (i := 28) (by decide +kernel), List.mem_of_getElem? (i := 1099) (by decide +kernel), List.mem_of_getElem? (i := 1100) (by decide +kernel)⟩
theorem lw_p27 : lw_okq (⟨"NewsCows$Dairy", "comesTo", "(III)Z"⟩, 19) := ⟨⟨by decide +kernel, by decide +kernel⟩, List.mem_of_getElem? (i := 154) (by decide +kernel), List.mem_of_getElem? (i := 1108) (by decide +kernel), List.mem_of_getElem? (i := 1109) (by decide +kernel)⟩
theorem lw_p28 : lw_okq (⟨"NewsCows$Choice", "countNews", "(I)V"⟩, 11) := ⟨⟨by decide +kernel, by decide +kernel⟩, List.mem_of_getElem? (i := 447) (by decide +kernel), List.mem_of_getElem? (i := 1127) (by decide +kernel), List.mem_of_getElem? (i := 1128) (by decide +kernel)⟩
theorem lw_p29 : lw_okq (⟨"NewsCows$Choice", "mostEven", "(I)I"⟩, 11) := ⟨⟨by decide +kernel, by decide +kernel⟩, List.mem_of_getElem? (i := 447) (by decide +kernel), List.mem_of_getElem? (i := 1131) (by decide +kernel), List.mem_of_getElem? (i := 1132) (by decide +kernel)⟩
theorem lw_p30 : lw_okq (⟨"NewsCows", "fits", "(III)Z"⟩, 16) := ⟨⟨by decide +kernel, by decide +kernel⟩, List.mem_of_getElem? (i := 28) (by decide +kernel), List.mem_of_getElem? (i := 1156) (by decide +kernel), List.mem_of_getElem? (i := 1157) (by decide +kernel)⟩
theorem lw_p31 : lw_okq (⟨"NewsCows$Draws", "draw", "(I)I"⟩, 1) := ⟨⟨by decide +kernel, by decide +kernel⟩, List.mem_of_getElem? (i := 522) (by decide +kernel), List.mem_of_getElem? (i := 1180) (by decide +kernel), List.mem_of_getElem? (i := 1181) (by decide +kernel)⟩
def lw_privs_2 : List (MethodName × Nat) := [(⟨"NewsCows$Life", "allComes", "(II)V"⟩, 17), (⟨"NewsCows$Life", "forget", "(I)V"⟩, 17), (⟨"NewsCows", "canBeTold", "(I)Z"⟩, 16), (⟨"NewsCows$Choice", "lookAt", "(I)V"⟩, 11), (⟨"NewsCows$Choice", "bestOf", "(I)I"⟩, 11), (⟨"NewsCows$Choice", "milkBy", "(I)I"⟩, 11), (⟨"NewsCows$Choice", "isLess", "(II)Z"⟩, 11), (⟨"NewsCows$Planner", "go", "(LNewsCows$Life;III)V"⟩, 7), (⟨"NewsCows$Planner", "goLast", "(LNewsCows$Life;III)V"⟩, 7), (⟨"NewsCows$Planner", "weigh", "(I)V"⟩, 7), (⟨"NewsCows", "isFarm", "(I)Z"⟩, 16), (⟨"NewsCows$Dairy", "comesTo", "(III)Z"⟩, 19), (⟨"NewsCows$Choice", "countNews", "(I)V"⟩, 11), (⟨"NewsCows$Choice", "mostEven", "(I)I"⟩, 11), (⟨"NewsCows", "fits", "(III)Z"⟩, 16), (⟨"NewsCows$Draws", "draw", "(I)I"⟩, 1)]
theorem lw_r2 : ∀ q ∈ lw_privs_2, lw_okq q := List.forall_mem_cons.mpr ⟨lw_p16, List.forall_mem_cons.mpr ⟨lw_p17, List.forall_mem_cons.mpr ⟨lw_p18, List.forall_mem_cons.mpr ⟨lw_p19, List.forall_mem_cons.mpr ⟨lw_p20, List.forall_mem_cons.mpr ⟨lw_p21, List.forall_mem_cons.mpr ⟨lw_p22, List.forall_mem_cons.mpr ⟨lw_p23, List.forall_mem_cons.mpr ⟨lw_p24, List.forall_mem_cons.mpr ⟨lw_p25, List.forall_mem_cons.mpr ⟨lw_p26, List.forall_mem_cons.mpr ⟨lw_p27, List.forall_mem_cons.mpr ⟨lw_p28, List.forall_mem_cons.mpr ⟨lw_p29, List.forall_mem_cons.mpr ⟨lw_p30, List.forall_mem_cons.mpr ⟨lw_p31, fun _ h => absurd h List.not_mem_nil⟩⟩⟩⟩⟩⟩⟩⟩⟩⟩⟩⟩⟩⟩⟩⟩
theorem lw_p32 : lw_okq (⟨"NewsCows", "driesByDraws", "(I)Z"⟩, 16) := ⟨⟨by decide +kernel, by decide +kernel⟩, List.mem_of_getElem? (i := 28) (by decide +kernel), List.mem_of_getElem? (i := 1193) (by decide +kernel), List.mem_of_getElem? (i := 1194) (by decide +kernel)⟩
theorem lw_p33 : lw_okq (⟨"NewsCows$Book", "readLine", "(LNewsCows$Tape;LNewsCows$Dairy;)Z"⟩, 9) := ⟨⟨by decide +kernel, by decide +kernel⟩, List.mem_of_getElem? (i := 408) (by decide +kernel), List.mem_of_getElem? (i := 1207) (by decide +kernel), List.mem_of_getElem? (i := 1208) (by decide +kernel)⟩
theorem lw_p34 : lw_okq (⟨"NewsCows$Book", "live", "(LNewsCows$Life;I)I"⟩, 9) := ⟨⟨by decide +kernel, by decide +kernel⟩, List.mem_of_getElem? (i := 408) (by decide +kernel), List.mem_of_getElem? (i := 1225) (by decide +kernel), List.mem_of_getElem? (i := 1226) (by decide +kernel)⟩
theorem lw_p35 : lw_okq (⟨"NewsCows$Sentence", "readCond", "(LNewsCows$Tape;LNewsCows$Dairy;I)Z"⟩, 5) := ⟨⟨by decide +kernel, by decide +kernel⟩, List.mem_of_getElem? (i := 385) (by decide +kernel), List.mem_of_getElem? (i := 1249) (by decide +kernel), List.mem_of_getElem? (i := 1250) (by decide +kernel)⟩
theorem lw_p36 : lw_okq (⟨"NewsCows$Sentence", "readAll", "(LNewsCows$Tape;LNewsCows$Dairy;I)Z"⟩, 5) := ⟨⟨by decide +kernel, by decide +kernel⟩, List.mem_of_getElem? (i := 385) (by decide +kernel), List.mem_of_getElem? (i := 1253) (by decide +kernel), List.mem_of_getElem? (i := 1254) (by decide +kernel)⟩
theorem lw_p37 : lw_okq (⟨"NewsCows$Sentence", "readOne", "(LNewsCows$Tape;LNewsCows$Dairy;I)Z"⟩, 5) := ⟨⟨by decide +kernel, by decide +kernel⟩, List.mem_of_getElem? (i := 385) (by decide +kernel), List.mem_of_getElem? (i := 1257) (by decide +kernel), List.mem_of_getElem? (i := 1258) (by decide +kernel)⟩
theorem lw_p38 : lw_okq (⟨"NewsCows$Sentence", "put", "(III)V"⟩, 5) := ⟨⟨by decide +kernel, by decide +kernel⟩, List.mem_of_getElem? (i := 385) (by decide +kernel), List.mem_of_getElem? (i := 1265) (by decide +kernel), List.mem_of_getElem? (i := 1266) (by decide +kernel)⟩
theorem lw_p39 : lw_okq (⟨"NewsCows$Sentence", "readPlainOne", "(LNewsCows$Tape;LNewsCows$Dairy;I)Z"⟩, 5) := ⟨⟨by decide +kernel, by decide +kernel⟩, List.mem_of_getElem? (i := 385) (by decide +kernel), List.mem_of_getElem? (i := 1269) (by decide +kernel), List.mem_of_getElem? (i := 1270) (by decide +kernel)⟩
theorem lw_p40 : lw_okq (⟨"NewsCows$Sentence", "isSo", "(LNewsCows$Life;II)Z"⟩, 5) := ⟨⟨by decide +kernel, by decide +kernel⟩, List.mem_of_getElem? (i := 385) (by decide +kernel), List.mem_of_getElem? (i := 1289) (by decide +kernel), List.mem_of_getElem? (i := 1290) (by decide +kernel)⟩
theorem lw_p41 : lw_okq (⟨"NewsCows$Sentence", "compares", "(II)Z"⟩, 5) := ⟨⟨by decide +kernel, by decide +kernel⟩, List.mem_of_getElem? (i := 385) (by decide +kernel), List.mem_of_getElem? (i := 1296) (by decide +kernel), List.mem_of_getElem? (i := 1297) (by decide +kernel)⟩
theorem lw_p42 : lw_okq (⟨"java/lang/Throwable", "fillInStackTrace", "(I)Ljava/lang/Throwable;"⟩, 6) := ⟨⟨by decide +kernel, by decide +kernel⟩, List.mem_of_getElem? (i := 1356) (by decide +kernel), List.mem_of_getElem? (i := 1354) (by decide +kernel), List.mem_of_getElem? (i := 1355) (by decide +kernel)⟩
theorem lw_p43 : lw_okq (⟨"NewsCows", "milkOfFarm", "(I)I"⟩, 16) := ⟨⟨by decide +kernel, by decide +kernel⟩, List.mem_of_getElem? (i := 28) (by decide +kernel), List.mem_of_getElem? (i := 1390) (by decide +kernel), List.mem_of_getElem? (i := 1391) (by decide +kernel)⟩
theorem lw_p44 : lw_okq (⟨"NewsCowsModel", "four", "(I)V"⟩, 49) := ⟨⟨by decide +kernel, by decide +kernel⟩, List.mem_of_getElem? (i := 1405) (by decide +kernel), List.mem_of_getElem? (i := 1403) (by decide +kernel), List.mem_of_getElem? (i := 1404) (by decide +kernel)⟩
theorem lw_p45 : lw_okq (⟨"NewsCowsModel", "taken", "(I)V"⟩, 49) := ⟨⟨by decide +kernel, by decide +kernel⟩, List.mem_of_getElem? (i := 1405) (by decide +kernel), List.mem_of_getElem? (i := 1594) (by decide +kernel), List.mem_of_getElem? (i := 1595) (by decide +kernel)⟩
theorem lw_p46 : lw_okq (⟨"NewsCowsModel", "next", "()V"⟩, 49) := ⟨⟨by decide +kernel, by decide +kernel⟩, List.mem_of_getElem? (i := 1405) (by decide +kernel), List.mem_of_getElem? (i := 1598) (by decide +kernel), List.mem_of_getElem? (i := 1599) (by decide +kernel)⟩
theorem lw_p47 : lw_okq (⟨"NewsCowsModel", "peek", "()I"⟩, 49) := ⟨⟨by decide +kernel, by decide +kernel⟩, List.mem_of_getElem? (i := 1405) (by decide +kernel), List.mem_of_getElem? (i := 1602) (by decide +kernel), List.mem_of_getElem? (i := 1603) (by decide +kernel)⟩
def lw_privs_3 : List (MethodName × Nat) := [(⟨"NewsCows", "driesByDraws", "(I)Z"⟩, 16), (⟨"NewsCows$Book", "readLine", "(LNewsCows$Tape;LNewsCows$Dairy;)Z"⟩, 9), (⟨"NewsCows$Book", "live", "(LNewsCows$Life;I)I"⟩, 9), (⟨"NewsCows$Sentence", "readCond", "(LNewsCows$Tape;LNewsCows$Dairy;I)Z"⟩, 5), (⟨"NewsCows$Sentence", "readAll", "(LNewsCows$Tape;LNewsCows$Dairy;I)Z"⟩, 5), (⟨"NewsCows$Sentence", "readOne", "(LNewsCows$Tape;LNewsCows$Dairy;I)Z"⟩, 5), (⟨"NewsCows$Sentence", "put", "(III)V"⟩, 5), (⟨"NewsCows$Sentence", "readPlainOne", "(LNewsCows$Tape;LNewsCows$Dairy;I)Z"⟩, 5), (⟨"NewsCows$Sentence", "isSo", "(LNewsCows$Life;II)Z"⟩, 5), (⟨"NewsCows$Sentence", "compares", "(II)Z"⟩, 5), (⟨"java/lang/Throwable", "fillInStackTrace", "(I)Ljava/lang/Throwable;"⟩, 6), (⟨"NewsCows", "milkOfFarm", "(I)I"⟩, 16), (⟨"NewsCowsModel", "four", "(I)V"⟩, 49), (⟨"NewsCowsModel", "taken", "(I)V"⟩, 49), (⟨"NewsCowsModel", "next", "()V"⟩, 49), (⟨"NewsCowsModel", "peek", "()I"⟩, 49)]
theorem lw_r3 : ∀ q ∈ lw_privs_3, lw_okq q := List.forall_mem_cons.mpr ⟨lw_p32, List.forall_mem_cons.mpr ⟨lw_p33, List.forall_mem_cons.mpr ⟨lw_p34, List.forall_mem_cons.mpr ⟨lw_p35, List.forall_mem_cons.mpr ⟨lw_p36, List.forall_mem_cons.mpr ⟨lw_p37, List.forall_mem_cons.mpr ⟨lw_p38, List.forall_mem_cons.mpr ⟨lw_p39, List.forall_mem_cons.mpr ⟨lw_p40, List.forall_mem_cons.mpr ⟨lw_p41, List.forall_mem_cons.mpr ⟨lw_p42, List.forall_mem_cons.mpr ⟨lw_p43, List.forall_mem_cons.mpr ⟨lw_p44, List.forall_mem_cons.mpr ⟨lw_p45, List.forall_mem_cons.mpr ⟨lw_p46, List.forall_mem_cons.mpr ⟨lw_p47, fun _ h => absurd h List.not_mem_nil⟩⟩⟩⟩⟩⟩⟩⟩⟩⟩⟩⟩⟩⟩⟩⟩
theorem lw_p48 : lw_okq (⟨"NewsCowsModel", "line", "()Z"⟩, 49) := ⟨⟨by decide +kernel, by decide +kernel⟩, List.mem_of_getElem? (i := 1405) (by decide +kernel), List.mem_of_getElem? (i := 1612) (by decide +kernel), List.mem_of_getElem? (i := 1613) (by decide +kernel)⟩
theorem lw_p49 : lw_okq (⟨"NewsCowsModel", "isWord", "(J)Z"⟩, 49) := ⟨⟨by decide +kernel, by decide +kernel⟩, List.mem_of_getElem? (i := 1405) (by decide +kernel), List.mem_of_getElem? (i := 1616) (by decide +kernel), List.mem_of_getElem? (i := 1617) (by decide +kernel)⟩
theorem lw_p50 : lw_okq (⟨"NewsCowsModel", "bad", "(I)Z"⟩, 49) := ⟨⟨by decide +kernel, by decide +kernel⟩, List.mem_of_getElem? (i := 1405) (by decide +kernel), List.mem_of_getElem? (i := 1620) (by decide +kernel), List.mem_of_getElem? (i := 1621) (by decide +kernel)⟩
theorem lw_p51 : lw_okq (⟨"NewsCowsModel", "fresh", "(I)Z"⟩, 49) := ⟨⟨by decide +kernel, by decide +kernel⟩, List.mem_of_getElem? (i := 1405) (by decide +kernel), List.mem_of_getElem? (i := 1624) (by decide +kernel), List.mem_of_getElem? (i := 1625) (by decide +kernel)⟩
theorem lw_p52 : lw_okq (⟨"NewsCowsModel", "isName", "()Z"⟩, 49) := ⟨⟨by decide +kernel, by decide +kernel⟩, List.mem_of_getElem? (i := 1405) (by decide +kernel), List.mem_of_getElem? (i := 1628) (by decide +kernel), List.mem_of_getElem? (i := 1629) (by decide +kernel)⟩
theorem lw_p53 : lw_okq (⟨"NewsCowsModel", "seek", "(II)I"⟩, 49) := ⟨⟨by decide +kernel, by decide +kernel⟩, List.mem_of_getElem? (i := 1405) (by decide +kernel), List.mem_of_getElem? (i := 1632) (by decide +kernel), List.mem_of_getElem? (i := 1633) (by decide +kernel)⟩
theorem lw_p54 : lw_okq (⟨"NewsCowsModel", "takesName", "(II)Z"⟩, 49) := ⟨⟨by decide +kernel, by decide +kernel⟩, List.mem_of_getElem? (i := 1405) (by decide +kernel), List.mem_of_getElem? (i := 1636) (by decide +kernel), List.mem_of_getElem? (i := 1637) (by decide +kernel)⟩
theorem lw_p55 : lw_okq (⟨"NewsCowsModel", "looksAt", "(II)Z"⟩, 49) := ⟨⟨by decide +kernel, by decide +kernel⟩, List.mem_of_getElem? (i := 1405) (by decide +kernel), List.mem_of_getElem? (i := 1640) (by decide +kernel), List.mem_of_getElem? (i := 1641) (by decide +kernel)⟩
theorem lw_p56 : lw_okq (⟨"NewsCowsModel", "puts", "(III)Z"⟩, 49) := ⟨⟨by decide +kernel, by decide +kernel⟩, List.mem_of_getElem? (i := 1405) (by decide +kernel), List.mem_of_getElem? (i := 1644) (by decide +kernel), List.mem_of_getElem? (i := 1645) (by decide +kernel)⟩
theorem lw_p57 : lw_okq (⟨"NewsCowsModel", "takes", "(II)Z"⟩, 49) := ⟨⟨by decide +kernel, by decide +kernel⟩, List.mem_of_getElem? (i := 1405) (by decide +kernel), List.mem_of_getElem? (i := 1648) (by decide +kernel), List.mem_of_getElem? (i := 1649) (by decide +kernel)⟩
theorem lw_p58 : lw_okq (⟨"NewsCowsModel", "readNews", "()Z"⟩, 49) := ⟨⟨by decide +kernel, by decide +kernel⟩, List.mem_of_getElem? (i := 1405) (by decide +kernel), List.mem_of_getElem? (i := 1655) (by decide +kernel), List.mem_of_getElem? (i := 1656) (by decide +kernel)⟩
theorem lw_p59 : lw_okq (⟨"NewsCowsModel", "kindOf", "()I"⟩, 49) := ⟨⟨by decide +kernel, by decide +kernel⟩, List.mem_of_getElem? (i := 1405) (by decide +kernel), List.mem_of_getElem? (i := 1659) (by decide +kernel), List.mem_of_getElem? (i := 1660) (by decide +kernel)⟩
theorem lw_p60 : lw_okq (⟨"NewsCowsModel", "readHedge", "()Z"⟩, 49) := ⟨⟨by decide +kernel, by decide +kernel⟩, List.mem_of_getElem? (i := 1405) (by decide +kernel), List.mem_of_getElem? (i := 1663) (by decide +kernel), List.mem_of_getElem? (i := 1664) (by decide +kernel)⟩
theorem lw_p61 : lw_okq (⟨"NewsCowsModel", "sign", "(I)Z"⟩, 49) := ⟨⟨by decide +kernel, by decide +kernel⟩, List.mem_of_getElem? (i := 1405) (by decide +kernel), List.mem_of_getElem? (i := 1667) (by decide +kernel), List.mem_of_getElem? (i := 1668) (by decide +kernel)⟩
theorem lw_p62 : lw_okq (⟨"NewsCowsModel", "isSign", "(I)Z"⟩, 49) := ⟨⟨by decide +kernel, by decide +kernel⟩, List.mem_of_getElem? (i := 1405) (by decide +kernel), List.mem_of_getElem? (i := 1671) (by decide +kernel), List.mem_of_getElem? (i := 1672) (by decide +kernel)⟩
theorem lw_p63 : lw_okq (⟨"NewsCowsModel", "isCow", "(I)Z"⟩, 49) := ⟨⟨by decide +kernel, by decide +kernel⟩, List.mem_of_getElem? (i := 1405) (by decide +kernel), List.mem_of_getElem? (i := 1683) (by decide +kernel), List.mem_of_getElem? (i := 1684) (by decide +kernel)⟩
def lw_privs_4 : List (MethodName × Nat) := [(⟨"NewsCowsModel", "line", "()Z"⟩, 49), (⟨"NewsCowsModel", "isWord", "(J)Z"⟩, 49), (⟨"NewsCowsModel", "bad", "(I)Z"⟩, 49), (⟨"NewsCowsModel", "fresh", "(I)Z"⟩, 49), (⟨"NewsCowsModel", "isName", "()Z"⟩, 49), (⟨"NewsCowsModel", "seek", "(II)I"⟩, 49), (⟨"NewsCowsModel", "takesName", "(II)Z"⟩, 49), (⟨"NewsCowsModel", "looksAt", "(II)Z"⟩, 49), (⟨"NewsCowsModel", "puts", "(III)Z"⟩, 49), (⟨"NewsCowsModel", "takes", "(II)Z"⟩, 49), (⟨"NewsCowsModel", "readNews", "()Z"⟩, 49), (⟨"NewsCowsModel", "kindOf", "()I"⟩, 49), (⟨"NewsCowsModel", "readHedge", "()Z"⟩, 49), (⟨"NewsCowsModel", "sign", "(I)Z"⟩, 49), (⟨"NewsCowsModel", "isSign", "(I)Z"⟩, 49), (⟨"NewsCowsModel", "isCow", "(I)Z"⟩, 49)]
theorem lw_r4 : ∀ q ∈ lw_privs_4, lw_okq q := List.forall_mem_cons.mpr ⟨lw_p48, List.forall_mem_cons.mpr ⟨lw_p49, List.forall_mem_cons.mpr ⟨lw_p50, List.forall_mem_cons.mpr ⟨lw_p51, List.forall_mem_cons.mpr ⟨lw_p52, List.forall_mem_cons.mpr ⟨lw_p53, List.forall_mem_cons.mpr ⟨lw_p54, List.forall_mem_cons.mpr ⟨lw_p55, List.forall_mem_cons.mpr ⟨lw_p56, List.forall_mem_cons.mpr ⟨lw_p57, List.forall_mem_cons.mpr ⟨lw_p58, List.forall_mem_cons.mpr ⟨lw_p59, List.forall_mem_cons.mpr ⟨lw_p60, List.forall_mem_cons.mpr ⟨lw_p61, List.forall_mem_cons.mpr ⟨lw_p62, List.forall_mem_cons.mpr ⟨lw_p63, fun _ h => absurd h List.not_mem_nil⟩⟩⟩⟩⟩⟩⟩⟩⟩⟩⟩⟩⟩⟩⟩⟩
theorem lw_p64 : lw_okq (⟨"NewsCowsModel", "throwsIf", "(Z)Z"⟩, 49) := ⟨⟨by decide +kernel, by decide +kernel⟩, List.mem_of_getElem? (i := 1405) (by decide +kernel), List.mem_of_getElem? (i := 1687) (by decide +kernel), List.mem_of_getElem? (i := 1688) (by decide +kernel)⟩
theorem lw_p65 : lw_okq (⟨"NewsCowsModel", "isDry", "(I)Z"⟩, 49) := ⟨⟨by decide +kernel, by decide +kernel⟩, List.mem_of_getElem? (i := 1405) (by decide +kernel), List.mem_of_getElem? (i := 1691) (by decide +kernel), List.mem_of_getElem? (i := 1692) (by decide +kernel)⟩
theorem lw_p66 : lw_okq (⟨"NewsCowsModel", "isCurdled", "(I)Z"⟩, 49) := ⟨⟨by decide +kernel, by decide +kernel⟩, List.mem_of_getElem? (i := 1405) (by decide +kernel), List.mem_of_getElem? (i := 1698) (by decide +kernel), List.mem_of_getElem? (i := 1699) (by decide +kernel)⟩
theorem lw_p67 : lw_okq (⟨"NewsCowsModel", "known", "(I)I"⟩, 49) := ⟨⟨by decide +kernel, by decide +kernel⟩, List.mem_of_getElem? (i := 1405) (by decide +kernel), List.mem_of_getElem? (i := 1702) (by decide +kernel), List.mem_of_getElem? (i := 1703) (by decide +kernel)⟩
theorem lw_p68 : lw_okq (⟨"NewsCowsModel", "knows", "(II)Z"⟩, 49) := ⟨⟨by decide +kernel, by decide +kernel⟩, List.mem_of_getElem? (i := 1405) (by decide +kernel), List.mem_of_getElem? (i := 1706) (by decide +kernel), List.mem_of_getElem? (i := 1707) (by decide +kernel)⟩
theorem lw_p69 : lw_okq (⟨"NewsCowsModel", "milk", "(I)I"⟩, 49) := ⟨⟨by decide +kernel, by decide +kernel⟩, List.mem_of_getElem? (i := 1405) (by decide +kernel), List.mem_of_getElem? (i := 1710) (by decide +kernel), List.mem_of_getElem? (i := 1711) (by decide +kernel)⟩
theorem lw_p70 : lw_okq (⟨"NewsCowsModel", "milkWith", "(II)I"⟩, 49) := ⟨⟨by decide +kernel, by decide +kernel⟩, List.mem_of_getElem? (i := 1405) (by decide +kernel), List.mem_of_getElem? (i := 1714) (by decide +kernel), List.mem_of_getElem? (i := 1715) (by decide +kernel)⟩
theorem lw_p71 : lw_okq (⟨"NewsCowsModel", "milkBy", "(III)I"⟩, 49) := ⟨⟨by decide +kernel, by decide +kernel⟩, List.mem_of_getElem? (i := 1405) (by decide +kernel), List.mem_of_getElem? (i := 1718) (by decide +kernel), List.mem_of_getElem? (i := 1719) (by decide +kernel)⟩
theorem lw_p72 : lw_okq (⟨"NewsCowsModel", "isLie", "(I)Z"⟩, 49) := ⟨⟨by decide +kernel, by decide +kernel⟩, List.mem_of_getElem? (i := 1405) (by decide +kernel), List.mem_of_getElem? (i := 1722) (by decide +kernel), List.mem_of_getElem? (i := 1723) (by decide +kernel)⟩
theorem lw_p73 : lw_okq (⟨"NewsCowsModel", "hasOther", "(II)Z"⟩, 49) := ⟨⟨by decide +kernel, by decide +kernel⟩, List.mem_of_getElem? (i := 1405) (by decide +kernel), List.mem_of_getElem? (i := 1726) (by decide +kernel), List.mem_of_getElem? (i := 1727) (by decide +kernel)⟩
theorem lw_p74 : lw_okq (⟨"NewsCowsModel", "isNews", "(I)Z"⟩, 49) := ⟨⟨by decide +kernel, by decide +kernel⟩, List.mem_of_getElem? (i := 1405) (by decide +kernel), List.mem_of_getElem? (i := 1737) (by decide +kernel), List.mem_of_getElem? (i := 1738) (by decide +kernel)⟩
theorem lw_p75 : lw_okq (⟨"NewsCowsModel", "isFarm", "(I)Z"⟩, 49) := ⟨⟨by decide +kernel, by decide +kernel⟩, List.mem_of_getElem? (i := 1405) (by decide +kernel), List.mem_of_getElem? (i := 1745) (by decide +kernel), List.mem_of_getElem? (i := 1746) (by decide +kernel)⟩
theorem lw_p76 : lw_okq (⟨"NewsCowsModel", "cowsOf", "(I)I"⟩, 49) := ⟨⟨by decide +kernel, by decide +kernel⟩, List.mem_of_getElem? (i := 1405) (by decide +kernel), List.mem_of_getElem? (i := 1749) (by decide +kernel), List.mem_of_getElem? (i := 1750) (by decide +kernel)⟩
theorem lw_p77 : lw_okq (⟨"NewsCowsModel", "milkOf", "(I)I"⟩, 49) := ⟨⟨by decide +kernel, by decide +kernel⟩, List.mem_of_getElem? (i := 1405) (by decide +kernel), List.mem_of_getElem? (i := 1753) (by decide +kernel), List.mem_of_getElem? (i := 1754) (by decide +kernel)⟩
theorem lw_p78 : lw_okq (⟨"NewsCowsModel", "talks", "(I)Z"⟩, 49) := ⟨⟨by decide +kernel, by decide +kernel⟩, List.mem_of_getElem? (i := 1405) (by decide +kernel), List.mem_of_getElem? (i := 1761) (by decide +kernel), List.mem_of_getElem? (i := 1762) (by decide +kernel)⟩
theorem lw_p79 : lw_okq (⟨"NewsCowsModel", "allPails", "()I"⟩, 49) := ⟨⟨by decide +kernel, by decide +kernel⟩, List.mem_of_getElem? (i := 1405) (by decide +kernel), List.mem_of_getElem? (i := 1765) (by decide +kernel), List.mem_of_getElem? (i := 1766) (by decide +kernel)⟩
def lw_privs_5 : List (MethodName × Nat) := [(⟨"NewsCowsModel", "throwsIf", "(Z)Z"⟩, 49), (⟨"NewsCowsModel", "isDry", "(I)Z"⟩, 49), (⟨"NewsCowsModel", "isCurdled", "(I)Z"⟩, 49), (⟨"NewsCowsModel", "known", "(I)I"⟩, 49), (⟨"NewsCowsModel", "knows", "(II)Z"⟩, 49), (⟨"NewsCowsModel", "milk", "(I)I"⟩, 49), (⟨"NewsCowsModel", "milkWith", "(II)I"⟩, 49), (⟨"NewsCowsModel", "milkBy", "(III)I"⟩, 49), (⟨"NewsCowsModel", "isLie", "(I)Z"⟩, 49), (⟨"NewsCowsModel", "hasOther", "(II)Z"⟩, 49), (⟨"NewsCowsModel", "isNews", "(I)Z"⟩, 49), (⟨"NewsCowsModel", "isFarm", "(I)Z"⟩, 49), (⟨"NewsCowsModel", "cowsOf", "(I)I"⟩, 49), (⟨"NewsCowsModel", "milkOf", "(I)I"⟩, 49), (⟨"NewsCowsModel", "talks", "(I)Z"⟩, 49), (⟨"NewsCowsModel", "allPails", "()I"⟩, 49)]
theorem lw_r5 : ∀ q ∈ lw_privs_5, lw_okq q := List.forall_mem_cons.mpr ⟨lw_p64, List.forall_mem_cons.mpr ⟨lw_p65, List.forall_mem_cons.mpr ⟨lw_p66, List.forall_mem_cons.mpr ⟨lw_p67, List.forall_mem_cons.mpr ⟨lw_p68, List.forall_mem_cons.mpr ⟨lw_p69, List.forall_mem_cons.mpr ⟨lw_p70, List.forall_mem_cons.mpr ⟨lw_p71, List.forall_mem_cons.mpr ⟨lw_p72, List.forall_mem_cons.mpr ⟨lw_p73, List.forall_mem_cons.mpr ⟨lw_p74, List.forall_mem_cons.mpr ⟨lw_p75, List.forall_mem_cons.mpr ⟨lw_p76, List.forall_mem_cons.mpr ⟨lw_p77, List.forall_mem_cons.mpr ⟨lw_p78, List.forall_mem_cons.mpr ⟨lw_p79, fun _ h => absurd h List.not_mem_nil⟩⟩⟩⟩⟩⟩⟩⟩⟩⟩⟩⟩⟩⟩⟩⟩
theorem lw_p80 : lw_okq (⟨"NewsCowsModel", "whyTell", "(II)I"⟩, 49) := ⟨⟨by decide +kernel, by decide +kernel⟩, List.mem_of_getElem? (i := 1405) (by decide +kernel), List.mem_of_getElem? (i := 1773) (by decide +kernel), List.mem_of_getElem? (i := 1774) (by decide +kernel)⟩
theorem lw_p81 : lw_okq (⟨"NewsCowsModel", "keep", "()V"⟩, 49) := ⟨⟨by decide +kernel, by decide +kernel⟩, List.mem_of_getElem? (i := 1405) (by decide +kernel), List.mem_of_getElem? (i := 1780) (by decide +kernel), List.mem_of_getElem? (i := 1781) (by decide +kernel)⟩
theorem lw_p82 : lw_okq (⟨"NewsCowsModel", "tells", "(II)V"⟩, 49) := ⟨⟨by decide +kernel, by decide +kernel⟩, List.mem_of_getElem? (i := 1405) (by decide +kernel), List.mem_of_getElem? (i := 1784) (by decide +kernel), List.mem_of_getElem? (i := 1785) (by decide +kernel)⟩
theorem lw_p83 : lw_okq (⟨"NewsCowsModel", "whyFind", "(I)I"⟩, 49) := ⟨⟨by decide +kernel, by decide +kernel⟩, List.mem_of_getElem? (i := 1405) (by decide +kernel), List.mem_of_getElem? (i := 1792) (by decide +kernel), List.mem_of_getElem? (i := 1793) (by decide +kernel)⟩
theorem lw_p84 : lw_okq (⟨"NewsCowsModel", "finds", "(I)V"⟩, 49) := ⟨⟨by decide +kernel, by decide +kernel⟩, List.mem_of_getElem? (i := 1405) (by decide +kernel), List.mem_of_getElem? (i := 1796) (by decide +kernel), List.mem_of_getElem? (i := 1797) (by decide +kernel)⟩
theorem lw_p85 : lw_okq (⟨"NewsCowsModel", "driedBy", "(I)I"⟩, 49) := ⟨⟨by decide +kernel, by decide +kernel⟩, List.mem_of_getElem? (i := 1405) (by decide +kernel), List.mem_of_getElem? (i := 1800) (by decide +kernel), List.mem_of_getElem? (i := 1801) (by decide +kernel)⟩
theorem lw_p86 : lw_okq (⟨"NewsCowsModel", "goesOn", "(I)I"⟩, 49) := ⟨⟨by decide +kernel, by decide +kernel⟩, List.mem_of_getElem? (i := 1405) (by decide +kernel), List.mem_of_getElem? (i := 1808) (by decide +kernel), List.mem_of_getElem? (i := 1809) (by decide +kernel)⟩
theorem lw_p87 : lw_okq (⟨"NewsCowsModel", "day", "()V"⟩, 49) := ⟨⟨by decide +kernel, by decide +kernel⟩, List.mem_of_getElem? (i := 1405) (by decide +kernel), List.mem_of_getElem? (i := 1812) (by decide +kernel), List.mem_of_getElem? (i := 1813) (by decide +kernel)⟩
theorem lw_p88 : lw_okq (⟨"NewsCowsModel", "comesTo", "(II)V"⟩, 49) := ⟨⟨by decide +kernel, by decide +kernel⟩, List.mem_of_getElem? (i := 1405) (by decide +kernel), List.mem_of_getElem? (i := 1816) (by decide +kernel), List.mem_of_getElem? (i := 1817) (by decide +kernel)⟩
theorem lw_p89 : lw_okq (⟨"NewsCowsModel", "peace", "()I"⟩, 49) := ⟨⟨by decide +kernel, by decide +kernel⟩, List.mem_of_getElem? (i := 1405) (by decide +kernel), List.mem_of_getElem? (i := 1832) (by decide +kernel), List.mem_of_getElem? (i := 1833) (by decide +kernel)⟩
theorem lw_p90 : lw_okq (⟨"NewsCowsModel", "bestOf", "(II)I"⟩, 49) := ⟨⟨by decide +kernel, by decide +kernel⟩, List.mem_of_getElem? (i := 1405) (by decide +kernel), List.mem_of_getElem? (i := 1836) (by decide +kernel), List.mem_of_getElem? (i := 1837) (by decide +kernel)⟩
theorem lw_p91 : lw_okq (⟨"NewsCowsModel", "mayHear", "(II)Z"⟩, 49) := ⟨⟨by decide +kernel, by decide +kernel⟩, List.mem_of_getElem? (i := 1405) (by decide +kernel), List.mem_of_getElem? (i := 1840) (by decide +kernel), List.mem_of_getElem? (i := 1841) (by decide +kernel)⟩
theorem lw_p92 : lw_okq (⟨"NewsCowsModel", "tellsSet", "(I)V"⟩, 49) := ⟨⟨by decide +kernel, by decide +kernel⟩, List.mem_of_getElem? (i := 1405) (by decide +kernel), List.mem_of_getElem? (i := 1844) (by decide +kernel), List.mem_of_getElem? (i := 1845) (by decide +kernel)⟩
theorem lw_p93 : lw_okq (⟨"NewsCowsModel", "tries", "()V"⟩, 49) := ⟨⟨by decide +kernel, by decide +kernel⟩, List.mem_of_getElem? (i := 1405) (by decide +kernel), List.mem_of_getElem? (i := 1864) (by decide +kernel), List.mem_of_getElem? (i := 1865) (by decide +kernel)⟩
theorem lw_p94 : lw_okq (⟨"NewsCowsModel", "planned", "(III)I"⟩, 49) := ⟨⟨by decide +kernel, by decide +kernel⟩, List.mem_of_getElem? (i := 1405) (by decide +kernel), List.mem_of_getElem? (i := 1868) (by decide +kernel), List.mem_of_getElem? (i := 1869) (by decide +kernel)⟩
theorem lw_p95 : lw_okq (⟨"NewsCowsModel", "digit", "(III)I"⟩, 49) := ⟨⟨by decide +kernel, by decide +kernel⟩, List.mem_of_getElem? (i := 1405) (by decide +kernel), List.mem_of_getElem? (i := 1872) (by decide +kernel), List.mem_of_getElem? (i := 1873) (by decide +kernel)⟩
def lw_privs_6 : List (MethodName × Nat) := [(⟨"NewsCowsModel", "whyTell", "(II)I"⟩, 49), (⟨"NewsCowsModel", "keep", "()V"⟩, 49), (⟨"NewsCowsModel", "tells", "(II)V"⟩, 49), (⟨"NewsCowsModel", "whyFind", "(I)I"⟩, 49), (⟨"NewsCowsModel", "finds", "(I)V"⟩, 49), (⟨"NewsCowsModel", "driedBy", "(I)I"⟩, 49), (⟨"NewsCowsModel", "goesOn", "(I)I"⟩, 49), (⟨"NewsCowsModel", "day", "()V"⟩, 49), (⟨"NewsCowsModel", "comesTo", "(II)V"⟩, 49), (⟨"NewsCowsModel", "peace", "()I"⟩, 49), (⟨"NewsCowsModel", "bestOf", "(II)I"⟩, 49), (⟨"NewsCowsModel", "mayHear", "(II)Z"⟩, 49), (⟨"NewsCowsModel", "tellsSet", "(I)V"⟩, 49), (⟨"NewsCowsModel", "tries", "()V"⟩, 49), (⟨"NewsCowsModel", "planned", "(III)I"⟩, 49), (⟨"NewsCowsModel", "digit", "(III)I"⟩, 49)]
theorem lw_r6 : ∀ q ∈ lw_privs_6, lw_okq q := List.forall_mem_cons.mpr ⟨lw_p80, List.forall_mem_cons.mpr ⟨lw_p81, List.forall_mem_cons.mpr ⟨lw_p82, List.forall_mem_cons.mpr ⟨lw_p83, List.forall_mem_cons.mpr ⟨lw_p84, List.forall_mem_cons.mpr ⟨lw_p85, List.forall_mem_cons.mpr ⟨lw_p86, List.forall_mem_cons.mpr ⟨lw_p87, List.forall_mem_cons.mpr ⟨lw_p88, List.forall_mem_cons.mpr ⟨lw_p89, List.forall_mem_cons.mpr ⟨lw_p90, List.forall_mem_cons.mpr ⟨lw_p91, List.forall_mem_cons.mpr ⟨lw_p92, List.forall_mem_cons.mpr ⟨lw_p93, List.forall_mem_cons.mpr ⟨lw_p94, List.forall_mem_cons.mpr ⟨lw_p95, fun _ h => absurd h List.not_mem_nil⟩⟩⟩⟩⟩⟩⟩⟩⟩⟩⟩⟩⟩⟩⟩⟩
theorem lw_p96 : lw_okq (⟨"NewsCowsModel", "back", "()V"⟩, 49) := ⟨⟨by decide +kernel, by decide +kernel⟩, List.mem_of_getElem? (i := 1405) (by decide +kernel), List.mem_of_getElem? (i := 1876) (by decide +kernel), List.mem_of_getElem? (i := 1877) (by decide +kernel)⟩
theorem lw_p97 : lw_okq (⟨"NewsCowsModel", "comes", "(III)Z"⟩, 49) := ⟨⟨by decide +kernel, by decide +kernel⟩, List.mem_of_getElem? (i := 1405) (by decide +kernel), List.mem_of_getElem? (i := 1892) (by decide +kernel), List.mem_of_getElem? (i := 1893) (by decide +kernel)⟩
theorem lw_p98 : lw_okq (⟨"NewsCowsModel", "octet", "(I)I"⟩, 49) := ⟨⟨by decide +kernel, by decide +kernel⟩, List.mem_of_getElem? (i := 1405) (by decide +kernel), List.mem_of_getElem? (i := 1904) (by decide +kernel), List.mem_of_getElem? (i := 1905) (by decide +kernel)⟩
theorem lw_p99 : lw_okq (⟨"NewsCowsModel", "isPast", "(I)Z"⟩, 49) := ⟨⟨by decide +kernel, by decide +kernel⟩, List.mem_of_getElem? (i := 1405) (by decide +kernel), List.mem_of_getElem? (i := 1931) (by decide +kernel), List.mem_of_getElem? (i := 1932) (by decide +kernel)⟩
theorem lw_p100 : lw_okq (⟨"NewsCowsModel", "draws", "(II)I"⟩, 49) := ⟨⟨by decide +kernel, by decide +kernel⟩, List.mem_of_getElem? (i := 1405) (by decide +kernel), List.mem_of_getElem? (i := 1943) (by decide +kernel), List.mem_of_getElem? (i := 1944) (by decide +kernel)⟩
theorem lw_p101 : lw_okq (⟨"NewsCowsModel", "draw", "(I)I"⟩, 49) := ⟨⟨by decide +kernel, by decide +kernel⟩, List.mem_of_getElem? (i := 1405) (by decide +kernel), List.mem_of_getElem? (i := 1947) (by decide +kernel), List.mem_of_getElem? (i := 1948) (by decide +kernel)⟩
theorem lw_p102 : lw_okq (⟨"NewsCowsModel", "bookLine", "()Z"⟩, 49) := ⟨⟨by decide +kernel, by decide +kernel⟩, List.mem_of_getElem? (i := 1405) (by decide +kernel), List.mem_of_getElem? (i := 1960) (by decide +kernel), List.mem_of_getElem? (i := 1961) (by decide +kernel)⟩
theorem lw_p103 : lw_okq (⟨"NewsCowsModel", "does", "(III)I"⟩, 49) := ⟨⟨by decide +kernel, by decide +kernel⟩, List.mem_of_getElem? (i := 1405) (by decide +kernel), List.mem_of_getElem? (i := 1964) (by decide +kernel), List.mem_of_getElem? (i := 1965) (by decide +kernel)⟩
theorem lw_p104 : lw_okq (⟨"NewsCowsModel", "nots", "()V"⟩, 49) := ⟨⟨by decide +kernel, by decide +kernel⟩, List.mem_of_getElem? (i := 1405) (by decide +kernel), List.mem_of_getElem? (i := 1976) (by decide +kernel), List.mem_of_getElem? (i := 1977) (by decide +kernel)⟩
theorem lw_p105 : lw_okq (⟨"NewsCowsModel", "code", "(III)V"⟩, 49) := ⟨⟨by decide +kernel, by decide +kernel⟩, List.mem_of_getElem? (i := 1405) (by decide +kernel), List.mem_of_getElem? (i := 1980) (by decide +kernel), List.mem_of_getElem? (i := 1981) (by decide +kernel)⟩
theorem lw_p106 : lw_okq (⟨"NewsCowsModel", "joins", "(I)V"⟩, 49) := ⟨⟨by decide +kernel, by decide +kernel⟩, List.mem_of_getElem? (i := 1405) (by decide +kernel), List.mem_of_getElem? (i := 1984) (by decide +kernel), List.mem_of_getElem? (i := 1985) (by decide +kernel)⟩
theorem lw_p107 : lw_okq (⟨"NewsCowsModel", "behind", "()Z"⟩, 49) := ⟨⟨by decide +kernel, by decide +kernel⟩, List.mem_of_getElem? (i := 1405) (by decide +kernel), List.mem_of_getElem? (i := 1988) (by decide +kernel), List.mem_of_getElem? (i := 1989) (by decide +kernel)⟩
theorem lw_p108 : lw_okq (⟨"NewsCowsModel", "operand", "()Z"⟩, 49) := ⟨⟨by decide +kernel, by decide +kernel⟩, List.mem_of_getElem? (i := 1405) (by decide +kernel), List.mem_of_getElem? (i := 1992) (by decide +kernel), List.mem_of_getElem? (i := 1993) (by decide +kernel)⟩
theorem lw_p109 : lw_okq (⟨"NewsCowsModel", "leafOf", "()I"⟩, 49) := ⟨⟨by decide +kernel, by decide +kernel⟩, List.mem_of_getElem? (i := 1405) (by decide +kernel), List.mem_of_getElem? (i := 1996) (by decide +kernel), List.mem_of_getElem? (i := 1997) (by decide +kernel)⟩
theorem lw_p110 : lw_okq (⟨"NewsCowsModel", "isSaid", "(I)Z"⟩, 49) := ⟨⟨by decide +kernel, by decide +kernel⟩, List.mem_of_getElem? (i := 1405) (by decide +kernel), List.mem_of_getElem? (i := 2004) (by decide +kernel), List.mem_of_getElem? (i := 2005) (by decide +kernel)⟩
theorem lw_p111 : lw_okq (⟨"NewsCowsModel", "isLeaf", "(IIII)Z"⟩, 49) := ⟨⟨by decide +kernel, by decide +kernel⟩, List.mem_of_getElem? (i := 1405) (by decide +kernel), List.mem_of_getElem? (i := 2008) (by decide +kernel), List.mem_of_getElem? (i := 2009) (by decide +kernel)⟩
def lw_privs_7 : List (MethodName × Nat) := [(⟨"NewsCowsModel", "back", "()V"⟩, 49), (⟨"NewsCowsModel", "comes", "(III)Z"⟩, 49), (⟨"NewsCowsModel", "octet", "(I)I"⟩, 49), (⟨"NewsCowsModel", "isPast", "(I)Z"⟩, 49), (⟨"NewsCowsModel", "draws", "(II)I"⟩, 49), (⟨"NewsCowsModel", "draw", "(I)I"⟩, 49), (⟨"NewsCowsModel", "bookLine", "()Z"⟩, 49), (⟨"NewsCowsModel", "does", "(III)I"⟩, 49), (⟨"NewsCowsModel", "nots", "()V"⟩, 49), (⟨"NewsCowsModel", "code", "(III)V"⟩, 49), (⟨"NewsCowsModel", "joins", "(I)V"⟩, 49), (⟨"NewsCowsModel", "behind", "()Z"⟩, 49), (⟨"NewsCowsModel", "operand", "()Z"⟩, 49), (⟨"NewsCowsModel", "leafOf", "()I"⟩, 49), (⟨"NewsCowsModel", "isSaid", "(I)Z"⟩, 49), (⟨"NewsCowsModel", "isLeaf", "(IIII)Z"⟩, 49)]
theorem lw_r7 : ∀ q ∈ lw_privs_7, lw_okq q := List.forall_mem_cons.mpr ⟨lw_p96, List.forall_mem_cons.mpr ⟨lw_p97, List.forall_mem_cons.mpr ⟨lw_p98, List.forall_mem_cons.mpr ⟨lw_p99, List.forall_mem_cons.mpr ⟨lw_p100, List.forall_mem_cons.mpr ⟨lw_p101, List.forall_mem_cons.mpr ⟨lw_p102, List.forall_mem_cons.mpr ⟨lw_p103, List.forall_mem_cons.mpr ⟨lw_p104, List.forall_mem_cons.mpr ⟨lw_p105, List.forall_mem_cons.mpr ⟨lw_p106, List.forall_mem_cons.mpr ⟨lw_p107, List.forall_mem_cons.mpr ⟨lw_p108, List.forall_mem_cons.mpr ⟨lw_p109, List.forall_mem_cons.mpr ⟨lw_p110, List.forall_mem_cons.mpr ⟨lw_p111, fun _ h => absurd h List.not_mem_nil⟩⟩⟩⟩⟩⟩⟩⟩⟩⟩⟩⟩⟩⟩⟩⟩
def lw_privs : List (MethodName × Nat) := lw_privs_1 ++ (lw_privs_2 ++ (lw_privs_3 ++ (lw_privs_4 ++ (lw_privs_5 ++ (lw_privs_6 ++ (lw_privs_7))))))
def lw_tbl : List Cond := k2_sels lw_privs ++ tables_1
theorem lw_privs_ok : ∀ q ∈ lw_privs, lw_okq q := by
  show ∀ q ∈ lw_privs_1 ++ (lw_privs_2 ++ (lw_privs_3 ++ (lw_privs_4 ++ (lw_privs_5 ++ (lw_privs_6 ++ (lw_privs_7)))))), lw_okq q
  exact List.forall_mem_append.mpr ⟨lw_r1, List.forall_mem_append.mpr ⟨lw_r2, List.forall_mem_append.mpr ⟨lw_r3, List.forall_mem_append.mpr ⟨lw_r4, List.forall_mem_append.mpr ⟨lw_r5, List.forall_mem_append.mpr ⟨lw_r6, lw_r7⟩⟩⟩⟩⟩⟩
end
section
def RX0 : String := "NewsCows$Book"
def TX0 : u_T := fun k => match k with
  | 0 => ("NewsCows$Book", "act", "[I", true)
  | 1 => ("NewsCows$Book", "who", "[I", true)
  | 2 => ("NewsCows$Book", "what", "[I", true)
  | 3 => ("NewsCows$Book", "lines", "I", false)
  | 4 => ("NewsCows$Book", "isJudged", "Z", false)
  | 5 => ("NewsCows$Book", "whyWrong", "I", false)
  | 6 => ("NewsCows$Book", "rightLines", "I", false)
  | 7 => ("NewsCows$Book", "dayThen", "I", false)
  | _ => ("NewsCows$Book", "dryThen", "I", false)
def tyX0 : Nat → FieldType := fun k => match k with
  | 0 => .array .int
  | 1 => .array .int
  | 2 => .array .int
  | 3 => .int
  | 4 => .boolean
  | 5 => .int
  | 6 => .int
  | 7 => .int
  | _ => .int
abbrev wsX00 : List Cond := u_ws RX0 TX0 9
theorem nmX0 : ∀ a, a < 9 → ∀ b, b < 9 → a ≠ b → (TX0 a).2.1 ≠ (TX0 b).2.1 := by decide +kernel
theorem tyX0_ok : ∀ k, k < 9 → parseFieldDescriptor (TX0 k).2.2.1 = some (tyX0 k) := by decide +kernel
abbrev cX0_init : ByteArray := prog_2_method_1_code
def yX0_init : MethodName := ⟨RX0, "<init>", "()V"⟩
abbrev cX0_read : ByteArray := prog_2_method_2_code
def yX0_read : MethodName := ⟨RX0, "read", "(LNewsCows$Tape;LNewsCows$Dairy;)Z"⟩
abbrev cX0_readLine : ByteArray := prog_2_method_3_code
def yX0_readLine : MethodName := ⟨RX0, "readLine", "(LNewsCows$Tape;LNewsCows$Dairy;)Z"⟩
abbrev cX0_readArg : ByteArray := prog_2_method_4_code
def yX0_readArg : MethodName := ⟨RX0, "readArg", "(LNewsCows$Tape;LNewsCows$Dairy;I)I"⟩
abbrev cX0_judge : ByteArray := prog_2_method_5_code
def yX0_judge : MethodName := ⟨RX0, "judge", "(LNewsCows$Life;)I"⟩
abbrev cX0_live : ByteArray := prog_2_method_6_code
def yX0_live : MethodName := ⟨RX0, "live", "(LNewsCows$Life;I)I"⟩
def RX1 : String := "NewsCows$Choice"
def TX1 : u_T := fun k => match k with
  | 0 => ("NewsCows$Choice", "dairy", "LNewsCows$Dairy;", true)
  | 1 => ("NewsCows$Choice", "life", "LNewsCows$Life;", true)
  | 2 => ("NewsCows$Choice", "adds", "[I", true)
  | 3 => ("NewsCows$Choice", "setsWith", "[I", true)
  | 4 => ("NewsCows$Choice", "free", "I", false)
  | 5 => ("NewsCows$Choice", "room", "I", false)
  | 6 => ("NewsCows$Choice", "sum", "I", false)
  | 7 => ("NewsCows$Choice", "isCurdled", "Z", false)
  | 8 => ("NewsCows$Choice", "chosen", "I", false)
  | 9 => ("NewsCows$Choice", "sure", "I", false)
  | _ => ("NewsCows$Choice", "asked", "I", false)
def tyX1 : Nat → FieldType := fun k => match k with
  | 0 => .object "NewsCows$Dairy"
  | 1 => .object "NewsCows$Life"
  | 2 => .array .int
  | 3 => .array .int
  | 4 => .int
  | 5 => .int
  | 6 => .int
  | 7 => .boolean
  | 8 => .int
  | 9 => .int
  | _ => .int
abbrev wsX10 : List Cond := u_ws RX1 TX1 11
theorem nmX1 : ∀ a, a < 11 → ∀ b, b < 11 → a ≠ b → (TX1 a).2.1 ≠ (TX1 b).2.1 := by decide +kernel
theorem tyX1_ok : ∀ k, k < 11 → parseFieldDescriptor (TX1 k).2.2.1 = some (tyX1 k) := by decide +kernel
abbrev cX1_init : ByteArray := prog_3_method_1_code
def yX1_init : MethodName := ⟨RX1, "<init>", "(LNewsCows$Dairy;LNewsCows$Life;)V"⟩
abbrev cX1_most : ByteArray := prog_3_method_2_code
def yX1_most : MethodName := ⟨RX1, "most", "(I)I"⟩
abbrev cX1_mostWithoutLies : ByteArray := prog_3_method_3_code
def yX1_mostWithoutLies : MethodName := ⟨RX1, "mostWithoutLies", "(I)I"⟩
abbrev cX1_lookAt : ByteArray := prog_3_method_4_code
def yX1_lookAt : MethodName := ⟨RX1, "lookAt", "(I)V"⟩
abbrev cX1_milkBy : ByteArray := prog_3_method_5_code
def yX1_milkBy : MethodName := ⟨RX1, "milkBy", "(I)I"⟩
abbrev cX1_setAfter : ByteArray := prog_3_method_6_code
def yX1_setAfter : MethodName := ⟨RX1, "setAfter", "(II)I"⟩
abbrev cX1_bestOf : ByteArray := prog_3_method_7_code
def yX1_bestOf : MethodName := ⟨RX1, "bestOf", "(I)I"⟩
abbrev cX1_fewestLies : ByteArray := prog_3_method_8_code
def yX1_fewestLies : MethodName := ⟨RX1, "fewestLies", "(II)I"⟩
abbrev cX1_isLess : ByteArray := prog_3_method_9_code
def yX1_isLess : MethodName := ⟨RX1, "isLess", "(II)Z"⟩
abbrev cX1_setsThatGive : ByteArray := prog_3_method_10_code
def yX1_setsThatGive : MethodName := ⟨RX1, "setsThatGive", "(II)I"⟩
abbrev cX1_countNews : ByteArray := prog_3_method_11_code
def yX1_countNews : MethodName := ⟨RX1, "countNews", "(I)V"⟩
abbrev cX1_mostEven : ByteArray := prog_3_method_12_code
def yX1_mostEven : MethodName := ⟨RX1, "mostEven", "(I)I"⟩
def RX2 : String := "NewsCows$Dairy"
def TX2 : u_T := fun k => match k with
  | 0 => ("NewsCows$Dairy", "lines", "I", false)
  | 1 => ("NewsCows$Dairy", "farms", "I", false)
  | 2 => ("NewsCows$Dairy", "cows", "I", false)
  | 3 => ("NewsCows$Dairy", "news", "I", false)
  | 4 => ("NewsCows$Dairy", "hedges", "I", false)
  | 5 => ("NewsCows$Dairy", "hears", "I", false)
  | 6 => ("NewsCows$Dairy", "lies", "I", false)
  | 7 => ("NewsCows$Dairy", "wars", "I", false)
  | 8 => ("NewsCows$Dairy", "names", "[J", true)
  | 9 => ("NewsCows$Dairy", "herd", "[I", true)
  | 10 => ("NewsCows$Dairy", "farmOf", "[I", true)
  | 11 => ("NewsCows$Dairy", "gives", "[I", true)
  | 12 => ("NewsCows$Dairy", "trust", "[I", true)
  | 13 => ("NewsCows$Dairy", "keeps", "[I", true)
  | 14 => ("NewsCows$Dairy", "kind", "[I", true)
  | 15 => ("NewsCows$Dairy", "worth", "[I", true)
  | 16 => ("NewsCows$Dairy", "oneSide", "[I", true)
  | 17 => ("NewsCows$Dairy", "otherSide", "[I", true)
  | _ => ("NewsCows$Dairy", "every", "[I", true)
def tyX2 : Nat → FieldType := fun k => match k with
  | 0 => .int
  | 1 => .int
  | 2 => .int
  | 3 => .int
  | 4 => .int
  | 5 => .int
  | 6 => .int
  | 7 => .int
  | 8 => .array .long
  | 9 => .array .int
  | 10 => .array .int
  | 11 => .array .int
  | 12 => .array .int
  | 13 => .array .int
  | 14 => .array .int
  | 15 => .array .int
  | 16 => .array .int
  | 17 => .array .int
  | _ => .array .int
abbrev wsX20 : List Cond := u_ws RX2 TX2 19
theorem nmX2 : ∀ a, a < 19 → ∀ b, b < 19 → a ≠ b → (TX2 a).2.1 ≠ (TX2 b).2.1 := by decide +kernel
theorem tyX2_ok : ∀ k, k < 19 → parseFieldDescriptor (TX2 k).2.2.1 = some (tyX2 k) := by decide +kernel
abbrev cX2_init : ByteArray := prog_4_method_1_code
def yX2_init : MethodName := ⟨RX2, "<init>", "()V"⟩
abbrev cX2_clear : ByteArray := prog_4_method_2_code
def yX2_clear : MethodName := ⟨RX2, "clear", "()V"⟩
abbrev cX2_copyFrom : ByteArray := prog_4_method_3_code
def yX2_copyFrom : MethodName := ⟨RX2, "copyFrom", "(LNewsCows$Dairy;)V"⟩
abbrev cX2_isLie : ByteArray := prog_4_method_4_code
def yX2_isLie : MethodName := ⟨RX2, "isLie", "(I)Z"⟩
abbrev cX2_allCows : ByteArray := prog_4_method_5_code
def yX2_allCows : MethodName := ⟨RX2, "allCows", "()I"⟩
abbrev cX2_allNews : ByteArray := prog_4_method_6_code
def yX2_allNews : MethodName := ⟨RX2, "allNews", "()I"⟩
abbrev cX2_slotOf : ByteArray := prog_4_method_7_code
def yX2_slotOf : MethodName := ⟨RX2, "slotOf", "(J)I"⟩
abbrev cX2_nextNewName : ByteArray := prog_4_method_8_code
def yX2_nextNewName : MethodName := ⟨RX2, "nextNewName", "(LNewsCows$Tape;I)Z"⟩
abbrev cX2_named : ByteArray := prog_4_method_9_code
def yX2_named : MethodName := ⟨RX2, "named", "(LNewsCows$Tape;II)I"⟩
abbrev cX2_hedgesOf : ByteArray := prog_4_method_10_code
def yX2_hedgesOf : MethodName := ⟨RX2, "hedgesOf", "(I)I"⟩
abbrev cX2_hasHedge : ByteArray := prog_4_method_11_code
def yX2_hasHedge : MethodName := ⟨RX2, "hasHedge", "(II)Z"⟩
abbrev cX2_fewestBetween : ByteArray := prog_4_method_12_code
def yX2_fewestBetween : MethodName := ⟨RX2, "fewestBetween", "(II)I"⟩
abbrev cX2_comesTo : ByteArray := prog_4_method_13_code
def yX2_comesTo : MethodName := ⟨RX2, "comesTo", "(III)Z"⟩
def RX3 : String := "NewsCows$DairyReader"
def TX3 : u_T := fun k => match k with
  | 0 => ("NewsCows$DairyReader", "tape", "LNewsCows$Tape;", true)
  | 1 => ("NewsCows$DairyReader", "dairy", "LNewsCows$Dairy;", true)
  | _ => ("NewsCows$DairyReader", "isHearsTold", "Z", false)
def tyX3 : Nat → FieldType := fun k => match k with
  | 0 => .object "NewsCows$Tape"
  | 1 => .object "NewsCows$Dairy"
  | _ => .boolean
abbrev wsX30 : List Cond := u_ws RX3 TX3 3
theorem nmX3 : ∀ a, a < 3 → ∀ b, b < 3 → a ≠ b → (TX3 a).2.1 ≠ (TX3 b).2.1 := by decide +kernel
theorem tyX3_ok : ∀ k, k < 3 → parseFieldDescriptor (TX3 k).2.2.1 = some (tyX3 k) := by decide +kernel
abbrev cX3_init : ByteArray := prog_5_method_1_code
def yX3_init : MethodName := ⟨RX3, "<init>", "(LNewsCows$Tape;LNewsCows$Dairy;)V"⟩
abbrev cX3_read : ByteArray := prog_5_method_2_code
def yX3_read : MethodName := ⟨RX3, "read", "()Z"⟩
abbrev cX3_readLine : ByteArray := prog_5_method_3_code
def yX3_readLine : MethodName := ⟨RX3, "readLine", "()Z"⟩
abbrev cX3_readFarm : ByteArray := prog_5_method_4_code
def yX3_readFarm : MethodName := ⟨RX3, "readFarm", "()Z"⟩
abbrev cX3_readCow : ByteArray := prog_5_method_5_code
def yX3_readCow : MethodName := ⟨RX3, "readCow", "()Z"⟩
abbrev cX3_readNews : ByteArray := prog_5_method_6_code
def yX3_readNews : MethodName := ⟨RX3, "readNews", "()Z"⟩
abbrev cX3_readHedge : ByteArray := prog_5_method_7_code
def yX3_readHedge : MethodName := ⟨RX3, "readHedge", "()Z"⟩
abbrev cX3_readHears : ByteArray := prog_5_method_8_code
def yX3_readHears : MethodName := ⟨RX3, "readHears", "()Z"⟩
def RX4 : String := "NewsCows$Draws"
def TX4 : u_T := fun k => match k with
  | _ => ("NewsCows$Draws", "seed", "I", false)
def tyX4 : Nat → FieldType := fun k => match k with
  | _ => .int
abbrev wsX40 : List Cond := u_ws RX4 TX4 1
theorem nmX4 : ∀ a, a < 1 → ∀ b, b < 1 → a ≠ b → (TX4 a).2.1 ≠ (TX4 b).2.1 := by decide +kernel
theorem tyX4_ok : ∀ k, k < 1 → parseFieldDescriptor (TX4 k).2.2.1 = some (tyX4 k) := by decide +kernel
abbrev cX4_init : ByteArray := prog_6_method_1_code
def yX4_init : MethodName := ⟨RX4, "<init>", "()V"⟩
abbrev cX4_draw : ByteArray := prog_6_method_2_code
def yX4_draw : MethodName := ⟨RX4, "draw", "(I)I"⟩
abbrev cX4_tellAndFind : ByteArray := prog_6_method_3_code
def yX4_tellAndFind : MethodName := ⟨RX4, "tellAndFind", "(LNewsCows$Life;)V"⟩
def RX5 : String := "NewsCows$History"
def TX5 : u_T := fun k => match k with
  | 0 => ("NewsCows$History", "kept", "[LNewsCows$Life;", true)
  | 1 => ("NewsCows$History", "newest", "I", false)
  | _ => ("NewsCows$History", "size", "I", false)
def tyX5 : Nat → FieldType := fun k => match k with
  | 0 => .array (.object "NewsCows$Life")
  | 1 => .int
  | _ => .int
abbrev wsX50 : List Cond := u_ws RX5 TX5 3
theorem nmX5 : ∀ a, a < 3 → ∀ b, b < 3 → a ≠ b → (TX5 a).2.1 ≠ (TX5 b).2.1 := by decide +kernel
theorem tyX5_ok : ∀ k, k < 3 → parseFieldDescriptor (TX5 k).2.2.1 = some (tyX5 k) := by decide +kernel
abbrev cX5_init : ByteArray := prog_7_method_1_code
def yX5_init : MethodName := ⟨RX5, "<init>", "(LNewsCows$Dairy;)V"⟩
abbrev cX5_clear : ByteArray := prog_7_method_2_code
def yX5_clear : MethodName := ⟨RX5, "clear", "()V"⟩
abbrev cX5_keep : ByteArray := prog_7_method_3_code
def yX5_keep : MethodName := ⟨RX5, "keep", "(LNewsCows$Life;)V"⟩
abbrev cX5_takeBack : ByteArray := prog_7_method_4_code
def yX5_takeBack : MethodName := ⟨RX5, "takeBack", "(LNewsCows$Life;)I"⟩
def RX6 : String := "NewsCows$Image"
def TX6 : u_T := fun k => match k with
  | 0 => ("NewsCows$Image", "isKept", "Z", false)
  | 1 => ("NewsCows$Image", "dairy", "LNewsCows$Dairy;", true)
  | 2 => ("NewsCows$Image", "life", "LNewsCows$Life;", true)
  | _ => ("NewsCows$Image", "sentence", "LNewsCows$Sentence;", true)
def tyX6 : Nat → FieldType := fun k => match k with
  | 0 => .boolean
  | 1 => .object "NewsCows$Dairy"
  | 2 => .object "NewsCows$Life"
  | _ => .object "NewsCows$Sentence"
abbrev wsX60 : List Cond := u_ws RX6 TX6 4
theorem nmX6 : ∀ a, a < 4 → ∀ b, b < 4 → a ≠ b → (TX6 a).2.1 ≠ (TX6 b).2.1 := by decide +kernel
theorem tyX6_ok : ∀ k, k < 4 → parseFieldDescriptor (TX6 k).2.2.1 = some (tyX6 k) := by decide +kernel
abbrev cX6_init : ByteArray := prog_8_method_1_code
def yX6_init : MethodName := ⟨RX6, "<init>", "()V"⟩
def RX7 : String := "NewsCows$Life"
def TX7 : u_T := fun k => match k with
  | 0 => ("NewsCows$Life", "dairy", "LNewsCows$Dairy;", true)
  | 1 => ("NewsCows$Life", "day", "I", false)
  | 2 => ("NewsCows$Life", "tells", "I", false)
  | 3 => ("NewsCows$Life", "dry", "I", false)
  | 4 => ("NewsCows$Life", "found", "I", false)
  | 5 => ("NewsCows$Life", "came", "[I", true)
  | 6 => ("NewsCows$Life", "knows", "[I", true)
  | 7 => ("NewsCows$Life", "heard", "[I", true)
  | 8 => ("NewsCows$Life", "stale", "[I", true)
  | 9 => ("NewsCows$Life", "heardBefore", "[I", true)
  | 10 => ("NewsCows$Life", "warDay", "[I", true)
  | 11 => ("NewsCows$Life", "doubts", "[I", true)
  | 12 => ("NewsCows$Life", "gave", "[I", true)
  | 13 => ("NewsCows$Life", "pails", "[I", true)
  | 14 => ("NewsCows$Life", "lately", "[I", true)
  | 15 => ("NewsCows$Life", "farmKnows", "[I", true)
  | _ => ("NewsCows$Life", "farmLearns", "[I", true)
def tyX7 : Nat → FieldType := fun k => match k with
  | 0 => .object "NewsCows$Dairy"
  | 1 => .int
  | 2 => .int
  | 3 => .int
  | 4 => .int
  | 5 => .array .int
  | 6 => .array .int
  | 7 => .array .int
  | 8 => .array .int
  | 9 => .array .int
  | 10 => .array .int
  | 11 => .array .int
  | 12 => .array .int
  | 13 => .array .int
  | 14 => .array .int
  | 15 => .array .int
  | _ => .array .int
abbrev wsX70 : List Cond := u_ws RX7 TX7 17
theorem nmX7 : ∀ a, a < 17 → ∀ b, b < 17 → a ≠ b → (TX7 a).2.1 ≠ (TX7 b).2.1 := by decide +kernel
theorem tyX7_ok : ∀ k, k < 17 → parseFieldDescriptor (TX7 k).2.2.1 = some (tyX7 k) := by decide +kernel
abbrev cX7_init : ByteArray := prog_9_method_1_code
def yX7_init : MethodName := ⟨RX7, "<init>", "(LNewsCows$Dairy;)V"⟩
abbrev cX7_clear : ByteArray := prog_9_method_2_code
def yX7_clear : MethodName := ⟨RX7, "clear", "()V"⟩
abbrev cX7_copyFrom : ByteArray := prog_9_method_3_code
def yX7_copyFrom : MethodName := ⟨RX7, "copyFrom", "(LNewsCows$Life;)V"⟩
abbrev cX7_isDry : ByteArray := prog_9_method_4_code
def yX7_isDry : MethodName := ⟨RX7, "isDry", "(I)Z"⟩
abbrev cX7_isCurdled : ByteArray := prog_9_method_5_code
def yX7_isCurdled : MethodName := ⟨RX7, "isCurdled", "(I)Z"⟩
abbrev cX7_whyNotTold : ByteArray := prog_9_method_6_code
def yX7_whyNotTold : MethodName := ⟨RX7, "whyNotTold", "(II)I"⟩
abbrev cX7_hear : ByteArray := prog_9_method_7_code
def yX7_hear : MethodName := ⟨RX7, "hear", "(II)V"⟩
abbrev cX7_comes : ByteArray := prog_9_method_8_code
def yX7_comes : MethodName := ⟨RX7, "comes", "(II)V"⟩
abbrev cX7_whyNotFound : ByteArray := prog_9_method_9_code
def yX7_whyNotFound : MethodName := ⟨RX7, "whyNotFound", "(I)I"⟩
abbrev cX7_findOut : ByteArray := prog_9_method_10_code
def yX7_findOut : MethodName := ⟨RX7, "findOut", "(I)V"⟩
abbrev cX7_wouldDoubt : ByteArray := prog_9_method_11_code
def yX7_wouldDoubt : MethodName := ⟨RX7, "wouldDoubt", "(II)Z"⟩
abbrev cX7_wouldDry : ByteArray := prog_9_method_12_code
def yX7_wouldDry : MethodName := ⟨RX7, "wouldDry", "(I)I"⟩
abbrev cX7_milk : ByteArray := prog_9_method_13_code
def yX7_milk : MethodName := ⟨RX7, "milk", "(I)I"⟩
abbrev cX7_sumOf : ByteArray := prog_9_method_14_code
def yX7_sumOf : MethodName := ⟨RX7, "sumOf", "(I)I"⟩
abbrev cX7_addedBy : ByteArray := prog_9_method_15_code
def yX7_addedBy : MethodName := ⟨RX7, "addedBy", "(III)I"⟩
abbrev cX7_heardByOthers : ByteArray := prog_9_method_16_code
def yX7_heardByOthers : MethodName := ⟨RX7, "heardByOthers", "(I)I"⟩
abbrev cX7_goDays : ByteArray := prog_9_method_17_code
def yX7_goDays : MethodName := ⟨RX7, "goDays", "(I)I"⟩
abbrev cX7_fillPails : ByteArray := prog_9_method_18_code
def yX7_fillPails : MethodName := ⟨RX7, "fillPails", "()V"⟩
abbrev cX7_talking : ByteArray := prog_9_method_19_code
def yX7_talking : MethodName := ⟨RX7, "talking", "()I"⟩
abbrev cX7_talk : ByteArray := prog_9_method_20_code
def yX7_talk : MethodName := ⟨RX7, "talk", "()V"⟩
abbrev cX7_allComes : ByteArray := prog_9_method_21_code
def yX7_allComes : MethodName := ⟨RX7, "allComes", "(II)V"⟩
abbrev cX7_turn : ByteArray := prog_9_method_22_code
def yX7_turn : MethodName := ⟨RX7, "turn", "()V"⟩
abbrev cX7_forget : ByteArray := prog_9_method_23_code
def yX7_forget : MethodName := ⟨RX7, "forget", "(I)V"⟩
abbrev cX7_allPails : ByteArray := prog_9_method_24_code
def yX7_allPails : MethodName := ⟨RX7, "allPails", "()I"⟩
abbrev cX7_pailsOn : ByteArray := prog_9_method_25_code
def yX7_pailsOn : MethodName := ⟨RX7, "pailsOn", "(II)I"⟩
def RX8 : String := "NewsCows$Planner"
def TX8 : u_T := fun k => match k with
  | 0 => ("NewsCows$Planner", "dairy", "LNewsCows$Dairy;", true)
  | 1 => ("NewsCows$Planner", "secondDay", "LNewsCows$Life;", true)
  | 2 => ("NewsCows$Planner", "thirdDay", "LNewsCows$Life;", true)
  | 3 => ("NewsCows$Planner", "path", "[I", true)
  | 4 => ("NewsCows$Planner", "planned", "[I", true)
  | 5 => ("NewsCows$Planner", "plannedDays", "I", false)
  | _ => ("NewsCows$Planner", "most", "I", false)
def tyX8 : Nat → FieldType := fun k => match k with
  | 0 => .object "NewsCows$Dairy"
  | 1 => .object "NewsCows$Life"
  | 2 => .object "NewsCows$Life"
  | 3 => .array .int
  | 4 => .array .int
  | 5 => .int
  | _ => .int
abbrev wsX80 : List Cond := u_ws RX8 TX8 7
theorem nmX8 : ∀ a, a < 7 → ∀ b, b < 7 → a ≠ b → (TX8 a).2.1 ≠ (TX8 b).2.1 := by decide +kernel
theorem tyX8_ok : ∀ k, k < 7 → parseFieldDescriptor (TX8 k).2.2.1 = some (tyX8 k) := by decide +kernel
abbrev cX8_init : ByteArray := prog_10_method_1_code
def yX8_init : MethodName := ⟨RX8, "<init>", "(LNewsCows$Dairy;)V"⟩
abbrev cX8_seek : ByteArray := prog_10_method_2_code
def yX8_seek : MethodName := ⟨RX8, "seek", "(LNewsCows$Life;II)I"⟩
abbrev cX8_go : ByteArray := prog_10_method_3_code
def yX8_go : MethodName := ⟨RX8, "go", "(LNewsCows$Life;III)V"⟩
abbrev cX8_goLast : ByteArray := prog_10_method_4_code
def yX8_goLast : MethodName := ⟨RX8, "goLast", "(LNewsCows$Life;III)V"⟩
abbrev cX8_weigh : ByteArray := prog_10_method_5_code
def yX8_weigh : MethodName := ⟨RX8, "weigh", "(I)V"⟩
def RX9 : String := "NewsCows$Sentence"
def TX9 : u_T := fun k => match k with
  | 0 => ("NewsCows$Sentence", "step", "[I", true)
  | 1 => ("NewsCows$Sentence", "sign", "[I", true)
  | 2 => ("NewsCows$Sentence", "arg", "[I", true)
  | 3 => ("NewsCows$Sentence", "size", "I", false)
  | _ => ("NewsCows$Sentence", "ones", "I", false)
def tyX9 : Nat → FieldType := fun k => match k with
  | 0 => .array .int
  | 1 => .array .int
  | 2 => .array .int
  | 3 => .int
  | _ => .int
abbrev wsX90 : List Cond := u_ws RX9 TX9 5
theorem nmX9 : ∀ a, a < 5 → ∀ b, b < 5 → a ≠ b → (TX9 a).2.1 ≠ (TX9 b).2.1 := by decide +kernel
theorem tyX9_ok : ∀ k, k < 5 → parseFieldDescriptor (TX9 k).2.2.1 = some (tyX9 k) := by decide +kernel
abbrev cX9_init : ByteArray := prog_11_method_1_code
def yX9_init : MethodName := ⟨RX9, "<init>", "()V"⟩
abbrev cX9_clear : ByteArray := prog_11_method_2_code
def yX9_clear : MethodName := ⟨RX9, "clear", "()V"⟩
abbrev cX9_copyFrom : ByteArray := prog_11_method_3_code
def yX9_copyFrom : MethodName := ⟨RX9, "copyFrom", "(LNewsCows$Sentence;)V"⟩
abbrev cX9_read : ByteArray := prog_11_method_4_code
def yX9_read : MethodName := ⟨RX9, "read", "(LNewsCows$Tape;LNewsCows$Dairy;)Z"⟩
abbrev cX9_readCond : ByteArray := prog_11_method_5_code
def yX9_readCond : MethodName := ⟨RX9, "readCond", "(LNewsCows$Tape;LNewsCows$Dairy;I)Z"⟩
abbrev cX9_readAll : ByteArray := prog_11_method_6_code
def yX9_readAll : MethodName := ⟨RX9, "readAll", "(LNewsCows$Tape;LNewsCows$Dairy;I)Z"⟩
abbrev cX9_readOne : ByteArray := prog_11_method_7_code
def yX9_readOne : MethodName := ⟨RX9, "readOne", "(LNewsCows$Tape;LNewsCows$Dairy;I)Z"⟩
abbrev cX9_readPlainOne : ByteArray := prog_11_method_8_code
def yX9_readPlainOne : MethodName := ⟨RX9, "readPlainOne", "(LNewsCows$Tape;LNewsCows$Dairy;I)Z"⟩
abbrev cX9_put : ByteArray := prog_11_method_9_code
def yX9_put : MethodName := ⟨RX9, "put", "(III)V"⟩
abbrev cX9_holds : ByteArray := prog_11_method_10_code
def yX9_holds : MethodName := ⟨RX9, "holds", "(LNewsCows$Life;I)Z"⟩
abbrev cX9_isSo : ByteArray := prog_11_method_11_code
def yX9_isSo : MethodName := ⟨RX9, "isSo", "(LNewsCows$Life;II)Z"⟩
abbrev cX9_compares : ByteArray := prog_11_method_12_code
def yX9_compares : MethodName := ⟨RX9, "compares", "(II)Z"⟩
def RX10 : String := "NewsCows$Tape"
def TX10 : u_T := fun k => match k with
  | 0 => ("NewsCows$Tape", "bytes", "[B", true)
  | 1 => ("NewsCows$Tape", "size", "I", false)
  | 2 => ("NewsCows$Tape", "words", "[J", true)
  | 3 => ("NewsCows$Tape", "places", "[I", true)
  | 4 => ("NewsCows$Tape", "kinds", "[I", true)
  | 5 => ("NewsCows$Tape", "values", "[I", true)
  | 6 => ("NewsCows$Tape", "spellings", "[J", true)
  | 7 => ("NewsCows$Tape", "tokens", "I", false)
  | 8 => ("NewsCows$Tape", "ahead", "I", false)
  | 9 => ("NewsCows$Tape", "isTooLong", "Z", false)
  | 10 => ("NewsCows$Tape", "place", "I", false)
  | 11 => ("NewsCows$Tape", "kind", "I", false)
  | 12 => ("NewsCows$Tape", "value", "I", false)
  | 13 => ("NewsCows$Tape", "spelling", "J", false)
  | 14 => ("NewsCows$Tape", "fault", "I", false)
  | _ => ("NewsCows$Tape", "faultPlace", "I", false)
def tyX10 : Nat → FieldType := fun k => match k with
  | 0 => .array .byte
  | 1 => .int
  | 2 => .array .long
  | 3 => .array .int
  | 4 => .array .int
  | 5 => .array .int
  | 6 => .array .long
  | 7 => .int
  | 8 => .int
  | 9 => .boolean
  | 10 => .int
  | 11 => .int
  | 12 => .int
  | 13 => .long
  | 14 => .int
  | _ => .int
abbrev wsX100 : List Cond := u_ws RX10 TX10 16
theorem nmX10 : ∀ a, a < 16 → ∀ b, b < 16 → a ≠ b → (TX10 a).2.1 ≠ (TX10 b).2.1 := by decide +kernel
theorem tyX10_ok : ∀ k, k < 16 → parseFieldDescriptor (TX10 k).2.2.1 = some (tyX10 k) := by decide +kernel
abbrev cX10_init : ByteArray := prog_12_method_1_code
def yX10_init : MethodName := ⟨RX10, "<init>", "()V"⟩
abbrev cX10_withLetter : ByteArray := prog_12_method_2_code
def yX10_withLetter : MethodName := ⟨RX10, "withLetter", "(JI)J"⟩
abbrev cX10_isLetter : ByteArray := prog_12_method_3_code
def yX10_isLetter : MethodName := ⟨RX10, "isLetter", "(I)Z"⟩
abbrev cX10_isDigit : ByteArray := prog_12_method_4_code
def yX10_isDigit : MethodName := ⟨RX10, "isDigit", "(I)Z"⟩
abbrev cX10_append : ByteArray := prog_12_method_5_code
def yX10_append : MethodName := ⟨RX10, "append", "(I)V"⟩
abbrev cX10_at : ByteArray := prog_12_method_6_code
def yX10_at : MethodName := ⟨RX10, "at", "(I)I"⟩
abbrev cX10_start : ByteArray := prog_12_method_7_code
def yX10_start : MethodName := ⟨RX10, "start", "(I)V"⟩
abbrev cX10_addRun : ByteArray := prog_12_method_8_code
def yX10_addRun : MethodName := ⟨RX10, "addRun", "(I)I"⟩
abbrev cX10_toldWord : ByteArray := prog_12_method_9_code
def yX10_toldWord : MethodName := ⟨RX10, "toldWord", "(J)I"⟩
abbrev cX10_add : ByteArray := prog_12_method_10_code
def yX10_add : MethodName := ⟨RX10, "add", "(IIIJ)V"⟩
abbrev cX10_next : ByteArray := prog_12_method_11_code
def yX10_next : MethodName := ⟨RX10, "next", "()V"⟩
abbrev cX10_fail : ByteArray := prog_12_method_12_code
def yX10_fail : MethodName := ⟨RX10, "fail", "(I)Z"⟩
abbrev cX10_word : ByteArray := prog_12_method_13_code
def yX10_word : MethodName := ⟨RX10, "word", "()I"⟩
abbrev cX10_isSign : ByteArray := prog_12_method_14_code
def yX10_isSign : MethodName := ⟨RX10, "isSign", "(I)Z"⟩
abbrev cX10_mustBeSign : ByteArray := prog_12_method_15_code
def yX10_mustBeSign : MethodName := ⟨RX10, "mustBeSign", "(I)Z"⟩
abbrev cX10_closesLine : ByteArray := prog_12_method_16_code
def yX10_closesLine : MethodName := ⟨RX10, "closesLine", "()Z"⟩
abbrev cX10_nextNumber : ByteArray := prog_12_method_17_code
def yX10_nextNumber : MethodName := ⟨RX10, "nextNumber", "(II)Z"⟩
abbrev cX10_nextLine : ByteArray := prog_12_method_18_code
def yX10_nextLine : MethodName := ⟨RX10, "nextLine", "()Z"⟩
abbrev cX10_mustEnd : ByteArray := prog_12_method_19_code
def yX10_mustEnd : MethodName := ⟨RX10, "mustEnd", "()Z"⟩
def RX11 : String := "NewsCows"
def TX11 : u_T := fun k => match k with
  | 0 => ("NewsCows", "tape", "LNewsCows$Tape;", true)
  | 1 => ("NewsCows", "dairy", "LNewsCows$Dairy;", true)
  | 2 => ("NewsCows", "spareDairy", "LNewsCows$Dairy;", true)
  | 3 => ("NewsCows", "dairyReader", "LNewsCows$DairyReader;", true)
  | 4 => ("NewsCows", "life", "LNewsCows$Life;", true)
  | 5 => ("NewsCows", "trial", "LNewsCows$Life;", true)
  | 6 => ("NewsCows", "history", "LNewsCows$History;", true)
  | 7 => ("NewsCows", "sentenceNow", "LNewsCows$Sentence;", true)
  | 8 => ("NewsCows", "spareSentence", "LNewsCows$Sentence;", true)
  | 9 => ("NewsCows", "bookRead", "LNewsCows$Book;", true)
  | 10 => ("NewsCows", "choice", "LNewsCows$Choice;", true)
  | 11 => ("NewsCows", "planner", "LNewsCows$Planner;", true)
  | 12 => ("NewsCows", "draws", "LNewsCows$Draws;", true)
  | 13 => ("NewsCows", "first", "LNewsCows$Image;", true)
  | 14 => ("NewsCows", "second", "LNewsCows$Image;", true)
  | _ => ("NewsCows", "partedBits", "I", false)
def tyX11 : Nat → FieldType := fun k => match k with
  | 0 => .object "NewsCows$Tape"
  | 1 => .object "NewsCows$Dairy"
  | 2 => .object "NewsCows$Dairy"
  | 3 => .object "NewsCows$DairyReader"
  | 4 => .object "NewsCows$Life"
  | 5 => .object "NewsCows$Life"
  | 6 => .object "NewsCows$History"
  | 7 => .object "NewsCows$Sentence"
  | 8 => .object "NewsCows$Sentence"
  | 9 => .object "NewsCows$Book"
  | 10 => .object "NewsCows$Choice"
  | 11 => .object "NewsCows$Planner"
  | 12 => .object "NewsCows$Draws"
  | 13 => .object "NewsCows$Image"
  | 14 => .object "NewsCows$Image"
  | _ => .int
abbrev wsX110 : List Cond := u_ws RX11 TX11 16
theorem nmX11 : ∀ a, a < 16 → ∀ b, b < 16 → a ≠ b → (TX11 a).2.1 ≠ (TX11 b).2.1 := by decide +kernel
theorem tyX11_ok : ∀ k, k < 16 → parseFieldDescriptor (TX11 k).2.2.1 = some (tyX11 k) := by decide +kernel
abbrev cX11_init : ByteArray := prog_1_method_1_code
def yX11_init : MethodName := ⟨RX11, "<init>", "()V"⟩
abbrev cX11_feed : ByteArray := prog_1_method_2_code
def yX11_feed : MethodName := ⟨RX11, "feed", "(IIIII)I"⟩
abbrev cX11_end : ByteArray := prog_1_method_3_code
def yX11_end : MethodName := ⟨RX11, "end", "(I)Z"⟩
abbrev cX11_dairy : ByteArray := prog_1_method_4_code
def yX11_dairy : MethodName := ⟨RX11, "dairy", "()I"⟩
abbrev cX11_fault : ByteArray := prog_1_method_5_code
def yX11_fault : MethodName := ⟨RX11, "fault", "()I"⟩
abbrev cX11_cow : ByteArray := prog_1_method_6_code
def yX11_cow : MethodName := ⟨RX11, "cow", "(II)I"⟩
abbrev cX11_news : ByteArray := prog_1_method_7_code
def yX11_news : MethodName := ⟨RX11, "news", "(II)I"⟩
abbrev cX11_farm : ByteArray := prog_1_method_8_code
def yX11_farm : MethodName := ⟨RX11, "farm", "(II)I"⟩
abbrev cX11_now : ByteArray := prog_1_method_9_code
def yX11_now : MethodName := ⟨RX11, "now", "(I)I"⟩
abbrev cX11_tell : ByteArray := prog_1_method_10_code
def yX11_tell : MethodName := ⟨RX11, "tell", "(II)I"⟩
abbrev cX11_find : ByteArray := prog_1_method_11_code
def yX11_find : MethodName := ⟨RX11, "find", "(I)I"⟩
abbrev cX11_days : ByteArray := prog_1_method_12_code
def yX11_days : MethodName := ⟨RX11, "days", "(I)I"⟩
abbrev cX11_undo : ByteArray := prog_1_method_13_code
def yX11_undo : MethodName := ⟨RX11, "undo", "()I"⟩
abbrev cX11_why : ByteArray := prog_1_method_14_code
def yX11_why : MethodName := ⟨RX11, "why", "(II)I"⟩
abbrev cX11_best : ByteArray := prog_1_method_15_code
def yX11_best : MethodName := ⟨RX11, "best", "(I)I"⟩
abbrev cX11_least : ByteArray := prog_1_method_16_code
def yX11_least : MethodName := ⟨RX11, "least", "(II)I"⟩
abbrev cX11_told : ByteArray := prog_1_method_17_code
def yX11_told : MethodName := ⟨RX11, "told", "()I"⟩
abbrev cX11_honest : ByteArray := prog_1_method_18_code
def yX11_honest : MethodName := ⟨RX11, "honest", "(I)I"⟩
abbrev cX11_plan : ByteArray := prog_1_method_19_code
def yX11_plan : MethodName := ⟨RX11, "plan", "(II)I"⟩
abbrev cX11_planAt : ByteArray := prog_1_method_20_code
def yX11_planAt : MethodName := ⟨RX11, "planAt", "(I)I"⟩
abbrev cX11_allKnow : ByteArray := prog_1_method_21_code
def yX11_allKnow : MethodName := ⟨RX11, "allKnow", "(I)I"⟩
abbrev cX11_part : ByteArray := prog_1_method_22_code
def yX11_part : MethodName := ⟨RX11, "part", "(II)I"⟩
abbrev cX11_parted : ByteArray := prog_1_method_23_code
def yX11_parted : MethodName := ⟨RX11, "parted", "()I"⟩
abbrev cX11_tasted : ByteArray := prog_1_method_24_code
def yX11_tasted : MethodName := ⟨RX11, "tasted", "(I)I"⟩
abbrev cX11_surely : ByteArray := prog_1_method_25_code
def yX11_surely : MethodName := ⟨RX11, "surely", "()I"⟩
abbrev cX11_ask : ByteArray := prog_1_method_26_code
def yX11_ask : MethodName := ⟨RX11, "ask", "()I"⟩
abbrev cX11_dries : ByteArray := prog_1_method_27_code
def yX11_dries : MethodName := ⟨RX11, "dries", "(I)I"⟩
abbrev cX11_week : ByteArray := prog_1_method_28_code
def yX11_week : MethodName := ⟨RX11, "week", "(I)I"⟩
abbrev cX11_pails : ByteArray := prog_1_method_29_code
def yX11_pails : MethodName := ⟨RX11, "pails", "(II)I"⟩
abbrev cX11_ahead : ByteArray := prog_1_method_30_code
def yX11_ahead : MethodName := ⟨RX11, "ahead", "(I)I"⟩
abbrev cX11_drawn : ByteArray := prog_1_method_31_code
def yX11_drawn : MethodName := ⟨RX11, "drawn", "(II)I"⟩
abbrev cX11_odds : ByteArray := prog_1_method_32_code
def yX11_odds : MethodName := ⟨RX11, "odds", "(III)I"⟩
abbrev cX11_book : ByteArray := prog_1_method_33_code
def yX11_book : MethodName := ⟨RX11, "book", "(I)I"⟩
abbrev cX11_written : ByteArray := prog_1_method_34_code
def yX11_written : MethodName := ⟨RX11, "written", "(I)I"⟩
abbrev cX11_sentence : ByteArray := prog_1_method_35_code
def yX11_sentence : MethodName := ⟨RX11, "sentence", "()I"⟩
abbrev cX11_said : ByteArray := prog_1_method_36_code
def yX11_said : MethodName := ⟨RX11, "said", "(I)I"⟩
abbrev cX11_image : ByteArray := prog_1_method_37_code
def yX11_image : MethodName := ⟨RX11, "image", "(I)Z"⟩
abbrev cX11_restore : ByteArray := prog_1_method_38_code
def yX11_restore : MethodName := ⟨RX11, "restore", "(I)Z"⟩
abbrev cX11_count : ByteArray := prog_1_method_39_code
def yX11_count : MethodName := ⟨RX11, "count", "(I)I"⟩
abbrev cX11_isFarm : ByteArray := prog_1_method_40_code
def yX11_isFarm : MethodName := ⟨RX11, "isFarm", "(I)Z"⟩
abbrev cX11_isCow : ByteArray := prog_1_method_41_code
def yX11_isCow : MethodName := ⟨RX11, "isCow", "(I)Z"⟩
abbrev cX11_isNews : ByteArray := prog_1_method_42_code
def yX11_isNews : MethodName := ⟨RX11, "isNews", "(I)Z"⟩
abbrev cX11_canBeTold : ByteArray := prog_1_method_43_code
def yX11_canBeTold : MethodName := ⟨RX11, "canBeTold", "(I)Z"⟩
abbrev cX11_cowsWith : ByteArray := prog_1_method_44_code
def yX11_cowsWith : MethodName := ⟨RX11, "cowsWith", "([II)I"⟩
abbrev cX11_milkOfFarm : ByteArray := prog_1_method_45_code
def yX11_milkOfFarm : MethodName := ⟨RX11, "milkOfFarm", "(I)I"⟩
abbrev cX11_fits : ByteArray := prog_1_method_46_code
def yX11_fits : MethodName := ⟨RX11, "fits", "(III)Z"⟩
abbrev cX11_driesByDraws : ByteArray := prog_1_method_47_code
def yX11_driesByDraws : MethodName := ⟨RX11, "driesByDraws", "(I)Z"⟩
def RX12 : String := "NewsCowsModel"
def TX12 : u_T := fun k => match k with
  | 0 => ("NewsCowsModel", "thrown", "I", false)
  | 1 => ("NewsCowsModel", "tape", "[B", true)
  | 2 => ("NewsCowsModel", "length", "I", false)
  | 3 => ("NewsCowsModel", "size", "I", false)
  | 4 => ("NewsCowsModel", "p", "I", false)
  | 5 => ("NewsCowsModel", "limit", "I", false)
  | 6 => ("NewsCowsModel", "s", "[I", true)
  | 7 => ("NewsCowsModel", "h", "[I", true)
  | 8 => ("NewsCowsModel", "read", "[I", true)
  | 9 => ("NewsCowsModel", "names", "[J", true)
  | 10 => ("NewsCowsModel", "reserved", "[J", true)
  | 11 => ("NewsCowsModel", "token", "I", false)
  | 12 => ("NewsCowsModel", "at", "I", false)
  | 13 => ("NewsCowsModel", "span", "I", false)
  | 14 => ("NewsCowsModel", "number", "I", false)
  | 15 => ("NewsCowsModel", "fault", "I", false)
  | 16 => ("NewsCowsModel", "faultAt", "I", false)
  | 17 => ("NewsCowsModel", "word", "J", false)
  | 18 => ("NewsCowsModel", "got", "I", false)
  | 19 => ("NewsCowsModel", "lines", "I", false)
  | 20 => ("NewsCowsModel", "hasHears", "Z", false)
  | 21 => ("NewsCowsModel", "talk", "[I", true)
  | 22 => ("NewsCowsModel", "undone", "[I", true)
  | 23 => ("NewsCowsModel", "before", "[I", true)
  | 24 => ("NewsCowsModel", "undoMany", "I", false)
  | 25 => ("NewsCowsModel", "toldSet", "I", false)
  | 26 => ("NewsCowsModel", "hasTold", "Z", false)
  | 27 => ("NewsCowsModel", "planRow", "[I", true)
  | 28 => ("NewsCowsModel", "planMany", "I", false)
  | 29 => ("NewsCowsModel", "partSet", "I", false)
  | 30 => ("NewsCowsModel", "hasPart", "Z", false)
  | 31 => ("NewsCowsModel", "surelySet", "I", false)
  | 32 => ("NewsCowsModel", "askNews", "I", false)
  | 33 => ("NewsCowsModel", "hasTasted", "Z", false)
  | 34 => ("NewsCowsModel", "with", "[I", true)
  | 35 => ("NewsCowsModel", "seed", "I", false)
  | 36 => ("NewsCowsModel", "linesRead", "I", false)
  | 37 => ("NewsCowsModel", "writtenAt", "[I", true)
  | 38 => ("NewsCowsModel", "hasWritten", "Z", false)
  | 39 => ("NewsCowsModel", "stack", "[I", true)
  | 40 => ("NewsCowsModel", "codes", "I", false)
  | 41 => ("NewsCowsModel", "ones", "I", false)
  | 42 => ("NewsCowsModel", "top", "I", false)
  | 43 => ("NewsCowsModel", "deep", "I", false)
  | 44 => ("NewsCowsModel", "isWhole", "Z", false)
  | 45 => ("NewsCowsModel", "truths", "[Z", true)
  | 46 => ("NewsCowsModel", "kept", "[I", true)
  | 47 => ("NewsCowsModel", "namesKept", "[J", true)
  | _ => ("NewsCowsModel", "areKept", "[Z", true)
def tyX12 : Nat → FieldType := fun k => match k with
  | 0 => .int
  | 1 => .array .byte
  | 2 => .int
  | 3 => .int
  | 4 => .int
  | 5 => .int
  | 6 => .array .int
  | 7 => .array .int
  | 8 => .array .int
  | 9 => .array .long
  | 10 => .array .long
  | 11 => .int
  | 12 => .int
  | 13 => .int
  | 14 => .int
  | 15 => .int
  | 16 => .int
  | 17 => .long
  | 18 => .int
  | 19 => .int
  | 20 => .boolean
  | 21 => .array .int
  | 22 => .array .int
  | 23 => .array .int
  | 24 => .int
  | 25 => .int
  | 26 => .boolean
  | 27 => .array .int
  | 28 => .int
  | 29 => .int
  | 30 => .boolean
  | 31 => .int
  | 32 => .int
  | 33 => .boolean
  | 34 => .array .int
  | 35 => .int
  | 36 => .int
  | 37 => .array .int
  | 38 => .boolean
  | 39 => .array .int
  | 40 => .int
  | 41 => .int
  | 42 => .int
  | 43 => .int
  | 44 => .boolean
  | 45 => .array .boolean
  | 46 => .array .int
  | 47 => .array .long
  | _ => .array .boolean
abbrev wsX120 : List Cond := u_ws RX12 TX12 49
theorem nmX12 : ∀ a, a < 49 → ∀ b, b < 49 → a ≠ b → (TX12 a).2.1 ≠ (TX12 b).2.1 := by decide +kernel
theorem tyX12_ok : ∀ k, k < 49 → parseFieldDescriptor (TX12 k).2.2.1 = some (tyX12 k) := by decide +kernel
abbrev cX12_thrown : ByteArray := prog_14_method_1_code
def yX12_thrown : MethodName := ⟨RX12, "thrown", "()I"⟩
abbrev cX12_throwsIf : ByteArray := prog_14_method_2_code
def yX12_throwsIf : MethodName := ⟨RX12, "throwsIf", "(Z)Z"⟩
abbrev cX12_feed : ByteArray := prog_14_method_3_code
def yX12_feed : MethodName := ⟨RX12, "feed", "(IIIII)I"⟩
abbrev cX12_four : ByteArray := prog_14_method_4_code
def yX12_four : MethodName := ⟨RX12, "four", "(I)V"⟩
abbrev cX12_end : ByteArray := prog_14_method_5_code
def yX12_end : MethodName := ⟨RX12, "end", "(I)Z"⟩
abbrev cX12_taken : ByteArray := prog_14_method_6_code
def yX12_taken : MethodName := ⟨RX12, "taken", "(I)V"⟩
abbrev cX12_isIn : ByteArray := prog_14_method_7_code
def yX12_isIn : MethodName := ⟨RX12, "isIn", "(III)Z"⟩
abbrev cX12_bitOf : ByteArray := prog_14_method_8_code
def yX12_bitOf : MethodName := ⟨RX12, "bitOf", "(II)Z"⟩
abbrev cX12_greater : ByteArray := prog_14_method_9_code
def yX12_greater : MethodName := ⟨RX12, "greater", "(II)I"⟩
abbrev cX12_absolute : ByteArray := prog_14_method_10_code
def yX12_absolute : MethodName := ⟨RX12, "absolute", "(I)I"⟩
abbrev cX12_bits : ByteArray := prog_14_method_11_code
def yX12_bits : MethodName := ⟨RX12, "bits", "(I)I"⟩
abbrev cX12_octet : ByteArray := prog_14_method_12_code
def yX12_octet : MethodName := ⟨RX12, "octet", "(I)I"⟩
abbrev cX12_init : ByteArray := prog_14_method_13_code
def yX12_init : MethodName := ⟨RX12, "<init>", "()V"⟩
abbrev cX12_peek : ByteArray := prog_14_method_14_code
def yX12_peek : MethodName := ⟨RX12, "peek", "()I"⟩
abbrev cX12_isSmall : ByteArray := prog_14_method_15_code
def yX12_isSmall : MethodName := ⟨RX12, "isSmall", "(I)Z"⟩
abbrev cX12_isDigit : ByteArray := prog_14_method_16_code
def yX12_isDigit : MethodName := ⟨RX12, "isDigit", "(I)Z"⟩
abbrev cX12_next : ByteArray := prog_14_method_17_code
def yX12_next : MethodName := ⟨RX12, "next", "()V"⟩
abbrev cX12_bad : ByteArray := prog_14_method_18_code
def yX12_bad : MethodName := ⟨RX12, "bad", "(I)Z"⟩
abbrev cX12_isWord : ByteArray := prog_14_method_19_code
def yX12_isWord : MethodName := ⟨RX12, "isWord", "(J)Z"⟩
abbrev cX12_isSign : ByteArray := prog_14_method_20_code
def yX12_isSign : MethodName := ⟨RX12, "isSign", "(I)Z"⟩
abbrev cX12_sign : ByteArray := prog_14_method_21_code
def yX12_sign : MethodName := ⟨RX12, "sign", "(I)Z"⟩
abbrev cX12_isName : ByteArray := prog_14_method_22_code
def yX12_isName : MethodName := ⟨RX12, "isName", "()Z"⟩
abbrev cX12_takes : ByteArray := prog_14_method_23_code
def yX12_takes : MethodName := ⟨RX12, "takes", "(II)Z"⟩
abbrev cX12_puts : ByteArray := prog_14_method_24_code
def yX12_puts : MethodName := ⟨RX12, "puts", "(III)Z"⟩
abbrev cX12_seek : ByteArray := prog_14_method_25_code
def yX12_seek : MethodName := ⟨RX12, "seek", "(II)I"⟩
abbrev cX12_fresh : ByteArray := prog_14_method_26_code
def yX12_fresh : MethodName := ⟨RX12, "fresh", "(I)Z"⟩
abbrev cX12_looksAt : ByteArray := prog_14_method_27_code
def yX12_looksAt : MethodName := ⟨RX12, "looksAt", "(II)Z"⟩
abbrev cX12_takesName : ByteArray := prog_14_method_28_code
def yX12_takesName : MethodName := ⟨RX12, "takesName", "(II)Z"⟩
abbrev cX12_line : ByteArray := prog_14_method_29_code
def yX12_line : MethodName := ⟨RX12, "line", "()Z"⟩
abbrev cX12_kindOf : ByteArray := prog_14_method_30_code
def yX12_kindOf : MethodName := ⟨RX12, "kindOf", "()I"⟩
abbrev cX12_readNews : ByteArray := prog_14_method_31_code
def yX12_readNews : MethodName := ⟨RX12, "readNews", "()Z"⟩
abbrev cX12_readHedge : ByteArray := prog_14_method_32_code
def yX12_readHedge : MethodName := ⟨RX12, "readHedge", "()Z"⟩
abbrev cX12_dairy : ByteArray := prog_14_method_33_code
def yX12_dairy : MethodName := ⟨RX12, "dairy", "()I"⟩
abbrev cX12_fault : ByteArray := prog_14_method_34_code
def yX12_fault : MethodName := ⟨RX12, "fault", "()I"⟩
abbrev cX12_isFarm : ByteArray := prog_14_method_35_code
def yX12_isFarm : MethodName := ⟨RX12, "isFarm", "(I)Z"⟩
abbrev cX12_isCow : ByteArray := prog_14_method_36_code
def yX12_isCow : MethodName := ⟨RX12, "isCow", "(I)Z"⟩
abbrev cX12_isNews : ByteArray := prog_14_method_37_code
def yX12_isNews : MethodName := ⟨RX12, "isNews", "(I)Z"⟩
abbrev cX12_isDry : ByteArray := prog_14_method_38_code
def yX12_isDry : MethodName := ⟨RX12, "isDry", "(I)Z"⟩
abbrev cX12_isLie : ByteArray := prog_14_method_39_code
def yX12_isLie : MethodName := ⟨RX12, "isLie", "(I)Z"⟩
abbrev cX12_knows : ByteArray := prog_14_method_40_code
def yX12_knows : MethodName := ⟨RX12, "knows", "(II)Z"⟩
abbrev cX12_known : ByteArray := prog_14_method_41_code
def yX12_known : MethodName := ⟨RX12, "known", "(I)I"⟩
abbrev cX12_isCurdled : ByteArray := prog_14_method_42_code
def yX12_isCurdled : MethodName := ⟨RX12, "isCurdled", "(I)Z"⟩
abbrev cX12_hasOther : ByteArray := prog_14_method_43_code
def yX12_hasOther : MethodName := ⟨RX12, "hasOther", "(II)Z"⟩
abbrev cX12_milkBy : ByteArray := prog_14_method_44_code
def yX12_milkBy : MethodName := ⟨RX12, "milkBy", "(III)I"⟩
abbrev cX12_milkWith : ByteArray := prog_14_method_45_code
def yX12_milkWith : MethodName := ⟨RX12, "milkWith", "(II)I"⟩
abbrev cX12_milk : ByteArray := prog_14_method_46_code
def yX12_milk : MethodName := ⟨RX12, "milk", "(I)I"⟩
abbrev cX12_cow : ByteArray := prog_14_method_47_code
def yX12_cow : MethodName := ⟨RX12, "cow", "(II)I"⟩
abbrev cX12_news : ByteArray := prog_14_method_48_code
def yX12_news : MethodName := ⟨RX12, "news", "(II)I"⟩
abbrev cX12_cowsOf : ByteArray := prog_14_method_49_code
def yX12_cowsOf : MethodName := ⟨RX12, "cowsOf", "(I)I"⟩
abbrev cX12_milkOf : ByteArray := prog_14_method_50_code
def yX12_milkOf : MethodName := ⟨RX12, "milkOf", "(I)I"⟩
abbrev cX12_farm : ByteArray := prog_14_method_51_code
def yX12_farm : MethodName := ⟨RX12, "farm", "(II)I"⟩
abbrev cX12_talks : ByteArray := prog_14_method_52_code
def yX12_talks : MethodName := ⟨RX12, "talks", "(I)Z"⟩
abbrev cX12_allPails : ByteArray := prog_14_method_53_code
def yX12_allPails : MethodName := ⟨RX12, "allPails", "()I"⟩
abbrev cX12_now : ByteArray := prog_14_method_54_code
def yX12_now : MethodName := ⟨RX12, "now", "(I)I"⟩
abbrev cX12_whyTell : ByteArray := prog_14_method_55_code
def yX12_whyTell : MethodName := ⟨RX12, "whyTell", "(II)I"⟩
abbrev cX12_tells : ByteArray := prog_14_method_56_code
def yX12_tells : MethodName := ⟨RX12, "tells", "(II)V"⟩
abbrev cX12_whyFind : ByteArray := prog_14_method_57_code
def yX12_whyFind : MethodName := ⟨RX12, "whyFind", "(I)I"⟩
abbrev cX12_driedBy : ByteArray := prog_14_method_58_code
def yX12_driedBy : MethodName := ⟨RX12, "driedBy", "(I)I"⟩
abbrev cX12_finds : ByteArray := prog_14_method_59_code
def yX12_finds : MethodName := ⟨RX12, "finds", "(I)V"⟩
abbrev cX12_day : ByteArray := prog_14_method_60_code
def yX12_day : MethodName := ⟨RX12, "day", "()V"⟩
abbrev cX12_comesTo : ByteArray := prog_14_method_61_code
def yX12_comesTo : MethodName := ⟨RX12, "comesTo", "(II)V"⟩
abbrev cX12_goesOn : ByteArray := prog_14_method_62_code
def yX12_goesOn : MethodName := ⟨RX12, "goesOn", "(I)I"⟩
abbrev cX12_tell : ByteArray := prog_14_method_63_code
def yX12_tell : MethodName := ⟨RX12, "tell", "(II)I"⟩
abbrev cX12_find : ByteArray := prog_14_method_64_code
def yX12_find : MethodName := ⟨RX12, "find", "(I)I"⟩
abbrev cX12_days : ByteArray := prog_14_method_65_code
def yX12_days : MethodName := ⟨RX12, "days", "(I)I"⟩
abbrev cX12_keep : ByteArray := prog_14_method_66_code
def yX12_keep : MethodName := ⟨RX12, "keep", "()V"⟩
abbrev cX12_undo : ByteArray := prog_14_method_67_code
def yX12_undo : MethodName := ⟨RX12, "undo", "()I"⟩
abbrev cX12_tries : ByteArray := prog_14_method_68_code
def yX12_tries : MethodName := ⟨RX12, "tries", "()V"⟩
abbrev cX12_back : ByteArray := prog_14_method_69_code
def yX12_back : MethodName := ⟨RX12, "back", "()V"⟩
abbrev cX12_why : ByteArray := prog_14_method_70_code
def yX12_why : MethodName := ⟨RX12, "why", "(II)I"⟩
abbrev cX12_mayHear : ByteArray := prog_14_method_71_code
def yX12_mayHear : MethodName := ⟨RX12, "mayHear", "(II)Z"⟩
abbrev cX12_peace : ByteArray := prog_14_method_72_code
def yX12_peace : MethodName := ⟨RX12, "peace", "()I"⟩
abbrev cX12_bestOf : ByteArray := prog_14_method_73_code
def yX12_bestOf : MethodName := ⟨RX12, "bestOf", "(II)I"⟩
abbrev cX12_tellsSet : ByteArray := prog_14_method_74_code
def yX12_tellsSet : MethodName := ⟨RX12, "tellsSet", "(I)V"⟩
abbrev cX12_best : ByteArray := prog_14_method_75_code
def yX12_best : MethodName := ⟨RX12, "best", "(I)I"⟩
abbrev cX12_least : ByteArray := prog_14_method_76_code
def yX12_least : MethodName := ⟨RX12, "least", "(II)I"⟩
abbrev cX12_told : ByteArray := prog_14_method_77_code
def yX12_told : MethodName := ⟨RX12, "told", "()I"⟩
abbrev cX12_honest : ByteArray := prog_14_method_78_code
def yX12_honest : MethodName := ⟨RX12, "honest", "(I)I"⟩
abbrev cX12_digit : ByteArray := prog_14_method_79_code
def yX12_digit : MethodName := ⟨RX12, "digit", "(III)I"⟩
abbrev cX12_planned : ByteArray := prog_14_method_80_code
def yX12_planned : MethodName := ⟨RX12, "planned", "(III)I"⟩
abbrev cX12_plan : ByteArray := prog_14_method_81_code
def yX12_plan : MethodName := ⟨RX12, "plan", "(II)I"⟩
abbrev cX12_planAt : ByteArray := prog_14_method_82_code
def yX12_planAt : MethodName := ⟨RX12, "planAt", "(I)I"⟩
abbrev cX12_allKnow : ByteArray := prog_14_method_83_code
def yX12_allKnow : MethodName := ⟨RX12, "allKnow", "(I)I"⟩
abbrev cX12_comes : ByteArray := prog_14_method_84_code
def yX12_comes : MethodName := ⟨RX12, "comes", "(III)Z"⟩
abbrev cX12_part : ByteArray := prog_14_method_85_code
def yX12_part : MethodName := ⟨RX12, "part", "(II)I"⟩
abbrev cX12_parted : ByteArray := prog_14_method_86_code
def yX12_parted : MethodName := ⟨RX12, "parted", "()I"⟩
abbrev cX12_tasted : ByteArray := prog_14_method_87_code
def yX12_tasted : MethodName := ⟨RX12, "tasted", "(I)I"⟩
abbrev cX12_surely : ByteArray := prog_14_method_88_code
def yX12_surely : MethodName := ⟨RX12, "surely", "()I"⟩
abbrev cX12_ask : ByteArray := prog_14_method_89_code
def yX12_ask : MethodName := ⟨RX12, "ask", "()I"⟩
abbrev cX12_dries : ByteArray := prog_14_method_90_code
def yX12_dries : MethodName := ⟨RX12, "dries", "(I)I"⟩
abbrev cX12_isPast : ByteArray := prog_14_method_91_code
def yX12_isPast : MethodName := ⟨RX12, "isPast", "(I)Z"⟩
abbrev cX12_week : ByteArray := prog_14_method_92_code
def yX12_week : MethodName := ⟨RX12, "week", "(I)I"⟩
abbrev cX12_pails : ByteArray := prog_14_method_93_code
def yX12_pails : MethodName := ⟨RX12, "pails", "(II)I"⟩
abbrev cX12_ahead : ByteArray := prog_14_method_94_code
def yX12_ahead : MethodName := ⟨RX12, "ahead", "(I)I"⟩
abbrev cX12_draw : ByteArray := prog_14_method_95_code
def yX12_draw : MethodName := ⟨RX12, "draw", "(I)I"⟩
abbrev cX12_draws : ByteArray := prog_14_method_96_code
def yX12_draws : MethodName := ⟨RX12, "draws", "(II)I"⟩
abbrev cX12_drawn : ByteArray := prog_14_method_97_code
def yX12_drawn : MethodName := ⟨RX12, "drawn", "(II)I"⟩
abbrev cX12_odds : ByteArray := prog_14_method_98_code
def yX12_odds : MethodName := ⟨RX12, "odds", "(III)I"⟩
abbrev cX12_bookLine : ByteArray := prog_14_method_99_code
def yX12_bookLine : MethodName := ⟨RX12, "bookLine", "()Z"⟩
abbrev cX12_does : ByteArray := prog_14_method_100_code
def yX12_does : MethodName := ⟨RX12, "does", "(III)I"⟩
abbrev cX12_book : ByteArray := prog_14_method_101_code
def yX12_book : MethodName := ⟨RX12, "book", "(I)I"⟩
abbrev cX12_written : ByteArray := prog_14_method_102_code
def yX12_written : MethodName := ⟨RX12, "written", "(I)I"⟩
abbrev cX12_code : ByteArray := prog_14_method_103_code
def yX12_code : MethodName := ⟨RX12, "code", "(III)V"⟩
abbrev cX12_joins : ByteArray := prog_14_method_104_code
def yX12_joins : MethodName := ⟨RX12, "joins", "(I)V"⟩
abbrev cX12_nots : ByteArray := prog_14_method_105_code
def yX12_nots : MethodName := ⟨RX12, "nots", "()V"⟩
abbrev cX12_leafOf : ByteArray := prog_14_method_106_code
def yX12_leafOf : MethodName := ⟨RX12, "leafOf", "()I"⟩
abbrev cX12_operand : ByteArray := prog_14_method_107_code
def yX12_operand : MethodName := ⟨RX12, "operand", "()Z"⟩
abbrev cX12_behind : ByteArray := prog_14_method_108_code
def yX12_behind : MethodName := ⟨RX12, "behind", "()Z"⟩
abbrev cX12_sentence : ByteArray := prog_14_method_109_code
def yX12_sentence : MethodName := ⟨RX12, "sentence", "()I"⟩
abbrev cX12_isLeaf : ByteArray := prog_14_method_110_code
def yX12_isLeaf : MethodName := ⟨RX12, "isLeaf", "(IIII)Z"⟩
abbrev cX12_isSaid : ByteArray := prog_14_method_111_code
def yX12_isSaid : MethodName := ⟨RX12, "isSaid", "(I)Z"⟩
abbrev cX12_said : ByteArray := prog_14_method_112_code
def yX12_said : MethodName := ⟨RX12, "said", "(I)I"⟩
abbrev cX12_image : ByteArray := prog_14_method_113_code
def yX12_image : MethodName := ⟨RX12, "image", "(I)Z"⟩
abbrev cX12_restore : ByteArray := prog_14_method_114_code
def yX12_restore : MethodName := ⟨RX12, "restore", "(I)Z"⟩
abbrev cX12_count : ByteArray := prog_14_method_115_code
def yX12_count : MethodName := ⟨RX12, "count", "(I)I"⟩
def RJ11 : String := "java/lang/Character"
def TJ11 : u_T := fun k => match k with
  | _ => ("", "", "", false)
def tyJ11 : Nat → FieldType := fun k => match k with
  | _ => .int
theorem nmJ11 : ∀ a, a < 0 → ∀ b, b < 0 → a ≠ b → (TJ11 a).2.1 ≠ (TJ11 b).2.1 := by decide +kernel
theorem tyJ11_ok : ∀ k, k < 0 → parseFieldDescriptor (TJ11 k).2.2.1 = some (tyJ11 k) := by decide +kernel
abbrev cJ11_isValidCodePoint_9a6ad : ByteArray := prog_17_method_11_code
def yJ11_isValidCodePoint_9a6ad : MethodName := ⟨RJ11, "isValidCodePoint", "(I)Z"⟩
abbrev cJ11_highSurrogate_5068e : ByteArray := prog_17_method_28_code
def yJ11_highSurrogate_5068e : MethodName := ⟨RJ11, "highSurrogate", "(I)C"⟩
abbrev cJ11_lowSurrogate_5068e : ByteArray := prog_17_method_29_code
def yJ11_lowSurrogate_5068e : MethodName := ⟨RJ11, "lowSurrogate", "(I)C"⟩
def RJ6 : String := "java/lang/Integer"
def TJ6 : u_T := fun k => match k with
  | _ => ("", "", "", false)
def tyJ6 : Nat → FieldType := fun k => match k with
  | _ => .int
theorem nmJ6 : ∀ a, a < 0 → ∀ b, b < 0 → a ≠ b → (TJ6 a).2.1 ≠ (TJ6 b).2.1 := by decide +kernel
theorem tyJ6_ok : ∀ k, k < 0 → parseFieldDescriptor (TJ6 k).2.2.1 = some (tyJ6 k) := by decide +kernel
abbrev cJ6_bitCount_0f7a4 : ByteArray := prog_20_method_49_code
def yJ6_bitCount_0f7a4 : MethodName := ⟨RJ6, "bitCount", "(I)I"⟩
def RJ9 : String := "java/lang/Math"
def TJ9 : u_T := fun k => match k with
  | _ => ("", "", "", false)
def tyJ9 : Nat → FieldType := fun k => match k with
  | _ => .int
theorem nmJ9 : ∀ a, a < 0 → ∀ b, b < 0 → a ≠ b → (TJ9 a).2.1 ≠ (TJ9 b).2.1 := by decide +kernel
theorem tyJ9_ok : ∀ k, k < 0 → parseFieldDescriptor (TJ9 k).2.2.1 = some (tyJ9 k) := by decide +kernel
abbrev cJ9_abs_0f7a4 : ByteArray := prog_21_method_59_code
def yJ9_abs_0f7a4 : MethodName := ⟨RJ9, "abs", "(I)I"⟩
abbrev cJ9_max_7cf53 : ByteArray := prog_21_method_65_code
def yJ9_max_7cf53 : MethodName := ⟨RJ9, "max", "(II)I"⟩
abbrev cJ9_min_7cf53 : ByteArray := prog_21_method_69_code
def yJ9_min_7cf53 : MethodName := ⟨RJ9, "min", "(II)I"⟩
def RJ0 : String := "java/lang/String"
def TJ0 : u_T := fun k => match k with
  | _ => ("", "", "", false)
def tyJ0 : Nat → FieldType := fun k => match k with
  | _ => .int
theorem nmJ0 : ∀ a, a < 0 → ∀ b, b < 0 → a ≠ b → (TJ0 a).2.1 ≠ (TJ0 b).2.1 := by decide +kernel
theorem tyJ0_ok : ∀ k, k < 0 → parseFieldDescriptor (TJ0 k).2.2.1 = some (tyJ0 k) := by decide +kernel
abbrev cJ0_length_8abf5 : ByteArray := prog_23_method_54_code
def yJ0_length_8abf5 : MethodName := ⟨RJ0, "length", "()I"⟩
abbrev cJ0_charAt_5068e : ByteArray := prog_23_method_56_code
def yJ0_charAt_5068e : MethodName := ⟨RJ0, "charAt", "(I)C"⟩
abbrev cJ0_indexOf_0f7a4 : ByteArray := prog_23_method_79_code
def yJ0_indexOf_0f7a4 : MethodName := ⟨RJ0, "indexOf", "(I)I"⟩
abbrev cJ0_indexOf_7cf53 : ByteArray := prog_23_method_80_code
def yJ0_indexOf_7cf53 : MethodName := ⟨RJ0, "indexOf", "(II)I"⟩
abbrev cJ0_coder_7d493 : ByteArray := prog_23_method_152_code
def yJ0_coder_7d493 : MethodName := ⟨RJ0, "coder", "()B"⟩
abbrev cJ0_isLatin1_aae02 : ByteArray := prog_23_method_154_code
def yJ0_isLatin1_aae02 : MethodName := ⟨RJ0, "isLatin1", "()Z"⟩
abbrev cJ0_checkIndex_df160 : ByteArray := prog_23_method_155_code
def yJ0_checkIndex_df160 : MethodName := ⟨RJ0, "checkIndex", "(II)V"⟩
abbrev cJ0_checkBoundsBeginEnd_23922 : ByteArray := prog_23_method_158_code
def yJ0_checkBoundsBeginEnd_23922 : MethodName := ⟨RJ0, "checkBoundsBeginEnd", "(III)V"⟩
def RJ1 : String := "java/lang/StringLatin1"
def TJ1 : u_T := fun k => match k with
  | _ => ("", "", "", false)
def tyJ1 : Nat → FieldType := fun k => match k with
  | _ => .int
theorem nmJ1 : ∀ a, a < 0 → ∀ b, b < 0 → a ≠ b → (TJ1 a).2.1 ≠ (TJ1 b).2.1 := by decide +kernel
theorem tyJ1_ok : ∀ k, k < 0 → parseFieldDescriptor (TJ1 k).2.2.1 = some (tyJ1 k) := by decide +kernel
abbrev cJ1_charAt_3b067 : ByteArray := prog_24_method_2_code
def yJ1_charAt_3b067 : MethodName := ⟨RJ1, "charAt", "([BI)C"⟩
abbrev cJ1_canEncode_9a6ad : ByteArray := prog_24_method_4_code
def yJ1_canEncode_9a6ad : MethodName := ⟨RJ1, "canEncode", "(I)Z"⟩
abbrev cJ1_indexOf_4cfef : ByteArray := prog_24_method_22_code
def yJ1_indexOf_4cfef : MethodName := ⟨RJ1, "indexOf", "([BIII)I"⟩
abbrev cJ1_indexOfChar_4cfef : ByteArray := prog_24_method_23_code
def yJ1_indexOfChar_4cfef : MethodName := ⟨RJ1, "indexOfChar", "([BIII)I"⟩
def RJ2 : String := "java/lang/StringUTF16"
def TJ2 : u_T := fun k => match k with
  | _ => ("", "", "", false)
def tyJ2 : Nat → FieldType := fun k => match k with
  | _ => .int
theorem nmJ2 : ∀ a, a < 0 → ∀ b, b < 0 → a ≠ b → (TJ2 a).2.1 ≠ (TJ2 b).2.1 := by decide +kernel
theorem tyJ2_ok : ∀ k, k < 0 → parseFieldDescriptor (TJ2 k).2.2.1 = some (tyJ2 k) := by decide +kernel
abbrev cJ2_getChar_3b067 : ByteArray := prog_25_method_5_code
def yJ2_getChar_3b067 : MethodName := ⟨RJ2, "getChar", "([BI)C"⟩
abbrev cJ2_length_9d52b : ByteArray := prog_25_method_6_code
def yJ2_length_9d52b : MethodName := ⟨RJ2, "length", "([B)I"⟩
abbrev cJ2_indexOf_4cfef : ByteArray := prog_25_method_40_code
def yJ2_indexOf_4cfef : MethodName := ⟨RJ2, "indexOf", "([BIII)I"⟩
abbrev cJ2_indexOfChar_4cfef : ByteArray := prog_25_method_47_code
def yJ2_indexOfChar_4cfef : MethodName := ⟨RJ2, "indexOfChar", "([BIII)I"⟩
abbrev cJ2_indexOfCharUnsafe_4cfef : ByteArray := prog_25_method_48_code
def yJ2_indexOfCharUnsafe_4cfef : MethodName := ⟨RJ2, "indexOfCharUnsafe", "([BIII)I"⟩
abbrev cJ2_indexOfSupplementary_4cfef : ByteArray := prog_25_method_49_code
def yJ2_indexOfSupplementary_4cfef : MethodName := ⟨RJ2, "indexOfSupplementary", "([BIII)I"⟩
abbrev cJ2_charAt_3b067 : ByteArray := prog_25_method_83_code
def yJ2_charAt_3b067 : MethodName := ⟨RJ2, "charAt", "([BI)C"⟩
abbrev cJ2_checkIndex_2214a : ByteArray := prog_25_method_91_code
def yJ2_checkIndex_2214a : MethodName := ⟨RJ2, "checkIndex", "(I[B)V"⟩
abbrev cJ2_checkBoundsBeginEnd_d044e : ByteArray := prog_25_method_93_code
def yJ2_checkBoundsBeginEnd_d044e : MethodName := ⟨RJ2, "checkBoundsBeginEnd", "(II[B)V"⟩
def RJ10 : String := "java/lang/System"
def TJ10 : u_T := fun k => match k with
  | _ => ("", "", "", false)
def tyJ10 : Nat → FieldType := fun k => match k with
  | _ => .int
theorem nmJ10 : ∀ a, a < 0 → ∀ b, b < 0 → a ≠ b → (TJ10 a).2.1 ≠ (TJ10 b).2.1 := by decide +kernel
theorem tyJ10_ok : ∀ k, k < 0 → parseFieldDescriptor (TJ10 k).2.2.1 = some (tyJ10 k) := by decide +kernel
def RJ7 : String := "java/util/Arrays"
def TJ7 : u_T := fun k => match k with
  | _ => ("", "", "", false)
def tyJ7 : Nat → FieldType := fun k => match k with
  | _ => .int
theorem nmJ7 : ∀ a, a < 0 → ∀ b, b < 0 → a ≠ b → (TJ7 a).2.1 ≠ (TJ7 b).2.1 := by decide +kernel
theorem tyJ7_ok : ∀ k, k < 0 → parseFieldDescriptor (TJ7 k).2.2.1 = some (tyJ7 k) := by decide +kernel
abbrev cJ7_fill_d0a16 : ByteArray := prog_30_method_101_code
def yJ7_fill_d0a16 : MethodName := ⟨RJ7, "fill", "([JJ)V"⟩
abbrev cJ7_fill_53178 : ByteArray := prog_30_method_103_code
def yJ7_fill_53178 : MethodName := ⟨RJ7, "fill", "([II)V"⟩
def RJ3 : String := "jdk/internal/util/Preconditions"
def TJ3 : u_T := fun k => match k with
  | _ => ("", "", "", false)
def tyJ3 : Nat → FieldType := fun k => match k with
  | _ => .int
theorem nmJ3 : ∀ a, a < 0 → ∀ b, b < 0 → a ≠ b → (TJ3 a).2.1 ≠ (TJ3 b).2.1 := by decide +kernel
theorem tyJ3_ok : ∀ k, k < 0 → parseFieldDescriptor (TJ3 k).2.2.1 = some (tyJ3 k) := by decide +kernel
abbrev cJ3_checkIndex_8e157 : ByteArray := prog_32_method_11_code
def yJ3_checkIndex_8e157 : MethodName := ⟨RJ3, "checkIndex", "(IILjava/util/function/BiFunction;)I"⟩
abbrev cJ3_checkFromToIndex_8c36e : ByteArray := prog_32_method_12_code
def yJ3_checkFromToIndex_8c36e : MethodName := ⟨RJ3, "checkFromToIndex", "(IIILjava/util/function/BiFunction;)I"⟩
end
section
/-! THE MACHINE: a small machine over whole numbers and references (kind, instance), whose runs are runs of the bytecode (part 05 proves it). A value: an int, a long, a reference (t, a): the a-th object of class number t, or the array in field k of the a-th object of class t0, with t = 100 + 64 t0 + k. A heap: ints by (t, a, place), longs by (t, a, place). References in fields never change behind the constructors, so they are no part of a heap. -/
abbrev nc_V : Type := Int32 ⊕ Int64 ⊕ (Nat × Nat)
abbrev nc_H : Type := (Nat → Nat → Nat → Int32) × (Nat → Nat → Nat → Int64)
abbrev nc_R : Type := Option nc_V × nc_H
abbrev nc_L : Type := List (Option nc_V)
abbrev nc_K : Type := Nat → nc_L → List nc_V → nc_H → Option nc_R
def nc_cat (v : nc_V) : Nat := match v with
  | .inr (.inl _) => 2
  | _ => 1
def nc_cats : List nc_V → Nat
  | [] => 0
  | v :: r => nc_cat v + nc_cats r
def nc_si (w : nc_H) (t a k : Nat) (x : Int32) : nc_H := (fun t' a' k' => if t' = t ∧ a' = a ∧ k' = k then x else w.1 t' a' k', w.2)
def nc_sl (w : nc_H) (t a k : Nat) (x : Int64) : nc_H := (w.1, fun t' a' k' => if t' = t ∧ a' = a ∧ k' = k then x else w.2 t' a' k')
def nc_cpi (w : nc_H) (t0 a0 sp t a dp n : Nat) : nc_H := (fun t' a' k' => if t' = t ∧ a' = a ∧ (dp ≤ k' ∧ k' < dp + n) then w.1 t0 a0 (sp + (k' - dp)) else w.1 t' a' k', w.2)
def nc_cpl (w : nc_H) (t0 a0 sp t a dp n : Nat) : nc_H := (w.1, fun t' a' k' => if t' = t ∧ a' = a ∧ (dp ≤ k' ∧ k' < dp + n) then w.2 t0 a0 (sp + (k' - dp)) else w.2 t' a' k')
/-- an index within a row of n -/
def nc_bd (i : Int32) (n : Nat) (k : Nat → Option nc_R) : Option nc_R := if i < 0 ∨ n ≤ i.toNatClampNeg then none else k i.toNatClampNeg
/-- a truth as an int: 0 or 1 -/
def nc_z (x : Int32) (k : Option nc_R) : Option nc_R := if x = 0 ∨ x = 1 then k else none
def nc_bI (x : Option nc_R) (k : Int32 → nc_H → Option nc_R) : Option nc_R := match x with
  | some (some (.inl r), w) => k r w
  | _ => none
def nc_bL (x : Option nc_R) (k : Int64 → nc_H → Option nc_R) : Option nc_R := match x with
  | some (some (.inr (.inl r)), w) => k r w
  | _ => none
def nc_bV (x : Option nc_R) (k : nc_H → Option nc_R) : Option nc_R := match x with
  | some (none, w) => k w
  | _ => none
def nc_get : nc_L → Nat → Option nc_V
  | [], _ => none
  | o :: _, 0 => o
  | _ :: r, k + 1 => nc_get r k
def nc_put1 (v : nc_V) : nc_L → Nat → nc_L
  | [], _ => []
  | _ :: r, 0 => some v :: r
  | some (.inr (.inl _)) :: r, 1 => none :: nc_put1 v r 0
  | o :: r, k + 1 => o :: nc_put1 v r k
def nc_put2 (v : nc_V) : nc_L → Nat → nc_L
  | [], _ => []
  | _ :: _ :: r, 0 => some v :: none :: r
  | [o], 0 => [o]
  | some (.inr (.inl _)) :: r, 1 => none :: nc_put2 v r 0
  | o :: r, k + 1 => o :: nc_put2 v r k
def nc_mask : List Bool → nc_L → nc_L
  | b :: bs, o :: os => cond b o none :: nc_mask bs os
  | _, os => os
/-- the locals with which a method begins -/
def nc_args : List nc_V → nc_L
  | [] => []
  | .inr (.inl y) :: vs => some (.inr (.inl y)) :: none :: nc_args vs
  | v :: vs => some v :: nc_args vs
def nc_pad (n : Nat) (l : nc_L) : nc_L := l ++ List.replicate (n - l.length) none
def nc_look {α : Type} (d : α) (k : Nat) : List (Nat × α) → α
  | [] => d
  | q :: r => cond (Nat.beq q.1 k) q.2 (nc_look d k r)
/-! the methods, callees first; the recursive ones stand once for each depth -/
abbrev m_X1_setAfter : Nat := 0
abbrev m_X1_countNews : Nat := 1
abbrev m_X2_isLie : Nat := 2
abbrev m_X2_allCows : Nat := 3
abbrev m_X2_allNews : Nat := 4
abbrev m_X2_slotOf : Nat := 5
abbrev m_X2_hedgesOf : Nat := 6
abbrev m_X2_comesTo : Nat := 7
abbrev m_X4_draw : Nat := 8
abbrev m_X5_clear : Nat := 9
abbrev m_X7_isDry : Nat := 10
abbrev m_X7_isCurdled : Nat := 11
abbrev m_X7_comes : Nat := 12
abbrev m_X7_addedBy : Nat := 13
abbrev m_X7_heardByOthers : Nat := 14
abbrev m_X7_talking : Nat := 15
abbrev m_X7_forget : Nat := 16
abbrev m_X7_allPails : Nat := 17
abbrev m_X7_pailsOn : Nat := 18
abbrev m_X9_clear : Nat := 19
abbrev m_X9_put : Nat := 20
abbrev m_X9_compares : Nat := 21
abbrev m_X10_withLetter : Nat := 22
abbrev m_X10_isLetter : Nat := 23
abbrev m_X10_isDigit : Nat := 24
abbrev m_X10_append : Nat := 25
abbrev m_X10_at : Nat := 26
abbrev m_X10_toldWord : Nat := 27
abbrev m_X10_add : Nat := 28
abbrev m_X10_next : Nat := 29
abbrev m_X10_fail : Nat := 30
abbrev m_X10_word : Nat := 31
abbrev m_X10_isSign : Nat := 32
abbrev m_X11_end : Nat := 33
abbrev m_X11_fault : Nat := 34
abbrev m_X11_told : Nat := 35
abbrev m_X11_planAt : Nat := 36
abbrev m_X11_parted : Nat := 37
abbrev m_X11_surely : Nat := 38
abbrev m_X11_ask : Nat := 39
abbrev m_X11_written : Nat := 40
abbrev m_X11_count : Nat := 41
abbrev m_X11_isFarm : Nat := 42
abbrev m_X11_isCow : Nat := 43
abbrev m_X11_isNews : Nat := 44
abbrev m_X11_cowsWith : Nat := 45
abbrev m_X12_thrown : Nat := 46
abbrev m_X12_throwsIf : Nat := 47
abbrev m_X12_four : Nat := 48
abbrev m_X12_end : Nat := 49
abbrev m_X12_taken : Nat := 50
abbrev m_X12_isIn : Nat := 51
abbrev m_X12_bitOf : Nat := 52
abbrev m_X12_greater : Nat := 53
abbrev m_X12_absolute : Nat := 54
abbrev m_X12_bits : Nat := 55
abbrev m_X12_octet : Nat := 56
abbrev m_X12_peek : Nat := 57
abbrev m_X12_isSmall : Nat := 58
abbrev m_X12_isDigit : Nat := 59
abbrev m_X12_bad : Nat := 60
abbrev m_X12_isWord : Nat := 61
abbrev m_X12_isSign : Nat := 62
abbrev m_X12_isName : Nat := 63
abbrev m_X12_seek : Nat := 64
abbrev m_X12_fault : Nat := 65
abbrev m_X12_knows : Nat := 66
abbrev m_X12_isCurdled : Nat := 67
abbrev m_X12_cowsOf : Nat := 68
abbrev m_X12_talks : Nat := 69
abbrev m_X12_allPails : Nat := 70
abbrev m_X12_keep : Nat := 71
abbrev m_X12_undo : Nat := 72
abbrev m_X12_tries : Nat := 73
abbrev m_X12_back : Nat := 74
abbrev m_X12_peace : Nat := 75
abbrev m_X12_tellsSet : Nat := 76
abbrev m_X12_told : Nat := 77
abbrev m_X12_digit : Nat := 78
abbrev m_X12_parted : Nat := 79
abbrev m_X12_surely : Nat := 80
abbrev m_X12_ask : Nat := 81
abbrev m_X12_draw : Nat := 82
abbrev m_X12_code : Nat := 83
abbrev m_J6_bitCount_0f7a4 : Nat := 84
abbrev m_J7_fill_d0a16 : Nat := 85
abbrev m_J7_fill_53178 : Nat := 86
abbrev m_X10_mustBeSign : Nat := 87
abbrev m_X2_named : Nat := 88
abbrev m_X10_nextNumber : Nat := 89
abbrev m_X9_readPlainOne : Nat := 90
abbrev m_X7_sumOf : Nat := 91
abbrev m_X7_whyNotTold : Nat := 92
abbrev m_X8_weigh : Nat := 93
abbrev m_X7_milk : Nat := 94
abbrev m_X8_goLast : Nat := 95
abbrev m_X7_copyFrom : Nat := 96
abbrev m_X7_hear : Nat := 97
abbrev m_X7_allComes : Nat := 98
abbrev m_X7_talk : Nat := 99
abbrev m_X7_turn : Nat := 100
abbrev m_X9_readOne_9 : Nat := 101
abbrev m_X9_readAll_9 : Nat := 102
abbrev m_X9_readCond_9 : Nat := 103
abbrev m_X9_readOne_8 : Nat := 104
abbrev m_X9_readAll_8 : Nat := 105
abbrev m_X9_readCond_8 : Nat := 106
abbrev m_X9_readOne_7 : Nat := 107
abbrev m_X9_readAll_7 : Nat := 108
abbrev m_X9_readCond_7 : Nat := 109
abbrev m_X9_readOne_6 : Nat := 110
abbrev m_X9_readAll_6 : Nat := 111
abbrev m_X9_readCond_6 : Nat := 112
abbrev m_X9_readOne_5 : Nat := 113
abbrev m_X9_readAll_5 : Nat := 114
abbrev m_X9_readCond_5 : Nat := 115
abbrev m_X9_readOne_4 : Nat := 116
abbrev m_X9_readAll_4 : Nat := 117
abbrev m_X9_readCond_4 : Nat := 118
abbrev m_X9_readOne_3 : Nat := 119
abbrev m_X9_readAll_3 : Nat := 120
abbrev m_X9_readCond_3 : Nat := 121
abbrev m_X9_readOne_2 : Nat := 122
abbrev m_X9_readAll_2 : Nat := 123
abbrev m_X9_readCond_2 : Nat := 124
abbrev m_X9_readOne_1 : Nat := 125
abbrev m_X9_readAll_1 : Nat := 126
abbrev m_X9_readCond_1 : Nat := 127
abbrev m_X8_go_2 : Nat := 128
abbrev m_X8_go_1 : Nat := 129
abbrev m_X8_go_0 : Nat := 130
abbrev m_X10_addRun : Nat := 131
abbrev m_X10_start : Nat := 132
abbrev m_X10_nextLine : Nat := 133
abbrev m_X0_readArg : Nat := 134
abbrev m_X10_closesLine : Nat := 135
abbrev m_X0_readLine : Nat := 136
abbrev m_X10_mustEnd : Nat := 137
abbrev m_X0_read : Nat := 138
abbrev m_X7_fillPails : Nat := 139
abbrev m_X7_goDays : Nat := 140
abbrev m_X7_whyNotFound : Nat := 141
abbrev m_X7_wouldDoubt : Nat := 142
abbrev m_X7_wouldDry : Nat := 143
abbrev m_X7_findOut : Nat := 144
abbrev m_X0_live : Nat := 145
abbrev m_X0_judge : Nat := 146
abbrev m_X1_lookAt : Nat := 147
abbrev m_X1_milkBy : Nat := 148
abbrev m_X1_bestOf : Nat := 149
abbrev m_X1_most : Nat := 150
abbrev m_X1_mostWithoutLies : Nat := 151
abbrev m_X1_isLess : Nat := 152
abbrev m_X1_fewestLies : Nat := 153
abbrev m_X1_mostEven : Nat := 154
abbrev m_X1_setsThatGive : Nat := 155
abbrev m_X2_clear : Nat := 156
abbrev m_X2_copyFrom : Nat := 157
abbrev m_X2_nextNewName : Nat := 158
abbrev m_X2_hasHedge : Nat := 159
abbrev m_X2_fewestBetween : Nat := 160
abbrev m_X3_readFarm : Nat := 161
abbrev m_X3_readCow : Nat := 162
abbrev m_X3_readNews : Nat := 163
abbrev m_X3_readHedge : Nat := 164
abbrev m_X3_readHears : Nat := 165
abbrev m_X3_readLine : Nat := 166
abbrev m_X3_read : Nat := 167
abbrev m_X4_tellAndFind : Nat := 168
abbrev m_X5_keep : Nat := 169
abbrev m_X5_takeBack : Nat := 170
abbrev m_X7_clear : Nat := 171
abbrev m_X8_seek : Nat := 172
abbrev m_X9_copyFrom : Nat := 173
abbrev m_X9_read : Nat := 174
abbrev m_X9_isSo : Nat := 175
abbrev m_X9_holds : Nat := 176
abbrev m_X11_feed : Nat := 177
abbrev m_X11_dairy : Nat := 178
abbrev m_X11_cow : Nat := 179
abbrev m_X11_news : Nat := 180
abbrev m_X11_milkOfFarm : Nat := 181
abbrev m_X11_farm : Nat := 182
abbrev m_X11_now : Nat := 183
abbrev m_X11_why : Nat := 184
abbrev m_X11_tell : Nat := 185
abbrev m_X11_find : Nat := 186
abbrev m_X11_days : Nat := 187
abbrev m_X11_undo : Nat := 188
abbrev m_X11_canBeTold : Nat := 189
abbrev m_X11_best : Nat := 190
abbrev m_X11_least : Nat := 191
abbrev m_X11_honest : Nat := 192
abbrev m_X11_plan : Nat := 193
abbrev m_X11_allKnow : Nat := 194
abbrev m_X11_part : Nat := 195
abbrev m_X11_tasted : Nat := 196
abbrev m_X11_dries : Nat := 197
abbrev m_X11_fits : Nat := 198
abbrev m_X11_week : Nat := 199
abbrev m_X11_pails : Nat := 200
abbrev m_X11_ahead : Nat := 201
abbrev m_X11_drawn : Nat := 202
abbrev m_X11_driesByDraws : Nat := 203
abbrev m_X11_odds : Nat := 204
abbrev m_X11_book : Nat := 205
abbrev m_X11_sentence : Nat := 206
abbrev m_X11_said : Nat := 207
abbrev m_X11_image : Nat := 208
abbrev m_X11_restore : Nat := 209
abbrev m_X12_feed : Nat := 210
abbrev m_X12_next : Nat := 211
abbrev m_X12_sign : Nat := 212
abbrev m_X12_takes : Nat := 213
abbrev m_X12_puts : Nat := 214
abbrev m_X12_fresh : Nat := 215
abbrev m_X12_looksAt : Nat := 216
abbrev m_X12_takesName : Nat := 217
abbrev m_X12_kindOf : Nat := 218
abbrev m_X12_readNews : Nat := 219
abbrev m_X12_readHedge : Nat := 220
abbrev m_X12_line : Nat := 221
abbrev m_X12_dairy : Nat := 222
abbrev m_X12_isFarm : Nat := 223
abbrev m_X12_isCow : Nat := 224
abbrev m_X12_isNews : Nat := 225
abbrev m_X12_isDry : Nat := 226
abbrev m_X12_isLie : Nat := 227
abbrev m_X12_known : Nat := 228
abbrev m_X12_hasOther : Nat := 229
abbrev m_X12_milkBy : Nat := 230
abbrev m_X12_milkWith : Nat := 231
abbrev m_X12_milk : Nat := 232
abbrev m_X12_cow : Nat := 233
abbrev m_X12_news : Nat := 234
abbrev m_X12_milkOf : Nat := 235
abbrev m_X12_farm : Nat := 236
abbrev m_X12_now : Nat := 237
abbrev m_X12_whyTell : Nat := 238
abbrev m_X12_tells : Nat := 239
abbrev m_X12_whyFind : Nat := 240
abbrev m_X12_driedBy : Nat := 241
abbrev m_X12_finds : Nat := 242
abbrev m_X12_comesTo : Nat := 243
abbrev m_X12_day : Nat := 244
abbrev m_X12_goesOn : Nat := 245
abbrev m_X12_tell : Nat := 246
abbrev m_X12_find : Nat := 247
abbrev m_X12_days : Nat := 248
abbrev m_X12_why : Nat := 249
abbrev m_X12_mayHear : Nat := 250
abbrev m_X12_bestOf : Nat := 251
abbrev m_X12_best : Nat := 252
abbrev m_X12_least : Nat := 253
abbrev m_X12_honest : Nat := 254
abbrev m_X12_planned : Nat := 255
abbrev m_X12_plan : Nat := 256
abbrev m_X12_planAt : Nat := 257
abbrev m_X12_allKnow : Nat := 258
abbrev m_X12_comes : Nat := 259
abbrev m_X12_part : Nat := 260
abbrev m_X12_tasted : Nat := 261
abbrev m_X12_dries : Nat := 262
abbrev m_X12_isPast : Nat := 263
abbrev m_X12_week : Nat := 264
abbrev m_X12_pails : Nat := 265
abbrev m_X12_ahead : Nat := 266
abbrev m_X12_draws : Nat := 267
abbrev m_X12_drawn : Nat := 268
abbrev m_X12_odds : Nat := 269
abbrev m_X12_bookLine : Nat := 270
abbrev m_X12_does : Nat := 271
abbrev m_X12_book : Nat := 272
abbrev m_X12_written : Nat := 273
abbrev m_X12_joins : Nat := 274
abbrev m_X12_nots : Nat := 275
abbrev m_X12_leafOf : Nat := 276
abbrev m_X12_operand : Nat := 277
abbrev m_X12_behind : Nat := 278
abbrev m_X12_sentence : Nat := 279
abbrev m_X12_isLeaf : Nat := 280
abbrev m_X12_isSaid : Nat := 281
abbrev m_X12_said : Nat := 282
abbrev m_X12_image : Nat := 283
abbrev m_X12_restore : Nat := 284
abbrev m_X12_count : Nat := 285
abbrev nc_many : Nat := 286
def nc_mi_0 : List (MethodName × ByteArray × Nat × Option FieldType × Nat) := [(yX1_setAfter, cX1_setAfter, 2, (some .int), 1), (yX1_countNews, cX1_countNews, 3, none, 1), (yX2_isLie, cX2_isLie, 2, (some .boolean), 2), (yX2_allCows, cX2_allCows, 1, (some .int), 2), (yX2_allNews, cX2_allNews, 1, (some .int), 2), (yX2_slotOf, cX2_slotOf, 4, (some .int), 2), (yX2_hedgesOf, cX2_hedgesOf, 4, (some .int), 2), (yX2_comesTo, cX2_comesTo, 8, (some .boolean), 2), (yX4_draw, cX4_draw, 2, (some .int), 4), (yX5_clear, cX5_clear, 1, none, 5), (yX7_isDry, cX7_isDry, 2, (some .boolean), 7), (yX7_isCurdled, cX7_isCurdled, 2, (some .boolean), 7), (yX7_comes, cX7_comes, 3, none, 7), (yX7_addedBy, cX7_addedBy, 5, (some .int), 7), (yX7_heardByOthers, cX7_heardByOthers, 4, (some .int), 7), (yX7_talking, cX7_talking, 4, (some .int), 7), (yX7_forget, cX7_forget, 3, none, 7), (yX7_allPails, cX7_allPails, 3, (some .int), 7), (yX7_pailsOn, cX7_pailsOn, 3, (some .int), 7), (yX9_clear, cX9_clear, 1, none, 9), (yX9_put, cX9_put, 4, none, 9), (yX9_compares, cX9_compares, 3, (some .boolean), 9), (yX10_withLetter, cX10_withLetter, 3, (some .long), 10), (yX10_isLetter, cX10_isLetter, 1, (some .boolean), 10), (yX10_isDigit, cX10_isDigit, 1, (some .boolean), 10), (yX10_append, cX10_append, 3, none, 10), (yX10_at, cX10_at, 2, (some .int), 10), (yX10_toldWord, cX10_toldWord, 4, (some .int), 10), (yX10_add, cX10_add, 6, none, 10), (yX10_next, cX10_next, 1, none, 10), (yX10_fail, cX10_fail, 2, (some .boolean), 10), (yX10_word, cX10_word, 1, (some .int), 10), (yX10_isSign, cX10_isSign, 2, (some .boolean), 10), (yX11_end, cX11_end, 2, (some .boolean), 11), (yX11_fault, cX11_fault, 1, (some .int), 11), (yX11_told, cX11_told, 1, (some .int), 11), (yX11_planAt, cX11_planAt, 2, (some .int), 11), (yX11_parted, cX11_parted, 1, (some .int), 11), (yX11_surely, cX11_surely, 1, (some .int), 11), (yX11_ask, cX11_ask, 1, (some .int), 11), (yX11_written, cX11_written, 2, (some .int), 11), (yX11_count, cX11_count, 2, (some .int), 11), (yX11_isFarm, cX11_isFarm, 2, (some .boolean), 11), (yX11_isCow, cX11_isCow, 2, (some .boolean), 11), (yX11_isNews, cX11_isNews, 2, (some .boolean), 11), (yX11_cowsWith, cX11_cowsWith, 5, (some .int), 11), (yX12_thrown, cX12_thrown, 1, (some .int), 12), (yX12_throwsIf, cX12_throwsIf, 2, (some .boolean), 12), (yX12_four, cX12_four, 3, none, 12), (yX12_end, cX12_end, 2, (some .boolean), 12), (yX12_taken, cX12_taken, 2, none, 12), (yX12_isIn, cX12_isIn, 3, (some .boolean), 12), (yX12_bitOf, cX12_bitOf, 2, (some .boolean), 12), (yX12_greater, cX12_greater, 2, (some .int), 12), (yX12_absolute, cX12_absolute, 1, (some .int), 12), (yX12_bits, cX12_bits, 3, (some .int), 12), (yX12_octet, cX12_octet, 2, (some .int), 12), (yX12_peek, cX12_peek, 1, (some .int), 12), (yX12_isSmall, cX12_isSmall, 1, (some .boolean), 12), (yX12_isDigit, cX12_isDigit, 1, (some .boolean), 12), (yX12_bad, cX12_bad, 2, (some .boolean), 12), (yX12_isWord, cX12_isWord, 3, (some .boolean), 12), (yX12_isSign, cX12_isSign, 2, (some .boolean), 12), (yX12_isName, cX12_isName, 3, (some .boolean), 12)]
def nc_mi_1 : List (MethodName × ByteArray × Nat × Option FieldType × Nat) := [(yX12_seek, cX12_seek, 4, (some .int), 12), (yX12_fault, cX12_fault, 1, (some .int), 12), (yX12_knows, cX12_knows, 4, (some .boolean), 12), (yX12_isCurdled, cX12_isCurdled, 2, (some .boolean), 12), (yX12_cowsOf, cX12_cowsOf, 4, (some .int), 12), (yX12_talks, cX12_talks, 2, (some .boolean), 12), (yX12_allPails, cX12_allPails, 1, (some .int), 12), (yX12_keep, cX12_keep, 2, none, 12), (yX12_undo, cX12_undo, 2, (some .int), 12), (yX12_tries, cX12_tries, 2, none, 12), (yX12_back, cX12_back, 2, none, 12), (yX12_peace, cX12_peace, 3, (some .int), 12), (yX12_tellsSet, cX12_tellsSet, 2, none, 12), (yX12_told, cX12_told, 1, (some .int), 12), (yX12_digit, cX12_digit, 6, (some .int), 12), (yX12_parted, cX12_parted, 1, (some .int), 12), (yX12_surely, cX12_surely, 1, (some .int), 12), (yX12_ask, cX12_ask, 1, (some .int), 12), (yX12_draw, cX12_draw, 2, (some .int), 12), (yX12_code, cX12_code, 4, none, 12), (yJ6_bitCount_0f7a4, cJ6_bitCount_0f7a4, 1, (some .int), 13), (yJ7_fill_d0a16, cJ7_fill_d0a16, 5, none, 14), (yJ7_fill_53178, cJ7_fill_53178, 4, none, 14), (yX10_mustBeSign, cX10_mustBeSign, 2, (some .boolean), 10), (yX2_named, cX2_named, 5, (some .int), 2), (yX10_nextNumber, cX10_nextNumber, 3, (some .boolean), 10), (yX9_readPlainOne, cX9_readPlainOne, 6, (some .boolean), 9), (yX7_sumOf, cX7_sumOf, 5, (some .int), 7), (yX7_whyNotTold, cX7_whyNotTold, 3, (some .int), 7), (yX8_weigh, cX8_weigh, 2, none, 8), (yX7_milk, cX7_milk, 2, (some .int), 7), (yX8_goLast, cX8_goLast, 11, none, 8), (yX7_copyFrom, cX7_copyFrom, 2, none, 7), (yX7_hear, cX7_hear, 4, none, 7), (yX7_allComes, cX7_allComes, 4, none, 7), (yX7_talk, cX7_talk, 3, none, 7), (yX7_turn, cX7_turn, 2, none, 7), (yX9_readOne, cX9_readOne, 6, (some .boolean), 9), (yX9_readAll, cX9_readAll, 5, (some .boolean), 9), (yX9_readCond, cX9_readCond, 5, (some .boolean), 9), (yX9_readOne, cX9_readOne, 6, (some .boolean), 9), (yX9_readAll, cX9_readAll, 5, (some .boolean), 9), (yX9_readCond, cX9_readCond, 5, (some .boolean), 9), (yX9_readOne, cX9_readOne, 6, (some .boolean), 9), (yX9_readAll, cX9_readAll, 5, (some .boolean), 9), (yX9_readCond, cX9_readCond, 5, (some .boolean), 9), (yX9_readOne, cX9_readOne, 6, (some .boolean), 9), (yX9_readAll, cX9_readAll, 5, (some .boolean), 9), (yX9_readCond, cX9_readCond, 5, (some .boolean), 9), (yX9_readOne, cX9_readOne, 6, (some .boolean), 9), (yX9_readAll, cX9_readAll, 5, (some .boolean), 9), (yX9_readCond, cX9_readCond, 5, (some .boolean), 9), (yX9_readOne, cX9_readOne, 6, (some .boolean), 9), (yX9_readAll, cX9_readAll, 5, (some .boolean), 9), (yX9_readCond, cX9_readCond, 5, (some .boolean), 9), (yX9_readOne, cX9_readOne, 6, (some .boolean), 9), (yX9_readAll, cX9_readAll, 5, (some .boolean), 9), (yX9_readCond, cX9_readCond, 5, (some .boolean), 9), (yX9_readOne, cX9_readOne, 6, (some .boolean), 9), (yX9_readAll, cX9_readAll, 5, (some .boolean), 9), (yX9_readCond, cX9_readCond, 5, (some .boolean), 9), (yX9_readOne, cX9_readOne, 6, (some .boolean), 9), (yX9_readAll, cX9_readAll, 5, (some .boolean), 9), (yX9_readCond, cX9_readCond, 5, (some .boolean), 9)]
def nc_mi_2 : List (MethodName × ByteArray × Nat × Option FieldType × Nat) := [(yX8_go, cX8_go, 9, none, 8), (yX8_go, cX8_go, 9, none, 8), (yX8_go, cX8_go, 9, none, 8), (yX10_addRun, cX10_addRun, 8, (some .int), 10), (yX10_start, cX10_start, 6, none, 10), (yX10_nextLine, cX10_nextLine, 1, (some .boolean), 10), (yX0_readArg, cX0_readArg, 3, (some .int), 0), (yX10_closesLine, cX10_closesLine, 1, (some .boolean), 10), (yX0_readLine, cX0_readLine, 7, (some .boolean), 0), (yX10_mustEnd, cX10_mustEnd, 1, (some .boolean), 10), (yX0_read, cX0_read, 4, (some .boolean), 0), (yX7_fillPails, cX7_fillPails, 5, none, 7), (yX7_goDays, cX7_goDays, 4, (some .int), 7), (yX7_whyNotFound, cX7_whyNotFound, 2, (some .int), 7), (yX7_wouldDoubt, cX7_wouldDoubt, 3, (some .boolean), 7), (yX7_wouldDry, cX7_wouldDry, 4, (some .int), 7), (yX7_findOut, cX7_findOut, 4, none, 7), (yX0_live, cX0_live, 4, (some .int), 0), (yX0_judge, cX0_judge, 3, (some .int), 0), (yX1_lookAt, cX1_lookAt, 6, none, 1), (yX1_milkBy, cX1_milkBy, 2, (some .int), 1), (yX1_bestOf, cX1_bestOf, 8, (some .int), 1), (yX1_most, cX1_most, 2, (some .int), 1), (yX1_mostWithoutLies, cX1_mostWithoutLies, 2, (some .int), 1), (yX1_isLess, cX1_isLess, 4, (some .boolean), 1), (yX1_fewestLies, cX1_fewestLies, 8, (some .int), 1), (yX1_mostEven, cX1_mostEven, 6, (some .int), 1), (yX1_setsThatGive, cX1_setsThatGive, 8, (some .int), 1), (yX2_clear, cX2_clear, 1, none, 2), (yX2_copyFrom, cX2_copyFrom, 2, none, 2), (yX2_nextNewName, cX2_nextNewName, 3, (some .boolean), 2), (yX2_hasHedge, cX2_hasHedge, 3, (some .boolean), 2), (yX2_fewestBetween, cX2_fewestBetween, 5, (some .int), 2), (yX3_readFarm, cX3_readFarm, 2, (some .boolean), 3), (yX3_readCow, cX3_readCow, 3, (some .boolean), 3), (yX3_readNews, cX3_readNews, 3, (some .boolean), 3), (yX3_readHedge, cX3_readHedge, 4, (some .boolean), 3), (yX3_readHears, cX3_readHears, 1, (some .boolean), 3), (yX3_readLine, cX3_readLine, 1, (some .boolean), 3), (yX3_read, cX3_read, 2, (some .boolean), 3), (yX4_tellAndFind, cX4_tellAndFind, 5, none, 4), (yX5_keep, cX5_keep, 3, none, 5), (yX5_takeBack, cX5_takeBack, 3, (some .int), 5), (yX7_clear, cX7_clear, 1, none, 7), (yX8_seek, cX8_seek, 4, (some .int), 8), (yX9_copyFrom, cX9_copyFrom, 2, none, 9), (yX9_read, cX9_read, 3, (some .boolean), 9), (yX9_isSo, cX9_isSo, 4, (some .boolean), 9), (yX9_holds, cX9_holds, 6, (some .boolean), 9), (yX11_feed, cX11_feed, 6, (some .int), 11), (yX11_dairy, cX11_dairy, 2, (some .int), 11), (yX11_cow, cX11_cow, 3, (some .int), 11), (yX11_news, cX11_news, 3, (some .int), 11), (yX11_milkOfFarm, cX11_milkOfFarm, 4, (some .int), 11), (yX11_farm, cX11_farm, 3, (some .int), 11), (yX11_now, cX11_now, 2, (some .int), 11), (yX11_why, cX11_why, 3, (some .int), 11), (yX11_tell, cX11_tell, 4, (some .int), 11), (yX11_find, cX11_find, 3, (some .int), 11), (yX11_days, cX11_days, 2, (some .int), 11), (yX11_undo, cX11_undo, 1, (some .int), 11), (yX11_canBeTold, cX11_canBeTold, 2, (some .boolean), 11), (yX11_best, cX11_best, 2, (some .int), 11), (yX11_least, cX11_least, 3, (some .int), 11)]
def nc_mi_3 : List (MethodName × ByteArray × Nat × Option FieldType × Nat) := [(yX11_honest, cX11_honest, 2, (some .int), 11), (yX11_plan, cX11_plan, 3, (some .int), 11), (yX11_allKnow, cX11_allKnow, 4, (some .int), 11), (yX11_part, cX11_part, 3, (some .int), 11), (yX11_tasted, cX11_tasted, 3, (some .int), 11), (yX11_dries, cX11_dries, 2, (some .int), 11), (yX11_fits, cX11_fits, 5, (some .boolean), 11), (yX11_week, cX11_week, 4, (some .int), 11), (yX11_pails, cX11_pails, 3, (some .int), 11), (yX11_ahead, cX11_ahead, 2, (some .int), 11), (yX11_drawn, cX11_drawn, 5, (some .int), 11), (yX11_driesByDraws, cX11_driesByDraws, 3, (some .boolean), 11), (yX11_odds, cX11_odds, 6, (some .int), 11), (yX11_book, cX11_book, 4, (some .int), 11), (yX11_sentence, cX11_sentence, 2, (some .int), 11), (yX11_said, cX11_said, 4, (some .int), 11), (yX11_image, cX11_image, 3, (some .boolean), 11), (yX11_restore, cX11_restore, 3, (some .boolean), 11), (yX12_feed, cX12_feed, 6, (some .int), 12), (yX12_next, cX12_next, 4, none, 12), (yX12_sign, cX12_sign, 2, (some .boolean), 12), (yX12_takes, cX12_takes, 3, (some .boolean), 12), (yX12_puts, cX12_puts, 4, (some .boolean), 12), (yX12_fresh, cX12_fresh, 2, (some .boolean), 12), (yX12_looksAt, cX12_looksAt, 3, (some .boolean), 12), (yX12_takesName, cX12_takesName, 3, (some .boolean), 12), (yX12_kindOf, cX12_kindOf, 1, (some .int), 12), (yX12_readNews, cX12_readNews, 2, (some .boolean), 12), (yX12_readHedge, cX12_readHedge, 5, (some .boolean), 12), (yX12_line, cX12_line, 2, (some .boolean), 12), (yX12_dairy, cX12_dairy, 2, (some .int), 12), (yX12_isFarm, cX12_isFarm, 2, (some .boolean), 12), (yX12_isCow, cX12_isCow, 2, (some .boolean), 12), (yX12_isNews, cX12_isNews, 2, (some .boolean), 12), (yX12_isDry, cX12_isDry, 2, (some .boolean), 12), (yX12_isLie, cX12_isLie, 2, (some .boolean), 12), (yX12_known, cX12_known, 4, (some .int), 12), (yX12_hasOther, cX12_hasOther, 5, (some .boolean), 12), (yX12_milkBy, cX12_milkBy, 8, (some .int), 12), (yX12_milkWith, cX12_milkWith, 4, (some .int), 12), (yX12_milk, cX12_milk, 2, (some .int), 12), (yX12_cow, cX12_cow, 3, (some .int), 12), (yX12_news, cX12_news, 6, (some .int), 12), (yX12_milkOf, cX12_milkOf, 4, (some .int), 12), (yX12_farm, cX12_farm, 5, (some .int), 12), (yX12_now, cX12_now, 4, (some .int), 12), (yX12_whyTell, cX12_whyTell, 3, (some .int), 12), (yX12_tells, cX12_tells, 3, none, 12), (yX12_whyFind, cX12_whyFind, 2, (some .int), 12), (yX12_driedBy, cX12_driedBy, 4, (some .int), 12), (yX12_finds, cX12_finds, 4, none, 12), (yX12_comesTo, cX12_comesTo, 6, none, 12), (yX12_day, cX12_day, 2, none, 12), (yX12_goesOn, cX12_goesOn, 3, (some .int), 12), (yX12_tell, cX12_tell, 4, (some .int), 12), (yX12_find, cX12_find, 3, (some .int), 12), (yX12_days, cX12_days, 2, (some .int), 12), (yX12_why, cX12_why, 3, (some .int), 12), (yX12_mayHear, cX12_mayHear, 3, (some .boolean), 12), (yX12_bestOf, cX12_bestOf, 7, (some .int), 12), (yX12_best, cX12_best, 3, (some .int), 12), (yX12_least, cX12_least, 7, (some .int), 12), (yX12_honest, cX12_honest, 2, (some .int), 12), (yX12_planned, cX12_planned, 8, (some .int), 12)]
def nc_mi_4 : List (MethodName × ByteArray × Nat × Option FieldType × Nat) := [(yX12_plan, cX12_plan, 8, (some .int), 12), (yX12_planAt, cX12_planAt, 2, (some .int), 12), (yX12_allKnow, cX12_allKnow, 6, (some .int), 12), (yX12_comes, cX12_comes, 7, (some .boolean), 12), (yX12_part, cX12_part, 6, (some .int), 12), (yX12_tasted, cX12_tasted, 6, (some .int), 12), (yX12_dries, cX12_dries, 2, (some .int), 12), (yX12_isPast, cX12_isPast, 2, (some .boolean), 12), (yX12_week, cX12_week, 5, (some .int), 12), (yX12_pails, cX12_pails, 3, (some .int), 12), (yX12_ahead, cX12_ahead, 4, (some .int), 12), (yX12_draws, cX12_draws, 6, (some .int), 12), (yX12_drawn, cX12_drawn, 3, (some .int), 12), (yX12_odds, cX12_odds, 6, (some .int), 12), (yX12_bookLine, cX12_bookLine, 4, (some .boolean), 12), (yX12_does, cX12_does, 5, (some .int), 12), (yX12_book, cX12_book, 4, (some .int), 12), (yX12_written, cX12_written, 2, (some .int), 12), (yX12_joins, cX12_joins, 2, none, 12), (yX12_nots, cX12_nots, 1, none, 12), (yX12_leafOf, cX12_leafOf, 1, (some .int), 12), (yX12_operand, cX12_operand, 5, (some .boolean), 12), (yX12_behind, cX12_behind, 1, (some .boolean), 12), (yX12_sentence, cX12_sentence, 3, (some .int), 12), (yX12_isLeaf, cX12_isLeaf, 6, (some .boolean), 12), (yX12_isSaid, cX12_isSaid, 5, (some .boolean), 12), (yX12_said, cX12_said, 4, (some .int), 12), (yX12_image, cX12_image, 3, (some .boolean), 12), (yX12_restore, cX12_restore, 3, (some .boolean), 12), (yX12_count, cX12_count, 2, (some .int), 12)]
def nc_mi : List (MethodName × ByteArray × Nat × Option FieldType × Nat) := nc_mi_0 ++ (nc_mi_1 ++ (nc_mi_2 ++ (nc_mi_3 ++ (nc_mi_4))))
def nc_inf (M : Nat) : MethodName × ByteArray × Nat × Option FieldType × Nat := (nc_mi[M]?).getD (⟨"", "", ""⟩, ⟨#[]⟩, 0, none, 99)
def nc_y (M : Nat) : MethodName := (nc_inf M).1
def nc_b (M : Nat) : ByteArray := (nc_inf M).2.1
def nc_mL_l : List (Nat) := [2, 3, 2, 1, 1, 4, 4, 8, 2, 1, 2, 2, 3, 5, 4, 4, 3, 3, 3, 1, 4, 3, 3, 1, 1, 3, 2, 4, 6, 1, 2, 1, 2, 2, 1, 1, 2, 1, 1, 1, 2, 2, 2, 2, 2, 5, 1, 2, 3, 2, 2, 3, 2, 2, 1, 3, 2, 1, 1, 1, 2, 3, 2, 3, 4, 1, 4, 2, 4, 2, 1, 2, 2, 2, 2, 3, 2, 1, 6, 1, 1, 1, 2, 4, 1, 5, 4, 2, 5, 3, 6, 5, 3, 2, 2, 11, 2, 4, 4, 3, 2, 6, 5, 5, 6, 5, 5, 6, 5, 5, 6, 5, 5, 6, 5, 5, 6, 5, 5, 6, 5, 5, 6, 5, 5, 6, 5, 5, 9, 9, 9, 8, 6, 1, 3, 1, 7, 1, 4, 5, 4, 2, 3, 4, 4, 4, 3, 6, 2, 8, 2, 2, 4, 8, 6, 8, 1, 2, 3, 3, 5, 2, 3, 3, 4, 1, 1, 2, 5, 3, 3, 1, 4, 2, 3, 4, 6, 6, 2, 3, 3, 4, 3, 2, 3, 4, 3, 2, 1, 2, 2, 3, 2, 3, 4, 3, 3, 2, 5, 4, 3, 2, 5, 3, 6, 4, 2, 4, 3, 3, 6, 4, 2, 3, 4, 2, 3, 3, 1, 2, 5, 2, 2, 2, 2, 2, 2, 2, 4, 5, 8, 4, 2, 3, 6, 4, 5, 4, 3, 3, 2, 4, 4, 6, 2, 3, 4, 3, 2, 3, 3, 7, 3, 7, 2, 8, 8, 2, 6, 7, 6, 6, 2, 2, 5, 3, 4, 6, 3, 6, 4, 5, 4, 2, 2, 1, 1, 5, 1, 3, 6, 5, 4, 3, 3, 2]
def nc_mL (M : Nat) : Nat := (nc_mL_l[M]?).getD 0
def nc_own_l : List (Nat) := [1, 1, 2, 2, 2, 2, 2, 2, 4, 5, 7, 7, 7, 7, 7, 7, 7, 7, 7, 9, 9, 9, 10, 10, 10, 10, 10, 10, 10, 10, 10, 10, 10, 11, 11, 11, 11, 11, 11, 11, 11, 11, 11, 11, 11, 11, 12, 12, 12, 12, 12, 12, 12, 12, 12, 12, 12, 12, 12, 12, 12, 12, 12, 12, 12, 12, 12, 12, 12, 12, 12, 12, 12, 12, 12, 12, 12, 12, 12, 12, 12, 12, 12, 12, 13, 14, 14, 10, 2, 10, 9, 7, 7, 8, 7, 8, 7, 7, 7, 7, 7, 9, 9, 9, 9, 9, 9, 9, 9, 9, 9, 9, 9, 9, 9, 9, 9, 9, 9, 9, 9, 9, 9, 9, 9, 9, 9, 9, 8, 8, 8, 10, 10, 10, 0, 10, 0, 10, 0, 7, 7, 7, 7, 7, 7, 0, 0, 1, 1, 1, 1, 1, 1, 1, 1, 1, 2, 2, 2, 2, 2, 3, 3, 3, 3, 3, 3, 3, 4, 5, 5, 7, 8, 9, 9, 9, 9, 11, 11, 11, 11, 11, 11, 11, 11, 11, 11, 11, 11, 11, 11, 11, 11, 11, 11, 11, 11, 11, 11, 11, 11, 11, 11, 11, 11, 11, 11, 11, 11, 11, 12, 12, 12, 12, 12, 12, 12, 12, 12, 12, 12, 12, 12, 12, 12, 12, 12, 12, 12, 12, 12, 12, 12, 12, 12, 12, 12, 12, 12, 12, 12, 12, 12, 12, 12, 12, 12, 12, 12, 12, 12, 12, 12, 12, 12, 12, 12, 12, 12, 12, 12, 12, 12, 12, 12, 12, 12, 12, 12, 12, 12, 12, 12, 12, 12, 12, 12, 12, 12, 12, 12, 12, 12, 12, 12, 12]
def nc_own (M : Nat) : Nat := (nc_own_l[M]?).getD 99
def nc_rk_l : List (Nat) := [1, 0, 3, 1, 1, 1, 1, 3, 1, 0, 3, 3, 0, 1, 1, 1, 0, 1, 1, 0, 0, 3, 2, 3, 3, 0, 1, 1, 0, 0, 3, 1, 3, 3, 1, 1, 1, 1, 1, 1, 1, 1, 3, 3, 3, 1, 1, 3, 0, 3, 0, 3, 3, 1, 1, 1, 1, 1, 3, 3, 3, 3, 3, 3, 1, 1, 3, 3, 1, 3, 1, 0, 1, 0, 0, 1, 0, 1, 1, 1, 1, 1, 1, 0, 1, 0, 0, 3, 1, 3, 3, 1, 1, 0, 1, 0, 0, 0, 0, 0, 0, 3, 3, 3, 3, 3, 3, 3, 3, 3, 3, 3, 3, 3, 3, 3, 3, 3, 3, 3, 3, 3, 3, 3, 3, 3, 3, 3, 0, 0, 0, 1, 0, 3, 1, 3, 3, 3, 3, 0, 1, 1, 3, 1, 0, 1, 1, 0, 1, 1, 1, 1, 3, 1, 1, 1, 0, 0, 3, 3, 1, 3, 3, 3, 3, 3, 3, 3, 0, 0, 1, 0, 1, 0, 3, 3, 3, 1, 1, 1, 1, 1, 1, 1, 1, 1, 1, 1, 1, 3, 1, 1, 1, 1, 1, 1, 1, 1, 3, 1, 1, 1, 1, 3, 1, 1, 1, 1, 3, 3, 1, 0, 3, 3, 3, 3, 3, 3, 1, 3, 3, 3, 1, 3, 3, 3, 3, 3, 1, 3, 1, 1, 1, 1, 1, 1, 1, 1, 1, 0, 1, 1, 0, 0, 0, 1, 1, 1, 1, 1, 3, 1, 1, 1, 1, 1, 1, 1, 1, 3, 1, 1, 1, 3, 1, 1, 1, 1, 1, 1, 3, 1, 1, 1, 0, 0, 1, 3, 3, 1, 3, 3, 1, 3, 3, 1]
def nc_rk (M : Nat) : Nat := (nc_rk_l[M]?).getD 9
def nc_rt (k : Nat) : Option FieldType := match k with
  | 0 => none
  | 1 => some .int
  | 2 => some .long
  | _ => some .boolean
def nc_c_X1_setAfter : List (Nat × Instr × Nat) := [(0, .iload_n 0, 1), (1, .iload_n 1, 1), (2, .isub, 1), (3, .iload_n 1, 1), (4, .iand, 1), (5, .ireturn, 1)]
def nc_c_X1_countNews : List (Nat × Instr × Nat) := [(0, .iconst 0, 1), (1, .istore_n 2, 1), (2, .iload_n 2, 1), (3, .aload_n 0, 1), (4, .getfield 28, 3), (7, .getfield 94, 3), (10, .if_icmp .ge 23, 3), (13, .aload_n 0, 1), (14, .getfield 15, 3), (17, .iload_n 2, 1), (18, .dup2, 1), (19, .iaload, 1), (20, .iload_n 1, 1), (21, .iload_n 2, 1), (22, .ishr, 1), (23, .iconst 1, 1), (24, .iand, 1), (25, .iadd, 1), (26, .iastore, 1), (27, .iinc 2 1, 3), (30, .goto (-28), 3), (33, .return_, 1)]
def nc_c_X2_isLie : List (Nat × Instr × Nat) := [(0, .aload_n 0, 1), (1, .getfield 65, 3), (4, .iload_n 1, 1), (5, .ishr, 1), (6, .iconst 1, 1), (7, .iand, 1), (8, .iconst 1, 1), (9, .if_icmp .ne 7, 3), (12, .iconst 1, 1), (13, .goto 4, 3), (16, .iconst 0, 1), (17, .ireturn, 1)]
def nc_c_X2_allCows : List (Nat × Instr × Nat) := [(0, .iconst 1, 1), (1, .aload_n 0, 1), (2, .getfield 56, 3), (5, .ishl, 1), (6, .iconst 1, 1), (7, .isub, 1), (8, .ireturn, 1)]
def nc_c_X2_allNews : List (Nat × Instr × Nat) := [(0, .iconst 1, 1), (1, .aload_n 0, 1), (2, .getfield 59, 3), (5, .ishl, 1), (6, .iconst 1, 1), (7, .isub, 1), (8, .ireturn, 1)]
def nc_c_X2_slotOf : List (Nat × Instr × Nat) := [(0, .iconst 0, 1), (1, .istore_n 3, 1), (2, .iload_n 3, 1), (3, .bipush 22, 2), (5, .if_icmp .ge 22, 3), (8, .aload_n 0, 1), (9, .getfield 15, 3), (12, .iload_n 3, 1), (13, .laload, 1), (14, .lload_n 1, 1), (15, .lcmp, 1), (16, .ifCond .ne 5, 3), (19, .iload_n 3, 1), (20, .ireturn, 1), (21, .iinc 3 1, 3), (24, .goto (-22), 3), (27, .iconst (-1), 1), (28, .ireturn, 1)]
def nc_c_X2_hedgesOf : List (Nat × Instr × Nat) := [(0, .iconst 0, 1), (1, .istore_n 2, 1), (2, .iconst 0, 1), (3, .istore_n 3, 1), (4, .iload_n 3, 1), (5, .aload_n 0, 1), (6, .getfield 62, 3), (9, .if_icmp .ge 35, 3), (12, .aload_n 0, 1), (13, .getfield 41, 3), (16, .iload_n 3, 1), (17, .iaload, 1), (18, .iload_n 1, 1), (19, .if_icmp .eq 13, 3), (22, .aload_n 0, 1), (23, .getfield 44, 3), (26, .iload_n 3, 1), (27, .iaload, 1), (28, .iload_n 1, 1), (29, .if_icmp .ne 9, 3), (32, .iload_n 2, 1), (33, .iconst 1, 1), (34, .iload_n 3, 1), (35, .ishl, 1), (36, .ior, 1), (37, .istore_n 2, 1), (38, .iinc 3 1, 3), (41, .goto (-37), 3), (44, .iload_n 2, 1), (45, .ireturn, 1)]
def nc_c_X2_comesTo : List (Nat × Instr × Nat) := [(0, .iconst 1, 1), (1, .iload_n 1, 1), (2, .ishl, 1), (3, .istore 4, 2), (5, .iconst 1, 1), (6, .istore 5, 2), (8, .iload 5, 2), (10, .aload_n 0, 1), (11, .getfield 53, 3), (14, .if_icmp .ge 72, 3), (17, .iconst 0, 1), (18, .istore 6, 2), (20, .iload 6, 2), (22, .aload_n 0, 1), (23, .getfield 62, 3), (26, .if_icmp .ge 54, 3), (29, .iconst 1, 1), (30, .aload_n 0, 1), (31, .getfield 41, 3), (34, .iload 6, 2), (36, .iaload, 1), (37, .ishl, 1), (38, .iconst 1, 1), (39, .aload_n 0, 1), (40, .getfield 44, 3), (43, .iload 6, 2), (45, .iaload, 1), (46, .ishl, 1), (47, .ior, 1), (48, .istore 7, 2), (50, .iload_n 3, 1), (51, .iload 6, 2), (53, .ishr, 1), (54, .iconst 1, 1), (55, .iand, 1), (56, .ifCond .ne 18, 3), (59, .iload 4, 2), (61, .iload 7, 2), (63, .iand, 1), (64, .ifCond .eq 10, 3), (67, .iload 4, 2), (69, .iload 7, 2), (71, .ior, 1), (72, .istore 4, 2), (74, .iinc 6 1, 3), (77, .goto (-57), 3), (80, .iinc 5 1, 3), (83, .goto (-75), 3), (86, .iload 4, 2), (88, .iload_n 2, 1), (89, .ishr, 1), (90, .iconst 1, 1), (91, .iand, 1), (92, .iconst 1, 1), (93, .if_icmp .ne 7, 3), (96, .iconst 1, 1), (97, .goto 4, 3), (100, .iconst 0, 1), (101, .ireturn, 1)]
def nc_c_X4_draw : List (Nat × Instr × Nat) := [(0, .aload_n 0, 1), (1, .aload_n 0, 1), (2, .getfield 7, 3), (5, .ldc 13, 2), (7, .imul, 1), (8, .sipush 12345, 3), (11, .iadd, 1), (12, .putfield 7, 3), (15, .iload_n 1, 1), (16, .ifCond .le 15, 3), (19, .aload_n 0, 1), (20, .getfield 7, 3), (23, .bipush 8, 2), (25, .iushr, 1), (26, .iload_n 1, 1), (27, .irem, 1), (28, .goto 4, 3), (31, .iconst 0, 1), (32, .ireturn, 1)]
def nc_c_X5_clear : List (Nat × Instr × Nat) := [(0, .aload_n 0, 1), (1, .iconst 0, 1), (2, .putfield 20, 3), (5, .return_, 1)]
def nc_c_X7_isDry : List (Nat × Instr × Nat) := [(0, .aload_n 0, 1), (1, .getfield 65, 3), (4, .iload_n 1, 1), (5, .ishr, 1), (6, .iconst 1, 1), (7, .iand, 1), (8, .iconst 1, 1), (9, .if_icmp .ne 7, 3), (12, .iconst 1, 1), (13, .goto 4, 3), (16, .iconst 0, 1), (17, .ireturn, 1)]
def nc_c_X7_isCurdled : List (Nat × Instr × Nat) := [(0, .aload_n 0, 1), (1, .getfield 58, 3), (4, .aload_n 0, 1), (5, .getfield 27, 3), (8, .iload_n 1, 1), (9, .iaload, 1), (10, .isub, 1), (11, .bipush 6, 2), (13, .if_icmp .gt 7, 3), (16, .iconst 1, 1), (17, .goto 4, 3), (20, .iconst 0, 1), (21, .ireturn, 1)]
def nc_c_X7_comes : List (Nat × Instr × Nat) := [(0, .aload_n 0, 1), (1, .getfield 15, 3), (4, .iload_n 1, 1), (5, .dup2, 1), (6, .iaload, 1), (7, .iconst 1, 1), (8, .iload_n 2, 1), (9, .ishl, 1), (10, .ior, 1), (11, .iastore, 1), (12, .aload_n 0, 1), (13, .getfield 9, 3), (16, .iload_n 1, 1), (17, .bipush 10, 2), (19, .imul, 1), (20, .iload_n 2, 1), (21, .iadd, 1), (22, .aload_n 0, 1), (23, .getfield 58, 3), (26, .iastore, 1), (27, .return_, 1)]
def nc_c_X7_addedBy : List (Nat × Instr × Nat) := [(0, .aload_n 0, 1), (1, .getfield 48, 3), (4, .getfield 96, 3), (7, .iload_n 1, 1), (8, .iaload, 1), (9, .ifCond .eq 18, 3), (12, .aload_n 0, 1), (13, .getfield 48, 3), (16, .getfield 96, 3), (19, .iload_n 1, 1), (20, .iaload, 1), (21, .iconst 1, 1), (22, .if_icmp .eq 5, 3), (25, .iconst 0, 1), (26, .ireturn, 1), (27, .aload_n 0, 1), (28, .getfield 48, 3), (31, .getfield 143, 3), (34, .iload_n 1, 1), (35, .iaload, 1), (36, .istore 4, 2), (38, .aload_n 0, 1), (39, .getfield 48, 3), (42, .getfield 140, 3), (45, .aload_n 0, 1), (46, .getfield 68, 3), (49, .iconst (-1), 1), (50, .ixor, 1), (51, .iand, 1), (52, .iload_n 1, 1), (53, .ishr, 1), (54, .iconst 1, 1), (55, .iand, 1), (56, .iconst 1, 1), (57, .if_icmp .ne 6, 3), (60, .iinc 4 5, 3), (63, .aload_n 0, 1), (64, .getfield 48, 3), (67, .getfield 96, 3), (70, .iload_n 1, 1), (71, .iaload, 1), (72, .iconst 1, 1), (73, .if_icmp .ne 18, 3), (76, .iload_n 2, 1), (77, .iload_n 1, 1), (78, .ishr, 1), (79, .iconst 1, 1), (80, .iand, 1), (81, .iconst 1, 1), (82, .if_icmp .ne 9, 3), (85, .iload 4, 2), (87, .iconst 2, 1), (88, .imul, 1), (89, .istore 4, 2), (91, .iload_n 3, 1), (92, .iload_n 1, 1), (93, .ishr, 1), (94, .iconst 1, 1), (95, .iand, 1), (96, .iconst 1, 1), (97, .if_icmp .ne 10, 3), (100, .iload 4, 2), (102, .iconst 2, 1), (103, .idiv, 1), (104, .goto 5, 3), (107, .iload 4, 2), (109, .ireturn, 1)]
def nc_c_X7_heardByOthers : List (Nat × Instr × Nat) := [(0, .iconst 0, 1), (1, .istore_n 2, 1), (2, .iconst 0, 1), (3, .istore_n 3, 1), (4, .iload_n 3, 1), (5, .aload_n 0, 1), (6, .getfield 48, 3), (9, .getfield 105, 3), (12, .if_icmp .ge 44, 3), (15, .iload_n 3, 1), (16, .iload_n 1, 1), (17, .if_icmp .eq 33, 3), (20, .aload_n 0, 1), (21, .getfield 48, 3), (24, .getfield 146, 3), (27, .iload_n 3, 1), (28, .iaload, 1), (29, .aload_n 0, 1), (30, .getfield 48, 3), (33, .getfield 146, 3), (36, .iload_n 1, 1), (37, .iaload, 1), (38, .if_icmp .ne 12, 3), (41, .iload_n 2, 1), (42, .aload_n 0, 1), (43, .getfield 18, 3), (46, .iload_n 3, 1), (47, .iaload, 1), (48, .ior, 1), (49, .istore_n 2, 1), (50, .iinc 3 1, 3), (53, .goto (-49), 3), (56, .iload_n 2, 1), (57, .ireturn, 1)]
def nc_c_X7_talking : List (Nat × Instr × Nat) := [(0, .iconst 0, 1), (1, .istore_n 1, 1), (2, .iconst 0, 1), (3, .istore_n 2, 1), (4, .iload_n 2, 1), (5, .aload_n 0, 1), (6, .getfield 48, 3), (9, .getfield 161, 3), (12, .if_icmp .ge 40, 3), (15, .aload_n 0, 1), (16, .getfield 48, 3), (19, .getfield 164, 3), (22, .iload_n 2, 1), (23, .iaload, 1), (24, .istore_n 3, 1), (25, .iload_n 3, 1), (26, .ifCond .le 20, 3), (29, .aload_n 0, 1), (30, .getfield 58, 3), (33, .iconst 1, 1), (34, .iadd, 1), (35, .iload_n 3, 1), (36, .irem, 1), (37, .ifCond .ne 9, 3), (40, .iload_n 1, 1), (41, .iconst 1, 1), (42, .iload_n 2, 1), (43, .ishl, 1), (44, .ior, 1), (45, .istore_n 1, 1), (46, .iinc 2 1, 3), (49, .goto (-45), 3), (52, .iload_n 1, 1), (53, .ireturn, 1)]
def nc_c_X7_forget : List (Nat × Instr × Nat) := [(0, .iconst 0, 1), (1, .istore_n 2, 1), (2, .iload_n 2, 1), (3, .aload_n 0, 1), (4, .getfield 48, 3), (7, .getfield 133, 3), (10, .if_icmp .ge 62, 3), (13, .aload_n 0, 1), (14, .getfield 15, 3), (17, .iload_n 1, 1), (18, .iaload, 1), (19, .iload_n 2, 1), (20, .ishr, 1), (21, .ifCond .eq 51, 3), (24, .aload_n 0, 1), (25, .getfield 58, 3), (28, .aload_n 0, 1), (29, .getfield 9, 3), (32, .iload_n 1, 1), (33, .bipush 10, 2), (35, .imul, 1), (36, .iload_n 2, 1), (37, .iadd, 1), (38, .iaload, 1), (39, .isub, 1), (40, .aload_n 0, 1), (41, .getfield 48, 3), (44, .getfield 184, 3), (47, .iload_n 1, 1), (48, .iaload, 1), (49, .if_icmp .le 17, 3), (52, .aload_n 0, 1), (53, .getfield 15, 3), (56, .iload_n 1, 1), (57, .dup2, 1), (58, .iaload, 1), (59, .iconst 1, 1), (60, .iload_n 2, 1), (61, .ishl, 1), (62, .iconst (-1), 1), (63, .ixor, 1), (64, .iand, 1), (65, .iastore, 1), (66, .iinc 2 1, 3), (69, .goto (-67), 3), (72, .return_, 1)]
def nc_c_X7_allPails : List (Nat × Instr × Nat) := [(0, .iconst 0, 1), (1, .istore_n 1, 1), (2, .iconst 0, 1), (3, .istore_n 2, 1), (4, .iload_n 2, 1), (5, .iconst 4, 1), (6, .if_icmp .ge 18, 3), (9, .iload_n 1, 1), (10, .aload_n 0, 1), (11, .getfield 36, 3), (14, .iload_n 2, 1), (15, .iaload, 1), (16, .iadd, 1), (17, .istore_n 1, 1), (18, .iinc 2 1, 3), (21, .goto (-17), 3), (24, .iload_n 1, 1), (25, .ireturn, 1)]
def nc_c_X7_pailsOn : List (Nat × Instr × Nat) := [(0, .iload_n 2, 1), (1, .ifCond .lt 22, 3), (4, .iload_n 2, 1), (5, .aload_n 0, 1), (6, .getfield 58, 3), (9, .if_icmp .ge 14, 3), (12, .iload_n 2, 1), (13, .aload_n 0, 1), (14, .getfield 58, 3), (17, .bipush 30, 2), (19, .isub, 1), (20, .if_icmp .ge 5, 3), (23, .iconst (-1), 1), (24, .ireturn, 1), (25, .aload_n 0, 1), (26, .getfield 39, 3), (29, .iload_n 2, 1), (30, .bipush 30, 2), (32, .irem, 1), (33, .iconst 4, 1), (34, .imul, 1), (35, .iload_n 1, 1), (36, .iadd, 1), (37, .iaload, 1), (38, .ireturn, 1)]
def nc_c_X9_clear : List (Nat × Instr × Nat) := [(0, .aload_n 0, 1), (1, .iconst 0, 1), (2, .putfield 21, 3), (5, .aload_n 0, 1), (6, .iconst 0, 1), (7, .putfield 25, 3), (10, .return_, 1)]
def nc_c_X9_put : List (Nat × Instr × Nat) := [(0, .aload_n 0, 1), (1, .getfield 21, 3), (4, .bipush 40, 2), (6, .if_icmp .ge 43, 3), (9, .aload_n 0, 1), (10, .getfield 11, 3), (13, .aload_n 0, 1), (14, .getfield 21, 3), (17, .iload_n 1, 1), (18, .iastore, 1), (19, .aload_n 0, 1), (20, .getfield 15, 3), (23, .aload_n 0, 1), (24, .getfield 21, 3), (27, .iload_n 2, 1), (28, .iastore, 1), (29, .aload_n 0, 1), (30, .getfield 18, 3), (33, .aload_n 0, 1), (34, .getfield 21, 3), (37, .iload_n 3, 1), (38, .iastore, 1), (39, .aload_n 0, 1), (40, .dup, 1), (41, .getfield 21, 3), (44, .iconst 1, 1), (45, .iadd, 1), (46, .putfield 21, 3), (49, .return_, 1)]
def nc_c_X9_compares : List (Nat × Instr × Nat) := [(0, .aload_n 0, 1), (1, .getfield 15, 3), (4, .iload_n 2, 1), (5, .iaload, 1), (6, .bipush 60, 2), (8, .if_icmp .ne 19, 3), (11, .iload_n 1, 1), (12, .aload_n 0, 1), (13, .getfield 18, 3), (16, .iload_n 2, 1), (17, .iaload, 1), (18, .if_icmp .ge 7, 3), (21, .iconst 1, 1), (22, .goto 4, 3), (25, .iconst 0, 1), (26, .ireturn, 1), (27, .aload_n 0, 1), (28, .getfield 15, 3), (31, .iload_n 2, 1), (32, .iaload, 1), (33, .bipush 62, 2), (35, .if_icmp .ne 21, 3), (38, .iload_n 1, 1), (39, .aload_n 0, 1), (40, .getfield 18, 3), (43, .iload_n 2, 1), (44, .iaload, 1), (45, .if_icmp .le 7, 3), (48, .iconst 1, 1), (49, .goto 22, 3), (52, .iconst 0, 1), (53, .goto 18, 3), (56, .iload_n 1, 1), (57, .aload_n 0, 1), (58, .getfield 18, 3), (61, .iload_n 2, 1), (62, .iaload, 1), (63, .if_icmp .ne 7, 3), (66, .iconst 1, 1), (67, .goto 4, 3), (70, .iconst 0, 1), (71, .ireturn, 1)]
def nc_c_X10_withLetter : List (Nat × Instr × Nat) := [(0, .lload_n 0, 1), (1, .iconst 5, 1), (2, .lshl, 1), (3, .iload_n 2, 1), (4, .bipush 31, 2), (6, .iand, 1), (7, .i2l, 1), (8, .lor, 1), (9, .lreturn, 1)]
def nc_c_X10_isLetter : List (Nat × Instr × Nat) := [(0, .iload_n 0, 1), (1, .bipush 97, 2), (3, .if_icmp .lt 13, 3), (6, .iload_n 0, 1), (7, .bipush 122, 2), (9, .if_icmp .gt 7, 3), (12, .iconst 1, 1), (13, .goto 4, 3), (16, .iconst 0, 1), (17, .ireturn, 1)]
def nc_c_X10_isDigit : List (Nat × Instr × Nat) := [(0, .iload_n 0, 1), (1, .bipush 48, 2), (3, .if_icmp .lt 13, 3), (6, .iload_n 0, 1), (7, .bipush 57, 2), (9, .if_icmp .gt 7, 3), (12, .iconst 1, 1), (13, .goto 4, 3), (16, .iconst 0, 1), (17, .ireturn, 1)]
def nc_c_X10_append : List (Nat × Instr × Nat) := [(0, .bipush 24, 2), (2, .istore_n 2, 1), (3, .iload_n 2, 1), (4, .ifCond .lt 42, 3), (7, .aload_n 0, 1), (8, .getfield 48, 3), (11, .sipush 940, 3), (14, .if_icmp .ge 26, 3), (17, .aload_n 0, 1), (18, .getfield 9, 3), (21, .aload_n 0, 1), (22, .getfield 48, 3), (25, .iload_n 1, 1), (26, .iload_n 2, 1), (27, .iushr, 1), (28, .i2b, 1), (29, .bastore, 1), (30, .aload_n 0, 1), (31, .dup, 1), (32, .getfield 48, 3), (35, .iconst 1, 1), (36, .iadd, 1), (37, .putfield 48, 3), (40, .iinc 2 (-8), 3), (43, .goto (-40), 3), (46, .return_, 1)]
def nc_c_X10_at : List (Nat × Instr × Nat) := [(0, .iload_n 1, 1), (1, .ifCond .lt 23, 3), (4, .iload_n 1, 1), (5, .sipush 940, 3), (8, .if_icmp .ge 16, 3), (11, .aload_n 0, 1), (12, .getfield 9, 3), (15, .iload_n 1, 1), (16, .baload, 1), (17, .sipush 255, 3), (20, .iand, 1), (21, .goto 4, 3), (24, .iconst (-1), 1), (25, .ireturn, 1)]
def nc_c_X10_toldWord : List (Nat × Instr × Nat) := [(0, .iconst 0, 1), (1, .istore_n 3, 1), (2, .iload_n 3, 1), (3, .bipush 24, 2), (5, .if_icmp .ge 22, 3), (8, .aload_n 0, 1), (9, .getfield 15, 3), (12, .iload_n 3, 1), (13, .laload, 1), (14, .lload_n 1, 1), (15, .lcmp, 1), (16, .ifCond .ne 5, 3), (19, .iload_n 3, 1), (20, .ireturn, 1), (21, .iinc 3 1, 3), (24, .goto (-22), 3), (27, .iconst (-1), 1), (28, .ireturn, 1)]
def nc_c_X10_add : List (Nat × Instr × Nat) := [(0, .aload_n 0, 1), (1, .getfield 68, 3), (4, .sipush 901, 3), (7, .if_icmp .ge 54, 3), (10, .aload_n 0, 1), (11, .getfield 19, 3), (14, .aload_n 0, 1), (15, .getfield 68, 3), (18, .iload_n 1, 1), (19, .iastore, 1), (20, .aload_n 0, 1), (21, .getfield 23, 3), (24, .aload_n 0, 1), (25, .getfield 68, 3), (28, .iload_n 2, 1), (29, .iastore, 1), (30, .aload_n 0, 1), (31, .getfield 26, 3), (34, .aload_n 0, 1), (35, .getfield 68, 3), (38, .iload_n 3, 1), (39, .iastore, 1), (40, .aload_n 0, 1), (41, .getfield 29, 3), (44, .aload_n 0, 1), (45, .getfield 68, 3), (48, .lload 4, 2), (50, .lastore, 1), (51, .aload_n 0, 1), (52, .dup, 1), (53, .getfield 68, 3), (56, .iconst 1, 1), (57, .iadd, 1), (58, .putfield 68, 3), (61, .return_, 1)]
def nc_c_X10_next : List (Nat × Instr × Nat) := [(0, .aload_n 0, 1), (1, .getfield 71, 3), (4, .ifCond .lt 86, 3), (7, .aload_n 0, 1), (8, .getfield 71, 3), (11, .aload_n 0, 1), (12, .getfield 68, 3), (15, .if_icmp .ge 75, 3), (18, .aload_n 0, 1), (19, .getfield 71, 3), (22, .sipush 901, 3), (25, .if_icmp .ge 65, 3), (28, .aload_n 0, 1), (29, .aload_n 0, 1), (30, .getfield 19, 3), (33, .aload_n 0, 1), (34, .getfield 71, 3), (37, .iaload, 1), (38, .putfield 101, 3), (41, .aload_n 0, 1), (42, .aload_n 0, 1), (43, .getfield 23, 3), (46, .aload_n 0, 1), (47, .getfield 71, 3), (50, .iaload, 1), (51, .putfield 104, 3), (54, .aload_n 0, 1), (55, .aload_n 0, 1), (56, .getfield 26, 3), (59, .aload_n 0, 1), (60, .getfield 71, 3), (63, .iaload, 1), (64, .putfield 107, 3), (67, .aload_n 0, 1), (68, .aload_n 0, 1), (69, .getfield 29, 3), (72, .aload_n 0, 1), (73, .getfield 71, 3), (76, .laload, 1), (77, .putfield 110, 3), (80, .aload_n 0, 1), (81, .dup, 1), (82, .getfield 71, 3), (85, .iconst 1, 1), (86, .iadd, 1), (87, .putfield 71, 3), (90, .return_, 1)]
def nc_c_X10_fail : List (Nat × Instr × Nat) := [(0, .aload_n 0, 1), (1, .iload_n 1, 1), (2, .putfield 62, 3), (5, .aload_n 0, 1), (6, .aload_n 0, 1), (7, .getfield 101, 3), (10, .putfield 65, 3), (13, .iconst 0, 1), (14, .ireturn, 1)]
def nc_c_X10_word : List (Nat × Instr × Nat) := [(0, .aload_n 0, 1), (1, .getfield 104, 3), (4, .iconst 2, 1), (5, .if_icmp .ne 10, 3), (8, .aload_n 0, 1), (9, .getfield 107, 3), (12, .goto 4, 3), (15, .iconst (-1), 1), (16, .ireturn, 1)]
def nc_c_X10_isSign : List (Nat × Instr × Nat) := [(0, .aload_n 0, 1), (1, .getfield 104, 3), (4, .iconst 5, 1), (5, .if_icmp .ne 15, 3), (8, .aload_n 0, 1), (9, .getfield 107, 3), (12, .iload_n 1, 1), (13, .if_icmp .ne 7, 3), (16, .iconst 1, 1), (17, .goto 4, 3), (20, .iconst 0, 1), (21, .ireturn, 1)]
def nc_c_X11_end : List (Nat × Instr × Nat) := [(0, .iload_n 1, 1), (1, .ifCond .lt 14, 3), (4, .iload_n 1, 1), (5, .aload_n 0, 1), (6, .getfield 12, 3), (9, .getfield 108, 3), (12, .if_icmp .le 5, 3), (15, .iconst 0, 1), (16, .ireturn, 1), (17, .aload_n 0, 1), (18, .getfield 12, 3), (21, .iload_n 1, 1), (22, .putfield 108, 3), (25, .iconst 1, 1), (26, .ireturn, 1)]
def nc_c_X11_fault : List (Nat × Instr × Nat) := [(0, .aload_n 0, 1), (1, .getfield 12, 3), (4, .getfield 133, 3), (7, .ireturn, 1)]
def nc_c_X11_told : List (Nat × Instr × Nat) := [(0, .aload_n 0, 1), (1, .getfield 76, 3), (4, .getfield 256, 3), (7, .ireturn, 1)]
def nc_c_X11_planAt : List (Nat × Instr × Nat) := [(0, .iload_n 1, 1), (1, .ifCond .lt 26, 3), (4, .iload_n 1, 1), (5, .aload_n 0, 1), (6, .getfield 83, 3), (9, .getfield 266, 3), (12, .if_icmp .ge 15, 3), (15, .aload_n 0, 1), (16, .getfield 83, 3), (19, .getfield 269, 3), (22, .iload_n 1, 1), (23, .iaload, 1), (24, .goto 4, 3), (27, .iconst (-1), 1), (28, .ireturn, 1)]
def nc_c_X11_parted : List (Nat × Instr × Nat) := [(0, .aload_n 0, 1), (1, .getfield 104, 3), (4, .ireturn, 1)]
def nc_c_X11_surely : List (Nat × Instr × Nat) := [(0, .aload_n 0, 1), (1, .getfield 76, 3), (4, .getfield 300, 3), (7, .ireturn, 1)]
def nc_c_X11_ask : List (Nat × Instr × Nat) := [(0, .aload_n 0, 1), (1, .getfield 76, 3), (4, .getfield 303, 3), (7, .ireturn, 1)]
def nc_c_X11_written : List (Nat × Instr × Nat) := [(0, .aload_n 0, 1), (1, .getfield 67, 3), (4, .getfield 342, 3), (7, .ifCond .ne 5, 3), (10, .iconst (-1), 1), (11, .ireturn, 1), (12, .iload_n 1, 1), (13, .tableswitch 63 0 3 #[31, 39, 47, 55], 31), (44, .aload_n 0, 1), (45, .getfield 67, 3), (48, .getfield 346, 3), (51, .ireturn, 1), (52, .aload_n 0, 1), (53, .getfield 67, 3), (56, .getfield 339, 3), (59, .ireturn, 1), (60, .aload_n 0, 1), (61, .getfield 67, 3), (64, .getfield 349, 3), (67, .ireturn, 1), (68, .aload_n 0, 1), (69, .getfield 67, 3), (72, .getfield 352, 3), (75, .ireturn, 1), (76, .iconst (-1), 1), (77, .ireturn, 1)]
def nc_c_X11_count : List (Nat × Instr × Nat) := [(0, .iload_n 1, 1), (1, .tableswitch 87 0 5 #[39, 47, 55, 63, 71, 79], 39), (40, .aload_n 0, 1), (41, .getfield 19, 3), (44, .getfield 374, 3), (47, .ireturn, 1), (48, .aload_n 0, 1), (49, .getfield 19, 3), (52, .getfield 272, 3), (55, .ireturn, 1), (56, .aload_n 0, 1), (57, .getfield 19, 3), (60, .getfield 321, 3), (63, .ireturn, 1), (64, .aload_n 0, 1), (65, .getfield 19, 3), (68, .getfield 377, 3), (71, .ireturn, 1), (72, .aload_n 0, 1), (73, .getfield 19, 3), (76, .getfield 380, 3), (79, .ireturn, 1), (80, .aload_n 0, 1), (81, .getfield 12, 3), (84, .getfield 108, 3), (87, .ireturn, 1), (88, .iconst (-1), 1), (89, .ireturn, 1)]
def nc_c_X11_isFarm : List (Nat × Instr × Nat) := [(0, .iload_n 1, 1), (1, .ifCond .lt 18, 3), (4, .iload_n 1, 1), (5, .aload_n 0, 1), (6, .getfield 19, 3), (9, .getfield 374, 3), (12, .if_icmp .ge 7, 3), (15, .iconst 1, 1), (16, .goto 4, 3), (19, .iconst 0, 1), (20, .ireturn, 1)]
def nc_c_X11_isCow : List (Nat × Instr × Nat) := [(0, .iload_n 1, 1), (1, .ifCond .lt 18, 3), (4, .iload_n 1, 1), (5, .aload_n 0, 1), (6, .getfield 19, 3), (9, .getfield 272, 3), (12, .if_icmp .ge 7, 3), (15, .iconst 1, 1), (16, .goto 4, 3), (19, .iconst 0, 1), (20, .ireturn, 1)]
def nc_c_X11_isNews : List (Nat × Instr × Nat) := [(0, .iload_n 1, 1), (1, .ifCond .lt 18, 3), (4, .iload_n 1, 1), (5, .aload_n 0, 1), (6, .getfield 19, 3), (9, .getfield 321, 3), (12, .if_icmp .ge 7, 3), (15, .iconst 1, 1), (16, .goto 4, 3), (19, .iconst 0, 1), (20, .ireturn, 1)]
def nc_c_X11_cowsWith : List (Nat × Instr × Nat) := [(0, .iconst 0, 1), (1, .istore_n 3, 1), (2, .iconst 0, 1), (3, .istore 4, 2), (5, .iload 4, 2), (7, .aload_n 0, 1), (8, .getfield 19, 3), (11, .getfield 272, 3), (14, .if_icmp .ge 23, 3), (17, .iload_n 3, 1), (18, .aload_n 1, 1), (19, .iload 4, 2), (21, .iaload, 1), (22, .iload_n 2, 1), (23, .ishr, 1), (24, .iconst 1, 1), (25, .iand, 1), (26, .iload 4, 2), (28, .ishl, 1), (29, .ior, 1), (30, .istore_n 3, 1), (31, .iinc 4 1, 3), (34, .goto (-29), 3), (37, .iload_n 3, 1), (38, .ireturn, 1)]
def nc_c_X12_thrown : List (Nat × Instr × Nat) := [(0, .aload_n 0, 1), (1, .getfield 1, 3), (4, .ireturn, 1)]
def nc_c_X12_throwsIf : List (Nat × Instr × Nat) := [(0, .aload_n 0, 1), (1, .iload_n 1, 1), (2, .ifCond .eq 7, 3), (5, .iconst 1, 1), (6, .goto 4, 3), (9, .iconst 0, 1), (10, .putfield 1, 3), (13, .iload_n 1, 1), (14, .ireturn, 1)]
def nc_c_X12_four : List (Nat × Instr × Nat) := [(0, .bipush 24, 2), (2, .istore_n 2, 1), (3, .iload_n 2, 1), (4, .ifCond .lt 32, 3), (7, .aload_n 0, 1), (8, .getfield 14, 3), (11, .aload_n 0, 1), (12, .getfield 7, 3), (15, .iload_n 1, 1), (16, .iload_n 2, 1), (17, .ishr, 1), (18, .i2b, 1), (19, .bastore, 1), (20, .aload_n 0, 1), (21, .dup, 1), (22, .getfield 7, 3), (25, .iconst 1, 1), (26, .iadd, 1), (27, .putfield 7, 3), (30, .iinc 2 (-8), 3), (33, .goto (-30), 3), (36, .return_, 1)]
def nc_c_X12_end : List (Nat × Instr × Nat) := [(0, .aload_n 0, 1), (1, .iconst 0, 1), (2, .putfield 1, 3), (5, .iload_n 1, 1), (6, .ifCond .lt 11, 3), (9, .iload_n 1, 1), (10, .aload_n 0, 1), (11, .getfield 7, 3), (14, .if_icmp .le 5, 3), (17, .iconst 0, 1), (18, .ireturn, 1), (19, .aload_n 0, 1), (20, .iload_n 1, 1), (21, .putfield 7, 3), (24, .iconst 1, 1), (25, .ireturn, 1)]
def nc_c_X12_taken : List (Nat × Instr × Nat) := [(0, .aload_n 0, 1), (1, .aload_n 0, 1), (2, .getfield 7, 3), (5, .putfield 18, 3), (8, .aload_n 0, 1), (9, .iconst 0, 1), (10, .putfield 7, 3), (13, .aload_n 0, 1), (14, .iconst 0, 1), (15, .putfield 21, 3), (18, .aload_n 0, 1), (19, .iload_n 1, 1), (20, .putfield 24, 3), (23, .return_, 1)]
def nc_c_X12_isIn : List (Nat × Instr × Nat) := [(0, .iload_n 0, 1), (1, .iload_n 1, 1), (2, .if_icmp .lt 12, 3), (5, .iload_n 0, 1), (6, .iload_n 2, 1), (7, .if_icmp .gt 7, 3), (10, .iconst 1, 1), (11, .goto 4, 3), (14, .iconst 0, 1), (15, .ireturn, 1)]
def nc_c_X12_bitOf : List (Nat × Instr × Nat) := [(0, .iload_n 0, 1), (1, .iload_n 1, 1), (2, .ishr, 1), (3, .iconst 1, 1), (4, .iand, 1), (5, .iconst 1, 1), (6, .if_icmp .ne 7, 3), (9, .iconst 1, 1), (10, .goto 4, 3), (13, .iconst 0, 1), (14, .ireturn, 1)]
def nc_c_X12_greater : List (Nat × Instr × Nat) := [(0, .iload_n 0, 1), (1, .iload_n 1, 1), (2, .if_icmp .le 7, 3), (5, .iload_n 0, 1), (6, .goto 4, 3), (9, .iload_n 1, 1), (10, .ireturn, 1)]
def nc_c_X12_absolute : List (Nat × Instr × Nat) := [(0, .iload_n 0, 1), (1, .ifCond .ge 8, 3), (4, .iload_n 0, 1), (5, .ineg, 1), (6, .goto 4, 3), (9, .iload_n 0, 1), (10, .ireturn, 1)]
def nc_c_X12_bits : List (Nat × Instr × Nat) := [(0, .iconst 0, 1), (1, .istore_n 1, 1), (2, .iload_n 0, 1), (3, .istore_n 2, 1), (4, .iload_n 2, 1), (5, .ifCond .eq 15, 3), (8, .iinc 1 1, 3), (11, .iload_n 2, 1), (12, .iload_n 2, 1), (13, .iconst 1, 1), (14, .isub, 1), (15, .iand, 1), (16, .istore_n 2, 1), (17, .goto (-13), 3), (20, .iload_n 1, 1), (21, .ireturn, 1)]
def nc_c_X12_octet : List (Nat × Instr × Nat) := [(0, .aload_n 0, 1), (1, .getfield 14, 3), (4, .iload_n 1, 1), (5, .baload, 1), (6, .sipush 255, 3), (9, .iand, 1), (10, .ireturn, 1)]
def nc_c_X12_peek : List (Nat × Instr × Nat) := [(0, .aload_n 0, 1), (1, .getfield 21, 3), (4, .aload_n 0, 1), (5, .getfield 18, 3), (8, .if_icmp .ge 19, 3), (11, .aload_n 0, 1), (12, .getfield 14, 3), (15, .aload_n 0, 1), (16, .getfield 21, 3), (19, .baload, 1), (20, .sipush 255, 3), (23, .iand, 1), (24, .goto 4, 3), (27, .iconst (-1), 1), (28, .ireturn, 1)]
def nc_c_X12_isSmall : List (Nat × Instr × Nat) := [(0, .iload_n 0, 1), (1, .bipush 97, 2), (3, .if_icmp .lt 13, 3), (6, .iload_n 0, 1), (7, .bipush 122, 2), (9, .if_icmp .gt 7, 3), (12, .iconst 1, 1), (13, .goto 4, 3), (16, .iconst 0, 1), (17, .ireturn, 1)]
def nc_c_X12_isDigit : List (Nat × Instr × Nat) := [(0, .iload_n 0, 1), (1, .bipush 48, 2), (3, .if_icmp .lt 13, 3), (6, .iload_n 0, 1), (7, .bipush 57, 2), (9, .if_icmp .gt 7, 3), (12, .iconst 1, 1), (13, .goto 4, 3), (16, .iconst 0, 1), (17, .ireturn, 1)]
def nc_c_X12_bad : List (Nat × Instr × Nat) := [(0, .aload_n 0, 1), (1, .iload_n 1, 1), (2, .putfield 162, 3), (5, .aload_n 0, 1), (6, .aload_n 0, 1), (7, .getfield 139, 3), (10, .putfield 165, 3), (13, .iconst 0, 1), (14, .ireturn, 1)]
def nc_c_X12_isWord : List (Nat × Instr × Nat) := [(0, .aload_n 0, 1), (1, .getfield 145, 3), (4, .iconst 1, 1), (5, .if_icmp .ne 16, 3), (8, .aload_n 0, 1), (9, .getfield 158, 3), (12, .lload_n 1, 1), (13, .lcmp, 1), (14, .ifCond .ne 7, 3), (17, .iconst 1, 1), (18, .goto 4, 3), (21, .iconst 0, 1), (22, .ireturn, 1)]
def nc_c_X12_isSign : List (Nat × Instr × Nat) := [(0, .aload_n 0, 1), (1, .getfield 145, 3), (4, .iconst 3, 1), (5, .if_icmp .ne 15, 3), (8, .aload_n 0, 1), (9, .getfield 155, 3), (12, .iload_n 1, 1), (13, .if_icmp .ne 7, 3), (16, .iconst 1, 1), (17, .goto 4, 3), (20, .iconst 0, 1), (21, .ireturn, 1)]
def nc_c_X12_isName : List (Nat × Instr × Nat) := [(0, .aload_n 0, 1), (1, .getfield 145, 3), (4, .iconst 1, 1), (5, .if_icmp .ne 7, 3), (8, .iconst 1, 1), (9, .goto 4, 3), (12, .iconst 0, 1), (13, .istore_n 1, 1), (14, .iconst 0, 1), (15, .istore_n 2, 1), (16, .iload_n 2, 1), (17, .bipush 24, 2), (19, .if_icmp .ge 33, 3), (22, .iload_n 1, 1), (23, .ifCond .eq 21, 3), (26, .aload_n 0, 1), (27, .getfield 158, 3), (30, .aload_n 0, 1), (31, .getfield 47, 3), (34, .iload_n 2, 1), (35, .laload, 1), (36, .lcmp, 1), (37, .ifCond .eq 7, 3), (40, .iconst 1, 1), (41, .goto 4, 3), (44, .iconst 0, 1), (45, .istore_n 1, 1), (46, .iinc 2 1, 3), (49, .goto (-33), 3), (52, .iload_n 1, 1), (53, .ireturn, 1)]
def nc_c_X12_seek : List (Nat × Instr × Nat) := [(0, .iconst 0, 1), (1, .istore_n 3, 1), (2, .iload_n 3, 1), (3, .iload_n 2, 1), (4, .if_icmp .ge 27, 3), (7, .aload_n 0, 1), (8, .getfield 43, 3), (11, .iload_n 1, 1), (12, .iload_n 3, 1), (13, .iadd, 1), (14, .laload, 1), (15, .aload_n 0, 1), (16, .getfield 158, 3), (19, .lcmp, 1), (20, .ifCond .ne 5, 3), (23, .iload_n 3, 1), (24, .ireturn, 1), (25, .iinc 3 1, 3), (28, .goto (-26), 3), (31, .iconst (-1), 1), (32, .ireturn, 1)]
def nc_c_X12_fault : List (Nat × Instr × Nat) := [(0, .aload_n 0, 1), (1, .iconst 0, 1), (2, .putfield 1, 3), (5, .aload_n 0, 1), (6, .getfield 162, 3), (9, .ireturn, 1)]
def nc_c_X12_knows : List (Nat × Instr × Nat) := [(0, .aload_n 0, 1), (1, .getfield 33, 3), (4, .sipush 132, 3), (7, .bipush 10, 2), (9, .iload_n 1, 1), (10, .imul, 1), (11, .iadd, 1), (12, .iload_n 2, 1), (13, .iadd, 1), (14, .iaload, 1), (15, .istore_n 3, 1), (16, .iload_n 3, 1), (17, .ifCond .le 30, 3), (20, .aload_n 0, 1), (21, .getfield 33, 3), (24, .bipush 76, 2), (26, .iaload, 1), (27, .iload_n 3, 1), (28, .iconst 1, 1), (29, .isub, 1), (30, .isub, 1), (31, .aload_n 0, 1), (32, .getfield 33, 3), (35, .bipush 29, 2), (37, .iload_n 1, 1), (38, .iadd, 1), (39, .iaload, 1), (40, .if_icmp .gt 7, 3), (43, .iconst 1, 1), (44, .goto 4, 3), (47, .iconst 0, 1), (48, .ireturn, 1)]
def nc_c_X12_isCurdled : List (Nat × Instr × Nat) := [(0, .aload_n 0, 1), (1, .getfield 33, 3), (4, .bipush 124, 2), (6, .iload_n 1, 1), (7, .iadd, 1), (8, .iaload, 1), (9, .ifCond .le 31, 3), (12, .aload_n 0, 1), (13, .getfield 33, 3), (16, .bipush 76, 2), (18, .iaload, 1), (19, .aload_n 0, 1), (20, .getfield 33, 3), (23, .bipush 124, 2), (25, .iload_n 1, 1), (26, .iadd, 1), (27, .iaload, 1), (28, .iconst 1, 1), (29, .isub, 1), (30, .isub, 1), (31, .bipush 6, 2), (33, .if_icmp .gt 7, 3), (36, .iconst 1, 1), (37, .goto 4, 3), (40, .iconst 0, 1), (41, .ireturn, 1)]
def nc_c_X12_cowsOf : List (Nat × Instr × Nat) := [(0, .iconst 0, 1), (1, .istore_n 2, 1), (2, .iconst 0, 1), (3, .istore_n 3, 1), (4, .iload_n 3, 1), (5, .aload_n 0, 1), (6, .getfield 33, 3), (9, .iconst 1, 1), (10, .iaload, 1), (11, .if_icmp .ge 31, 3), (14, .iload_n 2, 1), (15, .aload_n 0, 1), (16, .getfield 33, 3), (19, .iconst 5, 1), (20, .iload_n 3, 1), (21, .iadd, 1), (22, .iaload, 1), (23, .iload_n 1, 1), (24, .if_icmp .ne 9, 3), (27, .iconst 1, 1), (28, .iload_n 3, 1), (29, .ishl, 1), (30, .goto 4, 3), (33, .iconst 0, 1), (34, .ior, 1), (35, .istore_n 2, 1), (36, .iinc 3 1, 3), (39, .goto (-35), 3), (42, .iload_n 2, 1), (43, .ireturn, 1)]
def nc_c_X12_talks : List (Nat × Instr × Nat) := [(0, .aload_n 0, 1), (1, .getfield 33, 3), (4, .bipush 76, 2), (6, .iaload, 1), (7, .iconst 1, 1), (8, .iadd, 1), (9, .aload_n 0, 1), (10, .getfield 33, 3), (13, .bipush 70, 2), (15, .iload_n 1, 1), (16, .iadd, 1), (17, .iaload, 1), (18, .irem, 1), (19, .ifCond .ne 7, 3), (22, .iconst 1, 1), (23, .goto 4, 3), (26, .iconst 0, 1), (27, .ireturn, 1)]
def nc_c_X12_allPails : List (Nat × Instr × Nat) := [(0, .aload_n 0, 1), (1, .getfield 33, 3), (4, .bipush 95, 2), (6, .iaload, 1), (7, .aload_n 0, 1), (8, .getfield 33, 3), (11, .bipush 96, 2), (13, .iaload, 1), (14, .iadd, 1), (15, .aload_n 0, 1), (16, .getfield 33, 3), (19, .bipush 97, 2), (21, .iaload, 1), (22, .iadd, 1), (23, .aload_n 0, 1), (24, .getfield 33, 3), (27, .bipush 98, 2), (29, .iaload, 1), (30, .iadd, 1), (31, .ireturn, 1)]
def nc_c_X12_keep : List (Nat × Instr × Nat) := [(0, .aload_n 0, 1), (1, .getfield 237, 3), (4, .bipush 8, 2), (6, .if_icmp .ne 40, 3), (9, .iconst 0, 1), (10, .istore_n 1, 1), (11, .iload_n 1, 1), (12, .sipush 1792, 3), (15, .if_icmp .ge 25, 3), (18, .aload_n 0, 1), (19, .getfield 53, 3), (22, .iload_n 1, 1), (23, .aload_n 0, 1), (24, .getfield 53, 3), (27, .iload_n 1, 1), (28, .sipush 256, 3), (31, .iadd, 1), (32, .iaload, 1), (33, .iastore, 1), (34, .iinc 1 1, 3), (37, .goto (-26), 3), (40, .aload_n 0, 1), (41, .bipush 7, 2), (43, .putfield 237, 3), (46, .iconst 0, 1), (47, .istore_n 1, 1), (48, .iload_n 1, 1), (49, .sipush 256, 3), (52, .if_icmp .ge 33, 3), (55, .aload_n 0, 1), (56, .getfield 53, 3), (59, .sipush 256, 3), (62, .aload_n 0, 1), (63, .getfield 237, 3), (66, .imul, 1), (67, .iload_n 1, 1), (68, .iadd, 1), (69, .aload_n 0, 1), (70, .getfield 33, 3), (73, .bipush 76, 2), (75, .iload_n 1, 1), (76, .iadd, 1), (77, .iaload, 1), (78, .iastore, 1), (79, .iinc 1 1, 3), (82, .goto (-34), 3), (85, .aload_n 0, 1), (86, .dup, 1), (87, .getfield 237, 3), (90, .iconst 1, 1), (91, .iadd, 1), (92, .putfield 237, 3), (95, .return_, 1)]
def nc_c_X12_undo : List (Nat × Instr × Nat) := [(0, .aload_n 0, 1), (1, .iconst 0, 1), (2, .putfield 1, 3), (5, .aload_n 0, 1), (6, .getfield 237, 3), (9, .ifCond .ne 5, 3), (12, .iconst (-1), 1), (13, .ireturn, 1), (14, .aload_n 0, 1), (15, .dup, 1), (16, .getfield 237, 3), (19, .iconst 1, 1), (20, .isub, 1), (21, .putfield 237, 3), (24, .iconst 0, 1), (25, .istore_n 1, 1), (26, .iload_n 1, 1), (27, .sipush 256, 3), (30, .if_icmp .ge 33, 3), (33, .aload_n 0, 1), (34, .getfield 33, 3), (37, .bipush 76, 2), (39, .iload_n 1, 1), (40, .iadd, 1), (41, .aload_n 0, 1), (42, .getfield 53, 3), (45, .sipush 256, 3), (48, .aload_n 0, 1), (49, .getfield 237, 3), (52, .imul, 1), (53, .iload_n 1, 1), (54, .iadd, 1), (55, .iaload, 1), (56, .iastore, 1), (57, .iinc 1 1, 3), (60, .goto (-34), 3), (63, .aload_n 0, 1), (64, .getfield 237, 3), (67, .ireturn, 1)]
def nc_c_X12_tries : List (Nat × Instr × Nat) := [(0, .iconst 0, 1), (1, .istore_n 1, 1), (2, .iload_n 1, 1), (3, .sipush 256, 3), (6, .if_icmp .ge 24, 3), (9, .aload_n 0, 1), (10, .getfield 56, 3), (13, .iload_n 1, 1), (14, .aload_n 0, 1), (15, .getfield 33, 3), (18, .bipush 76, 2), (20, .iload_n 1, 1), (21, .iadd, 1), (22, .iaload, 1), (23, .iastore, 1), (24, .iinc 1 1, 3), (27, .goto (-25), 3), (30, .return_, 1)]
def nc_c_X12_back : List (Nat × Instr × Nat) := [(0, .iconst 0, 1), (1, .istore_n 1, 1), (2, .iload_n 1, 1), (3, .sipush 256, 3), (6, .if_icmp .ge 24, 3), (9, .aload_n 0, 1), (10, .getfield 33, 3), (13, .bipush 76, 2), (15, .iload_n 1, 1), (16, .iadd, 1), (17, .aload_n 0, 1), (18, .getfield 56, 3), (21, .iload_n 1, 1), (22, .iaload, 1), (23, .iastore, 1), (24, .iinc 1 1, 3), (27, .goto (-25), 3), (30, .return_, 1)]
def nc_c_X12_peace : List (Nat × Instr × Nat) := [(0, .iconst 0, 1), (1, .istore_n 1, 1), (2, .iconst 0, 1), (3, .istore_n 2, 1), (4, .iload_n 2, 1), (5, .aload_n 0, 1), (6, .getfield 33, 3), (9, .iconst 2, 1), (10, .iaload, 1), (11, .if_icmp .ge 32, 3), (14, .iload_n 1, 1), (15, .aload_n 0, 1), (16, .getfield 33, 3), (19, .bipush 37, 2), (21, .iload_n 2, 1), (22, .iadd, 1), (23, .iaload, 1), (24, .iconst 2, 1), (25, .if_icmp .eq 9, 3), (28, .iconst 1, 1), (29, .iload_n 2, 1), (30, .ishl, 1), (31, .goto 4, 3), (34, .iconst 0, 1), (35, .ior, 1), (36, .istore_n 1, 1), (37, .iinc 2 1, 3), (40, .goto (-36), 3), (43, .iload_n 1, 1), (44, .ireturn, 1)]
def nc_c_X12_tellsSet : List (Nat × Instr × Nat) := [(0, .aload_n 0, 1), (1, .iconst 1, 1), (2, .putfield 334, 3), (5, .aload_n 0, 1), (6, .iload_n 1, 1), (7, .putfield 337, 3), (10, .return_, 1)]
def nc_c_X12_told : List (Nat × Instr × Nat) := [(0, .aload_n 0, 1), (1, .iconst 0, 1), (2, .putfield 1, 3), (5, .aload_n 0, 1), (6, .getfield 334, 3), (9, .ifCond .eq 10, 3), (12, .aload_n 0, 1), (13, .getfield 337, 3), (16, .goto 4, 3), (19, .iconst (-1), 1), (20, .ireturn, 1)]
def nc_c_X12_digit : List (Nat × Instr × Nat) := [(0, .iload_n 1, 1), (1, .istore 4, 2), (3, .iload_n 2, 1), (4, .istore 5, 2), (6, .iload 5, 2), (8, .iload_n 3, 1), (9, .iconst 1, 1), (10, .isub, 1), (11, .if_icmp .ge 22, 3), (14, .iload 4, 2), (16, .aload_n 0, 1), (17, .getfield 33, 3), (20, .iconst 2, 1), (21, .iaload, 1), (22, .iconst 1, 1), (23, .iadd, 1), (24, .idiv, 1), (25, .istore 4, 2), (27, .iinc 5 1, 3), (30, .goto (-24), 3), (33, .iload 4, 2), (35, .aload_n 0, 1), (36, .getfield 33, 3), (39, .iconst 2, 1), (40, .iaload, 1), (41, .iconst 1, 1), (42, .iadd, 1), (43, .irem, 1), (44, .ireturn, 1)]
def nc_c_X12_parted : List (Nat × Instr × Nat) := [(0, .aload_n 0, 1), (1, .iconst 0, 1), (2, .putfield 1, 3), (5, .aload_n 0, 1), (6, .getfield 364, 3), (9, .ifCond .eq 10, 3), (12, .aload_n 0, 1), (13, .getfield 367, 3), (16, .goto 4, 3), (19, .iconst (-1), 1), (20, .ireturn, 1)]
def nc_c_X12_surely : List (Nat × Instr × Nat) := [(0, .aload_n 0, 1), (1, .iconst 0, 1), (2, .putfield 1, 3), (5, .aload_n 0, 1), (6, .getfield 373, 3), (9, .ifCond .eq 10, 3), (12, .aload_n 0, 1), (13, .getfield 376, 3), (16, .goto 4, 3), (19, .iconst (-1), 1), (20, .ireturn, 1)]
def nc_c_X12_ask : List (Nat × Instr × Nat) := [(0, .aload_n 0, 1), (1, .iconst 0, 1), (2, .putfield 1, 3), (5, .aload_n 0, 1), (6, .getfield 373, 3), (9, .ifCond .eq 10, 3), (12, .aload_n 0, 1), (13, .getfield 379, 3), (16, .goto 4, 3), (19, .iconst (-1), 1), (20, .ireturn, 1)]
def nc_c_X12_draw : List (Nat × Instr × Nat) := [(0, .aload_n 0, 1), (1, .aload_n 0, 1), (2, .getfield 388, 3), (5, .ldc_w 391, 3), (8, .imul, 1), (9, .sipush 12345, 3), (12, .iadd, 1), (13, .putfield 388, 3), (16, .aload_n 0, 1), (17, .getfield 388, 3), (20, .bipush 8, 2), (22, .iushr, 1), (23, .iload_n 1, 1), (24, .irem, 1), (25, .ireturn, 1)]
def nc_c_X12_code : List (Nat × Instr × Nat) := [(0, .aload_n 0, 1), (1, .getfield 40, 3), (4, .iconst 3, 1), (5, .aload_n 0, 1), (6, .getfield 410, 3), (9, .imul, 1), (10, .iload_n 1, 1), (11, .iastore, 1), (12, .aload_n 0, 1), (13, .getfield 40, 3), (16, .iconst 3, 1), (17, .aload_n 0, 1), (18, .getfield 410, 3), (21, .imul, 1), (22, .iconst 1, 1), (23, .iadd, 1), (24, .iload_n 2, 1), (25, .iastore, 1), (26, .aload_n 0, 1), (27, .getfield 40, 3), (30, .iconst 3, 1), (31, .aload_n 0, 1), (32, .getfield 410, 3), (35, .imul, 1), (36, .iconst 2, 1), (37, .iadd, 1), (38, .iload_n 3, 1), (39, .iastore, 1), (40, .aload_n 0, 1), (41, .dup, 1), (42, .getfield 410, 3), (45, .iconst 1, 1), (46, .iadd, 1), (47, .putfield 410, 3), (50, .return_, 1)]
def nc_c_J6_bitCount_0f7a4 : List (Nat × Instr × Nat) := [(0, .iload_n 0, 1), (1, .iload_n 0, 1), (2, .iconst 1, 1), (3, .iushr, 1), (4, .ldc_w 265, 3), (7, .iand, 1), (8, .isub, 1), (9, .istore_n 0, 1), (10, .iload_n 0, 1), (11, .ldc_w 266, 3), (14, .iand, 1), (15, .iload_n 0, 1), (16, .iconst 2, 1), (17, .iushr, 1), (18, .ldc_w 266, 3), (21, .iand, 1), (22, .iadd, 1), (23, .istore_n 0, 1), (24, .iload_n 0, 1), (25, .iload_n 0, 1), (26, .iconst 4, 1), (27, .iushr, 1), (28, .iadd, 1), (29, .ldc_w 267, 3), (32, .iand, 1), (33, .istore_n 0, 1), (34, .iload_n 0, 1), (35, .iload_n 0, 1), (36, .bipush 8, 2), (38, .iushr, 1), (39, .iadd, 1), (40, .istore_n 0, 1), (41, .iload_n 0, 1), (42, .iload_n 0, 1), (43, .bipush 16, 2), (45, .iushr, 1), (46, .iadd, 1), (47, .istore_n 0, 1), (48, .iload_n 0, 1), (49, .bipush 63, 2), (51, .iand, 1), (52, .ireturn, 1)]
def nc_c_J7_fill_d0a16 : List (Nat × Instr × Nat) := [(0, .iconst 0, 1), (1, .istore_n 3, 1), (2, .aload_n 0, 1), (3, .arraylength, 1), (4, .istore 4, 2), (6, .iload_n 3, 1), (7, .iload 4, 2), (9, .if_icmp .ge 13, 3), (12, .aload_n 0, 1), (13, .iload_n 3, 1), (14, .lload_n 1, 1), (15, .lastore, 1), (16, .iinc 3 1, 3), (19, .goto (-13), 3), (22, .return_, 1)]
def nc_c_J7_fill_53178 : List (Nat × Instr × Nat) := [(0, .iconst 0, 1), (1, .istore_n 2, 1), (2, .aload_n 0, 1), (3, .arraylength, 1), (4, .istore_n 3, 1), (5, .iload_n 2, 1), (6, .iload_n 3, 1), (7, .if_icmp .ge 13, 3), (10, .aload_n 0, 1), (11, .iload_n 2, 1), (12, .iload_n 1, 1), (13, .iastore, 1), (14, .iinc 2 1, 3), (17, .goto (-12), 3), (20, .return_, 1)]
def nc_c_X10_mustBeSign : List (Nat × Instr × Nat) := [(0, .aload_n 0, 1), (1, .iload_n 1, 1), (2, .invokevirtual 114, 3), (5, .ifCond .ne 11, 3), (8, .aload_n 0, 1), (9, .iconst 1, 1), (10, .invokevirtual 117, 3), (13, .ifCond .eq 7, 3), (16, .iconst 1, 1), (17, .goto 4, 3), (20, .iconst 0, 1), (21, .ireturn, 1)]
def nc_c_X2_named : List (Nat × Instr × Nat) := [(0, .aload_n 1, 1), (1, .getfield 91, 3), (4, .iconst 3, 1), (5, .if_icmp .eq 11, 3), (8, .aload_n 1, 1), (9, .iconst 1, 1), (10, .invokevirtual 93, 3), (13, .pop, 1), (14, .iconst (-1), 1), (15, .ireturn, 1), (16, .aload_n 0, 1), (17, .aload_n 1, 1), (18, .getfield 97, 3), (21, .invokevirtual 101, 3), (24, .iload_n 2, 1), (25, .isub, 1), (26, .istore 4, 2), (28, .iload 4, 2), (30, .ifCond .lt 9, 3), (33, .iload 4, 2), (35, .iload_n 3, 1), (36, .if_icmp .lt 11, 3), (39, .aload_n 1, 1), (40, .iconst 3, 1), (41, .invokevirtual 93, 3), (44, .pop, 1), (45, .iconst (-1), 1), (46, .ireturn, 1), (47, .iload 4, 2), (49, .ireturn, 1)]
def nc_c_X10_nextNumber : List (Nat × Instr × Nat) := [(0, .aload_n 0, 1), (1, .invokevirtual 120, 3), (4, .aload_n 0, 1), (5, .getfield 104, 3), (8, .iconst 4, 1), (9, .if_icmp .eq 9, 3), (12, .aload_n 0, 1), (13, .iconst 1, 1), (14, .invokevirtual 117, 3), (17, .ireturn, 1), (18, .aload_n 0, 1), (19, .getfield 107, 3), (22, .iload_n 1, 1), (23, .if_icmp .lt 11, 3), (26, .aload_n 0, 1), (27, .getfield 107, 3), (30, .iload_n 2, 1), (31, .if_icmp .le 11, 3), (34, .aload_n 0, 1), (35, .iconst 2, 1), (36, .invokevirtual 117, 3), (39, .ifCond .eq 7, 3), (42, .iconst 1, 1), (43, .goto 4, 3), (46, .iconst 0, 1), (47, .ireturn, 1)]
def nc_c_X9_readPlainOne : List (Nat × Instr × Nat) := [(0, .iconst 0, 1), (1, .istore 4, 2), (3, .iconst 0, 1), (4, .istore 5, 2), (6, .iload_n 3, 1), (7, .bipush 17, 2), (9, .if_icmp .ne 19, 3), (12, .aload_n 1, 1), (13, .invokevirtual 43, 3), (16, .aload_n 2, 1), (17, .aload_n 1, 1), (18, .iconst 0, 1), (19, .iconst 4, 1), (20, .invokevirtual 81, 3), (23, .istore 5, 2), (25, .goto 109, 3), (28, .iload_n 3, 1), (29, .bipush 18, 2), (31, .if_icmp .eq 9, 3), (34, .iload_n 3, 1), (35, .bipush 19, 2), (37, .if_icmp .ne 21, 3), (40, .aload_n 1, 1), (41, .invokevirtual 43, 3), (44, .aload_n 2, 1), (45, .aload_n 1, 1), (46, .bipush 12, 2), (48, .bipush 10, 2), (50, .invokevirtual 81, 3), (53, .istore 5, 2), (55, .goto 79, 3), (58, .iload_n 3, 1), (59, .bipush 15, 2), (61, .if_icmp .eq 73, 3), (64, .iload_n 3, 1), (65, .bipush 16, 2), (67, .if_icmp .eq 67, 3), (70, .aload_n 1, 1), (71, .invokevirtual 43, 3), (74, .aload_n 1, 1), (75, .getfield 87, 3), (78, .istore 4, 2), (80, .aload_n 1, 1), (81, .bipush 60, 2), (83, .invokevirtual 68, 3), (86, .ifCond .ne 27, 3), (89, .aload_n 1, 1), (90, .bipush 61, 2), (92, .invokevirtual 68, 3), (95, .ifCond .ne 18, 3), (98, .aload_n 1, 1), (99, .bipush 62, 2), (101, .invokevirtual 68, 3), (104, .ifCond .ne 9, 3), (107, .aload_n 1, 1), (108, .iconst 1, 1), (109, .invokevirtual 72, 3), (112, .ireturn, 1), (113, .aload_n 1, 1), (114, .iconst 0, 1), (115, .sipush 999, 3), (118, .invokevirtual 90, 3), (121, .ifCond .eq 10, 3), (124, .aload_n 1, 1), (125, .getfield 87, 3), (128, .goto 4, 3), (131, .iconst (-1), 1), (132, .istore 5, 2), (134, .aload_n 0, 1), (135, .iload_n 3, 1), (136, .iload 4, 2), (138, .iload 5, 2), (140, .invokevirtual 61, 3), (143, .iload 5, 2), (145, .ifCond .lt 7, 3), (148, .iconst 1, 1), (149, .goto 4, 3), (152, .iconst 0, 1), (153, .ireturn, 1)]
def nc_c_X7_sumOf : List (Nat × Instr × Nat) := [(0, .aload_n 0, 1), (1, .getfield 48, 3), (4, .getfield 127, 3), (7, .iload_n 1, 1), (8, .iaload, 1), (9, .istore_n 2, 1), (10, .aload_n 0, 1), (11, .iload_n 1, 1), (12, .invokevirtual 130, 3), (15, .istore_n 3, 1), (16, .iconst 0, 1), (17, .istore 4, 2), (19, .iload 4, 2), (21, .aload_n 0, 1), (22, .getfield 48, 3), (25, .getfield 133, 3), (28, .if_icmp .ge 112, 3), (31, .aload_n 0, 1), (32, .getfield 18, 3), (35, .iload_n 1, 1), (36, .iaload, 1), (37, .iload 4, 2), (39, .ishr, 1), (40, .iconst 1, 1), (41, .iand, 1), (42, .iconst 1, 1), (43, .if_icmp .ne 19, 3), (46, .iload_n 2, 1), (47, .aload_n 0, 1), (48, .iload 4, 2), (50, .iload_n 3, 1), (51, .aload_n 0, 1), (52, .getfield 21, 3), (55, .iload_n 1, 1), (56, .iaload, 1), (57, .invokevirtual 136, 3), (60, .iadd, 1), (61, .istore_n 2, 1), (62, .aload_n 0, 1), (63, .getfield 24, 3), (66, .iload_n 1, 1), (67, .iaload, 1), (68, .iload 4, 2), (70, .ishr, 1), (71, .iconst 1, 1), (72, .iand, 1), (73, .iconst 1, 1), (74, .if_icmp .ne 60, 3), (77, .aload_n 0, 1), (78, .getfield 48, 3), (81, .getfield 96, 3), (84, .iload 4, 2), (86, .iaload, 1), (87, .iconst 3, 1), (88, .if_icmp .ne 46, 3), (91, .iload_n 2, 1), (92, .aload_n 0, 1), (93, .getfield 48, 3), (96, .getfield 140, 3), (99, .iload 4, 2), (101, .ishr, 1), (102, .iconst 1, 1), (103, .iand, 1), (104, .iconst 1, 1), (105, .if_icmp .ne 17, 3), (108, .aload_n 0, 1), (109, .getfield 48, 3), (112, .getfield 143, 3), (115, .iload 4, 2), (117, .iaload, 1), (118, .ineg, 1), (119, .goto 13, 3), (122, .aload_n 0, 1), (123, .getfield 48, 3), (126, .getfield 143, 3), (129, .iload 4, 2), (131, .iaload, 1), (132, .iadd, 1), (133, .istore_n 2, 1), (134, .iinc 4 1, 3), (137, .goto (-118), 3), (140, .iload_n 2, 1), (141, .ireturn, 1)]
def nc_c_X7_whyNotTold : List (Nat × Instr × Nat) := [(0, .aload_n 0, 1), (1, .iload_n 1, 1), (2, .invokevirtual 77, 3), (5, .ifCond .eq 5, 3), (8, .iconst 1, 1), (9, .ireturn, 1), (10, .aload_n 0, 1), (11, .getfield 18, 3), (14, .iload_n 1, 1), (15, .iaload, 1), (16, .iload_n 2, 1), (17, .ishr, 1), (18, .iconst 1, 1), (19, .iand, 1), (20, .iconst 1, 1), (21, .if_icmp .ne 5, 3), (24, .iconst 2, 1), (25, .ireturn, 1), (26, .aload_n 0, 1), (27, .getfield 18, 3), (30, .iload_n 1, 1), (31, .iaload, 1), (32, .invokestatic 81, 3), (35, .aload_n 0, 1), (36, .getfield 48, 3), (39, .getfield 87, 3), (42, .if_icmp .lt 7, 3), (45, .iconst 3, 1), (46, .goto 4, 3), (49, .iconst 0, 1), (50, .ireturn, 1)]
def nc_c_X8_weigh : List (Nat × Instr × Nat) := [(0, .iload_n 1, 1), (1, .aload_n 0, 1), (2, .getfield 38, 3), (5, .if_icmp .le 22, 3), (8, .aload_n 0, 1), (9, .iload_n 1, 1), (10, .putfield 38, 3), (13, .aload_n 0, 1), (14, .getfield 9, 3), (17, .iconst 0, 1), (18, .aload_n 0, 1), (19, .getfield 15, 3), (22, .iconst 0, 1), (23, .iconst 3, 1), (24, .invokestatic 107, 3), (27, .return_, 1)]
def nc_c_X7_milk : List (Nat × Instr × Nat) := [(0, .aload_n 0, 1), (1, .iload_n 1, 1), (2, .invokevirtual 77, 3), (5, .ifCond .ne 11, 3), (8, .aload_n 0, 1), (9, .iload_n 1, 1), (10, .invokevirtual 115, 3), (13, .ifCond .eq 7, 3), (16, .iconst 0, 1), (17, .goto 12, 3), (20, .iconst 0, 1), (21, .aload_n 0, 1), (22, .iload_n 1, 1), (23, .invokevirtual 118, 3), (26, .invokestatic 121, 3), (29, .ireturn, 1)]
def nc_c_X8_goLast : List (Nat × Instr × Nat) := [(0, .aload_n 1, 1), (1, .iload_n 2, 1), (2, .invokevirtual 75, 3), (5, .ifCond .ne 11, 3), (8, .aload_n 1, 1), (9, .iload_n 2, 1), (10, .invokevirtual 79, 3), (13, .ifCond .eq 7, 3), (16, .iconst 1, 1), (17, .goto 4, 3), (20, .iconst 0, 1), (21, .istore 5, 2), (23, .aload_n 1, 1), (24, .iload_n 2, 1), (25, .invokevirtual 82, 3), (28, .istore 6, 2), (30, .aload_n 1, 1), (31, .iload_n 2, 1), (32, .invokevirtual 85, 3), (35, .istore 7, 2), (37, .iconst 0, 1), (38, .istore 8, 2), (40, .iload 8, 2), (42, .aload_n 0, 1), (43, .getfield 18, 3), (46, .getfield 48, 3), (49, .if_icmp .ge 94, 3), (52, .aload_n 1, 1), (53, .iload_n 2, 1), (54, .iload 8, 2), (56, .invokevirtual 53, 3), (59, .ifCond .ne 78, 3), (62, .aload_n 0, 1), (63, .getfield 9, 3), (66, .iload_n 3, 1), (67, .iload 8, 2), (69, .iastore, 1), (70, .aload_n 0, 1), (71, .getfield 18, 3), (74, .getfield 88, 3), (77, .iload 8, 2), (79, .iaload, 1), (80, .iconst 2, 1), (81, .if_icmp .ne 7, 3), (84, .iconst 1, 1), (85, .goto 4, 3), (88, .iconst 0, 1), (89, .istore 9, 2), (91, .aload_n 1, 1), (92, .iload 8, 2), (94, .iload 7, 2), (96, .aload_n 1, 1), (97, .getfield 91, 3), (100, .iload_n 2, 1), (101, .iaload, 1), (102, .invokevirtual 94, 3), (105, .istore 10, 2), (107, .aload_n 0, 1), (108, .iload 4, 2), (110, .iload 5, 2), (112, .ifCond .ne 8, 3), (115, .iload 9, 2), (117, .ifCond .eq 7, 3), (120, .iconst 0, 1), (121, .goto 12, 3), (124, .iconst 0, 1), (125, .iload 6, 2), (127, .iload 10, 2), (129, .iadd, 1), (130, .invokestatic 98, 3), (133, .iadd, 1), (134, .invokevirtual 103, 3), (137, .iinc 8 1, 3), (140, .goto (-100), 3), (143, .aload_n 0, 1), (144, .getfield 9, 3), (147, .iload_n 3, 1), (148, .iconst (-1), 1), (149, .iastore, 1), (150, .aload_n 0, 1), (151, .iload 4, 2), (153, .aload_n 1, 1), (154, .iload_n 2, 1), (155, .invokevirtual 65, 3), (158, .iadd, 1), (159, .invokevirtual 103, 3), (162, .return_, 1)]
def nc_c_X7_copyFrom : List (Nat × Instr × Nat) := [(0, .aload_n 0, 1), (1, .aload_n 1, 1), (2, .getfield 58, 3), (5, .putfield 58, 3), (8, .aload_n 0, 1), (9, .aload_n 1, 1), (10, .getfield 62, 3), (13, .putfield 62, 3), (16, .aload_n 0, 1), (17, .aload_n 1, 1), (18, .getfield 65, 3), (21, .putfield 65, 3), (24, .aload_n 0, 1), (25, .aload_n 1, 1), (26, .getfield 68, 3), (29, .putfield 68, 3), (32, .aload_n 1, 1), (33, .getfield 9, 3), (36, .iconst 0, 1), (37, .aload_n 0, 1), (38, .getfield 9, 3), (41, .iconst 0, 1), (42, .bipush 80, 2), (44, .invokestatic 71, 3), (47, .aload_n 1, 1), (48, .getfield 15, 3), (51, .iconst 0, 1), (52, .aload_n 0, 1), (53, .getfield 15, 3), (56, .iconst 0, 1), (57, .bipush 8, 2), (59, .invokestatic 71, 3), (62, .aload_n 1, 1), (63, .getfield 18, 3), (66, .iconst 0, 1), (67, .aload_n 0, 1), (68, .getfield 18, 3), (71, .iconst 0, 1), (72, .bipush 8, 2), (74, .invokestatic 71, 3), (77, .aload_n 1, 1), (78, .getfield 21, 3), (81, .iconst 0, 1), (82, .aload_n 0, 1), (83, .getfield 21, 3), (86, .iconst 0, 1), (87, .bipush 8, 2), (89, .invokestatic 71, 3), (92, .aload_n 1, 1), (93, .getfield 24, 3), (96, .iconst 0, 1), (97, .aload_n 0, 1), (98, .getfield 24, 3), (101, .iconst 0, 1), (102, .bipush 8, 2), (104, .invokestatic 71, 3), (107, .aload_n 1, 1), (108, .getfield 27, 3), (111, .iconst 0, 1), (112, .aload_n 0, 1), (113, .getfield 27, 3), (116, .iconst 0, 1), (117, .bipush 8, 2), (119, .invokestatic 71, 3), (122, .aload_n 1, 1), (123, .getfield 30, 3), (126, .iconst 0, 1), (127, .aload_n 0, 1), (128, .getfield 30, 3), (131, .iconst 0, 1), (132, .bipush 8, 2), (134, .invokestatic 71, 3), (137, .aload_n 1, 1), (138, .getfield 33, 3), (141, .iconst 0, 1), (142, .aload_n 0, 1), (143, .getfield 33, 3), (146, .iconst 0, 1), (147, .bipush 8, 2), (149, .invokestatic 71, 3), (152, .aload_n 1, 1), (153, .getfield 36, 3), (156, .iconst 0, 1), (157, .aload_n 0, 1), (158, .getfield 36, 3), (161, .iconst 0, 1), (162, .iconst 4, 1), (163, .invokestatic 71, 3), (166, .aload_n 1, 1), (167, .getfield 39, 3), (170, .iconst 0, 1), (171, .aload_n 0, 1), (172, .getfield 39, 3), (175, .iconst 0, 1), (176, .bipush 120, 2), (178, .invokestatic 71, 3), (181, .return_, 1)]
def nc_c_X7_hear : List (Nat × Instr × Nat) := [(0, .iconst 1, 1), (1, .iload_n 2, 1), (2, .ishl, 1), (3, .istore_n 3, 1), (4, .aload_n 0, 1), (5, .getfield 21, 3), (8, .iload_n 1, 1), (9, .dup2, 1), (10, .iaload, 1), (11, .aload_n 0, 1), (12, .getfield 15, 3), (15, .iload_n 1, 1), (16, .iaload, 1), (17, .iload_n 3, 1), (18, .iand, 1), (19, .ior, 1), (20, .iastore, 1), (21, .aload_n 0, 1), (22, .getfield 18, 3), (25, .iload_n 1, 1), (26, .dup2, 1), (27, .iaload, 1), (28, .iload_n 3, 1), (29, .ior, 1), (30, .iastore, 1), (31, .aload_n 0, 1), (32, .iload_n 1, 1), (33, .iload_n 2, 1), (34, .invokevirtual 92, 3), (37, .aload_n 0, 1), (38, .getfield 48, 3), (41, .getfield 96, 3), (44, .iload_n 2, 1), (45, .iaload, 1), (46, .iconst 2, 1), (47, .if_icmp .ne 13, 3), (50, .aload_n 0, 1), (51, .getfield 27, 3), (54, .iload_n 1, 1), (55, .aload_n 0, 1), (56, .getfield 58, 3), (59, .iastore, 1), (60, .aload_n 0, 1), (61, .dup, 1), (62, .getfield 62, 3), (65, .iconst 1, 1), (66, .iadd, 1), (67, .putfield 62, 3), (70, .return_, 1)]
def nc_c_X7_allComes : List (Nat × Instr × Nat) := [(0, .iconst 0, 1), (1, .istore_n 3, 1), (2, .iload_n 3, 1), (3, .aload_n 0, 1), (4, .getfield 48, 3), (7, .getfield 133, 3), (10, .if_icmp .ge 24, 3), (13, .iload_n 2, 1), (14, .iload_n 3, 1), (15, .ishr, 1), (16, .iconst 1, 1), (17, .iand, 1), (18, .iconst 1, 1), (19, .if_icmp .ne 9, 3), (22, .aload_n 0, 1), (23, .iload_n 1, 1), (24, .iload_n 3, 1), (25, .invokevirtual 92, 3), (28, .iinc 3 1, 3), (31, .goto (-29), 3), (34, .return_, 1)]
def nc_c_X7_talk : List (Nat × Instr × Nat) := [(0, .aload_n 0, 1), (1, .invokevirtual 167, 3), (4, .istore_n 1, 1), (5, .iload_n 1, 1), (6, .ifCond .ne 4, 3), (9, .return_, 1), (10, .aload_n 0, 1), (11, .getfield 42, 3), (14, .iconst 0, 1), (15, .invokestatic 52, 3), (18, .aload_n 0, 1), (19, .getfield 45, 3), (22, .iconst 0, 1), (23, .invokestatic 52, 3), (26, .iconst 0, 1), (27, .istore_n 2, 1), (28, .iload_n 2, 1), (29, .aload_n 0, 1), (30, .getfield 48, 3), (33, .getfield 105, 3), (36, .if_icmp .ge 32, 3), (39, .aload_n 0, 1), (40, .getfield 42, 3), (43, .aload_n 0, 1), (44, .getfield 48, 3), (47, .getfield 146, 3), (50, .iload_n 2, 1), (51, .iaload, 1), (52, .dup2, 1), (53, .iaload, 1), (54, .aload_n 0, 1), (55, .getfield 15, 3), (58, .iload_n 2, 1), (59, .iaload, 1), (60, .ior, 1), (61, .iastore, 1), (62, .iinc 2 1, 3), (65, .goto (-37), 3), (68, .iconst 0, 1), (69, .istore_n 2, 1), (70, .iload_n 2, 1), (71, .aload_n 0, 1), (72, .getfield 48, 3), (75, .getfield 161, 3), (78, .if_icmp .ge 80, 3), (81, .iload_n 1, 1), (82, .iload_n 2, 1), (83, .ishr, 1), (84, .iconst 1, 1), (85, .iand, 1), (86, .iconst 1, 1), (87, .if_icmp .ne 65, 3), (90, .aload_n 0, 1), (91, .getfield 45, 3), (94, .aload_n 0, 1), (95, .getfield 48, 3), (98, .getfield 171, 3), (101, .iload_n 2, 1), (102, .iaload, 1), (103, .dup2, 1), (104, .iaload, 1), (105, .aload_n 0, 1), (106, .getfield 42, 3), (109, .aload_n 0, 1), (110, .getfield 48, 3), (113, .getfield 174, 3), (116, .iload_n 2, 1), (117, .iaload, 1), (118, .iaload, 1), (119, .ior, 1), (120, .iastore, 1), (121, .aload_n 0, 1), (122, .getfield 45, 3), (125, .aload_n 0, 1), (126, .getfield 48, 3), (129, .getfield 174, 3), (132, .iload_n 2, 1), (133, .iaload, 1), (134, .dup2, 1), (135, .iaload, 1), (136, .aload_n 0, 1), (137, .getfield 42, 3), (140, .aload_n 0, 1), (141, .getfield 48, 3), (144, .getfield 171, 3), (147, .iload_n 2, 1), (148, .iaload, 1), (149, .iaload, 1), (150, .ior, 1), (151, .iastore, 1), (152, .iinc 2 1, 3), (155, .goto (-85), 3), (158, .iconst 0, 1), (159, .istore_n 2, 1), (160, .iload_n 2, 1), (161, .aload_n 0, 1), (162, .getfield 48, 3), (165, .getfield 105, 3), (168, .if_icmp .ge 28, 3), (171, .aload_n 0, 1), (172, .iload_n 2, 1), (173, .aload_n 0, 1), (174, .getfield 45, 3), (177, .aload_n 0, 1), (178, .getfield 48, 3), (181, .getfield 146, 3), (184, .iload_n 2, 1), (185, .iaload, 1), (186, .iaload, 1), (187, .invokevirtual 177, 3), (190, .iinc 2 1, 3), (193, .goto (-33), 3), (196, .return_, 1)]
def nc_c_X7_turn : List (Nat × Instr × Nat) := [(0, .aload_n 0, 1), (1, .dup, 1), (2, .getfield 58, 3), (5, .iconst 1, 1), (6, .iadd, 1), (7, .putfield 58, 3), (10, .iconst 0, 1), (11, .istore_n 1, 1), (12, .iload_n 1, 1), (13, .aload_n 0, 1), (14, .getfield 48, 3), (17, .getfield 105, 3), (20, .if_icmp .ge 40, 3), (23, .aload_n 0, 1), (24, .getfield 24, 3), (27, .iload_n 1, 1), (28, .aload_n 0, 1), (29, .getfield 18, 3), (32, .iload_n 1, 1), (33, .iaload, 1), (34, .iastore, 1), (35, .aload_n 0, 1), (36, .getfield 18, 3), (39, .iload_n 1, 1), (40, .iconst 0, 1), (41, .iastore, 1), (42, .aload_n 0, 1), (43, .getfield 21, 3), (46, .iload_n 1, 1), (47, .iconst 0, 1), (48, .iastore, 1), (49, .aload_n 0, 1), (50, .iload_n 1, 1), (51, .invokevirtual 180, 3), (54, .iinc 1 1, 3), (57, .goto (-45), 3), (60, .return_, 1)]
def nc_c_X9_readOne : List (Nat × Instr × Nat) := [(0, .aload_n 1, 1), (1, .bipush 40, 2), (3, .invokevirtual 68, 3), (6, .istore 4, 2), (8, .aload_n 1, 1), (9, .invokevirtual 57, 3), (12, .istore 5, 2), (14, .iload 4, 2), (16, .ifCond .ne 16, 3), (19, .iload 5, 2), (21, .bipush 14, 2), (23, .if_icmp .ge 9, 3), (26, .aload_n 1, 1), (27, .iconst 1, 1), (28, .invokevirtual 72, 3), (31, .ireturn, 1), (32, .aload_n 0, 1), (33, .getfield 25, 3), (36, .bipush 20, 2), (38, .if_icmp .ge 9, 3), (41, .iload_n 3, 1), (42, .bipush 8, 2), (44, .if_icmp .le 9, 3), (47, .aload_n 1, 1), (48, .iconst 4, 1), (49, .invokevirtual 72, 3), (52, .ireturn, 1), (53, .aload_n 0, 1), (54, .dup, 1), (55, .getfield 25, 3), (58, .iconst 1, 1), (59, .iadd, 1), (60, .putfield 25, 3), (63, .iload 4, 2), (65, .ifCond .eq 30, 3), (68, .aload_n 1, 1), (69, .invokevirtual 43, 3), (72, .aload_n 0, 1), (73, .aload_n 1, 1), (74, .aload_n 2, 1), (75, .iload_n 3, 1), (76, .iconst 1, 1), (77, .iadd, 1), (78, .invokevirtual 46, 3), (81, .ifCond .eq 12, 3), (84, .aload_n 1, 1), (85, .bipush 41, 2), (87, .invokevirtual 75, 3), (90, .ifCond .ne 53, 3), (93, .iconst 0, 1), (94, .ireturn, 1), (95, .iload 5, 2), (97, .bipush 14, 2), (99, .if_icmp .ne 31, 3), (102, .aload_n 1, 1), (103, .invokevirtual 43, 3), (106, .aload_n 0, 1), (107, .aload_n 1, 1), (108, .aload_n 2, 1), (109, .iload_n 3, 1), (110, .iconst 1, 1), (111, .iadd, 1), (112, .invokevirtual 65, 3), (115, .ifCond .ne 5, 3), (118, .iconst 0, 1), (119, .ireturn, 1), (120, .aload_n 0, 1), (121, .bipush 14, 2), (123, .iconst 0, 1), (124, .iconst 0, 1), (125, .invokevirtual 61, 3), (128, .iconst 1, 1), (129, .ireturn, 1), (130, .aload_n 0, 1), (131, .aload_n 1, 1), (132, .aload_n 2, 1), (133, .iload 5, 2), (135, .invokevirtual 78, 3), (138, .ifCond .ne 5, 3), (141, .iconst 0, 1), (142, .ireturn, 1), (143, .aload_n 1, 1), (144, .invokevirtual 43, 3), (147, .iconst 1, 1), (148, .ireturn, 1)]
def nc_c_X9_readAll : List (Nat × Instr × Nat) := [(0, .aload_n 0, 1), (1, .aload_n 1, 1), (2, .aload_n 2, 1), (3, .iload_n 3, 1), (4, .invokevirtual 65, 3), (7, .ifCond .ne 5, 3), (10, .iconst 0, 1), (11, .ireturn, 1), (12, .iconst 0, 1), (13, .istore 4, 2), (15, .iload 4, 2), (17, .bipush 20, 2), (19, .if_icmp .ge 42, 3), (22, .aload_n 1, 1), (23, .invokevirtual 57, 3), (26, .bipush 13, 2), (28, .if_icmp .ne 33, 3), (31, .aload_n 1, 1), (32, .invokevirtual 43, 3), (35, .aload_n 0, 1), (36, .aload_n 1, 1), (37, .aload_n 2, 1), (38, .iload_n 3, 1), (39, .invokevirtual 65, 3), (42, .ifCond .ne 5, 3), (45, .iconst 0, 1), (46, .ireturn, 1), (47, .aload_n 0, 1), (48, .bipush 13, 2), (50, .iconst 0, 1), (51, .iconst 0, 1), (52, .invokevirtual 61, 3), (55, .iinc 4 1, 3), (58, .goto (-43), 3), (61, .iconst 1, 1), (62, .ireturn, 1)]
def nc_c_X9_readCond : List (Nat × Instr × Nat) := [(0, .aload_n 0, 1), (1, .aload_n 1, 1), (2, .aload_n 2, 1), (3, .iload_n 3, 1), (4, .invokevirtual 54, 3), (7, .ifCond .ne 5, 3), (10, .iconst 0, 1), (11, .ireturn, 1), (12, .iconst 0, 1), (13, .istore 4, 2), (15, .iload 4, 2), (17, .bipush 20, 2), (19, .if_icmp .ge 42, 3), (22, .aload_n 1, 1), (23, .invokevirtual 57, 3), (26, .bipush 12, 2), (28, .if_icmp .ne 33, 3), (31, .aload_n 1, 1), (32, .invokevirtual 43, 3), (35, .aload_n 0, 1), (36, .aload_n 1, 1), (37, .aload_n 2, 1), (38, .iload_n 3, 1), (39, .invokevirtual 54, 3), (42, .ifCond .ne 5, 3), (45, .iconst 0, 1), (46, .ireturn, 1), (47, .aload_n 0, 1), (48, .bipush 12, 2), (50, .iconst 0, 1), (51, .iconst 0, 1), (52, .invokevirtual 61, 3), (55, .iinc 4 1, 3), (58, .goto (-43), 3), (61, .iconst 1, 1), (62, .ireturn, 1)]
def nc_c_X8_go : List (Nat × Instr × Nat) := [(0, .iload_n 3, 1), (1, .iconst 3, 1), (2, .if_icmp .lt 4, 3), (5, .return_, 1), (6, .iload_n 3, 1), (7, .aload_n 0, 1), (8, .getfield 34, 3), (11, .iconst 1, 1), (12, .isub, 1), (13, .if_icmp .ne 13, 3), (16, .aload_n 0, 1), (17, .aload_n 1, 1), (18, .iload_n 2, 1), (19, .iload_n 3, 1), (20, .iload 4, 2), (22, .invokevirtual 45, 3), (25, .return_, 1), (26, .iload_n 3, 1), (27, .ifCond .ne 10, 3), (30, .aload_n 0, 1), (31, .getfield 27, 3), (34, .goto 7, 3), (37, .aload_n 0, 1), (38, .getfield 31, 3), (41, .astore 5, 2), (43, .iconst 0, 1), (44, .istore 6, 2), (46, .iload 6, 2), (48, .aload_n 0, 1), (49, .getfield 18, 3), (52, .getfield 48, 3), (55, .if_icmp .gt 112, 3), (58, .iload 6, 2), (60, .aload_n 0, 1), (61, .getfield 18, 3), (64, .getfield 48, 3), (67, .if_icmp .ne 7, 3), (70, .iconst 1, 1), (71, .goto 4, 3), (74, .iconst 0, 1), (75, .istore 7, 2), (77, .iload 7, 2), (79, .ifCond .ne 13, 3), (82, .aload_n 1, 1), (83, .iload_n 2, 1), (84, .iload 6, 2), (86, .invokevirtual 53, 3), (89, .ifCond .ne 72, 3), (92, .aload_n 0, 1), (93, .getfield 9, 3), (96, .iload_n 3, 1), (97, .iload 7, 2), (99, .ifCond .eq 7, 3), (102, .iconst (-1), 1), (103, .goto 5, 3), (106, .iload 6, 2), (108, .iastore, 1), (109, .aload 5, 2), (111, .aload_n 1, 1), (112, .invokevirtual 57, 3), (115, .iload 7, 2), (117, .ifCond .ne 11, 3), (120, .aload 5, 2), (122, .iload_n 2, 1), (123, .iload 6, 2), (125, .invokevirtual 61, 3), (128, .aload 5, 2), (130, .iload_n 2, 1), (131, .invokevirtual 65, 3), (134, .istore 8, 2), (136, .aload 5, 2), (138, .invokevirtual 69, 3), (141, .aload 5, 2), (143, .invokevirtual 72, 3), (146, .aload_n 0, 1), (147, .aload 5, 2), (149, .iload_n 2, 1), (150, .iload_n 3, 1), (151, .iconst 1, 1), (152, .iadd, 1), (153, .iload 4, 2), (155, .iload 8, 2), (157, .iadd, 1), (158, .invokevirtual 41, 3), (161, .iinc 6 1, 3), (164, .goto (-118), 3), (167, .return_, 1)]
def nc_c_X10_addRun : List (Nat × Instr × Nat) := [(0, .iconst 0, 1), (1, .istore_n 2, 1), (2, .iconst 0, 1), (3, .istore_n 3, 1), (4, .iconst 0, 1), (5, .istore 4, 2), (7, .lconst 0, 1), (8, .lstore 5, 2), (10, .iload_n 1, 1), (11, .istore 7, 2), (13, .iload 7, 2), (15, .aload_n 0, 1), (16, .getfield 48, 3), (19, .if_icmp .ge 84, 3), (22, .aload_n 0, 1), (23, .iload 7, 2), (25, .invokevirtual 74, 3), (28, .invokestatic 78, 3), (31, .ifCond .ne 15, 3), (34, .aload_n 0, 1), (35, .iload 7, 2), (37, .invokevirtual 74, 3), (40, .invokestatic 82, 3), (43, .ifCond .eq 60, 3), (46, .iinc 2 1, 3), (49, .aload_n 0, 1), (50, .iload 7, 2), (52, .invokevirtual 74, 3), (55, .invokestatic 78, 3), (58, .ifCond .eq 22, 3), (61, .lload 5, 2), (63, .aload_n 0, 1), (64, .iload 7, 2), (66, .invokevirtual 74, 3), (69, .invokestatic 44, 3), (72, .lstore 5, 2), (74, .iinc 3 1, 3), (77, .goto 20, 3), (80, .iload 4, 2), (82, .bipush 10, 2), (84, .imul, 1), (85, .aload_n 0, 1), (86, .iload 7, 2), (88, .invokevirtual 74, 3), (91, .iadd, 1), (92, .bipush 48, 2), (94, .isub, 1), (95, .istore 4, 2), (97, .iinc 7 1, 3), (100, .goto (-87), 3), (103, .iload_n 3, 1), (104, .iload_n 2, 1), (105, .if_icmp .ne 40, 3), (108, .iload_n 2, 1), (109, .bipush 7, 2), (111, .if_icmp .gt 34, 3), (114, .aload_n 0, 1), (115, .lload 5, 2), (117, .invokevirtual 97, 3), (120, .istore 7, 2), (122, .aload_n 0, 1), (123, .iload_n 1, 1), (124, .iload 7, 2), (126, .iconst (-1), 1), (127, .if_icmp .ne 7, 3), (130, .iconst 3, 1), (131, .goto 4, 3), (134, .iconst 2, 1), (135, .iload 7, 2), (137, .lload 5, 2), (139, .invokevirtual 93, 3), (142, .goto 25, 3), (145, .aload_n 0, 1), (146, .iload_n 1, 1), (147, .iload_n 3, 1), (148, .ifCond .ne 12, 3), (151, .iload_n 2, 1), (152, .iconst 3, 1), (153, .if_icmp .gt 7, 3), (156, .iconst 4, 1), (157, .goto 4, 3), (160, .iconst 1, 1), (161, .iload 4, 2), (163, .lconst 0, 1), (164, .invokevirtual 93, 3), (167, .iload_n 2, 1), (168, .ireturn, 1)]
def nc_c_X10_start : List (Nat × Instr × Nat) := [(0, .aload_n 0, 1), (1, .getfield 48, 3), (4, .iload_n 1, 1), (5, .invokestatic 52, 3), (8, .istore_n 2, 1), (9, .aload_n 0, 1), (10, .aload_n 0, 1), (11, .getfield 48, 3), (14, .iload_n 1, 1), (15, .if_icmp .le 7, 3), (18, .iconst 1, 1), (19, .goto 4, 3), (22, .iconst 0, 1), (23, .putfield 58, 3), (26, .aload_n 0, 1), (27, .iconst 0, 1), (28, .putfield 62, 3), (31, .aload_n 0, 1), (32, .iconst 0, 1), (33, .putfield 65, 3), (36, .aload_n 0, 1), (37, .iconst 0, 1), (38, .putfield 68, 3), (41, .aload_n 0, 1), (42, .iconst 0, 1), (43, .putfield 71, 3), (46, .iconst 0, 1), (47, .istore_n 3, 1), (48, .iconst 0, 1), (49, .istore 4, 2), (51, .iload 4, 2), (53, .iload_n 2, 1), (54, .if_icmp .ge 97, 3), (57, .aload_n 0, 1), (58, .iload 4, 2), (60, .invokevirtual 74, 3), (63, .istore 5, 2), (65, .iload 4, 2), (67, .iload_n 3, 1), (68, .if_icmp .lt 32, 3), (71, .iload 5, 2), (73, .invokestatic 78, 3), (76, .ifCond .ne 11, 3), (79, .iload 5, 2), (81, .invokestatic 82, 3), (84, .ifCond .eq 16, 3), (87, .iload 4, 2), (89, .aload_n 0, 1), (90, .iload 4, 2), (92, .invokevirtual 85, 3), (95, .iadd, 1), (96, .istore_n 3, 1), (97, .goto 48, 3), (100, .iload 4, 2), (102, .iload_n 3, 1), (103, .if_icmp .lt 42, 3), (106, .iload 5, 2), (108, .bipush 32, 2), (110, .if_icmp .eq 35, 3), (113, .iload 5, 2), (115, .bipush 10, 2), (117, .if_icmp .eq 28, 3), (120, .aload_n 0, 1), (121, .iload 4, 2), (123, .ldc 88, 2), (125, .iload 5, 2), (127, .i2c, 1), (128, .invokevirtual 90, 3), (131, .ifCond .lt 7, 3), (134, .iconst 5, 1), (135, .goto 4, 3), (138, .iconst 1, 1), (139, .iload 5, 2), (141, .lconst 0, 1), (142, .invokevirtual 93, 3), (145, .iinc 4 1, 3), (148, .goto (-97), 3), (151, .aload_n 0, 1), (152, .iload_n 2, 1), (153, .iconst 0, 1), (154, .iconst 0, 1), (155, .lconst 0, 1), (156, .invokevirtual 93, 3), (159, .return_, 1)]
def nc_c_X10_nextLine : List (Nat × Instr × Nat) := [(0, .aload_n 0, 1), (1, .invokevirtual 120, 3), (4, .aload_n 0, 1), (5, .getfield 104, 3), (8, .ifCond .eq 7, 3), (11, .iconst 1, 1), (12, .goto 4, 3), (15, .iconst 0, 1), (16, .ireturn, 1)]
def nc_c_X0_readArg : List (Nat × Instr × Nat) := [(0, .iload_n 2, 1), (1, .bipush 11, 2), (3, .if_icmp .ne 22, 3), (6, .aload_n 0, 1), (7, .iconst 1, 1), (8, .bipush 60, 2), (10, .invokevirtual 66, 3), (13, .ifCond .eq 10, 3), (16, .aload_n 0, 1), (17, .getfield 70, 3), (20, .goto 4, 3), (23, .iconst (-1), 1), (24, .ireturn, 1), (25, .aload_n 0, 1), (26, .invokevirtual 56, 3), (29, .aload_n 1, 1), (30, .aload_n 0, 1), (31, .bipush 12, 2), (33, .bipush 10, 2), (35, .invokevirtual 46, 3), (38, .ireturn, 1)]
def nc_c_X10_closesLine : List (Nat × Instr × Nat) := [(0, .aload_n 0, 1), (1, .invokevirtual 120, 3), (4, .aload_n 0, 1), (5, .bipush 59, 2), (7, .invokevirtual 123, 3), (10, .ireturn, 1)]
def nc_c_X0_readLine : List (Nat × Instr × Nat) := [(0, .aload_n 1, 1), (1, .invokevirtual 42, 3), (4, .istore_n 3, 1), (5, .iload_n 3, 1), (6, .bipush 10, 2), (8, .if_icmp .eq 13, 3), (11, .iload_n 3, 1), (12, .bipush 11, 2), (14, .if_icmp .eq 7, 3), (17, .iconst 1, 1), (18, .goto 4, 3), (21, .iconst 0, 1), (22, .istore 4, 2), (24, .iload 4, 2), (26, .ifCond .eq 14, 3), (29, .aload_n 2, 1), (30, .aload_n 1, 1), (31, .iconst 4, 1), (32, .bipush 8, 2), (34, .invokevirtual 46, 3), (37, .goto 4, 3), (40, .iconst 0, 1), (41, .istore 5, 2), (43, .iload 5, 2), (45, .ifCond .ge 5, 3), (48, .iconst 0, 1), (49, .ireturn, 1), (50, .aload_n 0, 1), (51, .getfield 21, 3), (54, .bipush 40, 2), (56, .if_icmp .lt 9, 3), (59, .aload_n 1, 1), (60, .iconst 4, 1), (61, .invokevirtual 52, 3), (64, .ireturn, 1), (65, .iload 4, 2), (67, .ifCond .eq 24, 3), (70, .aload_n 1, 1), (71, .invokevirtual 56, 3), (74, .aload_n 1, 1), (75, .invokevirtual 42, 3), (78, .istore_n 3, 1), (79, .iload_n 3, 1), (80, .bipush 9, 2), (82, .if_icmp .eq 9, 3), (85, .aload_n 1, 1), (86, .iconst 1, 1), (87, .invokevirtual 52, 3), (90, .ireturn, 1), (91, .aload_n 1, 1), (92, .aload_n 2, 1), (93, .iload_n 3, 1), (94, .invokestatic 59, 3), (97, .istore 6, 2), (99, .iload 6, 2), (101, .ifCond .lt 10, 3), (104, .aload_n 1, 1), (105, .invokevirtual 63, 3), (108, .ifCond .ne 5, 3), (111, .iconst 0, 1), (112, .ireturn, 1), (113, .aload_n 0, 1), (114, .getfield 9, 3), (117, .aload_n 0, 1), (118, .getfield 21, 3), (121, .iload_n 3, 1), (122, .iastore, 1), (123, .aload_n 0, 1), (124, .getfield 15, 3), (127, .aload_n 0, 1), (128, .getfield 21, 3), (131, .iload 5, 2), (133, .iastore, 1), (134, .aload_n 0, 1), (135, .getfield 18, 3), (138, .aload_n 0, 1), (139, .getfield 21, 3), (142, .iload 6, 2), (144, .iastore, 1), (145, .aload_n 0, 1), (146, .dup, 1), (147, .getfield 21, 3), (150, .iconst 1, 1), (151, .iadd, 1), (152, .putfield 21, 3), (155, .iconst 1, 1), (156, .ireturn, 1)]
def nc_c_X10_mustEnd : List (Nat × Instr × Nat) := [(0, .aload_n 0, 1), (1, .getfield 104, 3), (4, .ifCond .ne 10, 3), (7, .aload_n 0, 1), (8, .getfield 58, 3), (11, .ifCond .eq 11, 3), (14, .aload_n 0, 1), (15, .iconst 1, 1), (16, .invokevirtual 117, 3), (19, .ifCond .eq 7, 3), (22, .iconst 1, 1), (23, .goto 4, 3), (26, .iconst 0, 1), (27, .ireturn, 1)]
def nc_c_X0_read : List (Nat × Instr × Nat) := [(0, .aload_n 0, 1), (1, .iconst 0, 1), (2, .putfield 21, 3), (5, .aload_n 1, 1), (6, .sipush 400, 3), (9, .invokevirtual 25, 3), (12, .iconst 0, 1), (13, .istore_n 3, 1), (14, .iload_n 3, 1), (15, .sipush 400, 3), (18, .if_icmp .gt 27, 3), (21, .aload_n 1, 1), (22, .invokevirtual 31, 3), (25, .ifCond .eq 20, 3), (28, .aload_n 0, 1), (29, .aload_n 1, 1), (30, .aload_n 2, 1), (31, .invokevirtual 35, 3), (34, .ifCond .ne 5, 3), (37, .iconst 0, 1), (38, .ireturn, 1), (39, .iinc 3 1, 3), (42, .goto (-28), 3), (45, .aload_n 1, 1), (46, .invokevirtual 39, 3), (49, .ireturn, 1)]
def nc_c_X7_fillPails : List (Nat × Instr × Nat) := [(0, .aload_n 0, 1), (1, .getfield 58, 3), (4, .bipush 30, 2), (6, .irem, 1), (7, .iconst 4, 1), (8, .imul, 1), (9, .istore_n 1, 1), (10, .iconst 0, 1), (11, .istore_n 2, 1), (12, .iload_n 2, 1), (13, .iconst 4, 1), (14, .if_icmp .ge 18, 3), (17, .aload_n 0, 1), (18, .getfield 39, 3), (21, .iload_n 1, 1), (22, .iload_n 2, 1), (23, .iadd, 1), (24, .iconst 0, 1), (25, .iastore, 1), (26, .iinc 2 1, 3), (29, .goto (-17), 3), (32, .iconst 0, 1), (33, .istore_n 2, 1), (34, .iload_n 2, 1), (35, .aload_n 0, 1), (36, .getfield 48, 3), (39, .getfield 105, 3), (42, .if_icmp .ge 60, 3), (45, .aload_n 0, 1), (46, .iload_n 2, 1), (47, .invokevirtual 158, 3), (50, .istore_n 3, 1), (51, .aload_n 0, 1), (52, .getfield 48, 3), (55, .getfield 146, 3), (58, .iload_n 2, 1), (59, .iaload, 1), (60, .istore 4, 2), (62, .aload_n 0, 1), (63, .getfield 33, 3), (66, .iload_n 2, 1), (67, .dup2, 1), (68, .iaload, 1), (69, .iload_n 3, 1), (70, .iadd, 1), (71, .iastore, 1), (72, .aload_n 0, 1), (73, .getfield 36, 3), (76, .iload 4, 2), (78, .dup2, 1), (79, .iaload, 1), (80, .iload_n 3, 1), (81, .iadd, 1), (82, .iastore, 1), (83, .aload_n 0, 1), (84, .getfield 39, 3), (87, .iload_n 1, 1), (88, .iload 4, 2), (90, .iadd, 1), (91, .dup2, 1), (92, .iaload, 1), (93, .iload_n 3, 1), (94, .iadd, 1), (95, .iastore, 1), (96, .iinc 2 1, 3), (99, .goto (-65), 3), (102, .return_, 1)]
def nc_c_X7_goDays : List (Nat × Instr × Nat) := [(0, .aload_n 0, 1), (1, .getfield 58, 3), (4, .istore_n 2, 1), (5, .iconst 0, 1), (6, .istore_n 3, 1), (7, .iload_n 3, 1), (8, .iload_n 1, 1), (9, .if_icmp .ge 31, 3), (12, .aload_n 0, 1), (13, .getfield 58, 3), (16, .sipush 400, 3), (19, .if_icmp .ge 21, 3), (22, .aload_n 0, 1), (23, .invokevirtual 149, 3), (26, .aload_n 0, 1), (27, .invokevirtual 152, 3), (30, .aload_n 0, 1), (31, .invokevirtual 155, 3), (34, .iinc 3 1, 3), (37, .goto (-30), 3), (40, .aload_n 0, 1), (41, .getfield 58, 3), (44, .iload_n 2, 1), (45, .isub, 1), (46, .ireturn, 1)]
def nc_c_X7_whyNotFound : List (Nat × Instr × Nat) := [(0, .aload_n 0, 1), (1, .getfield 48, 3), (4, .iload_n 1, 1), (5, .invokevirtual 99, 3), (8, .ifCond .ne 5, 3), (11, .iconst 1, 1), (12, .ireturn, 1), (13, .aload_n 0, 1), (14, .getfield 68, 3), (17, .iload_n 1, 1), (18, .ishr, 1), (19, .iconst 1, 1), (20, .iand, 1), (21, .iconst 1, 1), (22, .if_icmp .ne 7, 3), (25, .iconst 2, 1), (26, .goto 4, 3), (29, .iconst 0, 1), (30, .ireturn, 1)]
def nc_c_X7_wouldDoubt : List (Nat × Instr × Nat) := [(0, .aload_n 0, 1), (1, .iload_n 1, 1), (2, .invokevirtual 77, 3), (5, .ifCond .ne 21, 3), (8, .aload_n 0, 1), (9, .getfield 15, 3), (12, .iload_n 1, 1), (13, .iaload, 1), (14, .iload_n 2, 1), (15, .ishr, 1), (16, .iconst 1, 1), (17, .iand, 1), (18, .iconst 1, 1), (19, .if_icmp .ne 7, 3), (22, .iconst 1, 1), (23, .goto 4, 3), (26, .iconst 0, 1), (27, .ireturn, 1)]
def nc_c_X7_wouldDry : List (Nat × Instr × Nat) := [(0, .iconst 0, 1), (1, .istore_n 2, 1), (2, .iconst 0, 1), (3, .istore_n 3, 1), (4, .iload_n 3, 1), (5, .aload_n 0, 1), (6, .getfield 48, 3), (9, .getfield 105, 3), (12, .if_icmp .ge 44, 3), (15, .aload_n 0, 1), (16, .iload_n 3, 1), (17, .iload_n 1, 1), (18, .invokevirtual 108, 3), (21, .ifCond .eq 29, 3), (24, .aload_n 0, 1), (25, .getfield 30, 3), (28, .iload_n 3, 1), (29, .iaload, 1), (30, .iconst 1, 1), (31, .iadd, 1), (32, .aload_n 0, 1), (33, .getfield 48, 3), (36, .getfield 112, 3), (39, .iload_n 3, 1), (40, .iaload, 1), (41, .if_icmp .lt 9, 3), (44, .iload_n 2, 1), (45, .iconst 1, 1), (46, .iload_n 3, 1), (47, .ishl, 1), (48, .ior, 1), (49, .istore_n 2, 1), (50, .iinc 3 1, 3), (53, .goto (-49), 3), (56, .iload_n 2, 1), (57, .ireturn, 1)]
def nc_c_X7_findOut : List (Nat × Instr × Nat) := [(0, .aload_n 0, 1), (1, .iload_n 1, 1), (2, .invokevirtual 102, 3), (5, .istore_n 2, 1), (6, .iconst 0, 1), (7, .istore_n 3, 1), (8, .iload_n 3, 1), (9, .aload_n 0, 1), (10, .getfield 48, 3), (13, .getfield 105, 3), (16, .if_icmp .ge 28, 3), (19, .aload_n 0, 1), (20, .iload_n 3, 1), (21, .iload_n 1, 1), (22, .invokevirtual 108, 3), (25, .ifCond .eq 13, 3), (28, .aload_n 0, 1), (29, .getfield 30, 3), (32, .iload_n 3, 1), (33, .dup2, 1), (34, .iaload, 1), (35, .iconst 1, 1), (36, .iadd, 1), (37, .iastore, 1), (38, .iinc 3 1, 3), (41, .goto (-33), 3), (44, .aload_n 0, 1), (45, .dup, 1), (46, .getfield 65, 3), (49, .iload_n 2, 1), (50, .ior, 1), (51, .putfield 65, 3), (54, .aload_n 0, 1), (55, .dup, 1), (56, .getfield 68, 3), (59, .iconst 1, 1), (60, .iload_n 1, 1), (61, .ishl, 1), (62, .ior, 1), (63, .putfield 68, 3), (66, .return_, 1)]
def nc_c_X0_live : List (Nat × Instr × Nat) := [(0, .aload_n 0, 1), (1, .getfield 9, 3), (4, .iload_n 2, 1), (5, .iaload, 1), (6, .bipush 11, 2), (8, .if_icmp .ne 36, 3), (11, .aload_n 1, 1), (12, .getfield 87, 3), (15, .aload_n 0, 1), (16, .getfield 18, 3), (19, .iload_n 2, 1), (20, .iaload, 1), (21, .iadd, 1), (22, .sipush 400, 3), (25, .if_icmp .le 6, 3), (28, .bipush 21, 2), (30, .ireturn, 1), (31, .aload_n 1, 1), (32, .aload_n 0, 1), (33, .getfield 18, 3), (36, .iload_n 2, 1), (37, .iaload, 1), (38, .invokevirtual 101, 3), (41, .pop, 1), (42, .iconst 0, 1), (43, .ireturn, 1), (44, .aload_n 0, 1), (45, .getfield 9, 3), (48, .iload_n 2, 1), (49, .iaload, 1), (50, .bipush 10, 2), (52, .if_icmp .ne 35, 3), (55, .aload_n 1, 1), (56, .aload_n 0, 1), (57, .getfield 18, 3), (60, .iload_n 2, 1), (61, .iaload, 1), (62, .invokevirtual 105, 3), (65, .istore_n 3, 1), (66, .iload_n 3, 1), (67, .ifCond .eq 8, 3), (70, .bipush 10, 2), (72, .iload_n 3, 1), (73, .iadd, 1), (74, .ireturn, 1), (75, .aload_n 1, 1), (76, .aload_n 0, 1), (77, .getfield 18, 3), (80, .iload_n 2, 1), (81, .iaload, 1), (82, .invokevirtual 108, 3), (85, .iconst 0, 1), (86, .ireturn, 1), (87, .aload_n 1, 1), (88, .aload_n 0, 1), (89, .getfield 15, 3), (92, .iload_n 2, 1), (93, .iaload, 1), (94, .aload_n 0, 1), (95, .getfield 18, 3), (98, .iload_n 2, 1), (99, .iaload, 1), (100, .invokevirtual 111, 3), (103, .istore_n 3, 1), (104, .iload_n 3, 1), (105, .ifCond .ne 19, 3), (108, .aload_n 1, 1), (109, .aload_n 0, 1), (110, .getfield 15, 3), (113, .iload_n 2, 1), (114, .iaload, 1), (115, .aload_n 0, 1), (116, .getfield 18, 3), (119, .iload_n 2, 1), (120, .iaload, 1), (121, .invokevirtual 115, 3), (124, .iload_n 3, 1), (125, .ireturn, 1)]
def nc_c_X0_judge : List (Nat × Instr × Nat) := [(0, .aload_n 0, 1), (1, .iconst 1, 1), (2, .putfield 73, 3), (5, .aload_n 0, 1), (6, .iconst 0, 1), (7, .putfield 77, 3), (10, .aload_n 0, 1), (11, .iconst 0, 1), (12, .putfield 80, 3), (15, .iconst 0, 1), (16, .istore_n 2, 1), (17, .iload_n 2, 1), (18, .aload_n 0, 1), (19, .getfield 21, 3), (22, .if_icmp .ge 44, 3), (25, .aload_n 0, 1), (26, .getfield 77, 3), (29, .ifCond .ne 37, 3), (32, .aload_n 0, 1), (33, .aload_n 0, 1), (34, .aload_n 1, 1), (35, .iload_n 2, 1), (36, .invokevirtual 83, 3), (39, .putfield 77, 3), (42, .aload_n 0, 1), (43, .aload_n 0, 1), (44, .getfield 77, 3), (47, .ifCond .ne 9, 3), (50, .iload_n 2, 1), (51, .iconst 1, 1), (52, .iadd, 1), (53, .goto 4, 3), (56, .iload_n 2, 1), (57, .putfield 80, 3), (60, .iinc 2 1, 3), (63, .goto (-46), 3), (66, .aload_n 0, 1), (67, .aload_n 1, 1), (68, .getfield 87, 3), (71, .putfield 92, 3), (74, .aload_n 0, 1), (75, .aload_n 1, 1), (76, .getfield 95, 3), (79, .putfield 98, 3), (82, .aload_n 0, 1), (83, .getfield 77, 3), (86, .ifCond .ne 7, 3), (89, .iconst (-1), 1), (90, .goto 7, 3), (93, .aload_n 0, 1), (94, .getfield 80, 3), (97, .ireturn, 1)]
def nc_c_X1_lookAt : List (Nat × Instr × Nat) := [(0, .aload_n 0, 1), (1, .aload_n 0, 1), (2, .getfield 28, 3), (5, .invokevirtual 58, 3), (8, .aload_n 0, 1), (9, .getfield 32, 3), (12, .getfield 62, 3), (15, .iload_n 1, 1), (16, .iaload, 1), (17, .iconst (-1), 1), (18, .ixor, 1), (19, .iand, 1), (20, .putfield 40, 3), (23, .aload_n 0, 1), (24, .aload_n 0, 1), (25, .getfield 28, 3), (28, .getfield 67, 3), (31, .aload_n 0, 1), (32, .getfield 32, 3), (35, .getfield 62, 3), (38, .iload_n 1, 1), (39, .iaload, 1), (40, .invokestatic 70, 3), (43, .isub, 1), (44, .putfield 75, 3), (47, .aload_n 0, 1), (48, .aload_n 0, 1), (49, .getfield 32, 3), (52, .iload_n 1, 1), (53, .invokevirtual 78, 3), (56, .putfield 81, 3), (59, .aload_n 0, 1), (60, .aload_n 0, 1), (61, .getfield 32, 3), (64, .iload_n 1, 1), (65, .invokevirtual 84, 3), (68, .putfield 88, 3), (71, .aload_n 0, 1), (72, .getfield 32, 3), (75, .iload_n 1, 1), (76, .invokevirtual 91, 3), (79, .istore_n 2, 1), (80, .aload_n 0, 1), (81, .getfield 9, 3), (84, .iconst 0, 1), (85, .iconst 0, 1), (86, .iastore, 1), (87, .iconst 0, 1), (88, .istore_n 3, 1), (89, .iload_n 3, 1), (90, .aload_n 0, 1), (91, .getfield 28, 3), (94, .getfield 94, 3), (97, .if_icmp .ge 67, 3), (100, .aload_n 0, 1), (101, .getfield 32, 3), (104, .iload_n 3, 1), (105, .iload_n 2, 1), (106, .aload_n 0, 1), (107, .getfield 32, 3), (110, .getfield 97, 3), (113, .iload_n 1, 1), (114, .iaload, 1), (115, .invokevirtual 100, 3), (118, .istore 4, 2), (120, .iconst 0, 1), (121, .istore 5, 2), (123, .iload 5, 2), (125, .iconst 1, 1), (126, .iload_n 3, 1), (127, .ishl, 1), (128, .if_icmp .ge 30, 3), (131, .aload_n 0, 1), (132, .getfield 9, 3), (135, .iload 5, 2), (137, .iconst 1, 1), (138, .iload_n 3, 1), (139, .ishl, 1), (140, .ior, 1), (141, .aload_n 0, 1), (142, .getfield 9, 3), (145, .iload 5, 2), (147, .iaload, 1), (148, .iload 4, 2), (150, .iadd, 1), (151, .iastore, 1), (152, .iinc 5 1, 3), (155, .goto (-32), 3), (158, .iinc 3 1, 3), (161, .goto (-72), 3), (164, .return_, 1)]
def nc_c_X1_milkBy : List (Nat × Instr × Nat) := [(0, .aload_n 0, 1), (1, .getfield 88, 3), (4, .ifCond .ne 15, 3), (7, .iload_n 1, 1), (8, .aload_n 0, 1), (9, .getfield 28, 3), (12, .getfield 43, 3), (15, .iand, 1), (16, .ifCond .eq 7, 3), (19, .iconst 0, 1), (20, .goto 18, 3), (23, .iconst 0, 1), (24, .aload_n 0, 1), (25, .getfield 81, 3), (28, .aload_n 0, 1), (29, .getfield 9, 3), (32, .iload_n 1, 1), (33, .iaload, 1), (34, .iadd, 1), (35, .invokestatic 104, 3), (38, .ireturn, 1)]
def nc_c_X1_bestOf : List (Nat × Instr × Nat) := [(0, .iconst 0, 1), (1, .istore_n 2, 1), (2, .iconst 1, 1), (3, .iload_n 1, 1), (4, .invokestatic 70, 3), (7, .ishl, 1), (8, .istore_n 3, 1), (9, .iconst 0, 1), (10, .istore 4, 2), (12, .iconst 1, 1), (13, .istore 5, 2), (15, .iload 5, 2), (17, .iload_n 3, 1), (18, .if_icmp .ge 69, 3), (21, .iload 4, 2), (23, .iload_n 1, 1), (24, .invokestatic 110, 3), (27, .istore 4, 2), (29, .iload 4, 2), (31, .invokestatic 70, 3), (34, .istore 6, 2), (36, .iload 6, 2), (38, .aload_n 0, 1), (39, .getfield 75, 3), (42, .if_icmp .gt 39, 3), (45, .aload_n 0, 1), (46, .iload 4, 2), (48, .invokevirtual 52, 3), (51, .aload_n 0, 1), (52, .iload_n 2, 1), (53, .invokevirtual 52, 3), (56, .isub, 1), (57, .istore 7, 2), (59, .iload 7, 2), (61, .ifCond .gt 17, 3), (64, .iload 7, 2), (66, .ifCond .ne 15, 3), (69, .iload 6, 2), (71, .iload_n 2, 1), (72, .invokestatic 70, 3), (75, .if_icmp .ge 6, 3), (78, .iload 4, 2), (80, .istore_n 2, 1), (81, .iinc 5 1, 3), (84, .goto (-69), 3), (87, .iload_n 2, 1), (88, .ireturn, 1)]
def nc_c_X1_most : List (Nat × Instr × Nat) := [(0, .aload_n 0, 1), (1, .iload_n 1, 1), (2, .invokevirtual 36, 3), (5, .aload_n 0, 1), (6, .aload_n 0, 1), (7, .aload_n 0, 1), (8, .getfield 40, 3), (11, .aload_n 0, 1), (12, .getfield 28, 3), (15, .getfield 43, 3), (18, .iconst (-1), 1), (19, .ixor, 1), (20, .iand, 1), (21, .invokevirtual 48, 3), (24, .putfield 18, 3), (27, .aload_n 0, 1), (28, .aload_n 0, 1), (29, .getfield 18, 3), (32, .invokevirtual 52, 3), (35, .ireturn, 1)]
def nc_c_X1_mostWithoutLies : List (Nat × Instr × Nat) := [(0, .aload_n 0, 1), (1, .iload_n 1, 1), (2, .invokevirtual 36, 3), (5, .aload_n 0, 1), (6, .aload_n 0, 1), (7, .aload_n 0, 1), (8, .getfield 40, 3), (11, .aload_n 0, 1), (12, .getfield 28, 3), (15, .getfield 43, 3), (18, .iconst (-1), 1), (19, .ixor, 1), (20, .iand, 1), (21, .aload_n 0, 1), (22, .getfield 28, 3), (25, .getfield 55, 3), (28, .iconst (-1), 1), (29, .ixor, 1), (30, .iand, 1), (31, .invokevirtual 48, 3), (34, .invokevirtual 52, 3), (37, .ireturn, 1)]
def nc_c_X1_isLess : List (Nat × Instr × Nat) := [(0, .iload_n 2, 1), (1, .iconst (-1), 1), (2, .if_icmp .ne 5, 3), (5, .iconst 1, 1), (6, .ireturn, 1), (7, .iload_n 1, 1), (8, .aload_n 0, 1), (9, .getfield 28, 3), (12, .getfield 55, 3), (15, .iand, 1), (16, .invokestatic 70, 3), (19, .iload_n 2, 1), (20, .aload_n 0, 1), (21, .getfield 28, 3), (24, .getfield 55, 3), (27, .iand, 1), (28, .invokestatic 70, 3), (31, .isub, 1), (32, .istore_n 3, 1), (33, .iload_n 3, 1), (34, .ifCond .lt 18, 3), (37, .iload_n 3, 1), (38, .ifCond .ne 18, 3), (41, .iload_n 1, 1), (42, .invokestatic 70, 3), (45, .iload_n 2, 1), (46, .invokestatic 70, 3), (49, .if_icmp .ge 7, 3), (52, .iconst 1, 1), (53, .goto 4, 3), (56, .iconst 0, 1), (57, .ireturn, 1)]
def nc_c_X1_fewestLies : List (Nat × Instr × Nat) := [(0, .aload_n 0, 1), (1, .iload_n 1, 1), (2, .invokevirtual 36, 3), (5, .aload_n 0, 1), (6, .getfield 40, 3), (9, .aload_n 0, 1), (10, .getfield 28, 3), (13, .getfield 43, 3), (16, .iconst (-1), 1), (17, .ixor, 1), (18, .iand, 1), (19, .istore_n 3, 1), (20, .iconst 1, 1), (21, .iload_n 3, 1), (22, .invokestatic 70, 3), (25, .ishl, 1), (26, .istore 4, 2), (28, .iconst (-1), 1), (29, .istore 5, 2), (31, .iconst 0, 1), (32, .istore 6, 2), (34, .iconst 0, 1), (35, .istore 7, 2), (37, .iload 7, 2), (39, .iload 4, 2), (41, .if_icmp .ge 54, 3), (44, .iload 6, 2), (46, .invokestatic 70, 3), (49, .aload_n 0, 1), (50, .getfield 75, 3), (53, .if_icmp .gt 28, 3), (56, .aload_n 0, 1), (57, .iload 6, 2), (59, .invokevirtual 52, 3), (62, .iload_n 2, 1), (63, .if_icmp .lt 18, 3), (66, .aload_n 0, 1), (67, .iload 6, 2), (69, .iload 5, 2), (71, .invokevirtual 113, 3), (74, .ifCond .eq 7, 3), (77, .iload 6, 2), (79, .istore 5, 2), (81, .iload 6, 2), (83, .iload_n 3, 1), (84, .invokestatic 110, 3), (87, .istore 6, 2), (89, .iinc 7 1, 3), (92, .goto (-55), 3), (95, .iload 5, 2), (97, .iconst (-1), 1), (98, .if_icmp .ne 5, 3), (101, .iconst (-1), 1), (102, .ireturn, 1), (103, .aload_n 0, 1), (104, .iload 5, 2), (106, .putfield 18, 3), (109, .iload 5, 2), (111, .aload_n 0, 1), (112, .getfield 28, 3), (115, .getfield 55, 3), (118, .iand, 1), (119, .invokestatic 70, 3), (122, .ireturn, 1)]
def nc_c_X1_mostEven : List (Nat × Instr × Nat) := [(0, .iconst (-1), 1), (1, .istore_n 2, 1), (2, .iconst 0, 1), (3, .istore_n 3, 1), (4, .iconst 0, 1), (5, .istore 4, 2), (7, .iload 4, 2), (9, .aload_n 0, 1), (10, .getfield 28, 3), (13, .getfield 94, 3), (16, .if_icmp .ge 42, 3), (19, .iconst 2, 1), (20, .aload_n 0, 1), (21, .getfield 15, 3), (24, .iload 4, 2), (26, .iaload, 1), (27, .imul, 1), (28, .iload_n 1, 1), (29, .isub, 1), (30, .invokestatic 129, 3), (33, .istore 5, 2), (35, .iload_n 2, 1), (36, .iconst (-1), 1), (37, .if_icmp .eq 9, 3), (40, .iload 5, 2), (42, .iload_n 3, 1), (43, .if_icmp .ge 9, 3), (46, .iload 4, 2), (48, .istore_n 2, 1), (49, .iload 5, 2), (51, .istore_n 3, 1), (52, .iinc 4 1, 3), (55, .goto (-48), 3), (58, .iload_n 2, 1), (59, .ireturn, 1)]
def nc_c_X1_setsThatGive : List (Nat × Instr × Nat) := [(0, .aload_n 0, 1), (1, .iload_n 1, 1), (2, .invokevirtual 36, 3), (5, .aload_n 0, 1), (6, .getfield 15, 3), (9, .iconst 0, 1), (10, .invokestatic 117, 3), (13, .iconst 1, 1), (14, .aload_n 0, 1), (15, .getfield 40, 3), (18, .invokestatic 70, 3), (21, .ishl, 1), (22, .istore_n 3, 1), (23, .iconst 0, 1), (24, .istore 4, 2), (26, .aload_n 0, 1), (27, .getfield 28, 3), (30, .invokevirtual 58, 3), (33, .istore 5, 2), (35, .iconst 0, 1), (36, .istore 6, 2), (38, .iconst 0, 1), (39, .istore 7, 2), (41, .iload 7, 2), (43, .iload_n 3, 1), (44, .if_icmp .ge 58, 3), (47, .iload 6, 2), (49, .invokestatic 70, 3), (52, .aload_n 0, 1), (53, .getfield 75, 3), (56, .if_icmp .gt 29, 3), (59, .aload_n 0, 1), (60, .iload 6, 2), (62, .invokevirtual 52, 3), (65, .iload_n 2, 1), (66, .if_icmp .ne 19, 3), (69, .iinc 4 1, 3), (72, .iload 5, 2), (74, .iload 6, 2), (76, .iand, 1), (77, .istore 5, 2), (79, .aload_n 0, 1), (80, .iload 6, 2), (82, .invokevirtual 123, 3), (85, .iload 6, 2), (87, .aload_n 0, 1), (88, .getfield 40, 3), (91, .invokestatic 110, 3), (94, .istore 6, 2), (96, .iinc 7 1, 3), (99, .goto (-58), 3), (102, .iload 4, 2), (104, .ifCond .le 19, 3), (107, .aload_n 0, 1), (108, .iload 5, 2), (110, .putfield 22, 3), (113, .aload_n 0, 1), (114, .aload_n 0, 1), (115, .iload 4, 2), (117, .invokevirtual 126, 3), (120, .putfield 25, 3), (123, .iload 4, 2), (125, .ireturn, 1)]
def nc_c_X2_clear : List (Nat × Instr × Nat) := [(0, .aload_n 0, 1), (1, .iconst 0, 1), (2, .putfield 50, 3), (5, .aload_n 0, 1), (6, .iconst 0, 1), (7, .putfield 53, 3), (10, .aload_n 0, 1), (11, .iconst 0, 1), (12, .putfield 56, 3), (15, .aload_n 0, 1), (16, .iconst 0, 1), (17, .putfield 59, 3), (20, .aload_n 0, 1), (21, .iconst 0, 1), (22, .putfield 62, 3), (25, .aload_n 0, 1), (26, .iconst 3, 1), (27, .putfield 9, 3), (30, .aload_n 0, 1), (31, .iconst 0, 1), (32, .putfield 65, 3), (35, .aload_n 0, 1), (36, .iconst 0, 1), (37, .putfield 68, 3), (40, .aload_n 0, 1), (41, .getfield 15, 3), (44, .lconst 0, 1), (45, .invokestatic 71, 3), (48, .aload_n 0, 1), (49, .getfield 19, 3), (52, .iconst 0, 1), (53, .invokestatic 77, 3), (56, .return_, 1)]
def nc_c_X2_copyFrom : List (Nat × Instr × Nat) := [(0, .aload_n 0, 1), (1, .aload_n 1, 1), (2, .getfield 50, 3), (5, .putfield 50, 3), (8, .aload_n 0, 1), (9, .aload_n 1, 1), (10, .getfield 53, 3), (13, .putfield 53, 3), (16, .aload_n 0, 1), (17, .aload_n 1, 1), (18, .getfield 56, 3), (21, .putfield 56, 3), (24, .aload_n 0, 1), (25, .aload_n 1, 1), (26, .getfield 59, 3), (29, .putfield 59, 3), (32, .aload_n 0, 1), (33, .aload_n 1, 1), (34, .getfield 62, 3), (37, .putfield 62, 3), (40, .aload_n 0, 1), (41, .aload_n 1, 1), (42, .getfield 9, 3), (45, .putfield 9, 3), (48, .aload_n 0, 1), (49, .aload_n 1, 1), (50, .getfield 65, 3), (53, .putfield 65, 3), (56, .aload_n 0, 1), (57, .aload_n 1, 1), (58, .getfield 68, 3), (61, .putfield 68, 3), (64, .aload_n 1, 1), (65, .getfield 15, 3), (68, .iconst 0, 1), (69, .aload_n 0, 1), (70, .getfield 15, 3), (73, .iconst 0, 1), (74, .bipush 22, 2), (76, .invokestatic 80, 3), (79, .aload_n 1, 1), (80, .getfield 19, 3), (83, .iconst 0, 1), (84, .aload_n 0, 1), (85, .getfield 19, 3), (88, .iconst 0, 1), (89, .iconst 4, 1), (90, .invokestatic 80, 3), (93, .aload_n 1, 1), (94, .getfield 23, 3), (97, .iconst 0, 1), (98, .aload_n 0, 1), (99, .getfield 23, 3), (102, .iconst 0, 1), (103, .bipush 8, 2), (105, .invokestatic 80, 3), (108, .aload_n 1, 1), (109, .getfield 26, 3), (112, .iconst 0, 1), (113, .aload_n 0, 1), (114, .getfield 26, 3), (117, .iconst 0, 1), (118, .bipush 8, 2), (120, .invokestatic 80, 3), (123, .aload_n 1, 1), (124, .getfield 29, 3), (127, .iconst 0, 1), (128, .aload_n 0, 1), (129, .getfield 29, 3), (132, .iconst 0, 1), (133, .bipush 8, 2), (135, .invokestatic 80, 3), (138, .aload_n 1, 1), (139, .getfield 32, 3), (142, .iconst 0, 1), (143, .aload_n 0, 1), (144, .getfield 32, 3), (147, .iconst 0, 1), (148, .bipush 8, 2), (150, .invokestatic 80, 3), (153, .aload_n 1, 1), (154, .getfield 35, 3), (157, .iconst 0, 1), (158, .aload_n 0, 1), (159, .getfield 35, 3), (162, .iconst 0, 1), (163, .bipush 10, 2), (165, .invokestatic 80, 3), (168, .aload_n 1, 1), (169, .getfield 38, 3), (172, .iconst 0, 1), (173, .aload_n 0, 1), (174, .getfield 38, 3), (177, .iconst 0, 1), (178, .bipush 10, 2), (180, .invokestatic 80, 3), (183, .aload_n 1, 1), (184, .getfield 41, 3), (187, .iconst 0, 1), (188, .aload_n 0, 1), (189, .getfield 41, 3), (192, .iconst 0, 1), (193, .bipush 6, 2), (195, .invokestatic 80, 3), (198, .aload_n 1, 1), (199, .getfield 44, 3), (202, .iconst 0, 1), (203, .aload_n 0, 1), (204, .getfield 44, 3), (207, .iconst 0, 1), (208, .bipush 6, 2), (210, .invokestatic 80, 3), (213, .aload_n 1, 1), (214, .getfield 47, 3), (217, .iconst 0, 1), (218, .aload_n 0, 1), (219, .getfield 47, 3), (222, .iconst 0, 1), (223, .bipush 6, 2), (225, .invokestatic 80, 3), (228, .return_, 1)]
def nc_c_X2_nextNewName : List (Nat × Instr × Nat) := [(0, .aload_n 1, 1), (1, .invokevirtual 86, 3), (4, .aload_n 1, 1), (5, .getfield 91, 3), (8, .iconst 3, 1), (9, .if_icmp .eq 9, 3), (12, .aload_n 1, 1), (13, .iconst 1, 1), (14, .invokevirtual 93, 3), (17, .ireturn, 1), (18, .aload_n 0, 1), (19, .aload_n 1, 1), (20, .getfield 97, 3), (23, .invokevirtual 101, 3), (26, .iconst (-1), 1), (27, .if_icmp .ne 13, 3), (30, .iload_n 2, 1), (31, .ifCond .lt 9, 3), (34, .iload_n 2, 1), (35, .bipush 22, 2), (37, .if_icmp .lt 9, 3), (40, .aload_n 1, 1), (41, .iconst 3, 1), (42, .invokevirtual 93, 3), (45, .ireturn, 1), (46, .aload_n 0, 1), (47, .getfield 15, 3), (50, .iload_n 2, 1), (51, .aload_n 1, 1), (52, .getfield 97, 3), (55, .lastore, 1), (56, .iconst 1, 1), (57, .ireturn, 1)]
def nc_c_X2_hasHedge : List (Nat × Instr × Nat) := [(0, .aload_n 0, 1), (1, .iload_n 1, 1), (2, .invokevirtual 105, 3), (5, .aload_n 0, 1), (6, .iload_n 2, 1), (7, .invokevirtual 105, 3), (10, .iand, 1), (11, .ifCond .eq 7, 3), (14, .iconst 1, 1), (15, .goto 4, 3), (18, .iconst 0, 1), (19, .ireturn, 1)]
def nc_c_X2_fewestBetween : List (Nat × Instr × Nat) := [(0, .iconst 1, 1), (1, .aload_n 0, 1), (2, .getfield 62, 3), (5, .ishl, 1), (6, .iconst 1, 1), (7, .isub, 1), (8, .istore_n 3, 1), (9, .iconst 0, 1), (10, .istore 4, 2), (12, .iload 4, 2), (14, .iconst 1, 1), (15, .aload_n 0, 1), (16, .getfield 62, 3), (19, .ishl, 1), (20, .if_icmp .ge 35, 3), (23, .iload 4, 2), (25, .invokestatic 109, 3), (28, .iload_n 3, 1), (29, .invokestatic 109, 3), (32, .if_icmp .ge 17, 3), (35, .aload_n 0, 1), (36, .iload_n 1, 1), (37, .iload_n 2, 1), (38, .iload 4, 2), (40, .invokevirtual 114, 3), (43, .ifCond .ne 6, 3), (46, .iload 4, 2), (48, .istore_n 3, 1), (49, .iinc 4 1, 3), (52, .goto (-40), 3), (55, .iload_n 3, 1), (56, .ireturn, 1)]
def nc_c_X3_readFarm : List (Nat × Instr × Nat) := [(0, .aload_n 0, 1), (1, .getfield 15, 3), (4, .getfield 71, 3), (7, .istore_n 1, 1), (8, .iload_n 1, 1), (9, .iconst 4, 1), (10, .if_icmp .lt 12, 3), (13, .aload_n 0, 1), (14, .getfield 9, 3), (17, .iconst 4, 1), (18, .invokevirtual 67, 3), (21, .ireturn, 1), (22, .aload_n 0, 1), (23, .getfield 15, 3), (26, .aload_n 0, 1), (27, .getfield 9, 3), (30, .iconst 0, 1), (31, .iload_n 1, 1), (32, .iadd, 1), (33, .invokevirtual 74, 3), (36, .ifCond .ne 5, 3), (39, .iconst 0, 1), (40, .ireturn, 1), (41, .aload_n 0, 1), (42, .getfield 15, 3), (45, .dup, 1), (46, .getfield 71, 3), (49, .iconst 1, 1), (50, .iadd, 1), (51, .putfield 71, 3), (54, .aload_n 0, 1), (55, .getfield 9, 3), (58, .invokevirtual 78, 3), (61, .ireturn, 1)]
def nc_c_X3_readCow : List (Nat × Instr × Nat) := [(0, .aload_n 0, 1), (1, .getfield 15, 3), (4, .getfield 81, 3), (7, .istore_n 1, 1), (8, .iload_n 1, 1), (9, .bipush 8, 2), (11, .if_icmp .lt 12, 3), (14, .aload_n 0, 1), (15, .getfield 9, 3), (18, .iconst 4, 1), (19, .invokevirtual 67, 3), (22, .ireturn, 1), (23, .aload_n 0, 1), (24, .getfield 15, 3), (27, .aload_n 0, 1), (28, .getfield 9, 3), (31, .iconst 4, 1), (32, .iload_n 1, 1), (33, .iadd, 1), (34, .invokevirtual 74, 3), (37, .ifCond .ne 5, 3), (40, .iconst 0, 1), (41, .ireturn, 1), (42, .aload_n 0, 1), (43, .getfield 9, 3), (46, .invokevirtual 84, 3), (49, .aload_n 0, 1), (50, .getfield 15, 3), (53, .aload_n 0, 1), (54, .getfield 9, 3), (57, .iconst 0, 1), (58, .iconst 4, 1), (59, .invokevirtual 87, 3), (62, .istore_n 2, 1), (63, .iload_n 2, 1), (64, .ifCond .lt 21, 3), (67, .iload_n 2, 1), (68, .iconst 4, 1), (69, .if_icmp .ge 16, 3), (72, .aload_n 0, 1), (73, .getfield 9, 3), (76, .iconst 1, 1), (77, .bipush 40, 2), (79, .invokevirtual 91, 3), (82, .ifCond .ne 5, 3), (85, .iconst 0, 1), (86, .ireturn, 1), (87, .aload_n 0, 1), (88, .getfield 15, 3), (91, .getfield 95, 3), (94, .iload_n 1, 1), (95, .iload_n 2, 1), (96, .iastore, 1), (97, .aload_n 0, 1), (98, .getfield 15, 3), (101, .getfield 99, 3), (104, .iload_n 2, 1), (105, .dup2, 1), (106, .iaload, 1), (107, .iconst 1, 1), (108, .iload_n 1, 1), (109, .ishl, 1), (110, .ior, 1), (111, .iastore, 1), (112, .aload_n 0, 1), (113, .getfield 15, 3), (116, .getfield 102, 3), (119, .iload_n 1, 1), (120, .aload_n 0, 1), (121, .getfield 9, 3), (124, .getfield 105, 3), (127, .iastore, 1), (128, .aload_n 0, 1), (129, .getfield 9, 3), (132, .iconst 1, 1), (133, .bipush 9, 2), (135, .invokevirtual 91, 3), (138, .ifCond .ne 5, 3), (141, .iconst 0, 1), (142, .ireturn, 1), (143, .aload_n 0, 1), (144, .getfield 15, 3), (147, .getfield 108, 3), (150, .iload_n 1, 1), (151, .aload_n 0, 1), (152, .getfield 9, 3), (155, .getfield 105, 3), (158, .iastore, 1), (159, .aload_n 0, 1), (160, .getfield 9, 3), (163, .iconst 1, 1), (164, .bipush 30, 2), (166, .invokevirtual 91, 3), (169, .ifCond .ne 5, 3), (172, .iconst 0, 1), (173, .ireturn, 1), (174, .aload_n 0, 1), (175, .getfield 15, 3), (178, .getfield 111, 3), (181, .iload_n 1, 1), (182, .aload_n 0, 1), (183, .getfield 9, 3), (186, .getfield 105, 3), (189, .iastore, 1), (190, .aload_n 0, 1), (191, .getfield 15, 3), (194, .dup, 1), (195, .getfield 81, 3), (198, .iconst 1, 1), (199, .iadd, 1), (200, .putfield 81, 3), (203, .aload_n 0, 1), (204, .getfield 9, 3), (207, .invokevirtual 78, 3), (210, .ireturn, 1)]
def nc_c_X3_readNews : List (Nat × Instr × Nat) := [(0, .aload_n 0, 1), (1, .getfield 15, 3), (4, .getfield 114, 3), (7, .istore_n 1, 1), (8, .iload_n 1, 1), (9, .bipush 10, 2), (11, .if_icmp .lt 12, 3), (14, .aload_n 0, 1), (15, .getfield 9, 3), (18, .iconst 4, 1), (19, .invokevirtual 67, 3), (22, .ireturn, 1), (23, .aload_n 0, 1), (24, .getfield 15, 3), (27, .aload_n 0, 1), (28, .getfield 9, 3), (31, .bipush 12, 2), (33, .iload_n 1, 1), (34, .iadd, 1), (35, .invokevirtual 74, 3), (38, .ifCond .ne 5, 3), (41, .iconst 0, 1), (42, .ireturn, 1), (43, .aload_n 0, 1), (44, .getfield 9, 3), (47, .invokevirtual 84, 3), (50, .aload_n 0, 1), (51, .getfield 9, 3), (54, .invokevirtual 48, 3), (57, .istore_n 2, 1), (58, .iload_n 2, 1), (59, .iconst 4, 1), (60, .if_icmp .lt 9, 3), (63, .iload_n 2, 1), (64, .bipush 7, 2), (66, .if_icmp .le 12, 3), (69, .aload_n 0, 1), (70, .getfield 9, 3), (73, .iconst 1, 1), (74, .invokevirtual 67, 3), (77, .ireturn, 1), (78, .aload_n 0, 1), (79, .getfield 15, 3), (82, .getfield 117, 3), (85, .iload_n 1, 1), (86, .iload_n 2, 1), (87, .iconst 4, 1), (88, .isub, 1), (89, .iastore, 1), (90, .aload_n 0, 1), (91, .getfield 15, 3), (94, .getfield 117, 3), (97, .iload_n 1, 1), (98, .iaload, 1), (99, .iconst 2, 1), (100, .if_icmp .ne 18, 3), (103, .aload_n 0, 1), (104, .getfield 15, 3), (107, .dup, 1), (108, .getfield 120, 3), (111, .iconst 1, 1), (112, .iload_n 1, 1), (113, .ishl, 1), (114, .ior, 1), (115, .putfield 120, 3), (118, .aload_n 0, 1), (119, .getfield 9, 3), (122, .iconst 0, 1), (123, .bipush 20, 2), (125, .invokevirtual 91, 3), (128, .ifCond .ne 5, 3), (131, .iconst 0, 1), (132, .ireturn, 1), (133, .aload_n 0, 1), (134, .getfield 15, 3), (137, .getfield 123, 3), (140, .iload_n 1, 1), (141, .aload_n 0, 1), (142, .getfield 9, 3), (145, .getfield 105, 3), (148, .iastore, 1), (149, .aload_n 0, 1), (150, .getfield 15, 3), (153, .dup, 1), (154, .getfield 114, 3), (157, .iconst 1, 1), (158, .iadd, 1), (159, .putfield 114, 3), (162, .aload_n 0, 1), (163, .getfield 9, 3), (166, .invokevirtual 84, 3), (169, .aload_n 0, 1), (170, .getfield 9, 3), (173, .invokevirtual 48, 3), (176, .iconst 3, 1), (177, .if_icmp .ne 25, 3), (180, .aload_n 0, 1), (181, .getfield 15, 3), (184, .dup, 1), (185, .getfield 126, 3), (188, .iconst 1, 1), (189, .iload_n 1, 1), (190, .ishl, 1), (191, .ior, 1), (192, .putfield 126, 3), (195, .aload_n 0, 1), (196, .getfield 9, 3), (199, .invokevirtual 84, 3), (202, .aload_n 0, 1), (203, .getfield 9, 3), (206, .bipush 59, 2), (208, .invokevirtual 129, 3), (211, .ireturn, 1)]
def nc_c_X3_readHedge : List (Nat × Instr × Nat) := [(0, .aload_n 0, 1), (1, .getfield 9, 3), (4, .invokevirtual 84, 3), (7, .aload_n 0, 1), (8, .getfield 15, 3), (11, .aload_n 0, 1), (12, .getfield 9, 3), (15, .iconst 0, 1), (16, .iconst 4, 1), (17, .invokevirtual 87, 3), (20, .istore_n 1, 1), (21, .iload_n 1, 1), (22, .ifCond .ge 5, 3), (25, .iconst 0, 1), (26, .ireturn, 1), (27, .aload_n 0, 1), (28, .getfield 9, 3), (31, .invokevirtual 84, 3), (34, .aload_n 0, 1), (35, .getfield 15, 3), (38, .aload_n 0, 1), (39, .getfield 9, 3), (42, .iconst 0, 1), (43, .iconst 4, 1), (44, .invokevirtual 87, 3), (47, .istore_n 2, 1), (48, .iload_n 2, 1), (49, .ifCond .ge 5, 3), (52, .iconst 0, 1), (53, .ireturn, 1), (54, .aload_n 0, 1), (55, .getfield 15, 3), (58, .getfield 132, 3), (61, .istore_n 3, 1), (62, .iload_n 1, 1), (63, .iload_n 2, 1), (64, .if_icmp .eq 21, 3), (67, .aload_n 0, 1), (68, .getfield 15, 3), (71, .iload_n 1, 1), (72, .iload_n 2, 1), (73, .invokevirtual 135, 3), (76, .ifCond .ne 9, 3), (79, .iload_n 3, 1), (80, .bipush 6, 2), (82, .if_icmp .lt 12, 3), (85, .aload_n 0, 1), (86, .getfield 9, 3), (89, .iconst 3, 1), (90, .invokevirtual 67, 3), (93, .ireturn, 1), (94, .aload_n 0, 1), (95, .getfield 9, 3), (98, .iconst 1, 1), (99, .bipush 9, 2), (101, .invokevirtual 91, 3), (104, .ifCond .ne 5, 3), (107, .iconst 0, 1), (108, .ireturn, 1), (109, .aload_n 0, 1), (110, .getfield 15, 3), (113, .getfield 138, 3), (116, .iload_n 3, 1), (117, .iload_n 1, 1), (118, .iastore, 1), (119, .aload_n 0, 1), (120, .getfield 15, 3), (123, .getfield 141, 3), (126, .iload_n 3, 1), (127, .iload_n 2, 1), (128, .iastore, 1), (129, .aload_n 0, 1), (130, .getfield 15, 3), (133, .getfield 144, 3), (136, .iload_n 3, 1), (137, .aload_n 0, 1), (138, .getfield 9, 3), (141, .getfield 105, 3), (144, .iastore, 1), (145, .aload_n 0, 1), (146, .getfield 15, 3), (149, .dup, 1), (150, .getfield 132, 3), (153, .iconst 1, 1), (154, .iadd, 1), (155, .putfield 132, 3), (158, .aload_n 0, 1), (159, .getfield 9, 3), (162, .invokevirtual 78, 3), (165, .ireturn, 1)]
def nc_c_X3_readHears : List (Nat × Instr × Nat) := [(0, .aload_n 0, 1), (1, .getfield 24, 3), (4, .ifCond .eq 12, 3), (7, .aload_n 0, 1), (8, .getfield 9, 3), (11, .iconst 3, 1), (12, .invokevirtual 67, 3), (15, .ireturn, 1), (16, .aload_n 0, 1), (17, .getfield 9, 3), (20, .iconst 1, 1), (21, .iconst 5, 1), (22, .invokevirtual 91, 3), (25, .ifCond .ne 5, 3), (28, .iconst 0, 1), (29, .ireturn, 1), (30, .aload_n 0, 1), (31, .iconst 1, 1), (32, .putfield 24, 3), (35, .aload_n 0, 1), (36, .getfield 15, 3), (39, .aload_n 0, 1), (40, .getfield 9, 3), (43, .getfield 105, 3), (46, .putfield 147, 3), (49, .aload_n 0, 1), (50, .getfield 9, 3), (53, .invokevirtual 78, 3), (56, .ireturn, 1)]
def nc_c_X3_readLine : List (Nat × Instr × Nat) := [(0, .aload_n 0, 1), (1, .getfield 9, 3), (4, .invokevirtual 48, 3), (7, .tableswitch 78 0 9 #[53, 58, 63, 78, 78, 78, 78, 78, 68, 73], 53), (60, .aload_n 0, 1), (61, .invokevirtual 52, 3), (64, .ireturn, 1), (65, .aload_n 0, 1), (66, .invokevirtual 55, 3), (69, .ireturn, 1), (70, .aload_n 0, 1), (71, .invokevirtual 58, 3), (74, .ireturn, 1), (75, .aload_n 0, 1), (76, .invokevirtual 61, 3), (79, .ireturn, 1), (80, .aload_n 0, 1), (81, .invokevirtual 64, 3), (84, .ireturn, 1), (85, .aload_n 0, 1), (86, .getfield 9, 3), (89, .iconst 1, 1), (90, .invokevirtual 67, 3), (93, .ireturn, 1)]
def nc_c_X3_read : List (Nat × Instr × Nat) := [(0, .aload_n 0, 1), (1, .getfield 15, 3), (4, .invokevirtual 19, 3), (7, .aload_n 0, 1), (8, .iconst 0, 1), (9, .putfield 24, 3), (12, .aload_n 0, 1), (13, .getfield 9, 3), (16, .sipush 900, 3), (19, .invokevirtual 28, 3), (22, .iconst 0, 1), (23, .istore_n 1, 1), (24, .iload_n 1, 1), (25, .sipush 900, 3), (28, .if_icmp .gt 41, 3), (31, .aload_n 0, 1), (32, .getfield 9, 3), (35, .invokevirtual 34, 3), (38, .ifCond .eq 31, 3), (41, .aload_n 0, 1), (42, .invokevirtual 38, 3), (45, .ifCond .ne 5, 3), (48, .iconst 0, 1), (49, .ireturn, 1), (50, .aload_n 0, 1), (51, .getfield 15, 3), (54, .dup, 1), (55, .getfield 41, 3), (58, .iconst 1, 1), (59, .iadd, 1), (60, .putfield 41, 3), (63, .iinc 1 1, 3), (66, .goto (-42), 3), (69, .aload_n 0, 1), (70, .getfield 9, 3), (73, .invokevirtual 45, 3), (76, .ireturn, 1)]
def nc_c_X4_tellAndFind : List (Nat × Instr × Nat) := [(0, .aload_n 1, 1), (1, .getfield 14, 3), (4, .getfield 20, 3), (7, .istore_n 2, 1), (8, .iload_n 2, 1), (9, .ifCond .ne 4, 3), (12, .return_, 1), (13, .iconst 0, 1), (14, .istore_n 3, 1), (15, .iload_n 3, 1), (16, .aload_n 1, 1), (17, .getfield 14, 3), (20, .getfield 25, 3), (23, .if_icmp .ge 41, 3), (26, .aload_n 0, 1), (27, .iconst 3, 1), (28, .invokevirtual 28, 3), (31, .ifCond .ne 27, 3), (34, .aload_n 0, 1), (35, .iload_n 2, 1), (36, .invokevirtual 28, 3), (39, .istore 4, 2), (41, .aload_n 1, 1), (42, .iload_n 3, 1), (43, .iload 4, 2), (45, .invokevirtual 32, 3), (48, .ifCond .ne 10, 3), (51, .aload_n 1, 1), (52, .iload_n 3, 1), (53, .iload 4, 2), (55, .invokevirtual 36, 3), (58, .iinc 3 1, 3), (61, .goto (-46), 3), (64, .aload_n 0, 1), (65, .bipush 12, 2), (67, .invokevirtual 28, 3), (70, .ifCond .ne 22, 3), (73, .aload_n 0, 1), (74, .iload_n 2, 1), (75, .invokevirtual 28, 3), (78, .istore_n 3, 1), (79, .aload_n 1, 1), (80, .iload_n 3, 1), (81, .invokevirtual 40, 3), (84, .ifCond .ne 8, 3), (87, .aload_n 1, 1), (88, .iload_n 3, 1), (89, .invokevirtual 43, 3), (92, .return_, 1)]
def nc_c_X5_keep : List (Nat × Instr × Nat) := [(0, .aload_n 0, 1), (1, .aload_n 0, 1), (2, .getfield 24, 3), (5, .iconst 1, 1), (6, .iadd, 1), (7, .bipush 8, 2), (9, .irem, 1), (10, .putfield 24, 3), (13, .aload_n 0, 1), (14, .getfield 11, 3), (17, .aload_n 0, 1), (18, .getfield 24, 3), (21, .aaload, 1), (22, .astore_n 2, 1), (23, .aload_n 2, 1), (24, .ifnull 23, 3), (27, .aload_n 2, 1), (28, .aload_n 1, 1), (29, .invokevirtual 27, 3), (32, .aload_n 0, 1), (33, .aload_n 0, 1), (34, .getfield 20, 3), (37, .iconst 1, 1), (38, .iadd, 1), (39, .bipush 8, 2), (41, .invokestatic 31, 3), (44, .putfield 20, 3), (47, .return_, 1)]
def nc_c_X5_takeBack : List (Nat × Instr × Nat) := [(0, .aload_n 0, 1), (1, .getfield 11, 3), (4, .aload_n 0, 1), (5, .getfield 24, 3), (8, .aaload, 1), (9, .astore_n 2, 1), (10, .aload_n 0, 1), (11, .getfield 20, 3), (14, .ifCond .eq 7, 3), (17, .aload_n 2, 1), (18, .ifnonnull 5, 3), (21, .iconst (-1), 1), (22, .ireturn, 1), (23, .aload_n 1, 1), (24, .aload_n 2, 1), (25, .invokevirtual 27, 3), (28, .aload_n 0, 1), (29, .aload_n 0, 1), (30, .getfield 24, 3), (33, .bipush 8, 2), (35, .iadd, 1), (36, .iconst 1, 1), (37, .isub, 1), (38, .bipush 8, 2), (40, .irem, 1), (41, .putfield 24, 3), (44, .aload_n 0, 1), (45, .dup, 1), (46, .getfield 20, 3), (49, .iconst 1, 1), (50, .isub, 1), (51, .putfield 20, 3), (54, .aload_n 0, 1), (55, .getfield 20, 3), (58, .ireturn, 1)]
def nc_c_X7_clear : List (Nat × Instr × Nat) := [(0, .aload_n 0, 1), (1, .iconst 0, 1), (2, .putfield 58, 3), (5, .aload_n 0, 1), (6, .iconst 0, 1), (7, .putfield 62, 3), (10, .aload_n 0, 1), (11, .iconst 0, 1), (12, .putfield 65, 3), (15, .aload_n 0, 1), (16, .iconst 0, 1), (17, .putfield 68, 3), (20, .aload_n 0, 1), (21, .getfield 15, 3), (24, .iconst 0, 1), (25, .invokestatic 52, 3), (28, .aload_n 0, 1), (29, .getfield 18, 3), (32, .iconst 0, 1), (33, .invokestatic 52, 3), (36, .aload_n 0, 1), (37, .getfield 21, 3), (40, .iconst 0, 1), (41, .invokestatic 52, 3), (44, .aload_n 0, 1), (45, .getfield 24, 3), (48, .iconst 0, 1), (49, .invokestatic 52, 3), (52, .aload_n 0, 1), (53, .getfield 27, 3), (56, .bipush (-100), 2), (58, .invokestatic 52, 3), (61, .aload_n 0, 1), (62, .getfield 30, 3), (65, .iconst 0, 1), (66, .invokestatic 52, 3), (69, .aload_n 0, 1), (70, .getfield 33, 3), (73, .iconst 0, 1), (74, .invokestatic 52, 3), (77, .aload_n 0, 1), (78, .getfield 36, 3), (81, .iconst 0, 1), (82, .invokestatic 52, 3), (85, .return_, 1)]
def nc_c_X8_seek : List (Nat × Instr × Nat) := [(0, .aload_n 0, 1), (1, .iload_n 3, 1), (2, .putfield 34, 3), (5, .aload_n 0, 1), (6, .iconst (-1), 1), (7, .putfield 38, 3), (10, .aload_n 0, 1), (11, .aload_n 1, 1), (12, .iload_n 2, 1), (13, .iconst 0, 1), (14, .iconst 0, 1), (15, .invokevirtual 41, 3), (18, .aload_n 0, 1), (19, .getfield 38, 3), (22, .ireturn, 1)]
def nc_c_X9_copyFrom : List (Nat × Instr × Nat) := [(0, .aload_n 0, 1), (1, .aload_n 1, 1), (2, .getfield 21, 3), (5, .putfield 21, 3), (8, .aload_n 0, 1), (9, .aload_n 1, 1), (10, .getfield 25, 3), (13, .putfield 25, 3), (16, .aload_n 1, 1), (17, .getfield 11, 3), (20, .iconst 0, 1), (21, .aload_n 0, 1), (22, .getfield 11, 3), (25, .iconst 0, 1), (26, .bipush 40, 2), (28, .invokestatic 28, 3), (31, .aload_n 1, 1), (32, .getfield 15, 3), (35, .iconst 0, 1), (36, .aload_n 0, 1), (37, .getfield 15, 3), (40, .iconst 0, 1), (41, .bipush 40, 2), (43, .invokestatic 28, 3), (46, .aload_n 1, 1), (47, .getfield 18, 3), (50, .iconst 0, 1), (51, .aload_n 0, 1), (52, .getfield 18, 3), (55, .iconst 0, 1), (56, .bipush 40, 2), (58, .invokestatic 28, 3), (61, .return_, 1)]
def nc_c_X9_read : List (Nat × Instr × Nat) := [(0, .aload_n 0, 1), (1, .invokevirtual 34, 3), (4, .aload_n 1, 1), (5, .sipush 200, 3), (8, .invokevirtual 37, 3), (11, .aload_n 1, 1), (12, .invokevirtual 43, 3), (15, .aload_n 0, 1), (16, .aload_n 1, 1), (17, .aload_n 2, 1), (18, .iconst 1, 1), (19, .invokevirtual 46, 3), (22, .ifCond .eq 14, 3), (25, .aload_n 1, 1), (26, .invokevirtual 50, 3), (29, .ifCond .eq 7, 3), (32, .iconst 1, 1), (33, .goto 4, 3), (36, .iconst 0, 1), (37, .ireturn, 1)]
def nc_c_X9_isSo : List (Nat × Instr × Nat) := [(0, .aload_n 0, 1), (1, .getfield 11, 3), (4, .iload_n 3, 1), (5, .iaload, 1), (6, .tableswitch 167 15 22 #[46, 52, 58, 82, 107, 132, 143, 155], 46), (52, .aload_n 1, 1), (53, .iload_n 2, 1), (54, .invokevirtual 98, 3), (57, .ireturn, 1), (58, .aload_n 1, 1), (59, .iload_n 2, 1), (60, .invokevirtual 103, 3), (63, .ireturn, 1), (64, .aload_n 1, 1), (65, .getfield 106, 3), (68, .getfield 110, 3), (71, .iload_n 2, 1), (72, .iaload, 1), (73, .aload_n 0, 1), (74, .getfield 18, 3), (77, .iload_n 3, 1), (78, .iaload, 1), (79, .if_icmp .ne 7, 3), (82, .iconst 1, 1), (83, .goto 4, 3), (86, .iconst 0, 1), (87, .ireturn, 1), (88, .aload_n 1, 1), (89, .getfield 113, 3), (92, .iload_n 2, 1), (93, .iaload, 1), (94, .aload_n 0, 1), (95, .getfield 18, 3), (98, .iload_n 3, 1), (99, .iaload, 1), (100, .ishr, 1), (101, .iconst 1, 1), (102, .iand, 1), (103, .iconst 1, 1), (104, .if_icmp .ne 7, 3), (107, .iconst 1, 1), (108, .goto 4, 3), (111, .iconst 0, 1), (112, .ireturn, 1), (113, .aload_n 1, 1), (114, .getfield 116, 3), (117, .iload_n 2, 1), (118, .iaload, 1), (119, .aload_n 0, 1), (120, .getfield 18, 3), (123, .iload_n 3, 1), (124, .iaload, 1), (125, .ishr, 1), (126, .iconst 1, 1), (127, .iand, 1), (128, .iconst 1, 1), (129, .if_icmp .ne 7, 3), (132, .iconst 1, 1), (133, .goto 4, 3), (136, .iconst 0, 1), (137, .ireturn, 1), (138, .aload_n 0, 1), (139, .aload_n 1, 1), (140, .iload_n 2, 1), (141, .invokevirtual 119, 3), (144, .iload_n 3, 1), (145, .invokevirtual 123, 3), (148, .ireturn, 1), (149, .aload_n 0, 1), (150, .aload_n 1, 1), (151, .getfield 126, 3), (154, .iload_n 2, 1), (155, .iaload, 1), (156, .iload_n 3, 1), (157, .invokevirtual 123, 3), (160, .ireturn, 1), (161, .aload_n 0, 1), (162, .aload_n 1, 1), (163, .getfield 129, 3), (166, .iload_n 2, 1), (167, .iaload, 1), (168, .iload_n 3, 1), (169, .invokevirtual 123, 3), (172, .ireturn, 1), (173, .aload_n 0, 1), (174, .iload_n 2, 1), (175, .iload_n 3, 1), (176, .invokevirtual 123, 3), (179, .ireturn, 1)]
def nc_c_X9_holds : List (Nat × Instr × Nat) := [(0, .iconst 0, 1), (1, .istore_n 3, 1), (2, .iconst 0, 1), (3, .istore 4, 2), (5, .iload 4, 2), (7, .aload_n 0, 1), (8, .getfield 21, 3), (11, .if_icmp .ge 101, 3), (14, .iload_n 3, 1), (15, .iconst 1, 1), (16, .iand, 1), (17, .istore 5, 2), (19, .aload_n 0, 1), (20, .getfield 11, 3), (23, .iload 4, 2), (25, .iaload, 1), (26, .bipush 12, 2), (28, .if_icmp .ne 13, 3), (31, .iload_n 3, 1), (32, .iconst 1, 1), (33, .ishr, 1), (34, .iload 5, 2), (36, .ior, 1), (37, .istore_n 3, 1), (38, .goto 68, 3), (41, .aload_n 0, 1), (42, .getfield 11, 3), (45, .iload 4, 2), (47, .iaload, 1), (48, .bipush 13, 2), (50, .if_icmp .ne 16, 3), (53, .iload_n 3, 1), (54, .iconst 1, 1), (55, .ishr, 1), (56, .iload 5, 2), (58, .bipush (-2), 2), (60, .ior, 1), (61, .iand, 1), (62, .istore_n 3, 1), (63, .goto 43, 3), (66, .aload_n 0, 1), (67, .getfield 11, 3), (70, .iload 4, 2), (72, .iaload, 1), (73, .bipush 14, 2), (75, .if_icmp .ne 10, 3), (78, .iload_n 3, 1), (79, .iconst 1, 1), (80, .ixor, 1), (81, .istore_n 3, 1), (82, .goto 24, 3), (85, .iload_n 3, 1), (86, .iconst 1, 1), (87, .ishl, 1), (88, .aload_n 0, 1), (89, .aload_n 1, 1), (90, .iload_n 2, 1), (91, .iload 4, 2), (93, .invokevirtual 94, 3), (96, .ifCond .eq 7, 3), (99, .iconst 1, 1), (100, .goto 4, 3), (103, .iconst 0, 1), (104, .ior, 1), (105, .istore_n 3, 1), (106, .iinc 4 1, 3), (109, .goto (-104), 3), (112, .iload_n 3, 1), (113, .iconst 1, 1), (114, .iand, 1), (115, .iconst 1, 1), (116, .if_icmp .ne 7, 3), (119, .iconst 1, 1), (120, .goto 4, 3), (123, .iconst 0, 1), (124, .ireturn, 1)]
def nc_c_X11_feed : List (Nat × Instr × Nat) := [(0, .aload_n 0, 1), (1, .getfield 12, 3), (4, .getfield 108, 3), (7, .bipush 20, 2), (9, .iadd, 1), (10, .sipush 940, 3), (13, .if_icmp .le 5, 3), (16, .iconst (-1), 1), (17, .ireturn, 1), (18, .aload_n 0, 1), (19, .getfield 12, 3), (22, .iload_n 1, 1), (23, .invokevirtual 111, 3), (26, .aload_n 0, 1), (27, .getfield 12, 3), (30, .iload_n 2, 1), (31, .invokevirtual 111, 3), (34, .aload_n 0, 1), (35, .getfield 12, 3), (38, .iload_n 3, 1), (39, .invokevirtual 111, 3), (42, .aload_n 0, 1), (43, .getfield 12, 3), (46, .iload 4, 2), (48, .invokevirtual 111, 3), (51, .aload_n 0, 1), (52, .getfield 12, 3), (55, .iload 5, 2), (57, .invokevirtual 111, 3), (60, .aload_n 0, 1), (61, .getfield 12, 3), (64, .getfield 108, 3), (67, .ireturn, 1)]
def nc_c_X11_dairy : List (Nat × Instr × Nat) := [(0, .aload_n 0, 1), (1, .getfield 31, 3), (4, .invokevirtual 115, 3), (7, .istore_n 1, 1), (8, .aload_n 0, 1), (9, .getfield 12, 3), (12, .iconst 0, 1), (13, .putfield 108, 3), (16, .iload_n 1, 1), (17, .ifCond .ne 13, 3), (20, .iconst (-1), 1), (21, .aload_n 0, 1), (22, .getfield 12, 3), (25, .getfield 119, 3), (28, .isub, 1), (29, .ireturn, 1), (30, .aload_n 0, 1), (31, .getfield 19, 3), (34, .aload_n 0, 1), (35, .getfield 23, 3), (38, .invokevirtual 122, 3), (41, .aload_n 0, 1), (42, .getfield 40, 3), (45, .invokevirtual 125, 3), (48, .aload_n 0, 1), (49, .getfield 57, 3), (52, .invokevirtual 128, 3), (55, .aload_n 0, 1), (56, .getfield 50, 3), (59, .invokevirtual 129, 3), (62, .aload_n 0, 1), (63, .getfield 19, 3), (66, .getfield 130, 3), (69, .ireturn, 1)]
def nc_c_X11_cow : List (Nat × Instr × Nat) := [(0, .aload_n 0, 1), (1, .iload_n 1, 1), (2, .invokevirtual 136, 3), (5, .ifCond .eq 13, 3), (8, .iload_n 2, 1), (9, .ifCond .lt 9, 3), (12, .iload_n 2, 1), (13, .bipush 7, 2), (15, .if_icmp .le 11, 3), (18, .new 140, 3), (21, .dup, 1), (22, .invokespecial 142, 3), (25, .athrow, 1), (26, .iload_n 2, 1), (27, .tableswitch 124 0 6 #[41, 51, 68, 85, 95, 105, 115], 41), (68, .aload_n 0, 1), (69, .getfield 19, 3), (72, .getfield 143, 3), (75, .iload_n 1, 1), (76, .iaload, 1), (77, .ireturn, 1), (78, .aload_n 0, 1), (79, .getfield 40, 3), (82, .iload_n 1, 1), (83, .invokevirtual 147, 3), (86, .ifCond .eq 7, 3), (89, .iconst 1, 1), (90, .goto 4, 3), (93, .iconst 0, 1), (94, .ireturn, 1), (95, .aload_n 0, 1), (96, .getfield 40, 3), (99, .iload_n 1, 1), (100, .invokevirtual 150, 3), (103, .ifCond .eq 7, 3), (106, .iconst 1, 1), (107, .goto 4, 3), (110, .iconst 0, 1), (111, .ireturn, 1), (112, .aload_n 0, 1), (113, .getfield 40, 3), (116, .getfield 153, 3), (119, .iload_n 1, 1), (120, .iaload, 1), (121, .ireturn, 1), (122, .aload_n 0, 1), (123, .getfield 40, 3), (126, .getfield 156, 3), (129, .iload_n 1, 1), (130, .iaload, 1), (131, .ireturn, 1), (132, .aload_n 0, 1), (133, .getfield 40, 3), (136, .getfield 159, 3), (139, .iload_n 1, 1), (140, .iaload, 1), (141, .ireturn, 1), (142, .aload_n 0, 1), (143, .getfield 40, 3), (146, .iload_n 1, 1), (147, .invokevirtual 162, 3), (150, .ireturn, 1), (151, .aload_n 0, 1), (152, .getfield 40, 3), (155, .getfield 166, 3), (158, .iload_n 1, 1), (159, .iaload, 1), (160, .ireturn, 1)]
def nc_c_X11_news : List (Nat × Instr × Nat) := [(0, .aload_n 0, 1), (1, .iload_n 1, 1), (2, .invokevirtual 169, 3), (5, .ifCond .ne 5, 3), (8, .iconst (-1), 1), (9, .ireturn, 1), (10, .iload_n 2, 1), (11, .tableswitch 112 0 5 #[37, 47, 57, 74, 86, 99], 37), (48, .aload_n 0, 1), (49, .getfield 19, 3), (52, .getfield 172, 3), (55, .iload_n 1, 1), (56, .iaload, 1), (57, .ireturn, 1), (58, .aload_n 0, 1), (59, .getfield 19, 3), (62, .getfield 175, 3), (65, .iload_n 1, 1), (66, .iaload, 1), (67, .ireturn, 1), (68, .aload_n 0, 1), (69, .getfield 19, 3), (72, .iload_n 1, 1), (73, .invokevirtual 178, 3), (76, .ifCond .eq 7, 3), (79, .iconst 1, 1), (80, .goto 4, 3), (83, .iconst 0, 1), (84, .ireturn, 1), (85, .aload_n 0, 1), (86, .getfield 40, 3), (89, .getfield 181, 3), (92, .iload_n 1, 1), (93, .ishr, 1), (94, .iconst 1, 1), (95, .iand, 1), (96, .ireturn, 1), (97, .aload_n 0, 1), (98, .aload_n 0, 1), (99, .getfield 40, 3), (102, .getfield 156, 3), (105, .iload_n 1, 1), (106, .invokevirtual 184, 3), (109, .ireturn, 1), (110, .aload_n 0, 1), (111, .aload_n 0, 1), (112, .getfield 40, 3), (115, .getfield 159, 3), (118, .iload_n 1, 1), (119, .invokevirtual 184, 3), (122, .ireturn, 1), (123, .iconst (-1), 1), (124, .ireturn, 1)]
def nc_c_X11_milkOfFarm : List (Nat × Instr × Nat) := [(0, .iconst 0, 1), (1, .istore_n 2, 1), (2, .iconst 0, 1), (3, .istore_n 3, 1), (4, .iload_n 3, 1), (5, .aload_n 0, 1), (6, .getfield 19, 3), (9, .getfield 272, 3), (12, .if_icmp .ge 33, 3), (15, .aload_n 0, 1), (16, .getfield 19, 3), (19, .getfield 143, 3), (22, .iload_n 3, 1), (23, .iaload, 1), (24, .iload_n 1, 1), (25, .if_icmp .ne 14, 3), (28, .iload_n 2, 1), (29, .aload_n 0, 1), (30, .getfield 40, 3), (33, .iload_n 3, 1), (34, .invokevirtual 162, 3), (37, .iadd, 1), (38, .istore_n 2, 1), (39, .iinc 3 1, 3), (42, .goto (-38), 3), (45, .iload_n 2, 1), (46, .ireturn, 1)]
def nc_c_X11_farm : List (Nat × Instr × Nat) := [(0, .aload_n 0, 1), (1, .iload_n 1, 1), (2, .invokevirtual 188, 3), (5, .ifCond .eq 12, 3), (8, .iload_n 2, 1), (9, .ifCond .lt 8, 3), (12, .iload_n 2, 1), (13, .iconst 3, 1), (14, .if_icmp .le 11, 3), (17, .new 140, 3), (20, .dup, 1), (21, .invokespecial 142, 3), (24, .athrow, 1), (25, .iload_n 2, 1), (26, .tableswitch 52 0 2 #[26, 36, 46], 26), (52, .aload_n 0, 1), (53, .getfield 19, 3), (56, .getfield 191, 3), (59, .iload_n 1, 1), (60, .iaload, 1), (61, .ireturn, 1), (62, .aload_n 0, 1), (63, .getfield 40, 3), (66, .getfield 194, 3), (69, .iload_n 1, 1), (70, .iaload, 1), (71, .ireturn, 1), (72, .aload_n 0, 1), (73, .iload_n 1, 1), (74, .invokevirtual 197, 3), (77, .ireturn, 1), (78, .aload_n 0, 1), (79, .getfield 19, 3), (82, .iload_n 1, 1), (83, .invokevirtual 200, 3), (86, .ireturn, 1)]
def nc_c_X11_now : List (Nat × Instr × Nat) := [(0, .iload_n 1, 1), (1, .tableswitch 87 0 5 #[39, 47, 55, 63, 71, 79], 39), (40, .aload_n 0, 1), (41, .getfield 40, 3), (44, .getfield 203, 3), (47, .ireturn, 1), (48, .aload_n 0, 1), (49, .getfield 40, 3), (52, .getfield 206, 3), (55, .ireturn, 1), (56, .aload_n 0, 1), (57, .getfield 40, 3), (60, .getfield 181, 3), (63, .ireturn, 1), (64, .aload_n 0, 1), (65, .getfield 40, 3), (68, .invokevirtual 209, 3), (71, .ireturn, 1), (72, .aload_n 0, 1), (73, .getfield 40, 3), (76, .getfield 213, 3), (79, .ireturn, 1), (80, .aload_n 0, 1), (81, .getfield 40, 3), (84, .invokevirtual 216, 3), (87, .ireturn, 1), (88, .iconst (-1), 1), (89, .ireturn, 1)]
def nc_c_X11_why : List (Nat × Instr × Nat) := [(0, .aload_n 0, 1), (1, .iload_n 1, 1), (2, .invokevirtual 136, 3), (5, .ifCond .eq 23, 3), (8, .aload_n 0, 1), (9, .iload_n 2, 1), (10, .invokevirtual 169, 3), (13, .ifCond .eq 15, 3), (16, .aload_n 0, 1), (17, .getfield 40, 3), (20, .iload_n 1, 1), (21, .iload_n 2, 1), (22, .invokevirtual 244, 3), (25, .goto 4, 3), (28, .iconst (-1), 1), (29, .ireturn, 1)]
def nc_c_X11_tell : List (Nat × Instr × Nat) := [(0, .aload_n 0, 1), (1, .iload_n 1, 1), (2, .iload_n 2, 1), (3, .invokevirtual 219, 3), (6, .istore_n 3, 1), (7, .iload_n 3, 1), (8, .ifCond .ne 23, 3), (11, .aload_n 0, 1), (12, .getfield 50, 3), (15, .aload_n 0, 1), (16, .getfield 40, 3), (19, .invokevirtual 223, 3), (22, .aload_n 0, 1), (23, .getfield 40, 3), (26, .iload_n 1, 1), (27, .iload_n 2, 1), (28, .invokevirtual 227, 3), (31, .iload_n 3, 1), (32, .ireturn, 1)]
def nc_c_X11_find : List (Nat × Instr × Nat) := [(0, .aload_n 0, 1), (1, .iload_n 1, 1), (2, .invokevirtual 169, 3), (5, .ifCond .ne 5, 3), (8, .iconst (-1), 1), (9, .ireturn, 1), (10, .aload_n 0, 1), (11, .getfield 40, 3), (14, .iload_n 1, 1), (15, .invokevirtual 231, 3), (18, .istore_n 2, 1), (19, .iload_n 2, 1), (20, .ifCond .ne 22, 3), (23, .aload_n 0, 1), (24, .getfield 50, 3), (27, .aload_n 0, 1), (28, .getfield 40, 3), (31, .invokevirtual 223, 3), (34, .aload_n 0, 1), (35, .getfield 40, 3), (38, .iload_n 1, 1), (39, .invokevirtual 234, 3), (42, .iload_n 2, 1), (43, .ireturn, 1)]
def nc_c_X11_days : List (Nat × Instr × Nat) := [(0, .iload_n 1, 1), (1, .iconst 1, 1), (2, .if_icmp .lt 9, 3), (5, .iload_n 1, 1), (6, .bipush 60, 2), (8, .if_icmp .le 5, 3), (11, .iconst (-1), 1), (12, .ireturn, 1), (13, .aload_n 0, 1), (14, .getfield 40, 3), (17, .getfield 203, 3), (20, .sipush 400, 3), (23, .if_icmp .ge 14, 3), (26, .aload_n 0, 1), (27, .getfield 50, 3), (30, .aload_n 0, 1), (31, .getfield 40, 3), (34, .invokevirtual 223, 3), (37, .aload_n 0, 1), (38, .getfield 40, 3), (41, .iload_n 1, 1), (42, .invokevirtual 237, 3), (45, .ireturn, 1)]
def nc_c_X11_undo : List (Nat × Instr × Nat) := [(0, .aload_n 0, 1), (1, .getfield 50, 3), (4, .aload_n 0, 1), (5, .getfield 40, 3), (8, .invokevirtual 240, 3), (11, .ireturn, 1)]
def nc_c_X11_canBeTold : List (Nat × Instr × Nat) := [(0, .aload_n 0, 1), (1, .iload_n 1, 1), (2, .invokevirtual 136, 3), (5, .ifCond .eq 18, 3), (8, .aload_n 0, 1), (9, .getfield 40, 3), (12, .iload_n 1, 1), (13, .invokevirtual 147, 3), (16, .ifCond .ne 7, 3), (19, .iconst 1, 1), (20, .goto 4, 3), (23, .iconst 0, 1), (24, .ireturn, 1)]
def nc_c_X11_best : List (Nat × Instr × Nat) := [(0, .aload_n 0, 1), (1, .iload_n 1, 1), (2, .invokevirtual 247, 3), (5, .ifCond .eq 14, 3), (8, .aload_n 0, 1), (9, .getfield 76, 3), (12, .iload_n 1, 1), (13, .invokevirtual 250, 3), (16, .goto 4, 3), (19, .iconst (-1), 1), (20, .ireturn, 1)]
def nc_c_X11_least : List (Nat × Instr × Nat) := [(0, .aload_n 0, 1), (1, .iload_n 1, 1), (2, .invokevirtual 247, 3), (5, .ifCond .eq 26, 3), (8, .iload_n 2, 1), (9, .ifCond .lt 22, 3), (12, .iload_n 2, 1), (13, .sipush 999, 3), (16, .if_icmp .gt 15, 3), (19, .aload_n 0, 1), (20, .getfield 76, 3), (23, .iload_n 1, 1), (24, .iload_n 2, 1), (25, .invokevirtual 253, 3), (28, .goto 4, 3), (31, .iconst (-1), 1), (32, .ireturn, 1)]
def nc_c_X11_honest : List (Nat × Instr × Nat) := [(0, .aload_n 0, 1), (1, .iload_n 1, 1), (2, .invokevirtual 247, 3), (5, .ifCond .eq 14, 3), (8, .aload_n 0, 1), (9, .getfield 76, 3), (12, .iload_n 1, 1), (13, .invokevirtual 259, 3), (16, .goto 4, 3), (19, .iconst (-1), 1), (20, .ireturn, 1)]
def nc_c_X11_plan : List (Nat × Instr × Nat) := [(0, .aload_n 0, 1), (1, .iload_n 1, 1), (2, .invokevirtual 136, 3), (5, .ifCond .eq 28, 3), (8, .iload_n 2, 1), (9, .iconst 1, 1), (10, .if_icmp .lt 23, 3), (13, .iload_n 2, 1), (14, .iconst 3, 1), (15, .if_icmp .gt 18, 3), (18, .aload_n 0, 1), (19, .getfield 40, 3), (22, .getfield 203, 3), (25, .iload_n 2, 1), (26, .iadd, 1), (27, .sipush 400, 3), (30, .if_icmp .le 5, 3), (33, .iconst (-1), 1), (34, .ireturn, 1), (35, .aload_n 0, 1), (36, .getfield 83, 3), (39, .aload_n 0, 1), (40, .getfield 40, 3), (43, .iload_n 1, 1), (44, .iload_n 2, 1), (45, .invokevirtual 262, 3), (48, .ireturn, 1)]
def nc_c_X11_allKnow : List (Nat × Instr × Nat) := [(0, .aload_n 0, 1), (1, .iload_n 1, 1), (2, .invokevirtual 169, 3), (5, .ifCond .eq 13, 3), (8, .aload_n 0, 1), (9, .getfield 19, 3), (12, .getfield 272, 3), (15, .ifCond .ne 5, 3), (18, .iconst (-1), 1), (19, .ireturn, 1), (20, .aload_n 0, 1), (21, .getfield 44, 3), (24, .aload_n 0, 1), (25, .getfield 40, 3), (28, .invokevirtual 275, 3), (31, .iconst 0, 1), (32, .istore_n 2, 1), (33, .iload_n 2, 1), (34, .sipush 200, 3), (37, .if_icmp .ge 68, 3), (40, .aload_n 0, 1), (41, .getfield 44, 3), (44, .getfield 203, 3), (47, .sipush 400, 3), (50, .if_icmp .ge 55, 3), (53, .aload_n 0, 1), (54, .getfield 44, 3), (57, .getfield 203, 3), (60, .istore_n 3, 1), (61, .aload_n 0, 1), (62, .getfield 44, 3), (65, .invokevirtual 277, 3), (68, .aload_n 0, 1), (69, .getfield 44, 3), (72, .invokevirtual 280, 3), (75, .aload_n 0, 1), (76, .aload_n 0, 1), (77, .getfield 44, 3), (80, .getfield 159, 3), (83, .iload_n 1, 1), (84, .invokevirtual 184, 3), (87, .aload_n 0, 1), (88, .getfield 19, 3), (91, .invokevirtual 283, 3), (94, .if_icmp .ne 5, 3), (97, .iload_n 3, 1), (98, .ireturn, 1), (99, .iinc 2 1, 3), (102, .goto (-69), 3), (105, .iconst (-1), 1), (106, .ireturn, 1)]
def nc_c_X11_part : List (Nat × Instr × Nat) := [(0, .aload_n 0, 1), (1, .iload_n 1, 1), (2, .invokevirtual 188, 3), (5, .ifCond .eq 16, 3), (8, .aload_n 0, 1), (9, .iload_n 2, 1), (10, .invokevirtual 188, 3), (13, .ifCond .eq 8, 3), (16, .iload_n 1, 1), (17, .iload_n 2, 1), (18, .if_icmp .ne 5, 3), (21, .iconst (-1), 1), (22, .ireturn, 1), (23, .aload_n 0, 1), (24, .aload_n 0, 1), (25, .getfield 19, 3), (28, .iload_n 1, 1), (29, .iload_n 2, 1), (30, .invokevirtual 286, 3), (33, .putfield 104, 3), (36, .aload_n 0, 1), (37, .getfield 104, 3), (40, .invokestatic 289, 3), (43, .ireturn, 1)]
def nc_c_X11_tasted : List (Nat × Instr × Nat) := [(0, .aload_n 0, 1), (1, .getfield 12, 3), (4, .getfield 108, 3), (7, .iconst 1, 1), (8, .if_icmp .ne 14, 3), (11, .aload_n 0, 1), (12, .getfield 12, 3), (15, .iconst 0, 1), (16, .invokevirtual 294, 3), (19, .goto 4, 3), (22, .iconst (-1), 1), (23, .istore_n 2, 1), (24, .aload_n 0, 1), (25, .getfield 12, 3), (28, .iconst 0, 1), (29, .putfield 108, 3), (32, .iload_n 2, 1), (33, .iconst (-1), 1), (34, .if_icmp .eq 23, 3), (37, .aload_n 0, 1), (38, .iload_n 1, 1), (39, .invokevirtual 247, 3), (42, .ifCond .eq 15, 3), (45, .aload_n 0, 1), (46, .getfield 76, 3), (49, .iload_n 1, 1), (50, .iload_n 2, 1), (51, .invokevirtual 297, 3), (54, .goto 4, 3), (57, .iconst (-1), 1), (58, .ireturn, 1)]
def nc_c_X11_dries : List (Nat × Instr × Nat) := [(0, .aload_n 0, 1), (1, .iload_n 1, 1), (2, .invokevirtual 169, 3), (5, .ifCond .eq 25, 3), (8, .aload_n 0, 1), (9, .getfield 40, 3), (12, .iload_n 1, 1), (13, .invokevirtual 231, 3), (16, .ifCond .ne 14, 3), (19, .aload_n 0, 1), (20, .getfield 40, 3), (23, .iload_n 1, 1), (24, .invokevirtual 306, 3), (27, .goto 4, 3), (30, .iconst (-1), 1), (31, .ireturn, 1)]
def nc_c_X11_fits : List (Nat × Instr × Nat) := [(0, .iconst 0, 1), (1, .istore 4, 2), (3, .iload 4, 2), (5, .iload_n 3, 1), (6, .if_icmp .ge 35, 3), (9, .aload_n 0, 1), (10, .getfield 40, 3), (13, .iload_n 1, 1), (14, .iload_n 2, 1), (15, .iload 4, 2), (17, .iadd, 1), (18, .invokevirtual 318, 3), (21, .aload_n 0, 1), (22, .getfield 12, 3), (25, .iload 4, 2), (27, .invokevirtual 294, 3), (30, .if_icmp .eq 5, 3), (33, .iconst 0, 1), (34, .ireturn, 1), (35, .iinc 4 1, 3), (38, .goto (-35), 3), (41, .iconst 1, 1), (42, .ireturn, 1)]
def nc_c_X11_week : List (Nat × Instr × Nat) := [(0, .aload_n 0, 1), (1, .getfield 12, 3), (4, .getfield 108, 3), (7, .istore_n 2, 1), (8, .aload_n 0, 1), (9, .getfield 12, 3), (12, .iconst 0, 1), (13, .putfield 108, 3), (16, .aload_n 0, 1), (17, .iload_n 1, 1), (18, .invokevirtual 188, 3), (21, .ifCond .eq 14, 3), (24, .iload_n 2, 1), (25, .iconst 1, 1), (26, .if_icmp .lt 9, 3), (29, .iload_n 2, 1), (30, .bipush 7, 2), (32, .if_icmp .le 5, 3), (35, .iconst (-1), 1), (36, .ireturn, 1), (37, .iconst 0, 1), (38, .aload_n 0, 1), (39, .getfield 40, 3), (42, .getfield 203, 3), (45, .bipush 30, 2), (47, .isub, 1), (48, .invokestatic 309, 3), (51, .istore_n 3, 1), (52, .iload_n 3, 1), (53, .iload_n 2, 1), (54, .iadd, 1), (55, .aload_n 0, 1), (56, .getfield 40, 3), (59, .getfield 203, 3), (62, .if_icmp .gt 21, 3), (65, .aload_n 0, 1), (66, .iload_n 1, 1), (67, .iload_n 3, 1), (68, .iload_n 2, 1), (69, .invokevirtual 314, 3), (72, .ifCond .eq 5, 3), (75, .iload_n 3, 1), (76, .ireturn, 1), (77, .iinc 3 1, 3), (80, .goto (-28), 3), (83, .iconst (-1), 1), (84, .ireturn, 1)]
def nc_c_X11_pails : List (Nat × Instr × Nat) := [(0, .aload_n 0, 1), (1, .iload_n 1, 1), (2, .invokevirtual 188, 3), (5, .ifCond .eq 15, 3), (8, .aload_n 0, 1), (9, .getfield 40, 3), (12, .iload_n 1, 1), (13, .iload_n 2, 1), (14, .invokevirtual 318, 3), (17, .goto 4, 3), (20, .iconst (-1), 1), (21, .ireturn, 1)]
def nc_c_X11_ahead : List (Nat × Instr × Nat) := [(0, .iload_n 1, 1), (1, .iconst 1, 1), (2, .if_icmp .lt 9, 3), (5, .iload_n 1, 1), (6, .bipush 60, 2), (8, .if_icmp .le 5, 3), (11, .iconst (-1), 1), (12, .ireturn, 1), (13, .aload_n 0, 1), (14, .getfield 44, 3), (17, .aload_n 0, 1), (18, .getfield 40, 3), (21, .invokevirtual 275, 3), (24, .aload_n 0, 1), (25, .getfield 44, 3), (28, .iload_n 1, 1), (29, .invokevirtual 237, 3), (32, .pop, 1), (33, .aload_n 0, 1), (34, .getfield 44, 3), (37, .invokevirtual 209, 3), (40, .aload_n 0, 1), (41, .getfield 40, 3), (44, .invokevirtual 209, 3), (47, .isub, 1), (48, .ireturn, 1)]
def nc_c_X11_drawn : List (Nat × Instr × Nat) := [(0, .iload_n 1, 1), (1, .iconst 1, 1), (2, .if_icmp .lt 19, 3), (5, .iload_n 1, 1), (6, .bipush 60, 2), (8, .if_icmp .gt 13, 3), (11, .aload_n 0, 1), (12, .getfield 19, 3), (15, .getfield 321, 3), (18, .ifCond .ne 5, 3), (21, .iconst (-1), 1), (22, .ireturn, 1), (23, .aload_n 0, 1), (24, .getfield 40, 3), (27, .getfield 203, 3), (30, .sipush 400, 3), (33, .if_icmp .ge 14, 3), (36, .aload_n 0, 1), (37, .getfield 50, 3), (40, .aload_n 0, 1), (41, .getfield 40, 3), (44, .invokevirtual 223, 3), (47, .aload_n 0, 1), (48, .getfield 90, 3), (51, .iload_n 2, 1), (52, .putfield 324, 3), (55, .aload_n 0, 1), (56, .getfield 40, 3), (59, .getfield 203, 3), (62, .istore_n 3, 1), (63, .iconst 0, 1), (64, .istore 4, 2), (66, .iload 4, 2), (68, .iload_n 1, 1), (69, .if_icmp .ge 42, 3), (72, .aload_n 0, 1), (73, .getfield 40, 3), (76, .getfield 203, 3), (79, .sipush 400, 3), (82, .if_icmp .ge 29, 3), (85, .aload_n 0, 1), (86, .getfield 90, 3), (89, .aload_n 0, 1), (90, .getfield 40, 3), (93, .invokevirtual 327, 3), (96, .aload_n 0, 1), (97, .getfield 40, 3), (100, .iconst 1, 1), (101, .invokevirtual 237, 3), (104, .pop, 1), (105, .iinc 4 1, 3), (108, .goto (-42), 3), (111, .aload_n 0, 1), (112, .getfield 40, 3), (115, .getfield 203, 3), (118, .iload_n 3, 1), (119, .isub, 1), (120, .ireturn, 1)]
def nc_c_X11_driesByDraws : List (Nat × Instr × Nat) := [(0, .iconst 0, 1), (1, .istore_n 2, 1), (2, .iload_n 2, 1), (3, .bipush 20, 2), (5, .if_icmp .ge 58, 3), (8, .aload_n 0, 1), (9, .getfield 44, 3), (12, .getfield 203, 3), (15, .sipush 400, 3), (18, .if_icmp .ge 45, 3), (21, .aload_n 0, 1), (22, .getfield 44, 3), (25, .iload_n 1, 1), (26, .invokevirtual 147, 3), (29, .ifCond .ne 34, 3), (32, .aload_n 0, 1), (33, .getfield 90, 3), (36, .aload_n 0, 1), (37, .getfield 44, 3), (40, .invokevirtual 327, 3), (43, .aload_n 0, 1), (44, .getfield 44, 3), (47, .invokevirtual 277, 3), (50, .aload_n 0, 1), (51, .getfield 44, 3), (54, .invokevirtual 280, 3), (57, .iinc 2 1, 3), (60, .goto (-58), 3), (63, .aload_n 0, 1), (64, .getfield 44, 3), (67, .iload_n 1, 1), (68, .invokevirtual 147, 3), (71, .ireturn, 1)]
def nc_c_X11_odds : List (Nat × Instr × Nat) := [(0, .aload_n 0, 1), (1, .iload_n 1, 1), (2, .invokevirtual 136, 3), (5, .ifCond .eq 24, 3), (8, .iload_n 2, 1), (9, .iconst 1, 1), (10, .if_icmp .lt 19, 3), (13, .iload_n 2, 1), (14, .bipush 30, 2), (16, .if_icmp .gt 13, 3), (19, .aload_n 0, 1), (20, .getfield 19, 3), (23, .getfield 321, 3), (26, .ifCond .ne 5, 3), (29, .iconst (-1), 1), (30, .ireturn, 1), (31, .iconst 0, 1), (32, .istore 4, 2), (34, .iconst 0, 1), (35, .istore 5, 2), (37, .iload 5, 2), (39, .iload_n 2, 1), (40, .if_icmp .ge 42, 3), (43, .aload_n 0, 1), (44, .getfield 44, 3), (47, .aload_n 0, 1), (48, .getfield 40, 3), (51, .invokevirtual 275, 3), (54, .aload_n 0, 1), (55, .getfield 90, 3), (58, .iload_n 3, 1), (59, .iload 5, 2), (61, .iadd, 1), (62, .putfield 324, 3), (65, .aload_n 0, 1), (66, .iload_n 1, 1), (67, .invokevirtual 330, 3), (70, .ifCond .eq 6, 3), (73, .iinc 4 1, 3), (76, .iinc 5 1, 3), (79, .goto (-42), 3), (82, .iload 4, 2), (84, .ireturn, 1)]
def nc_c_X11_book : List (Nat × Instr × Nat) := [(0, .iload_n 1, 1), (1, .ifCond .eq 12, 3), (4, .iload_n 1, 1), (5, .iconst 1, 1), (6, .if_icmp .eq 7, 3), (9, .sipush (-1000), 3), (12, .ireturn, 1), (13, .aload_n 0, 1), (14, .getfield 67, 3), (17, .aload_n 0, 1), (18, .getfield 12, 3), (21, .aload_n 0, 1), (22, .getfield 19, 3), (25, .invokevirtual 333, 3), (28, .istore_n 2, 1), (29, .aload_n 0, 1), (30, .getfield 12, 3), (33, .iconst 0, 1), (34, .putfield 108, 3), (37, .iload_n 2, 1), (38, .ifCond .ne 14, 3), (41, .bipush (-2), 2), (43, .aload_n 0, 1), (44, .getfield 12, 3), (47, .getfield 119, 3), (50, .isub, 1), (51, .ireturn, 1), (52, .aload_n 0, 1), (53, .getfield 44, 3), (56, .aload_n 0, 1), (57, .getfield 40, 3), (60, .invokevirtual 275, 3), (63, .aload_n 0, 1), (64, .getfield 67, 3), (67, .aload_n 0, 1), (68, .getfield 44, 3), (71, .invokevirtual 336, 3), (74, .istore_n 3, 1), (75, .iload_n 1, 1), (76, .iconst 1, 1), (77, .if_icmp .ne 35, 3), (80, .aload_n 0, 1), (81, .getfield 67, 3), (84, .getfield 339, 3), (87, .ifCond .le 25, 3), (90, .aload_n 0, 1), (91, .getfield 50, 3), (94, .aload_n 0, 1), (95, .getfield 40, 3), (98, .invokevirtual 223, 3), (101, .aload_n 0, 1), (102, .getfield 40, 3), (105, .aload_n 0, 1), (106, .getfield 44, 3), (109, .invokevirtual 275, 3), (112, .iload_n 3, 1), (113, .ireturn, 1)]
def nc_c_X11_sentence : List (Nat × Instr × Nat) := [(0, .aload_n 0, 1), (1, .getfield 61, 3), (4, .aload_n 0, 1), (5, .getfield 12, 3), (8, .aload_n 0, 1), (9, .getfield 19, 3), (12, .invokevirtual 355, 3), (15, .istore_n 1, 1), (16, .aload_n 0, 1), (17, .getfield 12, 3), (20, .iconst 0, 1), (21, .putfield 108, 3), (24, .iload_n 1, 1), (25, .ifCond .ne 13, 3), (28, .iconst (-1), 1), (29, .aload_n 0, 1), (30, .getfield 12, 3), (33, .getfield 119, 3), (36, .isub, 1), (37, .ireturn, 1), (38, .aload_n 0, 1), (39, .getfield 57, 3), (42, .aload_n 0, 1), (43, .getfield 61, 3), (46, .invokevirtual 356, 3), (49, .aload_n 0, 1), (50, .getfield 57, 3), (53, .getfield 359, 3), (56, .ireturn, 1)]
def nc_c_X11_said : List (Nat × Instr × Nat) := [(0, .aload_n 0, 1), (1, .getfield 57, 3), (4, .getfield 359, 3), (7, .ifCond .ne 5, 3), (10, .iconst (-1), 1), (11, .ireturn, 1), (12, .iconst 0, 1), (13, .istore_n 2, 1), (14, .iconst 0, 1), (15, .istore_n 3, 1), (16, .iload_n 3, 1), (17, .aload_n 0, 1), (18, .getfield 19, 3), (21, .getfield 272, 3), (24, .if_icmp .ge 34, 3), (27, .aload_n 0, 1), (28, .getfield 57, 3), (31, .aload_n 0, 1), (32, .getfield 40, 3), (35, .iload_n 3, 1), (36, .invokevirtual 362, 3), (39, .ifCond .eq 13, 3), (42, .iload_n 2, 1), (43, .iload_n 1, 1), (44, .if_icmp .ne 5, 3), (47, .iload_n 3, 1), (48, .ireturn, 1), (49, .iinc 2 1, 3), (52, .iinc 3 1, 3), (55, .goto (-39), 3), (58, .iload_n 1, 1), (59, .iconst (-1), 1), (60, .if_icmp .ne 7, 3), (63, .iload_n 2, 1), (64, .goto 4, 3), (67, .iconst (-1), 1), (68, .ireturn, 1)]
def nc_c_X11_image : List (Nat × Instr × Nat) := [(0, .iload_n 1, 1), (1, .ifCond .eq 10, 3), (4, .iload_n 1, 1), (5, .iconst 1, 1), (6, .if_icmp .eq 5, 3), (9, .iconst 0, 1), (10, .ireturn, 1), (11, .iload_n 1, 1), (12, .ifCond .ne 10, 3), (15, .aload_n 0, 1), (16, .getfield 97, 3), (19, .goto 7, 3), (22, .aload_n 0, 1), (23, .getfield 101, 3), (26, .astore_n 2, 1), (27, .aload_n 2, 1), (28, .iconst 1, 1), (29, .putfield 366, 3), (32, .aload_n 2, 1), (33, .getfield 369, 3), (36, .aload_n 0, 1), (37, .getfield 19, 3), (40, .invokevirtual 122, 3), (43, .aload_n 2, 1), (44, .getfield 370, 3), (47, .aload_n 0, 1), (48, .getfield 40, 3), (51, .invokevirtual 275, 3), (54, .aload_n 2, 1), (55, .getfield 371, 3), (58, .aload_n 0, 1), (59, .getfield 57, 3), (62, .invokevirtual 356, 3), (65, .iconst 1, 1), (66, .ireturn, 1)]
def nc_c_X11_restore : List (Nat × Instr × Nat) := [(0, .iload_n 1, 1), (1, .ifCond .eq 10, 3), (4, .iload_n 1, 1), (5, .iconst 1, 1), (6, .if_icmp .eq 5, 3), (9, .iconst 0, 1), (10, .ireturn, 1), (11, .iload_n 1, 1), (12, .ifCond .ne 10, 3), (15, .aload_n 0, 1), (16, .getfield 97, 3), (19, .goto 7, 3), (22, .aload_n 0, 1), (23, .getfield 101, 3), (26, .astore_n 2, 1), (27, .aload_n 2, 1), (28, .getfield 366, 3), (31, .ifCond .ne 5, 3), (34, .iconst 0, 1), (35, .ireturn, 1), (36, .aload_n 0, 1), (37, .getfield 19, 3), (40, .aload_n 2, 1), (41, .getfield 369, 3), (44, .invokevirtual 122, 3), (47, .aload_n 0, 1), (48, .getfield 40, 3), (51, .aload_n 2, 1), (52, .getfield 370, 3), (55, .invokevirtual 275, 3), (58, .aload_n 0, 1), (59, .getfield 57, 3), (62, .aload_n 2, 1), (63, .getfield 371, 3), (66, .invokevirtual 356, 3), (69, .aload_n 0, 1), (70, .getfield 50, 3), (73, .invokevirtual 129, 3), (76, .iconst 1, 1), (77, .ireturn, 1)]
def nc_c_X12_feed : List (Nat × Instr × Nat) := [(0, .aload_n 0, 1), (1, .iconst 0, 1), (2, .putfield 1, 3), (5, .aload_n 0, 1), (6, .getfield 7, 3), (9, .bipush 20, 2), (11, .iadd, 1), (12, .sipush 940, 3), (15, .if_icmp .le 5, 3), (18, .iconst (-1), 1), (19, .ireturn, 1), (20, .aload_n 0, 1), (21, .iload_n 1, 1), (22, .invokevirtual 10, 3), (25, .aload_n 0, 1), (26, .iload_n 2, 1), (27, .invokevirtual 10, 3), (30, .aload_n 0, 1), (31, .iload_n 3, 1), (32, .invokevirtual 10, 3), (35, .aload_n 0, 1), (36, .iload 4, 2), (38, .invokevirtual 10, 3), (41, .aload_n 0, 1), (42, .iload 5, 2), (44, .invokevirtual 10, 3), (47, .aload_n 0, 1), (48, .getfield 7, 3), (51, .ireturn, 1)]
def nc_c_X12_next : List (Nat × Instr × Nat) := [(0, .aload_n 0, 1), (1, .invokevirtual 135, 3), (4, .bipush 32, 2), (6, .if_icmp .eq 12, 3), (9, .aload_n 0, 1), (10, .invokevirtual 135, 3), (13, .bipush 10, 2), (15, .if_icmp .ne 16, 3), (18, .aload_n 0, 1), (19, .dup, 1), (20, .getfield 21, 3), (23, .iconst 1, 1), (24, .iadd, 1), (25, .putfield 21, 3), (28, .goto (-28), 3), (31, .aload_n 0, 1), (32, .aload_n 0, 1), (33, .getfield 21, 3), (36, .putfield 139, 3), (39, .aload_n 0, 1), (40, .iconst 0, 1), (41, .putfield 142, 3), (44, .aload_n 0, 1), (45, .getfield 18, 3), (48, .aload_n 0, 1), (49, .getfield 24, 3), (52, .if_icmp .le 28, 3), (55, .aload_n 0, 1), (56, .getfield 21, 3), (59, .aload_n 0, 1), (60, .getfield 24, 3), (63, .if_icmp .lt 17, 3), (66, .aload_n 0, 1), (67, .aload_n 0, 1), (68, .getfield 24, 3), (71, .putfield 139, 3), (74, .aload_n 0, 1), (75, .iconst 4, 1), (76, .putfield 145, 3), (79, .return_, 1), (80, .aload_n 0, 1), (81, .invokevirtual 135, 3), (84, .istore_n 1, 1), (85, .iload_n 1, 1), (86, .ifCond .ge 9, 3), (89, .aload_n 0, 1), (90, .iconst 0, 1), (91, .putfield 145, 3), (94, .return_, 1), (95, .iload_n 1, 1), (96, .invokestatic 148, 3), (99, .ifCond .ne 65, 3), (102, .iload_n 1, 1), (103, .invokestatic 152, 3), (106, .ifCond .ne 58, 3), (109, .aload_n 0, 1), (110, .iload_n 1, 1), (111, .bipush 59, 2), (113, .if_icmp .eq 27, 3), (116, .iload_n 1, 1), (117, .bipush 40, 2), (119, .if_icmp .eq 21, 3), (122, .iload_n 1, 1), (123, .bipush 41, 2), (125, .if_icmp .eq 15, 3), (128, .iload_n 1, 1), (129, .bipush 60, 2), (131, .if_icmp .lt 13, 3), (134, .iload_n 1, 1), (135, .bipush 62, 2), (137, .if_icmp .gt 7, 3), (140, .iconst 3, 1), (141, .goto 4, 3), (144, .iconst 4, 1), (145, .putfield 145, 3), (148, .aload_n 0, 1), (149, .iload_n 1, 1), (150, .putfield 155, 3), (153, .aload_n 0, 1), (154, .dup, 1), (155, .getfield 21, 3), (158, .iconst 1, 1), (159, .iadd, 1), (160, .putfield 21, 3), (163, .return_, 1), (164, .iload_n 1, 1), (165, .invokestatic 148, 3), (168, .istore_n 2, 1), (169, .iconst 1, 1), (170, .istore_n 3, 1), (171, .aload_n 0, 1), (172, .lconst 0, 1), (173, .putfield 158, 3), (176, .aload_n 0, 1), (177, .iconst 0, 1), (178, .putfield 155, 3), (181, .aload_n 0, 1), (182, .invokevirtual 135, 3), (185, .invokestatic 148, 3), (188, .ifCond .ne 13, 3), (191, .aload_n 0, 1), (192, .invokevirtual 135, 3), (195, .invokestatic 152, 3), (198, .ifCond .eq 100, 3), (201, .iload_n 3, 1), (202, .ifCond .eq 18, 3), (205, .aload_n 0, 1), (206, .invokevirtual 135, 3), (209, .invokestatic 148, 3), (212, .iload_n 2, 1), (213, .if_icmp .ne 7, 3), (216, .iconst 1, 1), (217, .goto 4, 3), (220, .iconst 0, 1), (221, .istore_n 3, 1), (222, .aload_n 0, 1), (223, .getfield 142, 3), (226, .bipush 7, 2), (228, .if_icmp .ge 20, 3), (231, .aload_n 0, 1), (232, .aload_n 0, 1), (233, .getfield 158, 3), (236, .bipush 8, 2), (238, .lshl, 1), (239, .aload_n 0, 1), (240, .invokevirtual 135, 3), (243, .i2l, 1), (244, .lor, 1), (245, .putfield 158, 3), (248, .aload_n 0, 1), (249, .getfield 142, 3), (252, .iconst 3, 1), (253, .if_icmp .ge 22, 3), (256, .aload_n 0, 1), (257, .bipush 10, 2), (259, .aload_n 0, 1), (260, .getfield 155, 3), (263, .imul, 1), (264, .aload_n 0, 1), (265, .invokevirtual 135, 3), (268, .iadd, 1), (269, .bipush 48, 2), (271, .isub, 1), (272, .putfield 155, 3), (275, .aload_n 0, 1), (276, .dup, 1), (277, .getfield 142, 3), (280, .iconst 1, 1), (281, .iadd, 1), (282, .putfield 142, 3), (285, .aload_n 0, 1), (286, .dup, 1), (287, .getfield 21, 3), (290, .iconst 1, 1), (291, .iadd, 1), (292, .putfield 21, 3), (295, .goto (-114), 3), (298, .aload_n 0, 1), (299, .iload_n 3, 1), (300, .ifCond .eq 20, 3), (303, .aload_n 0, 1), (304, .getfield 142, 3), (307, .iload_n 2, 1), (308, .ifCond .eq 8, 3), (311, .bipush 7, 2), (313, .goto 4, 3), (316, .iconst 3, 1), (317, .if_icmp .le 7, 3), (320, .iconst 4, 1), (321, .goto 12, 3), (324, .iload_n 2, 1), (325, .ifCond .eq 7, 3), (328, .iconst 1, 1), (329, .goto 4, 3), (332, .iconst 2, 1), (333, .putfield 145, 3), (336, .return_, 1)]
def nc_c_X12_sign : List (Nat × Instr × Nat) := [(0, .aload_n 0, 1), (1, .iload_n 1, 1), (2, .invokevirtual 168, 3), (5, .ifCond .ne 9, 3), (8, .aload_n 0, 1), (9, .iconst 1, 1), (10, .invokevirtual 171, 3), (13, .ireturn, 1), (14, .aload_n 0, 1), (15, .invokevirtual 174, 3), (18, .iconst 1, 1), (19, .ireturn, 1)]
def nc_c_X12_takes : List (Nat × Instr × Nat) := [(0, .aload_n 0, 1), (1, .getfield 145, 3), (4, .iconst 2, 1), (5, .if_icmp .eq 9, 3), (8, .aload_n 0, 1), (9, .iconst 1, 1), (10, .invokevirtual 171, 3), (13, .ireturn, 1), (14, .aload_n 0, 1), (15, .getfield 155, 3), (18, .iload_n 1, 1), (19, .iload_n 2, 1), (20, .invokestatic 177, 3), (23, .ifCond .ne 9, 3), (26, .aload_n 0, 1), (27, .iconst 2, 1), (28, .invokevirtual 171, 3), (31, .ireturn, 1), (32, .aload_n 0, 1), (33, .aload_n 0, 1), (34, .getfield 155, 3), (37, .putfield 181, 3), (40, .aload_n 0, 1), (41, .invokevirtual 174, 3), (44, .iconst 1, 1), (45, .ireturn, 1)]
def nc_c_X12_puts : List (Nat × Instr × Nat) := [(0, .aload_n 0, 1), (1, .iload_n 2, 1), (2, .iload_n 3, 1), (3, .invokevirtual 184, 3), (6, .ifCond .ne 5, 3), (9, .iconst 0, 1), (10, .ireturn, 1), (11, .aload_n 0, 1), (12, .getfield 37, 3), (15, .iload_n 1, 1), (16, .aload_n 0, 1), (17, .getfield 181, 3), (20, .iastore, 1), (21, .iconst 1, 1), (22, .ireturn, 1)]
def nc_c_X12_fresh : List (Nat × Instr × Nat) := [(0, .aload_n 0, 1), (1, .invokevirtual 188, 3), (4, .ifCond .ne 9, 3), (7, .aload_n 0, 1), (8, .iconst 1, 1), (9, .invokevirtual 171, 3), (12, .ireturn, 1), (13, .aload_n 0, 1), (14, .bipush 22, 2), (16, .aload_n 0, 1), (17, .getfield 37, 3), (20, .iconst 0, 1), (21, .iaload, 1), (22, .invokevirtual 192, 3), (25, .ifCond .ge 33, 3), (28, .aload_n 0, 1), (29, .bipush 26, 2), (31, .aload_n 0, 1), (32, .getfield 37, 3), (35, .iconst 1, 1), (36, .iaload, 1), (37, .invokevirtual 192, 3), (40, .ifCond .ge 18, 3), (43, .aload_n 0, 1), (44, .bipush 34, 2), (46, .aload_n 0, 1), (47, .getfield 37, 3), (50, .iconst 2, 1), (51, .iaload, 1), (52, .invokevirtual 192, 3), (55, .ifCond .lt 9, 3), (58, .aload_n 0, 1), (59, .iconst 3, 1), (60, .invokevirtual 171, 3), (63, .ireturn, 1), (64, .aload_n 0, 1), (65, .getfield 43, 3), (68, .iload_n 1, 1), (69, .aload_n 0, 1), (70, .getfield 158, 3), (73, .lastore, 1), (74, .aload_n 0, 1), (75, .invokevirtual 174, 3), (78, .iconst 1, 1), (79, .ireturn, 1)]
def nc_c_X12_looksAt : List (Nat × Instr × Nat) := [(0, .aload_n 0, 1), (1, .invokevirtual 188, 3), (4, .ifCond .ne 9, 3), (7, .aload_n 0, 1), (8, .iconst 1, 1), (9, .invokevirtual 171, 3), (12, .ireturn, 1), (13, .aload_n 0, 1), (14, .aload_n 0, 1), (15, .iload_n 1, 1), (16, .iload_n 2, 1), (17, .invokevirtual 192, 3), (20, .putfield 181, 3), (23, .aload_n 0, 1), (24, .getfield 181, 3), (27, .ifCond .ge 11, 3), (30, .aload_n 0, 1), (31, .iconst 3, 1), (32, .invokevirtual 171, 3), (35, .ifCond .eq 7, 3), (38, .iconst 1, 1), (39, .goto 4, 3), (42, .iconst 0, 1), (43, .ireturn, 1)]
def nc_c_X12_takesName : List (Nat × Instr × Nat) := [(0, .aload_n 0, 1), (1, .iload_n 1, 1), (2, .iload_n 2, 1), (3, .invokevirtual 196, 3), (6, .ifCond .ne 5, 3), (9, .iconst 0, 1), (10, .ireturn, 1), (11, .aload_n 0, 1), (12, .invokevirtual 174, 3), (15, .iconst 1, 1), (16, .ireturn, 1)]
def nc_c_X12_kindOf : List (Nat × Instr × Nat) := [(0, .aload_n 0, 1), (1, .ldc2_w 93, 3), (4, .invokevirtual 199, 3), (7, .ifCond .eq 5, 3), (10, .iconst 0, 1), (11, .ireturn, 1), (12, .aload_n 0, 1), (13, .ldc2_w 95, 3), (16, .invokevirtual 199, 3), (19, .ifCond .eq 5, 3), (22, .iconst 1, 1), (23, .ireturn, 1), (24, .aload_n 0, 1), (25, .ldc2_w 97, 3), (28, .invokevirtual 199, 3), (31, .ifCond .eq 5, 3), (34, .iconst 2, 1), (35, .ireturn, 1), (36, .aload_n 0, 1), (37, .ldc2_w 99, 3), (40, .invokevirtual 199, 3), (43, .ifCond .eq 7, 3), (46, .iconst 3, 1), (47, .goto 4, 3), (50, .iconst (-1), 1), (51, .ireturn, 1)]
def nc_c_X12_readNews : List (Nat × Instr × Nat) := [(0, .aload_n 0, 1), (1, .getfield 37, 3), (4, .iconst 2, 1), (5, .iaload, 1), (6, .istore_n 1, 1), (7, .iload_n 1, 1), (8, .bipush 10, 2), (10, .if_icmp .ne 9, 3), (13, .aload_n 0, 1), (14, .iconst 4, 1), (15, .invokevirtual 171, 3), (18, .ireturn, 1), (19, .aload_n 0, 1), (20, .invokevirtual 174, 3), (23, .aload_n 0, 1), (24, .bipush 34, 2), (26, .iload_n 1, 1), (27, .iadd, 1), (28, .invokevirtual 203, 3), (31, .ifCond .ne 5, 3), (34, .iconst 0, 1), (35, .ireturn, 1), (36, .aload_n 0, 1), (37, .getfield 37, 3), (40, .bipush 37, 2), (42, .iload_n 1, 1), (43, .iadd, 1), (44, .aload_n 0, 1), (45, .invokevirtual 222, 3), (48, .iastore, 1), (49, .aload_n 0, 1), (50, .getfield 37, 3), (53, .bipush 37, 2), (55, .iload_n 1, 1), (56, .iadd, 1), (57, .iaload, 1), (58, .ifCond .ge 9, 3), (61, .aload_n 0, 1), (62, .iconst 1, 1), (63, .invokevirtual 171, 3), (66, .ireturn, 1), (67, .aload_n 0, 1), (68, .invokevirtual 174, 3), (71, .aload_n 0, 1), (72, .bipush 47, 2), (74, .iload_n 1, 1), (75, .iadd, 1), (76, .iconst 0, 1), (77, .bipush 20, 2), (79, .invokevirtual 209, 3), (82, .ifCond .ne 5, 3), (85, .iconst 0, 1), (86, .ireturn, 1), (87, .aload_n 0, 1), (88, .ldc2_w 101, 3), (91, .invokevirtual 199, 3), (94, .ifCond .eq 20, 3), (97, .aload_n 0, 1), (98, .getfield 37, 3), (101, .bipush 57, 2), (103, .dup2, 1), (104, .iaload, 1), (105, .iconst 1, 1), (106, .iload_n 1, 1), (107, .ishl, 1), (108, .ior, 1), (109, .iastore, 1), (110, .aload_n 0, 1), (111, .invokevirtual 174, 3), (114, .aload_n 0, 1), (115, .getfield 37, 3), (118, .iconst 2, 1), (119, .dup2, 1), (120, .iaload, 1), (121, .iconst 1, 1), (122, .iadd, 1), (123, .iastore, 1), (124, .iconst 1, 1), (125, .ireturn, 1)]
def nc_c_X12_readHedge : List (Nat × Instr × Nat) := [(0, .aload_n 0, 1), (1, .getfield 37, 3), (4, .iconst 3, 1), (5, .iaload, 1), (6, .istore_n 1, 1), (7, .aload_n 0, 1), (8, .invokevirtual 174, 3), (11, .aload_n 0, 1), (12, .bipush 22, 2), (14, .aload_n 0, 1), (15, .getfield 37, 3), (18, .iconst 0, 1), (19, .iaload, 1), (20, .invokevirtual 206, 3), (23, .ifCond .ne 5, 3), (26, .iconst 0, 1), (27, .ireturn, 1), (28, .aload_n 0, 1), (29, .getfield 181, 3), (32, .istore_n 2, 1), (33, .aload_n 0, 1), (34, .bipush 22, 2), (36, .aload_n 0, 1), (37, .getfield 37, 3), (40, .iconst 0, 1), (41, .iaload, 1), (42, .invokevirtual 196, 3), (45, .ifCond .ne 5, 3), (48, .iconst 0, 1), (49, .ireturn, 1), (50, .aload_n 0, 1), (51, .getfield 181, 3), (54, .iload_n 2, 1), (55, .if_icmp .eq 7, 3), (58, .iconst 1, 1), (59, .goto 4, 3), (62, .iconst 0, 1), (63, .istore_n 3, 1), (64, .iconst 0, 1), (65, .istore 4, 2), (67, .iload 4, 2), (69, .iload_n 1, 1), (70, .if_icmp .ge 81, 3), (73, .iload_n 3, 1), (74, .ifCond .eq 69, 3), (77, .aload_n 0, 1), (78, .getfield 37, 3), (81, .bipush 58, 2), (83, .iload 4, 2), (85, .iadd, 1), (86, .iaload, 1), (87, .iload_n 2, 1), (88, .if_icmp .ne 20, 3), (91, .aload_n 0, 1), (92, .getfield 37, 3), (95, .bipush 64, 2), (97, .iload 4, 2), (99, .iadd, 1), (100, .iaload, 1), (101, .aload_n 0, 1), (102, .getfield 181, 3), (105, .if_icmp .eq 38, 3), (108, .aload_n 0, 1), (109, .getfield 37, 3), (112, .bipush 58, 2), (114, .iload 4, 2), (116, .iadd, 1), (117, .iaload, 1), (118, .aload_n 0, 1), (119, .getfield 181, 3), (122, .if_icmp .ne 17, 3), (125, .aload_n 0, 1), (126, .getfield 37, 3), (129, .bipush 64, 2), (131, .iload 4, 2), (133, .iadd, 1), (134, .iaload, 1), (135, .iload_n 2, 1), (136, .if_icmp .eq 7, 3), (139, .iconst 1, 1), (140, .goto 4, 3), (143, .iconst 0, 1), (144, .istore_n 3, 1), (145, .iinc 4 1, 3), (148, .goto (-81), 3), (151, .iload_n 3, 1), (152, .ifCond .ne 9, 3), (155, .aload_n 0, 1), (156, .iconst 3, 1), (157, .invokevirtual 171, 3), (160, .ireturn, 1), (161, .aload_n 0, 1), (162, .getfield 37, 3), (165, .bipush 58, 2), (167, .iload_n 1, 1), (168, .iadd, 1), (169, .iload_n 2, 1), (170, .iastore, 1), (171, .aload_n 0, 1), (172, .getfield 37, 3), (175, .bipush 64, 2), (177, .iload_n 1, 1), (178, .iadd, 1), (179, .aload_n 0, 1), (180, .getfield 181, 3), (183, .iastore, 1), (184, .aload_n 0, 1), (185, .invokevirtual 174, 3), (188, .aload_n 0, 1), (189, .bipush 70, 2), (191, .iload_n 1, 1), (192, .iadd, 1), (193, .iconst 1, 1), (194, .bipush 9, 2), (196, .invokevirtual 209, 3), (199, .ifCond .ne 5, 3), (202, .iconst 0, 1), (203, .ireturn, 1), (204, .aload_n 0, 1), (205, .getfield 37, 3), (208, .iconst 3, 1), (209, .dup2, 1), (210, .iaload, 1), (211, .iconst 1, 1), (212, .iadd, 1), (213, .iastore, 1), (214, .iconst 1, 1), (215, .ireturn, 1)]
def nc_c_X12_line : List (Nat × Instr × Nat) := [(0, .aload_n 0, 1), (1, .ldc2_w 87, 3), (4, .invokevirtual 199, 3), (7, .ifCond .eq 53, 3), (10, .aload_n 0, 1), (11, .getfield 37, 3), (14, .iconst 0, 1), (15, .iaload, 1), (16, .iconst 4, 1), (17, .if_icmp .ne 9, 3), (20, .aload_n 0, 1), (21, .iconst 4, 1), (22, .invokevirtual 171, 3), (25, .ireturn, 1), (26, .aload_n 0, 1), (27, .invokevirtual 174, 3), (30, .aload_n 0, 1), (31, .bipush 22, 2), (33, .aload_n 0, 1), (34, .getfield 37, 3), (37, .iconst 0, 1), (38, .iaload, 1), (39, .iadd, 1), (40, .invokevirtual 203, 3), (43, .ifCond .ne 5, 3), (46, .iconst 0, 1), (47, .ireturn, 1), (48, .aload_n 0, 1), (49, .getfield 37, 3), (52, .iconst 0, 1), (53, .dup2, 1), (54, .iaload, 1), (55, .iconst 1, 1), (56, .iadd, 1), (57, .iastore, 1), (58, .iconst 1, 1), (59, .ireturn, 1), (60, .aload_n 0, 1), (61, .ldc2_w 89, 3), (64, .invokevirtual 199, 3), (67, .ifCond .eq 122, 3), (70, .aload_n 0, 1), (71, .getfield 37, 3), (74, .iconst 1, 1), (75, .iaload, 1), (76, .istore_n 1, 1), (77, .iload_n 1, 1), (78, .bipush 8, 2), (80, .if_icmp .ne 9, 3), (83, .aload_n 0, 1), (84, .iconst 4, 1), (85, .invokevirtual 171, 3), (88, .ireturn, 1), (89, .aload_n 0, 1), (90, .invokevirtual 174, 3), (93, .aload_n 0, 1), (94, .bipush 26, 2), (96, .iload_n 1, 1), (97, .iadd, 1), (98, .invokevirtual 203, 3), (101, .ifCond .eq 18, 3), (104, .aload_n 0, 1), (105, .bipush 22, 2), (107, .aload_n 0, 1), (108, .getfield 37, 3), (111, .iconst 0, 1), (112, .iaload, 1), (113, .invokevirtual 206, 3), (116, .ifCond .ne 5, 3), (119, .iconst 0, 1), (120, .ireturn, 1), (121, .aload_n 0, 1), (122, .getfield 37, 3), (125, .iconst 5, 1), (126, .iload_n 1, 1), (127, .iadd, 1), (128, .aload_n 0, 1), (129, .getfield 181, 3), (132, .iastore, 1), (133, .aload_n 0, 1), (134, .bipush 13, 2), (136, .iload_n 1, 1), (137, .iadd, 1), (138, .iconst 1, 1), (139, .bipush 40, 2), (141, .invokevirtual 209, 3), (144, .ifCond .eq 31, 3), (147, .aload_n 0, 1), (148, .bipush 21, 2), (150, .iload_n 1, 1), (151, .iadd, 1), (152, .iconst 1, 1), (153, .bipush 9, 2), (155, .invokevirtual 209, 3), (158, .ifCond .eq 17, 3), (161, .aload_n 0, 1), (162, .bipush 29, 2), (164, .iload_n 1, 1), (165, .iadd, 1), (166, .iconst 1, 1), (167, .bipush 30, 2), (169, .invokevirtual 209, 3), (172, .ifCond .ne 5, 3), (175, .iconst 0, 1), (176, .ireturn, 1), (177, .aload_n 0, 1), (178, .getfield 37, 3), (181, .iconst 1, 1), (182, .dup2, 1), (183, .iaload, 1), (184, .iconst 1, 1), (185, .iadd, 1), (186, .iastore, 1), (187, .iconst 1, 1), (188, .ireturn, 1), (189, .aload_n 0, 1), (190, .ldc2_w 91, 3), (193, .invokevirtual 199, 3), (196, .ifCond .eq 8, 3), (199, .aload_n 0, 1), (200, .invokevirtual 212, 3), (203, .ireturn, 1), (204, .aload_n 0, 1), (205, .ldc2_w 103, 3), (208, .invokevirtual 199, 3), (211, .ifCond .eq 8, 3), (214, .aload_n 0, 1), (215, .invokevirtual 215, 3), (218, .ireturn, 1), (219, .aload_n 0, 1), (220, .ldc2_w 105, 3), (223, .invokevirtual 199, 3), (226, .ifCond .ne 9, 3), (229, .aload_n 0, 1), (230, .iconst 1, 1), (231, .invokevirtual 171, 3), (234, .ireturn, 1), (235, .aload_n 0, 1), (236, .getfield 218, 3), (239, .ifCond .eq 9, 3), (242, .aload_n 0, 1), (243, .iconst 3, 1), (244, .invokevirtual 171, 3), (247, .ireturn, 1), (248, .aload_n 0, 1), (249, .iconst 1, 1), (250, .putfield 218, 3), (253, .aload_n 0, 1), (254, .invokevirtual 174, 3), (257, .aload_n 0, 1), (258, .iconst 4, 1), (259, .iconst 1, 1), (260, .iconst 5, 1), (261, .invokevirtual 209, 3), (264, .ireturn, 1)]
def nc_c_X12_dairy : List (Nat × Instr × Nat) := [(0, .aload_n 0, 1), (1, .iconst 0, 1), (2, .putfield 1, 3), (5, .aload_n 0, 1), (6, .sipush 900, 3), (9, .invokevirtual 225, 3), (12, .aload_n 0, 1), (13, .iconst 0, 1), (14, .putfield 162, 3), (17, .aload_n 0, 1), (18, .iconst 0, 1), (19, .putfield 228, 3), (22, .aload_n 0, 1), (23, .iconst 0, 1), (24, .putfield 218, 3), (27, .iconst 0, 1), (28, .istore_n 1, 1), (29, .iload_n 1, 1), (30, .bipush 76, 2), (32, .if_icmp .ge 16, 3), (35, .aload_n 0, 1), (36, .getfield 37, 3), (39, .iload_n 1, 1), (40, .iconst 0, 1), (41, .iastore, 1), (42, .iinc 1 1, 3), (45, .goto (-16), 3), (48, .aload_n 0, 1), (49, .getfield 37, 3), (52, .iconst 4, 1), (53, .iconst 3, 1), (54, .iastore, 1), (55, .aload_n 0, 1), (56, .invokevirtual 174, 3), (59, .aload_n 0, 1), (60, .getfield 145, 3), (63, .ifCond .eq 39, 3), (66, .aload_n 0, 1), (67, .invokevirtual 231, 3), (70, .ifCond .eq 12, 3), (73, .aload_n 0, 1), (74, .bipush 59, 2), (76, .invokevirtual 234, 3), (79, .ifCond .ne 10, 3), (82, .iconst (-1), 1), (83, .aload_n 0, 1), (84, .getfield 165, 3), (87, .isub, 1), (88, .ireturn, 1), (89, .aload_n 0, 1), (90, .dup, 1), (91, .getfield 228, 3), (94, .iconst 1, 1), (95, .iadd, 1), (96, .putfield 228, 3), (99, .goto (-40), 3), (102, .iconst 0, 1), (103, .istore_n 1, 1), (104, .iload_n 1, 1), (105, .sipush 513, 3), (108, .if_icmp .ge 31, 3), (111, .aload_n 0, 1), (112, .getfield 33, 3), (115, .iload_n 1, 1), (116, .iload_n 1, 1), (117, .bipush 76, 2), (119, .if_icmp .ge 12, 3), (122, .aload_n 0, 1), (123, .getfield 37, 3), (126, .iload_n 1, 1), (127, .iaload, 1), (128, .goto 4, 3), (131, .iconst 0, 1), (132, .iastore, 1), (133, .iinc 1 1, 3), (136, .goto (-32), 3), (139, .iconst 0, 1), (140, .istore_n 1, 1), (141, .iload_n 1, 1), (142, .bipush 22, 2), (144, .if_icmp .ge 24, 3), (147, .aload_n 0, 1), (148, .getfield 43, 3), (151, .iload_n 1, 1), (152, .aload_n 0, 1), (153, .getfield 43, 3), (156, .bipush 22, 2), (158, .iload_n 1, 1), (159, .iadd, 1), (160, .laload, 1), (161, .lastore, 1), (162, .iinc 1 1, 3), (165, .goto (-24), 3), (168, .aload_n 0, 1), (169, .iconst 0, 1), (170, .putfield 237, 3), (173, .aload_n 0, 1), (174, .getfield 228, 3), (177, .ireturn, 1)]
def nc_c_X12_isFarm : List (Nat × Instr × Nat) := [(0, .iload_n 1, 1), (1, .iconst 0, 1), (2, .aload_n 0, 1), (3, .getfield 33, 3), (6, .iconst 0, 1), (7, .iaload, 1), (8, .iconst 1, 1), (9, .isub, 1), (10, .invokestatic 177, 3), (13, .ireturn, 1)]
def nc_c_X12_isCow : List (Nat × Instr × Nat) := [(0, .iload_n 1, 1), (1, .iconst 0, 1), (2, .aload_n 0, 1), (3, .getfield 33, 3), (6, .iconst 1, 1), (7, .iaload, 1), (8, .iconst 1, 1), (9, .isub, 1), (10, .invokestatic 177, 3), (13, .ireturn, 1)]
def nc_c_X12_isNews : List (Nat × Instr × Nat) := [(0, .iload_n 1, 1), (1, .iconst 0, 1), (2, .aload_n 0, 1), (3, .getfield 33, 3), (6, .iconst 2, 1), (7, .iaload, 1), (8, .iconst 1, 1), (9, .isub, 1), (10, .invokestatic 177, 3), (13, .ireturn, 1)]
def nc_c_X12_isDry : List (Nat × Instr × Nat) := [(0, .aload_n 0, 1), (1, .getfield 33, 3), (4, .bipush 77, 2), (6, .iaload, 1), (7, .iload_n 1, 1), (8, .invokestatic 240, 3), (11, .ireturn, 1)]
def nc_c_X12_isLie : List (Nat × Instr × Nat) := [(0, .aload_n 0, 1), (1, .getfield 33, 3), (4, .bipush 57, 2), (6, .iaload, 1), (7, .iload_n 1, 1), (8, .invokestatic 240, 3), (11, .ireturn, 1)]
def nc_c_X12_known : List (Nat × Instr × Nat) := [(0, .iconst 0, 1), (1, .istore_n 2, 1), (2, .iconst 0, 1), (3, .istore_n 3, 1), (4, .iload_n 3, 1), (5, .aload_n 0, 1), (6, .getfield 33, 3), (9, .iconst 2, 1), (10, .iaload, 1), (11, .if_icmp .ge 28, 3), (14, .iload_n 2, 1), (15, .aload_n 0, 1), (16, .iload_n 1, 1), (17, .iload_n 3, 1), (18, .invokevirtual 243, 3), (21, .ifCond .eq 9, 3), (24, .iconst 1, 1), (25, .iload_n 3, 1), (26, .ishl, 1), (27, .goto 4, 3), (30, .iconst 0, 1), (31, .ior, 1), (32, .istore_n 2, 1), (33, .iinc 3 1, 3), (36, .goto (-32), 3), (39, .iload_n 2, 1), (40, .ireturn, 1)]
def nc_c_X12_hasOther : List (Nat × Instr × Nat) := [(0, .iconst 0, 1), (1, .istore_n 3, 1), (2, .iconst 0, 1), (3, .istore 4, 2), (5, .iload 4, 2), (7, .aload_n 0, 1), (8, .getfield 33, 3), (11, .iconst 1, 1), (12, .iaload, 1), (13, .if_icmp .ge 62, 3), (16, .iload_n 3, 1), (17, .ifCond .ne 46, 3), (20, .iload 4, 2), (22, .iload_n 1, 1), (23, .if_icmp .eq 44, 3), (26, .aload_n 0, 1), (27, .getfield 33, 3), (30, .iconst 5, 1), (31, .iload 4, 2), (33, .iadd, 1), (34, .iaload, 1), (35, .aload_n 0, 1), (36, .getfield 33, 3), (39, .iconst 5, 1), (40, .iload_n 1, 1), (41, .iadd, 1), (42, .iaload, 1), (43, .if_icmp .ne 24, 3), (46, .aload_n 0, 1), (47, .getfield 33, 3), (50, .bipush 100, 2), (52, .iload 4, 2), (54, .iadd, 1), (55, .iaload, 1), (56, .iload_n 2, 1), (57, .invokestatic 240, 3), (60, .ifCond .eq 7, 3), (63, .iconst 1, 1), (64, .goto 4, 3), (67, .iconst 0, 1), (68, .istore_n 3, 1), (69, .iinc 4 1, 3), (72, .goto (-67), 3), (75, .iload_n 3, 1), (76, .ireturn, 1)]
def nc_c_X12_milkBy : List (Nat × Instr × Nat) := [(0, .aload_n 0, 1), (1, .getfield 33, 3), (4, .bipush 13, 2), (6, .iload_n 1, 1), (7, .iadd, 1), (8, .iaload, 1), (9, .istore 4, 2), (11, .iconst 0, 1), (12, .istore 5, 2), (14, .iload 5, 2), (16, .aload_n 0, 1), (17, .getfield 33, 3), (20, .iconst 2, 1), (21, .iaload, 1), (22, .if_icmp .ge 184, 3), (25, .aload_n 0, 1), (26, .getfield 33, 3), (29, .bipush 37, 2), (31, .iload 5, 2), (33, .iadd, 1), (34, .iaload, 1), (35, .istore 6, 2), (37, .iload_n 2, 1), (38, .iload 5, 2), (40, .invokestatic 240, 3), (43, .ifCond .eq 96, 3), (46, .iload 6, 2), (48, .iconst 2, 1), (49, .if_icmp .ge 90, 3), (52, .aload_n 0, 1), (53, .getfield 33, 3), (56, .bipush 47, 2), (58, .iload 5, 2), (60, .iadd, 1), (61, .iaload, 1), (62, .aload_n 0, 1), (63, .iload 5, 2), (65, .invokevirtual 246, 3), (68, .ifCond .eq 22, 3), (71, .aload_n 0, 1), (72, .getfield 33, 3), (75, .bipush 78, 2), (77, .iaload, 1), (78, .iload 5, 2), (80, .invokestatic 240, 3), (83, .ifCond .ne 7, 3), (86, .iconst 5, 1), (87, .goto 4, 3), (90, .iconst 0, 1), (91, .iadd, 1), (92, .istore 7, 2), (94, .iload 6, 2), (96, .iconst 1, 1), (97, .if_icmp .ne 19, 3), (100, .aload_n 0, 1), (101, .iload_n 1, 1), (102, .iload 5, 2), (104, .invokevirtual 249, 3), (107, .ifCond .eq 9, 3), (110, .iload 7, 2), (112, .iconst 2, 1), (113, .imul, 1), (114, .istore 7, 2), (116, .iload 4, 2), (118, .iload_n 3, 1), (119, .iload 5, 2), (121, .invokestatic 240, 3), (124, .ifCond .eq 10, 3), (127, .iload 7, 2), (129, .iconst 2, 1), (130, .idiv, 1), (131, .goto 5, 3), (134, .iload 7, 2), (136, .iadd, 1), (137, .istore 4, 2), (139, .iload 6, 2), (141, .iconst 3, 1), (142, .if_icmp .ne 58, 3), (145, .aload_n 0, 1), (146, .getfield 33, 3), (149, .bipush 116, 2), (151, .iload_n 1, 1), (152, .iadd, 1), (153, .iaload, 1), (154, .iload 5, 2), (156, .invokestatic 240, 3), (159, .ifCond .eq 41, 3), (162, .iload 4, 2), (164, .aload_n 0, 1), (165, .iload 5, 2), (167, .invokevirtual 246, 3), (170, .ifCond .eq 17, 3), (173, .aload_n 0, 1), (174, .getfield 33, 3), (177, .bipush 47, 2), (179, .iload 5, 2), (181, .iadd, 1), (182, .iaload, 1), (183, .ineg, 1), (184, .goto 13, 3), (187, .aload_n 0, 1), (188, .getfield 33, 3), (191, .bipush 47, 2), (193, .iload 5, 2), (195, .iadd, 1), (196, .iaload, 1), (197, .iadd, 1), (198, .istore 4, 2), (200, .iinc 5 1, 3), (203, .goto (-189), 3), (206, .iconst 0, 1), (207, .iload 4, 2), (209, .invokestatic 252, 3), (212, .ireturn, 1)]
def nc_c_X12_milkWith : List (Nat × Instr × Nat) := [(0, .aload_n 0, 1), (1, .iload_n 1, 1), (2, .invokevirtual 255, 3), (5, .ifCond .ne 11, 3), (8, .aload_n 0, 1), (9, .iload_n 1, 1), (10, .invokevirtual 258, 3), (13, .ifCond .eq 5, 3), (16, .iconst 0, 1), (17, .ireturn, 1), (18, .iconst 0, 1), (19, .istore_n 3, 1), (20, .iload_n 3, 1), (21, .aload_n 0, 1), (22, .getfield 33, 3), (25, .iconst 2, 1), (26, .iaload, 1), (27, .if_icmp .ge 32, 3), (30, .iload_n 2, 1), (31, .iload_n 3, 1), (32, .invokestatic 240, 3), (35, .ifCond .eq 18, 3), (38, .aload_n 0, 1), (39, .getfield 33, 3), (42, .bipush 37, 2), (44, .iload_n 3, 1), (45, .iadd, 1), (46, .iaload, 1), (47, .iconst 2, 1), (48, .if_icmp .ne 5, 3), (51, .iconst 0, 1), (52, .ireturn, 1), (53, .iinc 3 1, 3), (56, .goto (-36), 3), (59, .aload_n 0, 1), (60, .iload_n 1, 1), (61, .aload_n 0, 1), (62, .getfield 33, 3), (65, .bipush 100, 2), (67, .iload_n 1, 1), (68, .iadd, 1), (69, .iaload, 1), (70, .iload_n 2, 1), (71, .ior, 1), (72, .aload_n 0, 1), (73, .getfield 33, 3), (76, .bipush 108, 2), (78, .iload_n 1, 1), (79, .iadd, 1), (80, .iaload, 1), (81, .iload_n 2, 1), (82, .aload_n 0, 1), (83, .iload_n 1, 1), (84, .invokevirtual 261, 3), (87, .iand, 1), (88, .ior, 1), (89, .invokevirtual 265, 3), (92, .ireturn, 1)]
def nc_c_X12_milk : List (Nat × Instr × Nat) := [(0, .aload_n 0, 1), (1, .iload_n 1, 1), (2, .iconst 0, 1), (3, .invokevirtual 269, 3), (6, .ireturn, 1)]
def nc_c_X12_cow : List (Nat × Instr × Nat) := [(0, .aload_n 0, 1), (1, .aload_n 0, 1), (2, .iload_n 1, 1), (3, .invokevirtual 272, 3), (6, .ifCond .eq 13, 3), (9, .iload_n 2, 1), (10, .iconst 0, 1), (11, .bipush 7, 2), (13, .invokestatic 177, 3), (16, .ifCond .ne 7, 3), (19, .iconst 1, 1), (20, .goto 4, 3), (23, .iconst 0, 1), (24, .invokevirtual 275, 3), (27, .ifCond .eq 5, 3), (30, .iconst 0, 1), (31, .ireturn, 1), (32, .iload_n 2, 1), (33, .tableswitch 112 0 6 #[43, 52, 66, 80, 90, 100, 106], 43), (76, .aload_n 0, 1), (77, .getfield 33, 3), (80, .iconst 5, 1), (81, .iload_n 1, 1), (82, .iadd, 1), (83, .iaload, 1), (84, .ireturn, 1), (85, .aload_n 0, 1), (86, .iload_n 1, 1), (87, .invokevirtual 255, 3), (90, .ifCond .eq 7, 3), (93, .iconst 1, 1), (94, .goto 4, 3), (97, .iconst 0, 1), (98, .ireturn, 1), (99, .aload_n 0, 1), (100, .iload_n 1, 1), (101, .invokevirtual 258, 3), (104, .ifCond .eq 7, 3), (107, .iconst 1, 1), (108, .goto 4, 3), (111, .iconst 0, 1), (112, .ireturn, 1), (113, .aload_n 0, 1), (114, .getfield 33, 3), (117, .bipush 79, 2), (119, .iload_n 1, 1), (120, .iadd, 1), (121, .iaload, 1), (122, .ireturn, 1), (123, .aload_n 0, 1), (124, .getfield 33, 3), (127, .bipush 100, 2), (129, .iload_n 1, 1), (130, .iadd, 1), (131, .iaload, 1), (132, .ireturn, 1), (133, .aload_n 0, 1), (134, .iload_n 1, 1), (135, .invokevirtual 261, 3), (138, .ireturn, 1), (139, .aload_n 0, 1), (140, .iload_n 1, 1), (141, .invokevirtual 279, 3), (144, .ireturn, 1), (145, .aload_n 0, 1), (146, .getfield 33, 3), (149, .bipush 87, 2), (151, .iload_n 1, 1), (152, .iadd, 1), (153, .iaload, 1), (154, .ireturn, 1)]
def nc_c_X12_news : List (Nat × Instr × Nat) := [(0, .aload_n 0, 1), (1, .iconst 0, 1), (2, .putfield 1, 3), (5, .aload_n 0, 1), (6, .iload_n 1, 1), (7, .invokevirtual 282, 3), (10, .ifCond .ne 5, 3), (13, .iconst (-1), 1), (14, .ireturn, 1), (15, .iconst 0, 1), (16, .istore_n 3, 1), (17, .iconst 0, 1), (18, .istore 4, 2), (20, .iconst 0, 1), (21, .istore 5, 2), (23, .iload 5, 2), (25, .aload_n 0, 1), (26, .getfield 33, 3), (29, .iconst 1, 1), (30, .iaload, 1), (31, .if_icmp .ge 60, 3), (34, .iload_n 3, 1), (35, .aload_n 0, 1), (36, .getfield 33, 3), (39, .bipush 100, 2), (41, .iload 5, 2), (43, .iadd, 1), (44, .iaload, 1), (45, .iload_n 1, 1), (46, .invokestatic 240, 3), (49, .ifCond .eq 10, 3), (52, .iconst 1, 1), (53, .iload 5, 2), (55, .ishl, 1), (56, .goto 4, 3), (59, .iconst 0, 1), (60, .ior, 1), (61, .istore_n 3, 1), (62, .iload 4, 2), (64, .aload_n 0, 1), (65, .iload 5, 2), (67, .iload_n 1, 1), (68, .invokevirtual 243, 3), (71, .ifCond .eq 10, 3), (74, .iconst 1, 1), (75, .iload 5, 2), (77, .ishl, 1), (78, .goto 4, 3), (81, .iconst 0, 1), (82, .ior, 1), (83, .istore 4, 2), (85, .iinc 5 1, 3), (88, .goto (-65), 3), (91, .iload_n 2, 1), (92, .tableswitch 99 0 5 #[40, 50, 60, 74, 94, 96], 40), (132, .aload_n 0, 1), (133, .getfield 33, 3), (136, .bipush 37, 2), (138, .iload_n 1, 1), (139, .iadd, 1), (140, .iaload, 1), (141, .ireturn, 1), (142, .aload_n 0, 1), (143, .getfield 33, 3), (146, .bipush 47, 2), (148, .iload_n 1, 1), (149, .iadd, 1), (150, .iaload, 1), (151, .ireturn, 1), (152, .aload_n 0, 1), (153, .iload_n 1, 1), (154, .invokevirtual 246, 3), (157, .ifCond .eq 7, 3), (160, .iconst 1, 1), (161, .goto 4, 3), (164, .iconst 0, 1), (165, .ireturn, 1), (166, .aload_n 0, 1), (167, .getfield 33, 3), (170, .bipush 78, 2), (172, .iaload, 1), (173, .iload_n 1, 1), (174, .invokestatic 240, 3), (177, .ifCond .eq 7, 3), (180, .iconst 1, 1), (181, .goto 4, 3), (184, .iconst 0, 1), (185, .ireturn, 1), (186, .iload_n 3, 1), (187, .ireturn, 1), (188, .iload 4, 2), (190, .ireturn, 1), (191, .iconst (-1), 1), (192, .ireturn, 1)]
def nc_c_X12_milkOf : List (Nat × Instr × Nat) := [(0, .iconst 0, 1), (1, .istore_n 2, 1), (2, .iconst 0, 1), (3, .istore_n 3, 1), (4, .iload_n 3, 1), (5, .aload_n 0, 1), (6, .getfield 33, 3), (9, .iconst 1, 1), (10, .iaload, 1), (11, .if_icmp .ge 33, 3), (14, .iload_n 2, 1), (15, .aload_n 0, 1), (16, .getfield 33, 3), (19, .iconst 5, 1), (20, .iload_n 3, 1), (21, .iadd, 1), (22, .iaload, 1), (23, .iload_n 1, 1), (24, .if_icmp .ne 11, 3), (27, .aload_n 0, 1), (28, .iload_n 3, 1), (29, .invokevirtual 279, 3), (32, .goto 4, 3), (35, .iconst 0, 1), (36, .iadd, 1), (37, .istore_n 2, 1), (38, .iinc 3 1, 3), (41, .goto (-37), 3), (44, .iload_n 2, 1), (45, .ireturn, 1)]
def nc_c_X12_farm : List (Nat × Instr × Nat) := [(0, .aload_n 0, 1), (1, .aload_n 0, 1), (2, .iload_n 1, 1), (3, .invokevirtual 285, 3), (6, .ifCond .eq 12, 3), (9, .iload_n 2, 1), (10, .iconst 0, 1), (11, .iconst 3, 1), (12, .invokestatic 177, 3), (15, .ifCond .ne 7, 3), (18, .iconst 1, 1), (19, .goto 4, 3), (22, .iconst 0, 1), (23, .invokevirtual 275, 3), (26, .ifCond .eq 5, 3), (29, .iconst 0, 1), (30, .ireturn, 1), (31, .iconst 0, 1), (32, .istore_n 3, 1), (33, .iconst 0, 1), (34, .istore 4, 2), (36, .iload 4, 2), (38, .aload_n 0, 1), (39, .getfield 33, 3), (42, .iconst 3, 1), (43, .iaload, 1), (44, .if_icmp .ge 48, 3), (47, .iload_n 3, 1), (48, .aload_n 0, 1), (49, .getfield 33, 3), (52, .bipush 58, 2), (54, .iload 4, 2), (56, .iadd, 1), (57, .iaload, 1), (58, .iload_n 1, 1), (59, .if_icmp .eq 17, 3), (62, .aload_n 0, 1), (63, .getfield 33, 3), (66, .bipush 64, 2), (68, .iload 4, 2), (70, .iadd, 1), (71, .iaload, 1), (72, .iload_n 1, 1), (73, .if_icmp .ne 10, 3), (76, .iconst 1, 1), (77, .iload 4, 2), (79, .ishl, 1), (80, .goto 4, 3), (83, .iconst 0, 1), (84, .ior, 1), (85, .istore_n 3, 1), (86, .iinc 4 1, 3), (89, .goto (-53), 3), (92, .iload_n 2, 1), (93, .tableswitch 49 0 2 #[27, 33, 43], 27), (120, .aload_n 0, 1), (121, .iload_n 1, 1), (122, .invokevirtual 288, 3), (125, .ireturn, 1), (126, .aload_n 0, 1), (127, .getfield 33, 3), (130, .bipush 95, 2), (132, .iload_n 1, 1), (133, .iadd, 1), (134, .iaload, 1), (135, .ireturn, 1), (136, .aload_n 0, 1), (137, .iload_n 1, 1), (138, .invokevirtual 291, 3), (141, .ireturn, 1), (142, .iload_n 3, 1), (143, .ireturn, 1)]
def nc_c_X12_now : List (Nat × Instr × Nat) := [(0, .aload_n 0, 1), (1, .iconst 0, 1), (2, .putfield 1, 3), (5, .iconst 0, 1), (6, .istore_n 2, 1), (7, .iconst 0, 1), (8, .istore_n 3, 1), (9, .iload_n 3, 1), (10, .aload_n 0, 1), (11, .getfield 33, 3), (14, .iconst 3, 1), (15, .iaload, 1), (16, .if_icmp .ge 27, 3), (19, .iload_n 2, 1), (20, .aload_n 0, 1), (21, .iload_n 3, 1), (22, .invokevirtual 294, 3), (25, .ifCond .eq 9, 3), (28, .iconst 1, 1), (29, .iload_n 3, 1), (30, .ishl, 1), (31, .goto 4, 3), (34, .iconst 0, 1), (35, .ior, 1), (36, .istore_n 2, 1), (37, .iinc 3 1, 3), (40, .goto (-31), 3), (43, .iload_n 1, 1), (44, .tableswitch 79 0 5 #[40, 48, 56, 64, 69, 77], 40), (84, .aload_n 0, 1), (85, .getfield 33, 3), (88, .bipush 76, 2), (90, .iaload, 1), (91, .ireturn, 1), (92, .aload_n 0, 1), (93, .getfield 33, 3), (96, .bipush 77, 2), (98, .iaload, 1), (99, .ireturn, 1), (100, .aload_n 0, 1), (101, .getfield 33, 3), (104, .bipush 78, 2), (106, .iaload, 1), (107, .ireturn, 1), (108, .aload_n 0, 1), (109, .invokevirtual 297, 3), (112, .ireturn, 1), (113, .aload_n 0, 1), (114, .getfield 33, 3), (117, .bipush 99, 2), (119, .iaload, 1), (120, .ireturn, 1), (121, .iload_n 2, 1), (122, .ireturn, 1), (123, .iconst (-1), 1), (124, .ireturn, 1)]
def nc_c_X12_whyTell : List (Nat × Instr × Nat) := [(0, .aload_n 0, 1), (1, .iload_n 1, 1), (2, .invokevirtual 255, 3), (5, .ifCond .eq 5, 3), (8, .iconst 1, 1), (9, .ireturn, 1), (10, .aload_n 0, 1), (11, .getfield 33, 3), (14, .bipush 100, 2), (16, .iload_n 1, 1), (17, .iadd, 1), (18, .iaload, 1), (19, .iload_n 2, 1), (20, .invokestatic 240, 3), (23, .ifCond .eq 7, 3), (26, .iconst 2, 1), (27, .goto 29, 3), (30, .aload_n 0, 1), (31, .getfield 33, 3), (34, .bipush 100, 2), (36, .iload_n 1, 1), (37, .iadd, 1), (38, .iaload, 1), (39, .invokestatic 300, 3), (42, .aload_n 0, 1), (43, .getfield 33, 3), (46, .iconst 4, 1), (47, .iaload, 1), (48, .if_icmp .lt 7, 3), (51, .iconst 3, 1), (52, .goto 4, 3), (55, .iconst 0, 1), (56, .ireturn, 1)]
def nc_c_X12_tells : List (Nat × Instr × Nat) := [(0, .aload_n 0, 1), (1, .iload_n 1, 1), (2, .iload_n 2, 1), (3, .invokevirtual 243, 3), (6, .ifCond .eq 18, 3), (9, .aload_n 0, 1), (10, .getfield 33, 3), (13, .bipush 108, 2), (15, .iload_n 1, 1), (16, .iadd, 1), (17, .dup2, 1), (18, .iaload, 1), (19, .iconst 1, 1), (20, .iload_n 2, 1), (21, .ishl, 1), (22, .ior, 1), (23, .iastore, 1), (24, .aload_n 0, 1), (25, .getfield 33, 3), (28, .bipush 100, 2), (30, .iload_n 1, 1), (31, .iadd, 1), (32, .dup2, 1), (33, .iaload, 1), (34, .iconst 1, 1), (35, .iload_n 2, 1), (36, .ishl, 1), (37, .ior, 1), (38, .iastore, 1), (39, .aload_n 0, 1), (40, .getfield 33, 3), (43, .sipush 132, 3), (46, .bipush 10, 2), (48, .iload_n 1, 1), (49, .imul, 1), (50, .iadd, 1), (51, .iload_n 2, 1), (52, .iadd, 1), (53, .aload_n 0, 1), (54, .getfield 33, 3), (57, .bipush 76, 2), (59, .iaload, 1), (60, .iconst 1, 1), (61, .iadd, 1), (62, .iastore, 1), (63, .aload_n 0, 1), (64, .getfield 33, 3), (67, .bipush 37, 2), (69, .iload_n 2, 1), (70, .iadd, 1), (71, .iaload, 1), (72, .iconst 2, 1), (73, .if_icmp .ne 21, 3), (76, .aload_n 0, 1), (77, .getfield 33, 3), (80, .bipush 124, 2), (82, .iload_n 1, 1), (83, .iadd, 1), (84, .aload_n 0, 1), (85, .getfield 33, 3), (88, .bipush 76, 2), (90, .iaload, 1), (91, .iconst 1, 1), (92, .iadd, 1), (93, .iastore, 1), (94, .aload_n 0, 1), (95, .getfield 33, 3), (98, .bipush 99, 2), (100, .dup2, 1), (101, .iaload, 1), (102, .iconst 1, 1), (103, .iadd, 1), (104, .iastore, 1), (105, .return_, 1)]
def nc_c_X12_whyFind : List (Nat × Instr × Nat) := [(0, .aload_n 0, 1), (1, .iload_n 1, 1), (2, .invokevirtual 246, 3), (5, .ifCond .ne 7, 3), (8, .iconst 1, 1), (9, .goto 22, 3), (12, .aload_n 0, 1), (13, .getfield 33, 3), (16, .bipush 78, 2), (18, .iaload, 1), (19, .iload_n 1, 1), (20, .invokestatic 240, 3), (23, .ifCond .eq 7, 3), (26, .iconst 2, 1), (27, .goto 4, 3), (30, .iconst 0, 1), (31, .ireturn, 1)]
def nc_c_X12_driedBy : List (Nat × Instr × Nat) := [(0, .iconst 0, 1), (1, .istore_n 2, 1), (2, .iconst 0, 1), (3, .istore_n 3, 1), (4, .iload_n 3, 1), (5, .aload_n 0, 1), (6, .getfield 33, 3), (9, .iconst 1, 1), (10, .iaload, 1), (11, .if_icmp .ge 59, 3), (14, .iload_n 2, 1), (15, .aload_n 0, 1), (16, .iload_n 3, 1), (17, .invokevirtual 255, 3), (20, .ifCond .ne 41, 3), (23, .aload_n 0, 1), (24, .iload_n 3, 1), (25, .iload_n 1, 1), (26, .invokevirtual 243, 3), (29, .ifCond .eq 32, 3), (32, .aload_n 0, 1), (33, .getfield 33, 3), (36, .bipush 79, 2), (38, .iload_n 3, 1), (39, .iadd, 1), (40, .iaload, 1), (41, .iconst 1, 1), (42, .iadd, 1), (43, .aload_n 0, 1), (44, .getfield 33, 3), (47, .bipush 21, 2), (49, .iload_n 3, 1), (50, .iadd, 1), (51, .iaload, 1), (52, .if_icmp .lt 9, 3), (55, .iconst 1, 1), (56, .iload_n 3, 1), (57, .ishl, 1), (58, .goto 4, 3), (61, .iconst 0, 1), (62, .ior, 1), (63, .istore_n 2, 1), (64, .iinc 3 1, 3), (67, .goto (-63), 3), (70, .iload_n 2, 1), (71, .ireturn, 1)]
def nc_c_X12_finds : List (Nat × Instr × Nat) := [(0, .aload_n 0, 1), (1, .iload_n 1, 1), (2, .invokevirtual 303, 3), (5, .istore_n 2, 1), (6, .iconst 0, 1), (7, .istore_n 3, 1), (8, .iload_n 3, 1), (9, .aload_n 0, 1), (10, .getfield 33, 3), (13, .iconst 1, 1), (14, .iaload, 1), (15, .if_icmp .ge 43, 3), (18, .aload_n 0, 1), (19, .getfield 33, 3), (22, .bipush 79, 2), (24, .iload_n 3, 1), (25, .iadd, 1), (26, .dup2, 1), (27, .iaload, 1), (28, .aload_n 0, 1), (29, .iload_n 3, 1), (30, .invokevirtual 255, 3), (33, .ifCond .ne 16, 3), (36, .aload_n 0, 1), (37, .iload_n 3, 1), (38, .iload_n 1, 1), (39, .invokevirtual 243, 3), (42, .ifCond .eq 7, 3), (45, .iconst 1, 1), (46, .goto 4, 3), (49, .iconst 0, 1), (50, .iadd, 1), (51, .iastore, 1), (52, .iinc 3 1, 3), (55, .goto (-47), 3), (58, .aload_n 0, 1), (59, .getfield 33, 3), (62, .bipush 77, 2), (64, .dup2, 1), (65, .iaload, 1), (66, .iload_n 2, 1), (67, .ior, 1), (68, .iastore, 1), (69, .aload_n 0, 1), (70, .getfield 33, 3), (73, .bipush 78, 2), (75, .dup2, 1), (76, .iaload, 1), (77, .iconst 1, 1), (78, .iload_n 1, 1), (79, .ishl, 1), (80, .ior, 1), (81, .iastore, 1), (82, .return_, 1)]
def nc_c_X12_comesTo : List (Nat × Instr × Nat) := [(0, .iconst 0, 1), (1, .istore_n 3, 1), (2, .iconst 0, 1), (3, .istore 4, 2), (5, .iload 4, 2), (7, .aload_n 0, 1), (8, .getfield 33, 3), (11, .iconst 1, 1), (12, .iaload, 1), (13, .if_icmp .ge 36, 3), (16, .iload_n 3, 1), (17, .aload_n 0, 1), (18, .getfield 33, 3), (21, .iconst 5, 1), (22, .iload 4, 2), (24, .iadd, 1), (25, .iaload, 1), (26, .iload_n 1, 1), (27, .if_icmp .ne 13, 3), (30, .aload_n 0, 1), (31, .getfield 50, 3), (34, .iload 4, 2), (36, .iaload, 1), (37, .goto 4, 3), (40, .iconst 0, 1), (41, .ior, 1), (42, .istore_n 3, 1), (43, .iinc 4 1, 3), (46, .goto (-41), 3), (49, .iconst 0, 1), (50, .istore 4, 2), (52, .iload 4, 2), (54, .aload_n 0, 1), (55, .getfield 33, 3), (58, .iconst 1, 1), (59, .iaload, 1), (60, .if_icmp .ge 80, 3), (63, .aload_n 0, 1), (64, .getfield 33, 3), (67, .iconst 5, 1), (68, .iload 4, 2), (70, .iadd, 1), (71, .iaload, 1), (72, .iload_n 2, 1), (73, .if_icmp .eq 6, 3), (76, .goto 58, 3), (79, .iconst 0, 1), (80, .istore 5, 2), (82, .iload 5, 2), (84, .aload_n 0, 1), (85, .getfield 33, 3), (88, .iconst 2, 1), (89, .iaload, 1), (90, .if_icmp .ge 44, 3), (93, .iload_n 3, 1), (94, .iload 5, 2), (96, .invokestatic 240, 3), (99, .ifCond .eq 29, 3), (102, .aload_n 0, 1), (103, .getfield 33, 3), (106, .sipush 132, 3), (109, .bipush 10, 2), (111, .iload 4, 2), (113, .imul, 1), (114, .iadd, 1), (115, .iload 5, 2), (117, .iadd, 1), (118, .aload_n 0, 1), (119, .getfield 33, 3), (122, .bipush 76, 2), (124, .iaload, 1), (125, .iconst 1, 1), (126, .iadd, 1), (127, .iastore, 1), (128, .iinc 5 1, 3), (131, .goto (-49), 3), (134, .iinc 4 1, 3), (137, .goto (-85), 3), (140, .return_, 1)]
def nc_c_X12_day : List (Nat × Instr × Nat) := [(0, .iconst 0, 1), (1, .istore_n 1, 1), (2, .iload_n 1, 1), (3, .aload_n 0, 1), (4, .getfield 33, 3), (7, .iconst 0, 1), (8, .iaload, 1), (9, .if_icmp .ge 55, 3), (12, .aload_n 0, 1), (13, .getfield 33, 3), (16, .sipush 212, 3), (19, .bipush 30, 2), (21, .iload_n 1, 1), (22, .imul, 1), (23, .iadd, 1), (24, .aload_n 0, 1), (25, .getfield 33, 3), (28, .bipush 76, 2), (30, .iaload, 1), (31, .bipush 30, 2), (33, .irem, 1), (34, .iadd, 1), (35, .aload_n 0, 1), (36, .iload_n 1, 1), (37, .invokevirtual 291, 3), (40, .iastore, 1), (41, .aload_n 0, 1), (42, .getfield 33, 3), (45, .bipush 95, 2), (47, .iload_n 1, 1), (48, .iadd, 1), (49, .dup2, 1), (50, .iaload, 1), (51, .aload_n 0, 1), (52, .iload_n 1, 1), (53, .invokevirtual 291, 3), (56, .iadd, 1), (57, .iastore, 1), (58, .iinc 1 1, 3), (61, .goto (-59), 3), (64, .iconst 0, 1), (65, .istore_n 1, 1), (66, .iload_n 1, 1), (67, .aload_n 0, 1), (68, .getfield 33, 3), (71, .iconst 1, 1), (72, .iaload, 1), (73, .if_icmp .ge 37, 3), (76, .aload_n 0, 1), (77, .getfield 33, 3), (80, .bipush 87, 2), (82, .iload_n 1, 1), (83, .iadd, 1), (84, .dup2, 1), (85, .iaload, 1), (86, .aload_n 0, 1), (87, .iload_n 1, 1), (88, .invokevirtual 279, 3), (91, .iadd, 1), (92, .iastore, 1), (93, .aload_n 0, 1), (94, .getfield 50, 3), (97, .iload_n 1, 1), (98, .aload_n 0, 1), (99, .iload_n 1, 1), (100, .invokevirtual 261, 3), (103, .iastore, 1), (104, .iinc 1 1, 3), (107, .goto (-41), 3), (110, .iconst 0, 1), (111, .istore_n 1, 1), (112, .iload_n 1, 1), (113, .aload_n 0, 1), (114, .getfield 33, 3), (117, .iconst 3, 1), (118, .iaload, 1), (119, .if_icmp .ge 64, 3), (122, .aload_n 0, 1), (123, .iload_n 1, 1), (124, .invokevirtual 294, 3), (127, .ifCond .ne 6, 3), (130, .goto 47, 3), (133, .aload_n 0, 1), (134, .aload_n 0, 1), (135, .getfield 33, 3), (138, .bipush 58, 2), (140, .iload_n 1, 1), (141, .iadd, 1), (142, .iaload, 1), (143, .aload_n 0, 1), (144, .getfield 33, 3), (147, .bipush 64, 2), (149, .iload_n 1, 1), (150, .iadd, 1), (151, .iaload, 1), (152, .invokevirtual 306, 3), (155, .aload_n 0, 1), (156, .aload_n 0, 1), (157, .getfield 33, 3), (160, .bipush 64, 2), (162, .iload_n 1, 1), (163, .iadd, 1), (164, .iaload, 1), (165, .aload_n 0, 1), (166, .getfield 33, 3), (169, .bipush 58, 2), (171, .iload_n 1, 1), (172, .iadd, 1), (173, .iaload, 1), (174, .invokevirtual 306, 3), (177, .iinc 1 1, 3), (180, .goto (-68), 3), (183, .iconst 0, 1), (184, .istore_n 1, 1), (185, .iload_n 1, 1), (186, .aload_n 0, 1), (187, .getfield 33, 3), (190, .iconst 1, 1), (191, .iaload, 1), (192, .if_icmp .ge 47, 3), (195, .aload_n 0, 1), (196, .getfield 33, 3), (199, .bipush 116, 2), (201, .iload_n 1, 1), (202, .iadd, 1), (203, .aload_n 0, 1), (204, .getfield 33, 3), (207, .bipush 100, 2), (209, .iload_n 1, 1), (210, .iadd, 1), (211, .iaload, 1), (212, .iastore, 1), (213, .aload_n 0, 1), (214, .getfield 33, 3), (217, .bipush 100, 2), (219, .iload_n 1, 1), (220, .iadd, 1), (221, .iconst 0, 1), (222, .iastore, 1), (223, .aload_n 0, 1), (224, .getfield 33, 3), (227, .bipush 108, 2), (229, .iload_n 1, 1), (230, .iadd, 1), (231, .iconst 0, 1), (232, .iastore, 1), (233, .iinc 1 1, 3), (236, .goto (-51), 3), (239, .aload_n 0, 1), (240, .getfield 33, 3), (243, .bipush 76, 2), (245, .dup2, 1), (246, .iaload, 1), (247, .iconst 1, 1), (248, .iadd, 1), (249, .iastore, 1), (250, .return_, 1)]
def nc_c_X12_goesOn : List (Nat × Instr × Nat) := [(0, .iconst 0, 1), (1, .istore_n 2, 1), (2, .iload_n 2, 1), (3, .iload_n 1, 1), (4, .if_icmp .ge 26, 3), (7, .aload_n 0, 1), (8, .getfield 33, 3), (11, .bipush 76, 2), (13, .iaload, 1), (14, .sipush 400, 3), (17, .if_icmp .ge 13, 3), (20, .aload_n 0, 1), (21, .invokevirtual 310, 3), (24, .iinc 2 1, 3), (27, .goto (-25), 3), (30, .iload_n 2, 1), (31, .ireturn, 1)]
def nc_c_X12_tell : List (Nat × Instr × Nat) := [(0, .aload_n 0, 1), (1, .iconst 0, 1), (2, .putfield 1, 3), (5, .aload_n 0, 1), (6, .iload_n 1, 1), (7, .invokevirtual 272, 3), (10, .ifCond .eq 11, 3), (13, .aload_n 0, 1), (14, .iload_n 2, 1), (15, .invokevirtual 282, 3), (18, .ifCond .ne 5, 3), (21, .iconst (-1), 1), (22, .ireturn, 1), (23, .aload_n 0, 1), (24, .iload_n 1, 1), (25, .iload_n 2, 1), (26, .invokevirtual 313, 3), (29, .istore_n 3, 1), (30, .iload_n 3, 1), (31, .ifCond .le 5, 3), (34, .iload_n 3, 1), (35, .ireturn, 1), (36, .aload_n 0, 1), (37, .invokevirtual 316, 3), (40, .aload_n 0, 1), (41, .iload_n 1, 1), (42, .iload_n 2, 1), (43, .invokevirtual 319, 3), (46, .iconst 0, 1), (47, .ireturn, 1)]
def nc_c_X12_find : List (Nat × Instr × Nat) := [(0, .aload_n 0, 1), (1, .iconst 0, 1), (2, .putfield 1, 3), (5, .aload_n 0, 1), (6, .iload_n 1, 1), (7, .invokevirtual 282, 3), (10, .ifCond .ne 5, 3), (13, .iconst (-1), 1), (14, .ireturn, 1), (15, .aload_n 0, 1), (16, .iload_n 1, 1), (17, .invokevirtual 322, 3), (20, .istore_n 2, 1), (21, .iload_n 2, 1), (22, .ifCond .le 5, 3), (25, .iload_n 2, 1), (26, .ireturn, 1), (27, .aload_n 0, 1), (28, .invokevirtual 316, 3), (31, .aload_n 0, 1), (32, .iload_n 1, 1), (33, .invokevirtual 325, 3), (36, .iconst 0, 1), (37, .ireturn, 1)]
def nc_c_X12_days : List (Nat × Instr × Nat) := [(0, .aload_n 0, 1), (1, .iconst 0, 1), (2, .putfield 1, 3), (5, .iload_n 1, 1), (6, .iconst 1, 1), (7, .bipush 60, 2), (9, .invokestatic 177, 3), (12, .ifCond .ne 5, 3), (15, .iconst (-1), 1), (16, .ireturn, 1), (17, .aload_n 0, 1), (18, .getfield 33, 3), (21, .bipush 76, 2), (23, .iaload, 1), (24, .sipush 400, 3), (27, .if_icmp .ne 5, 3), (30, .iconst 0, 1), (31, .ireturn, 1), (32, .aload_n 0, 1), (33, .invokevirtual 316, 3), (36, .aload_n 0, 1), (37, .iload_n 1, 1), (38, .invokevirtual 328, 3), (41, .ireturn, 1)]
def nc_c_X12_why : List (Nat × Instr × Nat) := [(0, .aload_n 0, 1), (1, .iconst 0, 1), (2, .putfield 1, 3), (5, .aload_n 0, 1), (6, .iload_n 1, 1), (7, .invokevirtual 272, 3), (10, .ifCond .eq 20, 3), (13, .aload_n 0, 1), (14, .iload_n 2, 1), (15, .invokevirtual 282, 3), (18, .ifCond .eq 12, 3), (21, .aload_n 0, 1), (22, .iload_n 1, 1), (23, .iload_n 2, 1), (24, .invokevirtual 313, 3), (27, .goto 4, 3), (30, .iconst (-1), 1), (31, .ireturn, 1)]
def nc_c_X12_mayHear : List (Nat × Instr × Nat) := [(0, .iload_n 2, 1), (1, .aload_n 0, 1), (2, .getfield 33, 3), (5, .bipush 100, 2), (7, .iload_n 1, 1), (8, .iadd, 1), (9, .iaload, 1), (10, .iand, 1), (11, .ifCond .ne 33, 3), (14, .iload_n 2, 1), (15, .invokestatic 300, 3), (18, .aload_n 0, 1), (19, .getfield 33, 3), (22, .iconst 4, 1), (23, .iaload, 1), (24, .aload_n 0, 1), (25, .getfield 33, 3), (28, .bipush 100, 2), (30, .iload_n 1, 1), (31, .iadd, 1), (32, .iaload, 1), (33, .invokestatic 300, 3), (36, .isub, 1), (37, .if_icmp .gt 7, 3), (40, .iconst 1, 1), (41, .goto 4, 3), (44, .iconst 0, 1), (45, .ireturn, 1)]
def nc_c_X12_bestOf : List (Nat × Instr × Nat) := [(0, .iconst 0, 1), (1, .istore_n 3, 1), (2, .iconst 1, 1), (3, .istore 4, 2), (5, .iload 4, 2), (7, .iload_n 2, 1), (8, .if_icmp .gt 77, 3), (11, .iload 4, 2), (13, .iload_n 2, 1), (14, .iconst (-1), 1), (15, .ixor, 1), (16, .iand, 1), (17, .ifCond .ne 62, 3), (20, .aload_n 0, 1), (21, .iload_n 1, 1), (22, .iload 4, 2), (24, .invokevirtual 331, 3), (27, .ifCond .ne 6, 3), (30, .goto 49, 3), (33, .aload_n 0, 1), (34, .iload_n 1, 1), (35, .iload 4, 2), (37, .invokevirtual 269, 3), (40, .istore 5, 2), (42, .aload_n 0, 1), (43, .iload_n 1, 1), (44, .iload_n 3, 1), (45, .invokevirtual 269, 3), (48, .istore 6, 2), (50, .iload 5, 2), (52, .iload 6, 2), (54, .if_icmp .gt 22, 3), (57, .iload 5, 2), (59, .iload 6, 2), (61, .if_icmp .ne 18, 3), (64, .iload 4, 2), (66, .invokestatic 300, 3), (69, .iload_n 3, 1), (70, .invokestatic 300, 3), (73, .if_icmp .ge 6, 3), (76, .iload 4, 2), (78, .istore_n 3, 1), (79, .iinc 4 1, 3), (82, .goto (-77), 3), (85, .iload_n 3, 1), (86, .ireturn, 1)]
def nc_c_X12_best : List (Nat × Instr × Nat) := [(0, .aload_n 0, 1), (1, .iconst 0, 1), (2, .putfield 1, 3), (5, .aload_n 0, 1), (6, .iload_n 1, 1), (7, .invokevirtual 272, 3), (10, .ifCond .eq 11, 3), (13, .aload_n 0, 1), (14, .iload_n 1, 1), (15, .invokevirtual 255, 3), (18, .ifCond .eq 5, 3), (21, .iconst (-1), 1), (22, .ireturn, 1), (23, .aload_n 0, 1), (24, .iload_n 1, 1), (25, .aload_n 0, 1), (26, .invokevirtual 340, 3), (29, .invokevirtual 343, 3), (32, .istore_n 2, 1), (33, .aload_n 0, 1), (34, .iload_n 2, 1), (35, .invokevirtual 346, 3), (38, .aload_n 0, 1), (39, .iload_n 1, 1), (40, .iload_n 2, 1), (41, .invokevirtual 269, 3), (44, .ireturn, 1)]
def nc_c_X12_least : List (Nat × Instr × Nat) := [(0, .aload_n 0, 1), (1, .iconst 0, 1), (2, .putfield 1, 3), (5, .aload_n 0, 1), (6, .iload_n 1, 1), (7, .invokevirtual 272, 3), (10, .ifCond .eq 22, 3), (13, .aload_n 0, 1), (14, .iload_n 1, 1), (15, .invokevirtual 255, 3), (18, .ifCond .ne 14, 3), (21, .iload_n 2, 1), (22, .iconst 0, 1), (23, .sipush 999, 3), (26, .invokestatic 177, 3), (29, .ifCond .ne 5, 3), (32, .iconst (-1), 1), (33, .ireturn, 1), (34, .aload_n 0, 1), (35, .invokevirtual 340, 3), (38, .istore_n 3, 1), (39, .iconst (-1), 1), (40, .istore 4, 2), (42, .iconst 0, 1), (43, .istore 5, 2), (45, .iload 5, 2), (47, .iload_n 3, 1), (48, .if_icmp .gt 115, 3), (51, .iload 5, 2), (53, .iload_n 3, 1), (54, .iconst (-1), 1), (55, .ixor, 1), (56, .iand, 1), (57, .ifCond .ne 100, 3), (60, .aload_n 0, 1), (61, .iload_n 1, 1), (62, .iload 5, 2), (64, .invokevirtual 331, 3), (67, .ifCond .eq 90, 3), (70, .aload_n 0, 1), (71, .iload_n 1, 1), (72, .iload 5, 2), (74, .invokevirtual 269, 3), (77, .iload_n 2, 1), (78, .if_icmp .ge 6, 3), (81, .goto 76, 3), (84, .iload 5, 2), (86, .aload_n 0, 1), (87, .getfield 33, 3), (90, .bipush 57, 2), (92, .iaload, 1), (93, .iand, 1), (94, .invokestatic 300, 3), (97, .istore 6, 2), (99, .iload 4, 2), (101, .ifCond .lt 52, 3), (104, .iload 6, 2), (106, .iload 4, 2), (108, .aload_n 0, 1), (109, .getfield 33, 3), (112, .bipush 57, 2), (114, .iaload, 1), (115, .iand, 1), (116, .invokestatic 300, 3), (119, .if_icmp .lt 34, 3), (122, .iload 6, 2), (124, .iload 4, 2), (126, .aload_n 0, 1), (127, .getfield 33, 3), (130, .bipush 57, 2), (132, .iaload, 1), (133, .iand, 1), (134, .invokestatic 300, 3), (137, .if_icmp .ne 20, 3), (140, .iload 5, 2), (142, .invokestatic 300, 3), (145, .iload 4, 2), (147, .invokestatic 300, 3), (150, .if_icmp .ge 7, 3), (153, .iload 5, 2), (155, .istore 4, 2), (157, .iinc 5 1, 3), (160, .goto (-115), 3), (163, .iload 4, 2), (165, .ifCond .ge 5, 3), (168, .iconst (-1), 1), (169, .ireturn, 1), (170, .aload_n 0, 1), (171, .iload 4, 2), (173, .invokevirtual 346, 3), (176, .iload 4, 2), (178, .aload_n 0, 1), (179, .getfield 33, 3), (182, .bipush 57, 2), (184, .iaload, 1), (185, .iand, 1), (186, .invokestatic 300, 3), (189, .ireturn, 1)]
def nc_c_X12_honest : List (Nat × Instr × Nat) := [(0, .aload_n 0, 1), (1, .iconst 0, 1), (2, .putfield 1, 3), (5, .aload_n 0, 1), (6, .iload_n 1, 1), (7, .invokevirtual 272, 3), (10, .ifCond .eq 38, 3), (13, .aload_n 0, 1), (14, .iload_n 1, 1), (15, .invokevirtual 255, 3), (18, .ifCond .ne 30, 3), (21, .aload_n 0, 1), (22, .iload_n 1, 1), (23, .aload_n 0, 1), (24, .iload_n 1, 1), (25, .aload_n 0, 1), (26, .invokevirtual 340, 3), (29, .aload_n 0, 1), (30, .getfield 33, 3), (33, .bipush 57, 2), (35, .iaload, 1), (36, .iconst (-1), 1), (37, .ixor, 1), (38, .iand, 1), (39, .invokevirtual 343, 3), (42, .invokevirtual 269, 3), (45, .goto 4, 3), (48, .iconst (-1), 1), (49, .ireturn, 1)]
def nc_c_X12_planned : List (Nat × Instr × Nat) := [(0, .iconst 0, 1), (1, .istore 4, 2), (3, .iconst 1, 1), (4, .istore 5, 2), (6, .iconst 0, 1), (7, .istore 6, 2), (9, .iload 6, 2), (11, .iload_n 3, 1), (12, .if_icmp .ge 89, 3), (15, .iload 5, 2), (17, .ifCond .eq 84, 3), (20, .aload_n 0, 1), (21, .iload_n 2, 1), (22, .iload 6, 2), (24, .iload_n 3, 1), (25, .invokevirtual 349, 3), (28, .istore 7, 2), (30, .iload 7, 2), (32, .aload_n 0, 1), (33, .getfield 33, 3), (36, .iconst 2, 1), (37, .iaload, 1), (38, .if_icmp .eq 13, 3), (41, .aload_n 0, 1), (42, .iload_n 1, 1), (43, .iload 7, 2), (45, .invokevirtual 313, 3), (48, .ifCond .ne 7, 3), (51, .iconst 1, 1), (52, .goto 4, 3), (55, .iconst 0, 1), (56, .istore 5, 2), (58, .iload 5, 2), (60, .ifCond .eq 21, 3), (63, .iload 7, 2), (65, .aload_n 0, 1), (66, .getfield 33, 3), (69, .iconst 2, 1), (70, .iaload, 1), (71, .if_icmp .ge 10, 3), (74, .aload_n 0, 1), (75, .iload_n 1, 1), (76, .iload 7, 2), (78, .invokevirtual 319, 3), (81, .iload 4, 2), (83, .aload_n 0, 1), (84, .iload_n 1, 1), (85, .invokevirtual 279, 3), (88, .iadd, 1), (89, .istore 4, 2), (91, .aload_n 0, 1), (92, .invokevirtual 310, 3), (95, .iinc 6 1, 3), (98, .goto (-89), 3), (101, .aload_n 0, 1), (102, .invokevirtual 352, 3), (105, .iload 5, 2), (107, .ifCond .eq 8, 3), (110, .iload 4, 2), (112, .goto 4, 3), (115, .iconst (-1), 1), (116, .ireturn, 1)]
def nc_c_X12_plan : List (Nat × Instr × Nat) := [(0, .aload_n 0, 1), (1, .iconst 0, 1), (2, .putfield 1, 3), (5, .aload_n 0, 1), (6, .iload_n 1, 1), (7, .invokevirtual 272, 3), (10, .ifCond .eq 27, 3), (13, .iload_n 2, 1), (14, .iconst 1, 1), (15, .iconst 3, 1), (16, .invokestatic 177, 3), (19, .ifCond .eq 18, 3), (22, .aload_n 0, 1), (23, .getfield 33, 3), (26, .bipush 76, 2), (28, .iaload, 1), (29, .iload_n 2, 1), (30, .iadd, 1), (31, .sipush 400, 3), (34, .if_icmp .le 5, 3), (37, .iconst (-1), 1), (38, .ireturn, 1), (39, .iconst 1, 1), (40, .istore_n 3, 1), (41, .iconst 0, 1), (42, .istore 4, 2), (44, .iload 4, 2), (46, .iload_n 2, 1), (47, .if_icmp .ge 20, 3), (50, .iload_n 3, 1), (51, .aload_n 0, 1), (52, .getfield 33, 3), (55, .iconst 2, 1), (56, .iaload, 1), (57, .iconst 1, 1), (58, .iadd, 1), (59, .imul, 1), (60, .istore_n 3, 1), (61, .iinc 4 1, 3), (64, .goto (-20), 3), (67, .aload_n 0, 1), (68, .invokevirtual 355, 3), (71, .iconst (-1), 1), (72, .istore 4, 2), (74, .iconst (-1), 1), (75, .istore 5, 2), (77, .iconst 0, 1), (78, .istore 6, 2), (80, .iload 6, 2), (82, .iload_n 3, 1), (83, .if_icmp .ge 37, 3), (86, .aload_n 0, 1), (87, .iload_n 1, 1), (88, .iload 6, 2), (90, .iload_n 2, 1), (91, .invokevirtual 358, 3), (94, .istore 7, 2), (96, .iload 7, 2), (98, .iload 5, 2), (100, .if_icmp .gt 6, 3), (103, .goto 11, 3), (106, .iload 7, 2), (108, .istore 5, 2), (110, .iload 6, 2), (112, .istore 4, 2), (114, .iinc 6 1, 3), (117, .goto (-37), 3), (120, .aload_n 0, 1), (121, .iload_n 2, 1), (122, .putfield 62, 3), (125, .iconst 0, 1), (126, .istore 6, 2), (128, .iload 6, 2), (130, .iload_n 2, 1), (131, .if_icmp .ge 44, 3), (134, .aload_n 0, 1), (135, .iload 4, 2), (137, .iload 6, 2), (139, .iload_n 2, 1), (140, .invokevirtual 349, 3), (143, .istore 7, 2), (145, .aload_n 0, 1), (146, .getfield 59, 3), (149, .iload 6, 2), (151, .iload 7, 2), (153, .aload_n 0, 1), (154, .getfield 33, 3), (157, .iconst 2, 1), (158, .iaload, 1), (159, .if_icmp .ne 7, 3), (162, .iconst (-1), 1), (163, .goto 5, 3), (166, .iload 7, 2), (168, .iastore, 1), (169, .iinc 6 1, 3), (172, .goto (-44), 3), (175, .iload 5, 2), (177, .ireturn, 1)]
def nc_c_X12_planAt : List (Nat × Instr × Nat) := [(0, .aload_n 0, 1), (1, .iconst 0, 1), (2, .putfield 1, 3), (5, .iload_n 1, 1), (6, .iconst 0, 1), (7, .aload_n 0, 1), (8, .getfield 62, 3), (11, .iconst 1, 1), (12, .isub, 1), (13, .invokestatic 177, 3), (16, .ifCond .eq 12, 3), (19, .aload_n 0, 1), (20, .getfield 59, 3), (23, .iload_n 1, 1), (24, .iaload, 1), (25, .goto 4, 3), (28, .iconst (-1), 1), (29, .ireturn, 1)]
def nc_c_X12_allKnow : List (Nat × Instr × Nat) := [(0, .aload_n 0, 1), (1, .iconst 0, 1), (2, .putfield 1, 3), (5, .aload_n 0, 1), (6, .iload_n 1, 1), (7, .invokevirtual 282, 3), (10, .ifCond .eq 12, 3), (13, .aload_n 0, 1), (14, .getfield 33, 3), (17, .iconst 1, 1), (18, .iaload, 1), (19, .ifCond .ne 5, 3), (22, .iconst (-1), 1), (23, .ireturn, 1), (24, .aload_n 0, 1), (25, .invokevirtual 355, 3), (28, .iconst (-1), 1), (29, .istore_n 2, 1), (30, .iconst 0, 1), (31, .istore_n 3, 1), (32, .iload_n 3, 1), (33, .sipush 200, 3), (36, .if_icmp .ge 82, 3), (39, .iload_n 2, 1), (40, .ifCond .ge 78, 3), (43, .aload_n 0, 1), (44, .iconst 1, 1), (45, .invokevirtual 328, 3), (48, .iconst 1, 1), (49, .if_icmp .ne 69, 3), (52, .iconst 1, 1), (53, .istore 4, 2), (55, .iconst 0, 1), (56, .istore 5, 2), (58, .iload 5, 2), (60, .aload_n 0, 1), (61, .getfield 33, 3), (64, .iconst 1, 1), (65, .iaload, 1), (66, .if_icmp .ge 31, 3), (69, .iload 4, 2), (71, .ifCond .eq 17, 3), (74, .aload_n 0, 1), (75, .iload 5, 2), (77, .iload_n 1, 1), (78, .invokevirtual 243, 3), (81, .ifCond .eq 7, 3), (84, .iconst 1, 1), (85, .goto 4, 3), (88, .iconst 0, 1), (89, .istore 4, 2), (91, .iinc 5 1, 3), (94, .goto (-36), 3), (97, .iload 4, 2), (99, .ifCond .eq 13, 3), (102, .aload_n 0, 1), (103, .getfield 33, 3), (106, .bipush 76, 2), (108, .iaload, 1), (109, .iconst 1, 1), (110, .isub, 1), (111, .istore_n 2, 1), (112, .iinc 3 1, 3), (115, .goto (-83), 3), (118, .aload_n 0, 1), (119, .invokevirtual 352, 3), (122, .iload_n 2, 1), (123, .ireturn, 1)]
def nc_c_X12_comes : List (Nat × Instr × Nat) := [(0, .iconst 1, 1), (1, .iload_n 1, 1), (2, .ishl, 1), (3, .istore 4, 2), (5, .iconst 0, 1), (6, .istore 5, 2), (8, .iload 5, 2), (10, .iconst 4, 1), (11, .if_icmp .ge 107, 3), (14, .iconst 0, 1), (15, .istore 6, 2), (17, .iload 6, 2), (19, .aload_n 0, 1), (20, .getfield 33, 3), (23, .iconst 3, 1), (24, .iaload, 1), (25, .if_icmp .ge 87, 3), (28, .iload_n 3, 1), (29, .iload 6, 2), (31, .invokestatic 240, 3), (34, .ifCond .ne 6, 3), (37, .goto 69, 3), (40, .iload 4, 2), (42, .aload_n 0, 1), (43, .getfield 33, 3), (46, .bipush 58, 2), (48, .iload 6, 2), (50, .iadd, 1), (51, .iaload, 1), (52, .invokestatic 240, 3), (55, .ifCond .ne 21, 3), (58, .iload 4, 2), (60, .aload_n 0, 1), (61, .getfield 33, 3), (64, .bipush 64, 2), (66, .iload 6, 2), (68, .iadd, 1), (69, .iaload, 1), (70, .invokestatic 240, 3), (73, .ifCond .eq 33, 3), (76, .iload 4, 2), (78, .iconst 1, 1), (79, .aload_n 0, 1), (80, .getfield 33, 3), (83, .bipush 58, 2), (85, .iload 6, 2), (87, .iadd, 1), (88, .iaload, 1), (89, .ishl, 1), (90, .iconst 1, 1), (91, .aload_n 0, 1), (92, .getfield 33, 3), (95, .bipush 64, 2), (97, .iload 6, 2), (99, .iadd, 1), (100, .iaload, 1), (101, .ishl, 1), (102, .ior, 1), (103, .ior, 1), (104, .istore 4, 2), (106, .iinc 6 1, 3), (109, .goto (-92), 3), (112, .iinc 5 1, 3), (115, .goto (-107), 3), (118, .iload 4, 2), (120, .iload_n 2, 1), (121, .invokestatic 240, 3), (124, .ireturn, 1)]
def nc_c_X12_part : List (Nat × Instr × Nat) := [(0, .aload_n 0, 1), (1, .iconst 0, 1), (2, .putfield 1, 3), (5, .aload_n 0, 1), (6, .iload_n 1, 1), (7, .invokevirtual 285, 3), (10, .ifCond .eq 16, 3), (13, .aload_n 0, 1), (14, .iload_n 2, 1), (15, .invokevirtual 285, 3), (18, .ifCond .eq 8, 3), (21, .iload_n 1, 1), (22, .iload_n 2, 1), (23, .if_icmp .ne 5, 3), (26, .iconst (-1), 1), (27, .ireturn, 1), (28, .iconst 1, 1), (29, .aload_n 0, 1), (30, .getfield 33, 3), (33, .iconst 3, 1), (34, .iaload, 1), (35, .ishl, 1), (36, .iconst 1, 1), (37, .isub, 1), (38, .istore_n 3, 1), (39, .iload_n 3, 1), (40, .istore 4, 2), (42, .iload_n 3, 1), (43, .istore 5, 2), (45, .iload 5, 2), (47, .ifCond .lt 41, 3), (50, .iload 5, 2), (52, .invokestatic 300, 3), (55, .iload 4, 2), (57, .invokestatic 300, 3), (60, .if_icmp .gt 22, 3), (63, .aload_n 0, 1), (64, .iload_n 1, 1), (65, .iload_n 2, 1), (66, .iload_n 3, 1), (67, .iload 5, 2), (69, .iconst (-1), 1), (70, .ixor, 1), (71, .iand, 1), (72, .invokevirtual 361, 3), (75, .ifCond .ne 7, 3), (78, .iload 5, 2), (80, .istore 4, 2), (82, .iinc 5 (-1), 3), (85, .goto (-40), 3), (88, .aload_n 0, 1), (89, .iconst 1, 1), (90, .putfield 364, 3), (93, .aload_n 0, 1), (94, .iload 4, 2), (96, .putfield 367, 3), (99, .iload 4, 2), (101, .invokestatic 300, 3), (104, .ireturn, 1)]
def nc_c_X12_tasted : List (Nat × Instr × Nat) := [(0, .aload_n 0, 1), (1, .iconst 0, 1), (2, .putfield 1, 3), (5, .aload_n 0, 1), (6, .sipush 940, 3), (9, .invokevirtual 225, 3), (12, .aload_n 0, 1), (13, .iload_n 1, 1), (14, .invokevirtual 272, 3), (17, .ifCond .eq 19, 3), (20, .aload_n 0, 1), (21, .iload_n 1, 1), (22, .invokevirtual 255, 3), (25, .ifCond .ne 11, 3), (28, .aload_n 0, 1), (29, .getfield 18, 3), (32, .iconst 1, 1), (33, .if_icmp .eq 5, 3), (36, .iconst (-1), 1), (37, .ireturn, 1), (38, .iconst 0, 1), (39, .istore_n 2, 1), (40, .iconst 1, 1), (41, .aload_n 0, 1), (42, .getfield 33, 3), (45, .iconst 2, 1), (46, .iaload, 1), (47, .ishl, 1), (48, .iconst 1, 1), (49, .isub, 1), (50, .istore_n 3, 1), (51, .iconst 0, 1), (52, .istore 4, 2), (54, .iload 4, 2), (56, .bipush 10, 2), (58, .if_icmp .ge 17, 3), (61, .aload_n 0, 1), (62, .getfield 65, 3), (65, .iload 4, 2), (67, .iconst 0, 1), (68, .iastore, 1), (69, .iinc 4 1, 3), (72, .goto (-18), 3), (75, .iconst 0, 1), (76, .istore 4, 2), (78, .iload 4, 2), (80, .iconst 1, 1), (81, .aload_n 0, 1), (82, .getfield 33, 3), (85, .iconst 2, 1), (86, .iaload, 1), (87, .ishl, 1), (88, .if_icmp .ge 90, 3), (91, .aload_n 0, 1), (92, .iload_n 1, 1), (93, .iload 4, 2), (95, .invokevirtual 331, 3), (98, .ifCond .eq 74, 3), (101, .aload_n 0, 1), (102, .iload_n 1, 1), (103, .iload 4, 2), (105, .invokevirtual 269, 3), (108, .aload_n 0, 1), (109, .iconst 0, 1), (110, .invokevirtual 370, 3), (113, .if_icmp .eq 6, 3), (116, .goto 56, 3), (119, .iinc 2 1, 3), (122, .iload_n 3, 1), (123, .iload 4, 2), (125, .iand, 1), (126, .istore_n 3, 1), (127, .iconst 0, 1), (128, .istore 5, 2), (130, .iload 5, 2), (132, .aload_n 0, 1), (133, .getfield 33, 3), (136, .iconst 2, 1), (137, .iaload, 1), (138, .if_icmp .ge 34, 3), (141, .aload_n 0, 1), (142, .getfield 65, 3), (145, .iload 5, 2), (147, .dup2, 1), (148, .iaload, 1), (149, .iload 4, 2), (151, .iload 5, 2), (153, .invokestatic 240, 3), (156, .ifCond .eq 7, 3), (159, .iconst 1, 1), (160, .goto 4, 3), (163, .iconst 0, 1), (164, .iadd, 1), (165, .iastore, 1), (166, .iinc 5 1, 3), (169, .goto (-39), 3), (172, .iinc 4 1, 3), (175, .goto (-97), 3), (178, .iload_n 2, 1), (179, .ifCond .ne 5, 3), (182, .iconst 0, 1), (183, .ireturn, 1), (184, .aload_n 0, 1), (185, .iconst 1, 1), (186, .putfield 373, 3), (189, .aload_n 0, 1), (190, .iload_n 3, 1), (191, .putfield 376, 3), (194, .aload_n 0, 1), (195, .iconst (-1), 1), (196, .putfield 379, 3), (199, .iconst 0, 1), (200, .istore 4, 2), (202, .iload 4, 2), (204, .aload_n 0, 1), (205, .getfield 33, 3), (208, .iconst 2, 1), (209, .iaload, 1), (210, .if_icmp .ge 55, 3), (213, .aload_n 0, 1), (214, .getfield 379, 3), (217, .ifCond .lt 36, 3), (220, .iload_n 2, 1), (221, .iconst 2, 1), (222, .aload_n 0, 1), (223, .getfield 65, 3), (226, .iload 4, 2), (228, .iaload, 1), (229, .imul, 1), (230, .isub, 1), (231, .invokestatic 382, 3), (234, .iload_n 2, 1), (235, .iconst 2, 1), (236, .aload_n 0, 1), (237, .getfield 65, 3), (240, .aload_n 0, 1), (241, .getfield 379, 3), (244, .iaload, 1), (245, .imul, 1), (246, .isub, 1), (247, .invokestatic 382, 3), (250, .if_icmp .ge 9, 3), (253, .aload_n 0, 1), (254, .iload 4, 2), (256, .putfield 379, 3), (259, .iinc 4 1, 3), (262, .goto (-60), 3), (265, .iload_n 2, 1), (266, .ireturn, 1)]
def nc_c_X12_dries : List (Nat × Instr × Nat) := [(0, .aload_n 0, 1), (1, .iconst 0, 1), (2, .putfield 1, 3), (5, .aload_n 0, 1), (6, .iload_n 1, 1), (7, .invokevirtual 282, 3), (10, .ifCond .eq 19, 3), (13, .aload_n 0, 1), (14, .iload_n 1, 1), (15, .invokevirtual 322, 3), (18, .ifCond .ne 11, 3), (21, .aload_n 0, 1), (22, .iload_n 1, 1), (23, .invokevirtual 303, 3), (26, .goto 4, 3), (29, .iconst (-1), 1), (30, .ireturn, 1)]
def nc_c_X12_isPast : List (Nat × Instr × Nat) := [(0, .iload_n 1, 1), (1, .iconst 0, 1), (2, .aload_n 0, 1), (3, .getfield 33, 3), (6, .bipush 76, 2), (8, .iaload, 1), (9, .bipush 30, 2), (11, .isub, 1), (12, .invokestatic 252, 3), (15, .aload_n 0, 1), (16, .getfield 33, 3), (19, .bipush 76, 2), (21, .iaload, 1), (22, .iconst 1, 1), (23, .isub, 1), (24, .invokestatic 177, 3), (27, .ireturn, 1)]
def nc_c_X12_week : List (Nat × Instr × Nat) := [(0, .aload_n 0, 1), (1, .iconst 0, 1), (2, .putfield 1, 3), (5, .aload_n 0, 1), (6, .sipush 940, 3), (9, .invokevirtual 225, 3), (12, .aload_n 0, 1), (13, .iload_n 1, 1), (14, .invokevirtual 285, 3), (17, .ifCond .eq 16, 3), (20, .aload_n 0, 1), (21, .getfield 18, 3), (24, .iconst 1, 1), (25, .bipush 7, 2), (27, .invokestatic 177, 3), (30, .ifCond .ne 5, 3), (33, .iconst (-1), 1), (34, .ireturn, 1), (35, .iconst 0, 1), (36, .aload_n 0, 1), (37, .getfield 33, 3), (40, .bipush 76, 2), (42, .iaload, 1), (43, .bipush 30, 2), (45, .isub, 1), (46, .invokestatic 252, 3), (49, .istore_n 2, 1), (50, .iload_n 2, 1), (51, .aload_n 0, 1), (52, .getfield 18, 3), (55, .iadd, 1), (56, .aload_n 0, 1), (57, .getfield 33, 3), (60, .bipush 76, 2), (62, .iaload, 1), (63, .if_icmp .gt 75, 3), (66, .iconst 1, 1), (67, .istore_n 3, 1), (68, .iconst 0, 1), (69, .istore 4, 2), (71, .iload 4, 2), (73, .aload_n 0, 1), (74, .getfield 18, 3), (77, .if_icmp .ge 49, 3), (80, .iload_n 3, 1), (81, .ifCond .eq 37, 3), (84, .aload_n 0, 1), (85, .getfield 33, 3), (88, .sipush 212, 3), (91, .bipush 30, 2), (93, .iload_n 1, 1), (94, .imul, 1), (95, .iadd, 1), (96, .iload_n 2, 1), (97, .iload 4, 2), (99, .iadd, 1), (100, .bipush 30, 2), (102, .irem, 1), (103, .iadd, 1), (104, .iaload, 1), (105, .aload_n 0, 1), (106, .iload 4, 2), (108, .invokevirtual 370, 3), (111, .if_icmp .ne 7, 3), (114, .iconst 1, 1), (115, .goto 4, 3), (118, .iconst 0, 1), (119, .istore_n 3, 1), (120, .iinc 4 1, 3), (123, .goto (-52), 3), (126, .iload_n 3, 1), (127, .ifCond .eq 5, 3), (130, .iload_n 2, 1), (131, .ireturn, 1), (132, .iinc 2 1, 3), (135, .goto (-85), 3), (138, .iconst (-1), 1), (139, .ireturn, 1)]
def nc_c_X12_pails : List (Nat × Instr × Nat) := [(0, .aload_n 0, 1), (1, .iconst 0, 1), (2, .putfield 1, 3), (5, .aload_n 0, 1), (6, .iload_n 1, 1), (7, .invokevirtual 285, 3), (10, .ifCond .eq 32, 3), (13, .aload_n 0, 1), (14, .iload_n 2, 1), (15, .invokevirtual 385, 3), (18, .ifCond .eq 24, 3), (21, .aload_n 0, 1), (22, .getfield 33, 3), (25, .sipush 212, 3), (28, .bipush 30, 2), (30, .iload_n 1, 1), (31, .imul, 1), (32, .iadd, 1), (33, .iload_n 2, 1), (34, .bipush 30, 2), (36, .irem, 1), (37, .iadd, 1), (38, .iaload, 1), (39, .goto 4, 3), (42, .iconst (-1), 1), (43, .ireturn, 1)]
def nc_c_X12_ahead : List (Nat × Instr × Nat) := [(0, .aload_n 0, 1), (1, .iconst 0, 1), (2, .putfield 1, 3), (5, .iload_n 1, 1), (6, .iconst 1, 1), (7, .bipush 60, 2), (9, .invokestatic 177, 3), (12, .ifCond .ne 5, 3), (15, .iconst (-1), 1), (16, .ireturn, 1), (17, .aload_n 0, 1), (18, .invokevirtual 355, 3), (21, .aload_n 0, 1), (22, .invokevirtual 297, 3), (25, .istore_n 2, 1), (26, .aload_n 0, 1), (27, .iload_n 1, 1), (28, .invokevirtual 328, 3), (31, .pop, 1), (32, .aload_n 0, 1), (33, .invokevirtual 297, 3), (36, .iload_n 2, 1), (37, .isub, 1), (38, .istore_n 3, 1), (39, .aload_n 0, 1), (40, .invokevirtual 352, 3), (43, .iload_n 3, 1), (44, .ireturn, 1)]
def nc_c_X12_draws : List (Nat × Instr × Nat) := [(0, .aload_n 0, 1), (1, .iload_n 2, 1), (2, .putfield 388, 3), (5, .iconst 0, 1), (6, .istore_n 3, 1), (7, .iload_n 3, 1), (8, .iload_n 1, 1), (9, .if_icmp .ge 124, 3), (12, .aload_n 0, 1), (13, .getfield 33, 3), (16, .bipush 76, 2), (18, .iaload, 1), (19, .sipush 400, 3), (22, .if_icmp .ge 111, 3), (25, .iconst 0, 1), (26, .istore 4, 2), (28, .iload 4, 2), (30, .aload_n 0, 1), (31, .getfield 33, 3), (34, .iconst 1, 1), (35, .iaload, 1), (36, .if_icmp .ge 51, 3), (39, .aload_n 0, 1), (40, .iconst 3, 1), (41, .invokevirtual 392, 3), (44, .ifCond .le 6, 3), (47, .goto 34, 3), (50, .aload_n 0, 1), (51, .aload_n 0, 1), (52, .getfield 33, 3), (55, .iconst 2, 1), (56, .iaload, 1), (57, .invokevirtual 392, 3), (60, .istore 5, 2), (62, .aload_n 0, 1), (63, .iload 4, 2), (65, .iload 5, 2), (67, .invokevirtual 313, 3), (70, .ifCond .ne 11, 3), (73, .aload_n 0, 1), (74, .iload 4, 2), (76, .iload 5, 2), (78, .invokevirtual 319, 3), (81, .iinc 4 1, 3), (84, .goto (-56), 3), (87, .aload_n 0, 1), (88, .bipush 12, 2), (90, .invokevirtual 392, 3), (93, .ifCond .ne 30, 3), (96, .aload_n 0, 1), (97, .aload_n 0, 1), (98, .getfield 33, 3), (101, .iconst 2, 1), (102, .iaload, 1), (103, .invokevirtual 392, 3), (106, .istore 4, 2), (108, .aload_n 0, 1), (109, .iload 4, 2), (111, .invokevirtual 322, 3), (114, .ifCond .ne 9, 3), (117, .aload_n 0, 1), (118, .iload 4, 2), (120, .invokevirtual 325, 3), (123, .aload_n 0, 1), (124, .invokevirtual 310, 3), (127, .iinc 3 1, 3), (130, .goto (-123), 3), (133, .iload_n 3, 1), (134, .ireturn, 1)]
def nc_c_X12_drawn : List (Nat × Instr × Nat) := [(0, .aload_n 0, 1), (1, .iconst 0, 1), (2, .putfield 1, 3), (5, .iload_n 1, 1), (6, .iconst 1, 1), (7, .bipush 60, 2), (9, .invokestatic 177, 3), (12, .ifCond .eq 12, 3), (15, .aload_n 0, 1), (16, .getfield 33, 3), (19, .iconst 2, 1), (20, .iaload, 1), (21, .ifCond .ne 5, 3), (24, .iconst (-1), 1), (25, .ireturn, 1), (26, .aload_n 0, 1), (27, .getfield 33, 3), (30, .bipush 76, 2), (32, .iaload, 1), (33, .sipush 400, 3), (36, .if_icmp .ge 7, 3), (39, .aload_n 0, 1), (40, .invokevirtual 316, 3), (43, .aload_n 0, 1), (44, .iload_n 1, 1), (45, .iload_n 2, 1), (46, .invokevirtual 395, 3), (49, .ireturn, 1)]
def nc_c_X12_odds : List (Nat × Instr × Nat) := [(0, .aload_n 0, 1), (1, .iconst 0, 1), (2, .putfield 1, 3), (5, .aload_n 0, 1), (6, .iload_n 1, 1), (7, .invokevirtual 272, 3), (10, .ifCond .eq 22, 3), (13, .iload_n 2, 1), (14, .iconst 1, 1), (15, .bipush 30, 2), (17, .invokestatic 177, 3), (20, .ifCond .eq 12, 3), (23, .aload_n 0, 1), (24, .getfield 33, 3), (27, .iconst 2, 1), (28, .iaload, 1), (29, .ifCond .ne 5, 3), (32, .iconst (-1), 1), (33, .ireturn, 1), (34, .aload_n 0, 1), (35, .invokevirtual 355, 3), (38, .iconst 0, 1), (39, .istore 4, 2), (41, .iconst 0, 1), (42, .istore 5, 2), (44, .iload 5, 2), (46, .iload_n 2, 1), (47, .if_icmp .ge 42, 3), (50, .aload_n 0, 1), (51, .bipush 20, 2), (53, .iload_n 3, 1), (54, .iload 5, 2), (56, .iadd, 1), (57, .invokevirtual 395, 3), (60, .pop, 1), (61, .iload 4, 2), (63, .aload_n 0, 1), (64, .iload_n 1, 1), (65, .invokevirtual 255, 3), (68, .ifCond .eq 7, 3), (71, .iconst 1, 1), (72, .goto 4, 3), (75, .iconst 0, 1), (76, .iadd, 1), (77, .istore 4, 2), (79, .aload_n 0, 1), (80, .invokevirtual 352, 3), (83, .iinc 5 1, 3), (86, .goto (-42), 3), (89, .iload 4, 2), (91, .ireturn, 1)]
def nc_c_X12_bookLine : List (Nat × Instr × Nat) := [(0, .iconst 3, 1), (1, .aload_n 0, 1), (2, .getfield 398, 3), (5, .imul, 1), (6, .istore_n 1, 1), (7, .aload_n 0, 1), (8, .ldc2_w 107, 3), (11, .invokevirtual 199, 3), (14, .istore_n 2, 1), (15, .aload_n 0, 1), (16, .ldc2_w 109, 3), (19, .invokevirtual 199, 3), (22, .istore_n 3, 1), (23, .iload_n 2, 1), (24, .ifCond .ne 23, 3), (27, .iload_n 3, 1), (28, .ifCond .ne 19, 3), (31, .aload_n 0, 1), (32, .iconst 4, 1), (33, .aload_n 0, 1), (34, .getfield 33, 3), (37, .iconst 1, 1), (38, .iaload, 1), (39, .invokevirtual 196, 3), (42, .ifCond .ne 5, 3), (45, .iconst 0, 1), (46, .ireturn, 1), (47, .aload_n 0, 1), (48, .getfield 398, 3), (51, .bipush 40, 2), (53, .if_icmp .ne 9, 3), (56, .aload_n 0, 1), (57, .iconst 4, 1), (58, .invokevirtual 171, 3), (61, .ireturn, 1), (62, .aload_n 0, 1), (63, .getfield 40, 3), (66, .iload_n 1, 1), (67, .iload_n 2, 1), (68, .ifCond .eq 7, 3), (71, .iconst 1, 1), (72, .goto 12, 3), (75, .iload_n 3, 1), (76, .ifCond .eq 7, 3), (79, .iconst 2, 1), (80, .goto 4, 3), (83, .iconst 0, 1), (84, .iastore, 1), (85, .aload_n 0, 1), (86, .getfield 40, 3), (89, .iload_n 1, 1), (90, .iconst 1, 1), (91, .iadd, 1), (92, .aload_n 0, 1), (93, .getfield 181, 3), (96, .iastore, 1), (97, .aload_n 0, 1), (98, .invokevirtual 174, 3), (101, .iload_n 3, 1), (102, .ifCond .eq 29, 3), (105, .aload_n 0, 1), (106, .iconst 1, 1), (107, .bipush 60, 2), (109, .invokevirtual 184, 3), (112, .ifCond .ne 5, 3), (115, .iconst 0, 1), (116, .ireturn, 1), (117, .aload_n 0, 1), (118, .getfield 40, 3), (121, .iload_n 1, 1), (122, .iconst 1, 1), (123, .iadd, 1), (124, .aload_n 0, 1), (125, .getfield 181, 3), (128, .iastore, 1), (129, .iconst 1, 1), (130, .ireturn, 1), (131, .iload_n 2, 1), (132, .ifCond .ne 23, 3), (135, .aload_n 0, 1), (136, .ldc2_w 105, 3), (139, .invokevirtual 199, 3), (142, .ifCond .ne 9, 3), (145, .aload_n 0, 1), (146, .iconst 1, 1), (147, .invokevirtual 171, 3), (150, .ireturn, 1), (151, .aload_n 0, 1), (152, .invokevirtual 174, 3), (155, .aload_n 0, 1), (156, .bipush 12, 2), (158, .aload_n 0, 1), (159, .getfield 33, 3), (162, .iconst 2, 1), (163, .iaload, 1), (164, .invokevirtual 206, 3), (167, .ifCond .ne 5, 3), (170, .iconst 0, 1), (171, .ireturn, 1), (172, .aload_n 0, 1), (173, .getfield 40, 3), (176, .iload_n 1, 1), (177, .iconst 2, 1), (178, .iadd, 1), (179, .aload_n 0, 1), (180, .getfield 181, 3), (183, .iastore, 1), (184, .iconst 1, 1), (185, .ireturn, 1)]
def nc_c_X12_does : List (Nat × Instr × Nat) := [(0, .iload_n 1, 1), (1, .iconst 2, 1), (2, .if_icmp .ne 29, 3), (5, .aload_n 0, 1), (6, .getfield 33, 3), (9, .bipush 76, 2), (11, .iaload, 1), (12, .iload_n 2, 1), (13, .iadd, 1), (14, .sipush 400, 3), (17, .if_icmp .le 6, 3), (20, .bipush 21, 2), (22, .ireturn, 1), (23, .aload_n 0, 1), (24, .iload_n 2, 1), (25, .invokevirtual 328, 3), (28, .pop, 1), (29, .iconst 0, 1), (30, .ireturn, 1), (31, .iload_n 1, 1), (32, .ifCond .ne 12, 3), (35, .aload_n 0, 1), (36, .iload_n 2, 1), (37, .iload_n 3, 1), (38, .invokevirtual 313, 3), (41, .goto 8, 3), (44, .aload_n 0, 1), (45, .iload_n 3, 1), (46, .invokevirtual 322, 3), (49, .istore 4, 2), (51, .iload 4, 2), (53, .ifCond .le 11, 3), (56, .bipush 10, 2), (58, .iload_n 1, 1), (59, .imul, 1), (60, .iload 4, 2), (62, .iadd, 1), (63, .ireturn, 1), (64, .iload_n 1, 1), (65, .ifCond .ne 12, 3), (68, .aload_n 0, 1), (69, .iload_n 2, 1), (70, .iload_n 3, 1), (71, .invokevirtual 319, 3), (74, .goto 8, 3), (77, .aload_n 0, 1), (78, .iload_n 3, 1), (79, .invokevirtual 325, 3), (82, .iconst 0, 1), (83, .ireturn, 1)]
def nc_c_X12_book : List (Nat × Instr × Nat) := [(0, .aload_n 0, 1), (1, .iconst 0, 1), (2, .putfield 1, 3), (5, .iload_n 1, 1), (6, .iconst 0, 1), (7, .iconst 1, 1), (8, .invokestatic 177, 3), (11, .ifCond .ne 7, 3), (14, .sipush (-1000), 3), (17, .ireturn, 1), (18, .aload_n 0, 1), (19, .sipush 400, 3), (22, .invokevirtual 225, 3), (25, .aload_n 0, 1), (26, .iconst 0, 1), (27, .putfield 162, 3), (30, .aload_n 0, 1), (31, .iconst 0, 1), (32, .putfield 398, 3), (35, .aload_n 0, 1), (36, .invokevirtual 174, 3), (39, .aload_n 0, 1), (40, .getfield 145, 3), (43, .ifCond .eq 40, 3), (46, .aload_n 0, 1), (47, .invokevirtual 401, 3), (50, .ifCond .eq 12, 3), (53, .aload_n 0, 1), (54, .bipush 59, 2), (56, .invokevirtual 234, 3), (59, .ifCond .ne 11, 3), (62, .bipush (-2), 2), (64, .aload_n 0, 1), (65, .getfield 165, 3), (68, .isub, 1), (69, .ireturn, 1), (70, .aload_n 0, 1), (71, .dup, 1), (72, .getfield 398, 3), (75, .iconst 1, 1), (76, .iadd, 1), (77, .putfield 398, 3), (80, .goto (-41), 3), (83, .aload_n 0, 1), (84, .invokevirtual 355, 3), (87, .iconst 0, 1), (88, .istore_n 2, 1), (89, .iload_n 2, 1), (90, .iconst 4, 1), (91, .if_icmp .ge 16, 3), (94, .aload_n 0, 1), (95, .getfield 68, 3), (98, .iload_n 2, 1), (99, .iconst 0, 1), (100, .iastore, 1), (101, .iinc 2 1, 3), (104, .goto (-15), 3), (107, .iconst (-1), 1), (108, .istore_n 2, 1), (109, .iconst 0, 1), (110, .istore_n 3, 1), (111, .iload_n 3, 1), (112, .aload_n 0, 1), (113, .getfield 398, 3), (116, .if_icmp .ge 75, 3), (119, .iload_n 2, 1), (120, .ifCond .ge 71, 3), (123, .aload_n 0, 1), (124, .getfield 68, 3), (127, .iconst 0, 1), (128, .aload_n 0, 1), (129, .aload_n 0, 1), (130, .getfield 40, 3), (133, .iconst 3, 1), (134, .iload_n 3, 1), (135, .imul, 1), (136, .iaload, 1), (137, .aload_n 0, 1), (138, .getfield 40, 3), (141, .iconst 3, 1), (142, .iload_n 3, 1), (143, .imul, 1), (144, .iconst 1, 1), (145, .iadd, 1), (146, .iaload, 1), (147, .aload_n 0, 1), (148, .getfield 40, 3), (151, .iconst 3, 1), (152, .iload_n 3, 1), (153, .imul, 1), (154, .iconst 2, 1), (155, .iadd, 1), (156, .iaload, 1), (157, .invokevirtual 404, 3), (160, .iastore, 1), (161, .aload_n 0, 1), (162, .getfield 68, 3), (165, .iconst 0, 1), (166, .iaload, 1), (167, .ifCond .le 8, 3), (170, .iload_n 3, 1), (171, .istore_n 2, 1), (172, .goto 13, 3), (175, .aload_n 0, 1), (176, .getfield 68, 3), (179, .iconst 1, 1), (180, .dup2, 1), (181, .iaload, 1), (182, .iconst 1, 1), (183, .iadd, 1), (184, .iastore, 1), (185, .iinc 3 1, 3), (188, .goto (-77), 3), (191, .aload_n 0, 1), (192, .getfield 68, 3), (195, .iconst 2, 1), (196, .aload_n 0, 1), (197, .getfield 33, 3), (200, .bipush 76, 2), (202, .iaload, 1), (203, .iastore, 1), (204, .aload_n 0, 1), (205, .getfield 68, 3), (208, .iconst 3, 1), (209, .aload_n 0, 1), (210, .getfield 33, 3), (213, .bipush 77, 2), (215, .iaload, 1), (216, .iastore, 1), (217, .aload_n 0, 1), (218, .iconst 1, 1), (219, .putfield 407, 3), (222, .iload_n 1, 1), (223, .iconst 1, 1), (224, .if_icmp .ne 54, 3), (227, .aload_n 0, 1), (228, .getfield 68, 3), (231, .iconst 1, 1), (232, .iaload, 1), (233, .ifCond .le 45, 3), (236, .aload_n 0, 1), (237, .invokevirtual 316, 3), (240, .iconst 0, 1), (241, .istore_n 3, 1), (242, .iload_n 3, 1), (243, .sipush 256, 3), (246, .if_icmp .ge 32, 3), (249, .aload_n 0, 1), (250, .getfield 53, 3), (253, .sipush 256, 3), (256, .aload_n 0, 1), (257, .getfield 237, 3), (260, .iconst 1, 1), (261, .isub, 1), (262, .imul, 1), (263, .iload_n 3, 1), (264, .iadd, 1), (265, .aload_n 0, 1), (266, .getfield 56, 3), (269, .iload_n 3, 1), (270, .iaload, 1), (271, .iastore, 1), (272, .iinc 3 1, 3), (275, .goto (-33), 3), (278, .iload_n 1, 1), (279, .ifCond .ne 7, 3), (282, .aload_n 0, 1), (283, .invokevirtual 352, 3), (286, .iload_n 2, 1), (287, .ireturn, 1)]
def nc_c_X12_written : List (Nat × Instr × Nat) := [(0, .aload_n 0, 1), (1, .iconst 0, 1), (2, .putfield 1, 3), (5, .aload_n 0, 1), (6, .getfield 407, 3), (9, .ifCond .eq 21, 3), (12, .iload_n 1, 1), (13, .iconst 0, 1), (14, .iconst 3, 1), (15, .invokestatic 177, 3), (18, .ifCond .eq 12, 3), (21, .aload_n 0, 1), (22, .getfield 68, 3), (25, .iload_n 1, 1), (26, .iaload, 1), (27, .goto 4, 3), (30, .iconst (-1), 1), (31, .ireturn, 1)]
def nc_c_X12_joins : List (Nat × Instr × Nat) := [(0, .aload_n 0, 1), (1, .getfield 413, 3), (4, .ifCond .le 69, 3), (7, .aload_n 0, 1), (8, .getfield 71, 3), (11, .aload_n 0, 1), (12, .getfield 413, 3), (15, .iconst 1, 1), (16, .isub, 1), (17, .iaload, 1), (18, .bipush 21, 2), (20, .if_icmp .eq 25, 3), (23, .aload_n 0, 1), (24, .getfield 71, 3), (27, .aload_n 0, 1), (28, .getfield 413, 3), (31, .iconst 1, 1), (32, .isub, 1), (33, .iaload, 1), (34, .bipush 22, 2), (36, .if_icmp .ne 37, 3), (39, .iload_n 1, 1), (40, .bipush 22, 2), (42, .if_icmp .ne 31, 3), (45, .aload_n 0, 1), (46, .dup, 1), (47, .getfield 413, 3), (50, .iconst 1, 1), (51, .isub, 1), (52, .putfield 413, 3), (55, .aload_n 0, 1), (56, .aload_n 0, 1), (57, .getfield 71, 3), (60, .aload_n 0, 1), (61, .getfield 413, 3), (64, .iaload, 1), (65, .iconst 0, 1), (66, .iconst 0, 1), (67, .invokevirtual 416, 3), (70, .goto (-70), 3), (73, .return_, 1)]
def nc_c_X12_nots : List (Nat × Instr × Nat) := [(0, .aload_n 0, 1), (1, .getfield 413, 3), (4, .ifCond .le 50, 3), (7, .aload_n 0, 1), (8, .getfield 71, 3), (11, .aload_n 0, 1), (12, .getfield 413, 3), (15, .iconst 1, 1), (16, .isub, 1), (17, .iaload, 1), (18, .bipush 20, 2), (20, .if_icmp .ne 34, 3), (23, .aload_n 0, 1), (24, .dup, 1), (25, .getfield 413, 3), (28, .iconst 1, 1), (29, .isub, 1), (30, .putfield 413, 3), (33, .aload_n 0, 1), (34, .dup, 1), (35, .getfield 420, 3), (38, .iconst 1, 1), (39, .isub, 1), (40, .putfield 420, 3), (43, .aload_n 0, 1), (44, .bipush 20, 2), (46, .iconst 0, 1), (47, .iconst 0, 1), (48, .invokevirtual 416, 3), (51, .goto (-51), 3), (54, .return_, 1)]
def nc_c_X12_leafOf : List (Nat × Instr × Nat) := [(0, .aload_n 0, 1), (1, .ldc2_w 117, 3), (4, .invokevirtual 199, 3), (7, .ifCond .eq 7, 3), (10, .iconst 0, 1), (11, .goto 119, 3), (14, .aload_n 0, 1), (15, .ldc2_w 119, 3), (18, .invokevirtual 199, 3), (21, .ifCond .eq 7, 3), (24, .iconst 1, 1), (25, .goto 105, 3), (28, .aload_n 0, 1), (29, .ldc2_w 121, 3), (32, .invokevirtual 199, 3), (35, .ifCond .eq 7, 3), (38, .iconst 2, 1), (39, .goto 91, 3), (42, .aload_n 0, 1), (43, .ldc2_w 123, 3), (46, .invokevirtual 199, 3), (49, .ifCond .eq 7, 3), (52, .iconst 3, 1), (53, .goto 77, 3), (56, .aload_n 0, 1), (57, .ldc2_w 125, 3), (60, .invokevirtual 199, 3), (63, .ifCond .eq 7, 3), (66, .iconst 4, 1), (67, .goto 63, 3), (70, .aload_n 0, 1), (71, .ldc2_w 127, 3), (74, .invokevirtual 199, 3), (77, .ifCond .eq 7, 3), (80, .iconst 5, 1), (81, .goto 49, 3), (84, .aload_n 0, 1), (85, .ldc2_w 129, 3), (88, .invokevirtual 199, 3), (91, .ifCond .eq 8, 3), (94, .bipush 6, 2), (96, .goto 34, 3), (99, .aload_n 0, 1), (100, .ldc2_w 131, 3), (103, .invokevirtual 199, 3), (106, .ifCond .eq 8, 3), (109, .bipush 7, 2), (111, .goto 19, 3), (114, .aload_n 0, 1), (115, .ldc2_w 133, 3), (118, .invokevirtual 199, 3), (121, .ifCond .eq 8, 3), (124, .bipush 8, 2), (126, .goto 4, 3), (129, .iconst (-1), 1), (130, .ireturn, 1)]
def nc_c_X12_operand : List (Nat × Instr × Nat) := [(0, .aload_n 0, 1), (1, .ldc2_w 115, 3), (4, .invokevirtual 199, 3), (7, .istore_n 1, 1), (8, .aload_n 0, 1), (9, .bipush 40, 2), (11, .invokevirtual 168, 3), (14, .istore_n 2, 1), (15, .aload_n 0, 1), (16, .invokevirtual 423, 3), (19, .istore_n 3, 1), (20, .iload_n 1, 1), (21, .ifCond .ne 17, 3), (24, .iload_n 2, 1), (25, .ifCond .ne 13, 3), (28, .iload_n 3, 1), (29, .ifCond .ge 9, 3), (32, .aload_n 0, 1), (33, .iconst 1, 1), (34, .invokevirtual 171, 3), (37, .ireturn, 1), (38, .aload_n 0, 1), (39, .getfield 426, 3), (42, .bipush 20, 2), (44, .if_icmp .eq 12, 3), (47, .aload_n 0, 1), (48, .getfield 420, 3), (51, .bipush 8, 2), (53, .if_icmp .le 9, 3), (56, .aload_n 0, 1), (57, .iconst 4, 1), (58, .invokevirtual 171, 3), (61, .ireturn, 1), (62, .aload_n 0, 1), (63, .dup, 1), (64, .getfield 426, 3), (67, .iconst 1, 1), (68, .iadd, 1), (69, .putfield 426, 3), (72, .aload_n 0, 1), (73, .invokevirtual 174, 3), (76, .iload_n 1, 1), (77, .ifCond .ne 7, 3), (80, .iload_n 2, 1), (81, .ifCond .eq 45, 3), (84, .aload_n 0, 1), (85, .getfield 71, 3), (88, .aload_n 0, 1), (89, .getfield 413, 3), (92, .iload_n 1, 1), (93, .ifCond .eq 8, 3), (96, .bipush 20, 2), (98, .goto 5, 3), (101, .bipush 23, 2), (103, .iastore, 1), (104, .aload_n 0, 1), (105, .dup, 1), (106, .getfield 413, 3), (109, .iconst 1, 1), (110, .iadd, 1), (111, .putfield 413, 3), (114, .aload_n 0, 1), (115, .dup, 1), (116, .getfield 420, 3), (119, .iconst 1, 1), (120, .iadd, 1), (121, .putfield 420, 3), (124, .iconst 1, 1), (125, .ireturn, 1), (126, .aload_n 0, 1), (127, .iconst 1, 1), (128, .putfield 429, 3), (131, .iload_n 3, 1), (132, .iconst 2, 1), (133, .if_icmp .ge 12, 3), (136, .aload_n 0, 1), (137, .iload_n 3, 1), (138, .iconst 0, 1), (139, .iconst 0, 1), (140, .invokevirtual 416, 3), (143, .iconst 1, 1), (144, .ireturn, 1), (145, .iload_n 3, 1), (146, .iconst 5, 1), (147, .if_icmp .ge 54, 3), (150, .aload_n 0, 1), (151, .iload_n 3, 1), (152, .iconst 2, 1), (153, .if_icmp .ne 7, 3), (156, .iconst 0, 1), (157, .goto 5, 3), (160, .bipush 12, 2), (162, .aload_n 0, 1), (163, .getfield 33, 3), (166, .iload_n 3, 1), (167, .iconst 2, 1), (168, .if_icmp .ne 7, 3), (171, .iconst 0, 1), (172, .goto 4, 3), (175, .iconst 2, 1), (176, .iaload, 1), (177, .invokevirtual 196, 3), (180, .ifCond .ne 5, 3), (183, .iconst 0, 1), (184, .ireturn, 1), (185, .aload_n 0, 1), (186, .iload_n 3, 1), (187, .iconst 0, 1), (188, .aload_n 0, 1), (189, .getfield 181, 3), (192, .invokevirtual 416, 3), (195, .aload_n 0, 1), (196, .invokevirtual 174, 3), (199, .iconst 1, 1), (200, .ireturn, 1), (201, .aload_n 0, 1), (202, .getfield 145, 3), (205, .iconst 3, 1), (206, .if_icmp .ne 21, 3), (209, .aload_n 0, 1), (210, .getfield 155, 3), (213, .bipush 60, 2), (215, .if_icmp .lt 12, 3), (218, .aload_n 0, 1), (219, .getfield 155, 3), (222, .bipush 62, 2), (224, .if_icmp .le 9, 3), (227, .aload_n 0, 1), (228, .iconst 1, 1), (229, .invokevirtual 171, 3), (232, .ireturn, 1), (233, .aload_n 0, 1), (234, .getfield 155, 3), (237, .istore 4, 2), (239, .aload_n 0, 1), (240, .invokevirtual 174, 3), (243, .aload_n 0, 1), (244, .getfield 145, 3), (247, .iconst 2, 1), (248, .if_icmp .eq 9, 3), (251, .aload_n 0, 1), (252, .iconst 1, 1), (253, .invokevirtual 171, 3), (256, .ireturn, 1), (257, .aload_n 0, 1), (258, .iload_n 3, 1), (259, .iload 4, 2), (261, .aload_n 0, 1), (262, .getfield 155, 3), (265, .invokevirtual 416, 3), (268, .aload_n 0, 1), (269, .invokevirtual 174, 3), (272, .iconst 1, 1), (273, .ireturn, 1)]
def nc_c_X12_behind : List (Nat × Instr × Nat) := [(0, .aload_n 0, 1), (1, .invokevirtual 432, 3), (4, .aload_n 0, 1), (5, .ldc2_w 113, 3), (8, .invokevirtual 199, 3), (11, .ifCond .ne 13, 3), (14, .aload_n 0, 1), (15, .ldc2_w 111, 3), (18, .invokevirtual 199, 3), (21, .ifCond .eq 71, 3), (24, .aload_n 0, 1), (25, .aload_n 0, 1), (26, .ldc2_w 113, 3), (29, .invokevirtual 199, 3), (32, .ifCond .eq 8, 3), (35, .bipush 21, 2), (37, .goto 5, 3), (40, .bipush 22, 2), (42, .invokevirtual 435, 3), (45, .aload_n 0, 1), (46, .getfield 71, 3), (49, .aload_n 0, 1), (50, .getfield 413, 3), (53, .aload_n 0, 1), (54, .ldc2_w 113, 3), (57, .invokevirtual 199, 3), (60, .ifCond .eq 8, 3), (63, .bipush 21, 2), (65, .goto 5, 3), (68, .bipush 22, 2), (70, .iastore, 1), (71, .aload_n 0, 1), (72, .dup, 1), (73, .getfield 413, 3), (76, .iconst 1, 1), (77, .iadd, 1), (78, .putfield 413, 3), (81, .aload_n 0, 1), (82, .iconst 0, 1), (83, .putfield 429, 3), (86, .aload_n 0, 1), (87, .invokevirtual 174, 3), (90, .iconst 1, 1), (91, .ireturn, 1), (92, .aload_n 0, 1), (93, .bipush 22, 2), (95, .invokevirtual 435, 3), (98, .aload_n 0, 1), (99, .bipush 41, 2), (101, .invokevirtual 168, 3), (104, .ifCond .eq 10, 3), (107, .aload_n 0, 1), (108, .getfield 413, 3), (111, .ifCond .ne 9, 3), (114, .aload_n 0, 1), (115, .iconst 1, 1), (116, .invokevirtual 171, 3), (119, .ireturn, 1), (120, .aload_n 0, 1), (121, .dup, 1), (122, .getfield 413, 3), (125, .iconst 1, 1), (126, .isub, 1), (127, .putfield 413, 3), (130, .aload_n 0, 1), (131, .dup, 1), (132, .getfield 420, 3), (135, .iconst 1, 1), (136, .isub, 1), (137, .putfield 420, 3), (140, .aload_n 0, 1), (141, .invokevirtual 174, 3), (144, .iconst 1, 1), (145, .ireturn, 1)]
def nc_c_X12_sentence : List (Nat × Instr × Nat) := [(0, .aload_n 0, 1), (1, .iconst 0, 1), (2, .putfield 1, 3), (5, .aload_n 0, 1), (6, .sipush 200, 3), (9, .invokevirtual 225, 3), (12, .aload_n 0, 1), (13, .iconst 0, 1), (14, .putfield 162, 3), (17, .aload_n 0, 1), (18, .iconst 0, 1), (19, .putfield 410, 3), (22, .aload_n 0, 1), (23, .iconst 0, 1), (24, .putfield 426, 3), (27, .aload_n 0, 1), (28, .iconst 0, 1), (29, .putfield 413, 3), (32, .aload_n 0, 1), (33, .iconst 1, 1), (34, .putfield 420, 3), (37, .aload_n 0, 1), (38, .iconst 0, 1), (39, .putfield 429, 3), (42, .aload_n 0, 1), (43, .invokevirtual 174, 3), (46, .iconst 1, 1), (47, .istore_n 1, 1), (48, .iload_n 1, 1), (49, .ifCond .eq 83, 3), (52, .aload_n 0, 1), (53, .getfield 429, 3), (56, .ifCond .eq 45, 3), (59, .aload_n 0, 1), (60, .getfield 145, 3), (63, .ifCond .ne 38, 3), (66, .aload_n 0, 1), (67, .invokevirtual 432, 3), (70, .aload_n 0, 1), (71, .bipush 22, 2), (73, .invokevirtual 435, 3), (76, .aload_n 0, 1), (77, .getfield 413, 3), (80, .ifCond .le 16, 3), (83, .aload_n 0, 1), (84, .iconst 1, 1), (85, .invokevirtual 171, 3), (88, .pop, 1), (89, .iconst (-1), 1), (90, .aload_n 0, 1), (91, .getfield 165, 3), (94, .isub, 1), (95, .ireturn, 1), (96, .iconst 0, 1), (97, .istore_n 1, 1), (98, .goto (-50), 3), (101, .aload_n 0, 1), (102, .getfield 429, 3), (105, .ifCond .eq 13, 3), (108, .aload_n 0, 1), (109, .invokevirtual 438, 3), (112, .ifCond .ne (-64), 3), (115, .goto 10, 3), (118, .aload_n 0, 1), (119, .invokevirtual 441, 3), (122, .ifCond .ne (-74), 3), (125, .iconst (-1), 1), (126, .aload_n 0, 1), (127, .getfield 165, 3), (130, .isub, 1), (131, .ireturn, 1), (132, .aload_n 0, 1), (133, .getfield 33, 3), (136, .sipush 332, 3), (139, .aload_n 0, 1), (140, .getfield 410, 3), (143, .iastore, 1), (144, .iconst 0, 1), (145, .istore_n 2, 1), (146, .iload_n 2, 1), (147, .iconst 3, 1), (148, .aload_n 0, 1), (149, .getfield 410, 3), (152, .imul, 1), (153, .if_icmp .ge 25, 3), (156, .aload_n 0, 1), (157, .getfield 33, 3), (160, .sipush 333, 3), (163, .iload_n 2, 1), (164, .iadd, 1), (165, .aload_n 0, 1), (166, .getfield 40, 3), (169, .iload_n 2, 1), (170, .iaload, 1), (171, .iastore, 1), (172, .iinc 2 1, 3), (175, .goto (-29), 3), (178, .aload_n 0, 1), (179, .getfield 426, 3), (182, .ireturn, 1)]
def nc_c_X12_isLeaf : List (Nat × Instr × Nat) := [(0, .iload_n 2, 1), (1, .tableswitch 89 0 4 #[35, 41, 47, 66, 74], 35), (36, .aload_n 0, 1), (37, .iload_n 1, 1), (38, .invokevirtual 255, 3), (41, .ireturn, 1), (42, .aload_n 0, 1), (43, .iload_n 1, 1), (44, .invokevirtual 258, 3), (47, .ireturn, 1), (48, .aload_n 0, 1), (49, .getfield 33, 3), (52, .iconst 5, 1), (53, .iload_n 1, 1), (54, .iadd, 1), (55, .iaload, 1), (56, .iload 4, 2), (58, .if_icmp .ne 7, 3), (61, .iconst 1, 1), (62, .goto 4, 3), (65, .iconst 0, 1), (66, .ireturn, 1), (67, .aload_n 0, 1), (68, .iload_n 1, 1), (69, .iload 4, 2), (71, .invokevirtual 243, 3), (74, .ireturn, 1), (75, .aload_n 0, 1), (76, .getfield 33, 3), (79, .bipush 100, 2), (81, .iload_n 1, 1), (82, .iadd, 1), (83, .iaload, 1), (84, .iload 4, 2), (86, .invokestatic 240, 3), (89, .ireturn, 1), (90, .iload_n 2, 1), (91, .iconst 5, 1), (92, .if_icmp .ne 11, 3), (95, .aload_n 0, 1), (96, .iload_n 1, 1), (97, .invokevirtual 279, 3), (100, .goto 40, 3), (103, .iload_n 2, 1), (104, .bipush 6, 2), (106, .if_icmp .ne 15, 3), (109, .aload_n 0, 1), (110, .getfield 33, 3), (113, .bipush 87, 2), (115, .iload_n 1, 1), (116, .iadd, 1), (117, .iaload, 1), (118, .goto 22, 3), (121, .iload_n 2, 1), (122, .bipush 7, 2), (124, .if_icmp .ne 15, 3), (127, .aload_n 0, 1), (128, .getfield 33, 3), (131, .bipush 79, 2), (133, .iload_n 1, 1), (134, .iadd, 1), (135, .iaload, 1), (136, .goto 4, 3), (139, .iload_n 1, 1), (140, .istore 5, 2), (142, .iload_n 3, 1), (143, .bipush 60, 2), (145, .if_icmp .ne 18, 3), (148, .iload 5, 2), (150, .iload 4, 2), (152, .if_icmp .ge 7, 3), (155, .iconst 1, 1), (156, .goto 40, 3), (159, .iconst 0, 1), (160, .goto 36, 3), (163, .iload_n 3, 1), (164, .bipush 61, 2), (166, .if_icmp .ne 18, 3), (169, .iload 5, 2), (171, .iload 4, 2), (173, .if_icmp .ne 7, 3), (176, .iconst 1, 1), (177, .goto 19, 3), (180, .iconst 0, 1), (181, .goto 15, 3), (184, .iload 5, 2), (186, .iload 4, 2), (188, .if_icmp .le 7, 3), (191, .iconst 1, 1), (192, .goto 4, 3), (195, .iconst 0, 1), (196, .ireturn, 1)]
def nc_c_X12_isSaid : List (Nat × Instr × Nat) := [(0, .iconst 0, 1), (1, .istore_n 2, 1), (2, .iconst 0, 1), (3, .istore_n 3, 1), (4, .iload_n 3, 1), (5, .aload_n 0, 1), (6, .getfield 33, 3), (9, .sipush 332, 3), (12, .iaload, 1), (13, .if_icmp .ge 199, 3), (16, .sipush 333, 3), (19, .iconst 3, 1), (20, .iload_n 3, 1), (21, .imul, 1), (22, .iadd, 1), (23, .istore 4, 2), (25, .aload_n 0, 1), (26, .getfield 33, 3), (29, .iload 4, 2), (31, .iaload, 1), (32, .bipush 20, 2), (34, .if_icmp .ne 30, 3), (37, .aload_n 0, 1), (38, .getfield 74, 3), (41, .iload_n 2, 1), (42, .iconst 1, 1), (43, .isub, 1), (44, .aload_n 0, 1), (45, .getfield 74, 3), (48, .iload_n 2, 1), (49, .iconst 1, 1), (50, .isub, 1), (51, .baload, 1), (52, .ifCond .ne 7, 3), (55, .iconst 1, 1), (56, .goto 4, 3), (59, .iconst 0, 1), (60, .bastore, 1), (61, .goto 145, 3), (64, .aload_n 0, 1), (65, .getfield 33, 3), (68, .iload 4, 2), (70, .iaload, 1), (71, .bipush 21, 2), (73, .if_icmp .eq 15, 3), (76, .aload_n 0, 1), (77, .getfield 33, 3), (80, .iload 4, 2), (82, .iaload, 1), (83, .bipush 22, 2), (85, .if_icmp .ne 82, 3), (88, .iinc 2 (-1), 3), (91, .aload_n 0, 1), (92, .getfield 74, 3), (95, .iload_n 2, 1), (96, .iconst 1, 1), (97, .isub, 1), (98, .aload_n 0, 1), (99, .getfield 33, 3), (102, .iload 4, 2), (104, .iaload, 1), (105, .bipush 21, 2), (107, .if_icmp .ne 31, 3), (110, .aload_n 0, 1), (111, .getfield 74, 3), (114, .iload_n 2, 1), (115, .iconst 1, 1), (116, .isub, 1), (117, .baload, 1), (118, .ifCond .eq 16, 3), (121, .aload_n 0, 1), (122, .getfield 74, 3), (125, .iload_n 2, 1), (126, .baload, 1), (127, .ifCond .eq 7, 3), (130, .iconst 1, 1), (131, .goto 32, 3), (134, .iconst 0, 1), (135, .goto 28, 3), (138, .aload_n 0, 1), (139, .getfield 74, 3), (142, .iload_n 2, 1), (143, .iconst 1, 1), (144, .isub, 1), (145, .baload, 1), (146, .ifCond .ne 12, 3), (149, .aload_n 0, 1), (150, .getfield 74, 3), (153, .iload_n 2, 1), (154, .baload, 1), (155, .ifCond .eq 7, 3), (158, .iconst 1, 1), (159, .goto 4, 3), (162, .iconst 0, 1), (163, .bastore, 1), (164, .goto 42, 3), (167, .aload_n 0, 1), (168, .getfield 74, 3), (171, .iload_n 2, 1), (172, .aload_n 0, 1), (173, .iload_n 1, 1), (174, .aload_n 0, 1), (175, .getfield 33, 3), (178, .iload 4, 2), (180, .iaload, 1), (181, .aload_n 0, 1), (182, .getfield 33, 3), (185, .iload 4, 2), (187, .iconst 1, 1), (188, .iadd, 1), (189, .iaload, 1), (190, .aload_n 0, 1), (191, .getfield 33, 3), (194, .iload 4, 2), (196, .iconst 2, 1), (197, .iadd, 1), (198, .iaload, 1), (199, .invokevirtual 444, 3), (202, .bastore, 1), (203, .iinc 2 1, 3), (206, .iinc 3 1, 3), (209, .goto (-205), 3), (212, .aload_n 0, 1), (213, .getfield 74, 3), (216, .iconst 0, 1), (217, .baload, 1), (218, .ireturn, 1)]
def nc_c_X12_said : List (Nat × Instr × Nat) := [(0, .aload_n 0, 1), (1, .iconst 0, 1), (2, .putfield 1, 3), (5, .aload_n 0, 1), (6, .getfield 33, 3), (9, .sipush 332, 3), (12, .iaload, 1), (13, .ifCond .eq 8, 3), (16, .iload_n 1, 1), (17, .iconst (-1), 1), (18, .if_icmp .ge 5, 3), (21, .iconst (-1), 1), (22, .ireturn, 1), (23, .iconst 0, 1), (24, .istore_n 2, 1), (25, .iconst 0, 1), (26, .istore_n 3, 1), (27, .iload_n 3, 1), (28, .aload_n 0, 1), (29, .getfield 33, 3), (32, .iconst 1, 1), (33, .iaload, 1), (34, .if_icmp .ge 30, 3), (37, .aload_n 0, 1), (38, .iload_n 3, 1), (39, .invokevirtual 448, 3), (42, .ifCond .ne 6, 3), (45, .goto 13, 3), (48, .iload_n 2, 1), (49, .iload_n 1, 1), (50, .if_icmp .ne 5, 3), (53, .iload_n 3, 1), (54, .ireturn, 1), (55, .iinc 2 1, 3), (58, .iinc 3 1, 3), (61, .goto (-34), 3), (64, .iload_n 1, 1), (65, .iconst (-1), 1), (66, .if_icmp .ne 7, 3), (69, .iload_n 2, 1), (70, .goto 4, 3), (73, .iconst (-1), 1), (74, .ireturn, 1)]
def nc_c_X12_image : List (Nat × Instr × Nat) := [(0, .aload_n 0, 1), (1, .iconst 0, 1), (2, .putfield 1, 3), (5, .iload_n 1, 1), (6, .iconst 0, 1), (7, .iconst 1, 1), (8, .invokestatic 177, 3), (11, .ifCond .ne 5, 3), (14, .iconst 0, 1), (15, .ireturn, 1), (16, .iconst 0, 1), (17, .istore_n 2, 1), (18, .iload_n 2, 1), (19, .sipush 513, 3), (22, .if_icmp .ge 27, 3), (25, .aload_n 0, 1), (26, .getfield 78, 3), (29, .sipush 513, 3), (32, .iload_n 1, 1), (33, .imul, 1), (34, .iload_n 2, 1), (35, .iadd, 1), (36, .aload_n 0, 1), (37, .getfield 33, 3), (40, .iload_n 2, 1), (41, .iaload, 1), (42, .iastore, 1), (43, .iinc 2 1, 3), (46, .goto (-28), 3), (49, .iconst 0, 1), (50, .istore_n 2, 1), (51, .iload_n 2, 1), (52, .bipush 22, 2), (54, .if_icmp .ge 26, 3), (57, .aload_n 0, 1), (58, .getfield 81, 3), (61, .bipush 22, 2), (63, .iload_n 1, 1), (64, .imul, 1), (65, .iload_n 2, 1), (66, .iadd, 1), (67, .aload_n 0, 1), (68, .getfield 43, 3), (71, .iload_n 2, 1), (72, .laload, 1), (73, .lastore, 1), (74, .iinc 2 1, 3), (77, .goto (-26), 3), (80, .aload_n 0, 1), (81, .getfield 84, 3), (84, .iload_n 1, 1), (85, .iconst 1, 1), (86, .bastore, 1), (87, .iconst 1, 1), (88, .ireturn, 1)]
def nc_c_X12_restore : List (Nat × Instr × Nat) := [(0, .aload_n 0, 1), (1, .iconst 0, 1), (2, .putfield 1, 3), (5, .iload_n 1, 1), (6, .iconst 0, 1), (7, .iconst 1, 1), (8, .invokestatic 177, 3), (11, .ifCond .eq 12, 3), (14, .aload_n 0, 1), (15, .getfield 84, 3), (18, .iload_n 1, 1), (19, .baload, 1), (20, .ifCond .ne 5, 3), (23, .iconst 0, 1), (24, .ireturn, 1), (25, .iconst 0, 1), (26, .istore_n 2, 1), (27, .iload_n 2, 1), (28, .sipush 513, 3), (31, .if_icmp .ge 27, 3), (34, .aload_n 0, 1), (35, .getfield 33, 3), (38, .iload_n 2, 1), (39, .aload_n 0, 1), (40, .getfield 78, 3), (43, .sipush 513, 3), (46, .iload_n 1, 1), (47, .imul, 1), (48, .iload_n 2, 1), (49, .iadd, 1), (50, .iaload, 1), (51, .iastore, 1), (52, .iinc 2 1, 3), (55, .goto (-28), 3), (58, .iconst 0, 1), (59, .istore_n 2, 1), (60, .iload_n 2, 1), (61, .bipush 22, 2), (63, .if_icmp .ge 26, 3), (66, .aload_n 0, 1), (67, .getfield 43, 3), (70, .iload_n 2, 1), (71, .aload_n 0, 1), (72, .getfield 81, 3), (75, .bipush 22, 2), (77, .iload_n 1, 1), (78, .imul, 1), (79, .iload_n 2, 1), (80, .iadd, 1), (81, .laload, 1), (82, .lastore, 1), (83, .iinc 2 1, 3), (86, .goto (-26), 3), (89, .aload_n 0, 1), (90, .iconst 0, 1), (91, .putfield 237, 3), (94, .iconst 1, 1), (95, .ireturn, 1)]
def nc_c_X12_count : List (Nat × Instr × Nat) := [(0, .aload_n 0, 1), (1, .iconst 0, 1), (2, .putfield 1, 3), (5, .iload_n 1, 1), (6, .iconst 5, 1), (7, .if_icmp .ne 10, 3), (10, .aload_n 0, 1), (11, .getfield 7, 3), (14, .goto 22, 3), (17, .iload_n 1, 1), (18, .iconst 0, 1), (19, .iconst 4, 1), (20, .invokestatic 177, 3), (23, .ifCond .eq 12, 3), (26, .aload_n 0, 1), (27, .getfield 33, 3), (30, .iload_n 1, 1), (31, .iaload, 1), (32, .goto 4, 3), (35, .iconst (-1), 1), (36, .ireturn, 1)]
def nc_code_l : List (List (Nat × Instr × Nat)) := [nc_c_X1_setAfter, nc_c_X1_countNews, nc_c_X2_isLie, nc_c_X2_allCows, nc_c_X2_allNews, nc_c_X2_slotOf, nc_c_X2_hedgesOf, nc_c_X2_comesTo, nc_c_X4_draw, nc_c_X5_clear, nc_c_X7_isDry, nc_c_X7_isCurdled, nc_c_X7_comes, nc_c_X7_addedBy, nc_c_X7_heardByOthers, nc_c_X7_talking, nc_c_X7_forget, nc_c_X7_allPails, nc_c_X7_pailsOn, nc_c_X9_clear, nc_c_X9_put, nc_c_X9_compares, nc_c_X10_withLetter, nc_c_X10_isLetter, nc_c_X10_isDigit, nc_c_X10_append, nc_c_X10_at, nc_c_X10_toldWord, nc_c_X10_add, nc_c_X10_next, nc_c_X10_fail, nc_c_X10_word, nc_c_X10_isSign, nc_c_X11_end, nc_c_X11_fault, nc_c_X11_told, nc_c_X11_planAt, nc_c_X11_parted, nc_c_X11_surely, nc_c_X11_ask, nc_c_X11_written, nc_c_X11_count, nc_c_X11_isFarm, nc_c_X11_isCow, nc_c_X11_isNews, nc_c_X11_cowsWith, nc_c_X12_thrown, nc_c_X12_throwsIf, nc_c_X12_four, nc_c_X12_end, nc_c_X12_taken, nc_c_X12_isIn, nc_c_X12_bitOf, nc_c_X12_greater, nc_c_X12_absolute, nc_c_X12_bits, nc_c_X12_octet, nc_c_X12_peek, nc_c_X12_isSmall, nc_c_X12_isDigit, nc_c_X12_bad, nc_c_X12_isWord, nc_c_X12_isSign, nc_c_X12_isName, nc_c_X12_seek, nc_c_X12_fault, nc_c_X12_knows, nc_c_X12_isCurdled, nc_c_X12_cowsOf, nc_c_X12_talks, nc_c_X12_allPails, nc_c_X12_keep, nc_c_X12_undo, nc_c_X12_tries, nc_c_X12_back, nc_c_X12_peace, nc_c_X12_tellsSet, nc_c_X12_told, nc_c_X12_digit, nc_c_X12_parted, nc_c_X12_surely, nc_c_X12_ask, nc_c_X12_draw, nc_c_X12_code, nc_c_J6_bitCount_0f7a4, nc_c_J7_fill_d0a16, nc_c_J7_fill_53178, nc_c_X10_mustBeSign, nc_c_X2_named, nc_c_X10_nextNumber, nc_c_X9_readPlainOne, nc_c_X7_sumOf, nc_c_X7_whyNotTold, nc_c_X8_weigh, nc_c_X7_milk, nc_c_X8_goLast, nc_c_X7_copyFrom, nc_c_X7_hear, nc_c_X7_allComes, nc_c_X7_talk, nc_c_X7_turn, nc_c_X9_readOne, nc_c_X9_readAll, nc_c_X9_readCond, nc_c_X9_readOne, nc_c_X9_readAll, nc_c_X9_readCond, nc_c_X9_readOne, nc_c_X9_readAll, nc_c_X9_readCond, nc_c_X9_readOne, nc_c_X9_readAll, nc_c_X9_readCond, nc_c_X9_readOne, nc_c_X9_readAll, nc_c_X9_readCond, nc_c_X9_readOne, nc_c_X9_readAll, nc_c_X9_readCond, nc_c_X9_readOne, nc_c_X9_readAll, nc_c_X9_readCond, nc_c_X9_readOne, nc_c_X9_readAll, nc_c_X9_readCond, nc_c_X9_readOne, nc_c_X9_readAll, nc_c_X9_readCond, nc_c_X8_go, nc_c_X8_go, nc_c_X8_go, nc_c_X10_addRun, nc_c_X10_start, nc_c_X10_nextLine, nc_c_X0_readArg, nc_c_X10_closesLine, nc_c_X0_readLine, nc_c_X10_mustEnd, nc_c_X0_read, nc_c_X7_fillPails, nc_c_X7_goDays, nc_c_X7_whyNotFound, nc_c_X7_wouldDoubt, nc_c_X7_wouldDry, nc_c_X7_findOut, nc_c_X0_live, nc_c_X0_judge, nc_c_X1_lookAt, nc_c_X1_milkBy, nc_c_X1_bestOf, nc_c_X1_most, nc_c_X1_mostWithoutLies, nc_c_X1_isLess, nc_c_X1_fewestLies, nc_c_X1_mostEven, nc_c_X1_setsThatGive, nc_c_X2_clear, nc_c_X2_copyFrom, nc_c_X2_nextNewName, nc_c_X2_hasHedge, nc_c_X2_fewestBetween, nc_c_X3_readFarm, nc_c_X3_readCow, nc_c_X3_readNews, nc_c_X3_readHedge, nc_c_X3_readHears, nc_c_X3_readLine, nc_c_X3_read, nc_c_X4_tellAndFind, nc_c_X5_keep, nc_c_X5_takeBack, nc_c_X7_clear, nc_c_X8_seek, nc_c_X9_copyFrom, nc_c_X9_read, nc_c_X9_isSo, nc_c_X9_holds, nc_c_X11_feed, nc_c_X11_dairy, nc_c_X11_cow, nc_c_X11_news, nc_c_X11_milkOfFarm, nc_c_X11_farm, nc_c_X11_now, nc_c_X11_why, nc_c_X11_tell, nc_c_X11_find, nc_c_X11_days, nc_c_X11_undo, nc_c_X11_canBeTold, nc_c_X11_best, nc_c_X11_least, nc_c_X11_honest, nc_c_X11_plan, nc_c_X11_allKnow, nc_c_X11_part, nc_c_X11_tasted, nc_c_X11_dries, nc_c_X11_fits, nc_c_X11_week, nc_c_X11_pails, nc_c_X11_ahead, nc_c_X11_drawn, nc_c_X11_driesByDraws, nc_c_X11_odds, nc_c_X11_book, nc_c_X11_sentence, nc_c_X11_said, nc_c_X11_image, nc_c_X11_restore, nc_c_X12_feed, nc_c_X12_next, nc_c_X12_sign, nc_c_X12_takes, nc_c_X12_puts, nc_c_X12_fresh, nc_c_X12_looksAt, nc_c_X12_takesName, nc_c_X12_kindOf, nc_c_X12_readNews, nc_c_X12_readHedge, nc_c_X12_line, nc_c_X12_dairy, nc_c_X12_isFarm, nc_c_X12_isCow, nc_c_X12_isNews, nc_c_X12_isDry, nc_c_X12_isLie, nc_c_X12_known, nc_c_X12_hasOther, nc_c_X12_milkBy, nc_c_X12_milkWith, nc_c_X12_milk, nc_c_X12_cow, nc_c_X12_news, nc_c_X12_milkOf, nc_c_X12_farm, nc_c_X12_now, nc_c_X12_whyTell, nc_c_X12_tells, nc_c_X12_whyFind, nc_c_X12_driedBy, nc_c_X12_finds, nc_c_X12_comesTo, nc_c_X12_day, nc_c_X12_goesOn, nc_c_X12_tell, nc_c_X12_find, nc_c_X12_days, nc_c_X12_why, nc_c_X12_mayHear, nc_c_X12_bestOf, nc_c_X12_best, nc_c_X12_least, nc_c_X12_honest, nc_c_X12_planned, nc_c_X12_plan, nc_c_X12_planAt, nc_c_X12_allKnow, nc_c_X12_comes, nc_c_X12_part, nc_c_X12_tasted, nc_c_X12_dries, nc_c_X12_isPast, nc_c_X12_week, nc_c_X12_pails, nc_c_X12_ahead, nc_c_X12_draws, nc_c_X12_drawn, nc_c_X12_odds, nc_c_X12_bookLine, nc_c_X12_does, nc_c_X12_book, nc_c_X12_written, nc_c_X12_joins, nc_c_X12_nots, nc_c_X12_leafOf, nc_c_X12_operand, nc_c_X12_behind, nc_c_X12_sentence, nc_c_X12_isLeaf, nc_c_X12_isSaid, nc_c_X12_said, nc_c_X12_image, nc_c_X12_restore, nc_c_X12_count]
def nc_code (M : Nat) : List (Nat × Instr × Nat) := (nc_code_l[M]?).getD []
def nc_ins (M pc : Nat) : Option Instr := nc_look none pc ((nc_code M).map fun q => (q.1, some q.2.1))
def nc_cut_l : List (List (Nat × List Bool)) := [[], [(2, [true, true, true])], [], [], [], [(2, [true, true, false, true])], [(4, [true, true, true, true])], [(8, [true, false, true, true, true, true, false, false]), (20, [true, false, true, true, true, true, true, false])], [], [], [], [], [], [(27, [true, true, true, true, false])], [(4, [true, true, true, true])], [(4, [true, true, true, false])], [(2, [true, true, true])], [(4, [true, true, true])], [], [], [], [], [], [], [], [(3, [true, true, true])], [], [(2, [true, true, false, true])], [], [], [], [], [], [], [], [], [], [], [], [], [], [], [], [], [], [(5, [true, true, true, true, true])], [], [], [(3, [true, true, true])], [], [], [], [], [], [], [(4, [false, true, true])], [], [], [], [], [], [], [], [(16, [true, true, true])], [(2, [true, true, true, true])], [], [], [], [(4, [true, true, true, true])], [], [], [(11, [true, true]), (48, [true, true])], [(26, [true, true])], [(2, [true, true])], [(2, [true, true])], [(4, [true, true, true])], [], [], [(6, [true, false, false, true, true, true])], [], [], [], [], [], [], [(6, [true, true, false, true, true])], [(5, [true, true, true, true])], [], [], [], [], [(19, [true, true, true, true, true])], [], [], [], [(40, [true, true, true, true, true, true, true, true, true, false, false])], [], [], [(2, [true, true, true, true])], [(28, [true, true, true]), (70, [true, true, true]), (160, [true, false, true])], [(12, [true, true])], [], [(15, [true, true, true, true, true])], [(15, [true, true, true, true, true])], [], [(15, [true, true, true, true, true])], [(15, [true, true, true, true, true])], [], [(15, [true, true, true, true, true])], [(15, [true, true, true, true, true])], [], [(15, [true, true, true, true, true])], [(15, [true, true, true, true, true])], [], [(15, [true, true, true, true, true])], [(15, [true, true, true, true, true])], [], [(15, [true, true, true, true, true])], [(15, [true, true, true, true, true])], [], [(15, [true, true, true, true, true])], [(15, [true, true, true, true, true])], [], [(15, [true, true, true, true, true])], [(15, [true, true, true, true, true])], [], [(15, [true, true, true, true, true])], [(15, [true, true, true, true, true])], [(46, [true, true, true, true, true, true, true, false, false]), (75, [true, true, true, true, true, true, true, false, false])], [(46, [true, true, true, true, true, true, true, false, false]), (75, [true, true, true, true, true, true, true, false, false])], [(46, [true, true, true, true, true, true, true, false, false]), (75, [true, true, true, true, true, true, true, false, false])], [(13, [true, true, true, true, true, true, false, true])], [(51, [true, false, true, true, true, false])], [], [], [], [(21, [true, true, true, true, false, false, false])], [], [(14, [true, true, true, true])], [(12, [true, true, true, false, false]), (34, [true, true, true, false, false])], [(7, [true, true, true, true])], [], [], [(4, [true, true, true, true])], [(8, [true, true, true, true])], [], [(17, [true, true, true])], [(89, [true, true, true, true, false, false]), (123, [true, true, true, true, true, true])], [], [(15, [true, true, true, true, true, true, false, false])], [], [], [], [(37, [true, false, true, true, true, true, true, true])], [(7, [true, true, true, true, true, false])], [(41, [true, false, true, true, true, true, true, true])], [], [], [], [], [(12, [true, true, true, true, true])], [], [], [], [], [], [], [(24, [true, true])], [(15, [true, true, true, true, false])], [], [], [], [], [], [], [], [(5, [true, true, true, true, true, false])], [], [], [], [], [(4, [true, true, true, true])], [], [], [], [], [], [], [], [], [], [], [], [], [(33, [true, true, true, false])], [], [], [], [(3, [true, true, true, true, true])], [(52, [true, true, true, true])], [], [], [(66, [true, true, false, true, true])], [(2, [true, true, true])], [(37, [true, true, true, true, true, true])], [], [], [(16, [true, true, true, true])], [], [], [], [(0, [true, false, false, false]), (80, [true, false, false, false]), (181, [true, false, true, true]), (201, [true, false, true, true]), (220, [true, false, true, false])], [], [], [], [], [], [], [], [], [(67, [true, true, true, true, true])], [], [(29, [true, true]), (59, [true, false]), (104, [true, true]), (141, [true, true])], [], [], [], [], [], [(4, [true, true, true, true])], [(5, [true, true, true, true, true])], [(14, [true, true, true, true, true, true, false, false]), (90, [true, true, true, true, true, true, true, false]), (91, [true, true, true, true, true, true, true, false]), (116, [true, true, true, true, true, true, true, true])], [(20, [true, true, true, true])], [], [], [(23, [true, true, true, true, true, true])], [(4, [true, true, true, true])], [(36, [true, true, true, true, true])], [(9, [true, true, true, true])], [], [], [], [(4, [true, true, true, true])], [(8, [true, true, true, true])], [(5, [true, true, true, true, true, false]), (52, [true, false, true, true, true, false]), (82, [true, false, true, true, true, true])], [(2, [true, true]), (66, [true, true]), (112, [true, true]), (185, [true, true])], [(2, [true, true, true])], [], [], [], [], [], [(5, [true, true, true, true, true, false, false])], [], [(45, [true, true, true, true, true, true, false])], [], [(9, [true, true, true, true, true, true, true, false])], [(44, [true, true, true, true, true, false, false, false]), (80, [true, true, true, true, true, true, true, false]), (128, [true, false, true, false, true, true, true, false])], [], [(32, [true, true, true, true, false, false]), (58, [true, true, true, true, true, true])], [(8, [true, false, true, true, true, true, false]), (17, [true, false, true, true, true, true, true])], [(45, [true, true, true, true, true, true])], [(54, [true, true, true, true, true, false]), (78, [true, true, true, true, true, false]), (130, [true, true, true, true, true, true]), (202, [true, false, true, false, true, false])], [], [], [(50, [true, true, true, false, false]), (71, [true, true, true, true, true])], [], [], [(7, [true, true, false, true, false, false]), (28, [true, true, false, true, true, false])], [], [(44, [true, true, true, true, true, true])], [(47, [true, true, true, true]), (84, [true, true, true, true])], [], [(39, [true, true, false, false]), (89, [true, true, true, false]), (111, [true, true, true, true]), (242, [true, true, true, true])], [], [(0, [true, true])], [(0, [true])], [], [(38, [true, true, true, true, false])], [], [(48, [true, true, false]), (146, [true, false, true])], [], [(4, [true, true, true, true, false]), (88, [true, true, true, true, true])], [(27, [true, true, true, true])], [(18, [true, true, true]), (51, [true, true, true])], [(27, [true, true, true]), (60, [true, true, true])], []]
def nc_cut (M : Nat) : List (Nat × List Bool) := (nc_cut_l[M]?).getD []
def nc_trim (M pc : Nat) (l : nc_L) : nc_L := nc_mask (nc_look [] pc (nc_cut M)) l
def nc_fkT : List (List Nat) := [[2, 2, 2, 0, 3, 0, 0, 0, 0], [2, 2, 2, 2, 0, 0, 0, 3, 0, 0, 0], [0, 0, 0, 0, 0, 0, 0, 0, 2, 2, 2, 2, 2, 2, 2, 2, 2, 2, 2], [2, 2, 3], [0], [2, 0, 0], [3, 2, 2, 2], [2, 0, 0, 0, 0, 2, 2, 2, 2, 2, 2, 2, 2, 2, 2, 2, 2], [2, 2, 2, 2, 2, 0, 0], [2, 2, 2, 0, 0], [2, 0, 2, 2, 2, 2, 2, 0, 0, 3, 0, 0, 0, 1, 0, 0], [2, 2, 2, 2, 2, 2, 2, 2, 2, 2, 2, 2, 2, 2, 2, 0], [0, 2, 0, 0, 0, 0, 2, 2, 2, 2, 2, 0, 0, 0, 0, 0, 0, 1, 0, 0, 3, 2, 2, 2, 0, 0, 3, 2, 0, 0, 3, 0, 0, 3, 2, 0, 0, 2, 3, 2, 0, 0, 0, 0, 3, 2, 2, 2, 2]]
/-- a field's kind: 0 int, 1 long, 2 reference, 3 truth -/
def nc_fk (t k : Nat) : Nat := (((nc_fkT[t]?).getD [])[k]?).getD 9
/-- the Dairy of a Life -/
def nc_ld (a : Nat) : Nat := if a < 12 then 0 else a - 10
def nc_frT : List (List (Nat → Nat × Nat)) := [[fun a => (100, a), fun a => (101, a), fun a => (102, a), fun _ => (0, 0), fun _ => (0, 0), fun _ => (0, 0), fun _ => (0, 0), fun _ => (0, 0), fun _ => (0, 0)], [fun _ => (2, 0), fun _ => (7, 0), fun a => (166, a), fun a => (167, a), fun _ => (0, 0), fun _ => (0, 0), fun _ => (0, 0), fun _ => (0, 0), fun _ => (0, 0), fun _ => (0, 0), fun _ => (0, 0)], [fun _ => (0, 0), fun _ => (0, 0), fun _ => (0, 0), fun _ => (0, 0), fun _ => (0, 0), fun _ => (0, 0), fun _ => (0, 0), fun _ => (0, 0), fun a => (236, a), fun a => (237, a), fun a => (238, a), fun a => (239, a), fun a => (240, a), fun a => (241, a), fun a => (242, a), fun a => (243, a), fun a => (244, a), fun a => (245, a), fun a => (246, a)], [fun _ => (10, 0), fun _ => (2, 1), fun _ => (0, 0)], [fun _ => (0, 0)], [fun a => (420, a), fun _ => (0, 0), fun _ => (0, 0)], [fun _ => (0, 0), fun a => (2, 2 + a), fun a => (7, 12 + a), fun a => (9, 2 + a)], [fun a => (2, nc_ld a), fun _ => (0, 0), fun _ => (0, 0), fun _ => (0, 0), fun _ => (0, 0), fun a => (553, a), fun a => (554, a), fun a => (555, a), fun a => (556, a), fun a => (557, a), fun a => (558, a), fun a => (559, a), fun a => (560, a), fun a => (561, a), fun a => (562, a), fun a => (563, a), fun a => (564, a)], [fun _ => (2, 0), fun _ => (7, 10), fun _ => (7, 11), fun a => (615, a), fun a => (616, a), fun _ => (0, 0), fun _ => (0, 0)], [fun a => (676, a), fun a => (677, a), fun a => (678, a), fun _ => (0, 0), fun _ => (0, 0)], [fun a => (740, a), fun _ => (0, 0), fun a => (742, a), fun a => (743, a), fun a => (744, a), fun a => (745, a), fun a => (746, a), fun _ => (0, 0), fun _ => (0, 0), fun _ => (0, 0), fun _ => (0, 0), fun _ => (0, 0), fun _ => (0, 0), fun _ => (0, 0), fun _ => (0, 0), fun _ => (0, 0)], [fun _ => (10, 0), fun _ => (2, 0), fun _ => (2, 1), fun _ => (3, 0), fun _ => (7, 0), fun _ => (7, 1), fun _ => (5, 0), fun _ => (9, 0), fun _ => (9, 1), fun _ => (0, 0), fun _ => (1, 0), fun _ => (8, 0), fun _ => (4, 0), fun _ => (6, 0), fun _ => (6, 1), fun _ => (0, 0)], [fun _ => (0, 0), fun a => (869, a), fun _ => (0, 0), fun _ => (0, 0), fun _ => (0, 0), fun _ => (0, 0), fun a => (874, a), fun a => (875, a), fun a => (876, a), fun a => (877, a), fun a => (878, a), fun _ => (0, 0), fun _ => (0, 0), fun _ => (0, 0), fun _ => (0, 0), fun _ => (0, 0), fun _ => (0, 0), fun _ => (0, 0), fun _ => (0, 0), fun _ => (0, 0), fun _ => (0, 0), fun a => (889, a), fun a => (890, a), fun a => (891, a), fun _ => (0, 0), fun _ => (0, 0), fun _ => (0, 0), fun a => (895, a), fun _ => (0, 0), fun _ => (0, 0), fun _ => (0, 0), fun _ => (0, 0), fun _ => (0, 0), fun _ => (0, 0), fun a => (902, a), fun _ => (0, 0), fun _ => (0, 0), fun a => (905, a), fun _ => (0, 0), fun a => (907, a), fun _ => (0, 0), fun _ => (0, 0), fun _ => (0, 0), fun _ => (0, 0), fun _ => (0, 0), fun a => (913, a), fun a => (914, a), fun a => (915, a), fun a => (916, a)]]
def nc_fr (t k a : Nat) : Nat × Nat := ((((nc_frT[t]?).getD [])[k]?).getD (fun _ => (0, 0))) a
def nc_arT : List (Nat × Nat × Nat) := [(100, 0, 40), (101, 0, 40), (102, 0, 40), (166, 0, 1024), (167, 0, 10), (236, 3, 22), (237, 0, 4), (238, 0, 8), (239, 0, 8), (240, 0, 8), (241, 0, 8), (242, 0, 10), (243, 0, 10), (244, 0, 6), (245, 0, 6), (246, 0, 6), (420, 4, 8), (553, 0, 80), (554, 0, 8), (555, 0, 8), (556, 0, 8), (557, 0, 8), (558, 0, 8), (559, 0, 8), (560, 0, 8), (561, 0, 4), (562, 0, 120), (563, 0, 4), (564, 0, 4), (615, 0, 3), (616, 0, 3), (676, 0, 40), (677, 0, 40), (678, 0, 40), (740, 1, 940), (742, 3, 24), (743, 0, 901), (744, 0, 901), (745, 0, 901), (746, 3, 901), (869, 1, 940), (874, 0, 513), (875, 0, 76), (876, 0, 135), (877, 3, 44), (878, 3, 24), (889, 0, 8), (890, 0, 2048), (891, 0, 256), (895, 0, 3), (902, 0, 10), (905, 0, 4), (907, 0, 45), (913, 2, 45), (914, 0, 1026), (915, 3, 44), (916, 2, 2)]
/-- an array's kind: 0 int, 1 byte, 2 truth, 3 long, 4 Lives -/
def nc_ak (t : Nat) : Nat := (nc_look (9, 0) t nc_arT).1
def nc_al (t : Nat) : Nat := (nc_look (9, 0) t nc_arT).2
def nc_fdT : List (Nat × List (Nat × Nat × Nat)) := [(0, [(9, 0, 0), (15, 0, 1), (18, 0, 2), (21, 0, 3), (70, 10, 12), (73, 0, 4), (77, 0, 5), (80, 0, 6), (87, 7, 1), (92, 0, 7), (95, 7, 3), (98, 0, 8)]), (1, [(9, 1, 2), (15, 1, 3), (18, 1, 8), (22, 1, 9), (25, 1, 10), (28, 1, 0), (32, 1, 1), (40, 1, 4), (43, 2, 7), (55, 2, 6), (62, 7, 7), (67, 2, 5), (75, 1, 5), (81, 1, 6), (88, 1, 7), (94, 2, 3), (97, 7, 6)]), (2, [(9, 2, 5), (15, 2, 8), (19, 2, 9), (23, 2, 10), (26, 2, 11), (29, 2, 12), (32, 2, 13), (35, 2, 14), (38, 2, 15), (41, 2, 16), (44, 2, 17), (47, 2, 18), (50, 2, 0), (53, 2, 1), (56, 2, 2), (59, 2, 3), (62, 2, 4), (65, 2, 6), (68, 2, 7), (91, 10, 11), (97, 10, 13)]), (3, [(9, 3, 0), (15, 3, 1), (24, 3, 2), (41, 2, 0), (71, 2, 1), (81, 2, 2), (95, 2, 10), (99, 2, 9), (102, 2, 11), (105, 10, 12), (108, 2, 12), (111, 2, 13), (114, 2, 3), (117, 2, 14), (120, 2, 7), (123, 2, 15), (126, 2, 6), (132, 2, 4), (138, 2, 16), (141, 2, 17), (144, 2, 18), (147, 2, 5)]), (4, [(7, 4, 0), (14, 7, 0), (20, 2, 3), (25, 2, 2)]), (5, [(11, 5, 0), (20, 5, 2), (24, 5, 1)]), (7, [(9, 7, 5), (15, 7, 6), (18, 7, 7), (21, 7, 8), (24, 7, 9), (27, 7, 10), (30, 7, 11), (33, 7, 12), (36, 7, 13), (39, 7, 14), (42, 7, 15), (45, 7, 16), (48, 7, 0), (58, 7, 1), (62, 7, 2), (65, 7, 3), (68, 7, 4), (87, 2, 5), (96, 2, 14), (105, 2, 2), (112, 2, 12), (127, 2, 11), (133, 2, 3), (140, 2, 6), (143, 2, 15), (146, 2, 10), (161, 2, 4), (164, 2, 18), (171, 2, 16), (174, 2, 17), (184, 2, 13)]), (8, [(9, 8, 3), (15, 8, 4), (18, 8, 0), (27, 8, 1), (31, 8, 2), (34, 8, 5), (38, 8, 6), (48, 2, 3), (88, 2, 14), (91, 7, 6)]), (9, [(11, 9, 0), (15, 9, 1), (18, 9, 2), (21, 9, 3), (25, 9, 4), (87, 10, 12), (106, 7, 0), (110, 2, 10), (113, 7, 6), (116, 7, 7), (126, 7, 12), (129, 7, 11)]), (10, [(9, 10, 0), (15, 10, 2), (19, 10, 3), (23, 10, 4), (26, 10, 5), (29, 10, 6), (48, 10, 1), (58, 10, 9), (62, 10, 14), (65, 10, 15), (68, 10, 7), (71, 10, 8), (101, 10, 10), (104, 10, 11), (107, 10, 12), (110, 10, 13)]), (11, [(12, 11, 0), (19, 11, 1), (23, 11, 2), (31, 11, 3), (40, 11, 4), (44, 11, 5), (50, 11, 6), (57, 11, 7), (61, 11, 8), (67, 11, 9), (76, 11, 10), (83, 11, 11), (90, 11, 12), (97, 11, 13), (101, 11, 14), (104, 11, 15), (108, 10, 1), (119, 10, 15), (130, 2, 0), (133, 10, 14), (143, 2, 10), (153, 7, 11), (156, 7, 7), (159, 7, 6), (166, 7, 12), (172, 2, 14), (175, 2, 15), (181, 7, 4), (191, 2, 9), (194, 7, 13), (203, 7, 1), (206, 7, 3), (213, 7, 2), (256, 1, 8), (266, 8, 5), (269, 8, 4), (272, 2, 2), (300, 1, 9), (303, 1, 10), (321, 2, 3), (324, 4, 0), (339, 0, 6), (342, 0, 4), (346, 0, 5), (349, 0, 7), (352, 0, 8), (359, 9, 4), (366, 6, 0), (369, 6, 1), (370, 6, 2), (371, 6, 3), (374, 2, 1), (377, 2, 4), (380, 2, 5)]), (12, [(1, 12, 0), (7, 12, 2), (14, 12, 1), (18, 12, 3), (21, 12, 4), (24, 12, 5), (33, 12, 6), (37, 12, 7), (40, 12, 8), (43, 12, 9), (47, 12, 10), (50, 12, 21), (53, 12, 22), (56, 12, 23), (59, 12, 27), (62, 12, 28), (65, 12, 34), (68, 12, 37), (71, 12, 39), (74, 12, 45), (78, 12, 46), (81, 12, 47), (84, 12, 48), (139, 12, 12), (142, 12, 13), (145, 12, 11), (155, 12, 14), (158, 12, 17), (162, 12, 15), (165, 12, 16), (181, 12, 18), (218, 12, 20), (228, 12, 19), (237, 12, 24), (334, 12, 26), (337, 12, 25), (364, 12, 30), (367, 12, 29), (373, 12, 33), (376, 12, 31), (379, 12, 32), (388, 12, 35), (398, 12, 36), (407, 12, 38), (410, 12, 40), (413, 12, 42), (420, 12, 43), (426, 12, 41), (429, 12, 44)])]
def nc_fd (ow k : Nat) : Nat × Nat := nc_look (99, 99) k (nc_look [] ow nc_fdT)
def nc_ciT : List ((Nat × Nat) × Int32) := [((4, 13), 1103515245), ((12, 391), 1103515245), ((13, 265), 1431655765), ((13, 266), 858993459), ((13, 267), 252645135)]
def nc_clT : List ((Nat × Nat) × Int64) := [((12, 87), 1717662317), ((12, 89), 6516599), ((12, 91), 1852143475), ((12, 93), 482854660462), ((12, 95), 32478892436775276), ((12, 97), 7823730), ((12, 99), 33606991467799922), ((12, 101), 7104869), ((12, 103), 448377677669), ((12, 105), 448377483891), ((12, 107), 439956631140), ((12, 109), 6578553), ((12, 111), 28530), ((12, 113), 6385252), ((12, 115), 7237492), ((12, 117), 6582905), ((12, 119), 27995156865901924), ((12, 121), 24948), ((12, 123), 461414299507), ((12, 125), 448377483876), ((12, 127), 1835625579), ((12, 129), 444150998382), ((12, 131), 110429873534067), ((12, 133), 121450625394034)]
def nc_look2 {α : Type} (i j : Nat) : List ((Nat × Nat) × α) → Option α
  | [] => none
  | q :: r => cond (Nat.beq q.1.1 i && Nat.beq q.1.2 j) (some q.2) (nc_look2 i j r)
def nc_inv_l : List (List (Nat × Nat × Nat × Nat)) := [[], [], [], [], [], [], [], [], [], [], [], [], [], [], [], [], [], [], [], [], [], [], [], [], [], [], [], [], [], [], [], [], [], [], [], [], [], [], [], [], [], [], [], [], [], [], [], [], [], [], [], [], [], [], [], [], [], [], [], [], [], [], [], [], [], [], [], [], [], [], [], [], [], [], [], [], [], [], [], [], [], [], [], [], [], [], [], [(114, 0, 32, 1), (117, 0, 30, 1)], [(93, 0, 30, 1), (101, 0, 5, 1)], [(117, 0, 30, 1), (120, 0, 29, 0)], [(43, 0, 29, 0), (61, 0, 20, 3), (68, 0, 32, 1), (72, 0, 30, 1), (81, 0, 88, 3), (90, 0, 89, 2)], [(130, 0, 14, 1), (136, 0, 13, 3)], [(77, 0, 10, 1), (81, 1, 84, 1)], [(107, 5, 0, 5)], [(77, 0, 10, 1), (115, 0, 11, 1), (118, 0, 91, 1), (121, 2, 0, 2)], [(53, 0, 92, 2), (65, 0, 94, 1), (75, 0, 10, 1), (79, 0, 11, 1), (82, 0, 91, 1), (85, 0, 14, 1), (94, 0, 13, 3), (98, 2, 0, 2), (103, 0, 93, 1)], [(71, 5, 0, 5)], [(92, 0, 12, 2)], [(92, 0, 12, 2)], [(52, 1, 86, 2), (167, 0, 15, 0), (177, 0, 98, 2)], [(180, 0, 16, 1)], [(43, 0, 29, 0), (57, 0, 31, 0), (61, 0, 20, 3), (68, 0, 32, 1), (72, 0, 30, 1), (75, 0, 87, 1), (78, 0, 90, 3)], [(43, 0, 29, 0), (57, 0, 31, 0), (61, 0, 20, 3), (65, 0, 101, 3)], [(43, 0, 29, 0), (54, 0, 102, 3), (57, 0, 31, 0), (61, 0, 20, 3)], [(43, 0, 29, 0), (46, 0, 103, 3), (57, 0, 31, 0), (61, 0, 20, 3), (65, 0, 101, 3), (68, 0, 32, 1), (72, 0, 30, 1), (75, 0, 87, 1), (78, 0, 90, 3)], [(43, 0, 29, 0), (57, 0, 31, 0), (61, 0, 20, 3), (65, 0, 104, 3)], [(43, 0, 29, 0), (54, 0, 105, 3), (57, 0, 31, 0), (61, 0, 20, 3)], [(43, 0, 29, 0), (46, 0, 106, 3), (57, 0, 31, 0), (61, 0, 20, 3), (65, 0, 104, 3), (68, 0, 32, 1), (72, 0, 30, 1), (75, 0, 87, 1), (78, 0, 90, 3)], [(43, 0, 29, 0), (57, 0, 31, 0), (61, 0, 20, 3), (65, 0, 107, 3)], [(43, 0, 29, 0), (54, 0, 108, 3), (57, 0, 31, 0), (61, 0, 20, 3)], [(43, 0, 29, 0), (46, 0, 109, 3), (57, 0, 31, 0), (61, 0, 20, 3), (65, 0, 107, 3), (68, 0, 32, 1), (72, 0, 30, 1), (75, 0, 87, 1), (78, 0, 90, 3)], [(43, 0, 29, 0), (57, 0, 31, 0), (61, 0, 20, 3), (65, 0, 110, 3)], [(43, 0, 29, 0), (54, 0, 111, 3), (57, 0, 31, 0), (61, 0, 20, 3)], [(43, 0, 29, 0), (46, 0, 112, 3), (57, 0, 31, 0), (61, 0, 20, 3), (65, 0, 110, 3), (68, 0, 32, 1), (72, 0, 30, 1), (75, 0, 87, 1), (78, 0, 90, 3)], [(43, 0, 29, 0), (57, 0, 31, 0), (61, 0, 20, 3), (65, 0, 113, 3)], [(43, 0, 29, 0), (54, 0, 114, 3), (57, 0, 31, 0), (61, 0, 20, 3)], [(43, 0, 29, 0), (46, 0, 115, 3), (57, 0, 31, 0), (61, 0, 20, 3), (65, 0, 113, 3), (68, 0, 32, 1), (72, 0, 30, 1), (75, 0, 87, 1), (78, 0, 90, 3)], [(43, 0, 29, 0), (57, 0, 31, 0), (61, 0, 20, 3), (65, 0, 116, 3)], [(43, 0, 29, 0), (54, 0, 117, 3), (57, 0, 31, 0), (61, 0, 20, 3)], [(43, 0, 29, 0), (46, 0, 118, 3), (57, 0, 31, 0), (61, 0, 20, 3), (65, 0, 116, 3), (68, 0, 32, 1), (72, 0, 30, 1), (75, 0, 87, 1), (78, 0, 90, 3)], [(43, 0, 29, 0), (57, 0, 31, 0), (61, 0, 20, 3), (65, 0, 119, 3)], [(43, 0, 29, 0), (54, 0, 120, 3), (57, 0, 31, 0), (61, 0, 20, 3)], [(43, 0, 29, 0), (46, 0, 121, 3), (57, 0, 31, 0), (61, 0, 20, 3), (65, 0, 119, 3), (68, 0, 32, 1), (72, 0, 30, 1), (75, 0, 87, 1), (78, 0, 90, 3)], [(43, 0, 29, 0), (57, 0, 31, 0), (61, 0, 20, 3), (65, 0, 122, 3)], [(43, 0, 29, 0), (54, 0, 123, 3), (57, 0, 31, 0), (61, 0, 20, 3)], [(43, 0, 29, 0), (46, 0, 124, 3), (57, 0, 31, 0), (61, 0, 20, 3), (65, 0, 122, 3), (68, 0, 32, 1), (72, 0, 30, 1), (75, 0, 87, 1), (78, 0, 90, 3)], [(43, 0, 29, 0), (57, 0, 31, 0), (61, 0, 20, 3), (65, 0, 125, 3)], [(43, 0, 29, 0), (54, 0, 126, 3), (57, 0, 31, 0), (61, 0, 20, 3)], [(45, 0, 95, 4), (53, 0, 92, 2), (57, 0, 96, 1), (61, 0, 97, 2), (65, 0, 94, 1), (69, 0, 99, 0), (72, 0, 100, 0)], [(41, 0, 128, 4), (45, 0, 95, 4), (53, 0, 92, 2), (57, 0, 96, 1), (61, 0, 97, 2), (65, 0, 94, 1), (69, 0, 99, 0), (72, 0, 100, 0)], [(41, 0, 129, 4), (45, 0, 95, 4), (53, 0, 92, 2), (57, 0, 96, 1), (61, 0, 97, 2), (65, 0, 94, 1), (69, 0, 99, 0), (72, 0, 100, 0)], [(44, 1, 22, 2), (74, 0, 26, 1), (78, 1, 23, 1), (82, 1, 24, 1), (93, 0, 28, 4), (97, 0, 27, 1)], [(52, 3, 0, 2), (74, 0, 26, 1), (78, 1, 23, 1), (82, 1, 24, 1), (85, 0, 131, 1), (90, 6, 0, 1), (93, 0, 28, 4)], [(120, 0, 29, 0)], [(46, 0, 88, 3), (56, 0, 29, 0), (66, 0, 89, 2)], [(120, 0, 29, 0), (123, 0, 87, 1)], [(42, 0, 31, 0), (46, 0, 88, 3), (52, 0, 30, 1), (56, 0, 29, 0), (59, 1, 134, 3), (63, 0, 135, 0)], [(117, 0, 30, 1)], [(25, 0, 132, 1), (31, 0, 133, 0), (35, 0, 136, 2), (39, 0, 137, 0)], [(158, 0, 94, 1)], [(149, 0, 139, 0), (152, 0, 99, 0), (155, 0, 100, 0)], [(99, 0, 2, 1)], [(77, 0, 10, 1)], [(108, 0, 142, 2)], [(102, 0, 143, 1), (108, 0, 142, 2)], [(101, 0, 140, 1), (105, 0, 141, 1), (108, 0, 144, 1), (111, 0, 92, 2), (115, 0, 97, 2)], [(83, 0, 145, 2)], [(58, 0, 4, 0), (70, 1, 84, 1), (78, 0, 91, 1), (84, 0, 11, 1), (91, 0, 14, 1), (100, 0, 13, 3)], [(104, 2, 0, 2)], [(52, 0, 148, 1), (70, 1, 84, 1), (110, 1, 0, 2)], [(36, 0, 147, 1), (48, 0, 149, 1), (52, 0, 148, 1)], [(36, 0, 147, 1), (48, 0, 149, 1), (52, 0, 148, 1)], [(70, 1, 84, 1)], [(36, 0, 147, 1), (52, 0, 148, 1), (70, 1, 84, 1), (110, 1, 0, 2), (113, 0, 152, 2)], [(129, 4, 0, 1)], [(36, 0, 147, 1), (52, 0, 148, 1), (58, 0, 4, 0), (70, 1, 84, 1), (110, 1, 0, 2), (117, 1, 86, 2), (123, 0, 1, 1), (126, 0, 154, 1)], [(71, 1, 85, 2), (77, 1, 86, 2)], [(80, 5, 0, 5)], [(86, 0, 29, 0), (93, 0, 30, 1), (101, 0, 5, 1)], [(105, 0, 6, 1)], [(109, 1, 84, 1), (114, 0, 7, 3)], [(67, 0, 30, 1), (74, 0, 158, 2), (78, 0, 135, 0)], [(67, 0, 30, 1), (74, 0, 158, 2), (78, 0, 135, 0), (84, 0, 29, 0), (87, 0, 88, 3), (91, 0, 89, 2)], [(48, 0, 31, 0), (67, 0, 30, 1), (74, 0, 158, 2), (84, 0, 29, 0), (91, 0, 89, 2), (129, 0, 87, 1)], [(67, 0, 30, 1), (78, 0, 135, 0), (84, 0, 29, 0), (87, 0, 88, 3), (91, 0, 89, 2), (135, 0, 159, 2)], [(67, 0, 30, 1), (78, 0, 135, 0), (91, 0, 89, 2)], [(48, 0, 31, 0), (52, 0, 161, 0), (55, 0, 162, 0), (58, 0, 163, 0), (61, 0, 164, 0), (64, 0, 165, 0), (67, 0, 30, 1)], [(19, 0, 156, 0), (28, 0, 132, 1), (34, 0, 133, 0), (38, 0, 166, 0), (45, 0, 137, 0)], [(28, 0, 8, 1), (32, 0, 92, 2), (36, 0, 97, 2), (40, 0, 141, 1), (43, 0, 144, 1)], [(27, 0, 96, 1), (31, 3, 0, 2)], [(27, 0, 96, 1)], [(52, 1, 86, 2)], [(41, 0, 130, 4)], [(28, 5, 0, 5)], [(34, 0, 19, 0), (37, 0, 132, 1), (43, 0, 29, 0), (46, 0, 127, 3), (50, 0, 137, 0)], [(98, 0, 10, 1), (103, 0, 11, 1), (119, 0, 94, 1), (123, 0, 21, 2)], [(94, 0, 175, 3)], [(111, 0, 25, 1)], [(115, 0, 167, 0), (122, 0, 157, 1), (125, 0, 171, 0), (128, 0, 19, 0), (129, 0, 9, 0)], [(136, 0, 43, 1), (147, 0, 10, 1), (150, 0, 11, 1), (162, 0, 94, 1)], [(169, 0, 44, 1), (178, 0, 2, 1), (184, 0, 45, 2)], [(162, 0, 94, 1)], [(188, 0, 42, 1), (197, 0, 181, 1), (200, 0, 6, 1)], [(209, 0, 17, 0), (216, 0, 15, 0)], [(136, 0, 43, 1), (169, 0, 44, 1), (244, 0, 92, 2)], [(219, 0, 184, 2), (223, 0, 169, 1), (227, 0, 97, 2)], [(169, 0, 44, 1), (223, 0, 169, 1), (231, 0, 141, 1), (234, 0, 144, 1)], [(223, 0, 169, 1), (237, 0, 140, 1)], [(240, 0, 170, 1)], [(136, 0, 43, 1), (147, 0, 10, 1)], [(247, 0, 189, 1), (250, 0, 150, 1)], [(247, 0, 189, 1), (253, 0, 153, 2)], [(247, 0, 189, 1), (259, 0, 151, 1)], [(136, 0, 43, 1), (262, 0, 172, 3)], [(169, 0, 44, 1), (184, 0, 45, 2), (275, 0, 96, 1), (277, 0, 99, 0), (280, 0, 100, 0), (283, 0, 3, 0)], [(188, 0, 42, 1), (286, 0, 160, 2), (289, 1, 84, 1)], [(247, 0, 189, 1), (294, 0, 26, 1), (297, 0, 155, 2)], [(169, 0, 44, 1), (231, 0, 141, 1), (306, 0, 143, 1)], [(294, 0, 26, 1), (318, 0, 18, 2)], [(188, 0, 42, 1), (309, 2, 0, 2), (314, 0, 198, 3)], [(188, 0, 42, 1), (318, 0, 18, 2)], [(209, 0, 17, 0), (237, 0, 140, 1), (275, 0, 96, 1)], [(223, 0, 169, 1), (237, 0, 140, 1), (327, 0, 168, 1)], [(147, 0, 10, 1), (277, 0, 99, 0), (280, 0, 100, 0), (327, 0, 168, 1)], [(136, 0, 43, 1), (275, 0, 96, 1), (330, 0, 203, 1)], [(223, 0, 169, 1), (275, 0, 96, 1), (333, 0, 138, 2), (336, 0, 146, 1)], [(355, 0, 174, 2), (356, 0, 173, 1)], [(362, 0, 176, 2)], [(122, 0, 157, 1), (275, 0, 96, 1), (356, 0, 173, 1)], [(122, 0, 157, 1), (129, 0, 9, 0), (275, 0, 96, 1), (356, 0, 173, 1)], [(10, 0, 48, 1)], [(135, 0, 57, 0), (148, 1, 58, 1), (152, 1, 59, 1)], [(168, 0, 62, 1), (171, 0, 60, 1), (174, 0, 211, 0)], [(171, 0, 60, 1), (174, 0, 211, 0), (177, 1, 51, 3)], [(184, 0, 213, 2)], [(171, 0, 60, 1), (174, 0, 211, 0), (188, 0, 63, 0), (192, 0, 64, 2)], [(171, 0, 60, 1), (188, 0, 63, 0), (192, 0, 64, 2)], [(174, 0, 211, 0), (196, 0, 216, 2)], [(199, 0, 61, 1)], [(171, 0, 60, 1), (174, 0, 211, 0), (199, 0, 61, 1), (203, 0, 215, 1), (209, 0, 214, 3), (222, 0, 218, 0)], [(171, 0, 60, 1), (174, 0, 211, 0), (196, 0, 216, 2), (206, 0, 217, 2), (209, 0, 214, 3)], [(171, 0, 60, 1), (174, 0, 211, 0), (199, 0, 61, 1), (203, 0, 215, 1), (206, 0, 217, 2), (209, 0, 214, 3), (212, 0, 219, 0), (215, 0, 220, 0)], [(174, 0, 211, 0), (225, 0, 50, 1), (231, 0, 221, 0), (234, 0, 212, 1)], [(177, 1, 51, 3)], [(177, 1, 51, 3)], [(177, 1, 51, 3)], [(240, 1, 52, 2)], [(240, 1, 52, 2)], [(243, 0, 66, 2)], [(240, 1, 52, 2)], [(240, 1, 52, 2), (246, 0, 227, 1), (249, 0, 229, 2), (252, 1, 53, 2)], [(240, 1, 52, 2), (255, 0, 226, 1), (258, 0, 67, 1), (261, 0, 228, 1), (265, 0, 230, 3)], [(269, 0, 231, 2)], [(177, 1, 51, 3), (255, 0, 226, 1), (258, 0, 67, 1), (261, 0, 228, 1), (272, 0, 224, 1), (275, 0, 47, 1), (279, 0, 232, 1)], [(240, 1, 52, 2), (243, 0, 66, 2), (246, 0, 227, 1), (282, 0, 225, 1)], [(279, 0, 232, 1)], [(177, 1, 51, 3), (275, 0, 47, 1), (285, 0, 223, 1), (288, 0, 68, 1), (291, 0, 235, 1)], [(294, 0, 69, 1), (297, 0, 70, 0)], [(240, 1, 52, 2), (255, 0, 226, 1), (300, 1, 55, 1)], [(243, 0, 66, 2)], [(240, 1, 52, 2), (246, 0, 227, 1)], [(243, 0, 66, 2), (255, 0, 226, 1)], [(243, 0, 66, 2), (255, 0, 226, 1), (303, 0, 241, 1)], [(240, 1, 52, 2)], [(261, 0, 228, 1), (279, 0, 232, 1), (291, 0, 235, 1), (294, 0, 69, 1), (306, 0, 243, 2)], [(310, 0, 244, 0)], [(272, 0, 224, 1), (282, 0, 225, 1), (313, 0, 238, 2), (316, 0, 71, 0), (319, 0, 239, 2)], [(282, 0, 225, 1), (316, 0, 71, 0), (322, 0, 240, 1), (325, 0, 242, 1)], [(177, 1, 51, 3), (316, 0, 71, 0), (328, 0, 245, 1)], [(272, 0, 224, 1), (282, 0, 225, 1), (313, 0, 238, 2)], [(300, 1, 55, 1)], [(269, 0, 231, 2), (300, 1, 55, 1), (331, 0, 250, 2)], [(255, 0, 226, 1), (269, 0, 231, 2), (272, 0, 224, 1), (340, 0, 75, 0), (343, 0, 251, 2), (346, 0, 76, 1)], [(177, 1, 51, 3), (255, 0, 226, 1), (269, 0, 231, 2), (272, 0, 224, 1), (300, 1, 55, 1), (331, 0, 250, 2), (340, 0, 75, 0), (346, 0, 76, 1)], [(255, 0, 226, 1), (269, 0, 231, 2), (272, 0, 224, 1), (340, 0, 75, 0), (343, 0, 251, 2)], [(279, 0, 232, 1), (310, 0, 244, 0), (313, 0, 238, 2), (319, 0, 239, 2), (349, 0, 78, 3), (352, 0, 74, 0)], [(177, 1, 51, 3), (272, 0, 224, 1), (349, 0, 78, 3), (355, 0, 73, 0), (358, 0, 255, 3)], [(177, 1, 51, 3)], [(243, 0, 66, 2), (282, 0, 225, 1), (328, 0, 245, 1), (352, 0, 74, 0), (355, 0, 73, 0)], [(240, 1, 52, 2)], [(285, 0, 223, 1), (300, 1, 55, 1), (361, 0, 259, 3)], [(225, 0, 50, 1), (240, 1, 52, 2), (255, 0, 226, 1), (269, 0, 231, 2), (272, 0, 224, 1), (331, 0, 250, 2), (370, 0, 56, 1), (382, 1, 54, 1)], [(282, 0, 225, 1), (303, 0, 241, 1), (322, 0, 240, 1)], [(177, 1, 51, 3), (252, 1, 53, 2)], [(177, 1, 51, 3), (225, 0, 50, 1), (252, 1, 53, 2), (285, 0, 223, 1), (370, 0, 56, 1)], [(285, 0, 223, 1), (385, 0, 263, 1)], [(177, 1, 51, 3), (297, 0, 70, 0), (328, 0, 245, 1), (352, 0, 74, 0), (355, 0, 73, 0)], [(310, 0, 244, 0), (313, 0, 238, 2), (319, 0, 239, 2), (322, 0, 240, 1), (325, 0, 242, 1), (392, 0, 82, 1)], [(177, 1, 51, 3), (316, 0, 71, 0), (395, 0, 267, 2)], [(177, 1, 51, 3), (255, 0, 226, 1), (272, 0, 224, 1), (352, 0, 74, 0), (355, 0, 73, 0), (395, 0, 267, 2)], [(171, 0, 60, 1), (174, 0, 211, 0), (184, 0, 213, 2), (196, 0, 216, 2), (199, 0, 61, 1), (206, 0, 217, 2)], [(313, 0, 238, 2), (319, 0, 239, 2), (322, 0, 240, 1), (325, 0, 242, 1), (328, 0, 245, 1)], [(174, 0, 211, 0), (177, 1, 51, 3), (225, 0, 50, 1), (234, 0, 212, 1), (316, 0, 71, 0), (352, 0, 74, 0), (355, 0, 73, 0), (401, 0, 270, 0), (404, 0, 271, 3)], [(177, 1, 51, 3)], [(416, 0, 83, 3)], [(416, 0, 83, 3)], [(199, 0, 61, 1)], [(168, 0, 62, 1), (171, 0, 60, 1), (174, 0, 211, 0), (196, 0, 216, 2), (199, 0, 61, 1), (416, 0, 83, 3), (423, 0, 276, 0)], [(168, 0, 62, 1), (171, 0, 60, 1), (174, 0, 211, 0), (199, 0, 61, 1), (432, 0, 275, 0), (435, 0, 274, 1)], [(171, 0, 60, 1), (174, 0, 211, 0), (225, 0, 50, 1), (432, 0, 275, 0), (435, 0, 274, 1), (438, 0, 278, 0), (441, 0, 277, 0)], [(240, 1, 52, 2), (243, 0, 66, 2), (255, 0, 226, 1), (258, 0, 67, 1), (279, 0, 232, 1)], [(444, 0, 280, 4)], [(448, 0, 281, 1)], [(177, 1, 51, 3)], [(177, 1, 51, 3)], [(177, 1, 51, 3)]]
def nc_inv (M : Nat) : List (Nat × Nat × Nat × Nat) := (nc_inv_l[M]?).getD []
def nc_iv (M k : Nat) : Nat × Nat × Nat := nc_look (9, 0, 0) k (nc_inv M)
/-! ONE STEP. 'call' is what a call of a method gives; κ what comes behind the step. -/
def nc_jmp (pc : Nat) (off : Int) (κ : Nat → Option nc_R) : Option nc_R := match (pc : Int) + off with
  | .ofNat t => κ t
  | .negSucc _ => none
def nc_if (c : ClassFile.Cond) (x y : Int32) (a b : Option nc_R) : Option nc_R := match c with
  | .eq => if x = y then a else b
  | .ne => if x ≠ y then a else b
  | .lt => if x < y then a else b
  | .ge => if y ≤ x then a else b
  | .gt => if y < x then a else b
  | .le => if x ≤ y then a else b
def nc_sw (pc : Nat) (x : Int32) (dflt : Int) (κ : Nat → Option nc_R) : Int → List Int → Option nc_R
  | _, [] => nc_jmp pc dflt κ
  | k, o :: os => if x = Int32.ofInt k then nc_jmp pc o κ else nc_sw pc x dflt κ (k + 1) os
/-- a call's answer on the stack -/
def nc_ans (rk : Nat) (x : Option nc_R) (rest : List nc_V) (κ : List nc_V → nc_H → Option nc_R) : Option nc_R := match rk with
  | 0 => nc_bV x (fun w => κ rest w)
  | 2 => nc_bL x (fun r w => κ (.inr (.inl r) :: rest) w)
  | _ => nc_bI x (fun r w => κ (.inl r :: rest) w)
def nc_bin (i : Instr) (x y : Int32) : Int32 := match i with
  | .iadd => x + y
  | .isub => x - y
  | .imul => x * y
  | .iand => x &&& y
  | .ior => x ||| y
  | .ixor => x ^^^ y
  | .ishl => x <<< (y &&& 31)
  | .ishr => x >>> (y &&& 31)
  | _ => (x.toUInt32 >>> (y.toUInt32 &&& Int32.toUInt32 31)).toInt32
/-- ";<=>()".indexOf of a byte -/
def nc_sig (x : Int32) : Int32 := if x = 59 then 0 else if x = 60 then 1 else if x = 61 then 2 else if x = 62 then 3 else if x = 40 then 4 else if x = 41 then 5 else -1
def nc_copy (w : nc_H) (t0 a0 : Nat) (sp : Int32) (t a : Nat) (dp n : Int32) (κ : nc_H → Option nc_R) : Option nc_R :=
  if (sp < 0 ∨ dp < 0 ∨ n < 0) ∨ nc_al t0 < sp.toNatClampNeg + n.toNatClampNeg ∨ nc_al t < dp.toNatClampNeg + n.toNatClampNeg then none
  else cond (Nat.beq (nc_ak t0) 0 && Nat.beq (nc_ak t) 0) (κ (nc_cpi w t0 a0 sp.toNatClampNeg t a dp.toNatClampNeg n.toNatClampNeg))
    (cond (Nat.beq (nc_ak t0) 3 && Nat.beq (nc_ak t) 3) (κ (nc_cpl w t0 a0 sp.toNatClampNeg t a dp.toNatClampNeg n.toNatClampNeg)) none)
def nc_inS (call : Nat → List nc_V → nc_H → Option nc_R) (M : Nat) (q : Nat × Nat × Nat) (st : List nc_V) (w : nc_H) (κ : List nc_V → nc_H → Option nc_R) : Option nc_R := match q.1, st with
  | 2, .inl y :: .inl x :: r => cond (Nat.ble (nc_cats r) 8) (κ (.inl (if x < y then y else x) :: r) w) none
  | 3, .inl y :: .inl x :: r => cond (Nat.ble (nc_cats r) 8) (κ (.inl (if y < x then y else x) :: r) w) none
  | 4, .inl x :: r => cond (Nat.ble (nc_cats r) 8) (κ (.inl (if 0 ≤ x then x else 0 - x) :: r) w) none
  | 5, .inl n :: .inl dp :: .inr (.inr q2) :: .inl sp :: .inr (.inr q1) :: r => cond (Nat.ble (nc_cats r) 8) (nc_copy w q1.1 q1.2 sp q2.1 q2.2 dp n (κ r)) none
  | 1, st => cond (Nat.ble q.2.2 st.length && (Nat.ble (nc_cats (st.drop q.2.2)) 8 && Nat.blt q.2.1 M)) (nc_ans (nc_rk q.2.1) (call q.2.1 (st.take q.2.2).reverse w) (st.drop q.2.2) κ) none
  | _, _ => none
def nc_inV (call : Nat → List nc_V → nc_H → Option nc_R) (M : Nat) (q : Nat × Nat × Nat) (st : List nc_V) (w : nc_H) (κ : List nc_V → nc_H → Option nc_R) : Option nc_R :=
  cond (Nat.beq q.1 0 && Nat.ble q.2.2 st.length) (match st.drop q.2.2 with
    | .inr (.inr o) :: rest => cond (Nat.beq o.1 (nc_own q.2.1) && (Nat.ble (nc_cats rest) 8 && Nat.blt q.2.1 M)) (nc_ans (nc_rk q.2.1) (call q.2.1 (.inr (.inr o) :: (st.take q.2.2).reverse) w) rest κ) none
    | _ => none) (match st with
    | .inl x :: .inr (.inr o) :: r => cond (Nat.beq q.1 6 && (Nat.beq o.1 90 && Nat.ble (nc_cats r) 8)) (κ (.inl (nc_sig x) :: r) w) none
    | _ => none)
def nc_getf (t k a : Nat) (r : List nc_V) (w : nc_H) (κ : List nc_V → Option nc_R) : Option nc_R := match nc_fk t k with
  | 0 => κ (.inl (w.1 t a k) :: r)
  | 1 => κ (.inr (.inl (w.2 t a k)) :: r)
  | 2 => κ (.inr (.inr (nc_fr t k a)) :: r)
  | 3 => κ (.inl (w.1 t a k) :: r)
  | _ => none
def nc_putf (t k a : Nat) (v : nc_V) (w : nc_H) (κ : nc_H → Option nc_R) : Option nc_R := match nc_fk t k, v with
  | 0, .inl x => κ (nc_si w t a k x)
  | 1, .inr (.inl x) => κ (nc_sl w t a k x)
  | 3, .inl x => nc_z x (κ (nc_si w t a k x))
  | _, _ => none
def nc_ex (call : Nat → List nc_V → nc_H → Option nc_R) (M : Nat) (i : Instr) (pc : Nat) (ls : nc_L) (st : List nc_V) (w : nc_H) (κ : nc_K) : Option nc_R := match i with
  | .iconst n => κ (pc + 1) ls (.inl (Int32.ofInt n) :: st) w
  | .bipush n => κ (pc + 2) ls (.inl (Int8.ofInt n).toInt32 :: st) w
  | .sipush n => κ (pc + 3) ls (.inl (Int16.ofInt n).toInt32 :: st) w
  | .lconst n => κ (pc + 1) ls (.inr (.inl (Int64.ofNat n.val)) :: st) w
  | .ldc k => match nc_look2 (nc_own M) k nc_ciT with
    | some x => κ (pc + 2) ls (.inl x :: st) w
    | none => cond (Nat.beq (nc_own M) 10 && Nat.beq k 88) (κ (pc + 2) ls (.inr (.inr (90, 0)) :: st) w) none
  | .ldc_w k => match nc_look2 (nc_own M) k nc_ciT with
    | some x => κ (pc + 3) ls (.inl x :: st) w
    | none => none
  | .ldc2_w k => match nc_look2 (nc_own M) k nc_clT with
    | some x => κ (pc + 3) ls (.inr (.inl x) :: st) w
    | none => none
  | .iload_n k => match nc_get ls k.val with
    | some (.inl x) => κ (pc + 1) ls (.inl x :: st) w
    | _ => none
  | .iload k => match nc_get ls k with
    | some (.inl x) => κ (pc + 2) ls (.inl x :: st) w
    | _ => none
  | .lload_n k => match nc_get ls k.val with
    | some (.inr (.inl x)) => κ (pc + 1) ls (.inr (.inl x) :: st) w
    | _ => none
  | .lload k => match nc_get ls k with
    | some (.inr (.inl x)) => κ (pc + 2) ls (.inr (.inl x) :: st) w
    | _ => none
  | .aload_n k => match nc_get ls k.val with
    | some (.inr (.inr x)) => κ (pc + 1) ls (.inr (.inr x) :: st) w
    | _ => none
  | .aload k => match nc_get ls k with
    | some (.inr (.inr x)) => κ (pc + 2) ls (.inr (.inr x) :: st) w
    | _ => none
  | .istore_n k => match st with
    | .inl x :: r => κ (pc + 1) (nc_put1 (.inl x) ls k.val) r w
    | _ => none
  | .istore k => match st with
    | .inl x :: r => κ (pc + 2) (nc_put1 (.inl x) ls k) r w
    | _ => none
  | .astore_n k => match st with
    | .inr (.inr x) :: r => κ (pc + 1) (nc_put1 (.inr (.inr x)) ls k.val) r w
    | _ => none
  | .astore k => match st with
    | .inr (.inr x) :: r => κ (pc + 2) (nc_put1 (.inr (.inr x)) ls k) r w
    | _ => none
  | .lstore_n k => match st with
    | .inr (.inl x) :: r => κ (pc + 1) (nc_put2 (.inr (.inl x)) ls k.val) r w
    | _ => none
  | .lstore k => match st with
    | .inr (.inl x) :: r => κ (pc + 2) (nc_put2 (.inr (.inl x)) ls k) r w
    | _ => none
  | .iinc k n => match nc_get ls k with
    | some (.inl x) => κ (pc + 3) (nc_put1 (.inl (x + Int32.ofInt n)) ls k) st w
    | _ => none
  | .iadd => match st with
    | .inl y :: .inl x :: r => κ (pc + 1) ls (.inl (x + y) :: r) w
    | _ => none
  | .isub => match st with
    | .inl y :: .inl x :: r => κ (pc + 1) ls (.inl (x - y) :: r) w
    | _ => none
  | .imul => match st with
    | .inl y :: .inl x :: r => κ (pc + 1) ls (.inl (x * y) :: r) w
    | _ => none
  | .iand => match st with
    | .inl y :: .inl x :: r => κ (pc + 1) ls (.inl (x &&& y) :: r) w
    | _ => none
  | .ior => match st with
    | .inl y :: .inl x :: r => κ (pc + 1) ls (.inl (x ||| y) :: r) w
    | _ => none
  | .ixor => match st with
    | .inl y :: .inl x :: r => κ (pc + 1) ls (.inl (x ^^^ y) :: r) w
    | _ => none
  | .ishl => match st with
    | .inl y :: .inl x :: r => κ (pc + 1) ls (.inl (x <<< (y &&& 31)) :: r) w
    | _ => none
  | .ishr => match st with
    | .inl y :: .inl x :: r => κ (pc + 1) ls (.inl (x >>> (y &&& 31)) :: r) w
    | _ => none
  | .iushr => match st with
    | .inl y :: .inl x :: r => κ (pc + 1) ls (.inl (x.toUInt32 >>> (y.toUInt32 &&& Int32.toUInt32 31)).toInt32 :: r) w
    | _ => none
  | .idiv => match st with
    | .inl y :: .inl x :: r => if y = 0 then none else κ (pc + 1) ls (.inl (x / y) :: r) w
    | _ => none
  | .irem => match st with
    | .inl y :: .inl x :: r => if y = 0 then none else κ (pc + 1) ls (.inl (x - x / y * y) :: r) w
    | _ => none
  | .ineg => match st with
    | .inl x :: r => κ (pc + 1) ls (.inl (-x) :: r) w
    | _ => none
  | .i2l => match st with
    | .inl x :: r => κ (pc + 1) ls (.inr (.inl x.toInt64) :: r) w
    | _ => none
  | .i2b => match st with
    | .inl x :: r => κ (pc + 1) ls (.inl x.toInt8.toInt32 :: r) w
    | _ => none
  | .i2c => match st with
    | .inl x :: r => κ (pc + 1) ls (.inl (x.toUInt32 % 65536).toInt32 :: r) w
    | _ => none
  | .lshl => match st with
    | .inl y :: .inr (.inl x) :: r => κ (pc + 1) ls (.inr (.inl (x <<< (y.toInt64 &&& 63))) :: r) w
    | _ => none
  | .lor => match st with
    | .inr (.inl y) :: .inr (.inl x) :: r => κ (pc + 1) ls (.inr (.inl (x ||| y)) :: r) w
    | _ => none
  | .lcmp => match st with
    | .inr (.inl y) :: .inr (.inl x) :: r => κ (pc + 1) ls (.inl (lg_cmp x y) :: r) w
    | _ => none
  | .dup => match st with
    | .inl x :: r => κ (pc + 1) ls (.inl x :: .inl x :: r) w
    | .inr (.inr x) :: r => κ (pc + 1) ls (.inr (.inr x) :: .inr (.inr x) :: r) w
    | _ => none
  | .dup2 => match st with
    | .inl y :: .inr (.inr x) :: r => κ (pc + 1) ls (.inl y :: .inr (.inr x) :: .inl y :: .inr (.inr x) :: r) w
    | _ => none
  | .pop => match st with
    | .inl _ :: r => κ (pc + 1) ls r w
    | .inr (.inr _) :: r => κ (pc + 1) ls r w
    | _ => none
  | .goto off => nc_jmp pc off (fun t => κ t ls st w)
  | .ifCond c off => match st with
    | .inl x :: r => nc_if c x 0 (nc_jmp pc off (fun t => κ t ls r w)) (κ (pc + 3) ls r w)
    | _ => none
  | .if_icmp c off => match st with
    | .inl y :: .inl x :: r => nc_if c x y (nc_jmp pc off (fun t => κ t ls r w)) (κ (pc + 3) ls r w)
    | _ => none
  | .ifnull _ => match st with
    | .inr (.inr _) :: r => κ (pc + 3) ls r w
    | _ => none
  | .ifnonnull off => match st with
    | .inr (.inr _) :: r => nc_jmp pc off (fun t => κ t ls r w)
    | _ => none
  | .tableswitch dflt lo hi offs => match st with
    | .inl x :: r => cond (decide (lo + offs.size = hi + 1 ∧ -1000 ≤ lo ∧ hi ≤ 1000)) (nc_sw pc x dflt (fun t => κ t ls r w) lo offs.toList) none
    | _ => none
  | .getfield k => match st with
    | .inr (.inr o) :: r => cond (Nat.beq o.1 (nc_fd (nc_own M) k).1) (nc_getf (nc_fd (nc_own M) k).1 (nc_fd (nc_own M) k).2 o.2 r w (fun st' => κ (pc + 3) ls st' w)) none
    | _ => none
  | .putfield k => match st with
    | v :: .inr (.inr o) :: r => cond (Nat.beq o.1 (nc_fd (nc_own M) k).1) (nc_putf (nc_fd (nc_own M) k).1 (nc_fd (nc_own M) k).2 o.2 v w (fun w' => κ (pc + 3) ls r w')) none
    | _ => none
  | .arraylength => match st with
    | .inr (.inr o) :: r => cond (Nat.ble (nc_ak o.1) 4) (κ (pc + 1) ls (.inl (Int32.ofNat (nc_al o.1)) :: r) w) none
    | _ => none
  | .iaload => match st with
    | .inl i :: .inr (.inr o) :: r => cond (Nat.beq (nc_ak o.1) 0) (nc_bd i (nc_al o.1) (fun j => κ (pc + 1) ls (.inl (w.1 o.1 o.2 j) :: r) w)) none
    | _ => none
  | .baload => match st with
    | .inl i :: .inr (.inr o) :: r => cond (Nat.beq (nc_ak o.1) 1 || Nat.beq (nc_ak o.1) 2) (nc_bd i (nc_al o.1) (fun j => κ (pc + 1) ls (.inl (w.1 o.1 o.2 j) :: r) w)) none
    | _ => none
  | .laload => match st with
    | .inl i :: .inr (.inr o) :: r => cond (Nat.beq (nc_ak o.1) 3) (nc_bd i (nc_al o.1) (fun j => κ (pc + 1) ls (.inr (.inl (w.2 o.1 o.2 j)) :: r) w)) none
    | _ => none
  | .aaload => match st with
    | .inl i :: .inr (.inr o) :: r => cond (Nat.beq (nc_ak o.1) 4) (nc_bd i (nc_al o.1) (fun j => κ (pc + 1) ls (.inr (.inr (7, 2 + j)) :: r) w)) none
    | _ => none
  | .iastore => match st with
    | .inl x :: .inl i :: .inr (.inr o) :: r => cond (Nat.beq (nc_ak o.1) 0) (nc_bd i (nc_al o.1) (fun j => κ (pc + 1) ls r (nc_si w o.1 o.2 j x))) none
    | _ => none
  | .bastore => match st with
    | .inl x :: .inl i :: .inr (.inr o) :: r => cond (Nat.beq (nc_ak o.1) 1) (nc_bd i (nc_al o.1) (fun j => κ (pc + 1) ls r (nc_si w o.1 o.2 j x.toInt8.toInt32)))
      (cond (Nat.beq (nc_ak o.1) 2) (nc_bd i (nc_al o.1) (fun j => nc_z x (κ (pc + 1) ls r (nc_si w o.1 o.2 j x)))) none)
    | _ => none
  | .lastore => match st with
    | .inr (.inl x) :: .inl i :: .inr (.inr o) :: r => cond (Nat.beq (nc_ak o.1) 3) (nc_bd i (nc_al o.1) (fun j => κ (pc + 1) ls r (nc_sl w o.1 o.2 j x))) none
    | _ => none
  | .invokestatic k => nc_inS call M (nc_iv M k) st w (fun st' w' => κ (pc + 3) ls st' w')
  | .invokevirtual k => nc_inV call M (nc_iv M k) st w (fun st' w' => κ (pc + 3) ls st' w')
  | .ireturn => match st with
    | [.inl x] => cond (Nat.beq (nc_rk M) 1) (some (some (.inl x), w)) (cond (Nat.beq (nc_rk M) 3) (nc_z x (some (some (.inl x), w))) none)
    | _ => none
  | .lreturn => match st with
    | [.inr (.inl x)] => cond (Nat.beq (nc_rk M) 2) (some (some (.inr (.inl x)), w)) none
    | _ => none
  | .return_ => match st with
    | [] => cond (Nat.beq (nc_rk M) 0) (some (none, w)) none
    | _ => none
  | _ => none
def nc_step (call : Nat → List nc_V → nc_H → Option nc_R) (M pc : Nat) (ls : nc_L) (st : List nc_V) (w : nc_H) (κ : nc_K) : Option nc_R := match nc_ins M pc with
  | some i => nc_ex call M i pc ls st w (fun pc' ls' st' w' => κ pc' (nc_trim M pc' ls') st' w')
  | none => none
def nc_go (call : Nat → List nc_V → nc_H → Option nc_R) (M : Nat) : Nat → nc_K
  | 0 => fun _ _ _ _ => none
  | n + 1 => fun pc ls st w => nc_step call M pc ls st w (nc_go call M n)
end
section
/-! RUNS WITHOUT FUEL. What a step gives, it gives by what comes behind it at ONE place (nc_P); so the runs with fuel have a limit, nc_Run, which keeps the step's equation. -/
def nc_P (F : nc_K → Option nc_R) : Prop := ∀ (κ : nc_K) (r : nc_R), F κ = some r → (∀ κ', F κ' = some r) ∨ ∃ pc ls st w, κ pc ls st w = some r ∧ ∀ κ' : nc_K, κ' pc ls st w = some r → F κ' = some r
theorem nc_P_none : nc_P (fun _ => none) := fun _ _ h => by cases h
theorem nc_P_ret (r : Option nc_R) : nc_P (fun _ => r) := fun _ _ h => Or.inl (fun _ => h)
theorem nc_P_at (pc : Nat) (ls : nc_L) (st : List nc_V) (w : nc_H) : nc_P (fun κ => κ pc ls st w) := fun _ _ h => Or.inr ⟨pc, ls, st, w, h, fun _ h' => h'⟩
theorem nc_P_ite {c : Prop} [Decidable c] {F G : nc_K → Option nc_R} (hF : nc_P F) (hG : nc_P G) : nc_P (fun κ => if c then F κ else G κ) := by
  by_cases h : c
  · simpa only [h, if_true] using hF
  · simpa only [h, if_false] using hG
theorem nc_P_cond {c : Bool} {F G : nc_K → Option nc_R} (hF : nc_P F) (hG : nc_P G) : nc_P (fun κ => cond c (F κ) (G κ)) := by
  cases c
  · exact hG
  · exact hF
theorem nc_P_bd {i : Int32} {n : Nat} {F : Nat → nc_K → Option nc_R} (h : ∀ j, nc_P (F j)) : nc_P (fun κ => nc_bd i n (fun j => F j κ)) := nc_P_ite nc_P_none (h _)
theorem nc_P_z {x : Int32} {F : nc_K → Option nc_R} (h : nc_P F) : nc_P (fun κ => nc_z x (F κ)) := nc_P_ite h nc_P_none
theorem nc_P_bI {x : Option nc_R} {F : Int32 → nc_H → nc_K → Option nc_R} (h : ∀ r w, nc_P (F r w)) : nc_P (fun κ => nc_bI x (fun r w => F r w κ)) := by
  rcases x with _ | ⟨_ | (r | (r | r)), w⟩
  · exact nc_P_none
  · exact nc_P_none
  · exact h r w
  · exact nc_P_none
  · exact nc_P_none
theorem nc_P_bL {x : Option nc_R} {F : Int64 → nc_H → nc_K → Option nc_R} (h : ∀ r w, nc_P (F r w)) : nc_P (fun κ => nc_bL x (fun r w => F r w κ)) := by
  rcases x with _ | ⟨_ | (r | (r | r)), w⟩
  · exact nc_P_none
  · exact nc_P_none
  · exact nc_P_none
  · exact h r w
  · exact nc_P_none
theorem nc_P_bV {x : Option nc_R} {F : nc_H → nc_K → Option nc_R} (h : ∀ w, nc_P (F w)) : nc_P (fun κ => nc_bV x (fun w => F w κ)) := by
  rcases x with _ | ⟨_ | (r | (r | r)), w⟩
  · exact nc_P_none
  · exact h w
  · exact nc_P_none
  · exact nc_P_none
  · exact nc_P_none
theorem nc_P_jmp {pc : Nat} {off : Int} {F : Nat → nc_K → Option nc_R} (h : ∀ t, nc_P (F t)) : nc_P (fun κ => nc_jmp pc off (fun t => F t κ)) := by
  unfold nc_jmp
  split
  · exact h _
  · exact nc_P_none
theorem nc_P_if {c : ClassFile.Cond} {x y : Int32} {F G : nc_K → Option nc_R} (hF : nc_P F) (hG : nc_P G) : nc_P (fun κ => nc_if c x y (F κ) (G κ)) := by
  cases c <;> exact nc_P_ite hF hG
theorem nc_P_sw {pc : Nat} {x : Int32} {d : Int} {F : Nat → nc_K → Option nc_R} (h : ∀ t, nc_P (F t)) : ∀ (l : List Int) (k : Int), nc_P (fun κ => nc_sw pc x d (fun t => F t κ) k l)
  | [], _ => nc_P_jmp h
  | o :: os, k => nc_P_ite (nc_P_jmp h) (nc_P_sw h os (k + 1))
theorem nc_P_ans {rk : Nat} {x : Option nc_R} {rest : List nc_V} {F : List nc_V → nc_H → nc_K → Option nc_R} (h : ∀ st w, nc_P (F st w)) : nc_P (fun κ => nc_ans rk x rest (fun st w => F st w κ)) := by
  unfold nc_ans
  split
  · exact nc_P_bV (fun w => h _ w)
  · exact nc_P_bL (fun r w => h _ w)
  · exact nc_P_bI (fun r w => h _ w)
theorem nc_P_copy {w : nc_H} {t0 a0 : Nat} {sp : Int32} {t a : Nat} {dp n : Int32} {F : nc_H → nc_K → Option nc_R} (h : ∀ w, nc_P (F w)) : nc_P (fun κ => nc_copy w t0 a0 sp t a dp n (fun w => F w κ)) :=
  nc_P_ite nc_P_none (nc_P_cond (h _) (nc_P_cond (h _) nc_P_none))
theorem nc_P_inS {call : Nat → List nc_V → nc_H → Option nc_R} {M : Nat} {q : Nat × Nat × Nat} {st : List nc_V} {w : nc_H} {F : List nc_V → nc_H → nc_K → Option nc_R} (h : ∀ st w, nc_P (F st w)) : nc_P (fun κ => nc_inS call M q st w (fun st w => F st w κ)) := by
  unfold nc_inS
  split
  · exact nc_P_cond (h _ _) nc_P_none
  · exact nc_P_cond (h _ _) nc_P_none
  · exact nc_P_cond (h _ _) nc_P_none
  · exact nc_P_cond (nc_P_copy (fun w => h _ w)) nc_P_none
  · exact nc_P_cond (nc_P_ans h) nc_P_none
  · exact nc_P_none
theorem nc_P_inV {call : Nat → List nc_V → nc_H → Option nc_R} {M : Nat} {q : Nat × Nat × Nat} {st : List nc_V} {w : nc_H} {F : List nc_V → nc_H → nc_K → Option nc_R} (h : ∀ st w, nc_P (F st w)) : nc_P (fun κ => nc_inV call M q st w (fun st w => F st w κ)) := by
  unfold nc_inV
  refine nc_P_cond ?_ ?_
  · split
    · exact nc_P_cond (nc_P_ans h) nc_P_none
    · exact nc_P_none
  · split
    · exact nc_P_cond (h _ _) nc_P_none
    · exact nc_P_none
theorem nc_P_getf {t k a : Nat} {r : List nc_V} {w : nc_H} {F : List nc_V → nc_K → Option nc_R} (h : ∀ st, nc_P (F st)) : nc_P (fun κ => nc_getf t k a r w (fun st => F st κ)) := by
  unfold nc_getf
  split <;> first | exact h _ | exact nc_P_none
theorem nc_P_putf {t k a : Nat} {v : nc_V} {w : nc_H} {F : nc_H → nc_K → Option nc_R} (h : ∀ w, nc_P (F w)) : nc_P (fun κ => nc_putf t k a v w (fun w => F w κ)) := by
  unfold nc_putf
  split <;> first | exact h _ | exact nc_P_z (h _) | exact nc_P_none
set_option maxHeartbeats 4000000 in
theorem nc_P_ex {call : Nat → List nc_V → nc_H → Option nc_R} {M : Nat} {i : Instr} {pc : Nat} {ls : nc_L} {st : List nc_V} {w : nc_H} : nc_P (fun κ => nc_ex call M i pc ls st w κ) := by
  unfold nc_ex
  split <;> first
    | exact nc_P_at _ _ _ _
    | exact nc_P_none
    | exact nc_P_inS (fun _ _ => nc_P_at _ _ _ _)
    | exact nc_P_inV (fun _ _ => nc_P_at _ _ _ _)
    | exact nc_P_jmp (fun _ => nc_P_at _ _ _ _)
    | (split <;> first
      | exact nc_P_at _ _ _ _
      | exact nc_P_none
      | exact nc_P_ite nc_P_none (nc_P_at _ _ _ _)
      | exact nc_P_cond (nc_P_at _ _ _ _) nc_P_none
      | exact nc_P_if (nc_P_jmp (fun _ => nc_P_at _ _ _ _)) (nc_P_at _ _ _ _)
      | exact nc_P_jmp (fun _ => nc_P_at _ _ _ _)
      | exact nc_P_cond (nc_P_sw (fun _ => nc_P_at _ _ _ _) _ _) nc_P_none
      | exact nc_P_cond (nc_P_getf (fun _ => nc_P_at _ _ _ _)) nc_P_none
      | exact nc_P_cond (nc_P_putf (fun _ => nc_P_at _ _ _ _)) nc_P_none
      | exact nc_P_cond (nc_P_bd (fun _ => nc_P_at _ _ _ _)) nc_P_none
      | exact nc_P_cond (nc_P_bd (fun _ => nc_P_at _ _ _ _)) (nc_P_cond (nc_P_bd (fun _ => nc_P_z (nc_P_at _ _ _ _))) nc_P_none)
      | exact nc_P_cond (nc_P_ret _) (nc_P_cond (nc_P_z (nc_P_ret _)) nc_P_none)
      | exact nc_P_cond (nc_P_ret _) nc_P_none)
theorem nc_P_trim {M : Nat} {F : nc_K → Option nc_R} (h : nc_P F) : nc_P (fun κ => F (fun pc' ls' st' w' => κ pc' (nc_trim M pc' ls') st' w')) := by
  intro κ r hr
  rcases h _ r hr with h1 | ⟨pc, ls, st, w, h1, h2⟩
  · exact Or.inl (fun κ' => h1 _)
  · exact Or.inr ⟨pc, nc_trim M pc ls, st, w, h1, fun κ' h' => h2 _ h'⟩
theorem nc_P_step {call : Nat → List nc_V → nc_H → Option nc_R} {M pc : Nat} {ls : nc_L} {st : List nc_V} {w : nc_H} : nc_P (fun κ => nc_step call M pc ls st w κ) := by
  unfold nc_step
  split
  · exact nc_P_trim nc_P_ex
  · exact nc_P_none
theorem nc_go_succ {call : Nat → List nc_V → nc_H → Option nc_R} {M : Nat} : ∀ (n pc : Nat) (ls : nc_L) (st : List nc_V) (w : nc_H) (r : nc_R), nc_go call M n pc ls st w = some r → nc_go call M (n + 1) pc ls st w = some r
  | 0, _, _, _, _, _, h => by cases h
  | n + 1, pc, ls, st, w, r, h => by
    rcases nc_P_step _ r h with h1 | ⟨a, b, c, d, h1, h2⟩
    · exact h1 _
    · exact h2 _ (nc_go_succ n a b c d r h1)
theorem nc_go_le {call : Nat → List nc_V → nc_H → Option nc_R} {M n pc : Nat} {ls : nc_L} {st : List nc_V} {w : nc_H} {r : nc_R} (h : nc_go call M n pc ls st w = some r) : ∀ k, nc_go call M (n + k) pc ls st w = some r
  | 0 => h
  | k + 1 => nc_go_succ _ _ _ _ _ _ (nc_go_le h k)
/-- the limit -/
noncomputable def nc_lim (call : Nat → List nc_V → nc_H → Option nc_R) (M : Nat) : nc_K := fun pc ls st w =>
  @dite (Option nc_R) (∃ r, ∃ n, nc_go call M n pc ls st w = some r) (Classical.propDecidable _) (fun h => some (Classical.choose h)) (fun _ => none)
theorem nc_lim_iff {call : Nat → List nc_V → nc_H → Option nc_R} {M pc : Nat} {ls : nc_L} {st : List nc_V} {w : nc_H} {r : nc_R} : nc_lim call M pc ls st w = some r ↔ ∃ n, nc_go call M n pc ls st w = some r := by
  unfold nc_lim
  constructor
  · intro h
    split at h
    next hx =>
      cases h
      exact Classical.choose_spec hx
    next => cases h
  · rintro ⟨n, hn⟩
    have hx : ∃ r, ∃ n, nc_go call M n pc ls st w = some r := ⟨r, n, hn⟩
    rw [dif_pos hx]
    obtain ⟨k, hk⟩ := Classical.choose_spec hx
    have h1 := nc_go_le hn k
    have h2 := nc_go_le hk n
    rw [Nat.add_comm] at h2
    rw [h1] at h2
    exact h2.symm
theorem nc_lim_step {call : Nat → List nc_V → nc_H → Option nc_R} {M pc : Nat} {ls : nc_L} {st : List nc_V} {w : nc_H} : nc_lim call M pc ls st w = nc_step call M pc ls st w (nc_lim call M) := by
  have key : ∀ r, nc_lim call M pc ls st w = some r ↔ nc_step call M pc ls st w (nc_lim call M) = some r := by
    intro r
    constructor
    · intro h
      obtain ⟨n, hn⟩ := nc_lim_iff.mp h
      cases n with
      | zero => cases hn
      | succ n =>
        rcases nc_P_step _ r hn with h1 | ⟨a, b, c, d, h1, h2⟩
        · exact h1 _
        · exact h2 _ (nc_lim_iff.mpr ⟨n, h1⟩)
    · intro h
      rcases nc_P_step _ r h with h1 | ⟨a, b, c, d, h1, h2⟩
      · exact nc_lim_iff.mpr ⟨1, h1 _⟩
      · obtain ⟨n, hn⟩ := nc_lim_iff.mp h1
        exact nc_lim_iff.mpr ⟨n + 1, h2 _ hn⟩
  rcases h1 : nc_lim call M pc ls st w with _ | r
  · rcases h2 : nc_step call M pc ls st w (nc_lim call M) with _ | r
    · rfl
    · rw [(key r).mpr h2] at h1
      cases h1
  · exact ((key r).mp h1).symm
/-! calls: a method calls those that stand ahead of it -/
noncomputable def nc_calls : Nat → Nat → List nc_V → nc_H → Option nc_R
  | 0 => fun _ _ _ => none
  | d + 1 => fun M args w => if M = d then (if (nc_args args).length ≤ nc_mL M then nc_lim (nc_calls d) M 0 (nc_pad (nc_mL M) (nc_args args)) [] w else none) else nc_calls d M args w
/-- what a call of method M gives -/
noncomputable def nc_Call (M : Nat) (args : List nc_V) (w : nc_H) : Option nc_R := nc_calls (M + 1) M args w
theorem nc_calls_lt {M : Nat} : ∀ {d : Nat}, M < d → nc_calls d M = nc_Call M
  | 0, h => absurd h (Nat.not_lt_zero _)
  | d + 1, h => by
    by_cases e : M = d
    · subst e
      rfl
    · have h1 : nc_calls (d + 1) M = nc_calls d M := by
        funext args w
        simp only [nc_calls]
        rw [if_neg e]
      rw [h1]
      exact nc_calls_lt (by omega)
theorem nc_calls_ge {M : Nat} : ∀ {d : Nat}, d ≤ M → nc_calls d M = fun _ _ => none
  | 0, _ => rfl
  | d + 1, h => by
    have h1 : nc_calls (d + 1) M = nc_calls d M := by
      funext args w
      simp only [nc_calls]
      rw [if_neg (by omega)]
    rw [h1]
    exact nc_calls_ge (by omega)
noncomputable def nc_callB (d M : Nat) (args : List nc_V) (w : nc_H) : Option nc_R := cond (Nat.blt M d) (nc_Call M args w) none
theorem nc_calls_B (d : Nat) : nc_calls d = nc_callB d := by
  funext M args w
  unfold nc_callB
  rcases h : Nat.blt M d with _ | _
  · have h1 : d ≤ M := Nat.le_of_not_lt (fun q => by
      have := Nat.blt_eq.mpr q
      rw [h] at this
      cases this)
    rw [nc_calls_ge h1]
    rfl
  · rw [nc_calls_lt (Nat.blt_eq.mp h)]
    rfl
/-- method M, from a place of its code on -/
noncomputable def nc_Run (M : Nat) : nc_K := nc_lim (nc_callB M) M
theorem nc_Run_step (M pc : Nat) (ls : nc_L) (st : List nc_V) (w : nc_H) : nc_Run M pc ls st w = nc_step (nc_callB M) M pc ls st w (nc_Run M) := nc_lim_step
theorem nc_Call_eq (M : Nat) (args : List nc_V) (w : nc_H) : nc_Call M args w = if (nc_args args).length ≤ nc_mL M then nc_Run M 0 (nc_pad (nc_mL M) (nc_args args)) [] w else none := by
  show nc_calls (M + 1) M args w = _
  simp only [nc_calls, if_true, nc_calls_B]
  rfl
/-- k steps at most, up to the places that stand in 'stops' -/
noncomputable def nc_un (stops : List Nat) (M : Nat) (k : Nat) : nc_K :=
  Nat.rec (motive := fun _ => nc_K) (nc_Run M) (fun _ ih pc ls st w => nc_step (nc_callB M) M pc ls st w (fun pc' ls' st' w' => cond (stops.any (Nat.beq pc')) (nc_Run M pc' ls' st' w') (ih pc' ls' st' w'))) k
theorem nc_un_eq (stops : List Nat) (M : Nat) : ∀ k, nc_un stops M k = nc_Run M
  | 0 => rfl
  | k + 1 => by
    funext pc ls st w
    show nc_step (nc_callB M) M pc ls st w (fun pc' ls' st' w' => cond (stops.any (Nat.beq pc')) (nc_Run M pc' ls' st' w') (nc_un stops M k pc' ls' st' w')) = _
    rw [nc_un_eq stops M k, nc_Run_step]
    congr 1
    funext pc' ls' st' w'
    cases stops.any (Nat.beq pc') <;> rfl
theorem nc_Run_un (stops : List Nat) (k : Nat) {M pc : Nat} {ls : nc_L} {st : List nc_V} {w : nc_H} : nc_Run M pc ls st w = nc_un stops M k pc ls st w := by rw [nc_un_eq]
end
section
def nc_lt (w : nc_H) (k : nc_H → Option nc_R) : Option nc_R := k w
def nc_li (x : Int32) (k : Int32 → Option nc_R) : Option nc_R := k x
def nc_ll (x : Int64) (k : Int64 → Option nc_R) : Option nc_R := k x
end
section
set_option maxRecDepth 100000 in
theorem qc_X1_setAfter (xa : Int32) (xb : Int32) (w : nc_H) : nc_Call m_X1_setAfter [.inl xa, .inl xb] w =
  some (some (.inl ((xa - xb) &&& xb)), w) :=
  (nc_Call_eq _ _ _).trans ((if_pos (Nat.le_of_ble_eq_true rfl)).trans ((nc_Run_un [] 6).trans rfl))
set_option maxRecDepth 100000 in
theorem qc_X1_countNews (aa : Nat) (xb : Int32) (w : nc_H) : nc_Call m_X1_countNews [.inr (.inr (1, aa)), .inl xb] w =
  nc_Run m_X1_countNews 2 [some (.inr (.inr (1, aa))), some (.inl xb), some (.inl 0)] [] w :=
  (nc_Call_eq _ _ _).trans ((if_pos (Nat.le_of_ble_eq_true rfl)).trans ((nc_Run_un [2] 3).trans rfl))
set_option maxRecDepth 100000 in
theorem qr_X1_countNews_2 (aa : Nat) (xb : Int32) (xc : Int32) (w : nc_H) : nc_Run m_X1_countNews 2 [some (.inr (.inr (1, aa))), some (.inl xb), some (.inl xc)] [] w =
  if (w.1 2 0 3) ≤ xc then
    some (none, w)
  else
    nc_bd xc 10 fun j1 =>
    nc_bd xc 10 fun j2 =>
    nc_lt (nc_si w 167 aa j2 ((w.1 167 aa j1) + ((xb >>> (xc &&& 31)) &&& 1))) fun w3 =>
    nc_li (xc + 1) fun x4 =>
    nc_Run m_X1_countNews 2 [some (.inr (.inr (1, aa))), some (.inl xb), some (.inl x4)] [] w3 :=
  (nc_Run_un [2] 20).trans rfl
set_option maxRecDepth 100000 in
theorem qc_X2_isLie (aa : Nat) (xb : Int32) (w : nc_H) : nc_Call m_X2_isLie [.inr (.inr (2, aa)), .inl xb] w =
  if (((w.1 2 aa 6) >>> (xb &&& 31)) &&& 1) ≠ 1 then
    some (some (.inl 0), w)
  else
    some (some (.inl 1), w) :=
  (nc_Call_eq _ _ _).trans ((if_pos (Nat.le_of_ble_eq_true rfl)).trans ((nc_Run_un [] 11).trans rfl))
set_option maxRecDepth 100000 in
theorem qc_X2_allCows (aa : Nat) (w : nc_H) : nc_Call m_X2_allCows [.inr (.inr (2, aa))] w =
  some (some (.inl ((1 <<< ((w.1 2 aa 2) &&& 31)) - 1)), w) :=
  (nc_Call_eq _ _ _).trans ((if_pos (Nat.le_of_ble_eq_true rfl)).trans ((nc_Run_un [] 7).trans rfl))
set_option maxRecDepth 100000 in
theorem qc_X2_allNews (aa : Nat) (w : nc_H) : nc_Call m_X2_allNews [.inr (.inr (2, aa))] w =
  some (some (.inl ((1 <<< ((w.1 2 aa 3) &&& 31)) - 1)), w) :=
  (nc_Call_eq _ _ _).trans ((if_pos (Nat.le_of_ble_eq_true rfl)).trans ((nc_Run_un [] 7).trans rfl))
set_option maxRecDepth 100000 in
theorem qc_X2_slotOf (aa : Nat) (yb : Int64) (w : nc_H) : nc_Call m_X2_slotOf [.inr (.inr (2, aa)), .inr (.inl yb)] w =
  nc_Run m_X2_slotOf 2 [some (.inr (.inr (2, aa))), some (.inr (.inl yb)), none, some (.inl 0)] [] w :=
  (nc_Call_eq _ _ _).trans ((if_pos (Nat.le_of_ble_eq_true rfl)).trans ((nc_Run_un [2] 3).trans rfl))
set_option maxRecDepth 100000 in
theorem qr_X2_slotOf_2 (aa : Nat) (yb : Int64) (xd : Int32) (w : nc_H) : nc_Run m_X2_slotOf 2 [some (.inr (.inr (2, aa))), some (.inr (.inl yb)), none, some (.inl xd)] [] w =
  if (22 : Int32) ≤ xd then
    some (some (.inl (-1)), w)
  else
    nc_bd xd 22 fun j1 =>
    if (lg_cmp (w.2 236 aa j1) yb) ≠ 0 then
      nc_li (xd + 1) fun x2 =>
      nc_Run m_X2_slotOf 2 [some (.inr (.inr (2, aa))), some (.inr (.inl yb)), none, some (.inl x2)] [] w
    else
      some (some (.inl xd), w) :=
  (nc_Run_un [2] 13).trans rfl
set_option maxRecDepth 100000 in
theorem qc_X2_hedgesOf (aa : Nat) (xb : Int32) (w : nc_H) : nc_Call m_X2_hedgesOf [.inr (.inr (2, aa)), .inl xb] w =
  nc_Run m_X2_hedgesOf 4 [some (.inr (.inr (2, aa))), some (.inl xb), some (.inl 0), some (.inl 0)] [] w :=
  (nc_Call_eq _ _ _).trans ((if_pos (Nat.le_of_ble_eq_true rfl)).trans ((nc_Run_un [4] 5).trans rfl))
set_option maxRecDepth 100000 in
theorem qr_X2_hedgesOf_4 (aa : Nat) (xb : Int32) (xc : Int32) (xd : Int32) (w : nc_H) : nc_Run m_X2_hedgesOf 4 [some (.inr (.inr (2, aa))), some (.inl xb), some (.inl xc), some (.inl xd)] [] w =
  if (w.1 2 aa 4) ≤ xd then
    some (some (.inl xc), w)
  else
    nc_bd xd 6 fun j1 =>
    if (w.1 244 aa j1) = xb then
      nc_li (xc ||| (1 <<< (xd &&& 31))) fun x2 =>
      nc_li (xd + 1) fun x3 =>
      nc_Run m_X2_hedgesOf 4 [some (.inr (.inr (2, aa))), some (.inl xb), some (.inl x2), some (.inl x3)] [] w
    else
      nc_bd xd 6 fun j4 =>
      if (w.1 245 aa j4) ≠ xb then
        nc_li (xd + 1) fun x5 =>
        nc_Run m_X2_hedgesOf 4 [some (.inr (.inr (2, aa))), some (.inl xb), some (.inl xc), some (.inl x5)] [] w
      else
        nc_li (xc ||| (1 <<< (xd &&& 31))) fun x6 =>
        nc_li (xd + 1) fun x7 =>
        nc_Run m_X2_hedgesOf 4 [some (.inr (.inr (2, aa))), some (.inl xb), some (.inl x6), some (.inl x7)] [] w :=
  (nc_Run_un [4] 25).trans rfl
set_option maxRecDepth 100000 in
theorem qc_X2_comesTo (aa : Nat) (xb : Int32) (xc : Int32) (xd : Int32) (w : nc_H) : nc_Call m_X2_comesTo [.inr (.inr (2, aa)), .inl xb, .inl xc, .inl xd] w =
  nc_li (1 <<< (xb &&& 31)) fun x1 =>
  nc_Run m_X2_comesTo 8 [some (.inr (.inr (2, aa))), none, some (.inl xc), some (.inl xd), some (.inl x1), some (.inl 1), none, none] [] w :=
  (nc_Call_eq _ _ _).trans ((if_pos (Nat.le_of_ble_eq_true rfl)).trans ((nc_Run_un [8, 20] 7).trans rfl))
set_option maxRecDepth 100000 in
theorem qr_X2_comesTo_8 (aa : Nat) (xc : Int32) (xd : Int32) (xe : Int32) (xf : Int32) (w : nc_H) : nc_Run m_X2_comesTo 8 [some (.inr (.inr (2, aa))), none, some (.inl xc), some (.inl xd), some (.inl xe), some (.inl xf), none, none] [] w =
  if (w.1 2 aa 1) ≤ xf then
    if ((xe >>> (xc &&& 31)) &&& 1) ≠ 1 then
      some (some (.inl 0), w)
    else
      some (some (.inl 1), w)
  else
    nc_Run m_X2_comesTo 20 [some (.inr (.inr (2, aa))), none, some (.inl xc), some (.inl xd), some (.inl xe), some (.inl xf), some (.inl 0), none] [] w :=
  (nc_Run_un [8, 20] 14).trans rfl
set_option maxRecDepth 100000 in
theorem qr_X2_comesTo_20 (aa : Nat) (xc : Int32) (xd : Int32) (xe : Int32) (xf : Int32) (xg : Int32) (w : nc_H) : nc_Run m_X2_comesTo 20 [some (.inr (.inr (2, aa))), none, some (.inl xc), some (.inl xd), some (.inl xe), some (.inl xf), some (.inl xg), none] [] w =
  if (w.1 2 aa 4) ≤ xg then
    nc_li (xf + 1) fun x1 =>
    nc_Run m_X2_comesTo 8 [some (.inr (.inr (2, aa))), none, some (.inl xc), some (.inl xd), some (.inl xe), some (.inl x1), none, none] [] w
  else
    nc_bd xg 6 fun j2 =>
    nc_bd xg 6 fun j3 =>
    nc_li ((1 <<< ((w.1 244 aa j2) &&& 31)) ||| (1 <<< ((w.1 245 aa j3) &&& 31))) fun x4 =>
    if ((xd >>> (xg &&& 31)) &&& 1) ≠ 0 then
      nc_li (xg + 1) fun x5 =>
      nc_Run m_X2_comesTo 20 [some (.inr (.inr (2, aa))), none, some (.inl xc), some (.inl xd), some (.inl xe), some (.inl xf), some (.inl x5), none] [] w
    else
      if (xe &&& x4) = 0 then
        nc_li (xg + 1) fun x6 =>
        nc_Run m_X2_comesTo 20 [some (.inr (.inr (2, aa))), none, some (.inl xc), some (.inl xd), some (.inl xe), some (.inl xf), some (.inl x6), none] [] w
      else
        nc_li (xe ||| x4) fun x7 =>
        nc_li (xg + 1) fun x8 =>
        nc_Run m_X2_comesTo 20 [some (.inr (.inr (2, aa))), none, some (.inl xc), some (.inl xd), some (.inl x7), some (.inl xf), some (.inl x8), none] [] w :=
  (nc_Run_un [8, 20] 35).trans rfl
set_option maxRecDepth 100000 in
theorem qc_X4_draw (aa : Nat) (xb : Int32) (w : nc_H) : nc_Call m_X4_draw [.inr (.inr (4, aa)), .inl xb] w =
  nc_lt (nc_si w 4 aa 0 (((w.1 4 aa 0) * 1103515245) + 12345)) fun w1 =>
  if xb ≤ 0 then
    some (some (.inl 0), w1)
  else
    if xb = 0 then none else
    some (some (.inl ((((w1.1 4 aa 0).toUInt32 >>> ((8 : Int32).toUInt32 &&& Int32.toUInt32 31)).toInt32) - (((w1.1 4 aa 0).toUInt32 >>> ((8 : Int32).toUInt32 &&& Int32.toUInt32 31)).toInt32) / xb * xb)), w1) :=
  (nc_Call_eq _ _ _).trans ((if_pos (Nat.le_of_ble_eq_true rfl)).trans ((nc_Run_un [] 18).trans rfl))
set_option maxRecDepth 100000 in
theorem qc_X5_clear (aa : Nat) (w : nc_H) : nc_Call m_X5_clear [.inr (.inr (5, aa))] w =
  nc_lt (nc_si w 5 aa 2 0) fun w1 =>
  some (none, w1) :=
  (nc_Call_eq _ _ _).trans ((if_pos (Nat.le_of_ble_eq_true rfl)).trans ((nc_Run_un [] 4).trans rfl))
set_option maxRecDepth 100000 in
theorem qc_X7_isDry (aa : Nat) (xb : Int32) (w : nc_H) : nc_Call m_X7_isDry [.inr (.inr (7, aa)), .inl xb] w =
  if (((w.1 7 aa 3) >>> (xb &&& 31)) &&& 1) ≠ 1 then
    some (some (.inl 0), w)
  else
    some (some (.inl 1), w) :=
  (nc_Call_eq _ _ _).trans ((if_pos (Nat.le_of_ble_eq_true rfl)).trans ((nc_Run_un [] 11).trans rfl))
set_option maxRecDepth 100000 in
theorem qc_X7_isCurdled (aa : Nat) (xb : Int32) (w : nc_H) : nc_Call m_X7_isCurdled [.inr (.inr (7, aa)), .inl xb] w =
  nc_bd xb 8 fun j1 =>
  if (6 : Int32) < ((w.1 7 aa 1) - (w.1 558 aa j1)) then
    some (some (.inl 0), w)
  else
    some (some (.inl 1), w) :=
  (nc_Call_eq _ _ _).trans ((if_pos (Nat.le_of_ble_eq_true rfl)).trans ((nc_Run_un [] 12).trans rfl))
set_option maxRecDepth 100000 in
theorem qc_X7_comes (aa : Nat) (xb : Int32) (xc : Int32) (w : nc_H) : nc_Call m_X7_comes [.inr (.inr (7, aa)), .inl xb, .inl xc] w =
  nc_bd xb 8 fun j1 =>
  nc_bd xb 8 fun j2 =>
  nc_lt (nc_si w 554 aa j2 ((w.1 554 aa j1) ||| (1 <<< (xc &&& 31)))) fun w3 =>
  nc_bd ((xb * 10) + xc) 80 fun j4 =>
  nc_lt (nc_si w3 553 aa j4 (w3.1 7 aa 1)) fun w5 =>
  some (none, w5) :=
  (nc_Call_eq _ _ _).trans ((if_pos (Nat.le_of_ble_eq_true rfl)).trans ((nc_Run_un [] 21).trans rfl))
set_option maxRecDepth 100000 in
theorem qc_X7_addedBy (aa : Nat) (xb : Int32) (xc : Int32) (xd : Int32) (w : nc_H) : nc_Call m_X7_addedBy [.inr (.inr (7, aa)), .inl xb, .inl xc, .inl xd] w =
  nc_bd xb 10 fun j1 =>
  if (w.1 242 (nc_ld aa) j1) = 0 then
    nc_Run m_X7_addedBy 27 [some (.inr (.inr (7, aa))), some (.inl xb), some (.inl xc), some (.inl xd), none] [] w
  else
    nc_bd xb 10 fun j2 =>
    if (w.1 242 (nc_ld aa) j2) = 1 then
      nc_Run m_X7_addedBy 27 [some (.inr (.inr (7, aa))), some (.inl xb), some (.inl xc), some (.inl xd), none] [] w
    else
      some (some (.inl 0), w) :=
  (nc_Call_eq _ _ _).trans ((if_pos (Nat.le_of_ble_eq_true rfl)).trans ((nc_Run_un [27] 15).trans rfl))
set_option maxRecDepth 100000 in
theorem qr_X7_addedBy_27 (aa : Nat) (xb : Int32) (xc : Int32) (xd : Int32) (w : nc_H) : nc_Run m_X7_addedBy 27 [some (.inr (.inr (7, aa))), some (.inl xb), some (.inl xc), some (.inl xd), none] [] w =
  nc_bd xb 10 fun j1 =>
  nc_li (w.1 243 (nc_ld aa) j1) fun x2 =>
  if ((((w.1 2 (nc_ld aa) 6) &&& ((w.1 7 aa 4) ^^^ (-1))) >>> (xb &&& 31)) &&& 1) ≠ 1 then
    nc_bd xb 10 fun j3 =>
    if (w.1 242 (nc_ld aa) j3) ≠ 1 then
      if ((xd >>> (xb &&& 31)) &&& 1) ≠ 1 then
        some (some (.inl x2), w)
      else
        some (some (.inl (x2 / 2)), w)
    else
      if ((xc >>> (xb &&& 31)) &&& 1) ≠ 1 then
        if ((xd >>> (xb &&& 31)) &&& 1) ≠ 1 then
          some (some (.inl x2), w)
        else
          some (some (.inl (x2 / 2)), w)
      else
        nc_li (x2 * 2) fun x4 =>
        if ((xd >>> (xb &&& 31)) &&& 1) ≠ 1 then
          some (some (.inl x4), w)
        else
          some (some (.inl (x4 / 2)), w)
  else
    nc_li (x2 + 5) fun x5 =>
    nc_bd xb 10 fun j6 =>
    if (w.1 242 (nc_ld aa) j6) ≠ 1 then
      if ((xd >>> (xb &&& 31)) &&& 1) ≠ 1 then
        some (some (.inl x5), w)
      else
        some (some (.inl (x5 / 2)), w)
    else
      if ((xc >>> (xb &&& 31)) &&& 1) ≠ 1 then
        if ((xd >>> (xb &&& 31)) &&& 1) ≠ 1 then
          some (some (.inl x5), w)
        else
          some (some (.inl (x5 / 2)), w)
      else
        nc_li (x5 * 2) fun x7 =>
        if ((xd >>> (xb &&& 31)) &&& 1) ≠ 1 then
          some (some (.inl x7), w)
        else
          some (some (.inl (x7 / 2)), w) :=
  (nc_Run_un [27] 51).trans rfl
set_option maxRecDepth 100000 in
theorem qc_X7_heardByOthers (aa : Nat) (xb : Int32) (w : nc_H) : nc_Call m_X7_heardByOthers [.inr (.inr (7, aa)), .inl xb] w =
  nc_Run m_X7_heardByOthers 4 [some (.inr (.inr (7, aa))), some (.inl xb), some (.inl 0), some (.inl 0)] [] w :=
  (nc_Call_eq _ _ _).trans ((if_pos (Nat.le_of_ble_eq_true rfl)).trans ((nc_Run_un [4] 5).trans rfl))
set_option maxRecDepth 100000 in
theorem qr_X7_heardByOthers_4 (aa : Nat) (xb : Int32) (xc : Int32) (xd : Int32) (w : nc_H) : nc_Run m_X7_heardByOthers 4 [some (.inr (.inr (7, aa))), some (.inl xb), some (.inl xc), some (.inl xd)] [] w =
  if (w.1 2 (nc_ld aa) 2) ≤ xd then
    some (some (.inl xc), w)
  else
    if xd = xb then
      nc_li (xd + 1) fun x1 =>
      nc_Run m_X7_heardByOthers 4 [some (.inr (.inr (7, aa))), some (.inl xb), some (.inl xc), some (.inl x1)] [] w
    else
      nc_bd xd 8 fun j2 =>
      nc_bd xb 8 fun j3 =>
      if (w.1 238 (nc_ld aa) j2) ≠ (w.1 238 (nc_ld aa) j3) then
        nc_li (xd + 1) fun x4 =>
        nc_Run m_X7_heardByOthers 4 [some (.inr (.inr (7, aa))), some (.inl xb), some (.inl xc), some (.inl x4)] [] w
      else
        nc_bd xd 8 fun j5 =>
        nc_li (xc ||| (w.1 555 aa j5)) fun x6 =>
        nc_li (xd + 1) fun x7 =>
        nc_Run m_X7_heardByOthers 4 [some (.inr (.inr (7, aa))), some (.inl xb), some (.inl x6), some (.inl x7)] [] w :=
  (nc_Run_un [4] 29).trans rfl
set_option maxRecDepth 100000 in
theorem qc_X7_talking (aa : Nat) (w : nc_H) : nc_Call m_X7_talking [.inr (.inr (7, aa))] w =
  nc_Run m_X7_talking 4 [some (.inr (.inr (7, aa))), some (.inl 0), some (.inl 0), none] [] w :=
  (nc_Call_eq _ _ _).trans ((if_pos (Nat.le_of_ble_eq_true rfl)).trans ((nc_Run_un [4] 5).trans rfl))
set_option maxRecDepth 100000 in
theorem qr_X7_talking_4 (aa : Nat) (xb : Int32) (xc : Int32) (w : nc_H) : nc_Run m_X7_talking 4 [some (.inr (.inr (7, aa))), some (.inl xb), some (.inl xc), none] [] w =
  if (w.1 2 (nc_ld aa) 4) ≤ xc then
    some (some (.inl xb), w)
  else
    nc_bd xc 6 fun j1 =>
    nc_li (w.1 246 (nc_ld aa) j1) fun x2 =>
    if x2 ≤ 0 then
      nc_li (xc + 1) fun x3 =>
      nc_Run m_X7_talking 4 [some (.inr (.inr (7, aa))), some (.inl xb), some (.inl x3), none] [] w
    else
      if x2 = 0 then none else
      if (((w.1 7 aa 1) + 1) - ((w.1 7 aa 1) + 1) / x2 * x2) ≠ 0 then
        nc_li (xc + 1) fun x4 =>
        nc_Run m_X7_talking 4 [some (.inr (.inr (7, aa))), some (.inl xb), some (.inl x4), none] [] w
      else
        nc_li (xb ||| (1 <<< (xc &&& 31))) fun x5 =>
        nc_li (xc + 1) fun x6 =>
        nc_Run m_X7_talking 4 [some (.inr (.inr (7, aa))), some (.inl x5), some (.inl x6), none] [] w :=
  (nc_Run_un [4] 29).trans rfl
set_option maxRecDepth 100000 in
theorem qc_X7_forget (aa : Nat) (xb : Int32) (w : nc_H) : nc_Call m_X7_forget [.inr (.inr (7, aa)), .inl xb] w =
  nc_Run m_X7_forget 2 [some (.inr (.inr (7, aa))), some (.inl xb), some (.inl 0)] [] w :=
  (nc_Call_eq _ _ _).trans ((if_pos (Nat.le_of_ble_eq_true rfl)).trans ((nc_Run_un [2] 3).trans rfl))
set_option maxRecDepth 100000 in
theorem qr_X7_forget_2 (aa : Nat) (xb : Int32) (xc : Int32) (w : nc_H) : nc_Run m_X7_forget 2 [some (.inr (.inr (7, aa))), some (.inl xb), some (.inl xc)] [] w =
  if (w.1 2 (nc_ld aa) 3) ≤ xc then
    some (none, w)
  else
    nc_bd xb 8 fun j1 =>
    if ((w.1 554 aa j1) >>> (xc &&& 31)) = 0 then
      some (none, w)
    else
      nc_bd ((xb * 10) + xc) 80 fun j2 =>
      nc_bd xb 8 fun j3 =>
      if ((w.1 7 aa 1) - (w.1 553 aa j2)) ≤ (w.1 241 (nc_ld aa) j3) then
        nc_li (xc + 1) fun x4 =>
        nc_Run m_X7_forget 2 [some (.inr (.inr (7, aa))), some (.inl xb), some (.inl x4)] [] w
      else
        nc_bd xb 8 fun j5 =>
        nc_bd xb 8 fun j6 =>
        nc_lt (nc_si w 554 aa j6 ((w.1 554 aa j5) &&& ((1 <<< (xc &&& 31)) ^^^ (-1)))) fun w7 =>
        nc_li (xc + 1) fun x8 =>
        nc_Run m_X7_forget 2 [some (.inr (.inr (7, aa))), some (.inl xb), some (.inl x8)] [] w7 :=
  (nc_Run_un [2] 44).trans rfl
set_option maxRecDepth 100000 in
theorem qc_X7_allPails (aa : Nat) (w : nc_H) : nc_Call m_X7_allPails [.inr (.inr (7, aa))] w =
  nc_Run m_X7_allPails 4 [some (.inr (.inr (7, aa))), some (.inl 0), some (.inl 0)] [] w :=
  (nc_Call_eq _ _ _).trans ((if_pos (Nat.le_of_ble_eq_true rfl)).trans ((nc_Run_un [4] 5).trans rfl))
set_option maxRecDepth 100000 in
theorem qr_X7_allPails_4 (aa : Nat) (xb : Int32) (xc : Int32) (w : nc_H) : nc_Run m_X7_allPails 4 [some (.inr (.inr (7, aa))), some (.inl xb), some (.inl xc)] [] w =
  if (4 : Int32) ≤ xc then
    some (some (.inl xb), w)
  else
    nc_bd xc 4 fun j1 =>
    nc_li (xb + (w.1 561 aa j1)) fun x2 =>
    nc_li (xc + 1) fun x3 =>
    nc_Run m_X7_allPails 4 [some (.inr (.inr (7, aa))), some (.inl x2), some (.inl x3)] [] w :=
  (nc_Run_un [4] 13).trans rfl
set_option maxRecDepth 100000 in
theorem qc_X7_pailsOn (aa : Nat) (xb : Int32) (xc : Int32) (w : nc_H) : nc_Call m_X7_pailsOn [.inr (.inr (7, aa)), .inl xb, .inl xc] w =
  if xc < 0 then
    some (some (.inl (-1)), w)
  else
    if (w.1 7 aa 1) ≤ xc then
      some (some (.inl (-1)), w)
    else
      if ((w.1 7 aa 1) - 30) ≤ xc then
        nc_bd (((xc - xc / 30 * 30) * 4) + xb) 120 fun j1 =>
        some (some (.inl (w.1 562 aa j1)), w)
      else
        some (some (.inl (-1)), w) :=
  (nc_Call_eq _ _ _).trans ((if_pos (Nat.le_of_ble_eq_true rfl)).trans ((nc_Run_un [] 23).trans rfl))
set_option maxRecDepth 100000 in
theorem qc_X9_clear (aa : Nat) (w : nc_H) : nc_Call m_X9_clear [.inr (.inr (9, aa))] w =
  nc_lt (nc_si w 9 aa 3 0) fun w1 =>
  nc_lt (nc_si w1 9 aa 4 0) fun w2 =>
  some (none, w2) :=
  (nc_Call_eq _ _ _).trans ((if_pos (Nat.le_of_ble_eq_true rfl)).trans ((nc_Run_un [] 7).trans rfl))
set_option maxRecDepth 100000 in
theorem qc_X9_put (aa : Nat) (xb : Int32) (xc : Int32) (xd : Int32) (w : nc_H) : nc_Call m_X9_put [.inr (.inr (9, aa)), .inl xb, .inl xc, .inl xd] w =
  if (40 : Int32) ≤ (w.1 9 aa 3) then
    some (none, w)
  else
    nc_bd (w.1 9 aa 3) 40 fun j1 =>
    nc_lt (nc_si w 676 aa j1 xb) fun w2 =>
    nc_bd (w2.1 9 aa 3) 40 fun j3 =>
    nc_lt (nc_si w2 677 aa j3 xc) fun w4 =>
    nc_bd (w4.1 9 aa 3) 40 fun j5 =>
    nc_lt (nc_si w4 678 aa j5 xd) fun w6 =>
    nc_lt (nc_si w6 9 aa 3 ((w6.1 9 aa 3) + 1)) fun w7 =>
    some (none, w7) :=
  (nc_Call_eq _ _ _).trans ((if_pos (Nat.le_of_ble_eq_true rfl)).trans ((nc_Run_un [] 29).trans rfl))
set_option maxRecDepth 100000 in
theorem qc_X9_compares (aa : Nat) (xb : Int32) (xc : Int32) (w : nc_H) : nc_Call m_X9_compares [.inr (.inr (9, aa)), .inl xb, .inl xc] w =
  nc_bd xc 40 fun j1 =>
  if (w.1 677 aa j1) ≠ 60 then
    nc_bd xc 40 fun j2 =>
    if (w.1 677 aa j2) ≠ 62 then
      nc_bd xc 40 fun j3 =>
      if xb ≠ (w.1 678 aa j3) then
        some (some (.inl 0), w)
      else
        some (some (.inl 1), w)
    else
      nc_bd xc 40 fun j4 =>
      if xb ≤ (w.1 678 aa j4) then
        some (some (.inl 0), w)
      else
        some (some (.inl 1), w)
  else
    nc_bd xc 40 fun j5 =>
    if (w.1 678 aa j5) ≤ xb then
      some (some (.inl 0), w)
    else
      some (some (.inl 1), w) :=
  (nc_Call_eq _ _ _).trans ((if_pos (Nat.le_of_ble_eq_true rfl)).trans ((nc_Run_un [] 21).trans rfl))
set_option maxRecDepth 100000 in
theorem qc_X10_withLetter (ya : Int64) (xc : Int32) (w : nc_H) : nc_Call m_X10_withLetter [.inr (.inl ya), .inl xc] w =
  some (some (.inr (.inl ((ya <<< ((5 : Int32).toInt64 &&& 63)) ||| ((xc &&& 31).toInt64)))), w) :=
  (nc_Call_eq _ _ _).trans ((if_pos (Nat.le_of_ble_eq_true rfl)).trans ((nc_Run_un [] 9).trans rfl))
set_option maxRecDepth 100000 in
theorem qc_X10_isLetter (xa : Int32) (w : nc_H) : nc_Call m_X10_isLetter [.inl xa] w =
  if xa < 97 then
    some (some (.inl 0), w)
  else
    if (122 : Int32) < xa then
      some (some (.inl 0), w)
    else
      some (some (.inl 1), w) :=
  (nc_Call_eq _ _ _).trans ((if_pos (Nat.le_of_ble_eq_true rfl)).trans ((nc_Run_un [] 9).trans rfl))
set_option maxRecDepth 100000 in
theorem qc_X10_isDigit (xa : Int32) (w : nc_H) : nc_Call m_X10_isDigit [.inl xa] w =
  if xa < 48 then
    some (some (.inl 0), w)
  else
    if (57 : Int32) < xa then
      some (some (.inl 0), w)
    else
      some (some (.inl 1), w) :=
  (nc_Call_eq _ _ _).trans ((if_pos (Nat.le_of_ble_eq_true rfl)).trans ((nc_Run_un [] 9).trans rfl))
set_option maxRecDepth 100000 in
theorem qc_X10_append (aa : Nat) (xb : Int32) (w : nc_H) : nc_Call m_X10_append [.inr (.inr (10, aa)), .inl xb] w =
  nc_Run m_X10_append 3 [some (.inr (.inr (10, aa))), some (.inl xb), some (.inl 24)] [] w :=
  (nc_Call_eq _ _ _).trans ((if_pos (Nat.le_of_ble_eq_true rfl)).trans ((nc_Run_un [3] 3).trans rfl))
set_option maxRecDepth 100000 in
theorem qr_X10_append_3 (aa : Nat) (xb : Int32) (xc : Int32) (w : nc_H) : nc_Run m_X10_append 3 [some (.inr (.inr (10, aa))), some (.inl xb), some (.inl xc)] [] w =
  if xc < 0 then
    some (none, w)
  else
    if (940 : Int32) ≤ (w.1 10 aa 1) then
      nc_li (xc + Int32.ofInt (-8)) fun x1 =>
      nc_Run m_X10_append 3 [some (.inr (.inr (10, aa))), some (.inl xb), some (.inl x1)] [] w
    else
      nc_bd (w.1 10 aa 1) 940 fun j2 =>
      nc_lt (nc_si w 740 aa j2 ((((xb.toUInt32 >>> (xc.toUInt32 &&& Int32.toUInt32 31)).toInt32).toInt8.toInt32).toInt8.toInt32)) fun w3 =>
      nc_lt (nc_si w3 10 aa 1 ((w3.1 10 aa 1) + 1)) fun w4 =>
      nc_li (xc + Int32.ofInt (-8)) fun x5 =>
      nc_Run m_X10_append 3 [some (.inr (.inr (10, aa))), some (.inl xb), some (.inl x5)] [] w4 :=
  (nc_Run_un [3] 24).trans rfl
set_option maxRecDepth 100000 in
theorem qc_X10_at (aa : Nat) (xb : Int32) (w : nc_H) : nc_Call m_X10_at [.inr (.inr (10, aa)), .inl xb] w =
  if xb < 0 then
    some (some (.inl (-1)), w)
  else
    if (940 : Int32) ≤ xb then
      some (some (.inl (-1)), w)
    else
      nc_bd xb 940 fun j1 =>
      some (some (.inl ((w.1 740 aa j1) &&& 255)), w) :=
  (nc_Call_eq _ _ _).trans ((if_pos (Nat.le_of_ble_eq_true rfl)).trans ((nc_Run_un [] 13).trans rfl))
set_option maxRecDepth 100000 in
theorem qc_X10_toldWord (aa : Nat) (yb : Int64) (w : nc_H) : nc_Call m_X10_toldWord [.inr (.inr (10, aa)), .inr (.inl yb)] w =
  nc_Run m_X10_toldWord 2 [some (.inr (.inr (10, aa))), some (.inr (.inl yb)), none, some (.inl 0)] [] w :=
  (nc_Call_eq _ _ _).trans ((if_pos (Nat.le_of_ble_eq_true rfl)).trans ((nc_Run_un [2] 3).trans rfl))
set_option maxRecDepth 100000 in
theorem qr_X10_toldWord_2 (aa : Nat) (yb : Int64) (xd : Int32) (w : nc_H) : nc_Run m_X10_toldWord 2 [some (.inr (.inr (10, aa))), some (.inr (.inl yb)), none, some (.inl xd)] [] w =
  if (24 : Int32) ≤ xd then
    some (some (.inl (-1)), w)
  else
    nc_bd xd 24 fun j1 =>
    if (lg_cmp (w.2 742 aa j1) yb) ≠ 0 then
      nc_li (xd + 1) fun x2 =>
      nc_Run m_X10_toldWord 2 [some (.inr (.inr (10, aa))), some (.inr (.inl yb)), none, some (.inl x2)] [] w
    else
      some (some (.inl xd), w) :=
  (nc_Run_un [2] 13).trans rfl
set_option maxRecDepth 100000 in
theorem qc_X10_add (aa : Nat) (xb : Int32) (xc : Int32) (xd : Int32) (ye : Int64) (w : nc_H) : nc_Call m_X10_add [.inr (.inr (10, aa)), .inl xb, .inl xc, .inl xd, .inr (.inl ye)] w =
  if (901 : Int32) ≤ (w.1 10 aa 7) then
    some (none, w)
  else
    nc_bd (w.1 10 aa 7) 901 fun j1 =>
    nc_lt (nc_si w 743 aa j1 xb) fun w2 =>
    nc_bd (w2.1 10 aa 7) 901 fun j3 =>
    nc_lt (nc_si w2 744 aa j3 xc) fun w4 =>
    nc_bd (w4.1 10 aa 7) 901 fun j5 =>
    nc_lt (nc_si w4 745 aa j5 xd) fun w6 =>
    nc_bd (w6.1 10 aa 7) 901 fun j7 =>
    nc_lt (nc_sl w6 746 aa j7 ye) fun w8 =>
    nc_lt (nc_si w8 10 aa 7 ((w8.1 10 aa 7) + 1)) fun w9 =>
    some (none, w9) :=
  (nc_Call_eq _ _ _).trans ((if_pos (Nat.le_of_ble_eq_true rfl)).trans ((nc_Run_un [] 35).trans rfl))
set_option maxRecDepth 100000 in
theorem qc_X10_next (aa : Nat) (w : nc_H) : nc_Call m_X10_next [.inr (.inr (10, aa))] w =
  if (w.1 10 aa 8) < 0 then
    some (none, w)
  else
    if (w.1 10 aa 7) ≤ (w.1 10 aa 8) then
      some (none, w)
    else
      if (901 : Int32) ≤ (w.1 10 aa 8) then
        some (none, w)
      else
        nc_bd (w.1 10 aa 8) 901 fun j1 =>
        nc_lt (nc_si w 10 aa 10 (w.1 743 aa j1)) fun w2 =>
        nc_bd (w2.1 10 aa 8) 901 fun j3 =>
        nc_lt (nc_si w2 10 aa 11 (w2.1 744 aa j3)) fun w4 =>
        nc_bd (w4.1 10 aa 8) 901 fun j5 =>
        nc_lt (nc_si w4 10 aa 12 (w4.1 745 aa j5)) fun w6 =>
        nc_bd (w6.1 10 aa 8) 901 fun j7 =>
        nc_lt (nc_sl w6 10 aa 13 (w6.2 746 aa j7)) fun w8 =>
        nc_lt (nc_si w8 10 aa 8 ((w8.1 10 aa 8) + 1)) fun w9 =>
        some (none, w9) :=
  (nc_Call_eq _ _ _).trans ((if_pos (Nat.le_of_ble_eq_true rfl)).trans ((nc_Run_un [] 47).trans rfl))
set_option maxRecDepth 100000 in
theorem qc_X10_fail (aa : Nat) (xb : Int32) (w : nc_H) : nc_Call m_X10_fail [.inr (.inr (10, aa)), .inl xb] w =
  nc_lt (nc_si w 10 aa 14 xb) fun w1 =>
  nc_lt (nc_si w1 10 aa 15 (w1.1 10 aa 10)) fun w2 =>
  some (some (.inl 0), w2) :=
  (nc_Call_eq _ _ _).trans ((if_pos (Nat.le_of_ble_eq_true rfl)).trans ((nc_Run_un [] 9).trans rfl))
set_option maxRecDepth 100000 in
theorem qc_X10_word (aa : Nat) (w : nc_H) : nc_Call m_X10_word [.inr (.inr (10, aa))] w =
  if (w.1 10 aa 11) ≠ 2 then
    some (some (.inl (-1)), w)
  else
    some (some (.inl (w.1 10 aa 12)), w) :=
  (nc_Call_eq _ _ _).trans ((if_pos (Nat.le_of_ble_eq_true rfl)).trans ((nc_Run_un [] 8).trans rfl))
set_option maxRecDepth 100000 in
theorem qc_X10_isSign (aa : Nat) (xb : Int32) (w : nc_H) : nc_Call m_X10_isSign [.inr (.inr (10, aa)), .inl xb] w =
  if (w.1 10 aa 11) ≠ 5 then
    some (some (.inl 0), w)
  else
    if (w.1 10 aa 12) ≠ xb then
      some (some (.inl 0), w)
    else
      some (some (.inl 1), w) :=
  (nc_Call_eq _ _ _).trans ((if_pos (Nat.le_of_ble_eq_true rfl)).trans ((nc_Run_un [] 11).trans rfl))
set_option maxRecDepth 100000 in
theorem qc_X11_end (aa : Nat) (xb : Int32) (w : nc_H) : nc_Call m_X11_end [.inr (.inr (11, aa)), .inl xb] w =
  if xb < 0 then
    some (some (.inl 0), w)
  else
    if xb ≤ (w.1 10 0 1) then
      nc_lt (nc_si w 10 0 1 xb) fun w1 =>
      some (some (.inl 1), w1)
    else
      some (some (.inl 0), w) :=
  (nc_Call_eq _ _ _).trans ((if_pos (Nat.le_of_ble_eq_true rfl)).trans ((nc_Run_un [] 13).trans rfl))
set_option maxRecDepth 100000 in
theorem qc_X11_fault (aa : Nat) (w : nc_H) : nc_Call m_X11_fault [.inr (.inr (11, aa))] w =
  some (some (.inl (w.1 10 0 14)), w) :=
  (nc_Call_eq _ _ _).trans ((if_pos (Nat.le_of_ble_eq_true rfl)).trans ((nc_Run_un [] 4).trans rfl))
set_option maxRecDepth 100000 in
theorem qc_X11_told (aa : Nat) (w : nc_H) : nc_Call m_X11_told [.inr (.inr (11, aa))] w =
  some (some (.inl (w.1 1 0 8)), w) :=
  (nc_Call_eq _ _ _).trans ((if_pos (Nat.le_of_ble_eq_true rfl)).trans ((nc_Run_un [] 4).trans rfl))
set_option maxRecDepth 100000 in
theorem qc_X11_planAt (aa : Nat) (xb : Int32) (w : nc_H) : nc_Call m_X11_planAt [.inr (.inr (11, aa)), .inl xb] w =
  if xb < 0 then
    some (some (.inl (-1)), w)
  else
    if (w.1 8 0 5) ≤ xb then
      some (some (.inl (-1)), w)
    else
      nc_bd xb 3 fun j1 =>
      some (some (.inl (w.1 616 0 j1)), w) :=
  (nc_Call_eq _ _ _).trans ((if_pos (Nat.le_of_ble_eq_true rfl)).trans ((nc_Run_un [] 14).trans rfl))
set_option maxRecDepth 100000 in
theorem qc_X11_parted (aa : Nat) (w : nc_H) : nc_Call m_X11_parted [.inr (.inr (11, aa))] w =
  some (some (.inl (w.1 11 aa 15)), w) :=
  (nc_Call_eq _ _ _).trans ((if_pos (Nat.le_of_ble_eq_true rfl)).trans ((nc_Run_un [] 3).trans rfl))
set_option maxRecDepth 100000 in
theorem qc_X11_surely (aa : Nat) (w : nc_H) : nc_Call m_X11_surely [.inr (.inr (11, aa))] w =
  some (some (.inl (w.1 1 0 9)), w) :=
  (nc_Call_eq _ _ _).trans ((if_pos (Nat.le_of_ble_eq_true rfl)).trans ((nc_Run_un [] 4).trans rfl))
set_option maxRecDepth 100000 in
theorem qc_X11_ask (aa : Nat) (w : nc_H) : nc_Call m_X11_ask [.inr (.inr (11, aa))] w =
  some (some (.inl (w.1 1 0 10)), w) :=
  (nc_Call_eq _ _ _).trans ((if_pos (Nat.le_of_ble_eq_true rfl)).trans ((nc_Run_un [] 4).trans rfl))
set_option maxRecDepth 100000 in
theorem qc_X11_written (aa : Nat) (xb : Int32) (w : nc_H) : nc_Call m_X11_written [.inr (.inr (11, aa)), .inl xb] w =
  if (w.1 0 0 4) ≠ 0 then
    if xb = 0 then
      some (some (.inl (w.1 0 0 5)), w)
    else
    if xb = 1 then
      some (some (.inl (w.1 0 0 6)), w)
    else
    if xb = 2 then
      some (some (.inl (w.1 0 0 7)), w)
    else
    if xb = 3 then
      some (some (.inl (w.1 0 0 8)), w)
    else
      some (some (.inl (-1)), w)
  else
    some (some (.inl (-1)), w) :=
  (nc_Call_eq _ _ _).trans ((if_pos (Nat.le_of_ble_eq_true rfl)).trans ((nc_Run_un [] 10).trans rfl))
set_option maxRecDepth 100000 in
theorem qc_X11_count (aa : Nat) (xb : Int32) (w : nc_H) : nc_Call m_X11_count [.inr (.inr (11, aa)), .inl xb] w =
  if xb = 0 then
    some (some (.inl (w.1 2 0 1)), w)
  else
  if xb = 1 then
    some (some (.inl (w.1 2 0 2)), w)
  else
  if xb = 2 then
    some (some (.inl (w.1 2 0 3)), w)
  else
  if xb = 3 then
    some (some (.inl (w.1 2 0 4)), w)
  else
  if xb = 4 then
    some (some (.inl (w.1 2 0 5)), w)
  else
  if xb = 5 then
    some (some (.inl (w.1 10 0 1)), w)
  else
    some (some (.inl (-1)), w) :=
  (nc_Call_eq _ _ _).trans ((if_pos (Nat.le_of_ble_eq_true rfl)).trans ((nc_Run_un [] 6).trans rfl))
set_option maxRecDepth 100000 in
theorem qc_X11_isFarm (aa : Nat) (xb : Int32) (w : nc_H) : nc_Call m_X11_isFarm [.inr (.inr (11, aa)), .inl xb] w =
  if xb < 0 then
    some (some (.inl 0), w)
  else
    if (w.1 2 0 1) ≤ xb then
      some (some (.inl 0), w)
    else
      some (some (.inl 1), w) :=
  (nc_Call_eq _ _ _).trans ((if_pos (Nat.le_of_ble_eq_true rfl)).trans ((nc_Run_un [] 10).trans rfl))
set_option maxRecDepth 100000 in
theorem qc_X11_isCow (aa : Nat) (xb : Int32) (w : nc_H) : nc_Call m_X11_isCow [.inr (.inr (11, aa)), .inl xb] w =
  if xb < 0 then
    some (some (.inl 0), w)
  else
    if (w.1 2 0 2) ≤ xb then
      some (some (.inl 0), w)
    else
      some (some (.inl 1), w) :=
  (nc_Call_eq _ _ _).trans ((if_pos (Nat.le_of_ble_eq_true rfl)).trans ((nc_Run_un [] 10).trans rfl))
set_option maxRecDepth 100000 in
theorem qc_X11_isNews (aa : Nat) (xb : Int32) (w : nc_H) : nc_Call m_X11_isNews [.inr (.inr (11, aa)), .inl xb] w =
  if xb < 0 then
    some (some (.inl 0), w)
  else
    if (w.1 2 0 3) ≤ xb then
      some (some (.inl 0), w)
    else
      some (some (.inl 1), w) :=
  (nc_Call_eq _ _ _).trans ((if_pos (Nat.le_of_ble_eq_true rfl)).trans ((nc_Run_un [] 10).trans rfl))
set_option maxRecDepth 100000 in
theorem qc_X11_cowsWith (aa : Nat) (tb : Nat) (ab : Nat) (xc : Int32) (w : nc_H) : nc_Call m_X11_cowsWith [.inr (.inr (11, aa)), .inr (.inr (tb, ab)), .inl xc] w =
  nc_Run m_X11_cowsWith 5 [some (.inr (.inr (11, aa))), some (.inr (.inr (tb, ab))), some (.inl xc), some (.inl 0), some (.inl 0)] [] w :=
  (nc_Call_eq _ _ _).trans ((if_pos (Nat.le_of_ble_eq_true rfl)).trans ((nc_Run_un [5] 5).trans rfl))
set_option maxRecDepth 100000 in
theorem qr_X11_cowsWith_5 (aa : Nat) (tb : Nat) (ab : Nat) (xc : Int32) (xd : Int32) (xe : Int32) (w : nc_H) : nc_Run m_X11_cowsWith 5 [some (.inr (.inr (11, aa))), some (.inr (.inr (tb, ab))), some (.inl xc), some (.inl xd), some (.inl xe)] [] w =
  if (w.1 2 0 2) ≤ xe then
    some (some (.inl xd), w)
  else
    cond (Nat.beq (nc_ak tb) 0) (
    nc_bd xe (nc_al tb) fun j1 =>
    nc_li (xd ||| ((((w.1 tb ab j1) >>> (xc &&& 31)) &&& 1) <<< (xe &&& 31))) fun x2 =>
    nc_li (xe + 1) fun x3 =>
    nc_Run m_X11_cowsWith 5 [some (.inr (.inr (11, aa))), some (.inr (.inr (tb, ab))), some (.inl xc), some (.inl x2), some (.inl x3)] [] w) none :=
  (nc_Run_un [5] 20).trans rfl
set_option maxRecDepth 100000 in
theorem qc_J6_bitCount_0f7a4 (xa : Int32) (w : nc_H) : nc_Call m_J6_bitCount_0f7a4 [.inl xa] w =
  nc_li (xa - (((xa.toUInt32 >>> ((1 : Int32).toUInt32 &&& Int32.toUInt32 31)).toInt32) &&& 1431655765)) fun x1 =>
  nc_li ((x1 &&& 858993459) + (((x1.toUInt32 >>> ((2 : Int32).toUInt32 &&& Int32.toUInt32 31)).toInt32) &&& 858993459)) fun x2 =>
  nc_li ((x2 + ((x2.toUInt32 >>> ((4 : Int32).toUInt32 &&& Int32.toUInt32 31)).toInt32)) &&& 252645135) fun x3 =>
  nc_li (x3 + ((x3.toUInt32 >>> ((8 : Int32).toUInt32 &&& Int32.toUInt32 31)).toInt32)) fun x4 =>
  nc_li (x4 + ((x4.toUInt32 >>> ((16 : Int32).toUInt32 &&& Int32.toUInt32 31)).toInt32)) fun x5 =>
  some (some (.inl (x5 &&& 63)), w) :=
  (nc_Call_eq _ _ _).trans ((if_pos (Nat.le_of_ble_eq_true rfl)).trans ((nc_Run_un [] 42).trans rfl))
set_option maxRecDepth 100000 in
theorem qc_J7_fill_d0a16 (ta : Nat) (aa : Nat) (yb : Int64) (w : nc_H) : nc_Call m_J7_fill_d0a16 [.inr (.inr (ta, aa)), .inr (.inl yb)] w =
  cond (Nat.ble (nc_ak ta) 4) (
  nc_li (Int32.ofNat (nc_al ta)) fun x1 =>
  nc_Run m_J7_fill_d0a16 6 [some (.inr (.inr (ta, aa))), some (.inr (.inl yb)), none, some (.inl 0), some (.inl x1)] [] w) none :=
  (nc_Call_eq _ _ _).trans ((if_pos (Nat.le_of_ble_eq_true rfl)).trans ((nc_Run_un [6] 6).trans rfl))
set_option maxRecDepth 100000 in
theorem qr_J7_fill_d0a16_6 (ta : Nat) (aa : Nat) (yb : Int64) (xd : Int32) (xe : Int32) (w : nc_H) : nc_Run m_J7_fill_d0a16 6 [some (.inr (.inr (ta, aa))), some (.inr (.inl yb)), none, some (.inl xd), some (.inl xe)] [] w =
  if xe ≤ xd then
    some (none, w)
  else
    cond (Nat.beq (nc_ak ta) 3) (
    nc_bd xd (nc_al ta) fun j1 =>
    nc_lt (nc_sl w ta aa j1 yb) fun w2 =>
    nc_li (xd + 1) fun x3 =>
    nc_Run m_J7_fill_d0a16 6 [some (.inr (.inr (ta, aa))), some (.inr (.inl yb)), none, some (.inl x3), some (.inl xe)] [] w2) none :=
  (nc_Run_un [6] 10).trans rfl
set_option maxRecDepth 100000 in
theorem qc_J7_fill_53178 (ta : Nat) (aa : Nat) (xb : Int32) (w : nc_H) : nc_Call m_J7_fill_53178 [.inr (.inr (ta, aa)), .inl xb] w =
  cond (Nat.ble (nc_ak ta) 4) (
  nc_li (Int32.ofNat (nc_al ta)) fun x1 =>
  nc_Run m_J7_fill_53178 5 [some (.inr (.inr (ta, aa))), some (.inl xb), some (.inl 0), some (.inl x1)] [] w) none :=
  (nc_Call_eq _ _ _).trans ((if_pos (Nat.le_of_ble_eq_true rfl)).trans ((nc_Run_un [5] 6).trans rfl))
set_option maxRecDepth 100000 in
theorem qr_J7_fill_53178_5 (ta : Nat) (aa : Nat) (xb : Int32) (xc : Int32) (xd : Int32) (w : nc_H) : nc_Run m_J7_fill_53178 5 [some (.inr (.inr (ta, aa))), some (.inl xb), some (.inl xc), some (.inl xd)] [] w =
  if xd ≤ xc then
    some (none, w)
  else
    cond (Nat.beq (nc_ak ta) 0) (
    nc_bd xc (nc_al ta) fun j1 =>
    nc_lt (nc_si w ta aa j1 xb) fun w2 =>
    nc_li (xc + 1) fun x3 =>
    nc_Run m_J7_fill_53178 5 [some (.inr (.inr (ta, aa))), some (.inl xb), some (.inl x3), some (.inl xd)] [] w2) none :=
  (nc_Run_un [5] 10).trans rfl
set_option maxRecDepth 100000 in
theorem qc_X10_mustBeSign (aa : Nat) (xb : Int32) (w : nc_H) : nc_Call m_X10_mustBeSign [.inr (.inr (10, aa)), .inl xb] w =
  nc_bI (nc_Call m_X10_isSign [.inr (.inr (10, aa)), .inl xb] w) fun r2 w1 =>
  if r2 ≠ 0 then
    some (some (.inl 1), w1)
  else
    nc_bI (nc_Call m_X10_fail [.inr (.inr (10, aa)), .inl 1] w1) fun r4 w3 =>
    if r4 = 0 then
      some (some (.inl 0), w3)
    else
      some (some (.inl 1), w3) :=
  (nc_Call_eq _ _ _).trans ((if_pos (Nat.le_of_ble_eq_true rfl)).trans ((nc_Run_un [] 11).trans rfl))
set_option maxRecDepth 100000 in
theorem qc_X2_named (aa : Nat) (ab : Nat) (xc : Int32) (xd : Int32) (w : nc_H) : nc_Call m_X2_named [.inr (.inr (2, aa)), .inr (.inr (10, ab)), .inl xc, .inl xd] w =
  if (w.1 10 ab 11) = 3 then
    nc_bI (nc_Call m_X2_slotOf [.inr (.inr (2, aa)), .inr (.inl (w.2 10 ab 13))] w) fun r2 w1 =>
    nc_li (r2 - xc) fun x3 =>
    if x3 < 0 then
      nc_bI (nc_Call m_X10_fail [.inr (.inr (10, ab)), .inl 3] w1) fun r5 w4 =>
      some (some (.inl (-1)), w4)
    else
      if x3 < xd then
        some (some (.inl x3), w1)
      else
        nc_bI (nc_Call m_X10_fail [.inr (.inr (10, ab)), .inl 3] w1) fun r7 w6 =>
        some (some (.inl (-1)), w6)
  else
    nc_bI (nc_Call m_X10_fail [.inr (.inr (10, ab)), .inl 1] w) fun r9 w8 =>
    some (some (.inl (-1)), w8) :=
  (nc_Call_eq _ _ _).trans ((if_pos (Nat.le_of_ble_eq_true rfl)).trans ((nc_Run_un [] 22).trans rfl))
set_option maxRecDepth 100000 in
theorem qc_X10_nextNumber (aa : Nat) (xb : Int32) (xc : Int32) (w : nc_H) : nc_Call m_X10_nextNumber [.inr (.inr (10, aa)), .inl xb, .inl xc] w =
  nc_bV (nc_Call m_X10_next [.inr (.inr (10, aa))] w) fun w1 =>
  if (w1.1 10 aa 11) = 4 then
    if (w1.1 10 aa 12) < xb then
      nc_bI (nc_Call m_X10_fail [.inr (.inr (10, aa)), .inl 2] w1) fun r3 w2 =>
      if r3 = 0 then
        some (some (.inl 0), w2)
      else
        some (some (.inl 1), w2)
    else
      if (w1.1 10 aa 12) ≤ xc then
        some (some (.inl 1), w1)
      else
        nc_bI (nc_Call m_X10_fail [.inr (.inr (10, aa)), .inl 2] w1) fun r5 w4 =>
        if r5 = 0 then
          some (some (.inl 0), w4)
        else
          some (some (.inl 1), w4)
  else
    nc_bI (nc_Call m_X10_fail [.inr (.inr (10, aa)), .inl 1] w1) fun r7 w6 =>
    nc_z r7 <| some (some (.inl r7), w6) :=
  (nc_Call_eq _ _ _).trans ((if_pos (Nat.le_of_ble_eq_true rfl)).trans ((nc_Run_un [] 21).trans rfl))
set_option maxRecDepth 100000 in
theorem qc_X9_readPlainOne (aa : Nat) (ab : Nat) (ac : Nat) (xd : Int32) (w : nc_H) : nc_Call m_X9_readPlainOne [.inr (.inr (9, aa)), .inr (.inr (10, ab)), .inr (.inr (2, ac)), .inl xd] w =
  if xd ≠ 17 then
    if xd = 18 then
      nc_bV (nc_Call m_X10_next [.inr (.inr (10, ab))] w) fun w1 =>
      nc_bI (nc_Call m_X2_named [.inr (.inr (2, ac)), .inr (.inr (10, ab)), .inl 12, .inl 10] w1) fun r3 w2 =>
      nc_bV (nc_Call m_X9_put [.inr (.inr (9, aa)), .inl xd, .inl 0, .inl r3] w2) fun w4 =>
      if r3 < 0 then
        some (some (.inl 0), w4)
      else
        some (some (.inl 1), w4)
    else
      if xd ≠ 19 then
        if xd = 15 then
          nc_bV (nc_Call m_X9_put [.inr (.inr (9, aa)), .inl xd, .inl 0, .inl 0] w) fun w5 =>
          some (some (.inl 1), w5)
        else
          if xd = 16 then
            nc_bV (nc_Call m_X9_put [.inr (.inr (9, aa)), .inl xd, .inl 0, .inl 0] w) fun w6 =>
            some (some (.inl 1), w6)
          else
            nc_bV (nc_Call m_X10_next [.inr (.inr (10, ab))] w) fun w7 =>
            nc_li (w7.1 10 ab 12) fun x8 =>
            nc_bI (nc_Call m_X10_isSign [.inr (.inr (10, ab)), .inl 60] w7) fun r10 w9 =>
            if r10 ≠ 0 then
              nc_bI (nc_Call m_X10_nextNumber [.inr (.inr (10, ab)), .inl 0, .inl 999] w9) fun r12 w11 =>
              if r12 = 0 then
                nc_bV (nc_Call m_X9_put [.inr (.inr (9, aa)), .inl xd, .inl x8, .inl (-1)] w11) fun w13 =>
                some (some (.inl 0), w13)
              else
                nc_li (w11.1 10 ab 12) fun x14 =>
                nc_bV (nc_Call m_X9_put [.inr (.inr (9, aa)), .inl xd, .inl x8, .inl x14] w11) fun w15 =>
                if x14 < 0 then
                  some (some (.inl 0), w15)
                else
                  some (some (.inl 1), w15)
            else
              nc_bI (nc_Call m_X10_isSign [.inr (.inr (10, ab)), .inl 61] w9) fun r17 w16 =>
              if r17 ≠ 0 then
                nc_bI (nc_Call m_X10_nextNumber [.inr (.inr (10, ab)), .inl 0, .inl 999] w16) fun r19 w18 =>
                if r19 = 0 then
                  nc_bV (nc_Call m_X9_put [.inr (.inr (9, aa)), .inl xd, .inl x8, .inl (-1)] w18) fun w20 =>
                  some (some (.inl 0), w20)
                else
                  nc_li (w18.1 10 ab 12) fun x21 =>
                  nc_bV (nc_Call m_X9_put [.inr (.inr (9, aa)), .inl xd, .inl x8, .inl x21] w18) fun w22 =>
                  if x21 < 0 then
                    some (some (.inl 0), w22)
                  else
                    some (some (.inl 1), w22)
              else
                nc_bI (nc_Call m_X10_isSign [.inr (.inr (10, ab)), .inl 62] w16) fun r24 w23 =>
                if r24 ≠ 0 then
                  nc_bI (nc_Call m_X10_nextNumber [.inr (.inr (10, ab)), .inl 0, .inl 999] w23) fun r26 w25 =>
                  if r26 = 0 then
                    nc_bV (nc_Call m_X9_put [.inr (.inr (9, aa)), .inl xd, .inl x8, .inl (-1)] w25) fun w27 =>
                    some (some (.inl 0), w27)
                  else
                    nc_li (w25.1 10 ab 12) fun x28 =>
                    nc_bV (nc_Call m_X9_put [.inr (.inr (9, aa)), .inl xd, .inl x8, .inl x28] w25) fun w29 =>
                    if x28 < 0 then
                      some (some (.inl 0), w29)
                    else
                      some (some (.inl 1), w29)
                else
                  nc_bI (nc_Call m_X10_fail [.inr (.inr (10, ab)), .inl 1] w23) fun r31 w30 =>
                  nc_z r31 <| some (some (.inl r31), w30)
      else
        nc_bV (nc_Call m_X10_next [.inr (.inr (10, ab))] w) fun w32 =>
        nc_bI (nc_Call m_X2_named [.inr (.inr (2, ac)), .inr (.inr (10, ab)), .inl 12, .inl 10] w32) fun r34 w33 =>
        nc_bV (nc_Call m_X9_put [.inr (.inr (9, aa)), .inl xd, .inl 0, .inl r34] w33) fun w35 =>
        if r34 < 0 then
          some (some (.inl 0), w35)
        else
          some (some (.inl 1), w35)
  else
    nc_bV (nc_Call m_X10_next [.inr (.inr (10, ab))] w) fun w36 =>
    nc_bI (nc_Call m_X2_named [.inr (.inr (2, ac)), .inr (.inr (10, ab)), .inl 0, .inl 4] w36) fun r38 w37 =>
    nc_bV (nc_Call m_X9_put [.inr (.inr (9, aa)), .inl xd, .inl 0, .inl r38] w37) fun w39 =>
    if r38 < 0 then
      some (some (.inl 0), w39)
    else
      some (some (.inl 1), w39) :=
  (nc_Call_eq _ _ _).trans ((if_pos (Nat.le_of_ble_eq_true rfl)).trans ((nc_Run_un [] 55).trans rfl))
set_option maxRecDepth 100000 in
theorem qc_X7_sumOf (aa : Nat) (xb : Int32) (w : nc_H) : nc_Call m_X7_sumOf [.inr (.inr (7, aa)), .inl xb] w =
  nc_bd xb 8 fun j1 =>
  nc_li (w.1 239 (nc_ld aa) j1) fun x2 =>
  nc_bI (nc_Call m_X7_heardByOthers [.inr (.inr (7, aa)), .inl xb] w) fun r4 w3 =>
  nc_Run m_X7_sumOf 19 [some (.inr (.inr (7, aa))), some (.inl xb), some (.inl x2), some (.inl r4), some (.inl 0)] [] w3 :=
  (nc_Call_eq _ _ _).trans ((if_pos (Nat.le_of_ble_eq_true rfl)).trans ((nc_Run_un [19] 13).trans rfl))
set_option maxRecDepth 100000 in
theorem qr_X7_sumOf_19 (aa : Nat) (xb : Int32) (xc : Int32) (xd : Int32) (xe : Int32) (w : nc_H) : nc_Run m_X7_sumOf 19 [some (.inr (.inr (7, aa))), some (.inl xb), some (.inl xc), some (.inl xd), some (.inl xe)] [] w =
  if (w.1 2 (nc_ld aa) 3) ≤ xe then
    some (some (.inl xc), w)
  else
    nc_bd xb 8 fun j1 =>
    if (((w.1 555 aa j1) >>> (xe &&& 31)) &&& 1) ≠ 1 then
      nc_bd xb 8 fun j2 =>
      if (((w.1 557 aa j2) >>> (xe &&& 31)) &&& 1) ≠ 1 then
        nc_li (xe + 1) fun x3 =>
        nc_Run m_X7_sumOf 19 [some (.inr (.inr (7, aa))), some (.inl xb), some (.inl xc), some (.inl xd), some (.inl x3)] [] w
      else
        nc_bd xe 10 fun j4 =>
        if (w.1 242 (nc_ld aa) j4) ≠ 3 then
          nc_li (xe + 1) fun x5 =>
          nc_Run m_X7_sumOf 19 [some (.inr (.inr (7, aa))), some (.inl xb), some (.inl xc), some (.inl xd), some (.inl x5)] [] w
        else
          if (((w.1 2 (nc_ld aa) 6) >>> (xe &&& 31)) &&& 1) ≠ 1 then
            nc_bd xe 10 fun j6 =>
            nc_li (xc + (w.1 243 (nc_ld aa) j6)) fun x7 =>
            nc_li (xe + 1) fun x8 =>
            nc_Run m_X7_sumOf 19 [some (.inr (.inr (7, aa))), some (.inl xb), some (.inl x7), some (.inl xd), some (.inl x8)] [] w
          else
            nc_bd xe 10 fun j9 =>
            nc_li (xc + (-(w.1 243 (nc_ld aa) j9))) fun x10 =>
            nc_li (xe + 1) fun x11 =>
            nc_Run m_X7_sumOf 19 [some (.inr (.inr (7, aa))), some (.inl xb), some (.inl x10), some (.inl xd), some (.inl x11)] [] w
    else
      nc_bd xb 8 fun j12 =>
      nc_bI (nc_Call m_X7_addedBy [.inr (.inr (7, aa)), .inl xe, .inl xd, .inl (w.1 556 aa j12)] w) fun r14 w13 =>
      nc_li (xc + r14) fun x15 =>
      nc_bd xb 8 fun j16 =>
      if (((w13.1 557 aa j16) >>> (xe &&& 31)) &&& 1) ≠ 1 then
        nc_li (xe + 1) fun x17 =>
        nc_Run m_X7_sumOf 19 [some (.inr (.inr (7, aa))), some (.inl xb), some (.inl x15), some (.inl xd), some (.inl x17)] [] w13
      else
        nc_bd xe 10 fun j18 =>
        if (w13.1 242 (nc_ld aa) j18) ≠ 3 then
          nc_li (xe + 1) fun x19 =>
          nc_Run m_X7_sumOf 19 [some (.inr (.inr (7, aa))), some (.inl xb), some (.inl x15), some (.inl xd), some (.inl x19)] [] w13
        else
          if (((w13.1 2 (nc_ld aa) 6) >>> (xe &&& 31)) &&& 1) ≠ 1 then
            nc_bd xe 10 fun j20 =>
            nc_li (x15 + (w13.1 243 (nc_ld aa) j20)) fun x21 =>
            nc_li (xe + 1) fun x22 =>
            nc_Run m_X7_sumOf 19 [some (.inr (.inr (7, aa))), some (.inl xb), some (.inl x21), some (.inl xd), some (.inl x22)] [] w13
          else
            nc_bd xe 10 fun j23 =>
            nc_li (x15 + (-(w13.1 243 (nc_ld aa) j23))) fun x24 =>
            nc_li (xe + 1) fun x25 =>
            nc_Run m_X7_sumOf 19 [some (.inr (.inr (7, aa))), some (.inl xb), some (.inl x24), some (.inl xd), some (.inl x25)] [] w13 :=
  (nc_Run_un [19] 65).trans rfl
set_option maxRecDepth 100000 in
theorem qc_X7_whyNotTold (aa : Nat) (xb : Int32) (xc : Int32) (w : nc_H) : nc_Call m_X7_whyNotTold [.inr (.inr (7, aa)), .inl xb, .inl xc] w =
  nc_bI (nc_Call m_X7_isDry [.inr (.inr (7, aa)), .inl xb] w) fun r2 w1 =>
  if r2 = 0 then
    nc_bd xb 8 fun j3 =>
    if (((w1.1 555 aa j3) >>> (xc &&& 31)) &&& 1) ≠ 1 then
      nc_bd xb 8 fun j4 =>
      nc_bI (nc_Call m_J6_bitCount_0f7a4 [.inl (w1.1 555 aa j4)] w1) fun r6 w5 =>
      if r6 < (w5.1 2 (nc_ld aa) 5) then
        some (some (.inl 0), w5)
      else
        some (some (.inl 3), w5)
    else
      some (some (.inl 2), w1)
  else
    some (some (.inl 1), w1) :=
  (nc_Call_eq _ _ _).trans ((if_pos (Nat.le_of_ble_eq_true rfl)).trans ((nc_Run_un [] 26).trans rfl))
set_option maxRecDepth 100000 in
theorem qc_X8_weigh (aa : Nat) (xb : Int32) (w : nc_H) : nc_Call m_X8_weigh [.inr (.inr (8, aa)), .inl xb] w =
  if xb ≤ (w.1 8 aa 6) then
    some (none, w)
  else
    nc_lt (nc_si w 8 aa 6 xb) fun w1 =>
    nc_lt (nc_cpi w1 615 aa 0 616 aa 0 3) fun w2 =>
    some (none, w2) :=
  (nc_Call_eq _ _ _).trans ((if_pos (Nat.le_of_ble_eq_true rfl)).trans ((nc_Run_un [] 16).trans rfl))
set_option maxRecDepth 100000 in
theorem qc_X7_milk (aa : Nat) (xb : Int32) (w : nc_H) : nc_Call m_X7_milk [.inr (.inr (7, aa)), .inl xb] w =
  nc_bI (nc_Call m_X7_isDry [.inr (.inr (7, aa)), .inl xb] w) fun r2 w1 =>
  if r2 ≠ 0 then
    some (some (.inl 0), w1)
  else
    nc_bI (nc_Call m_X7_isCurdled [.inr (.inr (7, aa)), .inl xb] w1) fun r4 w3 =>
    if r4 = 0 then
      nc_bI (nc_Call m_X7_sumOf [.inr (.inr (7, aa)), .inl xb] w3) fun r6 w5 =>
      some (some (.inl (if (0 : Int32) < r6 then r6 else (0 : Int32))), w5)
    else
      some (some (.inl 0), w3) :=
  (nc_Call_eq _ _ _).trans ((if_pos (Nat.le_of_ble_eq_true rfl)).trans ((nc_Run_un [] 14).trans rfl))
set_option maxRecDepth 100000 in
theorem qc_X8_goLast (aa : Nat) (ab : Nat) (xc : Int32) (xd : Int32) (xe : Int32) (w : nc_H) : nc_Call m_X8_goLast [.inr (.inr (8, aa)), .inr (.inr (7, ab)), .inl xc, .inl xd, .inl xe] w =
  nc_bI (nc_Call m_X7_isDry [.inr (.inr (7, ab)), .inl xc] w) fun r2 w1 =>
  if r2 ≠ 0 then
    nc_bI (nc_Call m_X7_sumOf [.inr (.inr (7, ab)), .inl xc] w1) fun r4 w3 =>
    nc_bI (nc_Call m_X7_heardByOthers [.inr (.inr (7, ab)), .inl xc] w3) fun r6 w5 =>
    nc_Run m_X8_goLast 40 [some (.inr (.inr (8, aa))), some (.inr (.inr (7, ab))), some (.inl xc), some (.inl xd), some (.inl xe), some (.inl 1), some (.inl r4), some (.inl r6), some (.inl 0), none, none] [] w5
  else
    nc_bI (nc_Call m_X7_isCurdled [.inr (.inr (7, ab)), .inl xc] w1) fun r8 w7 =>
    if r8 = 0 then
      nc_bI (nc_Call m_X7_sumOf [.inr (.inr (7, ab)), .inl xc] w7) fun r10 w9 =>
      nc_bI (nc_Call m_X7_heardByOthers [.inr (.inr (7, ab)), .inl xc] w9) fun r12 w11 =>
      nc_Run m_X8_goLast 40 [some (.inr (.inr (8, aa))), some (.inr (.inr (7, ab))), some (.inl xc), some (.inl xd), some (.inl xe), some (.inl 0), some (.inl r10), some (.inl r12), some (.inl 0), none, none] [] w11
    else
      nc_bI (nc_Call m_X7_sumOf [.inr (.inr (7, ab)), .inl xc] w7) fun r14 w13 =>
      nc_bI (nc_Call m_X7_heardByOthers [.inr (.inr (7, ab)), .inl xc] w13) fun r16 w15 =>
      nc_Run m_X8_goLast 40 [some (.inr (.inr (8, aa))), some (.inr (.inr (7, ab))), some (.inl xc), some (.inl xd), some (.inl xe), some (.inl 1), some (.inl r14), some (.inl r16), some (.inl 0), none, none] [] w15 :=
  (nc_Call_eq _ _ _).trans ((if_pos (Nat.le_of_ble_eq_true rfl)).trans ((nc_Run_un [40] 22).trans rfl))
set_option maxRecDepth 100000 in
theorem qr_X8_goLast_40 (aa : Nat) (ab : Nat) (xc : Int32) (xd : Int32) (xe : Int32) (xf : Int32) (xg : Int32) (xh : Int32) (xi : Int32) (w : nc_H) : nc_Run m_X8_goLast 40 [some (.inr (.inr (8, aa))), some (.inr (.inr (7, ab))), some (.inl xc), some (.inl xd), some (.inl xe), some (.inl xf), some (.inl xg), some (.inl xh), some (.inl xi), none, none] [] w =
  if (w.1 2 0 3) ≤ xi then
    nc_bd xd 3 fun j1 =>
    nc_lt (nc_si w 615 aa j1 (-1)) fun w2 =>
    nc_bI (nc_Call m_X7_milk [.inr (.inr (7, ab)), .inl xc] w2) fun r4 w3 =>
    nc_bV (nc_Call m_X8_weigh [.inr (.inr (8, aa)), .inl (xe + r4)] w3) fun w5 =>
    some (none, w5)
  else
    nc_bI (nc_Call m_X7_whyNotTold [.inr (.inr (7, ab)), .inl xc, .inl xi] w) fun r7 w6 =>
    if r7 ≠ 0 then
      nc_li (xi + 1) fun x8 =>
      nc_Run m_X8_goLast 40 [some (.inr (.inr (8, aa))), some (.inr (.inr (7, ab))), some (.inl xc), some (.inl xd), some (.inl xe), some (.inl xf), some (.inl xg), some (.inl xh), some (.inl x8), none, none] [] w6
    else
      nc_bd xd 3 fun j9 =>
      nc_lt (nc_si w6 615 aa j9 xi) fun w10 =>
      nc_bd xi 10 fun j11 =>
      if (w10.1 242 0 j11) ≠ 2 then
        nc_bd xc 8 fun j12 =>
        nc_bI (nc_Call m_X7_addedBy [.inr (.inr (7, ab)), .inl xi, .inl xh, .inl (w10.1 554 ab j12)] w10) fun r14 w13 =>
        if xf ≠ 0 then
          nc_bV (nc_Call m_X8_weigh [.inr (.inr (8, aa)), .inl (xe + 0)] w13) fun w15 =>
          nc_li (xi + 1) fun x16 =>
          nc_Run m_X8_goLast 40 [some (.inr (.inr (8, aa))), some (.inr (.inr (7, ab))), some (.inl xc), some (.inl xd), some (.inl xe), some (.inl xf), some (.inl xg), some (.inl xh), some (.inl x16), none, none] [] w15
        else
          nc_bV (nc_Call m_X8_weigh [.inr (.inr (8, aa)), .inl (xe + (if (0 : Int32) < (xg + r14) then (xg + r14) else (0 : Int32)))] w13) fun w17 =>
          nc_li (xi + 1) fun x18 =>
          nc_Run m_X8_goLast 40 [some (.inr (.inr (8, aa))), some (.inr (.inr (7, ab))), some (.inl xc), some (.inl xd), some (.inl xe), some (.inl xf), some (.inl xg), some (.inl xh), some (.inl x18), none, none] [] w17
      else
        nc_bd xc 8 fun j19 =>
        nc_bI (nc_Call m_X7_addedBy [.inr (.inr (7, ab)), .inl xi, .inl xh, .inl (w10.1 554 ab j19)] w10) fun r21 w20 =>
        if xf ≠ 0 then
          nc_bV (nc_Call m_X8_weigh [.inr (.inr (8, aa)), .inl (xe + 0)] w20) fun w22 =>
          nc_li (xi + 1) fun x23 =>
          nc_Run m_X8_goLast 40 [some (.inr (.inr (8, aa))), some (.inr (.inr (7, ab))), some (.inl xc), some (.inl xd), some (.inl xe), some (.inl xf), some (.inl xg), some (.inl xh), some (.inl x23), none, none] [] w22
        else
          nc_bV (nc_Call m_X8_weigh [.inr (.inr (8, aa)), .inl (xe + 0)] w20) fun w24 =>
          nc_li (xi + 1) fun x25 =>
          nc_Run m_X8_goLast 40 [some (.inr (.inr (8, aa))), some (.inr (.inr (7, ab))), some (.inl xc), some (.inl xd), some (.inl xe), some (.inl xf), some (.inl xg), some (.inl xh), some (.inl x25), none, none] [] w24 :=
  (nc_Run_un [40] 49).trans rfl
set_option maxRecDepth 100000 in
theorem qc_X7_copyFrom (aa : Nat) (ab : Nat) (w : nc_H) : nc_Call m_X7_copyFrom [.inr (.inr (7, aa)), .inr (.inr (7, ab))] w =
  nc_lt (nc_si w 7 aa 1 (w.1 7 ab 1)) fun w1 =>
  nc_lt (nc_si w1 7 aa 2 (w1.1 7 ab 2)) fun w2 =>
  nc_lt (nc_si w2 7 aa 3 (w2.1 7 ab 3)) fun w3 =>
  nc_lt (nc_si w3 7 aa 4 (w3.1 7 ab 4)) fun w4 =>
  nc_lt (nc_cpi w4 553 ab 0 553 aa 0 80) fun w5 =>
  nc_lt (nc_cpi w5 554 ab 0 554 aa 0 8) fun w6 =>
  nc_lt (nc_cpi w6 555 ab 0 555 aa 0 8) fun w7 =>
  nc_lt (nc_cpi w7 556 ab 0 556 aa 0 8) fun w8 =>
  nc_lt (nc_cpi w8 557 ab 0 557 aa 0 8) fun w9 =>
  nc_lt (nc_cpi w9 558 ab 0 558 aa 0 8) fun w10 =>
  nc_lt (nc_cpi w10 559 ab 0 559 aa 0 8) fun w11 =>
  nc_lt (nc_cpi w11 560 ab 0 560 aa 0 8) fun w12 =>
  nc_lt (nc_cpi w12 561 ab 0 561 aa 0 4) fun w13 =>
  nc_lt (nc_cpi w13 562 ab 0 562 aa 0 120) fun w14 =>
  some (none, w14) :=
  (nc_Call_eq _ _ _).trans ((if_pos (Nat.le_of_ble_eq_true rfl)).trans ((nc_Run_un [] 97).trans rfl))
set_option maxRecDepth 100000 in
theorem qc_X7_hear (aa : Nat) (xb : Int32) (xc : Int32) (w : nc_H) : nc_Call m_X7_hear [.inr (.inr (7, aa)), .inl xb, .inl xc] w =
  nc_li (1 <<< (xc &&& 31)) fun x1 =>
  nc_bd xb 8 fun j2 =>
  nc_bd xb 8 fun j3 =>
  nc_bd xb 8 fun j4 =>
  nc_lt (nc_si w 556 aa j4 ((w.1 556 aa j2) ||| ((w.1 554 aa j3) &&& x1))) fun w5 =>
  nc_bd xb 8 fun j6 =>
  nc_bd xb 8 fun j7 =>
  nc_lt (nc_si w5 555 aa j7 ((w5.1 555 aa j6) ||| x1)) fun w8 =>
  nc_bV (nc_Call m_X7_comes [.inr (.inr (7, aa)), .inl xb, .inl xc] w8) fun w9 =>
  nc_bd xc 10 fun j10 =>
  if (w9.1 242 (nc_ld aa) j10) ≠ 2 then
    nc_lt (nc_si w9 7 aa 2 ((w9.1 7 aa 2) + 1)) fun w11 =>
    some (none, w11)
  else
    nc_bd xb 8 fun j12 =>
    nc_lt (nc_si w9 558 aa j12 (w9.1 7 aa 1)) fun w13 =>
    nc_lt (nc_si w13 7 aa 2 ((w13.1 7 aa 2) + 1)) fun w14 =>
    some (none, w14) :=
  (nc_Call_eq _ _ _).trans ((if_pos (Nat.le_of_ble_eq_true rfl)).trans ((nc_Run_un [] 49).trans rfl))
set_option maxRecDepth 100000 in
theorem qc_X7_allComes (aa : Nat) (xb : Int32) (xc : Int32) (w : nc_H) : nc_Call m_X7_allComes [.inr (.inr (7, aa)), .inl xb, .inl xc] w =
  nc_Run m_X7_allComes 2 [some (.inr (.inr (7, aa))), some (.inl xb), some (.inl xc), some (.inl 0)] [] w :=
  (nc_Call_eq _ _ _).trans ((if_pos (Nat.le_of_ble_eq_true rfl)).trans ((nc_Run_un [2] 3).trans rfl))
set_option maxRecDepth 100000 in
theorem qr_X7_allComes_2 (aa : Nat) (xb : Int32) (xc : Int32) (xd : Int32) (w : nc_H) : nc_Run m_X7_allComes 2 [some (.inr (.inr (7, aa))), some (.inl xb), some (.inl xc), some (.inl xd)] [] w =
  if (w.1 2 (nc_ld aa) 3) ≤ xd then
    some (none, w)
  else
    if ((xc >>> (xd &&& 31)) &&& 1) ≠ 1 then
      nc_li (xd + 1) fun x1 =>
      nc_Run m_X7_allComes 2 [some (.inr (.inr (7, aa))), some (.inl xb), some (.inl xc), some (.inl x1)] [] w
    else
      nc_bV (nc_Call m_X7_comes [.inr (.inr (7, aa)), .inl xb, .inl xd] w) fun w2 =>
      nc_li (xd + 1) fun x3 =>
      nc_Run m_X7_allComes 2 [some (.inr (.inr (7, aa))), some (.inl xb), some (.inl xc), some (.inl x3)] [] w2 :=
  (nc_Run_un [2] 19).trans rfl
set_option maxRecDepth 100000 in
theorem qc_X7_talk (aa : Nat) (w : nc_H) : nc_Call m_X7_talk [.inr (.inr (7, aa))] w =
  nc_bI (nc_Call m_X7_talking [.inr (.inr (7, aa))] w) fun r2 w1 =>
  if r2 ≠ 0 then
    nc_bV (nc_Call m_J7_fill_53178 [.inr (.inr (563, aa)), .inl 0] w1) fun w3 =>
    nc_bV (nc_Call m_J7_fill_53178 [.inr (.inr (564, aa)), .inl 0] w3) fun w4 =>
    nc_Run m_X7_talk 28 [some (.inr (.inr (7, aa))), some (.inl r2), some (.inl 0)] [] w4
  else
    some (none, w1) :=
  (nc_Call_eq _ _ _).trans ((if_pos (Nat.le_of_ble_eq_true rfl)).trans ((nc_Run_un [28, 70, 160] 16).trans rfl))
set_option maxRecDepth 100000 in
theorem qr_X7_talk_28 (aa : Nat) (xb : Int32) (xc : Int32) (w : nc_H) : nc_Run m_X7_talk 28 [some (.inr (.inr (7, aa))), some (.inl xb), some (.inl xc)] [] w =
  if (w.1 2 (nc_ld aa) 2) ≤ xc then
    nc_Run m_X7_talk 70 [some (.inr (.inr (7, aa))), some (.inl xb), some (.inl 0)] [] w
  else
    nc_bd xc 8 fun j1 =>
    nc_bd (w.1 238 (nc_ld aa) j1) 4 fun j2 =>
    nc_bd xc 8 fun j3 =>
    nc_bd (w.1 238 (nc_ld aa) j1) 4 fun j4 =>
    nc_lt (nc_si w 563 aa j4 ((w.1 563 aa j2) ||| (w.1 554 aa j3))) fun w5 =>
    nc_li (xc + 1) fun x6 =>
    nc_Run m_X7_talk 28 [some (.inr (.inr (7, aa))), some (.inl xb), some (.inl x6)] [] w5 :=
  (nc_Run_un [28, 70, 160] 23).trans rfl
set_option maxRecDepth 100000 in
theorem qr_X7_talk_70 (aa : Nat) (xb : Int32) (xc : Int32) (w : nc_H) : nc_Run m_X7_talk 70 [some (.inr (.inr (7, aa))), some (.inl xb), some (.inl xc)] [] w =
  if (w.1 2 (nc_ld aa) 4) ≤ xc then
    nc_Run m_X7_talk 160 [some (.inr (.inr (7, aa))), none, some (.inl 0)] [] w
  else
    if ((xb >>> (xc &&& 31)) &&& 1) ≠ 1 then
      nc_li (xc + 1) fun x1 =>
      nc_Run m_X7_talk 70 [some (.inr (.inr (7, aa))), some (.inl xb), some (.inl x1)] [] w
    else
      nc_bd xc 6 fun j2 =>
      nc_bd (w.1 244 (nc_ld aa) j2) 4 fun j3 =>
      nc_bd xc 6 fun j4 =>
      nc_bd (w.1 245 (nc_ld aa) j4) 4 fun j5 =>
      nc_bd (w.1 244 (nc_ld aa) j2) 4 fun j6 =>
      nc_lt (nc_si w 564 aa j6 ((w.1 564 aa j3) ||| (w.1 563 aa j5))) fun w7 =>
      nc_bd xc 6 fun j8 =>
      nc_bd (w7.1 245 (nc_ld aa) j8) 4 fun j9 =>
      nc_bd xc 6 fun j10 =>
      nc_bd (w7.1 244 (nc_ld aa) j10) 4 fun j11 =>
      nc_bd (w7.1 245 (nc_ld aa) j8) 4 fun j12 =>
      nc_lt (nc_si w7 564 aa j12 ((w7.1 564 aa j9) ||| (w7.1 563 aa j11))) fun w13 =>
      nc_li (xc + 1) fun x14 =>
      nc_Run m_X7_talk 70 [some (.inr (.inr (7, aa))), some (.inl xb), some (.inl x14)] [] w13 :=
  (nc_Run_un [28, 70, 160] 53).trans rfl
set_option maxRecDepth 100000 in
theorem qr_X7_talk_160 (aa : Nat) (xc : Int32) (w : nc_H) : nc_Run m_X7_talk 160 [some (.inr (.inr (7, aa))), none, some (.inl xc)] [] w =
  if (w.1 2 (nc_ld aa) 2) ≤ xc then
    some (none, w)
  else
    nc_bd xc 8 fun j1 =>
    nc_bd (w.1 238 (nc_ld aa) j1) 4 fun j2 =>
    nc_bV (nc_Call m_X7_allComes [.inr (.inr (7, aa)), .inl xc, .inl (w.1 564 aa j2)] w) fun w3 =>
    nc_li (xc + 1) fun x4 =>
    nc_Run m_X7_talk 160 [some (.inr (.inr (7, aa))), none, some (.inl x4)] [] w3 :=
  (nc_Run_un [28, 70, 160] 19).trans rfl
set_option maxRecDepth 100000 in
theorem qc_X7_turn (aa : Nat) (w : nc_H) : nc_Call m_X7_turn [.inr (.inr (7, aa))] w =
  nc_lt (nc_si w 7 aa 1 ((w.1 7 aa 1) + 1)) fun w1 =>
  nc_Run m_X7_turn 12 [some (.inr (.inr (7, aa))), some (.inl 0)] [] w1 :=
  (nc_Call_eq _ _ _).trans ((if_pos (Nat.le_of_ble_eq_true rfl)).trans ((nc_Run_un [12] 9).trans rfl))
set_option maxRecDepth 100000 in
theorem qr_X7_turn_12 (aa : Nat) (xb : Int32) (w : nc_H) : nc_Run m_X7_turn 12 [some (.inr (.inr (7, aa))), some (.inl xb)] [] w =
  if (w.1 2 (nc_ld aa) 2) ≤ xb then
    some (none, w)
  else
    nc_bd xb 8 fun j1 =>
    nc_bd xb 8 fun j2 =>
    nc_lt (nc_si w 557 aa j2 (w.1 555 aa j1)) fun w3 =>
    nc_bd xb 8 fun j4 =>
    nc_lt (nc_si w3 555 aa j4 0) fun w5 =>
    nc_bd xb 8 fun j6 =>
    nc_lt (nc_si w5 556 aa j6 0) fun w7 =>
    nc_bV (nc_Call m_X7_forget [.inr (.inr (7, aa)), .inl xb] w7) fun w8 =>
    nc_li (xb + 1) fun x9 =>
    nc_Run m_X7_turn 12 [some (.inr (.inr (7, aa))), some (.inl x9)] [] w8 :=
  (nc_Run_un [12] 29).trans rfl
set_option maxRecDepth 100000 in
theorem qc_X9_readOne_9 (aa : Nat) (ab : Nat) (ac : Nat) (xd : Int32) (w : nc_H) : nc_Call m_X9_readOne_9 [.inr (.inr (9, aa)), .inr (.inr (10, ab)), .inr (.inr (2, ac)), .inl xd] w =
  nc_bI (nc_Call m_X10_isSign [.inr (.inr (10, ab)), .inl 40] w) fun r2 w1 =>
  nc_bI (nc_Call m_X10_word [.inr (.inr (10, ab))] w1) fun r4 w3 =>
  if r2 ≠ 0 then
    if (20 : Int32) ≤ (w3.1 9 aa 4) then
      nc_bI (nc_Call m_X10_fail [.inr (.inr (10, ab)), .inl 4] w3) fun r6 w5 =>
      nc_z r6 <| some (some (.inl r6), w5)
    else
      if xd ≤ 8 then
        nc_lt (nc_si w3 9 aa 4 ((w3.1 9 aa 4) + 1)) fun w7 =>
        if r2 = 0 then
          if r4 ≠ 14 then
            nc_bI (nc_Call m_X9_readPlainOne [.inr (.inr (9, aa)), .inr (.inr (10, ab)), .inr (.inr (2, ac)), .inl r4] w7) fun r9 w8 =>
            if r9 ≠ 0 then
              nc_bV (nc_Call m_X10_next [.inr (.inr (10, ab))] w8) fun w10 =>
              some (some (.inl 1), w10)
            else
              some (some (.inl 0), w8)
          else
            nc_bV (nc_Call m_X10_next [.inr (.inr (10, ab))] w7) fun w11 =>
            none
        else
          nc_bV (nc_Call m_X10_next [.inr (.inr (10, ab))] w7) fun w12 =>
          none
      else
        nc_bI (nc_Call m_X10_fail [.inr (.inr (10, ab)), .inl 4] w3) fun r14 w13 =>
        nc_z r14 <| some (some (.inl r14), w13)
  else
    if (14 : Int32) ≤ r4 then
      if (20 : Int32) ≤ (w3.1 9 aa 4) then
        nc_bI (nc_Call m_X10_fail [.inr (.inr (10, ab)), .inl 4] w3) fun r16 w15 =>
        nc_z r16 <| some (some (.inl r16), w15)
      else
        if xd ≤ 8 then
          nc_lt (nc_si w3 9 aa 4 ((w3.1 9 aa 4) + 1)) fun w17 =>
          if r2 = 0 then
            if r4 ≠ 14 then
              nc_bI (nc_Call m_X9_readPlainOne [.inr (.inr (9, aa)), .inr (.inr (10, ab)), .inr (.inr (2, ac)), .inl r4] w17) fun r19 w18 =>
              if r19 ≠ 0 then
                nc_bV (nc_Call m_X10_next [.inr (.inr (10, ab))] w18) fun w20 =>
                some (some (.inl 1), w20)
              else
                some (some (.inl 0), w18)
            else
              nc_bV (nc_Call m_X10_next [.inr (.inr (10, ab))] w17) fun w21 =>
              none
          else
            nc_bV (nc_Call m_X10_next [.inr (.inr (10, ab))] w17) fun w22 =>
            none
        else
          nc_bI (nc_Call m_X10_fail [.inr (.inr (10, ab)), .inl 4] w3) fun r24 w23 =>
          nc_z r24 <| some (some (.inl r24), w23)
    else
      nc_bI (nc_Call m_X10_fail [.inr (.inr (10, ab)), .inl 1] w3) fun r26 w25 =>
      nc_z r26 <| some (some (.inl r26), w25) :=
  (nc_Call_eq _ _ _).trans ((if_pos (Nat.le_of_ble_eq_true rfl)).trans ((nc_Run_un [] 40).trans rfl))
set_option maxRecDepth 100000 in
theorem qc_X9_readAll_9 (aa : Nat) (ab : Nat) (ac : Nat) (xd : Int32) (w : nc_H) : nc_Call m_X9_readAll_9 [.inr (.inr (9, aa)), .inr (.inr (10, ab)), .inr (.inr (2, ac)), .inl xd] w =
  nc_bI (nc_Call m_X9_readOne_9 [.inr (.inr (9, aa)), .inr (.inr (10, ab)), .inr (.inr (2, ac)), .inl xd] w) fun r2 w1 =>
  if r2 ≠ 0 then
    nc_Run m_X9_readAll_9 15 [some (.inr (.inr (9, aa))), some (.inr (.inr (10, ab))), some (.inr (.inr (2, ac))), some (.inl xd), some (.inl 0)] [] w1
  else
    some (some (.inl 0), w1) :=
  (nc_Call_eq _ _ _).trans ((if_pos (Nat.le_of_ble_eq_true rfl)).trans ((nc_Run_un [15] 9).trans rfl))
set_option maxRecDepth 100000 in
theorem qr_X9_readAll_9_15 (aa : Nat) (ab : Nat) (ac : Nat) (xd : Int32) (xe : Int32) (w : nc_H) : nc_Run m_X9_readAll_9 15 [some (.inr (.inr (9, aa))), some (.inr (.inr (10, ab))), some (.inr (.inr (2, ac))), some (.inl xd), some (.inl xe)] [] w =
  if (20 : Int32) ≤ xe then
    some (some (.inl 1), w)
  else
    nc_bI (nc_Call m_X10_word [.inr (.inr (10, ab))] w) fun r2 w1 =>
    if r2 ≠ 13 then
      some (some (.inl 1), w1)
    else
      nc_bV (nc_Call m_X10_next [.inr (.inr (10, ab))] w1) fun w3 =>
      nc_bI (nc_Call m_X9_readOne_9 [.inr (.inr (9, aa)), .inr (.inr (10, ab)), .inr (.inr (2, ac)), .inl xd] w3) fun r5 w4 =>
      if r5 ≠ 0 then
        nc_bV (nc_Call m_X9_put [.inr (.inr (9, aa)), .inl 13, .inl 0, .inl 0] w4) fun w6 =>
        nc_li (xe + 1) fun x7 =>
        nc_Run m_X9_readAll_9 15 [some (.inr (.inr (9, aa))), some (.inr (.inr (10, ab))), some (.inr (.inr (2, ac))), some (.inl xd), some (.inl x7)] [] w6
      else
        some (some (.inl 0), w4) :=
  (nc_Run_un [15] 23).trans rfl
set_option maxRecDepth 100000 in
theorem qc_X9_readCond_9 (aa : Nat) (ab : Nat) (ac : Nat) (xd : Int32) (w : nc_H) : nc_Call m_X9_readCond_9 [.inr (.inr (9, aa)), .inr (.inr (10, ab)), .inr (.inr (2, ac)), .inl xd] w =
  nc_bI (nc_Call m_X9_readAll_9 [.inr (.inr (9, aa)), .inr (.inr (10, ab)), .inr (.inr (2, ac)), .inl xd] w) fun r2 w1 =>
  if r2 ≠ 0 then
    nc_Run m_X9_readCond_9 15 [some (.inr (.inr (9, aa))), some (.inr (.inr (10, ab))), some (.inr (.inr (2, ac))), some (.inl xd), some (.inl 0)] [] w1
  else
    some (some (.inl 0), w1) :=
  (nc_Call_eq _ _ _).trans ((if_pos (Nat.le_of_ble_eq_true rfl)).trans ((nc_Run_un [15] 9).trans rfl))
set_option maxRecDepth 100000 in
theorem qr_X9_readCond_9_15 (aa : Nat) (ab : Nat) (ac : Nat) (xd : Int32) (xe : Int32) (w : nc_H) : nc_Run m_X9_readCond_9 15 [some (.inr (.inr (9, aa))), some (.inr (.inr (10, ab))), some (.inr (.inr (2, ac))), some (.inl xd), some (.inl xe)] [] w =
  if (20 : Int32) ≤ xe then
    some (some (.inl 1), w)
  else
    nc_bI (nc_Call m_X10_word [.inr (.inr (10, ab))] w) fun r2 w1 =>
    if r2 ≠ 12 then
      some (some (.inl 1), w1)
    else
      nc_bV (nc_Call m_X10_next [.inr (.inr (10, ab))] w1) fun w3 =>
      nc_bI (nc_Call m_X9_readAll_9 [.inr (.inr (9, aa)), .inr (.inr (10, ab)), .inr (.inr (2, ac)), .inl xd] w3) fun r5 w4 =>
      if r5 ≠ 0 then
        nc_bV (nc_Call m_X9_put [.inr (.inr (9, aa)), .inl 12, .inl 0, .inl 0] w4) fun w6 =>
        nc_li (xe + 1) fun x7 =>
        nc_Run m_X9_readCond_9 15 [some (.inr (.inr (9, aa))), some (.inr (.inr (10, ab))), some (.inr (.inr (2, ac))), some (.inl xd), some (.inl x7)] [] w6
      else
        some (some (.inl 0), w4) :=
  (nc_Run_un [15] 23).trans rfl
set_option maxRecDepth 100000 in
theorem qc_X9_readOne_8 (aa : Nat) (ab : Nat) (ac : Nat) (xd : Int32) (w : nc_H) : nc_Call m_X9_readOne_8 [.inr (.inr (9, aa)), .inr (.inr (10, ab)), .inr (.inr (2, ac)), .inl xd] w =
  nc_bI (nc_Call m_X10_isSign [.inr (.inr (10, ab)), .inl 40] w) fun r2 w1 =>
  nc_bI (nc_Call m_X10_word [.inr (.inr (10, ab))] w1) fun r4 w3 =>
  if r2 ≠ 0 then
    if (20 : Int32) ≤ (w3.1 9 aa 4) then
      nc_bI (nc_Call m_X10_fail [.inr (.inr (10, ab)), .inl 4] w3) fun r6 w5 =>
      nc_z r6 <| some (some (.inl r6), w5)
    else
      if xd ≤ 8 then
        nc_lt (nc_si w3 9 aa 4 ((w3.1 9 aa 4) + 1)) fun w7 =>
        if r2 = 0 then
          if r4 ≠ 14 then
            nc_bI (nc_Call m_X9_readPlainOne [.inr (.inr (9, aa)), .inr (.inr (10, ab)), .inr (.inr (2, ac)), .inl r4] w7) fun r9 w8 =>
            if r9 ≠ 0 then
              nc_bV (nc_Call m_X10_next [.inr (.inr (10, ab))] w8) fun w10 =>
              some (some (.inl 1), w10)
            else
              some (some (.inl 0), w8)
          else
            nc_bV (nc_Call m_X10_next [.inr (.inr (10, ab))] w7) fun w11 =>
            nc_bI (nc_Call m_X9_readOne_9 [.inr (.inr (9, aa)), .inr (.inr (10, ab)), .inr (.inr (2, ac)), .inl (xd + 1)] w11) fun r13 w12 =>
            if r13 ≠ 0 then
              nc_bV (nc_Call m_X9_put [.inr (.inr (9, aa)), .inl 14, .inl 0, .inl 0] w12) fun w14 =>
              some (some (.inl 1), w14)
            else
              some (some (.inl 0), w12)
        else
          nc_bV (nc_Call m_X10_next [.inr (.inr (10, ab))] w7) fun w15 =>
          nc_bI (nc_Call m_X9_readCond_9 [.inr (.inr (9, aa)), .inr (.inr (10, ab)), .inr (.inr (2, ac)), .inl (xd + 1)] w15) fun r17 w16 =>
          if r17 = 0 then
            some (some (.inl 0), w16)
          else
            nc_bI (nc_Call m_X10_mustBeSign [.inr (.inr (10, ab)), .inl 41] w16) fun r19 w18 =>
            if r19 ≠ 0 then
              nc_bV (nc_Call m_X10_next [.inr (.inr (10, ab))] w18) fun w20 =>
              some (some (.inl 1), w20)
            else
              some (some (.inl 0), w18)
      else
        nc_bI (nc_Call m_X10_fail [.inr (.inr (10, ab)), .inl 4] w3) fun r22 w21 =>
        nc_z r22 <| some (some (.inl r22), w21)
  else
    if (14 : Int32) ≤ r4 then
      if (20 : Int32) ≤ (w3.1 9 aa 4) then
        nc_bI (nc_Call m_X10_fail [.inr (.inr (10, ab)), .inl 4] w3) fun r24 w23 =>
        nc_z r24 <| some (some (.inl r24), w23)
      else
        if xd ≤ 8 then
          nc_lt (nc_si w3 9 aa 4 ((w3.1 9 aa 4) + 1)) fun w25 =>
          if r2 = 0 then
            if r4 ≠ 14 then
              nc_bI (nc_Call m_X9_readPlainOne [.inr (.inr (9, aa)), .inr (.inr (10, ab)), .inr (.inr (2, ac)), .inl r4] w25) fun r27 w26 =>
              if r27 ≠ 0 then
                nc_bV (nc_Call m_X10_next [.inr (.inr (10, ab))] w26) fun w28 =>
                some (some (.inl 1), w28)
              else
                some (some (.inl 0), w26)
            else
              nc_bV (nc_Call m_X10_next [.inr (.inr (10, ab))] w25) fun w29 =>
              nc_bI (nc_Call m_X9_readOne_9 [.inr (.inr (9, aa)), .inr (.inr (10, ab)), .inr (.inr (2, ac)), .inl (xd + 1)] w29) fun r31 w30 =>
              if r31 ≠ 0 then
                nc_bV (nc_Call m_X9_put [.inr (.inr (9, aa)), .inl 14, .inl 0, .inl 0] w30) fun w32 =>
                some (some (.inl 1), w32)
              else
                some (some (.inl 0), w30)
          else
            nc_bV (nc_Call m_X10_next [.inr (.inr (10, ab))] w25) fun w33 =>
            nc_bI (nc_Call m_X9_readCond_9 [.inr (.inr (9, aa)), .inr (.inr (10, ab)), .inr (.inr (2, ac)), .inl (xd + 1)] w33) fun r35 w34 =>
            if r35 = 0 then
              some (some (.inl 0), w34)
            else
              nc_bI (nc_Call m_X10_mustBeSign [.inr (.inr (10, ab)), .inl 41] w34) fun r37 w36 =>
              if r37 ≠ 0 then
                nc_bV (nc_Call m_X10_next [.inr (.inr (10, ab))] w36) fun w38 =>
                some (some (.inl 1), w38)
              else
                some (some (.inl 0), w36)
        else
          nc_bI (nc_Call m_X10_fail [.inr (.inr (10, ab)), .inl 4] w3) fun r40 w39 =>
          nc_z r40 <| some (some (.inl r40), w39)
    else
      nc_bI (nc_Call m_X10_fail [.inr (.inr (10, ab)), .inl 1] w3) fun r42 w41 =>
      nc_z r42 <| some (some (.inl r42), w41) :=
  (nc_Call_eq _ _ _).trans ((if_pos (Nat.le_of_ble_eq_true rfl)).trans ((nc_Run_un [] 47).trans rfl))
set_option maxRecDepth 100000 in
theorem qc_X9_readAll_8 (aa : Nat) (ab : Nat) (ac : Nat) (xd : Int32) (w : nc_H) : nc_Call m_X9_readAll_8 [.inr (.inr (9, aa)), .inr (.inr (10, ab)), .inr (.inr (2, ac)), .inl xd] w =
  nc_bI (nc_Call m_X9_readOne_8 [.inr (.inr (9, aa)), .inr (.inr (10, ab)), .inr (.inr (2, ac)), .inl xd] w) fun r2 w1 =>
  if r2 ≠ 0 then
    nc_Run m_X9_readAll_8 15 [some (.inr (.inr (9, aa))), some (.inr (.inr (10, ab))), some (.inr (.inr (2, ac))), some (.inl xd), some (.inl 0)] [] w1
  else
    some (some (.inl 0), w1) :=
  (nc_Call_eq _ _ _).trans ((if_pos (Nat.le_of_ble_eq_true rfl)).trans ((nc_Run_un [15] 9).trans rfl))
set_option maxRecDepth 100000 in
theorem qr_X9_readAll_8_15 (aa : Nat) (ab : Nat) (ac : Nat) (xd : Int32) (xe : Int32) (w : nc_H) : nc_Run m_X9_readAll_8 15 [some (.inr (.inr (9, aa))), some (.inr (.inr (10, ab))), some (.inr (.inr (2, ac))), some (.inl xd), some (.inl xe)] [] w =
  if (20 : Int32) ≤ xe then
    some (some (.inl 1), w)
  else
    nc_bI (nc_Call m_X10_word [.inr (.inr (10, ab))] w) fun r2 w1 =>
    if r2 ≠ 13 then
      some (some (.inl 1), w1)
    else
      nc_bV (nc_Call m_X10_next [.inr (.inr (10, ab))] w1) fun w3 =>
      nc_bI (nc_Call m_X9_readOne_8 [.inr (.inr (9, aa)), .inr (.inr (10, ab)), .inr (.inr (2, ac)), .inl xd] w3) fun r5 w4 =>
      if r5 ≠ 0 then
        nc_bV (nc_Call m_X9_put [.inr (.inr (9, aa)), .inl 13, .inl 0, .inl 0] w4) fun w6 =>
        nc_li (xe + 1) fun x7 =>
        nc_Run m_X9_readAll_8 15 [some (.inr (.inr (9, aa))), some (.inr (.inr (10, ab))), some (.inr (.inr (2, ac))), some (.inl xd), some (.inl x7)] [] w6
      else
        some (some (.inl 0), w4) :=
  (nc_Run_un [15] 23).trans rfl
set_option maxRecDepth 100000 in
theorem qc_X9_readCond_8 (aa : Nat) (ab : Nat) (ac : Nat) (xd : Int32) (w : nc_H) : nc_Call m_X9_readCond_8 [.inr (.inr (9, aa)), .inr (.inr (10, ab)), .inr (.inr (2, ac)), .inl xd] w =
  nc_bI (nc_Call m_X9_readAll_8 [.inr (.inr (9, aa)), .inr (.inr (10, ab)), .inr (.inr (2, ac)), .inl xd] w) fun r2 w1 =>
  if r2 ≠ 0 then
    nc_Run m_X9_readCond_8 15 [some (.inr (.inr (9, aa))), some (.inr (.inr (10, ab))), some (.inr (.inr (2, ac))), some (.inl xd), some (.inl 0)] [] w1
  else
    some (some (.inl 0), w1) :=
  (nc_Call_eq _ _ _).trans ((if_pos (Nat.le_of_ble_eq_true rfl)).trans ((nc_Run_un [15] 9).trans rfl))
set_option maxRecDepth 100000 in
theorem qr_X9_readCond_8_15 (aa : Nat) (ab : Nat) (ac : Nat) (xd : Int32) (xe : Int32) (w : nc_H) : nc_Run m_X9_readCond_8 15 [some (.inr (.inr (9, aa))), some (.inr (.inr (10, ab))), some (.inr (.inr (2, ac))), some (.inl xd), some (.inl xe)] [] w =
  if (20 : Int32) ≤ xe then
    some (some (.inl 1), w)
  else
    nc_bI (nc_Call m_X10_word [.inr (.inr (10, ab))] w) fun r2 w1 =>
    if r2 ≠ 12 then
      some (some (.inl 1), w1)
    else
      nc_bV (nc_Call m_X10_next [.inr (.inr (10, ab))] w1) fun w3 =>
      nc_bI (nc_Call m_X9_readAll_8 [.inr (.inr (9, aa)), .inr (.inr (10, ab)), .inr (.inr (2, ac)), .inl xd] w3) fun r5 w4 =>
      if r5 ≠ 0 then
        nc_bV (nc_Call m_X9_put [.inr (.inr (9, aa)), .inl 12, .inl 0, .inl 0] w4) fun w6 =>
        nc_li (xe + 1) fun x7 =>
        nc_Run m_X9_readCond_8 15 [some (.inr (.inr (9, aa))), some (.inr (.inr (10, ab))), some (.inr (.inr (2, ac))), some (.inl xd), some (.inl x7)] [] w6
      else
        some (some (.inl 0), w4) :=
  (nc_Run_un [15] 23).trans rfl
set_option maxRecDepth 100000 in
theorem qc_X9_readOne_7 (aa : Nat) (ab : Nat) (ac : Nat) (xd : Int32) (w : nc_H) : nc_Call m_X9_readOne_7 [.inr (.inr (9, aa)), .inr (.inr (10, ab)), .inr (.inr (2, ac)), .inl xd] w =
  nc_bI (nc_Call m_X10_isSign [.inr (.inr (10, ab)), .inl 40] w) fun r2 w1 =>
  nc_bI (nc_Call m_X10_word [.inr (.inr (10, ab))] w1) fun r4 w3 =>
  if r2 ≠ 0 then
    if (20 : Int32) ≤ (w3.1 9 aa 4) then
      nc_bI (nc_Call m_X10_fail [.inr (.inr (10, ab)), .inl 4] w3) fun r6 w5 =>
      nc_z r6 <| some (some (.inl r6), w5)
    else
      if xd ≤ 8 then
        nc_lt (nc_si w3 9 aa 4 ((w3.1 9 aa 4) + 1)) fun w7 =>
        if r2 = 0 then
          if r4 ≠ 14 then
            nc_bI (nc_Call m_X9_readPlainOne [.inr (.inr (9, aa)), .inr (.inr (10, ab)), .inr (.inr (2, ac)), .inl r4] w7) fun r9 w8 =>
            if r9 ≠ 0 then
              nc_bV (nc_Call m_X10_next [.inr (.inr (10, ab))] w8) fun w10 =>
              some (some (.inl 1), w10)
            else
              some (some (.inl 0), w8)
          else
            nc_bV (nc_Call m_X10_next [.inr (.inr (10, ab))] w7) fun w11 =>
            nc_bI (nc_Call m_X9_readOne_8 [.inr (.inr (9, aa)), .inr (.inr (10, ab)), .inr (.inr (2, ac)), .inl (xd + 1)] w11) fun r13 w12 =>
            if r13 ≠ 0 then
              nc_bV (nc_Call m_X9_put [.inr (.inr (9, aa)), .inl 14, .inl 0, .inl 0] w12) fun w14 =>
              some (some (.inl 1), w14)
            else
              some (some (.inl 0), w12)
        else
          nc_bV (nc_Call m_X10_next [.inr (.inr (10, ab))] w7) fun w15 =>
          nc_bI (nc_Call m_X9_readCond_8 [.inr (.inr (9, aa)), .inr (.inr (10, ab)), .inr (.inr (2, ac)), .inl (xd + 1)] w15) fun r17 w16 =>
          if r17 = 0 then
            some (some (.inl 0), w16)
          else
            nc_bI (nc_Call m_X10_mustBeSign [.inr (.inr (10, ab)), .inl 41] w16) fun r19 w18 =>
            if r19 ≠ 0 then
              nc_bV (nc_Call m_X10_next [.inr (.inr (10, ab))] w18) fun w20 =>
              some (some (.inl 1), w20)
            else
              some (some (.inl 0), w18)
      else
        nc_bI (nc_Call m_X10_fail [.inr (.inr (10, ab)), .inl 4] w3) fun r22 w21 =>
        nc_z r22 <| some (some (.inl r22), w21)
  else
    if (14 : Int32) ≤ r4 then
      if (20 : Int32) ≤ (w3.1 9 aa 4) then
        nc_bI (nc_Call m_X10_fail [.inr (.inr (10, ab)), .inl 4] w3) fun r24 w23 =>
        nc_z r24 <| some (some (.inl r24), w23)
      else
        if xd ≤ 8 then
          nc_lt (nc_si w3 9 aa 4 ((w3.1 9 aa 4) + 1)) fun w25 =>
          if r2 = 0 then
            if r4 ≠ 14 then
              nc_bI (nc_Call m_X9_readPlainOne [.inr (.inr (9, aa)), .inr (.inr (10, ab)), .inr (.inr (2, ac)), .inl r4] w25) fun r27 w26 =>
              if r27 ≠ 0 then
                nc_bV (nc_Call m_X10_next [.inr (.inr (10, ab))] w26) fun w28 =>
                some (some (.inl 1), w28)
              else
                some (some (.inl 0), w26)
            else
              nc_bV (nc_Call m_X10_next [.inr (.inr (10, ab))] w25) fun w29 =>
              nc_bI (nc_Call m_X9_readOne_8 [.inr (.inr (9, aa)), .inr (.inr (10, ab)), .inr (.inr (2, ac)), .inl (xd + 1)] w29) fun r31 w30 =>
              if r31 ≠ 0 then
                nc_bV (nc_Call m_X9_put [.inr (.inr (9, aa)), .inl 14, .inl 0, .inl 0] w30) fun w32 =>
                some (some (.inl 1), w32)
              else
                some (some (.inl 0), w30)
          else
            nc_bV (nc_Call m_X10_next [.inr (.inr (10, ab))] w25) fun w33 =>
            nc_bI (nc_Call m_X9_readCond_8 [.inr (.inr (9, aa)), .inr (.inr (10, ab)), .inr (.inr (2, ac)), .inl (xd + 1)] w33) fun r35 w34 =>
            if r35 = 0 then
              some (some (.inl 0), w34)
            else
              nc_bI (nc_Call m_X10_mustBeSign [.inr (.inr (10, ab)), .inl 41] w34) fun r37 w36 =>
              if r37 ≠ 0 then
                nc_bV (nc_Call m_X10_next [.inr (.inr (10, ab))] w36) fun w38 =>
                some (some (.inl 1), w38)
              else
                some (some (.inl 0), w36)
        else
          nc_bI (nc_Call m_X10_fail [.inr (.inr (10, ab)), .inl 4] w3) fun r40 w39 =>
          nc_z r40 <| some (some (.inl r40), w39)
    else
      nc_bI (nc_Call m_X10_fail [.inr (.inr (10, ab)), .inl 1] w3) fun r42 w41 =>
      nc_z r42 <| some (some (.inl r42), w41) :=
  (nc_Call_eq _ _ _).trans ((if_pos (Nat.le_of_ble_eq_true rfl)).trans ((nc_Run_un [] 47).trans rfl))
set_option maxRecDepth 100000 in
theorem qc_X9_readAll_7 (aa : Nat) (ab : Nat) (ac : Nat) (xd : Int32) (w : nc_H) : nc_Call m_X9_readAll_7 [.inr (.inr (9, aa)), .inr (.inr (10, ab)), .inr (.inr (2, ac)), .inl xd] w =
  nc_bI (nc_Call m_X9_readOne_7 [.inr (.inr (9, aa)), .inr (.inr (10, ab)), .inr (.inr (2, ac)), .inl xd] w) fun r2 w1 =>
  if r2 ≠ 0 then
    nc_Run m_X9_readAll_7 15 [some (.inr (.inr (9, aa))), some (.inr (.inr (10, ab))), some (.inr (.inr (2, ac))), some (.inl xd), some (.inl 0)] [] w1
  else
    some (some (.inl 0), w1) :=
  (nc_Call_eq _ _ _).trans ((if_pos (Nat.le_of_ble_eq_true rfl)).trans ((nc_Run_un [15] 9).trans rfl))
set_option maxRecDepth 100000 in
theorem qr_X9_readAll_7_15 (aa : Nat) (ab : Nat) (ac : Nat) (xd : Int32) (xe : Int32) (w : nc_H) : nc_Run m_X9_readAll_7 15 [some (.inr (.inr (9, aa))), some (.inr (.inr (10, ab))), some (.inr (.inr (2, ac))), some (.inl xd), some (.inl xe)] [] w =
  if (20 : Int32) ≤ xe then
    some (some (.inl 1), w)
  else
    nc_bI (nc_Call m_X10_word [.inr (.inr (10, ab))] w) fun r2 w1 =>
    if r2 ≠ 13 then
      some (some (.inl 1), w1)
    else
      nc_bV (nc_Call m_X10_next [.inr (.inr (10, ab))] w1) fun w3 =>
      nc_bI (nc_Call m_X9_readOne_7 [.inr (.inr (9, aa)), .inr (.inr (10, ab)), .inr (.inr (2, ac)), .inl xd] w3) fun r5 w4 =>
      if r5 ≠ 0 then
        nc_bV (nc_Call m_X9_put [.inr (.inr (9, aa)), .inl 13, .inl 0, .inl 0] w4) fun w6 =>
        nc_li (xe + 1) fun x7 =>
        nc_Run m_X9_readAll_7 15 [some (.inr (.inr (9, aa))), some (.inr (.inr (10, ab))), some (.inr (.inr (2, ac))), some (.inl xd), some (.inl x7)] [] w6
      else
        some (some (.inl 0), w4) :=
  (nc_Run_un [15] 23).trans rfl
set_option maxRecDepth 100000 in
theorem qc_X9_readCond_7 (aa : Nat) (ab : Nat) (ac : Nat) (xd : Int32) (w : nc_H) : nc_Call m_X9_readCond_7 [.inr (.inr (9, aa)), .inr (.inr (10, ab)), .inr (.inr (2, ac)), .inl xd] w =
  nc_bI (nc_Call m_X9_readAll_7 [.inr (.inr (9, aa)), .inr (.inr (10, ab)), .inr (.inr (2, ac)), .inl xd] w) fun r2 w1 =>
  if r2 ≠ 0 then
    nc_Run m_X9_readCond_7 15 [some (.inr (.inr (9, aa))), some (.inr (.inr (10, ab))), some (.inr (.inr (2, ac))), some (.inl xd), some (.inl 0)] [] w1
  else
    some (some (.inl 0), w1) :=
  (nc_Call_eq _ _ _).trans ((if_pos (Nat.le_of_ble_eq_true rfl)).trans ((nc_Run_un [15] 9).trans rfl))
set_option maxRecDepth 100000 in
theorem qr_X9_readCond_7_15 (aa : Nat) (ab : Nat) (ac : Nat) (xd : Int32) (xe : Int32) (w : nc_H) : nc_Run m_X9_readCond_7 15 [some (.inr (.inr (9, aa))), some (.inr (.inr (10, ab))), some (.inr (.inr (2, ac))), some (.inl xd), some (.inl xe)] [] w =
  if (20 : Int32) ≤ xe then
    some (some (.inl 1), w)
  else
    nc_bI (nc_Call m_X10_word [.inr (.inr (10, ab))] w) fun r2 w1 =>
    if r2 ≠ 12 then
      some (some (.inl 1), w1)
    else
      nc_bV (nc_Call m_X10_next [.inr (.inr (10, ab))] w1) fun w3 =>
      nc_bI (nc_Call m_X9_readAll_7 [.inr (.inr (9, aa)), .inr (.inr (10, ab)), .inr (.inr (2, ac)), .inl xd] w3) fun r5 w4 =>
      if r5 ≠ 0 then
        nc_bV (nc_Call m_X9_put [.inr (.inr (9, aa)), .inl 12, .inl 0, .inl 0] w4) fun w6 =>
        nc_li (xe + 1) fun x7 =>
        nc_Run m_X9_readCond_7 15 [some (.inr (.inr (9, aa))), some (.inr (.inr (10, ab))), some (.inr (.inr (2, ac))), some (.inl xd), some (.inl x7)] [] w6
      else
        some (some (.inl 0), w4) :=
  (nc_Run_un [15] 23).trans rfl
set_option maxRecDepth 100000 in
theorem qc_X9_readOne_6 (aa : Nat) (ab : Nat) (ac : Nat) (xd : Int32) (w : nc_H) : nc_Call m_X9_readOne_6 [.inr (.inr (9, aa)), .inr (.inr (10, ab)), .inr (.inr (2, ac)), .inl xd] w =
  nc_bI (nc_Call m_X10_isSign [.inr (.inr (10, ab)), .inl 40] w) fun r2 w1 =>
  nc_bI (nc_Call m_X10_word [.inr (.inr (10, ab))] w1) fun r4 w3 =>
  if r2 ≠ 0 then
    if (20 : Int32) ≤ (w3.1 9 aa 4) then
      nc_bI (nc_Call m_X10_fail [.inr (.inr (10, ab)), .inl 4] w3) fun r6 w5 =>
      nc_z r6 <| some (some (.inl r6), w5)
    else
      if xd ≤ 8 then
        nc_lt (nc_si w3 9 aa 4 ((w3.1 9 aa 4) + 1)) fun w7 =>
        if r2 = 0 then
          if r4 ≠ 14 then
            nc_bI (nc_Call m_X9_readPlainOne [.inr (.inr (9, aa)), .inr (.inr (10, ab)), .inr (.inr (2, ac)), .inl r4] w7) fun r9 w8 =>
            if r9 ≠ 0 then
              nc_bV (nc_Call m_X10_next [.inr (.inr (10, ab))] w8) fun w10 =>
              some (some (.inl 1), w10)
            else
              some (some (.inl 0), w8)
          else
            nc_bV (nc_Call m_X10_next [.inr (.inr (10, ab))] w7) fun w11 =>
            nc_bI (nc_Call m_X9_readOne_7 [.inr (.inr (9, aa)), .inr (.inr (10, ab)), .inr (.inr (2, ac)), .inl (xd + 1)] w11) fun r13 w12 =>
            if r13 ≠ 0 then
              nc_bV (nc_Call m_X9_put [.inr (.inr (9, aa)), .inl 14, .inl 0, .inl 0] w12) fun w14 =>
              some (some (.inl 1), w14)
            else
              some (some (.inl 0), w12)
        else
          nc_bV (nc_Call m_X10_next [.inr (.inr (10, ab))] w7) fun w15 =>
          nc_bI (nc_Call m_X9_readCond_7 [.inr (.inr (9, aa)), .inr (.inr (10, ab)), .inr (.inr (2, ac)), .inl (xd + 1)] w15) fun r17 w16 =>
          if r17 = 0 then
            some (some (.inl 0), w16)
          else
            nc_bI (nc_Call m_X10_mustBeSign [.inr (.inr (10, ab)), .inl 41] w16) fun r19 w18 =>
            if r19 ≠ 0 then
              nc_bV (nc_Call m_X10_next [.inr (.inr (10, ab))] w18) fun w20 =>
              some (some (.inl 1), w20)
            else
              some (some (.inl 0), w18)
      else
        nc_bI (nc_Call m_X10_fail [.inr (.inr (10, ab)), .inl 4] w3) fun r22 w21 =>
        nc_z r22 <| some (some (.inl r22), w21)
  else
    if (14 : Int32) ≤ r4 then
      if (20 : Int32) ≤ (w3.1 9 aa 4) then
        nc_bI (nc_Call m_X10_fail [.inr (.inr (10, ab)), .inl 4] w3) fun r24 w23 =>
        nc_z r24 <| some (some (.inl r24), w23)
      else
        if xd ≤ 8 then
          nc_lt (nc_si w3 9 aa 4 ((w3.1 9 aa 4) + 1)) fun w25 =>
          if r2 = 0 then
            if r4 ≠ 14 then
              nc_bI (nc_Call m_X9_readPlainOne [.inr (.inr (9, aa)), .inr (.inr (10, ab)), .inr (.inr (2, ac)), .inl r4] w25) fun r27 w26 =>
              if r27 ≠ 0 then
                nc_bV (nc_Call m_X10_next [.inr (.inr (10, ab))] w26) fun w28 =>
                some (some (.inl 1), w28)
              else
                some (some (.inl 0), w26)
            else
              nc_bV (nc_Call m_X10_next [.inr (.inr (10, ab))] w25) fun w29 =>
              nc_bI (nc_Call m_X9_readOne_7 [.inr (.inr (9, aa)), .inr (.inr (10, ab)), .inr (.inr (2, ac)), .inl (xd + 1)] w29) fun r31 w30 =>
              if r31 ≠ 0 then
                nc_bV (nc_Call m_X9_put [.inr (.inr (9, aa)), .inl 14, .inl 0, .inl 0] w30) fun w32 =>
                some (some (.inl 1), w32)
              else
                some (some (.inl 0), w30)
          else
            nc_bV (nc_Call m_X10_next [.inr (.inr (10, ab))] w25) fun w33 =>
            nc_bI (nc_Call m_X9_readCond_7 [.inr (.inr (9, aa)), .inr (.inr (10, ab)), .inr (.inr (2, ac)), .inl (xd + 1)] w33) fun r35 w34 =>
            if r35 = 0 then
              some (some (.inl 0), w34)
            else
              nc_bI (nc_Call m_X10_mustBeSign [.inr (.inr (10, ab)), .inl 41] w34) fun r37 w36 =>
              if r37 ≠ 0 then
                nc_bV (nc_Call m_X10_next [.inr (.inr (10, ab))] w36) fun w38 =>
                some (some (.inl 1), w38)
              else
                some (some (.inl 0), w36)
        else
          nc_bI (nc_Call m_X10_fail [.inr (.inr (10, ab)), .inl 4] w3) fun r40 w39 =>
          nc_z r40 <| some (some (.inl r40), w39)
    else
      nc_bI (nc_Call m_X10_fail [.inr (.inr (10, ab)), .inl 1] w3) fun r42 w41 =>
      nc_z r42 <| some (some (.inl r42), w41) :=
  (nc_Call_eq _ _ _).trans ((if_pos (Nat.le_of_ble_eq_true rfl)).trans ((nc_Run_un [] 47).trans rfl))
set_option maxRecDepth 100000 in
theorem qc_X9_readAll_6 (aa : Nat) (ab : Nat) (ac : Nat) (xd : Int32) (w : nc_H) : nc_Call m_X9_readAll_6 [.inr (.inr (9, aa)), .inr (.inr (10, ab)), .inr (.inr (2, ac)), .inl xd] w =
  nc_bI (nc_Call m_X9_readOne_6 [.inr (.inr (9, aa)), .inr (.inr (10, ab)), .inr (.inr (2, ac)), .inl xd] w) fun r2 w1 =>
  if r2 ≠ 0 then
    nc_Run m_X9_readAll_6 15 [some (.inr (.inr (9, aa))), some (.inr (.inr (10, ab))), some (.inr (.inr (2, ac))), some (.inl xd), some (.inl 0)] [] w1
  else
    some (some (.inl 0), w1) :=
  (nc_Call_eq _ _ _).trans ((if_pos (Nat.le_of_ble_eq_true rfl)).trans ((nc_Run_un [15] 9).trans rfl))
set_option maxRecDepth 100000 in
theorem qr_X9_readAll_6_15 (aa : Nat) (ab : Nat) (ac : Nat) (xd : Int32) (xe : Int32) (w : nc_H) : nc_Run m_X9_readAll_6 15 [some (.inr (.inr (9, aa))), some (.inr (.inr (10, ab))), some (.inr (.inr (2, ac))), some (.inl xd), some (.inl xe)] [] w =
  if (20 : Int32) ≤ xe then
    some (some (.inl 1), w)
  else
    nc_bI (nc_Call m_X10_word [.inr (.inr (10, ab))] w) fun r2 w1 =>
    if r2 ≠ 13 then
      some (some (.inl 1), w1)
    else
      nc_bV (nc_Call m_X10_next [.inr (.inr (10, ab))] w1) fun w3 =>
      nc_bI (nc_Call m_X9_readOne_6 [.inr (.inr (9, aa)), .inr (.inr (10, ab)), .inr (.inr (2, ac)), .inl xd] w3) fun r5 w4 =>
      if r5 ≠ 0 then
        nc_bV (nc_Call m_X9_put [.inr (.inr (9, aa)), .inl 13, .inl 0, .inl 0] w4) fun w6 =>
        nc_li (xe + 1) fun x7 =>
        nc_Run m_X9_readAll_6 15 [some (.inr (.inr (9, aa))), some (.inr (.inr (10, ab))), some (.inr (.inr (2, ac))), some (.inl xd), some (.inl x7)] [] w6
      else
        some (some (.inl 0), w4) :=
  (nc_Run_un [15] 23).trans rfl
end
section
set_option maxRecDepth 100000 in
theorem qc_X9_readCond_6 (aa : Nat) (ab : Nat) (ac : Nat) (xd : Int32) (w : nc_H) : nc_Call m_X9_readCond_6 [.inr (.inr (9, aa)), .inr (.inr (10, ab)), .inr (.inr (2, ac)), .inl xd] w =
  nc_bI (nc_Call m_X9_readAll_6 [.inr (.inr (9, aa)), .inr (.inr (10, ab)), .inr (.inr (2, ac)), .inl xd] w) fun r2 w1 =>
  if r2 ≠ 0 then
    nc_Run m_X9_readCond_6 15 [some (.inr (.inr (9, aa))), some (.inr (.inr (10, ab))), some (.inr (.inr (2, ac))), some (.inl xd), some (.inl 0)] [] w1
  else
    some (some (.inl 0), w1) :=
  (nc_Call_eq _ _ _).trans ((if_pos (Nat.le_of_ble_eq_true rfl)).trans ((nc_Run_un [15] 9).trans rfl))
set_option maxRecDepth 100000 in
theorem qr_X9_readCond_6_15 (aa : Nat) (ab : Nat) (ac : Nat) (xd : Int32) (xe : Int32) (w : nc_H) : nc_Run m_X9_readCond_6 15 [some (.inr (.inr (9, aa))), some (.inr (.inr (10, ab))), some (.inr (.inr (2, ac))), some (.inl xd), some (.inl xe)] [] w =
  if (20 : Int32) ≤ xe then
    some (some (.inl 1), w)
  else
    nc_bI (nc_Call m_X10_word [.inr (.inr (10, ab))] w) fun r2 w1 =>
    if r2 ≠ 12 then
      some (some (.inl 1), w1)
    else
      nc_bV (nc_Call m_X10_next [.inr (.inr (10, ab))] w1) fun w3 =>
      nc_bI (nc_Call m_X9_readAll_6 [.inr (.inr (9, aa)), .inr (.inr (10, ab)), .inr (.inr (2, ac)), .inl xd] w3) fun r5 w4 =>
      if r5 ≠ 0 then
        nc_bV (nc_Call m_X9_put [.inr (.inr (9, aa)), .inl 12, .inl 0, .inl 0] w4) fun w6 =>
        nc_li (xe + 1) fun x7 =>
        nc_Run m_X9_readCond_6 15 [some (.inr (.inr (9, aa))), some (.inr (.inr (10, ab))), some (.inr (.inr (2, ac))), some (.inl xd), some (.inl x7)] [] w6
      else
        some (some (.inl 0), w4) :=
  (nc_Run_un [15] 23).trans rfl
set_option maxRecDepth 100000 in
theorem qc_X9_readOne_5 (aa : Nat) (ab : Nat) (ac : Nat) (xd : Int32) (w : nc_H) : nc_Call m_X9_readOne_5 [.inr (.inr (9, aa)), .inr (.inr (10, ab)), .inr (.inr (2, ac)), .inl xd] w =
  nc_bI (nc_Call m_X10_isSign [.inr (.inr (10, ab)), .inl 40] w) fun r2 w1 =>
  nc_bI (nc_Call m_X10_word [.inr (.inr (10, ab))] w1) fun r4 w3 =>
  if r2 ≠ 0 then
    if (20 : Int32) ≤ (w3.1 9 aa 4) then
      nc_bI (nc_Call m_X10_fail [.inr (.inr (10, ab)), .inl 4] w3) fun r6 w5 =>
      nc_z r6 <| some (some (.inl r6), w5)
    else
      if xd ≤ 8 then
        nc_lt (nc_si w3 9 aa 4 ((w3.1 9 aa 4) + 1)) fun w7 =>
        if r2 = 0 then
          if r4 ≠ 14 then
            nc_bI (nc_Call m_X9_readPlainOne [.inr (.inr (9, aa)), .inr (.inr (10, ab)), .inr (.inr (2, ac)), .inl r4] w7) fun r9 w8 =>
            if r9 ≠ 0 then
              nc_bV (nc_Call m_X10_next [.inr (.inr (10, ab))] w8) fun w10 =>
              some (some (.inl 1), w10)
            else
              some (some (.inl 0), w8)
          else
            nc_bV (nc_Call m_X10_next [.inr (.inr (10, ab))] w7) fun w11 =>
            nc_bI (nc_Call m_X9_readOne_6 [.inr (.inr (9, aa)), .inr (.inr (10, ab)), .inr (.inr (2, ac)), .inl (xd + 1)] w11) fun r13 w12 =>
            if r13 ≠ 0 then
              nc_bV (nc_Call m_X9_put [.inr (.inr (9, aa)), .inl 14, .inl 0, .inl 0] w12) fun w14 =>
              some (some (.inl 1), w14)
            else
              some (some (.inl 0), w12)
        else
          nc_bV (nc_Call m_X10_next [.inr (.inr (10, ab))] w7) fun w15 =>
          nc_bI (nc_Call m_X9_readCond_6 [.inr (.inr (9, aa)), .inr (.inr (10, ab)), .inr (.inr (2, ac)), .inl (xd + 1)] w15) fun r17 w16 =>
          if r17 = 0 then
            some (some (.inl 0), w16)
          else
            nc_bI (nc_Call m_X10_mustBeSign [.inr (.inr (10, ab)), .inl 41] w16) fun r19 w18 =>
            if r19 ≠ 0 then
              nc_bV (nc_Call m_X10_next [.inr (.inr (10, ab))] w18) fun w20 =>
              some (some (.inl 1), w20)
            else
              some (some (.inl 0), w18)
      else
        nc_bI (nc_Call m_X10_fail [.inr (.inr (10, ab)), .inl 4] w3) fun r22 w21 =>
        nc_z r22 <| some (some (.inl r22), w21)
  else
    if (14 : Int32) ≤ r4 then
      if (20 : Int32) ≤ (w3.1 9 aa 4) then
        nc_bI (nc_Call m_X10_fail [.inr (.inr (10, ab)), .inl 4] w3) fun r24 w23 =>
        nc_z r24 <| some (some (.inl r24), w23)
      else
        if xd ≤ 8 then
          nc_lt (nc_si w3 9 aa 4 ((w3.1 9 aa 4) + 1)) fun w25 =>
          if r2 = 0 then
            if r4 ≠ 14 then
              nc_bI (nc_Call m_X9_readPlainOne [.inr (.inr (9, aa)), .inr (.inr (10, ab)), .inr (.inr (2, ac)), .inl r4] w25) fun r27 w26 =>
              if r27 ≠ 0 then
                nc_bV (nc_Call m_X10_next [.inr (.inr (10, ab))] w26) fun w28 =>
                some (some (.inl 1), w28)
              else
                some (some (.inl 0), w26)
            else
              nc_bV (nc_Call m_X10_next [.inr (.inr (10, ab))] w25) fun w29 =>
              nc_bI (nc_Call m_X9_readOne_6 [.inr (.inr (9, aa)), .inr (.inr (10, ab)), .inr (.inr (2, ac)), .inl (xd + 1)] w29) fun r31 w30 =>
              if r31 ≠ 0 then
                nc_bV (nc_Call m_X9_put [.inr (.inr (9, aa)), .inl 14, .inl 0, .inl 0] w30) fun w32 =>
                some (some (.inl 1), w32)
              else
                some (some (.inl 0), w30)
          else
            nc_bV (nc_Call m_X10_next [.inr (.inr (10, ab))] w25) fun w33 =>
            nc_bI (nc_Call m_X9_readCond_6 [.inr (.inr (9, aa)), .inr (.inr (10, ab)), .inr (.inr (2, ac)), .inl (xd + 1)] w33) fun r35 w34 =>
            if r35 = 0 then
              some (some (.inl 0), w34)
            else
              nc_bI (nc_Call m_X10_mustBeSign [.inr (.inr (10, ab)), .inl 41] w34) fun r37 w36 =>
              if r37 ≠ 0 then
                nc_bV (nc_Call m_X10_next [.inr (.inr (10, ab))] w36) fun w38 =>
                some (some (.inl 1), w38)
              else
                some (some (.inl 0), w36)
        else
          nc_bI (nc_Call m_X10_fail [.inr (.inr (10, ab)), .inl 4] w3) fun r40 w39 =>
          nc_z r40 <| some (some (.inl r40), w39)
    else
      nc_bI (nc_Call m_X10_fail [.inr (.inr (10, ab)), .inl 1] w3) fun r42 w41 =>
      nc_z r42 <| some (some (.inl r42), w41) :=
  (nc_Call_eq _ _ _).trans ((if_pos (Nat.le_of_ble_eq_true rfl)).trans ((nc_Run_un [] 47).trans rfl))
set_option maxRecDepth 100000 in
theorem qc_X9_readAll_5 (aa : Nat) (ab : Nat) (ac : Nat) (xd : Int32) (w : nc_H) : nc_Call m_X9_readAll_5 [.inr (.inr (9, aa)), .inr (.inr (10, ab)), .inr (.inr (2, ac)), .inl xd] w =
  nc_bI (nc_Call m_X9_readOne_5 [.inr (.inr (9, aa)), .inr (.inr (10, ab)), .inr (.inr (2, ac)), .inl xd] w) fun r2 w1 =>
  if r2 ≠ 0 then
    nc_Run m_X9_readAll_5 15 [some (.inr (.inr (9, aa))), some (.inr (.inr (10, ab))), some (.inr (.inr (2, ac))), some (.inl xd), some (.inl 0)] [] w1
  else
    some (some (.inl 0), w1) :=
  (nc_Call_eq _ _ _).trans ((if_pos (Nat.le_of_ble_eq_true rfl)).trans ((nc_Run_un [15] 9).trans rfl))
set_option maxRecDepth 100000 in
theorem qr_X9_readAll_5_15 (aa : Nat) (ab : Nat) (ac : Nat) (xd : Int32) (xe : Int32) (w : nc_H) : nc_Run m_X9_readAll_5 15 [some (.inr (.inr (9, aa))), some (.inr (.inr (10, ab))), some (.inr (.inr (2, ac))), some (.inl xd), some (.inl xe)] [] w =
  if (20 : Int32) ≤ xe then
    some (some (.inl 1), w)
  else
    nc_bI (nc_Call m_X10_word [.inr (.inr (10, ab))] w) fun r2 w1 =>
    if r2 ≠ 13 then
      some (some (.inl 1), w1)
    else
      nc_bV (nc_Call m_X10_next [.inr (.inr (10, ab))] w1) fun w3 =>
      nc_bI (nc_Call m_X9_readOne_5 [.inr (.inr (9, aa)), .inr (.inr (10, ab)), .inr (.inr (2, ac)), .inl xd] w3) fun r5 w4 =>
      if r5 ≠ 0 then
        nc_bV (nc_Call m_X9_put [.inr (.inr (9, aa)), .inl 13, .inl 0, .inl 0] w4) fun w6 =>
        nc_li (xe + 1) fun x7 =>
        nc_Run m_X9_readAll_5 15 [some (.inr (.inr (9, aa))), some (.inr (.inr (10, ab))), some (.inr (.inr (2, ac))), some (.inl xd), some (.inl x7)] [] w6
      else
        some (some (.inl 0), w4) :=
  (nc_Run_un [15] 23).trans rfl
set_option maxRecDepth 100000 in
theorem qc_X9_readCond_5 (aa : Nat) (ab : Nat) (ac : Nat) (xd : Int32) (w : nc_H) : nc_Call m_X9_readCond_5 [.inr (.inr (9, aa)), .inr (.inr (10, ab)), .inr (.inr (2, ac)), .inl xd] w =
  nc_bI (nc_Call m_X9_readAll_5 [.inr (.inr (9, aa)), .inr (.inr (10, ab)), .inr (.inr (2, ac)), .inl xd] w) fun r2 w1 =>
  if r2 ≠ 0 then
    nc_Run m_X9_readCond_5 15 [some (.inr (.inr (9, aa))), some (.inr (.inr (10, ab))), some (.inr (.inr (2, ac))), some (.inl xd), some (.inl 0)] [] w1
  else
    some (some (.inl 0), w1) :=
  (nc_Call_eq _ _ _).trans ((if_pos (Nat.le_of_ble_eq_true rfl)).trans ((nc_Run_un [15] 9).trans rfl))
set_option maxRecDepth 100000 in
theorem qr_X9_readCond_5_15 (aa : Nat) (ab : Nat) (ac : Nat) (xd : Int32) (xe : Int32) (w : nc_H) : nc_Run m_X9_readCond_5 15 [some (.inr (.inr (9, aa))), some (.inr (.inr (10, ab))), some (.inr (.inr (2, ac))), some (.inl xd), some (.inl xe)] [] w =
  if (20 : Int32) ≤ xe then
    some (some (.inl 1), w)
  else
    nc_bI (nc_Call m_X10_word [.inr (.inr (10, ab))] w) fun r2 w1 =>
    if r2 ≠ 12 then
      some (some (.inl 1), w1)
    else
      nc_bV (nc_Call m_X10_next [.inr (.inr (10, ab))] w1) fun w3 =>
      nc_bI (nc_Call m_X9_readAll_5 [.inr (.inr (9, aa)), .inr (.inr (10, ab)), .inr (.inr (2, ac)), .inl xd] w3) fun r5 w4 =>
      if r5 ≠ 0 then
        nc_bV (nc_Call m_X9_put [.inr (.inr (9, aa)), .inl 12, .inl 0, .inl 0] w4) fun w6 =>
        nc_li (xe + 1) fun x7 =>
        nc_Run m_X9_readCond_5 15 [some (.inr (.inr (9, aa))), some (.inr (.inr (10, ab))), some (.inr (.inr (2, ac))), some (.inl xd), some (.inl x7)] [] w6
      else
        some (some (.inl 0), w4) :=
  (nc_Run_un [15] 23).trans rfl
set_option maxRecDepth 100000 in
theorem qc_X9_readOne_4 (aa : Nat) (ab : Nat) (ac : Nat) (xd : Int32) (w : nc_H) : nc_Call m_X9_readOne_4 [.inr (.inr (9, aa)), .inr (.inr (10, ab)), .inr (.inr (2, ac)), .inl xd] w =
  nc_bI (nc_Call m_X10_isSign [.inr (.inr (10, ab)), .inl 40] w) fun r2 w1 =>
  nc_bI (nc_Call m_X10_word [.inr (.inr (10, ab))] w1) fun r4 w3 =>
  if r2 ≠ 0 then
    if (20 : Int32) ≤ (w3.1 9 aa 4) then
      nc_bI (nc_Call m_X10_fail [.inr (.inr (10, ab)), .inl 4] w3) fun r6 w5 =>
      nc_z r6 <| some (some (.inl r6), w5)
    else
      if xd ≤ 8 then
        nc_lt (nc_si w3 9 aa 4 ((w3.1 9 aa 4) + 1)) fun w7 =>
        if r2 = 0 then
          if r4 ≠ 14 then
            nc_bI (nc_Call m_X9_readPlainOne [.inr (.inr (9, aa)), .inr (.inr (10, ab)), .inr (.inr (2, ac)), .inl r4] w7) fun r9 w8 =>
            if r9 ≠ 0 then
              nc_bV (nc_Call m_X10_next [.inr (.inr (10, ab))] w8) fun w10 =>
              some (some (.inl 1), w10)
            else
              some (some (.inl 0), w8)
          else
            nc_bV (nc_Call m_X10_next [.inr (.inr (10, ab))] w7) fun w11 =>
            nc_bI (nc_Call m_X9_readOne_5 [.inr (.inr (9, aa)), .inr (.inr (10, ab)), .inr (.inr (2, ac)), .inl (xd + 1)] w11) fun r13 w12 =>
            if r13 ≠ 0 then
              nc_bV (nc_Call m_X9_put [.inr (.inr (9, aa)), .inl 14, .inl 0, .inl 0] w12) fun w14 =>
              some (some (.inl 1), w14)
            else
              some (some (.inl 0), w12)
        else
          nc_bV (nc_Call m_X10_next [.inr (.inr (10, ab))] w7) fun w15 =>
          nc_bI (nc_Call m_X9_readCond_5 [.inr (.inr (9, aa)), .inr (.inr (10, ab)), .inr (.inr (2, ac)), .inl (xd + 1)] w15) fun r17 w16 =>
          if r17 = 0 then
            some (some (.inl 0), w16)
          else
            nc_bI (nc_Call m_X10_mustBeSign [.inr (.inr (10, ab)), .inl 41] w16) fun r19 w18 =>
            if r19 ≠ 0 then
              nc_bV (nc_Call m_X10_next [.inr (.inr (10, ab))] w18) fun w20 =>
              some (some (.inl 1), w20)
            else
              some (some (.inl 0), w18)
      else
        nc_bI (nc_Call m_X10_fail [.inr (.inr (10, ab)), .inl 4] w3) fun r22 w21 =>
        nc_z r22 <| some (some (.inl r22), w21)
  else
    if (14 : Int32) ≤ r4 then
      if (20 : Int32) ≤ (w3.1 9 aa 4) then
        nc_bI (nc_Call m_X10_fail [.inr (.inr (10, ab)), .inl 4] w3) fun r24 w23 =>
        nc_z r24 <| some (some (.inl r24), w23)
      else
        if xd ≤ 8 then
          nc_lt (nc_si w3 9 aa 4 ((w3.1 9 aa 4) + 1)) fun w25 =>
          if r2 = 0 then
            if r4 ≠ 14 then
              nc_bI (nc_Call m_X9_readPlainOne [.inr (.inr (9, aa)), .inr (.inr (10, ab)), .inr (.inr (2, ac)), .inl r4] w25) fun r27 w26 =>
              if r27 ≠ 0 then
                nc_bV (nc_Call m_X10_next [.inr (.inr (10, ab))] w26) fun w28 =>
                some (some (.inl 1), w28)
              else
                some (some (.inl 0), w26)
            else
              nc_bV (nc_Call m_X10_next [.inr (.inr (10, ab))] w25) fun w29 =>
              nc_bI (nc_Call m_X9_readOne_5 [.inr (.inr (9, aa)), .inr (.inr (10, ab)), .inr (.inr (2, ac)), .inl (xd + 1)] w29) fun r31 w30 =>
              if r31 ≠ 0 then
                nc_bV (nc_Call m_X9_put [.inr (.inr (9, aa)), .inl 14, .inl 0, .inl 0] w30) fun w32 =>
                some (some (.inl 1), w32)
              else
                some (some (.inl 0), w30)
          else
            nc_bV (nc_Call m_X10_next [.inr (.inr (10, ab))] w25) fun w33 =>
            nc_bI (nc_Call m_X9_readCond_5 [.inr (.inr (9, aa)), .inr (.inr (10, ab)), .inr (.inr (2, ac)), .inl (xd + 1)] w33) fun r35 w34 =>
            if r35 = 0 then
              some (some (.inl 0), w34)
            else
              nc_bI (nc_Call m_X10_mustBeSign [.inr (.inr (10, ab)), .inl 41] w34) fun r37 w36 =>
              if r37 ≠ 0 then
                nc_bV (nc_Call m_X10_next [.inr (.inr (10, ab))] w36) fun w38 =>
                some (some (.inl 1), w38)
              else
                some (some (.inl 0), w36)
        else
          nc_bI (nc_Call m_X10_fail [.inr (.inr (10, ab)), .inl 4] w3) fun r40 w39 =>
          nc_z r40 <| some (some (.inl r40), w39)
    else
      nc_bI (nc_Call m_X10_fail [.inr (.inr (10, ab)), .inl 1] w3) fun r42 w41 =>
      nc_z r42 <| some (some (.inl r42), w41) :=
  (nc_Call_eq _ _ _).trans ((if_pos (Nat.le_of_ble_eq_true rfl)).trans ((nc_Run_un [] 47).trans rfl))
set_option maxRecDepth 100000 in
theorem qc_X9_readAll_4 (aa : Nat) (ab : Nat) (ac : Nat) (xd : Int32) (w : nc_H) : nc_Call m_X9_readAll_4 [.inr (.inr (9, aa)), .inr (.inr (10, ab)), .inr (.inr (2, ac)), .inl xd] w =
  nc_bI (nc_Call m_X9_readOne_4 [.inr (.inr (9, aa)), .inr (.inr (10, ab)), .inr (.inr (2, ac)), .inl xd] w) fun r2 w1 =>
  if r2 ≠ 0 then
    nc_Run m_X9_readAll_4 15 [some (.inr (.inr (9, aa))), some (.inr (.inr (10, ab))), some (.inr (.inr (2, ac))), some (.inl xd), some (.inl 0)] [] w1
  else
    some (some (.inl 0), w1) :=
  (nc_Call_eq _ _ _).trans ((if_pos (Nat.le_of_ble_eq_true rfl)).trans ((nc_Run_un [15] 9).trans rfl))
set_option maxRecDepth 100000 in
theorem qr_X9_readAll_4_15 (aa : Nat) (ab : Nat) (ac : Nat) (xd : Int32) (xe : Int32) (w : nc_H) : nc_Run m_X9_readAll_4 15 [some (.inr (.inr (9, aa))), some (.inr (.inr (10, ab))), some (.inr (.inr (2, ac))), some (.inl xd), some (.inl xe)] [] w =
  if (20 : Int32) ≤ xe then
    some (some (.inl 1), w)
  else
    nc_bI (nc_Call m_X10_word [.inr (.inr (10, ab))] w) fun r2 w1 =>
    if r2 ≠ 13 then
      some (some (.inl 1), w1)
    else
      nc_bV (nc_Call m_X10_next [.inr (.inr (10, ab))] w1) fun w3 =>
      nc_bI (nc_Call m_X9_readOne_4 [.inr (.inr (9, aa)), .inr (.inr (10, ab)), .inr (.inr (2, ac)), .inl xd] w3) fun r5 w4 =>
      if r5 ≠ 0 then
        nc_bV (nc_Call m_X9_put [.inr (.inr (9, aa)), .inl 13, .inl 0, .inl 0] w4) fun w6 =>
        nc_li (xe + 1) fun x7 =>
        nc_Run m_X9_readAll_4 15 [some (.inr (.inr (9, aa))), some (.inr (.inr (10, ab))), some (.inr (.inr (2, ac))), some (.inl xd), some (.inl x7)] [] w6
      else
        some (some (.inl 0), w4) :=
  (nc_Run_un [15] 23).trans rfl
set_option maxRecDepth 100000 in
theorem qc_X9_readCond_4 (aa : Nat) (ab : Nat) (ac : Nat) (xd : Int32) (w : nc_H) : nc_Call m_X9_readCond_4 [.inr (.inr (9, aa)), .inr (.inr (10, ab)), .inr (.inr (2, ac)), .inl xd] w =
  nc_bI (nc_Call m_X9_readAll_4 [.inr (.inr (9, aa)), .inr (.inr (10, ab)), .inr (.inr (2, ac)), .inl xd] w) fun r2 w1 =>
  if r2 ≠ 0 then
    nc_Run m_X9_readCond_4 15 [some (.inr (.inr (9, aa))), some (.inr (.inr (10, ab))), some (.inr (.inr (2, ac))), some (.inl xd), some (.inl 0)] [] w1
  else
    some (some (.inl 0), w1) :=
  (nc_Call_eq _ _ _).trans ((if_pos (Nat.le_of_ble_eq_true rfl)).trans ((nc_Run_un [15] 9).trans rfl))
set_option maxRecDepth 100000 in
theorem qr_X9_readCond_4_15 (aa : Nat) (ab : Nat) (ac : Nat) (xd : Int32) (xe : Int32) (w : nc_H) : nc_Run m_X9_readCond_4 15 [some (.inr (.inr (9, aa))), some (.inr (.inr (10, ab))), some (.inr (.inr (2, ac))), some (.inl xd), some (.inl xe)] [] w =
  if (20 : Int32) ≤ xe then
    some (some (.inl 1), w)
  else
    nc_bI (nc_Call m_X10_word [.inr (.inr (10, ab))] w) fun r2 w1 =>
    if r2 ≠ 12 then
      some (some (.inl 1), w1)
    else
      nc_bV (nc_Call m_X10_next [.inr (.inr (10, ab))] w1) fun w3 =>
      nc_bI (nc_Call m_X9_readAll_4 [.inr (.inr (9, aa)), .inr (.inr (10, ab)), .inr (.inr (2, ac)), .inl xd] w3) fun r5 w4 =>
      if r5 ≠ 0 then
        nc_bV (nc_Call m_X9_put [.inr (.inr (9, aa)), .inl 12, .inl 0, .inl 0] w4) fun w6 =>
        nc_li (xe + 1) fun x7 =>
        nc_Run m_X9_readCond_4 15 [some (.inr (.inr (9, aa))), some (.inr (.inr (10, ab))), some (.inr (.inr (2, ac))), some (.inl xd), some (.inl x7)] [] w6
      else
        some (some (.inl 0), w4) :=
  (nc_Run_un [15] 23).trans rfl
set_option maxRecDepth 100000 in
theorem qc_X9_readOne_3 (aa : Nat) (ab : Nat) (ac : Nat) (xd : Int32) (w : nc_H) : nc_Call m_X9_readOne_3 [.inr (.inr (9, aa)), .inr (.inr (10, ab)), .inr (.inr (2, ac)), .inl xd] w =
  nc_bI (nc_Call m_X10_isSign [.inr (.inr (10, ab)), .inl 40] w) fun r2 w1 =>
  nc_bI (nc_Call m_X10_word [.inr (.inr (10, ab))] w1) fun r4 w3 =>
  if r2 ≠ 0 then
    if (20 : Int32) ≤ (w3.1 9 aa 4) then
      nc_bI (nc_Call m_X10_fail [.inr (.inr (10, ab)), .inl 4] w3) fun r6 w5 =>
      nc_z r6 <| some (some (.inl r6), w5)
    else
      if xd ≤ 8 then
        nc_lt (nc_si w3 9 aa 4 ((w3.1 9 aa 4) + 1)) fun w7 =>
        if r2 = 0 then
          if r4 ≠ 14 then
            nc_bI (nc_Call m_X9_readPlainOne [.inr (.inr (9, aa)), .inr (.inr (10, ab)), .inr (.inr (2, ac)), .inl r4] w7) fun r9 w8 =>
            if r9 ≠ 0 then
              nc_bV (nc_Call m_X10_next [.inr (.inr (10, ab))] w8) fun w10 =>
              some (some (.inl 1), w10)
            else
              some (some (.inl 0), w8)
          else
            nc_bV (nc_Call m_X10_next [.inr (.inr (10, ab))] w7) fun w11 =>
            nc_bI (nc_Call m_X9_readOne_4 [.inr (.inr (9, aa)), .inr (.inr (10, ab)), .inr (.inr (2, ac)), .inl (xd + 1)] w11) fun r13 w12 =>
            if r13 ≠ 0 then
              nc_bV (nc_Call m_X9_put [.inr (.inr (9, aa)), .inl 14, .inl 0, .inl 0] w12) fun w14 =>
              some (some (.inl 1), w14)
            else
              some (some (.inl 0), w12)
        else
          nc_bV (nc_Call m_X10_next [.inr (.inr (10, ab))] w7) fun w15 =>
          nc_bI (nc_Call m_X9_readCond_4 [.inr (.inr (9, aa)), .inr (.inr (10, ab)), .inr (.inr (2, ac)), .inl (xd + 1)] w15) fun r17 w16 =>
          if r17 = 0 then
            some (some (.inl 0), w16)
          else
            nc_bI (nc_Call m_X10_mustBeSign [.inr (.inr (10, ab)), .inl 41] w16) fun r19 w18 =>
            if r19 ≠ 0 then
              nc_bV (nc_Call m_X10_next [.inr (.inr (10, ab))] w18) fun w20 =>
              some (some (.inl 1), w20)
            else
              some (some (.inl 0), w18)
      else
        nc_bI (nc_Call m_X10_fail [.inr (.inr (10, ab)), .inl 4] w3) fun r22 w21 =>
        nc_z r22 <| some (some (.inl r22), w21)
  else
    if (14 : Int32) ≤ r4 then
      if (20 : Int32) ≤ (w3.1 9 aa 4) then
        nc_bI (nc_Call m_X10_fail [.inr (.inr (10, ab)), .inl 4] w3) fun r24 w23 =>
        nc_z r24 <| some (some (.inl r24), w23)
      else
        if xd ≤ 8 then
          nc_lt (nc_si w3 9 aa 4 ((w3.1 9 aa 4) + 1)) fun w25 =>
          if r2 = 0 then
            if r4 ≠ 14 then
              nc_bI (nc_Call m_X9_readPlainOne [.inr (.inr (9, aa)), .inr (.inr (10, ab)), .inr (.inr (2, ac)), .inl r4] w25) fun r27 w26 =>
              if r27 ≠ 0 then
                nc_bV (nc_Call m_X10_next [.inr (.inr (10, ab))] w26) fun w28 =>
                some (some (.inl 1), w28)
              else
                some (some (.inl 0), w26)
            else
              nc_bV (nc_Call m_X10_next [.inr (.inr (10, ab))] w25) fun w29 =>
              nc_bI (nc_Call m_X9_readOne_4 [.inr (.inr (9, aa)), .inr (.inr (10, ab)), .inr (.inr (2, ac)), .inl (xd + 1)] w29) fun r31 w30 =>
              if r31 ≠ 0 then
                nc_bV (nc_Call m_X9_put [.inr (.inr (9, aa)), .inl 14, .inl 0, .inl 0] w30) fun w32 =>
                some (some (.inl 1), w32)
              else
                some (some (.inl 0), w30)
          else
            nc_bV (nc_Call m_X10_next [.inr (.inr (10, ab))] w25) fun w33 =>
            nc_bI (nc_Call m_X9_readCond_4 [.inr (.inr (9, aa)), .inr (.inr (10, ab)), .inr (.inr (2, ac)), .inl (xd + 1)] w33) fun r35 w34 =>
            if r35 = 0 then
              some (some (.inl 0), w34)
            else
              nc_bI (nc_Call m_X10_mustBeSign [.inr (.inr (10, ab)), .inl 41] w34) fun r37 w36 =>
              if r37 ≠ 0 then
                nc_bV (nc_Call m_X10_next [.inr (.inr (10, ab))] w36) fun w38 =>
                some (some (.inl 1), w38)
              else
                some (some (.inl 0), w36)
        else
          nc_bI (nc_Call m_X10_fail [.inr (.inr (10, ab)), .inl 4] w3) fun r40 w39 =>
          nc_z r40 <| some (some (.inl r40), w39)
    else
      nc_bI (nc_Call m_X10_fail [.inr (.inr (10, ab)), .inl 1] w3) fun r42 w41 =>
      nc_z r42 <| some (some (.inl r42), w41) :=
  (nc_Call_eq _ _ _).trans ((if_pos (Nat.le_of_ble_eq_true rfl)).trans ((nc_Run_un [] 47).trans rfl))
set_option maxRecDepth 100000 in
theorem qc_X9_readAll_3 (aa : Nat) (ab : Nat) (ac : Nat) (xd : Int32) (w : nc_H) : nc_Call m_X9_readAll_3 [.inr (.inr (9, aa)), .inr (.inr (10, ab)), .inr (.inr (2, ac)), .inl xd] w =
  nc_bI (nc_Call m_X9_readOne_3 [.inr (.inr (9, aa)), .inr (.inr (10, ab)), .inr (.inr (2, ac)), .inl xd] w) fun r2 w1 =>
  if r2 ≠ 0 then
    nc_Run m_X9_readAll_3 15 [some (.inr (.inr (9, aa))), some (.inr (.inr (10, ab))), some (.inr (.inr (2, ac))), some (.inl xd), some (.inl 0)] [] w1
  else
    some (some (.inl 0), w1) :=
  (nc_Call_eq _ _ _).trans ((if_pos (Nat.le_of_ble_eq_true rfl)).trans ((nc_Run_un [15] 9).trans rfl))
set_option maxRecDepth 100000 in
theorem qr_X9_readAll_3_15 (aa : Nat) (ab : Nat) (ac : Nat) (xd : Int32) (xe : Int32) (w : nc_H) : nc_Run m_X9_readAll_3 15 [some (.inr (.inr (9, aa))), some (.inr (.inr (10, ab))), some (.inr (.inr (2, ac))), some (.inl xd), some (.inl xe)] [] w =
  if (20 : Int32) ≤ xe then
    some (some (.inl 1), w)
  else
    nc_bI (nc_Call m_X10_word [.inr (.inr (10, ab))] w) fun r2 w1 =>
    if r2 ≠ 13 then
      some (some (.inl 1), w1)
    else
      nc_bV (nc_Call m_X10_next [.inr (.inr (10, ab))] w1) fun w3 =>
      nc_bI (nc_Call m_X9_readOne_3 [.inr (.inr (9, aa)), .inr (.inr (10, ab)), .inr (.inr (2, ac)), .inl xd] w3) fun r5 w4 =>
      if r5 ≠ 0 then
        nc_bV (nc_Call m_X9_put [.inr (.inr (9, aa)), .inl 13, .inl 0, .inl 0] w4) fun w6 =>
        nc_li (xe + 1) fun x7 =>
        nc_Run m_X9_readAll_3 15 [some (.inr (.inr (9, aa))), some (.inr (.inr (10, ab))), some (.inr (.inr (2, ac))), some (.inl xd), some (.inl x7)] [] w6
      else
        some (some (.inl 0), w4) :=
  (nc_Run_un [15] 23).trans rfl
set_option maxRecDepth 100000 in
theorem qc_X9_readCond_3 (aa : Nat) (ab : Nat) (ac : Nat) (xd : Int32) (w : nc_H) : nc_Call m_X9_readCond_3 [.inr (.inr (9, aa)), .inr (.inr (10, ab)), .inr (.inr (2, ac)), .inl xd] w =
  nc_bI (nc_Call m_X9_readAll_3 [.inr (.inr (9, aa)), .inr (.inr (10, ab)), .inr (.inr (2, ac)), .inl xd] w) fun r2 w1 =>
  if r2 ≠ 0 then
    nc_Run m_X9_readCond_3 15 [some (.inr (.inr (9, aa))), some (.inr (.inr (10, ab))), some (.inr (.inr (2, ac))), some (.inl xd), some (.inl 0)] [] w1
  else
    some (some (.inl 0), w1) :=
  (nc_Call_eq _ _ _).trans ((if_pos (Nat.le_of_ble_eq_true rfl)).trans ((nc_Run_un [15] 9).trans rfl))
set_option maxRecDepth 100000 in
theorem qr_X9_readCond_3_15 (aa : Nat) (ab : Nat) (ac : Nat) (xd : Int32) (xe : Int32) (w : nc_H) : nc_Run m_X9_readCond_3 15 [some (.inr (.inr (9, aa))), some (.inr (.inr (10, ab))), some (.inr (.inr (2, ac))), some (.inl xd), some (.inl xe)] [] w =
  if (20 : Int32) ≤ xe then
    some (some (.inl 1), w)
  else
    nc_bI (nc_Call m_X10_word [.inr (.inr (10, ab))] w) fun r2 w1 =>
    if r2 ≠ 12 then
      some (some (.inl 1), w1)
    else
      nc_bV (nc_Call m_X10_next [.inr (.inr (10, ab))] w1) fun w3 =>
      nc_bI (nc_Call m_X9_readAll_3 [.inr (.inr (9, aa)), .inr (.inr (10, ab)), .inr (.inr (2, ac)), .inl xd] w3) fun r5 w4 =>
      if r5 ≠ 0 then
        nc_bV (nc_Call m_X9_put [.inr (.inr (9, aa)), .inl 12, .inl 0, .inl 0] w4) fun w6 =>
        nc_li (xe + 1) fun x7 =>
        nc_Run m_X9_readCond_3 15 [some (.inr (.inr (9, aa))), some (.inr (.inr (10, ab))), some (.inr (.inr (2, ac))), some (.inl xd), some (.inl x7)] [] w6
      else
        some (some (.inl 0), w4) :=
  (nc_Run_un [15] 23).trans rfl
set_option maxRecDepth 100000 in
theorem qc_X9_readOne_2 (aa : Nat) (ab : Nat) (ac : Nat) (xd : Int32) (w : nc_H) : nc_Call m_X9_readOne_2 [.inr (.inr (9, aa)), .inr (.inr (10, ab)), .inr (.inr (2, ac)), .inl xd] w =
  nc_bI (nc_Call m_X10_isSign [.inr (.inr (10, ab)), .inl 40] w) fun r2 w1 =>
  nc_bI (nc_Call m_X10_word [.inr (.inr (10, ab))] w1) fun r4 w3 =>
  if r2 ≠ 0 then
    if (20 : Int32) ≤ (w3.1 9 aa 4) then
      nc_bI (nc_Call m_X10_fail [.inr (.inr (10, ab)), .inl 4] w3) fun r6 w5 =>
      nc_z r6 <| some (some (.inl r6), w5)
    else
      if xd ≤ 8 then
        nc_lt (nc_si w3 9 aa 4 ((w3.1 9 aa 4) + 1)) fun w7 =>
        if r2 = 0 then
          if r4 ≠ 14 then
            nc_bI (nc_Call m_X9_readPlainOne [.inr (.inr (9, aa)), .inr (.inr (10, ab)), .inr (.inr (2, ac)), .inl r4] w7) fun r9 w8 =>
            if r9 ≠ 0 then
              nc_bV (nc_Call m_X10_next [.inr (.inr (10, ab))] w8) fun w10 =>
              some (some (.inl 1), w10)
            else
              some (some (.inl 0), w8)
          else
            nc_bV (nc_Call m_X10_next [.inr (.inr (10, ab))] w7) fun w11 =>
            nc_bI (nc_Call m_X9_readOne_3 [.inr (.inr (9, aa)), .inr (.inr (10, ab)), .inr (.inr (2, ac)), .inl (xd + 1)] w11) fun r13 w12 =>
            if r13 ≠ 0 then
              nc_bV (nc_Call m_X9_put [.inr (.inr (9, aa)), .inl 14, .inl 0, .inl 0] w12) fun w14 =>
              some (some (.inl 1), w14)
            else
              some (some (.inl 0), w12)
        else
          nc_bV (nc_Call m_X10_next [.inr (.inr (10, ab))] w7) fun w15 =>
          nc_bI (nc_Call m_X9_readCond_3 [.inr (.inr (9, aa)), .inr (.inr (10, ab)), .inr (.inr (2, ac)), .inl (xd + 1)] w15) fun r17 w16 =>
          if r17 = 0 then
            some (some (.inl 0), w16)
          else
            nc_bI (nc_Call m_X10_mustBeSign [.inr (.inr (10, ab)), .inl 41] w16) fun r19 w18 =>
            if r19 ≠ 0 then
              nc_bV (nc_Call m_X10_next [.inr (.inr (10, ab))] w18) fun w20 =>
              some (some (.inl 1), w20)
            else
              some (some (.inl 0), w18)
      else
        nc_bI (nc_Call m_X10_fail [.inr (.inr (10, ab)), .inl 4] w3) fun r22 w21 =>
        nc_z r22 <| some (some (.inl r22), w21)
  else
    if (14 : Int32) ≤ r4 then
      if (20 : Int32) ≤ (w3.1 9 aa 4) then
        nc_bI (nc_Call m_X10_fail [.inr (.inr (10, ab)), .inl 4] w3) fun r24 w23 =>
        nc_z r24 <| some (some (.inl r24), w23)
      else
        if xd ≤ 8 then
          nc_lt (nc_si w3 9 aa 4 ((w3.1 9 aa 4) + 1)) fun w25 =>
          if r2 = 0 then
            if r4 ≠ 14 then
              nc_bI (nc_Call m_X9_readPlainOne [.inr (.inr (9, aa)), .inr (.inr (10, ab)), .inr (.inr (2, ac)), .inl r4] w25) fun r27 w26 =>
              if r27 ≠ 0 then
                nc_bV (nc_Call m_X10_next [.inr (.inr (10, ab))] w26) fun w28 =>
                some (some (.inl 1), w28)
              else
                some (some (.inl 0), w26)
            else
              nc_bV (nc_Call m_X10_next [.inr (.inr (10, ab))] w25) fun w29 =>
              nc_bI (nc_Call m_X9_readOne_3 [.inr (.inr (9, aa)), .inr (.inr (10, ab)), .inr (.inr (2, ac)), .inl (xd + 1)] w29) fun r31 w30 =>
              if r31 ≠ 0 then
                nc_bV (nc_Call m_X9_put [.inr (.inr (9, aa)), .inl 14, .inl 0, .inl 0] w30) fun w32 =>
                some (some (.inl 1), w32)
              else
                some (some (.inl 0), w30)
          else
            nc_bV (nc_Call m_X10_next [.inr (.inr (10, ab))] w25) fun w33 =>
            nc_bI (nc_Call m_X9_readCond_3 [.inr (.inr (9, aa)), .inr (.inr (10, ab)), .inr (.inr (2, ac)), .inl (xd + 1)] w33) fun r35 w34 =>
            if r35 = 0 then
              some (some (.inl 0), w34)
            else
              nc_bI (nc_Call m_X10_mustBeSign [.inr (.inr (10, ab)), .inl 41] w34) fun r37 w36 =>
              if r37 ≠ 0 then
                nc_bV (nc_Call m_X10_next [.inr (.inr (10, ab))] w36) fun w38 =>
                some (some (.inl 1), w38)
              else
                some (some (.inl 0), w36)
        else
          nc_bI (nc_Call m_X10_fail [.inr (.inr (10, ab)), .inl 4] w3) fun r40 w39 =>
          nc_z r40 <| some (some (.inl r40), w39)
    else
      nc_bI (nc_Call m_X10_fail [.inr (.inr (10, ab)), .inl 1] w3) fun r42 w41 =>
      nc_z r42 <| some (some (.inl r42), w41) :=
  (nc_Call_eq _ _ _).trans ((if_pos (Nat.le_of_ble_eq_true rfl)).trans ((nc_Run_un [] 47).trans rfl))
set_option maxRecDepth 100000 in
theorem qc_X9_readAll_2 (aa : Nat) (ab : Nat) (ac : Nat) (xd : Int32) (w : nc_H) : nc_Call m_X9_readAll_2 [.inr (.inr (9, aa)), .inr (.inr (10, ab)), .inr (.inr (2, ac)), .inl xd] w =
  nc_bI (nc_Call m_X9_readOne_2 [.inr (.inr (9, aa)), .inr (.inr (10, ab)), .inr (.inr (2, ac)), .inl xd] w) fun r2 w1 =>
  if r2 ≠ 0 then
    nc_Run m_X9_readAll_2 15 [some (.inr (.inr (9, aa))), some (.inr (.inr (10, ab))), some (.inr (.inr (2, ac))), some (.inl xd), some (.inl 0)] [] w1
  else
    some (some (.inl 0), w1) :=
  (nc_Call_eq _ _ _).trans ((if_pos (Nat.le_of_ble_eq_true rfl)).trans ((nc_Run_un [15] 9).trans rfl))
set_option maxRecDepth 100000 in
theorem qr_X9_readAll_2_15 (aa : Nat) (ab : Nat) (ac : Nat) (xd : Int32) (xe : Int32) (w : nc_H) : nc_Run m_X9_readAll_2 15 [some (.inr (.inr (9, aa))), some (.inr (.inr (10, ab))), some (.inr (.inr (2, ac))), some (.inl xd), some (.inl xe)] [] w =
  if (20 : Int32) ≤ xe then
    some (some (.inl 1), w)
  else
    nc_bI (nc_Call m_X10_word [.inr (.inr (10, ab))] w) fun r2 w1 =>
    if r2 ≠ 13 then
      some (some (.inl 1), w1)
    else
      nc_bV (nc_Call m_X10_next [.inr (.inr (10, ab))] w1) fun w3 =>
      nc_bI (nc_Call m_X9_readOne_2 [.inr (.inr (9, aa)), .inr (.inr (10, ab)), .inr (.inr (2, ac)), .inl xd] w3) fun r5 w4 =>
      if r5 ≠ 0 then
        nc_bV (nc_Call m_X9_put [.inr (.inr (9, aa)), .inl 13, .inl 0, .inl 0] w4) fun w6 =>
        nc_li (xe + 1) fun x7 =>
        nc_Run m_X9_readAll_2 15 [some (.inr (.inr (9, aa))), some (.inr (.inr (10, ab))), some (.inr (.inr (2, ac))), some (.inl xd), some (.inl x7)] [] w6
      else
        some (some (.inl 0), w4) :=
  (nc_Run_un [15] 23).trans rfl
set_option maxRecDepth 100000 in
theorem qc_X9_readCond_2 (aa : Nat) (ab : Nat) (ac : Nat) (xd : Int32) (w : nc_H) : nc_Call m_X9_readCond_2 [.inr (.inr (9, aa)), .inr (.inr (10, ab)), .inr (.inr (2, ac)), .inl xd] w =
  nc_bI (nc_Call m_X9_readAll_2 [.inr (.inr (9, aa)), .inr (.inr (10, ab)), .inr (.inr (2, ac)), .inl xd] w) fun r2 w1 =>
  if r2 ≠ 0 then
    nc_Run m_X9_readCond_2 15 [some (.inr (.inr (9, aa))), some (.inr (.inr (10, ab))), some (.inr (.inr (2, ac))), some (.inl xd), some (.inl 0)] [] w1
  else
    some (some (.inl 0), w1) :=
  (nc_Call_eq _ _ _).trans ((if_pos (Nat.le_of_ble_eq_true rfl)).trans ((nc_Run_un [15] 9).trans rfl))
set_option maxRecDepth 100000 in
theorem qr_X9_readCond_2_15 (aa : Nat) (ab : Nat) (ac : Nat) (xd : Int32) (xe : Int32) (w : nc_H) : nc_Run m_X9_readCond_2 15 [some (.inr (.inr (9, aa))), some (.inr (.inr (10, ab))), some (.inr (.inr (2, ac))), some (.inl xd), some (.inl xe)] [] w =
  if (20 : Int32) ≤ xe then
    some (some (.inl 1), w)
  else
    nc_bI (nc_Call m_X10_word [.inr (.inr (10, ab))] w) fun r2 w1 =>
    if r2 ≠ 12 then
      some (some (.inl 1), w1)
    else
      nc_bV (nc_Call m_X10_next [.inr (.inr (10, ab))] w1) fun w3 =>
      nc_bI (nc_Call m_X9_readAll_2 [.inr (.inr (9, aa)), .inr (.inr (10, ab)), .inr (.inr (2, ac)), .inl xd] w3) fun r5 w4 =>
      if r5 ≠ 0 then
        nc_bV (nc_Call m_X9_put [.inr (.inr (9, aa)), .inl 12, .inl 0, .inl 0] w4) fun w6 =>
        nc_li (xe + 1) fun x7 =>
        nc_Run m_X9_readCond_2 15 [some (.inr (.inr (9, aa))), some (.inr (.inr (10, ab))), some (.inr (.inr (2, ac))), some (.inl xd), some (.inl x7)] [] w6
      else
        some (some (.inl 0), w4) :=
  (nc_Run_un [15] 23).trans rfl
set_option maxRecDepth 100000 in
theorem qc_X9_readOne_1 (aa : Nat) (ab : Nat) (ac : Nat) (xd : Int32) (w : nc_H) : nc_Call m_X9_readOne_1 [.inr (.inr (9, aa)), .inr (.inr (10, ab)), .inr (.inr (2, ac)), .inl xd] w =
  nc_bI (nc_Call m_X10_isSign [.inr (.inr (10, ab)), .inl 40] w) fun r2 w1 =>
  nc_bI (nc_Call m_X10_word [.inr (.inr (10, ab))] w1) fun r4 w3 =>
  if r2 ≠ 0 then
    if (20 : Int32) ≤ (w3.1 9 aa 4) then
      nc_bI (nc_Call m_X10_fail [.inr (.inr (10, ab)), .inl 4] w3) fun r6 w5 =>
      nc_z r6 <| some (some (.inl r6), w5)
    else
      if xd ≤ 8 then
        nc_lt (nc_si w3 9 aa 4 ((w3.1 9 aa 4) + 1)) fun w7 =>
        if r2 = 0 then
          if r4 ≠ 14 then
            nc_bI (nc_Call m_X9_readPlainOne [.inr (.inr (9, aa)), .inr (.inr (10, ab)), .inr (.inr (2, ac)), .inl r4] w7) fun r9 w8 =>
            if r9 ≠ 0 then
              nc_bV (nc_Call m_X10_next [.inr (.inr (10, ab))] w8) fun w10 =>
              some (some (.inl 1), w10)
            else
              some (some (.inl 0), w8)
          else
            nc_bV (nc_Call m_X10_next [.inr (.inr (10, ab))] w7) fun w11 =>
            nc_bI (nc_Call m_X9_readOne_2 [.inr (.inr (9, aa)), .inr (.inr (10, ab)), .inr (.inr (2, ac)), .inl (xd + 1)] w11) fun r13 w12 =>
            if r13 ≠ 0 then
              nc_bV (nc_Call m_X9_put [.inr (.inr (9, aa)), .inl 14, .inl 0, .inl 0] w12) fun w14 =>
              some (some (.inl 1), w14)
            else
              some (some (.inl 0), w12)
        else
          nc_bV (nc_Call m_X10_next [.inr (.inr (10, ab))] w7) fun w15 =>
          nc_bI (nc_Call m_X9_readCond_2 [.inr (.inr (9, aa)), .inr (.inr (10, ab)), .inr (.inr (2, ac)), .inl (xd + 1)] w15) fun r17 w16 =>
          if r17 = 0 then
            some (some (.inl 0), w16)
          else
            nc_bI (nc_Call m_X10_mustBeSign [.inr (.inr (10, ab)), .inl 41] w16) fun r19 w18 =>
            if r19 ≠ 0 then
              nc_bV (nc_Call m_X10_next [.inr (.inr (10, ab))] w18) fun w20 =>
              some (some (.inl 1), w20)
            else
              some (some (.inl 0), w18)
      else
        nc_bI (nc_Call m_X10_fail [.inr (.inr (10, ab)), .inl 4] w3) fun r22 w21 =>
        nc_z r22 <| some (some (.inl r22), w21)
  else
    if (14 : Int32) ≤ r4 then
      if (20 : Int32) ≤ (w3.1 9 aa 4) then
        nc_bI (nc_Call m_X10_fail [.inr (.inr (10, ab)), .inl 4] w3) fun r24 w23 =>
        nc_z r24 <| some (some (.inl r24), w23)
      else
        if xd ≤ 8 then
          nc_lt (nc_si w3 9 aa 4 ((w3.1 9 aa 4) + 1)) fun w25 =>
          if r2 = 0 then
            if r4 ≠ 14 then
              nc_bI (nc_Call m_X9_readPlainOne [.inr (.inr (9, aa)), .inr (.inr (10, ab)), .inr (.inr (2, ac)), .inl r4] w25) fun r27 w26 =>
              if r27 ≠ 0 then
                nc_bV (nc_Call m_X10_next [.inr (.inr (10, ab))] w26) fun w28 =>
                some (some (.inl 1), w28)
              else
                some (some (.inl 0), w26)
            else
              nc_bV (nc_Call m_X10_next [.inr (.inr (10, ab))] w25) fun w29 =>
              nc_bI (nc_Call m_X9_readOne_2 [.inr (.inr (9, aa)), .inr (.inr (10, ab)), .inr (.inr (2, ac)), .inl (xd + 1)] w29) fun r31 w30 =>
              if r31 ≠ 0 then
                nc_bV (nc_Call m_X9_put [.inr (.inr (9, aa)), .inl 14, .inl 0, .inl 0] w30) fun w32 =>
                some (some (.inl 1), w32)
              else
                some (some (.inl 0), w30)
          else
            nc_bV (nc_Call m_X10_next [.inr (.inr (10, ab))] w25) fun w33 =>
            nc_bI (nc_Call m_X9_readCond_2 [.inr (.inr (9, aa)), .inr (.inr (10, ab)), .inr (.inr (2, ac)), .inl (xd + 1)] w33) fun r35 w34 =>
            if r35 = 0 then
              some (some (.inl 0), w34)
            else
              nc_bI (nc_Call m_X10_mustBeSign [.inr (.inr (10, ab)), .inl 41] w34) fun r37 w36 =>
              if r37 ≠ 0 then
                nc_bV (nc_Call m_X10_next [.inr (.inr (10, ab))] w36) fun w38 =>
                some (some (.inl 1), w38)
              else
                some (some (.inl 0), w36)
        else
          nc_bI (nc_Call m_X10_fail [.inr (.inr (10, ab)), .inl 4] w3) fun r40 w39 =>
          nc_z r40 <| some (some (.inl r40), w39)
    else
      nc_bI (nc_Call m_X10_fail [.inr (.inr (10, ab)), .inl 1] w3) fun r42 w41 =>
      nc_z r42 <| some (some (.inl r42), w41) :=
  (nc_Call_eq _ _ _).trans ((if_pos (Nat.le_of_ble_eq_true rfl)).trans ((nc_Run_un [] 47).trans rfl))
set_option maxRecDepth 100000 in
theorem qc_X9_readAll_1 (aa : Nat) (ab : Nat) (ac : Nat) (xd : Int32) (w : nc_H) : nc_Call m_X9_readAll_1 [.inr (.inr (9, aa)), .inr (.inr (10, ab)), .inr (.inr (2, ac)), .inl xd] w =
  nc_bI (nc_Call m_X9_readOne_1 [.inr (.inr (9, aa)), .inr (.inr (10, ab)), .inr (.inr (2, ac)), .inl xd] w) fun r2 w1 =>
  if r2 ≠ 0 then
    nc_Run m_X9_readAll_1 15 [some (.inr (.inr (9, aa))), some (.inr (.inr (10, ab))), some (.inr (.inr (2, ac))), some (.inl xd), some (.inl 0)] [] w1
  else
    some (some (.inl 0), w1) :=
  (nc_Call_eq _ _ _).trans ((if_pos (Nat.le_of_ble_eq_true rfl)).trans ((nc_Run_un [15] 9).trans rfl))
set_option maxRecDepth 100000 in
theorem qr_X9_readAll_1_15 (aa : Nat) (ab : Nat) (ac : Nat) (xd : Int32) (xe : Int32) (w : nc_H) : nc_Run m_X9_readAll_1 15 [some (.inr (.inr (9, aa))), some (.inr (.inr (10, ab))), some (.inr (.inr (2, ac))), some (.inl xd), some (.inl xe)] [] w =
  if (20 : Int32) ≤ xe then
    some (some (.inl 1), w)
  else
    nc_bI (nc_Call m_X10_word [.inr (.inr (10, ab))] w) fun r2 w1 =>
    if r2 ≠ 13 then
      some (some (.inl 1), w1)
    else
      nc_bV (nc_Call m_X10_next [.inr (.inr (10, ab))] w1) fun w3 =>
      nc_bI (nc_Call m_X9_readOne_1 [.inr (.inr (9, aa)), .inr (.inr (10, ab)), .inr (.inr (2, ac)), .inl xd] w3) fun r5 w4 =>
      if r5 ≠ 0 then
        nc_bV (nc_Call m_X9_put [.inr (.inr (9, aa)), .inl 13, .inl 0, .inl 0] w4) fun w6 =>
        nc_li (xe + 1) fun x7 =>
        nc_Run m_X9_readAll_1 15 [some (.inr (.inr (9, aa))), some (.inr (.inr (10, ab))), some (.inr (.inr (2, ac))), some (.inl xd), some (.inl x7)] [] w6
      else
        some (some (.inl 0), w4) :=
  (nc_Run_un [15] 23).trans rfl
set_option maxRecDepth 100000 in
theorem qc_X9_readCond_1 (aa : Nat) (ab : Nat) (ac : Nat) (xd : Int32) (w : nc_H) : nc_Call m_X9_readCond_1 [.inr (.inr (9, aa)), .inr (.inr (10, ab)), .inr (.inr (2, ac)), .inl xd] w =
  nc_bI (nc_Call m_X9_readAll_1 [.inr (.inr (9, aa)), .inr (.inr (10, ab)), .inr (.inr (2, ac)), .inl xd] w) fun r2 w1 =>
  if r2 ≠ 0 then
    nc_Run m_X9_readCond_1 15 [some (.inr (.inr (9, aa))), some (.inr (.inr (10, ab))), some (.inr (.inr (2, ac))), some (.inl xd), some (.inl 0)] [] w1
  else
    some (some (.inl 0), w1) :=
  (nc_Call_eq _ _ _).trans ((if_pos (Nat.le_of_ble_eq_true rfl)).trans ((nc_Run_un [15] 9).trans rfl))
set_option maxRecDepth 100000 in
theorem qr_X9_readCond_1_15 (aa : Nat) (ab : Nat) (ac : Nat) (xd : Int32) (xe : Int32) (w : nc_H) : nc_Run m_X9_readCond_1 15 [some (.inr (.inr (9, aa))), some (.inr (.inr (10, ab))), some (.inr (.inr (2, ac))), some (.inl xd), some (.inl xe)] [] w =
  if (20 : Int32) ≤ xe then
    some (some (.inl 1), w)
  else
    nc_bI (nc_Call m_X10_word [.inr (.inr (10, ab))] w) fun r2 w1 =>
    if r2 ≠ 12 then
      some (some (.inl 1), w1)
    else
      nc_bV (nc_Call m_X10_next [.inr (.inr (10, ab))] w1) fun w3 =>
      nc_bI (nc_Call m_X9_readAll_1 [.inr (.inr (9, aa)), .inr (.inr (10, ab)), .inr (.inr (2, ac)), .inl xd] w3) fun r5 w4 =>
      if r5 ≠ 0 then
        nc_bV (nc_Call m_X9_put [.inr (.inr (9, aa)), .inl 12, .inl 0, .inl 0] w4) fun w6 =>
        nc_li (xe + 1) fun x7 =>
        nc_Run m_X9_readCond_1 15 [some (.inr (.inr (9, aa))), some (.inr (.inr (10, ab))), some (.inr (.inr (2, ac))), some (.inl xd), some (.inl x7)] [] w6
      else
        some (some (.inl 0), w4) :=
  (nc_Run_un [15] 23).trans rfl
set_option maxRecDepth 100000 in
theorem qc_X8_go_2 (aa : Nat) (ab : Nat) (xc : Int32) (xd : Int32) (xe : Int32) (w : nc_H) : nc_Call m_X8_go_2 [.inr (.inr (8, aa)), .inr (.inr (7, ab)), .inl xc, .inl xd, .inl xe] w =
  if xd < 3 then
    if xd ≠ ((w.1 8 aa 5) - 1) then
      if xd ≠ 0 then
        nc_Run m_X8_go_2 46 [some (.inr (.inr (8, aa))), some (.inr (.inr (7, ab))), some (.inl xc), some (.inl xd), some (.inl xe), some (.inr (.inr (7, 11))), some (.inl 0), none, none] [] w
      else
        nc_Run m_X8_go_2 46 [some (.inr (.inr (8, aa))), some (.inr (.inr (7, ab))), some (.inl xc), some (.inl xd), some (.inl xe), some (.inr (.inr (7, 10))), some (.inl 0), none, none] [] w
    else
      nc_bV (nc_Call m_X8_goLast [.inr (.inr (8, aa)), .inr (.inr (7, ab)), .inl xc, .inl xd, .inl xe] w) fun w1 =>
      some (none, w1)
  else
    some (none, w) :=
  (nc_Call_eq _ _ _).trans ((if_pos (Nat.le_of_ble_eq_true rfl)).trans ((nc_Run_un [46, 75] 18).trans rfl))
set_option maxRecDepth 100000 in
theorem qr_X8_go_2_46 (aa : Nat) (ab : Nat) (xc : Int32) (xd : Int32) (xe : Int32) (af : Nat) (xg : Int32) (w : nc_H) : nc_Run m_X8_go_2 46 [some (.inr (.inr (8, aa))), some (.inr (.inr (7, ab))), some (.inl xc), some (.inl xd), some (.inl xe), some (.inr (.inr (7, af))), some (.inl xg), none, none] [] w =
  if (w.1 2 0 3) < xg then
    some (none, w)
  else
    if xg ≠ (w.1 2 0 3) then
      nc_Run m_X8_go_2 75 [some (.inr (.inr (8, aa))), some (.inr (.inr (7, ab))), some (.inl xc), some (.inl xd), some (.inl xe), some (.inr (.inr (7, af))), some (.inl xg), none, none] [.inl 0] w
    else
      nc_Run m_X8_go_2 75 [some (.inr (.inr (8, aa))), some (.inr (.inr (7, ab))), some (.inl xc), some (.inl xd), some (.inl xe), some (.inr (.inr (7, af))), some (.inl xg), none, none] [.inl 1] w :=
  (nc_Run_un [46, 75] 13).trans rfl
set_option maxRecDepth 100000 in
theorem qr_X8_go_2_75 (aa : Nat) (ab : Nat) (xc : Int32) (xd : Int32) (xe : Int32) (af : Nat) (xg : Int32) (za : Int32) (w : nc_H) : nc_Run m_X8_go_2 75 [some (.inr (.inr (8, aa))), some (.inr (.inr (7, ab))), some (.inl xc), some (.inl xd), some (.inl xe), some (.inr (.inr (7, af))), some (.inl xg), none, none] [.inl za] w =
  if za ≠ 0 then
    if za = 0 then
      nc_bd xd 3 fun j1 =>
      nc_lt (nc_si w 615 aa j1 xg) fun w2 =>
      nc_bV (nc_Call m_X7_copyFrom [.inr (.inr (7, af)), .inr (.inr (7, ab))] w2) fun w3 =>
      if za ≠ 0 then
        nc_bI (nc_Call m_X7_milk [.inr (.inr (7, af)), .inl xc] w3) fun r5 w4 =>
        nc_bV (nc_Call m_X7_talk [.inr (.inr (7, af))] w4) fun w6 =>
        nc_bV (nc_Call m_X7_turn [.inr (.inr (7, af))] w6) fun w7 =>
        none
      else
        nc_bV (nc_Call m_X7_hear [.inr (.inr (7, af)), .inl xc, .inl xg] w3) fun w8 =>
        nc_bI (nc_Call m_X7_milk [.inr (.inr (7, af)), .inl xc] w8) fun r10 w9 =>
        nc_bV (nc_Call m_X7_talk [.inr (.inr (7, af))] w9) fun w11 =>
        nc_bV (nc_Call m_X7_turn [.inr (.inr (7, af))] w11) fun w12 =>
        none
    else
      nc_bd xd 3 fun j13 =>
      nc_lt (nc_si w 615 aa j13 (-1)) fun w14 =>
      nc_bV (nc_Call m_X7_copyFrom [.inr (.inr (7, af)), .inr (.inr (7, ab))] w14) fun w15 =>
      if za ≠ 0 then
        nc_bI (nc_Call m_X7_milk [.inr (.inr (7, af)), .inl xc] w15) fun r17 w16 =>
        nc_bV (nc_Call m_X7_talk [.inr (.inr (7, af))] w16) fun w18 =>
        nc_bV (nc_Call m_X7_turn [.inr (.inr (7, af))] w18) fun w19 =>
        none
      else
        nc_bV (nc_Call m_X7_hear [.inr (.inr (7, af)), .inl xc, .inl xg] w15) fun w20 =>
        nc_bI (nc_Call m_X7_milk [.inr (.inr (7, af)), .inl xc] w20) fun r22 w21 =>
        nc_bV (nc_Call m_X7_talk [.inr (.inr (7, af))] w21) fun w23 =>
        nc_bV (nc_Call m_X7_turn [.inr (.inr (7, af))] w23) fun w24 =>
        none
  else
    nc_bI (nc_Call m_X7_whyNotTold [.inr (.inr (7, ab)), .inl xc, .inl xg] w) fun r26 w25 =>
    if r26 ≠ 0 then
      nc_li (xg + 1) fun x27 =>
      nc_Run m_X8_go_2 46 [some (.inr (.inr (8, aa))), some (.inr (.inr (7, ab))), some (.inl xc), some (.inl xd), some (.inl xe), some (.inr (.inr (7, af))), some (.inl x27), none, none] [] w25
    else
      if za = 0 then
        nc_bd xd 3 fun j28 =>
        nc_lt (nc_si w25 615 aa j28 xg) fun w29 =>
        nc_bV (nc_Call m_X7_copyFrom [.inr (.inr (7, af)), .inr (.inr (7, ab))] w29) fun w30 =>
        if za ≠ 0 then
          nc_bI (nc_Call m_X7_milk [.inr (.inr (7, af)), .inl xc] w30) fun r32 w31 =>
          nc_bV (nc_Call m_X7_talk [.inr (.inr (7, af))] w31) fun w33 =>
          nc_bV (nc_Call m_X7_turn [.inr (.inr (7, af))] w33) fun w34 =>
          none
        else
          nc_bV (nc_Call m_X7_hear [.inr (.inr (7, af)), .inl xc, .inl xg] w30) fun w35 =>
          nc_bI (nc_Call m_X7_milk [.inr (.inr (7, af)), .inl xc] w35) fun r37 w36 =>
          nc_bV (nc_Call m_X7_talk [.inr (.inr (7, af))] w36) fun w38 =>
          nc_bV (nc_Call m_X7_turn [.inr (.inr (7, af))] w38) fun w39 =>
          none
      else
        nc_bd xd 3 fun j40 =>
        nc_lt (nc_si w25 615 aa j40 (-1)) fun w41 =>
        nc_bV (nc_Call m_X7_copyFrom [.inr (.inr (7, af)), .inr (.inr (7, ab))] w41) fun w42 =>
        if za ≠ 0 then
          nc_bI (nc_Call m_X7_milk [.inr (.inr (7, af)), .inl xc] w42) fun r44 w43 =>
          nc_bV (nc_Call m_X7_talk [.inr (.inr (7, af))] w43) fun w45 =>
          nc_bV (nc_Call m_X7_turn [.inr (.inr (7, af))] w45) fun w46 =>
          none
        else
          nc_bV (nc_Call m_X7_hear [.inr (.inr (7, af)), .inl xc, .inl xg] w42) fun w47 =>
          nc_bI (nc_Call m_X7_milk [.inr (.inr (7, af)), .inl xc] w47) fun r49 w48 =>
          nc_bV (nc_Call m_X7_talk [.inr (.inr (7, af))] w48) fun w50 =>
          nc_bV (nc_Call m_X7_turn [.inr (.inr (7, af))] w50) fun w51 =>
          none :=
  (nc_Run_un [46, 75] 43).trans rfl
set_option maxRecDepth 100000 in
theorem qc_X8_go_1 (aa : Nat) (ab : Nat) (xc : Int32) (xd : Int32) (xe : Int32) (w : nc_H) : nc_Call m_X8_go_1 [.inr (.inr (8, aa)), .inr (.inr (7, ab)), .inl xc, .inl xd, .inl xe] w =
  if xd < 3 then
    if xd ≠ ((w.1 8 aa 5) - 1) then
      if xd ≠ 0 then
        nc_Run m_X8_go_1 46 [some (.inr (.inr (8, aa))), some (.inr (.inr (7, ab))), some (.inl xc), some (.inl xd), some (.inl xe), some (.inr (.inr (7, 11))), some (.inl 0), none, none] [] w
      else
        nc_Run m_X8_go_1 46 [some (.inr (.inr (8, aa))), some (.inr (.inr (7, ab))), some (.inl xc), some (.inl xd), some (.inl xe), some (.inr (.inr (7, 10))), some (.inl 0), none, none] [] w
    else
      nc_bV (nc_Call m_X8_goLast [.inr (.inr (8, aa)), .inr (.inr (7, ab)), .inl xc, .inl xd, .inl xe] w) fun w1 =>
      some (none, w1)
  else
    some (none, w) :=
  (nc_Call_eq _ _ _).trans ((if_pos (Nat.le_of_ble_eq_true rfl)).trans ((nc_Run_un [46, 75] 18).trans rfl))
set_option maxRecDepth 100000 in
theorem qr_X8_go_1_46 (aa : Nat) (ab : Nat) (xc : Int32) (xd : Int32) (xe : Int32) (af : Nat) (xg : Int32) (w : nc_H) : nc_Run m_X8_go_1 46 [some (.inr (.inr (8, aa))), some (.inr (.inr (7, ab))), some (.inl xc), some (.inl xd), some (.inl xe), some (.inr (.inr (7, af))), some (.inl xg), none, none] [] w =
  if (w.1 2 0 3) < xg then
    some (none, w)
  else
    if xg ≠ (w.1 2 0 3) then
      nc_Run m_X8_go_1 75 [some (.inr (.inr (8, aa))), some (.inr (.inr (7, ab))), some (.inl xc), some (.inl xd), some (.inl xe), some (.inr (.inr (7, af))), some (.inl xg), none, none] [.inl 0] w
    else
      nc_Run m_X8_go_1 75 [some (.inr (.inr (8, aa))), some (.inr (.inr (7, ab))), some (.inl xc), some (.inl xd), some (.inl xe), some (.inr (.inr (7, af))), some (.inl xg), none, none] [.inl 1] w :=
  (nc_Run_un [46, 75] 13).trans rfl
set_option maxRecDepth 100000 in
theorem qr_X8_go_1_75 (aa : Nat) (ab : Nat) (xc : Int32) (xd : Int32) (xe : Int32) (af : Nat) (xg : Int32) (za : Int32) (w : nc_H) : nc_Run m_X8_go_1 75 [some (.inr (.inr (8, aa))), some (.inr (.inr (7, ab))), some (.inl xc), some (.inl xd), some (.inl xe), some (.inr (.inr (7, af))), some (.inl xg), none, none] [.inl za] w =
  if za ≠ 0 then
    if za = 0 then
      nc_bd xd 3 fun j1 =>
      nc_lt (nc_si w 615 aa j1 xg) fun w2 =>
      nc_bV (nc_Call m_X7_copyFrom [.inr (.inr (7, af)), .inr (.inr (7, ab))] w2) fun w3 =>
      if za ≠ 0 then
        nc_bI (nc_Call m_X7_milk [.inr (.inr (7, af)), .inl xc] w3) fun r5 w4 =>
        nc_bV (nc_Call m_X7_talk [.inr (.inr (7, af))] w4) fun w6 =>
        nc_bV (nc_Call m_X7_turn [.inr (.inr (7, af))] w6) fun w7 =>
        nc_bV (nc_Call m_X8_go_2 [.inr (.inr (8, aa)), .inr (.inr (7, af)), .inl xc, .inl (xd + 1), .inl (xe + r5)] w7) fun w8 =>
        nc_li (xg + 1) fun x9 =>
        nc_Run m_X8_go_1 46 [some (.inr (.inr (8, aa))), some (.inr (.inr (7, ab))), some (.inl xc), some (.inl xd), some (.inl xe), some (.inr (.inr (7, af))), some (.inl x9), none, none] [] w8
      else
        nc_bV (nc_Call m_X7_hear [.inr (.inr (7, af)), .inl xc, .inl xg] w3) fun w10 =>
        nc_bI (nc_Call m_X7_milk [.inr (.inr (7, af)), .inl xc] w10) fun r12 w11 =>
        nc_bV (nc_Call m_X7_talk [.inr (.inr (7, af))] w11) fun w13 =>
        nc_bV (nc_Call m_X7_turn [.inr (.inr (7, af))] w13) fun w14 =>
        nc_bV (nc_Call m_X8_go_2 [.inr (.inr (8, aa)), .inr (.inr (7, af)), .inl xc, .inl (xd + 1), .inl (xe + r12)] w14) fun w15 =>
        nc_li (xg + 1) fun x16 =>
        nc_Run m_X8_go_1 46 [some (.inr (.inr (8, aa))), some (.inr (.inr (7, ab))), some (.inl xc), some (.inl xd), some (.inl xe), some (.inr (.inr (7, af))), some (.inl x16), none, none] [] w15
    else
      nc_bd xd 3 fun j17 =>
      nc_lt (nc_si w 615 aa j17 (-1)) fun w18 =>
      nc_bV (nc_Call m_X7_copyFrom [.inr (.inr (7, af)), .inr (.inr (7, ab))] w18) fun w19 =>
      if za ≠ 0 then
        nc_bI (nc_Call m_X7_milk [.inr (.inr (7, af)), .inl xc] w19) fun r21 w20 =>
        nc_bV (nc_Call m_X7_talk [.inr (.inr (7, af))] w20) fun w22 =>
        nc_bV (nc_Call m_X7_turn [.inr (.inr (7, af))] w22) fun w23 =>
        nc_bV (nc_Call m_X8_go_2 [.inr (.inr (8, aa)), .inr (.inr (7, af)), .inl xc, .inl (xd + 1), .inl (xe + r21)] w23) fun w24 =>
        nc_li (xg + 1) fun x25 =>
        nc_Run m_X8_go_1 46 [some (.inr (.inr (8, aa))), some (.inr (.inr (7, ab))), some (.inl xc), some (.inl xd), some (.inl xe), some (.inr (.inr (7, af))), some (.inl x25), none, none] [] w24
      else
        nc_bV (nc_Call m_X7_hear [.inr (.inr (7, af)), .inl xc, .inl xg] w19) fun w26 =>
        nc_bI (nc_Call m_X7_milk [.inr (.inr (7, af)), .inl xc] w26) fun r28 w27 =>
        nc_bV (nc_Call m_X7_talk [.inr (.inr (7, af))] w27) fun w29 =>
        nc_bV (nc_Call m_X7_turn [.inr (.inr (7, af))] w29) fun w30 =>
        nc_bV (nc_Call m_X8_go_2 [.inr (.inr (8, aa)), .inr (.inr (7, af)), .inl xc, .inl (xd + 1), .inl (xe + r28)] w30) fun w31 =>
        nc_li (xg + 1) fun x32 =>
        nc_Run m_X8_go_1 46 [some (.inr (.inr (8, aa))), some (.inr (.inr (7, ab))), some (.inl xc), some (.inl xd), some (.inl xe), some (.inr (.inr (7, af))), some (.inl x32), none, none] [] w31
  else
    nc_bI (nc_Call m_X7_whyNotTold [.inr (.inr (7, ab)), .inl xc, .inl xg] w) fun r34 w33 =>
    if r34 ≠ 0 then
      nc_li (xg + 1) fun x35 =>
      nc_Run m_X8_go_1 46 [some (.inr (.inr (8, aa))), some (.inr (.inr (7, ab))), some (.inl xc), some (.inl xd), some (.inl xe), some (.inr (.inr (7, af))), some (.inl x35), none, none] [] w33
    else
      if za = 0 then
        nc_bd xd 3 fun j36 =>
        nc_lt (nc_si w33 615 aa j36 xg) fun w37 =>
        nc_bV (nc_Call m_X7_copyFrom [.inr (.inr (7, af)), .inr (.inr (7, ab))] w37) fun w38 =>
        if za ≠ 0 then
          nc_bI (nc_Call m_X7_milk [.inr (.inr (7, af)), .inl xc] w38) fun r40 w39 =>
          nc_bV (nc_Call m_X7_talk [.inr (.inr (7, af))] w39) fun w41 =>
          nc_bV (nc_Call m_X7_turn [.inr (.inr (7, af))] w41) fun w42 =>
          nc_bV (nc_Call m_X8_go_2 [.inr (.inr (8, aa)), .inr (.inr (7, af)), .inl xc, .inl (xd + 1), .inl (xe + r40)] w42) fun w43 =>
          nc_li (xg + 1) fun x44 =>
          nc_Run m_X8_go_1 46 [some (.inr (.inr (8, aa))), some (.inr (.inr (7, ab))), some (.inl xc), some (.inl xd), some (.inl xe), some (.inr (.inr (7, af))), some (.inl x44), none, none] [] w43
        else
          nc_bV (nc_Call m_X7_hear [.inr (.inr (7, af)), .inl xc, .inl xg] w38) fun w45 =>
          nc_bI (nc_Call m_X7_milk [.inr (.inr (7, af)), .inl xc] w45) fun r47 w46 =>
          nc_bV (nc_Call m_X7_talk [.inr (.inr (7, af))] w46) fun w48 =>
          nc_bV (nc_Call m_X7_turn [.inr (.inr (7, af))] w48) fun w49 =>
          nc_bV (nc_Call m_X8_go_2 [.inr (.inr (8, aa)), .inr (.inr (7, af)), .inl xc, .inl (xd + 1), .inl (xe + r47)] w49) fun w50 =>
          nc_li (xg + 1) fun x51 =>
          nc_Run m_X8_go_1 46 [some (.inr (.inr (8, aa))), some (.inr (.inr (7, ab))), some (.inl xc), some (.inl xd), some (.inl xe), some (.inr (.inr (7, af))), some (.inl x51), none, none] [] w50
      else
        nc_bd xd 3 fun j52 =>
        nc_lt (nc_si w33 615 aa j52 (-1)) fun w53 =>
        nc_bV (nc_Call m_X7_copyFrom [.inr (.inr (7, af)), .inr (.inr (7, ab))] w53) fun w54 =>
        if za ≠ 0 then
          nc_bI (nc_Call m_X7_milk [.inr (.inr (7, af)), .inl xc] w54) fun r56 w55 =>
          nc_bV (nc_Call m_X7_talk [.inr (.inr (7, af))] w55) fun w57 =>
          nc_bV (nc_Call m_X7_turn [.inr (.inr (7, af))] w57) fun w58 =>
          nc_bV (nc_Call m_X8_go_2 [.inr (.inr (8, aa)), .inr (.inr (7, af)), .inl xc, .inl (xd + 1), .inl (xe + r56)] w58) fun w59 =>
          nc_li (xg + 1) fun x60 =>
          nc_Run m_X8_go_1 46 [some (.inr (.inr (8, aa))), some (.inr (.inr (7, ab))), some (.inl xc), some (.inl xd), some (.inl xe), some (.inr (.inr (7, af))), some (.inl x60), none, none] [] w59
        else
          nc_bV (nc_Call m_X7_hear [.inr (.inr (7, af)), .inl xc, .inl xg] w54) fun w61 =>
          nc_bI (nc_Call m_X7_milk [.inr (.inr (7, af)), .inl xc] w61) fun r63 w62 =>
          nc_bV (nc_Call m_X7_talk [.inr (.inr (7, af))] w62) fun w64 =>
          nc_bV (nc_Call m_X7_turn [.inr (.inr (7, af))] w64) fun w65 =>
          nc_bV (nc_Call m_X8_go_2 [.inr (.inr (8, aa)), .inr (.inr (7, af)), .inl xc, .inl (xd + 1), .inl (xe + r63)] w65) fun w66 =>
          nc_li (xg + 1) fun x67 =>
          nc_Run m_X8_go_1 46 [some (.inr (.inr (8, aa))), some (.inr (.inr (7, ab))), some (.inl xc), some (.inl xd), some (.inl xe), some (.inr (.inr (7, af))), some (.inl x67), none, none] [] w66 :=
  (nc_Run_un [46, 75] 46).trans rfl
set_option maxRecDepth 100000 in
theorem qc_X8_go_0 (aa : Nat) (ab : Nat) (xc : Int32) (xd : Int32) (xe : Int32) (w : nc_H) : nc_Call m_X8_go_0 [.inr (.inr (8, aa)), .inr (.inr (7, ab)), .inl xc, .inl xd, .inl xe] w =
  if xd < 3 then
    if xd ≠ ((w.1 8 aa 5) - 1) then
      if xd ≠ 0 then
        nc_Run m_X8_go_0 46 [some (.inr (.inr (8, aa))), some (.inr (.inr (7, ab))), some (.inl xc), some (.inl xd), some (.inl xe), some (.inr (.inr (7, 11))), some (.inl 0), none, none] [] w
      else
        nc_Run m_X8_go_0 46 [some (.inr (.inr (8, aa))), some (.inr (.inr (7, ab))), some (.inl xc), some (.inl xd), some (.inl xe), some (.inr (.inr (7, 10))), some (.inl 0), none, none] [] w
    else
      nc_bV (nc_Call m_X8_goLast [.inr (.inr (8, aa)), .inr (.inr (7, ab)), .inl xc, .inl xd, .inl xe] w) fun w1 =>
      some (none, w1)
  else
    some (none, w) :=
  (nc_Call_eq _ _ _).trans ((if_pos (Nat.le_of_ble_eq_true rfl)).trans ((nc_Run_un [46, 75] 18).trans rfl))
set_option maxRecDepth 100000 in
theorem qr_X8_go_0_46 (aa : Nat) (ab : Nat) (xc : Int32) (xd : Int32) (xe : Int32) (af : Nat) (xg : Int32) (w : nc_H) : nc_Run m_X8_go_0 46 [some (.inr (.inr (8, aa))), some (.inr (.inr (7, ab))), some (.inl xc), some (.inl xd), some (.inl xe), some (.inr (.inr (7, af))), some (.inl xg), none, none] [] w =
  if (w.1 2 0 3) < xg then
    some (none, w)
  else
    if xg ≠ (w.1 2 0 3) then
      nc_Run m_X8_go_0 75 [some (.inr (.inr (8, aa))), some (.inr (.inr (7, ab))), some (.inl xc), some (.inl xd), some (.inl xe), some (.inr (.inr (7, af))), some (.inl xg), none, none] [.inl 0] w
    else
      nc_Run m_X8_go_0 75 [some (.inr (.inr (8, aa))), some (.inr (.inr (7, ab))), some (.inl xc), some (.inl xd), some (.inl xe), some (.inr (.inr (7, af))), some (.inl xg), none, none] [.inl 1] w :=
  (nc_Run_un [46, 75] 13).trans rfl
set_option maxRecDepth 100000 in
theorem qr_X8_go_0_75 (aa : Nat) (ab : Nat) (xc : Int32) (xd : Int32) (xe : Int32) (af : Nat) (xg : Int32) (za : Int32) (w : nc_H) : nc_Run m_X8_go_0 75 [some (.inr (.inr (8, aa))), some (.inr (.inr (7, ab))), some (.inl xc), some (.inl xd), some (.inl xe), some (.inr (.inr (7, af))), some (.inl xg), none, none] [.inl za] w =
  if za ≠ 0 then
    if za = 0 then
      nc_bd xd 3 fun j1 =>
      nc_lt (nc_si w 615 aa j1 xg) fun w2 =>
      nc_bV (nc_Call m_X7_copyFrom [.inr (.inr (7, af)), .inr (.inr (7, ab))] w2) fun w3 =>
      if za ≠ 0 then
        nc_bI (nc_Call m_X7_milk [.inr (.inr (7, af)), .inl xc] w3) fun r5 w4 =>
        nc_bV (nc_Call m_X7_talk [.inr (.inr (7, af))] w4) fun w6 =>
        nc_bV (nc_Call m_X7_turn [.inr (.inr (7, af))] w6) fun w7 =>
        nc_bV (nc_Call m_X8_go_1 [.inr (.inr (8, aa)), .inr (.inr (7, af)), .inl xc, .inl (xd + 1), .inl (xe + r5)] w7) fun w8 =>
        nc_li (xg + 1) fun x9 =>
        nc_Run m_X8_go_0 46 [some (.inr (.inr (8, aa))), some (.inr (.inr (7, ab))), some (.inl xc), some (.inl xd), some (.inl xe), some (.inr (.inr (7, af))), some (.inl x9), none, none] [] w8
      else
        nc_bV (nc_Call m_X7_hear [.inr (.inr (7, af)), .inl xc, .inl xg] w3) fun w10 =>
        nc_bI (nc_Call m_X7_milk [.inr (.inr (7, af)), .inl xc] w10) fun r12 w11 =>
        nc_bV (nc_Call m_X7_talk [.inr (.inr (7, af))] w11) fun w13 =>
        nc_bV (nc_Call m_X7_turn [.inr (.inr (7, af))] w13) fun w14 =>
        nc_bV (nc_Call m_X8_go_1 [.inr (.inr (8, aa)), .inr (.inr (7, af)), .inl xc, .inl (xd + 1), .inl (xe + r12)] w14) fun w15 =>
        nc_li (xg + 1) fun x16 =>
        nc_Run m_X8_go_0 46 [some (.inr (.inr (8, aa))), some (.inr (.inr (7, ab))), some (.inl xc), some (.inl xd), some (.inl xe), some (.inr (.inr (7, af))), some (.inl x16), none, none] [] w15
    else
      nc_bd xd 3 fun j17 =>
      nc_lt (nc_si w 615 aa j17 (-1)) fun w18 =>
      nc_bV (nc_Call m_X7_copyFrom [.inr (.inr (7, af)), .inr (.inr (7, ab))] w18) fun w19 =>
      if za ≠ 0 then
        nc_bI (nc_Call m_X7_milk [.inr (.inr (7, af)), .inl xc] w19) fun r21 w20 =>
        nc_bV (nc_Call m_X7_talk [.inr (.inr (7, af))] w20) fun w22 =>
        nc_bV (nc_Call m_X7_turn [.inr (.inr (7, af))] w22) fun w23 =>
        nc_bV (nc_Call m_X8_go_1 [.inr (.inr (8, aa)), .inr (.inr (7, af)), .inl xc, .inl (xd + 1), .inl (xe + r21)] w23) fun w24 =>
        nc_li (xg + 1) fun x25 =>
        nc_Run m_X8_go_0 46 [some (.inr (.inr (8, aa))), some (.inr (.inr (7, ab))), some (.inl xc), some (.inl xd), some (.inl xe), some (.inr (.inr (7, af))), some (.inl x25), none, none] [] w24
      else
        nc_bV (nc_Call m_X7_hear [.inr (.inr (7, af)), .inl xc, .inl xg] w19) fun w26 =>
        nc_bI (nc_Call m_X7_milk [.inr (.inr (7, af)), .inl xc] w26) fun r28 w27 =>
        nc_bV (nc_Call m_X7_talk [.inr (.inr (7, af))] w27) fun w29 =>
        nc_bV (nc_Call m_X7_turn [.inr (.inr (7, af))] w29) fun w30 =>
        nc_bV (nc_Call m_X8_go_1 [.inr (.inr (8, aa)), .inr (.inr (7, af)), .inl xc, .inl (xd + 1), .inl (xe + r28)] w30) fun w31 =>
        nc_li (xg + 1) fun x32 =>
        nc_Run m_X8_go_0 46 [some (.inr (.inr (8, aa))), some (.inr (.inr (7, ab))), some (.inl xc), some (.inl xd), some (.inl xe), some (.inr (.inr (7, af))), some (.inl x32), none, none] [] w31
  else
    nc_bI (nc_Call m_X7_whyNotTold [.inr (.inr (7, ab)), .inl xc, .inl xg] w) fun r34 w33 =>
    if r34 ≠ 0 then
      nc_li (xg + 1) fun x35 =>
      nc_Run m_X8_go_0 46 [some (.inr (.inr (8, aa))), some (.inr (.inr (7, ab))), some (.inl xc), some (.inl xd), some (.inl xe), some (.inr (.inr (7, af))), some (.inl x35), none, none] [] w33
    else
      if za = 0 then
        nc_bd xd 3 fun j36 =>
        nc_lt (nc_si w33 615 aa j36 xg) fun w37 =>
        nc_bV (nc_Call m_X7_copyFrom [.inr (.inr (7, af)), .inr (.inr (7, ab))] w37) fun w38 =>
        if za ≠ 0 then
          nc_bI (nc_Call m_X7_milk [.inr (.inr (7, af)), .inl xc] w38) fun r40 w39 =>
          nc_bV (nc_Call m_X7_talk [.inr (.inr (7, af))] w39) fun w41 =>
          nc_bV (nc_Call m_X7_turn [.inr (.inr (7, af))] w41) fun w42 =>
          nc_bV (nc_Call m_X8_go_1 [.inr (.inr (8, aa)), .inr (.inr (7, af)), .inl xc, .inl (xd + 1), .inl (xe + r40)] w42) fun w43 =>
          nc_li (xg + 1) fun x44 =>
          nc_Run m_X8_go_0 46 [some (.inr (.inr (8, aa))), some (.inr (.inr (7, ab))), some (.inl xc), some (.inl xd), some (.inl xe), some (.inr (.inr (7, af))), some (.inl x44), none, none] [] w43
        else
          nc_bV (nc_Call m_X7_hear [.inr (.inr (7, af)), .inl xc, .inl xg] w38) fun w45 =>
          nc_bI (nc_Call m_X7_milk [.inr (.inr (7, af)), .inl xc] w45) fun r47 w46 =>
          nc_bV (nc_Call m_X7_talk [.inr (.inr (7, af))] w46) fun w48 =>
          nc_bV (nc_Call m_X7_turn [.inr (.inr (7, af))] w48) fun w49 =>
          nc_bV (nc_Call m_X8_go_1 [.inr (.inr (8, aa)), .inr (.inr (7, af)), .inl xc, .inl (xd + 1), .inl (xe + r47)] w49) fun w50 =>
          nc_li (xg + 1) fun x51 =>
          nc_Run m_X8_go_0 46 [some (.inr (.inr (8, aa))), some (.inr (.inr (7, ab))), some (.inl xc), some (.inl xd), some (.inl xe), some (.inr (.inr (7, af))), some (.inl x51), none, none] [] w50
      else
        nc_bd xd 3 fun j52 =>
        nc_lt (nc_si w33 615 aa j52 (-1)) fun w53 =>
        nc_bV (nc_Call m_X7_copyFrom [.inr (.inr (7, af)), .inr (.inr (7, ab))] w53) fun w54 =>
        if za ≠ 0 then
          nc_bI (nc_Call m_X7_milk [.inr (.inr (7, af)), .inl xc] w54) fun r56 w55 =>
          nc_bV (nc_Call m_X7_talk [.inr (.inr (7, af))] w55) fun w57 =>
          nc_bV (nc_Call m_X7_turn [.inr (.inr (7, af))] w57) fun w58 =>
          nc_bV (nc_Call m_X8_go_1 [.inr (.inr (8, aa)), .inr (.inr (7, af)), .inl xc, .inl (xd + 1), .inl (xe + r56)] w58) fun w59 =>
          nc_li (xg + 1) fun x60 =>
          nc_Run m_X8_go_0 46 [some (.inr (.inr (8, aa))), some (.inr (.inr (7, ab))), some (.inl xc), some (.inl xd), some (.inl xe), some (.inr (.inr (7, af))), some (.inl x60), none, none] [] w59
        else
          nc_bV (nc_Call m_X7_hear [.inr (.inr (7, af)), .inl xc, .inl xg] w54) fun w61 =>
          nc_bI (nc_Call m_X7_milk [.inr (.inr (7, af)), .inl xc] w61) fun r63 w62 =>
          nc_bV (nc_Call m_X7_talk [.inr (.inr (7, af))] w62) fun w64 =>
          nc_bV (nc_Call m_X7_turn [.inr (.inr (7, af))] w64) fun w65 =>
          nc_bV (nc_Call m_X8_go_1 [.inr (.inr (8, aa)), .inr (.inr (7, af)), .inl xc, .inl (xd + 1), .inl (xe + r63)] w65) fun w66 =>
          nc_li (xg + 1) fun x67 =>
          nc_Run m_X8_go_0 46 [some (.inr (.inr (8, aa))), some (.inr (.inr (7, ab))), some (.inl xc), some (.inl xd), some (.inl xe), some (.inr (.inr (7, af))), some (.inl x67), none, none] [] w66 :=
  (nc_Run_un [46, 75] 46).trans rfl
set_option maxRecDepth 100000 in
theorem qc_X10_addRun (aa : Nat) (xb : Int32) (w : nc_H) : nc_Call m_X10_addRun [.inr (.inr (10, aa)), .inl xb] w =
  nc_Run m_X10_addRun 13 [some (.inr (.inr (10, aa))), some (.inl xb), some (.inl 0), some (.inl 0), some (.inl 0), some (.inr (.inl 0)), none, some (.inl xb)] [] w :=
  (nc_Call_eq _ _ _).trans ((if_pos (Nat.le_of_ble_eq_true rfl)).trans ((nc_Run_un [13] 11).trans rfl))
set_option maxRecDepth 100000 in
theorem qr_X10_addRun_13 (aa : Nat) (xb : Int32) (xc : Int32) (xd : Int32) (xe : Int32) (yf : Int64) (xh : Int32) (w : nc_H) : nc_Run m_X10_addRun 13 [some (.inr (.inr (10, aa))), some (.inl xb), some (.inl xc), some (.inl xd), some (.inl xe), some (.inr (.inl yf)), none, some (.inl xh)] [] w =
  if (w.1 10 aa 1) ≤ xh then
    if xd ≠ xc then
      if xd ≠ 0 then
        nc_bV (nc_Call m_X10_add [.inr (.inr (10, aa)), .inl xb, .inl 1, .inl xe, .inr (.inl 0)] w) fun w1 =>
        some (some (.inl xc), w1)
      else
        if (3 : Int32) < xc then
          nc_bV (nc_Call m_X10_add [.inr (.inr (10, aa)), .inl xb, .inl 1, .inl xe, .inr (.inl 0)] w) fun w2 =>
          some (some (.inl xc), w2)
        else
          nc_bV (nc_Call m_X10_add [.inr (.inr (10, aa)), .inl xb, .inl 4, .inl xe, .inr (.inl 0)] w) fun w3 =>
          some (some (.inl xc), w3)
    else
      if (7 : Int32) < xc then
        if xd ≠ 0 then
          nc_bV (nc_Call m_X10_add [.inr (.inr (10, aa)), .inl xb, .inl 1, .inl xe, .inr (.inl 0)] w) fun w4 =>
          some (some (.inl xc), w4)
        else
          if (3 : Int32) < xc then
            nc_bV (nc_Call m_X10_add [.inr (.inr (10, aa)), .inl xb, .inl 1, .inl xe, .inr (.inl 0)] w) fun w5 =>
            some (some (.inl xc), w5)
          else
            nc_bV (nc_Call m_X10_add [.inr (.inr (10, aa)), .inl xb, .inl 4, .inl xe, .inr (.inl 0)] w) fun w6 =>
            some (some (.inl xc), w6)
      else
        nc_bI (nc_Call m_X10_toldWord [.inr (.inr (10, aa)), .inr (.inl yf)] w) fun r8 w7 =>
        if r8 ≠ (-1) then
          nc_bV (nc_Call m_X10_add [.inr (.inr (10, aa)), .inl xb, .inl 2, .inl r8, .inr (.inl yf)] w7) fun w9 =>
          some (some (.inl xc), w9)
        else
          nc_bV (nc_Call m_X10_add [.inr (.inr (10, aa)), .inl xb, .inl 3, .inl r8, .inr (.inl yf)] w7) fun w10 =>
          some (some (.inl xc), w10)
  else
    nc_bI (nc_Call m_X10_at [.inr (.inr (10, aa)), .inl xh] w) fun r12 w11 =>
    nc_bI (nc_Call m_X10_isLetter [.inl r12] w11) fun r14 w13 =>
    if r14 ≠ 0 then
      nc_li (xc + 1) fun x15 =>
      nc_bI (nc_Call m_X10_at [.inr (.inr (10, aa)), .inl xh] w13) fun r17 w16 =>
      nc_bI (nc_Call m_X10_isLetter [.inl r17] w16) fun r19 w18 =>
      if r19 = 0 then
        nc_bI (nc_Call m_X10_at [.inr (.inr (10, aa)), .inl xh] w18) fun r21 w20 =>
        nc_li (((xe * 10) + r21) - 48) fun x22 =>
        nc_li (xh + 1) fun x23 =>
        nc_Run m_X10_addRun 13 [some (.inr (.inr (10, aa))), some (.inl xb), some (.inl x15), some (.inl xd), some (.inl x22), some (.inr (.inl yf)), none, some (.inl x23)] [] w20
      else
        nc_bI (nc_Call m_X10_at [.inr (.inr (10, aa)), .inl xh] w18) fun r25 w24 =>
        nc_bL (nc_Call m_X10_withLetter [.inr (.inl yf), .inl r25] w24) fun y27 w26 =>
        nc_li (xd + 1) fun x28 =>
        nc_li (xh + 1) fun x29 =>
        nc_Run m_X10_addRun 13 [some (.inr (.inr (10, aa))), some (.inl xb), some (.inl x15), some (.inl x28), some (.inl xe), some (.inr (.inl y27)), none, some (.inl x29)] [] w26
    else
      nc_bI (nc_Call m_X10_at [.inr (.inr (10, aa)), .inl xh] w13) fun r31 w30 =>
      nc_bI (nc_Call m_X10_isDigit [.inl r31] w30) fun r33 w32 =>
      if r33 = 0 then
        if xd ≠ xc then
          if xd ≠ 0 then
            nc_bV (nc_Call m_X10_add [.inr (.inr (10, aa)), .inl xb, .inl 1, .inl xe, .inr (.inl 0)] w32) fun w34 =>
            some (some (.inl xc), w34)
          else
            if (3 : Int32) < xc then
              nc_bV (nc_Call m_X10_add [.inr (.inr (10, aa)), .inl xb, .inl 1, .inl xe, .inr (.inl 0)] w32) fun w35 =>
              some (some (.inl xc), w35)
            else
              nc_bV (nc_Call m_X10_add [.inr (.inr (10, aa)), .inl xb, .inl 4, .inl xe, .inr (.inl 0)] w32) fun w36 =>
              some (some (.inl xc), w36)
        else
          if (7 : Int32) < xc then
            if xd ≠ 0 then
              nc_bV (nc_Call m_X10_add [.inr (.inr (10, aa)), .inl xb, .inl 1, .inl xe, .inr (.inl 0)] w32) fun w37 =>
              some (some (.inl xc), w37)
            else
              if (3 : Int32) < xc then
                nc_bV (nc_Call m_X10_add [.inr (.inr (10, aa)), .inl xb, .inl 1, .inl xe, .inr (.inl 0)] w32) fun w38 =>
                some (some (.inl xc), w38)
              else
                nc_bV (nc_Call m_X10_add [.inr (.inr (10, aa)), .inl xb, .inl 4, .inl xe, .inr (.inl 0)] w32) fun w39 =>
                some (some (.inl xc), w39)
          else
            nc_bI (nc_Call m_X10_toldWord [.inr (.inr (10, aa)), .inr (.inl yf)] w32) fun r41 w40 =>
            if r41 ≠ (-1) then
              nc_bV (nc_Call m_X10_add [.inr (.inr (10, aa)), .inl xb, .inl 2, .inl r41, .inr (.inl yf)] w40) fun w42 =>
              some (some (.inl xc), w42)
            else
              nc_bV (nc_Call m_X10_add [.inr (.inr (10, aa)), .inl xb, .inl 3, .inl r41, .inr (.inl yf)] w40) fun w43 =>
              some (some (.inl xc), w43)
      else
        nc_li (xc + 1) fun x44 =>
        nc_bI (nc_Call m_X10_at [.inr (.inr (10, aa)), .inl xh] w32) fun r46 w45 =>
        nc_bI (nc_Call m_X10_isLetter [.inl r46] w45) fun r48 w47 =>
        if r48 = 0 then
          nc_bI (nc_Call m_X10_at [.inr (.inr (10, aa)), .inl xh] w47) fun r50 w49 =>
          nc_li (((xe * 10) + r50) - 48) fun x51 =>
          nc_li (xh + 1) fun x52 =>
          nc_Run m_X10_addRun 13 [some (.inr (.inr (10, aa))), some (.inl xb), some (.inl x44), some (.inl xd), some (.inl x51), some (.inr (.inl yf)), none, some (.inl x52)] [] w49
        else
          nc_bI (nc_Call m_X10_at [.inr (.inr (10, aa)), .inl xh] w47) fun r54 w53 =>
          nc_bL (nc_Call m_X10_withLetter [.inr (.inl yf), .inl r54] w53) fun y56 w55 =>
          nc_li (xd + 1) fun x57 =>
          nc_li (xh + 1) fun x58 =>
          nc_Run m_X10_addRun 13 [some (.inr (.inr (10, aa))), some (.inl xb), some (.inl x44), some (.inl x57), some (.inl xe), some (.inr (.inl y56)), none, some (.inl x58)] [] w55 :=
  (nc_Run_un [13] 37).trans rfl
set_option maxRecDepth 100000 in
theorem qc_X10_start (aa : Nat) (xb : Int32) (w : nc_H) : nc_Call m_X10_start [.inr (.inr (10, aa)), .inl xb] w =
  nc_li (if xb < (w.1 10 aa 1) then xb else (w.1 10 aa 1)) fun x1 =>
  if (w.1 10 aa 1) ≤ xb then
    nc_lt (nc_si w 10 aa 9 0) fun w2 =>
    nc_lt (nc_si w2 10 aa 14 0) fun w3 =>
    nc_lt (nc_si w3 10 aa 15 0) fun w4 =>
    nc_lt (nc_si w4 10 aa 7 0) fun w5 =>
    nc_lt (nc_si w5 10 aa 8 0) fun w6 =>
    nc_Run m_X10_start 51 [some (.inr (.inr (10, aa))), none, some (.inl x1), some (.inl 0), some (.inl 0), none] [] w6
  else
    nc_lt (nc_si w 10 aa 9 1) fun w7 =>
    nc_lt (nc_si w7 10 aa 14 0) fun w8 =>
    nc_lt (nc_si w8 10 aa 15 0) fun w9 =>
    nc_lt (nc_si w9 10 aa 7 0) fun w10 =>
    nc_lt (nc_si w10 10 aa 8 0) fun w11 =>
    nc_Run m_X10_start 51 [some (.inr (.inr (10, aa))), none, some (.inl x1), some (.inl 0), some (.inl 0), none] [] w11 :=
  (nc_Call_eq _ _ _).trans ((if_pos (Nat.le_of_ble_eq_true rfl)).trans ((nc_Run_un [51] 30).trans rfl))
set_option maxRecDepth 100000 in
theorem qr_X10_start_51 (aa : Nat) (xc : Int32) (xd : Int32) (xe : Int32) (w : nc_H) : nc_Run m_X10_start 51 [some (.inr (.inr (10, aa))), none, some (.inl xc), some (.inl xd), some (.inl xe), none] [] w =
  if xc ≤ xe then
    nc_bV (nc_Call m_X10_add [.inr (.inr (10, aa)), .inl xc, .inl 0, .inl 0, .inr (.inl 0)] w) fun w1 =>
    some (none, w1)
  else
    nc_bI (nc_Call m_X10_at [.inr (.inr (10, aa)), .inl xe] w) fun r3 w2 =>
    if xe < xd then
      if xe < xd then
        nc_li (xe + 1) fun x4 =>
        nc_Run m_X10_start 51 [some (.inr (.inr (10, aa))), none, some (.inl xc), some (.inl xd), some (.inl x4), none] [] w2
      else
        if r3 = 32 then
          nc_li (xe + 1) fun x5 =>
          nc_Run m_X10_start 51 [some (.inr (.inr (10, aa))), none, some (.inl xc), some (.inl xd), some (.inl x5), none] [] w2
        else
          if r3 = 10 then
            nc_li (xe + 1) fun x6 =>
            nc_Run m_X10_start 51 [some (.inr (.inr (10, aa))), none, some (.inl xc), some (.inl xd), some (.inl x6), none] [] w2
          else
            if (nc_sig ((r3.toUInt32 % 65536).toInt32)) < 0 then
              nc_bV (nc_Call m_X10_add [.inr (.inr (10, aa)), .inl xe, .inl 1, .inl r3, .inr (.inl 0)] w2) fun w7 =>
              nc_li (xe + 1) fun x8 =>
              nc_Run m_X10_start 51 [some (.inr (.inr (10, aa))), none, some (.inl xc), some (.inl xd), some (.inl x8), none] [] w7
            else
              nc_bV (nc_Call m_X10_add [.inr (.inr (10, aa)), .inl xe, .inl 5, .inl r3, .inr (.inl 0)] w2) fun w9 =>
              nc_li (xe + 1) fun x10 =>
              nc_Run m_X10_start 51 [some (.inr (.inr (10, aa))), none, some (.inl xc), some (.inl xd), some (.inl x10), none] [] w9
    else
      nc_bI (nc_Call m_X10_isLetter [.inl r3] w2) fun r12 w11 =>
      if r12 ≠ 0 then
        nc_bI (nc_Call m_X10_addRun [.inr (.inr (10, aa)), .inl xe] w11) fun r14 w13 =>
        nc_li (xe + r14) fun x15 =>
        nc_li (xe + 1) fun x16 =>
        nc_Run m_X10_start 51 [some (.inr (.inr (10, aa))), none, some (.inl xc), some (.inl x15), some (.inl x16), none] [] w13
      else
        nc_bI (nc_Call m_X10_isDigit [.inl r3] w11) fun r18 w17 =>
        if r18 = 0 then
          if xe < xd then
            nc_li (xe + 1) fun x19 =>
            nc_Run m_X10_start 51 [some (.inr (.inr (10, aa))), none, some (.inl xc), some (.inl xd), some (.inl x19), none] [] w17
          else
            if r3 = 32 then
              nc_li (xe + 1) fun x20 =>
              nc_Run m_X10_start 51 [some (.inr (.inr (10, aa))), none, some (.inl xc), some (.inl xd), some (.inl x20), none] [] w17
            else
              if r3 = 10 then
                nc_li (xe + 1) fun x21 =>
                nc_Run m_X10_start 51 [some (.inr (.inr (10, aa))), none, some (.inl xc), some (.inl xd), some (.inl x21), none] [] w17
              else
                if (nc_sig ((r3.toUInt32 % 65536).toInt32)) < 0 then
                  nc_bV (nc_Call m_X10_add [.inr (.inr (10, aa)), .inl xe, .inl 1, .inl r3, .inr (.inl 0)] w17) fun w22 =>
                  nc_li (xe + 1) fun x23 =>
                  nc_Run m_X10_start 51 [some (.inr (.inr (10, aa))), none, some (.inl xc), some (.inl xd), some (.inl x23), none] [] w22
                else
                  nc_bV (nc_Call m_X10_add [.inr (.inr (10, aa)), .inl xe, .inl 5, .inl r3, .inr (.inl 0)] w17) fun w24 =>
                  nc_li (xe + 1) fun x25 =>
                  nc_Run m_X10_start 51 [some (.inr (.inr (10, aa))), none, some (.inl xc), some (.inl xd), some (.inl x25), none] [] w24
        else
          nc_bI (nc_Call m_X10_addRun [.inr (.inr (10, aa)), .inl xe] w17) fun r27 w26 =>
          nc_li (xe + r27) fun x28 =>
          nc_li (xe + 1) fun x29 =>
          nc_Run m_X10_start 51 [some (.inr (.inr (10, aa))), none, some (.inl xc), some (.inl x28), some (.inl x29), none] [] w26 :=
  (nc_Run_un [51] 40).trans rfl
set_option maxRecDepth 100000 in
theorem qc_X10_nextLine (aa : Nat) (w : nc_H) : nc_Call m_X10_nextLine [.inr (.inr (10, aa))] w =
  nc_bV (nc_Call m_X10_next [.inr (.inr (10, aa))] w) fun w1 =>
  if (w1.1 10 aa 11) = 0 then
    some (some (.inl 0), w1)
  else
    some (some (.inl 1), w1) :=
  (nc_Call_eq _ _ _).trans ((if_pos (Nat.le_of_ble_eq_true rfl)).trans ((nc_Run_un [] 8).trans rfl))
set_option maxRecDepth 100000 in
theorem qc_X0_readArg (aa : Nat) (ab : Nat) (xc : Int32) (w : nc_H) : nc_Call m_X0_readArg [.inr (.inr (10, aa)), .inr (.inr (2, ab)), .inl xc] w =
  if xc ≠ 11 then
    nc_bV (nc_Call m_X10_next [.inr (.inr (10, aa))] w) fun w1 =>
    nc_bI (nc_Call m_X2_named [.inr (.inr (2, ab)), .inr (.inr (10, aa)), .inl 12, .inl 10] w1) fun r3 w2 =>
    some (some (.inl r3), w2)
  else
    nc_bI (nc_Call m_X10_nextNumber [.inr (.inr (10, aa)), .inl 1, .inl 60] w) fun r5 w4 =>
    if r5 = 0 then
      some (some (.inl (-1)), w4)
    else
      some (some (.inl (w4.1 10 aa 12)), w4) :=
  (nc_Call_eq _ _ _).trans ((if_pos (Nat.le_of_ble_eq_true rfl)).trans ((nc_Run_un [] 12).trans rfl))
set_option maxRecDepth 100000 in
theorem qc_X10_closesLine (aa : Nat) (w : nc_H) : nc_Call m_X10_closesLine [.inr (.inr (10, aa))] w =
  nc_bV (nc_Call m_X10_next [.inr (.inr (10, aa))] w) fun w1 =>
  nc_bI (nc_Call m_X10_mustBeSign [.inr (.inr (10, aa)), .inl 59] w1) fun r3 w2 =>
  nc_z r3 <| some (some (.inl r3), w2) :=
  (nc_Call_eq _ _ _).trans ((if_pos (Nat.le_of_ble_eq_true rfl)).trans ((nc_Run_un [] 6).trans rfl))
set_option maxRecDepth 100000 in
theorem qc_X0_readLine (aa : Nat) (ab : Nat) (ac : Nat) (w : nc_H) : nc_Call m_X0_readLine [.inr (.inr (0, aa)), .inr (.inr (10, ab)), .inr (.inr (2, ac))] w =
  nc_bI (nc_Call m_X10_word [.inr (.inr (10, ab))] w) fun r2 w1 =>
  if r2 = 10 then
    nc_Run m_X0_readLine 21 [some (.inr (.inr (0, aa))), some (.inr (.inr (10, ab))), some (.inr (.inr (2, ac))), some (.inl r2), none, none, none] [] w1
  else
    if r2 = 11 then
      nc_Run m_X0_readLine 21 [some (.inr (.inr (0, aa))), some (.inr (.inr (10, ab))), some (.inr (.inr (2, ac))), some (.inl r2), none, none, none] [] w1
    else
      nc_bI (nc_Call m_X2_named [.inr (.inr (2, ac)), .inr (.inr (10, ab)), .inl 4, .inl 8] w1) fun r4 w3 =>
      if (0 : Int32) ≤ r4 then
        if (w3.1 0 aa 3) < 40 then
          nc_bV (nc_Call m_X10_next [.inr (.inr (10, ab))] w3) fun w5 =>
          nc_bI (nc_Call m_X10_word [.inr (.inr (10, ab))] w5) fun r7 w6 =>
          if r7 = 9 then
            nc_bI (nc_Call m_X0_readArg [.inr (.inr (10, ab)), .inr (.inr (2, ac)), .inl r7] w6) fun r9 w8 =>
            if r9 < 0 then
              some (some (.inl 0), w8)
            else
              nc_bI (nc_Call m_X10_closesLine [.inr (.inr (10, ab))] w8) fun r11 w10 =>
              if r11 ≠ 0 then
                nc_bd (w10.1 0 aa 3) 40 fun j12 =>
                nc_lt (nc_si w10 100 aa j12 r7) fun w13 =>
                nc_bd (w13.1 0 aa 3) 40 fun j14 =>
                nc_lt (nc_si w13 101 aa j14 r4) fun w15 =>
                nc_bd (w15.1 0 aa 3) 40 fun j16 =>
                nc_lt (nc_si w15 102 aa j16 r9) fun w17 =>
                nc_lt (nc_si w17 0 aa 3 ((w17.1 0 aa 3) + 1)) fun w18 =>
                some (some (.inl 1), w18)
              else
                some (some (.inl 0), w10)
          else
            nc_bI (nc_Call m_X10_fail [.inr (.inr (10, ab)), .inl 1] w6) fun r20 w19 =>
            nc_z r20 <| some (some (.inl r20), w19)
        else
          nc_bI (nc_Call m_X10_fail [.inr (.inr (10, ab)), .inl 4] w3) fun r22 w21 =>
          nc_z r22 <| some (some (.inl r22), w21)
      else
        some (some (.inl 0), w3) :=
  (nc_Call_eq _ _ _).trans ((if_pos (Nat.le_of_ble_eq_true rfl)).trans ((nc_Run_un [21] 73).trans rfl))
set_option maxRecDepth 100000 in
theorem qr_X0_readLine_21 (aa : Nat) (ab : Nat) (ac : Nat) (xd : Int32) (w : nc_H) : nc_Run m_X0_readLine 21 [some (.inr (.inr (0, aa))), some (.inr (.inr (10, ab))), some (.inr (.inr (2, ac))), some (.inl xd), none, none, none] [] w =
  if (w.1 0 aa 3) < 40 then
    nc_bI (nc_Call m_X0_readArg [.inr (.inr (10, ab)), .inr (.inr (2, ac)), .inl xd] w) fun r2 w1 =>
    if r2 < 0 then
      some (some (.inl 0), w1)
    else
      nc_bI (nc_Call m_X10_closesLine [.inr (.inr (10, ab))] w1) fun r4 w3 =>
      if r4 ≠ 0 then
        nc_bd (w3.1 0 aa 3) 40 fun j5 =>
        nc_lt (nc_si w3 100 aa j5 xd) fun w6 =>
        nc_bd (w6.1 0 aa 3) 40 fun j7 =>
        nc_lt (nc_si w6 101 aa j7 0) fun w8 =>
        nc_bd (w8.1 0 aa 3) 40 fun j9 =>
        nc_lt (nc_si w8 102 aa j9 r2) fun w10 =>
        nc_lt (nc_si w10 0 aa 3 ((w10.1 0 aa 3) + 1)) fun w11 =>
        some (some (.inl 1), w11)
      else
        some (some (.inl 0), w3)
  else
    nc_bI (nc_Call m_X10_fail [.inr (.inr (10, ab)), .inl 4] w) fun r13 w12 =>
    nc_z r13 <| some (some (.inl r13), w12) :=
  (nc_Run_un [21] 50).trans rfl
set_option maxRecDepth 100000 in
theorem qc_X10_mustEnd (aa : Nat) (w : nc_H) : nc_Call m_X10_mustEnd [.inr (.inr (10, aa))] w =
  if (w.1 10 aa 11) ≠ 0 then
    nc_bI (nc_Call m_X10_fail [.inr (.inr (10, aa)), .inl 1] w) fun r2 w1 =>
    if r2 = 0 then
      some (some (.inl 0), w1)
    else
      some (some (.inl 1), w1)
  else
    if (w.1 10 aa 9) = 0 then
      some (some (.inl 1), w)
    else
      nc_bI (nc_Call m_X10_fail [.inr (.inr (10, aa)), .inl 1] w) fun r4 w3 =>
      if r4 = 0 then
        some (some (.inl 0), w3)
      else
        some (some (.inl 1), w3) :=
  (nc_Call_eq _ _ _).trans ((if_pos (Nat.le_of_ble_eq_true rfl)).trans ((nc_Run_un [] 13).trans rfl))
set_option maxRecDepth 100000 in
theorem qc_X0_read (aa : Nat) (ab : Nat) (ac : Nat) (w : nc_H) : nc_Call m_X0_read [.inr (.inr (0, aa)), .inr (.inr (10, ab)), .inr (.inr (2, ac))] w =
  nc_lt (nc_si w 0 aa 3 0) fun w1 =>
  nc_bV (nc_Call m_X10_start [.inr (.inr (10, ab)), .inl 400] w1) fun w2 =>
  nc_Run m_X0_read 14 [some (.inr (.inr (0, aa))), some (.inr (.inr (10, ab))), some (.inr (.inr (2, ac))), some (.inl 0)] [] w2 :=
  (nc_Call_eq _ _ _).trans ((if_pos (Nat.le_of_ble_eq_true rfl)).trans ((nc_Run_un [14] 9).trans rfl))
set_option maxRecDepth 100000 in
theorem qr_X0_read_14 (aa : Nat) (ab : Nat) (ac : Nat) (xd : Int32) (w : nc_H) : nc_Run m_X0_read 14 [some (.inr (.inr (0, aa))), some (.inr (.inr (10, ab))), some (.inr (.inr (2, ac))), some (.inl xd)] [] w =
  if (400 : Int32) < xd then
    nc_bI (nc_Call m_X10_mustEnd [.inr (.inr (10, ab))] w) fun r2 w1 =>
    nc_z r2 <| some (some (.inl r2), w1)
  else
    nc_bI (nc_Call m_X10_nextLine [.inr (.inr (10, ab))] w) fun r4 w3 =>
    if r4 = 0 then
      nc_bI (nc_Call m_X10_mustEnd [.inr (.inr (10, ab))] w3) fun r6 w5 =>
      nc_z r6 <| some (some (.inl r6), w5)
    else
      nc_bI (nc_Call m_X0_readLine [.inr (.inr (0, aa)), .inr (.inr (10, ab)), .inr (.inr (2, ac))] w3) fun r8 w7 =>
      if r8 ≠ 0 then
        nc_li (xd + 1) fun x9 =>
        nc_Run m_X0_read 14 [some (.inr (.inr (0, aa))), some (.inr (.inr (10, ab))), some (.inr (.inr (2, ac))), some (.inl x9)] [] w7
      else
        some (some (.inl 0), w7) :=
  (nc_Run_un [14] 14).trans rfl
set_option maxRecDepth 100000 in
theorem qc_X7_fillPails (aa : Nat) (w : nc_H) : nc_Call m_X7_fillPails [.inr (.inr (7, aa))] w =
  nc_li (((w.1 7 aa 1) - (w.1 7 aa 1) / 30 * 30) * 4) fun x1 =>
  nc_Run m_X7_fillPails 12 [some (.inr (.inr (7, aa))), some (.inl x1), some (.inl 0), none, none] [] w :=
  (nc_Call_eq _ _ _).trans ((if_pos (Nat.le_of_ble_eq_true rfl)).trans ((nc_Run_un [12, 34] 10).trans rfl))
set_option maxRecDepth 100000 in
theorem qr_X7_fillPails_12 (aa : Nat) (xb : Int32) (xc : Int32) (w : nc_H) : nc_Run m_X7_fillPails 12 [some (.inr (.inr (7, aa))), some (.inl xb), some (.inl xc), none, none] [] w =
  if (4 : Int32) ≤ xc then
    nc_Run m_X7_fillPails 34 [some (.inr (.inr (7, aa))), some (.inl xb), some (.inl 0), none, none] [] w
  else
    nc_bd (xb + xc) 120 fun j1 =>
    nc_lt (nc_si w 562 aa j1 0) fun w2 =>
    nc_li (xc + 1) fun x3 =>
    nc_Run m_X7_fillPails 12 [some (.inr (.inr (7, aa))), some (.inl xb), some (.inl x3), none, none] [] w2 :=
  (nc_Run_un [12, 34] 13).trans rfl
set_option maxRecDepth 100000 in
theorem qr_X7_fillPails_34 (aa : Nat) (xb : Int32) (xc : Int32) (w : nc_H) : nc_Run m_X7_fillPails 34 [some (.inr (.inr (7, aa))), some (.inl xb), some (.inl xc), none, none] [] w =
  if (w.1 2 (nc_ld aa) 2) ≤ xc then
    some (none, w)
  else
    nc_bI (nc_Call m_X7_milk [.inr (.inr (7, aa)), .inl xc] w) fun r2 w1 =>
    nc_bd xc 8 fun j3 =>
    nc_li (w1.1 238 (nc_ld aa) j3) fun x4 =>
    nc_bd xc 8 fun j5 =>
    nc_bd xc 8 fun j6 =>
    nc_lt (nc_si w1 560 aa j6 ((w1.1 560 aa j5) + r2)) fun w7 =>
    nc_bd x4 4 fun j8 =>
    nc_bd x4 4 fun j9 =>
    nc_lt (nc_si w7 561 aa j9 ((w7.1 561 aa j8) + r2)) fun w10 =>
    nc_bd (xb + x4) 120 fun j11 =>
    nc_bd (xb + x4) 120 fun j12 =>
    nc_lt (nc_si w10 562 aa j12 ((w10.1 562 aa j11) + r2)) fun w13 =>
    nc_li (xc + 1) fun x14 =>
    nc_Run m_X7_fillPails 34 [some (.inr (.inr (7, aa))), some (.inl xb), some (.inl x14), none, none] [] w13 :=
  (nc_Run_un [12, 34] 44).trans rfl
set_option maxRecDepth 100000 in
theorem qc_X7_goDays (aa : Nat) (xb : Int32) (w : nc_H) : nc_Call m_X7_goDays [.inr (.inr (7, aa)), .inl xb] w =
  nc_li (w.1 7 aa 1) fun x1 =>
  nc_Run m_X7_goDays 7 [some (.inr (.inr (7, aa))), some (.inl xb), some (.inl x1), some (.inl 0)] [] w :=
  (nc_Call_eq _ _ _).trans ((if_pos (Nat.le_of_ble_eq_true rfl)).trans ((nc_Run_un [7] 6).trans rfl))
set_option maxRecDepth 100000 in
theorem qr_X7_goDays_7 (aa : Nat) (xb : Int32) (xc : Int32) (xd : Int32) (w : nc_H) : nc_Run m_X7_goDays 7 [some (.inr (.inr (7, aa))), some (.inl xb), some (.inl xc), some (.inl xd)] [] w =
  if xb ≤ xd then
    some (some (.inl ((w.1 7 aa 1) - xc)), w)
  else
    if (400 : Int32) ≤ (w.1 7 aa 1) then
      some (some (.inl ((w.1 7 aa 1) - xc)), w)
    else
      nc_bV (nc_Call m_X7_fillPails [.inr (.inr (7, aa))] w) fun w1 =>
      nc_bV (nc_Call m_X7_talk [.inr (.inr (7, aa))] w1) fun w2 =>
      nc_bV (nc_Call m_X7_turn [.inr (.inr (7, aa))] w2) fun w3 =>
      nc_li (xd + 1) fun x4 =>
      nc_Run m_X7_goDays 7 [some (.inr (.inr (7, aa))), some (.inl xb), some (.inl xc), some (.inl x4)] [] w3 :=
  (nc_Run_un [7] 16).trans rfl
end
section
set_option maxRecDepth 100000 in
theorem qc_X7_whyNotFound (aa : Nat) (xb : Int32) (w : nc_H) : nc_Call m_X7_whyNotFound [.inr (.inr (7, aa)), .inl xb] w =
  nc_bI (nc_Call m_X2_isLie [.inr (.inr (2, nc_ld aa)), .inl xb] w) fun r2 w1 =>
  if r2 ≠ 0 then
    if (((w1.1 7 aa 4) >>> (xb &&& 31)) &&& 1) ≠ 1 then
      some (some (.inl 0), w1)
    else
      some (some (.inl 2), w1)
  else
    some (some (.inl 1), w1) :=
  (nc_Call_eq _ _ _).trans ((if_pos (Nat.le_of_ble_eq_true rfl)).trans ((nc_Run_un [] 16).trans rfl))
set_option maxRecDepth 100000 in
theorem qc_X7_wouldDoubt (aa : Nat) (xb : Int32) (xc : Int32) (w : nc_H) : nc_Call m_X7_wouldDoubt [.inr (.inr (7, aa)), .inl xb, .inl xc] w =
  nc_bI (nc_Call m_X7_isDry [.inr (.inr (7, aa)), .inl xb] w) fun r2 w1 =>
  if r2 ≠ 0 then
    some (some (.inl 0), w1)
  else
    nc_bd xb 8 fun j3 =>
    if (((w1.1 554 aa j3) >>> (xc &&& 31)) &&& 1) ≠ 1 then
      some (some (.inl 0), w1)
    else
      some (some (.inl 1), w1) :=
  (nc_Call_eq _ _ _).trans ((if_pos (Nat.le_of_ble_eq_true rfl)).trans ((nc_Run_un [] 17).trans rfl))
set_option maxRecDepth 100000 in
theorem qc_X7_wouldDry (aa : Nat) (xb : Int32) (w : nc_H) : nc_Call m_X7_wouldDry [.inr (.inr (7, aa)), .inl xb] w =
  nc_Run m_X7_wouldDry 4 [some (.inr (.inr (7, aa))), some (.inl xb), some (.inl 0), some (.inl 0)] [] w :=
  (nc_Call_eq _ _ _).trans ((if_pos (Nat.le_of_ble_eq_true rfl)).trans ((nc_Run_un [4] 5).trans rfl))
set_option maxRecDepth 100000 in
theorem qr_X7_wouldDry_4 (aa : Nat) (xb : Int32) (xc : Int32) (xd : Int32) (w : nc_H) : nc_Run m_X7_wouldDry 4 [some (.inr (.inr (7, aa))), some (.inl xb), some (.inl xc), some (.inl xd)] [] w =
  if (w.1 2 (nc_ld aa) 2) ≤ xd then
    some (some (.inl xc), w)
  else
    nc_bI (nc_Call m_X7_wouldDoubt [.inr (.inr (7, aa)), .inl xd, .inl xb] w) fun r2 w1 =>
    if r2 = 0 then
      nc_li (xd + 1) fun x3 =>
      nc_Run m_X7_wouldDry 4 [some (.inr (.inr (7, aa))), some (.inl xb), some (.inl xc), some (.inl x3)] [] w1
    else
      nc_bd xd 8 fun j4 =>
      nc_bd xd 8 fun j5 =>
      if ((w1.1 559 aa j4) + 1) < (w1.1 240 (nc_ld aa) j5) then
        nc_li (xd + 1) fun x6 =>
        nc_Run m_X7_wouldDry 4 [some (.inr (.inr (7, aa))), some (.inl xb), some (.inl xc), some (.inl x6)] [] w1
      else
        nc_li (xc ||| (1 <<< (xd &&& 31))) fun x7 =>
        nc_li (xd + 1) fun x8 =>
        nc_Run m_X7_wouldDry 4 [some (.inr (.inr (7, aa))), some (.inl xb), some (.inl x7), some (.inl x8)] [] w1 :=
  (nc_Run_un [4] 31).trans rfl
set_option maxRecDepth 100000 in
theorem qc_X7_findOut (aa : Nat) (xb : Int32) (w : nc_H) : nc_Call m_X7_findOut [.inr (.inr (7, aa)), .inl xb] w =
  nc_bI (nc_Call m_X7_wouldDry [.inr (.inr (7, aa)), .inl xb] w) fun r2 w1 =>
  nc_Run m_X7_findOut 8 [some (.inr (.inr (7, aa))), some (.inl xb), some (.inl r2), some (.inl 0)] [] w1 :=
  (nc_Call_eq _ _ _).trans ((if_pos (Nat.le_of_ble_eq_true rfl)).trans ((nc_Run_un [8] 7).trans rfl))
set_option maxRecDepth 100000 in
theorem qr_X7_findOut_8 (aa : Nat) (xb : Int32) (xc : Int32) (xd : Int32) (w : nc_H) : nc_Run m_X7_findOut 8 [some (.inr (.inr (7, aa))), some (.inl xb), some (.inl xc), some (.inl xd)] [] w =
  if (w.1 2 (nc_ld aa) 2) ≤ xd then
    nc_lt (nc_si w 7 aa 3 ((w.1 7 aa 3) ||| xc)) fun w1 =>
    nc_lt (nc_si w1 7 aa 4 ((w1.1 7 aa 4) ||| (1 <<< (xb &&& 31)))) fun w2 =>
    some (none, w2)
  else
    nc_bI (nc_Call m_X7_wouldDoubt [.inr (.inr (7, aa)), .inl xd, .inl xb] w) fun r4 w3 =>
    if r4 = 0 then
      nc_li (xd + 1) fun x5 =>
      nc_Run m_X7_findOut 8 [some (.inr (.inr (7, aa))), some (.inl xb), some (.inl xc), some (.inl x5)] [] w3
    else
      nc_bd xd 8 fun j6 =>
      nc_bd xd 8 fun j7 =>
      nc_lt (nc_si w3 559 aa j7 ((w3.1 559 aa j6) + 1)) fun w8 =>
      nc_li (xd + 1) fun x9 =>
      nc_Run m_X7_findOut 8 [some (.inr (.inr (7, aa))), some (.inl xb), some (.inl xc), some (.inl x9)] [] w8 :=
  (nc_Run_un [8] 21).trans rfl
set_option maxRecDepth 100000 in
theorem qc_X0_live (aa : Nat) (ab : Nat) (xc : Int32) (w : nc_H) : nc_Call m_X0_live [.inr (.inr (0, aa)), .inr (.inr (7, ab)), .inl xc] w =
  nc_bd xc 40 fun j1 =>
  if (w.1 100 aa j1) ≠ 11 then
    nc_bd xc 40 fun j2 =>
    if (w.1 100 aa j2) ≠ 10 then
      nc_bd xc 40 fun j3 =>
      nc_bd xc 40 fun j4 =>
      nc_bI (nc_Call m_X7_whyNotTold [.inr (.inr (7, ab)), .inl (w.1 101 aa j3), .inl (w.1 102 aa j4)] w) fun r6 w5 =>
      if r6 ≠ 0 then
        some (some (.inl r6), w5)
      else
        nc_bd xc 40 fun j7 =>
        nc_bd xc 40 fun j8 =>
        nc_bV (nc_Call m_X7_hear [.inr (.inr (7, ab)), .inl (w5.1 101 aa j7), .inl (w5.1 102 aa j8)] w5) fun w9 =>
        some (some (.inl r6), w9)
    else
      nc_bd xc 40 fun j10 =>
      nc_bI (nc_Call m_X7_whyNotFound [.inr (.inr (7, ab)), .inl (w.1 102 aa j10)] w) fun r12 w11 =>
      if r12 = 0 then
        nc_bd xc 40 fun j13 =>
        nc_bV (nc_Call m_X7_findOut [.inr (.inr (7, ab)), .inl (w11.1 102 aa j13)] w11) fun w14 =>
        some (some (.inl 0), w14)
      else
        some (some (.inl (10 + r12)), w11)
  else
    nc_bd xc 40 fun j15 =>
    if ((w.1 7 ab 1) + (w.1 102 aa j15)) ≤ 400 then
      nc_bd xc 40 fun j16 =>
      nc_bI (nc_Call m_X7_goDays [.inr (.inr (7, ab)), .inl (w.1 102 aa j16)] w) fun r18 w17 =>
      some (some (.inl 0), w17)
    else
      some (some (.inl 21), w) :=
  (nc_Call_eq _ _ _).trans ((if_pos (Nat.le_of_ble_eq_true rfl)).trans ((nc_Run_un [] 37).trans rfl))
set_option maxRecDepth 100000 in
theorem qc_X0_judge (aa : Nat) (ab : Nat) (w : nc_H) : nc_Call m_X0_judge [.inr (.inr (0, aa)), .inr (.inr (7, ab))] w =
  nc_lt (nc_si w 0 aa 4 1) fun w1 =>
  nc_lt (nc_si w1 0 aa 5 0) fun w2 =>
  nc_lt (nc_si w2 0 aa 6 0) fun w3 =>
  nc_Run m_X0_judge 17 [some (.inr (.inr (0, aa))), some (.inr (.inr (7, ab))), some (.inl 0)] [] w3 :=
  (nc_Call_eq _ _ _).trans ((if_pos (Nat.le_of_ble_eq_true rfl)).trans ((nc_Run_un [17] 12).trans rfl))
set_option maxRecDepth 100000 in
theorem qr_X0_judge_17 (aa : Nat) (ab : Nat) (xc : Int32) (w : nc_H) : nc_Run m_X0_judge 17 [some (.inr (.inr (0, aa))), some (.inr (.inr (7, ab))), some (.inl xc)] [] w =
  if (w.1 0 aa 3) ≤ xc then
    nc_lt (nc_si w 0 aa 7 (w.1 7 ab 1)) fun w1 =>
    nc_lt (nc_si w1 0 aa 8 (w1.1 7 ab 3)) fun w2 =>
    if (w2.1 0 aa 5) ≠ 0 then
      some (some (.inl (w2.1 0 aa 6)), w2)
    else
      some (some (.inl (-1)), w2)
  else
    if (w.1 0 aa 5) ≠ 0 then
      nc_lt (nc_si w 0 aa 7 (w.1 7 ab 1)) fun w3 =>
      nc_lt (nc_si w3 0 aa 8 (w3.1 7 ab 3)) fun w4 =>
      if (w4.1 0 aa 5) ≠ 0 then
        some (some (.inl (w4.1 0 aa 6)), w4)
      else
        some (some (.inl (-1)), w4)
    else
      nc_bI (nc_Call m_X0_live [.inr (.inr (0, aa)), .inr (.inr (7, ab)), .inl xc] w) fun r6 w5 =>
      nc_lt (nc_si w5 0 aa 5 r6) fun w7 =>
      if (w7.1 0 aa 5) ≠ 0 then
        nc_lt (nc_si w7 0 aa 6 xc) fun w8 =>
        nc_li (xc + 1) fun x9 =>
        nc_Run m_X0_judge 17 [some (.inr (.inr (0, aa))), some (.inr (.inr (7, ab))), some (.inl x9)] [] w8
      else
        nc_lt (nc_si w7 0 aa 6 (xc + 1)) fun w10 =>
        nc_li (xc + 1) fun x11 =>
        nc_Run m_X0_judge 17 [some (.inr (.inr (0, aa))), some (.inr (.inr (7, ab))), some (.inl x11)] [] w10 :=
  (nc_Run_un [17] 25).trans rfl
set_option maxRecDepth 100000 in
theorem qc_X1_lookAt (aa : Nat) (xb : Int32) (w : nc_H) : nc_Call m_X1_lookAt [.inr (.inr (1, aa)), .inl xb] w =
  nc_bI (nc_Call m_X2_allNews [.inr (.inr (2, 0))] w) fun r2 w1 =>
  nc_bd xb 8 fun j3 =>
  nc_lt (nc_si w1 1 aa 4 (r2 &&& ((w1.1 555 0 j3) ^^^ (-1)))) fun w4 =>
  nc_bd xb 8 fun j5 =>
  nc_bI (nc_Call m_J6_bitCount_0f7a4 [.inl (w4.1 555 0 j5)] w4) fun r7 w6 =>
  nc_lt (nc_si w6 1 aa 5 ((w4.1 2 0 5) - r7)) fun w8 =>
  nc_bI (nc_Call m_X7_sumOf [.inr (.inr (7, 0)), .inl xb] w8) fun r10 w9 =>
  nc_lt (nc_si w9 1 aa 6 r10) fun w11 =>
  nc_bI (nc_Call m_X7_isCurdled [.inr (.inr (7, 0)), .inl xb] w11) fun r13 w12 =>
  nc_z r13 <|
  nc_lt (nc_si w12 1 aa 7 r13) fun w14 =>
  nc_bI (nc_Call m_X7_heardByOthers [.inr (.inr (7, 0)), .inl xb] w14) fun r16 w15 =>
  nc_bd 0 1024 fun j17 =>
  nc_lt (nc_si w15 166 aa j17 0) fun w18 =>
  nc_Run m_X1_lookAt 89 [some (.inr (.inr (1, aa))), some (.inl xb), some (.inl r16), some (.inl 0), none, none] [] w18 :=
  (nc_Call_eq _ _ _).trans ((if_pos (Nat.le_of_ble_eq_true rfl)).trans ((nc_Run_un [89, 123] 50).trans rfl))
set_option maxRecDepth 100000 in
theorem qr_X1_lookAt_89 (aa : Nat) (xb : Int32) (xc : Int32) (xd : Int32) (w : nc_H) : nc_Run m_X1_lookAt 89 [some (.inr (.inr (1, aa))), some (.inl xb), some (.inl xc), some (.inl xd), none, none] [] w =
  if (w.1 2 0 3) ≤ xd then
    some (none, w)
  else
    nc_bd xb 8 fun j1 =>
    nc_bI (nc_Call m_X7_addedBy [.inr (.inr (7, 0)), .inl xd, .inl xc, .inl (w.1 554 0 j1)] w) fun r3 w2 =>
    nc_Run m_X1_lookAt 123 [some (.inr (.inr (1, aa))), some (.inl xb), some (.inl xc), some (.inl xd), some (.inl r3), some (.inl 0)] [] w2 :=
  (nc_Run_un [89, 123] 19).trans rfl
set_option maxRecDepth 100000 in
theorem qr_X1_lookAt_123 (aa : Nat) (xb : Int32) (xc : Int32) (xd : Int32) (xe : Int32) (xf : Int32) (w : nc_H) : nc_Run m_X1_lookAt 123 [some (.inr (.inr (1, aa))), some (.inl xb), some (.inl xc), some (.inl xd), some (.inl xe), some (.inl xf)] [] w =
  if (1 <<< (xd &&& 31)) ≤ xf then
    nc_li (xd + 1) fun x1 =>
    nc_Run m_X1_lookAt 89 [some (.inr (.inr (1, aa))), some (.inl xb), some (.inl xc), some (.inl x1), none, none] [] w
  else
    nc_bd xf 1024 fun j2 =>
    nc_bd (xf ||| (1 <<< (xd &&& 31))) 1024 fun j3 =>
    nc_lt (nc_si w 166 aa j3 ((w.1 166 aa j2) + xe)) fun w4 =>
    nc_li (xf + 1) fun x5 =>
    nc_Run m_X1_lookAt 123 [some (.inr (.inr (1, aa))), some (.inl xb), some (.inl xc), some (.inl xd), some (.inl xe), some (.inl x5)] [] w4 :=
  (nc_Run_un [89, 123] 22).trans rfl
set_option maxRecDepth 100000 in
theorem qc_X1_milkBy (aa : Nat) (xb : Int32) (w : nc_H) : nc_Call m_X1_milkBy [.inr (.inr (1, aa)), .inl xb] w =
  if (w.1 1 aa 7) ≠ 0 then
    some (some (.inl 0), w)
  else
    if (xb &&& (w.1 2 0 7)) = 0 then
      nc_bd xb 1024 fun j1 =>
      some (some (.inl (if (0 : Int32) < ((w.1 1 aa 6) + (w.1 166 aa j1)) then ((w.1 1 aa 6) + (w.1 166 aa j1)) else (0 : Int32))), w)
    else
      some (some (.inl 0), w) :=
  (nc_Call_eq _ _ _).trans ((if_pos (Nat.le_of_ble_eq_true rfl)).trans ((nc_Run_un [] 19).trans rfl))
set_option maxRecDepth 100000 in
theorem qc_X1_bestOf (aa : Nat) (xb : Int32) (w : nc_H) : nc_Call m_X1_bestOf [.inr (.inr (1, aa)), .inl xb] w =
  nc_bI (nc_Call m_J6_bitCount_0f7a4 [.inl xb] w) fun r2 w1 =>
  nc_li (1 <<< (r2 &&& 31)) fun x3 =>
  nc_Run m_X1_bestOf 15 [some (.inr (.inr (1, aa))), some (.inl xb), some (.inl 0), some (.inl x3), some (.inl 0), some (.inl 1), none, none] [] w1 :=
  (nc_Call_eq _ _ _).trans ((if_pos (Nat.le_of_ble_eq_true rfl)).trans ((nc_Run_un [15] 12).trans rfl))
set_option maxRecDepth 100000 in
theorem qr_X1_bestOf_15 (aa : Nat) (xb : Int32) (xc : Int32) (xd : Int32) (xe : Int32) (xf : Int32) (w : nc_H) : nc_Run m_X1_bestOf 15 [some (.inr (.inr (1, aa))), some (.inl xb), some (.inl xc), some (.inl xd), some (.inl xe), some (.inl xf), none, none] [] w =
  if xd ≤ xf then
    some (some (.inl xc), w)
  else
    nc_bI (nc_Call m_X1_setAfter [.inl xe, .inl xb] w) fun r2 w1 =>
    nc_bI (nc_Call m_J6_bitCount_0f7a4 [.inl r2] w1) fun r4 w3 =>
    if (w3.1 1 aa 5) < r4 then
      nc_li (xf + 1) fun x5 =>
      nc_Run m_X1_bestOf 15 [some (.inr (.inr (1, aa))), some (.inl xb), some (.inl xc), some (.inl xd), some (.inl r2), some (.inl x5), none, none] [] w3
    else
      nc_bI (nc_Call m_X1_milkBy [.inr (.inr (1, aa)), .inl r2] w3) fun r7 w6 =>
      nc_bI (nc_Call m_X1_milkBy [.inr (.inr (1, aa)), .inl xc] w6) fun r9 w8 =>
      nc_li (r7 - r9) fun x10 =>
      if (0 : Int32) < x10 then
        nc_li (xf + 1) fun x11 =>
        nc_Run m_X1_bestOf 15 [some (.inr (.inr (1, aa))), some (.inl xb), some (.inl r2), some (.inl xd), some (.inl r2), some (.inl x11), none, none] [] w8
      else
        if x10 ≠ 0 then
          nc_li (xf + 1) fun x12 =>
          nc_Run m_X1_bestOf 15 [some (.inr (.inr (1, aa))), some (.inl xb), some (.inl xc), some (.inl xd), some (.inl r2), some (.inl x12), none, none] [] w8
        else
          nc_bI (nc_Call m_J6_bitCount_0f7a4 [.inl xc] w8) fun r14 w13 =>
          if r14 ≤ r4 then
            nc_li (xf + 1) fun x15 =>
            nc_Run m_X1_bestOf 15 [some (.inr (.inr (1, aa))), some (.inl xb), some (.inl xc), some (.inl xd), some (.inl r2), some (.inl x15), none, none] [] w13
          else
            nc_li (xf + 1) fun x16 =>
            nc_Run m_X1_bestOf 15 [some (.inr (.inr (1, aa))), some (.inl xb), some (.inl r2), some (.inl xd), some (.inl r2), some (.inl x16), none, none] [] w13 :=
  (nc_Run_un [15] 35).trans rfl
set_option maxRecDepth 100000 in
theorem qc_X1_most (aa : Nat) (xb : Int32) (w : nc_H) : nc_Call m_X1_most [.inr (.inr (1, aa)), .inl xb] w =
  nc_bV (nc_Call m_X1_lookAt [.inr (.inr (1, aa)), .inl xb] w) fun w1 =>
  nc_bI (nc_Call m_X1_bestOf [.inr (.inr (1, aa)), .inl ((w1.1 1 aa 4) &&& ((w1.1 2 0 7) ^^^ (-1)))] w1) fun r3 w2 =>
  nc_lt (nc_si w2 1 aa 8 r3) fun w4 =>
  nc_bI (nc_Call m_X1_milkBy [.inr (.inr (1, aa)), .inl (w4.1 1 aa 8)] w4) fun r6 w5 =>
  some (some (.inl r6), w5) :=
  (nc_Call_eq _ _ _).trans ((if_pos (Nat.le_of_ble_eq_true rfl)).trans ((nc_Run_un [] 20).trans rfl))
set_option maxRecDepth 100000 in
theorem qc_X1_mostWithoutLies (aa : Nat) (xb : Int32) (w : nc_H) : nc_Call m_X1_mostWithoutLies [.inr (.inr (1, aa)), .inl xb] w =
  nc_bV (nc_Call m_X1_lookAt [.inr (.inr (1, aa)), .inl xb] w) fun w1 =>
  nc_bI (nc_Call m_X1_bestOf [.inr (.inr (1, aa)), .inl (((w1.1 1 aa 4) &&& ((w1.1 2 0 7) ^^^ (-1))) &&& ((w1.1 2 0 6) ^^^ (-1)))] w1) fun r3 w2 =>
  nc_bI (nc_Call m_X1_milkBy [.inr (.inr (1, aa)), .inl r3] w2) fun r5 w4 =>
  some (some (.inl r5), w4) :=
  (nc_Call_eq _ _ _).trans ((if_pos (Nat.le_of_ble_eq_true rfl)).trans ((nc_Run_un [] 22).trans rfl))
set_option maxRecDepth 100000 in
theorem qc_X1_isLess (aa : Nat) (xb : Int32) (xc : Int32) (w : nc_H) : nc_Call m_X1_isLess [.inr (.inr (1, aa)), .inl xb, .inl xc] w =
  if xc ≠ (-1) then
    nc_bI (nc_Call m_J6_bitCount_0f7a4 [.inl (xb &&& (w.1 2 0 6))] w) fun r2 w1 =>
    nc_bI (nc_Call m_J6_bitCount_0f7a4 [.inl (xc &&& (w1.1 2 0 6))] w1) fun r4 w3 =>
    nc_li (r2 - r4) fun x5 =>
    if x5 < 0 then
      some (some (.inl 1), w3)
    else
      if x5 ≠ 0 then
        some (some (.inl 0), w3)
      else
        nc_bI (nc_Call m_J6_bitCount_0f7a4 [.inl xb] w3) fun r7 w6 =>
        nc_bI (nc_Call m_J6_bitCount_0f7a4 [.inl xc] w6) fun r9 w8 =>
        if r9 ≤ r7 then
          some (some (.inl 0), w8)
        else
          some (some (.inl 1), w8)
  else
    some (some (.inl 1), w) :=
  (nc_Call_eq _ _ _).trans ((if_pos (Nat.le_of_ble_eq_true rfl)).trans ((nc_Run_un [] 29).trans rfl))
set_option maxRecDepth 100000 in
theorem qc_X1_fewestLies (aa : Nat) (xb : Int32) (xc : Int32) (w : nc_H) : nc_Call m_X1_fewestLies [.inr (.inr (1, aa)), .inl xb, .inl xc] w =
  nc_bV (nc_Call m_X1_lookAt [.inr (.inr (1, aa)), .inl xb] w) fun w1 =>
  nc_li ((w1.1 1 aa 4) &&& ((w1.1 2 0 7) ^^^ (-1))) fun x2 =>
  nc_bI (nc_Call m_J6_bitCount_0f7a4 [.inl x2] w1) fun r4 w3 =>
  nc_li (1 <<< (r4 &&& 31)) fun x5 =>
  nc_Run m_X1_fewestLies 37 [some (.inr (.inr (1, aa))), none, some (.inl xc), some (.inl x2), some (.inl x5), some (.inl (-1)), some (.inl 0), some (.inl 0)] [] w3 :=
  (nc_Call_eq _ _ _).trans ((if_pos (Nat.le_of_ble_eq_true rfl)).trans ((nc_Run_un [37] 24).trans rfl))
set_option maxRecDepth 100000 in
theorem qr_X1_fewestLies_37 (aa : Nat) (xc : Int32) (xd : Int32) (xe : Int32) (xf : Int32) (xg : Int32) (xh : Int32) (w : nc_H) : nc_Run m_X1_fewestLies 37 [some (.inr (.inr (1, aa))), none, some (.inl xc), some (.inl xd), some (.inl xe), some (.inl xf), some (.inl xg), some (.inl xh)] [] w =
  if xe ≤ xh then
    if xf ≠ (-1) then
      nc_lt (nc_si w 1 aa 8 xf) fun w1 =>
      nc_bI (nc_Call m_J6_bitCount_0f7a4 [.inl (xf &&& (w1.1 2 0 6))] w1) fun r3 w2 =>
      some (some (.inl r3), w2)
    else
      some (some (.inl (-1)), w)
  else
    nc_bI (nc_Call m_J6_bitCount_0f7a4 [.inl xg] w) fun r5 w4 =>
    if (w4.1 1 aa 5) < r5 then
      nc_bI (nc_Call m_X1_setAfter [.inl xg, .inl xd] w4) fun r7 w6 =>
      nc_li (xh + 1) fun x8 =>
      nc_Run m_X1_fewestLies 37 [some (.inr (.inr (1, aa))), none, some (.inl xc), some (.inl xd), some (.inl xe), some (.inl xf), some (.inl r7), some (.inl x8)] [] w6
    else
      nc_bI (nc_Call m_X1_milkBy [.inr (.inr (1, aa)), .inl xg] w4) fun r10 w9 =>
      if r10 < xc then
        nc_bI (nc_Call m_X1_setAfter [.inl xg, .inl xd] w9) fun r12 w11 =>
        nc_li (xh + 1) fun x13 =>
        nc_Run m_X1_fewestLies 37 [some (.inr (.inr (1, aa))), none, some (.inl xc), some (.inl xd), some (.inl xe), some (.inl xf), some (.inl r12), some (.inl x13)] [] w11
      else
        nc_bI (nc_Call m_X1_isLess [.inr (.inr (1, aa)), .inl xg, .inl xf] w9) fun r15 w14 =>
        if r15 = 0 then
          nc_bI (nc_Call m_X1_setAfter [.inl xg, .inl xd] w14) fun r17 w16 =>
          nc_li (xh + 1) fun x18 =>
          nc_Run m_X1_fewestLies 37 [some (.inr (.inr (1, aa))), none, some (.inl xc), some (.inl xd), some (.inl xe), some (.inl xf), some (.inl r17), some (.inl x18)] [] w16
        else
          nc_bI (nc_Call m_X1_setAfter [.inl xg, .inl xd] w14) fun r20 w19 =>
          nc_li (xh + 1) fun x21 =>
          nc_Run m_X1_fewestLies 37 [some (.inr (.inr (1, aa))), none, some (.inl xc), some (.inl xd), some (.inl xe), some (.inl xg), some (.inl r20), some (.inl x21)] [] w19 :=
  (nc_Run_un [37] 27).trans rfl
set_option maxRecDepth 100000 in
theorem qc_X1_mostEven (aa : Nat) (xb : Int32) (w : nc_H) : nc_Call m_X1_mostEven [.inr (.inr (1, aa)), .inl xb] w =
  nc_Run m_X1_mostEven 7 [some (.inr (.inr (1, aa))), some (.inl xb), some (.inl (-1)), some (.inl 0), some (.inl 0), none] [] w :=
  (nc_Call_eq _ _ _).trans ((if_pos (Nat.le_of_ble_eq_true rfl)).trans ((nc_Run_un [7] 7).trans rfl))
set_option maxRecDepth 100000 in
theorem qr_X1_mostEven_7 (aa : Nat) (xb : Int32) (xc : Int32) (xd : Int32) (xe : Int32) (w : nc_H) : nc_Run m_X1_mostEven 7 [some (.inr (.inr (1, aa))), some (.inl xb), some (.inl xc), some (.inl xd), some (.inl xe), none] [] w =
  if (w.1 2 0 3) ≤ xe then
    some (some (.inl xc), w)
  else
    nc_bd xe 10 fun j1 =>
    nc_li (if 0 ≤ ((2 * (w.1 167 aa j1)) - xb) then ((2 * (w.1 167 aa j1)) - xb) else 0 - ((2 * (w.1 167 aa j1)) - xb)) fun x2 =>
    if xc = (-1) then
      nc_li (xe + 1) fun x3 =>
      nc_Run m_X1_mostEven 7 [some (.inr (.inr (1, aa))), some (.inl xb), some (.inl xe), some (.inl x2), some (.inl x3), none] [] w
    else
      if xd ≤ x2 then
        nc_li (xe + 1) fun x4 =>
        nc_Run m_X1_mostEven 7 [some (.inr (.inr (1, aa))), some (.inl xb), some (.inl xc), some (.inl xd), some (.inl x4), none] [] w
      else
        nc_li (xe + 1) fun x5 =>
        nc_Run m_X1_mostEven 7 [some (.inr (.inr (1, aa))), some (.inl xb), some (.inl xe), some (.inl x2), some (.inl x5), none] [] w :=
  (nc_Run_un [7] 28).trans rfl
set_option maxRecDepth 100000 in
theorem qc_X1_setsThatGive (aa : Nat) (xb : Int32) (xc : Int32) (w : nc_H) : nc_Call m_X1_setsThatGive [.inr (.inr (1, aa)), .inl xb, .inl xc] w =
  nc_bV (nc_Call m_X1_lookAt [.inr (.inr (1, aa)), .inl xb] w) fun w1 =>
  nc_bV (nc_Call m_J7_fill_53178 [.inr (.inr (167, aa)), .inl 0] w1) fun w2 =>
  nc_bI (nc_Call m_J6_bitCount_0f7a4 [.inl (w2.1 1 aa 4)] w2) fun r4 w3 =>
  nc_li (1 <<< (r4 &&& 31)) fun x5 =>
  nc_bI (nc_Call m_X2_allNews [.inr (.inr (2, 0))] w3) fun r7 w6 =>
  nc_Run m_X1_setsThatGive 41 [some (.inr (.inr (1, aa))), none, some (.inl xc), some (.inl x5), some (.inl 0), some (.inl r7), some (.inl 0), some (.inl 0)] [] w6 :=
  (nc_Call_eq _ _ _).trans ((if_pos (Nat.le_of_ble_eq_true rfl)).trans ((nc_Run_un [41] 24).trans rfl))
set_option maxRecDepth 100000 in
theorem qr_X1_setsThatGive_41 (aa : Nat) (xc : Int32) (xd : Int32) (xe : Int32) (xf : Int32) (xg : Int32) (xh : Int32) (w : nc_H) : nc_Run m_X1_setsThatGive 41 [some (.inr (.inr (1, aa))), none, some (.inl xc), some (.inl xd), some (.inl xe), some (.inl xf), some (.inl xg), some (.inl xh)] [] w =
  if xd ≤ xh then
    if xe ≤ 0 then
      some (some (.inl xe), w)
    else
      nc_lt (nc_si w 1 aa 9 xf) fun w1 =>
      nc_bI (nc_Call m_X1_mostEven [.inr (.inr (1, aa)), .inl xe] w1) fun r3 w2 =>
      nc_lt (nc_si w2 1 aa 10 r3) fun w4 =>
      some (some (.inl xe), w4)
  else
    nc_bI (nc_Call m_J6_bitCount_0f7a4 [.inl xg] w) fun r6 w5 =>
    if (w5.1 1 aa 5) < r6 then
      nc_bI (nc_Call m_X1_setAfter [.inl xg, .inl (w5.1 1 aa 4)] w5) fun r8 w7 =>
      nc_li (xh + 1) fun x9 =>
      nc_Run m_X1_setsThatGive 41 [some (.inr (.inr (1, aa))), none, some (.inl xc), some (.inl xd), some (.inl xe), some (.inl xf), some (.inl r8), some (.inl x9)] [] w7
    else
      nc_bI (nc_Call m_X1_milkBy [.inr (.inr (1, aa)), .inl xg] w5) fun r11 w10 =>
      if r11 ≠ xc then
        nc_bI (nc_Call m_X1_setAfter [.inl xg, .inl (w10.1 1 aa 4)] w10) fun r13 w12 =>
        nc_li (xh + 1) fun x14 =>
        nc_Run m_X1_setsThatGive 41 [some (.inr (.inr (1, aa))), none, some (.inl xc), some (.inl xd), some (.inl xe), some (.inl xf), some (.inl r13), some (.inl x14)] [] w12
      else
        nc_li (xe + 1) fun x15 =>
        nc_li (xf &&& xg) fun x16 =>
        nc_bV (nc_Call m_X1_countNews [.inr (.inr (1, aa)), .inl xg] w10) fun w17 =>
        nc_bI (nc_Call m_X1_setAfter [.inl xg, .inl (w17.1 1 aa 4)] w17) fun r19 w18 =>
        nc_li (xh + 1) fun x20 =>
        nc_Run m_X1_setsThatGive 41 [some (.inr (.inr (1, aa))), none, some (.inl xc), some (.inl xd), some (.inl x15), some (.inl x16), some (.inl r19), some (.inl x20)] [] w18 :=
  (nc_Run_un [41] 29).trans rfl
set_option maxRecDepth 100000 in
theorem qc_X2_clear (aa : Nat) (w : nc_H) : nc_Call m_X2_clear [.inr (.inr (2, aa))] w =
  nc_lt (nc_si w 2 aa 0 0) fun w1 =>
  nc_lt (nc_si w1 2 aa 1 0) fun w2 =>
  nc_lt (nc_si w2 2 aa 2 0) fun w3 =>
  nc_lt (nc_si w3 2 aa 3 0) fun w4 =>
  nc_lt (nc_si w4 2 aa 4 0) fun w5 =>
  nc_lt (nc_si w5 2 aa 5 3) fun w6 =>
  nc_lt (nc_si w6 2 aa 6 0) fun w7 =>
  nc_lt (nc_si w7 2 aa 7 0) fun w8 =>
  nc_bV (nc_Call m_J7_fill_d0a16 [.inr (.inr (236, aa)), .inr (.inl 0)] w8) fun w9 =>
  nc_bV (nc_Call m_J7_fill_53178 [.inr (.inr (237, aa)), .inl 0] w9) fun w10 =>
  some (none, w10) :=
  (nc_Call_eq _ _ _).trans ((if_pos (Nat.le_of_ble_eq_true rfl)).trans ((nc_Run_un [] 33).trans rfl))
set_option maxRecDepth 100000 in
theorem qc_X2_copyFrom (aa : Nat) (ab : Nat) (w : nc_H) : nc_Call m_X2_copyFrom [.inr (.inr (2, aa)), .inr (.inr (2, ab))] w =
  nc_lt (nc_si w 2 aa 0 (w.1 2 ab 0)) fun w1 =>
  nc_lt (nc_si w1 2 aa 1 (w1.1 2 ab 1)) fun w2 =>
  nc_lt (nc_si w2 2 aa 2 (w2.1 2 ab 2)) fun w3 =>
  nc_lt (nc_si w3 2 aa 3 (w3.1 2 ab 3)) fun w4 =>
  nc_lt (nc_si w4 2 aa 4 (w4.1 2 ab 4)) fun w5 =>
  nc_lt (nc_si w5 2 aa 5 (w5.1 2 ab 5)) fun w6 =>
  nc_lt (nc_si w6 2 aa 6 (w6.1 2 ab 6)) fun w7 =>
  nc_lt (nc_si w7 2 aa 7 (w7.1 2 ab 7)) fun w8 =>
  nc_lt (nc_cpl w8 236 ab 0 236 aa 0 22) fun w9 =>
  nc_lt (nc_cpi w9 237 ab 0 237 aa 0 4) fun w10 =>
  nc_lt (nc_cpi w10 238 ab 0 238 aa 0 8) fun w11 =>
  nc_lt (nc_cpi w11 239 ab 0 239 aa 0 8) fun w12 =>
  nc_lt (nc_cpi w12 240 ab 0 240 aa 0 8) fun w13 =>
  nc_lt (nc_cpi w13 241 ab 0 241 aa 0 8) fun w14 =>
  nc_lt (nc_cpi w14 242 ab 0 242 aa 0 10) fun w15 =>
  nc_lt (nc_cpi w15 243 ab 0 243 aa 0 10) fun w16 =>
  nc_lt (nc_cpi w16 244 ab 0 244 aa 0 6) fun w17 =>
  nc_lt (nc_cpi w17 245 ab 0 245 aa 0 6) fun w18 =>
  nc_lt (nc_cpi w18 246 ab 0 246 aa 0 6) fun w19 =>
  some (none, w19) :=
  (nc_Call_eq _ _ _).trans ((if_pos (Nat.le_of_ble_eq_true rfl)).trans ((nc_Run_un [] 121).trans rfl))
set_option maxRecDepth 100000 in
theorem qc_X2_nextNewName (aa : Nat) (ab : Nat) (xc : Int32) (w : nc_H) : nc_Call m_X2_nextNewName [.inr (.inr (2, aa)), .inr (.inr (10, ab)), .inl xc] w =
  nc_bV (nc_Call m_X10_next [.inr (.inr (10, ab))] w) fun w1 =>
  if (w1.1 10 ab 11) = 3 then
    nc_bI (nc_Call m_X2_slotOf [.inr (.inr (2, aa)), .inr (.inl (w1.2 10 ab 13))] w1) fun r3 w2 =>
    if r3 ≠ (-1) then
      nc_bI (nc_Call m_X10_fail [.inr (.inr (10, ab)), .inl 3] w2) fun r5 w4 =>
      nc_z r5 <| some (some (.inl r5), w4)
    else
      if xc < 0 then
        nc_bI (nc_Call m_X10_fail [.inr (.inr (10, ab)), .inl 3] w2) fun r7 w6 =>
        nc_z r7 <| some (some (.inl r7), w6)
      else
        if xc < 22 then
          nc_bd xc 22 fun j8 =>
          nc_lt (nc_sl w2 236 aa j8 (w2.2 10 ab 13)) fun w9 =>
          some (some (.inl 1), w9)
        else
          nc_bI (nc_Call m_X10_fail [.inr (.inr (10, ab)), .inl 3] w2) fun r11 w10 =>
          nc_z r11 <| some (some (.inl r11), w10)
  else
    nc_bI (nc_Call m_X10_fail [.inr (.inr (10, ab)), .inl 1] w1) fun r13 w12 =>
    nc_z r13 <| some (some (.inl r13), w12) :=
  (nc_Call_eq _ _ _).trans ((if_pos (Nat.le_of_ble_eq_true rfl)).trans ((nc_Run_un [] 25).trans rfl))
set_option maxRecDepth 100000 in
theorem qc_X2_hasHedge (aa : Nat) (xb : Int32) (xc : Int32) (w : nc_H) : nc_Call m_X2_hasHedge [.inr (.inr (2, aa)), .inl xb, .inl xc] w =
  nc_bI (nc_Call m_X2_hedgesOf [.inr (.inr (2, aa)), .inl xb] w) fun r2 w1 =>
  nc_bI (nc_Call m_X2_hedgesOf [.inr (.inr (2, aa)), .inl xc] w1) fun r4 w3 =>
  if (r2 &&& r4) = 0 then
    some (some (.inl 0), w3)
  else
    some (some (.inl 1), w3) :=
  (nc_Call_eq _ _ _).trans ((if_pos (Nat.le_of_ble_eq_true rfl)).trans ((nc_Run_un [] 11).trans rfl))
set_option maxRecDepth 100000 in
theorem qc_X2_fewestBetween (aa : Nat) (xb : Int32) (xc : Int32) (w : nc_H) : nc_Call m_X2_fewestBetween [.inr (.inr (2, aa)), .inl xb, .inl xc] w =
  nc_li ((1 <<< ((w.1 2 aa 4) &&& 31)) - 1) fun x1 =>
  nc_Run m_X2_fewestBetween 12 [some (.inr (.inr (2, aa))), some (.inl xb), some (.inl xc), some (.inl x1), some (.inl 0)] [] w :=
  (nc_Call_eq _ _ _).trans ((if_pos (Nat.le_of_ble_eq_true rfl)).trans ((nc_Run_un [12] 10).trans rfl))
set_option maxRecDepth 100000 in
theorem qr_X2_fewestBetween_12 (aa : Nat) (xb : Int32) (xc : Int32) (xd : Int32) (xe : Int32) (w : nc_H) : nc_Run m_X2_fewestBetween 12 [some (.inr (.inr (2, aa))), some (.inl xb), some (.inl xc), some (.inl xd), some (.inl xe)] [] w =
  if (1 <<< ((w.1 2 aa 4) &&& 31)) ≤ xe then
    some (some (.inl xd), w)
  else
    nc_bI (nc_Call m_J6_bitCount_0f7a4 [.inl xe] w) fun r2 w1 =>
    nc_bI (nc_Call m_J6_bitCount_0f7a4 [.inl xd] w1) fun r4 w3 =>
    if r4 ≤ r2 then
      nc_li (xe + 1) fun x5 =>
      nc_Run m_X2_fewestBetween 12 [some (.inr (.inr (2, aa))), some (.inl xb), some (.inl xc), some (.inl xd), some (.inl x5)] [] w3
    else
      nc_bI (nc_Call m_X2_comesTo [.inr (.inr (2, aa)), .inl xb, .inl xc, .inl xe] w3) fun r7 w6 =>
      if r7 ≠ 0 then
        nc_li (xe + 1) fun x8 =>
        nc_Run m_X2_fewestBetween 12 [some (.inr (.inr (2, aa))), some (.inl xb), some (.inl xc), some (.inl xd), some (.inl x8)] [] w6
      else
        nc_li (xe + 1) fun x9 =>
        nc_Run m_X2_fewestBetween 12 [some (.inr (.inr (2, aa))), some (.inl xb), some (.inl xc), some (.inl xe), some (.inl x9)] [] w6 :=
  (nc_Run_un [12] 22).trans rfl
set_option maxRecDepth 100000 in
theorem qc_X3_readFarm (aa : Nat) (w : nc_H) : nc_Call m_X3_readFarm [.inr (.inr (3, aa))] w =
  nc_li (w.1 2 1 1) fun x1 =>
  if x1 < 4 then
    nc_bI (nc_Call m_X2_nextNewName [.inr (.inr (2, 1)), .inr (.inr (10, 0)), .inl (0 + x1)] w) fun r3 w2 =>
    if r3 ≠ 0 then
      nc_lt (nc_si w2 2 1 1 ((w2.1 2 1 1) + 1)) fun w4 =>
      nc_bI (nc_Call m_X10_closesLine [.inr (.inr (10, 0))] w4) fun r6 w5 =>
      nc_z r6 <| some (some (.inl r6), w5)
    else
      some (some (.inl 0), w2)
  else
    nc_bI (nc_Call m_X10_fail [.inr (.inr (10, 0)), .inl 4] w) fun r8 w7 =>
    nc_z r8 <| some (some (.inl r8), w7) :=
  (nc_Call_eq _ _ _).trans ((if_pos (Nat.le_of_ble_eq_true rfl)).trans ((nc_Run_un [] 27).trans rfl))
set_option maxRecDepth 100000 in
theorem qc_X3_readCow (aa : Nat) (w : nc_H) : nc_Call m_X3_readCow [.inr (.inr (3, aa))] w =
  nc_li (w.1 2 1 2) fun x1 =>
  if x1 < 8 then
    nc_bI (nc_Call m_X2_nextNewName [.inr (.inr (2, 1)), .inr (.inr (10, 0)), .inl (4 + x1)] w) fun r3 w2 =>
    if r3 ≠ 0 then
      nc_bV (nc_Call m_X10_next [.inr (.inr (10, 0))] w2) fun w4 =>
      nc_bI (nc_Call m_X2_named [.inr (.inr (2, 1)), .inr (.inr (10, 0)), .inl 0, .inl 4] w4) fun r6 w5 =>
      if r6 < 0 then
        some (some (.inl 0), w5)
      else
        if (4 : Int32) ≤ r6 then
          some (some (.inl 0), w5)
        else
          nc_bI (nc_Call m_X10_nextNumber [.inr (.inr (10, 0)), .inl 1, .inl 40] w5) fun r8 w7 =>
          if r8 ≠ 0 then
            nc_bd x1 8 fun j9 =>
            nc_lt (nc_si w7 238 1 j9 r6) fun w10 =>
            nc_bd r6 4 fun j11 =>
            nc_bd r6 4 fun j12 =>
            nc_lt (nc_si w10 237 1 j12 ((w10.1 237 1 j11) ||| (1 <<< (x1 &&& 31)))) fun w13 =>
            nc_bd x1 8 fun j14 =>
            nc_lt (nc_si w13 239 1 j14 (w13.1 10 0 12)) fun w15 =>
            nc_bI (nc_Call m_X10_nextNumber [.inr (.inr (10, 0)), .inl 1, .inl 9] w15) fun r17 w16 =>
            if r17 ≠ 0 then
              nc_bd x1 8 fun j18 =>
              nc_lt (nc_si w16 240 1 j18 (w16.1 10 0 12)) fun w19 =>
              nc_bI (nc_Call m_X10_nextNumber [.inr (.inr (10, 0)), .inl 1, .inl 30] w19) fun r21 w20 =>
              if r21 ≠ 0 then
                nc_bd x1 8 fun j22 =>
                nc_lt (nc_si w20 241 1 j22 (w20.1 10 0 12)) fun w23 =>
                nc_lt (nc_si w23 2 1 2 ((w23.1 2 1 2) + 1)) fun w24 =>
                nc_bI (nc_Call m_X10_closesLine [.inr (.inr (10, 0))] w24) fun r26 w25 =>
                nc_z r26 <| some (some (.inl r26), w25)
              else
                some (some (.inl 0), w20)
            else
              some (some (.inl 0), w16)
          else
            some (some (.inl 0), w7)
    else
      some (some (.inl 0), w2)
  else
    nc_bI (nc_Call m_X10_fail [.inr (.inr (10, 0)), .inl 4] w) fun r28 w27 =>
    nc_z r28 <| some (some (.inl r28), w27) :=
  (nc_Call_eq _ _ _).trans ((if_pos (Nat.le_of_ble_eq_true rfl)).trans ((nc_Run_un [] 102).trans rfl))
set_option maxRecDepth 100000 in
theorem qc_X3_readNews (aa : Nat) (w : nc_H) : nc_Call m_X3_readNews [.inr (.inr (3, aa))] w =
  nc_li (w.1 2 1 3) fun x1 =>
  if x1 < 10 then
    nc_bI (nc_Call m_X2_nextNewName [.inr (.inr (2, 1)), .inr (.inr (10, 0)), .inl (12 + x1)] w) fun r3 w2 =>
    if r3 ≠ 0 then
      nc_bV (nc_Call m_X10_next [.inr (.inr (10, 0))] w2) fun w4 =>
      nc_bI (nc_Call m_X10_word [.inr (.inr (10, 0))] w4) fun r6 w5 =>
      if r6 < 4 then
        nc_bI (nc_Call m_X10_fail [.inr (.inr (10, 0)), .inl 1] w5) fun r8 w7 =>
        nc_z r8 <| some (some (.inl r8), w7)
      else
        if r6 ≤ 7 then
          nc_bd x1 10 fun j9 =>
          nc_lt (nc_si w5 242 1 j9 (r6 - 4)) fun w10 =>
          nc_bd x1 10 fun j11 =>
          if (w10.1 242 1 j11) ≠ 2 then
            nc_bI (nc_Call m_X10_nextNumber [.inr (.inr (10, 0)), .inl 0, .inl 20] w10) fun r13 w12 =>
            if r13 ≠ 0 then
              nc_bd x1 10 fun j14 =>
              nc_lt (nc_si w12 243 1 j14 (w12.1 10 0 12)) fun w15 =>
              nc_lt (nc_si w15 2 1 3 ((w15.1 2 1 3) + 1)) fun w16 =>
              nc_bV (nc_Call m_X10_next [.inr (.inr (10, 0))] w16) fun w17 =>
              nc_bI (nc_Call m_X10_word [.inr (.inr (10, 0))] w17) fun r19 w18 =>
              if r19 ≠ 3 then
                nc_bI (nc_Call m_X10_mustBeSign [.inr (.inr (10, 0)), .inl 59] w18) fun r21 w20 =>
                nc_z r21 <| some (some (.inl r21), w20)
              else
                nc_lt (nc_si w18 2 1 6 ((w18.1 2 1 6) ||| (1 <<< (x1 &&& 31)))) fun w22 =>
                nc_bV (nc_Call m_X10_next [.inr (.inr (10, 0))] w22) fun w23 =>
                nc_bI (nc_Call m_X10_mustBeSign [.inr (.inr (10, 0)), .inl 59] w23) fun r25 w24 =>
                nc_z r25 <| some (some (.inl r25), w24)
            else
              some (some (.inl 0), w12)
          else
            nc_lt (nc_si w10 2 1 7 ((w10.1 2 1 7) ||| (1 <<< (x1 &&& 31)))) fun w26 =>
            nc_bI (nc_Call m_X10_nextNumber [.inr (.inr (10, 0)), .inl 0, .inl 20] w26) fun r28 w27 =>
            if r28 ≠ 0 then
              nc_bd x1 10 fun j29 =>
              nc_lt (nc_si w27 243 1 j29 (w27.1 10 0 12)) fun w30 =>
              nc_lt (nc_si w30 2 1 3 ((w30.1 2 1 3) + 1)) fun w31 =>
              nc_bV (nc_Call m_X10_next [.inr (.inr (10, 0))] w31) fun w32 =>
              nc_bI (nc_Call m_X10_word [.inr (.inr (10, 0))] w32) fun r34 w33 =>
              if r34 ≠ 3 then
                nc_bI (nc_Call m_X10_mustBeSign [.inr (.inr (10, 0)), .inl 59] w33) fun r36 w35 =>
                nc_z r36 <| some (some (.inl r36), w35)
              else
                nc_lt (nc_si w33 2 1 6 ((w33.1 2 1 6) ||| (1 <<< (x1 &&& 31)))) fun w37 =>
                nc_bV (nc_Call m_X10_next [.inr (.inr (10, 0))] w37) fun w38 =>
                nc_bI (nc_Call m_X10_mustBeSign [.inr (.inr (10, 0)), .inl 59] w38) fun r40 w39 =>
                nc_z r40 <| some (some (.inl r40), w39)
            else
              some (some (.inl 0), w27)
        else
          nc_bI (nc_Call m_X10_fail [.inr (.inr (10, 0)), .inl 1] w5) fun r42 w41 =>
          nc_z r42 <| some (some (.inl r42), w41)
    else
      some (some (.inl 0), w2)
  else
    nc_bI (nc_Call m_X10_fail [.inr (.inr (10, 0)), .inl 4] w) fun r44 w43 =>
    nc_z r44 <| some (some (.inl r44), w43) :=
  (nc_Call_eq _ _ _).trans ((if_pos (Nat.le_of_ble_eq_true rfl)).trans ((nc_Run_un [] 99).trans rfl))
set_option maxRecDepth 100000 in
theorem qc_X3_readHedge (aa : Nat) (w : nc_H) : nc_Call m_X3_readHedge [.inr (.inr (3, aa))] w =
  nc_bV (nc_Call m_X10_next [.inr (.inr (10, 0))] w) fun w1 =>
  nc_bI (nc_Call m_X2_named [.inr (.inr (2, 1)), .inr (.inr (10, 0)), .inl 0, .inl 4] w1) fun r3 w2 =>
  if (0 : Int32) ≤ r3 then
    nc_bV (nc_Call m_X10_next [.inr (.inr (10, 0))] w2) fun w4 =>
    nc_bI (nc_Call m_X2_named [.inr (.inr (2, 1)), .inr (.inr (10, 0)), .inl 0, .inl 4] w4) fun r6 w5 =>
    if (0 : Int32) ≤ r6 then
      nc_li (w5.1 2 1 4) fun x7 =>
      if r3 = r6 then
        nc_bI (nc_Call m_X10_fail [.inr (.inr (10, 0)), .inl 3] w5) fun r9 w8 =>
        nc_z r9 <| some (some (.inl r9), w8)
      else
        nc_bI (nc_Call m_X2_hasHedge [.inr (.inr (2, 1)), .inl r3, .inl r6] w5) fun r11 w10 =>
        if r11 ≠ 0 then
          nc_bI (nc_Call m_X10_fail [.inr (.inr (10, 0)), .inl 3] w10) fun r13 w12 =>
          nc_z r13 <| some (some (.inl r13), w12)
        else
          if x7 < 6 then
            nc_bI (nc_Call m_X10_nextNumber [.inr (.inr (10, 0)), .inl 1, .inl 9] w10) fun r15 w14 =>
            if r15 ≠ 0 then
              nc_bd x7 6 fun j16 =>
              nc_lt (nc_si w14 244 1 j16 r3) fun w17 =>
              nc_bd x7 6 fun j18 =>
              nc_lt (nc_si w17 245 1 j18 r6) fun w19 =>
              nc_bd x7 6 fun j20 =>
              nc_lt (nc_si w19 246 1 j20 (w19.1 10 0 12)) fun w21 =>
              nc_lt (nc_si w21 2 1 4 ((w21.1 2 1 4) + 1)) fun w22 =>
              nc_bI (nc_Call m_X10_closesLine [.inr (.inr (10, 0))] w22) fun r24 w23 =>
              nc_z r24 <| some (some (.inl r24), w23)
            else
              some (some (.inl 0), w14)
          else
            nc_bI (nc_Call m_X10_fail [.inr (.inr (10, 0)), .inl 3] w10) fun r26 w25 =>
            nc_z r26 <| some (some (.inl r26), w25)
    else
      some (some (.inl 0), w5)
  else
    some (some (.inl 0), w2) :=
  (nc_Call_eq _ _ _).trans ((if_pos (Nat.le_of_ble_eq_true rfl)).trans ((nc_Run_un [] 79).trans rfl))
set_option maxRecDepth 100000 in
theorem qc_X3_readHears (aa : Nat) (w : nc_H) : nc_Call m_X3_readHears [.inr (.inr (3, aa))] w =
  if (w.1 3 aa 2) = 0 then
    nc_bI (nc_Call m_X10_nextNumber [.inr (.inr (10, 0)), .inl 1, .inl 5] w) fun r2 w1 =>
    if r2 ≠ 0 then
      nc_lt (nc_si w1 3 aa 2 1) fun w3 =>
      nc_lt (nc_si w3 2 1 5 (w3.1 10 0 12)) fun w4 =>
      nc_bI (nc_Call m_X10_closesLine [.inr (.inr (10, 0))] w4) fun r6 w5 =>
      nc_z r6 <| some (some (.inl r6), w5)
    else
      some (some (.inl 0), w1)
  else
    nc_bI (nc_Call m_X10_fail [.inr (.inr (10, 0)), .inl 3] w) fun r8 w7 =>
    nc_z r8 <| some (some (.inl r8), w7) :=
  (nc_Call_eq _ _ _).trans ((if_pos (Nat.le_of_ble_eq_true rfl)).trans ((nc_Run_un [] 22).trans rfl))
set_option maxRecDepth 100000 in
theorem qc_X3_readLine (aa : Nat) (w : nc_H) : nc_Call m_X3_readLine [.inr (.inr (3, aa))] w =
  nc_bI (nc_Call m_X10_word [.inr (.inr (10, 0))] w) fun r2 w1 =>
  if r2 = 0 then
    nc_bI (nc_Call m_X3_readFarm [.inr (.inr (3, aa))] w1) fun r4 w3 =>
    nc_z r4 <| some (some (.inl r4), w3)
  else
  if r2 = 1 then
    nc_bI (nc_Call m_X3_readCow [.inr (.inr (3, aa))] w1) fun r6 w5 =>
    nc_z r6 <| some (some (.inl r6), w5)
  else
  if r2 = 2 then
    nc_bI (nc_Call m_X3_readNews [.inr (.inr (3, aa))] w1) fun r8 w7 =>
    nc_z r8 <| some (some (.inl r8), w7)
  else
  if r2 = 3 then
    nc_bI (nc_Call m_X10_fail [.inr (.inr (10, 0)), .inl 1] w1) fun r10 w9 =>
    nc_z r10 <| some (some (.inl r10), w9)
  else
  if r2 = 4 then
    nc_bI (nc_Call m_X10_fail [.inr (.inr (10, 0)), .inl 1] w1) fun r12 w11 =>
    nc_z r12 <| some (some (.inl r12), w11)
  else
  if r2 = 5 then
    nc_bI (nc_Call m_X10_fail [.inr (.inr (10, 0)), .inl 1] w1) fun r14 w13 =>
    nc_z r14 <| some (some (.inl r14), w13)
  else
  if r2 = 6 then
    nc_bI (nc_Call m_X10_fail [.inr (.inr (10, 0)), .inl 1] w1) fun r16 w15 =>
    nc_z r16 <| some (some (.inl r16), w15)
  else
  if r2 = 7 then
    nc_bI (nc_Call m_X10_fail [.inr (.inr (10, 0)), .inl 1] w1) fun r18 w17 =>
    nc_z r18 <| some (some (.inl r18), w17)
  else
  if r2 = 8 then
    nc_bI (nc_Call m_X3_readHedge [.inr (.inr (3, aa))] w1) fun r20 w19 =>
    nc_z r20 <| some (some (.inl r20), w19)
  else
  if r2 = 9 then
    nc_bI (nc_Call m_X3_readHears [.inr (.inr (3, aa))] w1) fun r22 w21 =>
    nc_z r22 <| some (some (.inl r22), w21)
  else
    nc_bI (nc_Call m_X10_fail [.inr (.inr (10, 0)), .inl 1] w1) fun r24 w23 =>
    nc_z r24 <| some (some (.inl r24), w23) :=
  (nc_Call_eq _ _ _).trans ((if_pos (Nat.le_of_ble_eq_true rfl)).trans ((nc_Run_un [] 9).trans rfl))
set_option maxRecDepth 100000 in
theorem qc_X3_read (aa : Nat) (w : nc_H) : nc_Call m_X3_read [.inr (.inr (3, aa))] w =
  nc_bV (nc_Call m_X2_clear [.inr (.inr (2, 1))] w) fun w1 =>
  nc_lt (nc_si w1 3 aa 2 0) fun w2 =>
  nc_bV (nc_Call m_X10_start [.inr (.inr (10, 0)), .inl 900] w2) fun w3 =>
  nc_Run m_X3_read 24 [some (.inr (.inr (3, aa))), some (.inl 0)] [] w3 :=
  (nc_Call_eq _ _ _).trans ((if_pos (Nat.le_of_ble_eq_true rfl)).trans ((nc_Run_un [24] 13).trans rfl))
set_option maxRecDepth 100000 in
theorem qr_X3_read_24 (aa : Nat) (xb : Int32) (w : nc_H) : nc_Run m_X3_read 24 [some (.inr (.inr (3, aa))), some (.inl xb)] [] w =
  if (900 : Int32) < xb then
    nc_bI (nc_Call m_X10_mustEnd [.inr (.inr (10, 0))] w) fun r2 w1 =>
    nc_z r2 <| some (some (.inl r2), w1)
  else
    nc_bI (nc_Call m_X10_nextLine [.inr (.inr (10, 0))] w) fun r4 w3 =>
    if r4 = 0 then
      nc_bI (nc_Call m_X10_mustEnd [.inr (.inr (10, 0))] w3) fun r6 w5 =>
      nc_z r6 <| some (some (.inl r6), w5)
    else
      nc_bI (nc_Call m_X3_readLine [.inr (.inr (3, aa))] w3) fun r8 w7 =>
      if r8 ≠ 0 then
        nc_lt (nc_si w7 2 1 0 ((w7.1 2 1 0) + 1)) fun w9 =>
        nc_li (xb + 1) fun x10 =>
        nc_Run m_X3_read 24 [some (.inr (.inr (3, aa))), some (.inl x10)] [] w9
      else
        some (some (.inl 0), w7) :=
  (nc_Run_un [24] 20).trans rfl
set_option maxRecDepth 100000 in
theorem qc_X4_tellAndFind (aa : Nat) (ab : Nat) (w : nc_H) : nc_Call m_X4_tellAndFind [.inr (.inr (4, aa)), .inr (.inr (7, ab))] w =
  nc_li (w.1 2 (nc_ld ab) 3) fun x1 =>
  if x1 ≠ 0 then
    nc_Run m_X4_tellAndFind 15 [some (.inr (.inr (4, aa))), some (.inr (.inr (7, ab))), some (.inl x1), some (.inl 0), none] [] w
  else
    some (none, w) :=
  (nc_Call_eq _ _ _).trans ((if_pos (Nat.le_of_ble_eq_true rfl)).trans ((nc_Run_un [15] 9).trans rfl))
set_option maxRecDepth 100000 in
theorem qr_X4_tellAndFind_15 (aa : Nat) (ab : Nat) (xc : Int32) (xd : Int32) (w : nc_H) : nc_Run m_X4_tellAndFind 15 [some (.inr (.inr (4, aa))), some (.inr (.inr (7, ab))), some (.inl xc), some (.inl xd), none] [] w =
  if (w.1 2 (nc_ld ab) 2) ≤ xd then
    nc_bI (nc_Call m_X4_draw [.inr (.inr (4, aa)), .inl 12] w) fun r2 w1 =>
    if r2 ≠ 0 then
      some (none, w1)
    else
      nc_bI (nc_Call m_X4_draw [.inr (.inr (4, aa)), .inl xc] w1) fun r4 w3 =>
      nc_bI (nc_Call m_X7_whyNotFound [.inr (.inr (7, ab)), .inl r4] w3) fun r6 w5 =>
      if r6 ≠ 0 then
        some (none, w5)
      else
        nc_bV (nc_Call m_X7_findOut [.inr (.inr (7, ab)), .inl r4] w5) fun w7 =>
        some (none, w7)
  else
    nc_bI (nc_Call m_X4_draw [.inr (.inr (4, aa)), .inl 3] w) fun r9 w8 =>
    if r9 ≠ 0 then
      nc_li (xd + 1) fun x10 =>
      nc_Run m_X4_tellAndFind 15 [some (.inr (.inr (4, aa))), some (.inr (.inr (7, ab))), some (.inl xc), some (.inl x10), none] [] w8
    else
      nc_bI (nc_Call m_X4_draw [.inr (.inr (4, aa)), .inl xc] w8) fun r12 w11 =>
      nc_bI (nc_Call m_X7_whyNotTold [.inr (.inr (7, ab)), .inl xd, .inl r12] w11) fun r14 w13 =>
      if r14 ≠ 0 then
        nc_li (xd + 1) fun x15 =>
        nc_Run m_X4_tellAndFind 15 [some (.inr (.inr (4, aa))), some (.inr (.inr (7, ab))), some (.inl xc), some (.inl x15), none] [] w13
      else
        nc_bV (nc_Call m_X7_hear [.inr (.inr (7, ab)), .inl xd, .inl r12] w13) fun w16 =>
        nc_li (xd + 1) fun x17 =>
        nc_Run m_X4_tellAndFind 15 [some (.inr (.inr (4, aa))), some (.inr (.inr (7, ab))), some (.inl xc), some (.inl x17), none] [] w16 :=
  (nc_Run_un [15] 25).trans rfl
set_option maxRecDepth 100000 in
theorem qc_X5_keep (aa : Nat) (ab : Nat) (w : nc_H) : nc_Call m_X5_keep [.inr (.inr (5, aa)), .inr (.inr (7, ab))] w =
  nc_lt (nc_si w 5 aa 1 (((w.1 5 aa 1) + 1) - ((w.1 5 aa 1) + 1) / 8 * 8)) fun w1 =>
  nc_bd (w1.1 5 aa 1) 8 fun j2 =>
  nc_bV (nc_Call m_X7_copyFrom [.inr (.inr (7, 2 + j2)), .inr (.inr (7, ab))] w1) fun w3 =>
  nc_lt (nc_si w3 5 aa 2 (if (8 : Int32) < ((w3.1 5 aa 2) + 1) then (8 : Int32) else ((w3.1 5 aa 2) + 1))) fun w4 =>
  some (none, w4) :=
  (nc_Call_eq _ _ _).trans ((if_pos (Nat.le_of_ble_eq_true rfl)).trans ((nc_Run_un [] 28).trans rfl))
set_option maxRecDepth 100000 in
theorem qc_X5_takeBack (aa : Nat) (ab : Nat) (w : nc_H) : nc_Call m_X5_takeBack [.inr (.inr (5, aa)), .inr (.inr (7, ab))] w =
  nc_bd (w.1 5 aa 1) 8 fun j1 =>
  if (w.1 5 aa 2) = 0 then
    some (some (.inl (-1)), w)
  else
    nc_bV (nc_Call m_X7_copyFrom [.inr (.inr (7, ab)), .inr (.inr (7, 2 + j1))] w) fun w2 =>
    nc_lt (nc_si w2 5 aa 1 ((((w2.1 5 aa 1) + 8) - 1) - (((w2.1 5 aa 1) + 8) - 1) / 8 * 8)) fun w3 =>
    nc_lt (nc_si w3 5 aa 2 ((w3.1 5 aa 2) - 1)) fun w4 =>
    some (some (.inl (w4.1 5 aa 2)), w4) :=
  (nc_Call_eq _ _ _).trans ((if_pos (Nat.le_of_ble_eq_true rfl)).trans ((nc_Run_un [] 33).trans rfl))
set_option maxRecDepth 100000 in
theorem qc_X7_clear (aa : Nat) (w : nc_H) : nc_Call m_X7_clear [.inr (.inr (7, aa))] w =
  nc_lt (nc_si w 7 aa 1 0) fun w1 =>
  nc_lt (nc_si w1 7 aa 2 0) fun w2 =>
  nc_lt (nc_si w2 7 aa 3 0) fun w3 =>
  nc_lt (nc_si w3 7 aa 4 0) fun w4 =>
  nc_bV (nc_Call m_J7_fill_53178 [.inr (.inr (554, aa)), .inl 0] w4) fun w5 =>
  nc_bV (nc_Call m_J7_fill_53178 [.inr (.inr (555, aa)), .inl 0] w5) fun w6 =>
  nc_bV (nc_Call m_J7_fill_53178 [.inr (.inr (556, aa)), .inl 0] w6) fun w7 =>
  nc_bV (nc_Call m_J7_fill_53178 [.inr (.inr (557, aa)), .inl 0] w7) fun w8 =>
  nc_bV (nc_Call m_J7_fill_53178 [.inr (.inr (558, aa)), .inl (-100)] w8) fun w9 =>
  nc_bV (nc_Call m_J7_fill_53178 [.inr (.inr (559, aa)), .inl 0] w9) fun w10 =>
  nc_bV (nc_Call m_J7_fill_53178 [.inr (.inr (560, aa)), .inl 0] w10) fun w11 =>
  nc_bV (nc_Call m_J7_fill_53178 [.inr (.inr (561, aa)), .inl 0] w11) fun w12 =>
  some (none, w12) :=
  (nc_Call_eq _ _ _).trans ((if_pos (Nat.le_of_ble_eq_true rfl)).trans ((nc_Run_un [] 45).trans rfl))
set_option maxRecDepth 100000 in
theorem qc_X8_seek (aa : Nat) (ab : Nat) (xc : Int32) (xd : Int32) (w : nc_H) : nc_Call m_X8_seek [.inr (.inr (8, aa)), .inr (.inr (7, ab)), .inl xc, .inl xd] w =
  nc_lt (nc_si w 8 aa 5 xd) fun w1 =>
  nc_lt (nc_si w1 8 aa 6 (-1)) fun w2 =>
  nc_bV (nc_Call m_X8_go_0 [.inr (.inr (8, aa)), .inr (.inr (7, ab)), .inl xc, .inl 0, .inl 0] w2) fun w3 =>
  some (some (.inl (w3.1 8 aa 6)), w3) :=
  (nc_Call_eq _ _ _).trans ((if_pos (Nat.le_of_ble_eq_true rfl)).trans ((nc_Run_un [] 15).trans rfl))
set_option maxRecDepth 100000 in
theorem qc_X9_copyFrom (aa : Nat) (ab : Nat) (w : nc_H) : nc_Call m_X9_copyFrom [.inr (.inr (9, aa)), .inr (.inr (9, ab))] w =
  nc_lt (nc_si w 9 aa 3 (w.1 9 ab 3)) fun w1 =>
  nc_lt (nc_si w1 9 aa 4 (w1.1 9 ab 4)) fun w2 =>
  nc_lt (nc_cpi w2 676 ab 0 676 aa 0 40) fun w3 =>
  nc_lt (nc_cpi w3 677 ab 0 677 aa 0 40) fun w4 =>
  nc_lt (nc_cpi w4 678 ab 0 678 aa 0 40) fun w5 =>
  some (none, w5) :=
  (nc_Call_eq _ _ _).trans ((if_pos (Nat.le_of_ble_eq_true rfl)).trans ((nc_Run_un [] 33).trans rfl))
set_option maxRecDepth 100000 in
theorem qc_X9_read (aa : Nat) (ab : Nat) (ac : Nat) (w : nc_H) : nc_Call m_X9_read [.inr (.inr (9, aa)), .inr (.inr (10, ab)), .inr (.inr (2, ac))] w =
  nc_bV (nc_Call m_X9_clear [.inr (.inr (9, aa))] w) fun w1 =>
  nc_bV (nc_Call m_X10_start [.inr (.inr (10, ab)), .inl 200] w1) fun w2 =>
  nc_bV (nc_Call m_X10_next [.inr (.inr (10, ab))] w2) fun w3 =>
  nc_bI (nc_Call m_X9_readCond_1 [.inr (.inr (9, aa)), .inr (.inr (10, ab)), .inr (.inr (2, ac)), .inl 1] w3) fun r5 w4 =>
  if r5 = 0 then
    some (some (.inl 0), w4)
  else
    nc_bI (nc_Call m_X10_mustEnd [.inr (.inr (10, ab))] w4) fun r7 w6 =>
    if r7 = 0 then
      some (some (.inl 0), w6)
    else
      some (some (.inl 1), w6) :=
  (nc_Call_eq _ _ _).trans ((if_pos (Nat.le_of_ble_eq_true rfl)).trans ((nc_Run_un [] 19).trans rfl))
set_option maxRecDepth 100000 in
theorem qc_X9_isSo (aa : Nat) (ab : Nat) (xc : Int32) (xd : Int32) (w : nc_H) : nc_Call m_X9_isSo [.inr (.inr (9, aa)), .inr (.inr (7, ab)), .inl xc, .inl xd] w =
  nc_bd xd 40 fun j1 =>
  if (w.1 676 aa j1) = 15 then
    nc_bI (nc_Call m_X7_isDry [.inr (.inr (7, ab)), .inl xc] w) fun r3 w2 =>
    nc_z r3 <| some (some (.inl r3), w2)
  else
  if (w.1 676 aa j1) = 16 then
    nc_bI (nc_Call m_X7_isCurdled [.inr (.inr (7, ab)), .inl xc] w) fun r5 w4 =>
    nc_z r5 <| some (some (.inl r5), w4)
  else
  if (w.1 676 aa j1) = 17 then
    nc_bd xc 8 fun j6 =>
    nc_bd xd 40 fun j7 =>
    if (w.1 238 (nc_ld ab) j6) ≠ (w.1 678 aa j7) then
      some (some (.inl 0), w)
    else
      some (some (.inl 1), w)
  else
  if (w.1 676 aa j1) = 18 then
    nc_bd xc 8 fun j8 =>
    nc_bd xd 40 fun j9 =>
    if (((w.1 554 ab j8) >>> ((w.1 678 aa j9) &&& 31)) &&& 1) ≠ 1 then
      some (some (.inl 0), w)
    else
      some (some (.inl 1), w)
  else
  if (w.1 676 aa j1) = 19 then
    nc_bd xc 8 fun j10 =>
    nc_bd xd 40 fun j11 =>
    if (((w.1 555 ab j10) >>> ((w.1 678 aa j11) &&& 31)) &&& 1) ≠ 1 then
      some (some (.inl 0), w)
    else
      some (some (.inl 1), w)
  else
  if (w.1 676 aa j1) = 20 then
    nc_bI (nc_Call m_X7_milk [.inr (.inr (7, ab)), .inl xc] w) fun r13 w12 =>
    nc_bI (nc_Call m_X9_compares [.inr (.inr (9, aa)), .inl r13, .inl xd] w12) fun r15 w14 =>
    nc_z r15 <| some (some (.inl r15), w14)
  else
  if (w.1 676 aa j1) = 21 then
    nc_bd xc 8 fun j16 =>
    nc_bI (nc_Call m_X9_compares [.inr (.inr (9, aa)), .inl (w.1 560 ab j16), .inl xd] w) fun r18 w17 =>
    nc_z r18 <| some (some (.inl r18), w17)
  else
  if (w.1 676 aa j1) = 22 then
    nc_bd xc 8 fun j19 =>
    nc_bI (nc_Call m_X9_compares [.inr (.inr (9, aa)), .inl (w.1 559 ab j19), .inl xd] w) fun r21 w20 =>
    nc_z r21 <| some (some (.inl r21), w20)
  else
    nc_bI (nc_Call m_X9_compares [.inr (.inr (9, aa)), .inl xc, .inl xd] w) fun r23 w22 =>
    nc_z r23 <| some (some (.inl r23), w22) :=
  (nc_Call_eq _ _ _).trans ((if_pos (Nat.le_of_ble_eq_true rfl)).trans ((nc_Run_un [] 21).trans rfl))
set_option maxRecDepth 100000 in
theorem qc_X9_holds (aa : Nat) (ab : Nat) (xc : Int32) (w : nc_H) : nc_Call m_X9_holds [.inr (.inr (9, aa)), .inr (.inr (7, ab)), .inl xc] w =
  nc_Run m_X9_holds 5 [some (.inr (.inr (9, aa))), some (.inr (.inr (7, ab))), some (.inl xc), some (.inl 0), some (.inl 0), none] [] w :=
  (nc_Call_eq _ _ _).trans ((if_pos (Nat.le_of_ble_eq_true rfl)).trans ((nc_Run_un [5] 5).trans rfl))
set_option maxRecDepth 100000 in
theorem qr_X9_holds_5 (aa : Nat) (ab : Nat) (xc : Int32) (xd : Int32) (xe : Int32) (w : nc_H) : nc_Run m_X9_holds 5 [some (.inr (.inr (9, aa))), some (.inr (.inr (7, ab))), some (.inl xc), some (.inl xd), some (.inl xe), none] [] w =
  if (w.1 9 aa 3) ≤ xe then
    if (xd &&& 1) ≠ 1 then
      some (some (.inl 0), w)
    else
      some (some (.inl 1), w)
  else
    nc_li (xd &&& 1) fun x1 =>
    nc_bd xe 40 fun j2 =>
    if (w.1 676 aa j2) ≠ 12 then
      nc_bd xe 40 fun j3 =>
      if (w.1 676 aa j3) ≠ 13 then
        nc_bd xe 40 fun j4 =>
        if (w.1 676 aa j4) ≠ 14 then
          nc_bI (nc_Call m_X9_isSo [.inr (.inr (9, aa)), .inr (.inr (7, ab)), .inl xc, .inl xe] w) fun r6 w5 =>
          if r6 = 0 then
            nc_li ((xd <<< (1 &&& 31)) ||| 0) fun x7 =>
            nc_li (xe + 1) fun x8 =>
            nc_Run m_X9_holds 5 [some (.inr (.inr (9, aa))), some (.inr (.inr (7, ab))), some (.inl xc), some (.inl x7), some (.inl x8), none] [] w5
          else
            nc_li ((xd <<< (1 &&& 31)) ||| 1) fun x9 =>
            nc_li (xe + 1) fun x10 =>
            nc_Run m_X9_holds 5 [some (.inr (.inr (9, aa))), some (.inr (.inr (7, ab))), some (.inl xc), some (.inl x9), some (.inl x10), none] [] w5
        else
          nc_li (xd ^^^ 1) fun x11 =>
          nc_li (xe + 1) fun x12 =>
          nc_Run m_X9_holds 5 [some (.inr (.inr (9, aa))), some (.inr (.inr (7, ab))), some (.inl xc), some (.inl x11), some (.inl x12), none] [] w
      else
        nc_li ((xd >>> (1 &&& 31)) &&& (x1 ||| (-2))) fun x13 =>
        nc_li (xe + 1) fun x14 =>
        nc_Run m_X9_holds 5 [some (.inr (.inr (9, aa))), some (.inr (.inr (7, ab))), some (.inl xc), some (.inl x13), some (.inl x14), none] [] w
    else
      nc_li ((xd >>> (1 &&& 31)) ||| x1) fun x15 =>
      nc_li (xe + 1) fun x16 =>
      nc_Run m_X9_holds 5 [some (.inr (.inr (9, aa))), some (.inr (.inr (7, ab))), some (.inl xc), some (.inl x15), some (.inl x16), none] [] w :=
  (nc_Run_un [5] 42).trans rfl
set_option maxRecDepth 100000 in
theorem qc_X11_feed (aa : Nat) (xb : Int32) (xc : Int32) (xd : Int32) (xe : Int32) (xf : Int32) (w : nc_H) : nc_Call m_X11_feed [.inr (.inr (11, aa)), .inl xb, .inl xc, .inl xd, .inl xe, .inl xf] w =
  if ((w.1 10 0 1) + 20) ≤ 940 then
    nc_bV (nc_Call m_X10_append [.inr (.inr (10, 0)), .inl xb] w) fun w1 =>
    nc_bV (nc_Call m_X10_append [.inr (.inr (10, 0)), .inl xc] w1) fun w2 =>
    nc_bV (nc_Call m_X10_append [.inr (.inr (10, 0)), .inl xd] w2) fun w3 =>
    nc_bV (nc_Call m_X10_append [.inr (.inr (10, 0)), .inl xe] w3) fun w4 =>
    nc_bV (nc_Call m_X10_append [.inr (.inr (10, 0)), .inl xf] w4) fun w5 =>
    some (some (.inl (w5.1 10 0 1)), w5)
  else
    some (some (.inl (-1)), w) :=
  (nc_Call_eq _ _ _).trans ((if_pos (Nat.le_of_ble_eq_true rfl)).trans ((nc_Run_un [] 31).trans rfl))
set_option maxRecDepth 100000 in
theorem qc_X11_dairy (aa : Nat) (w : nc_H) : nc_Call m_X11_dairy [.inr (.inr (11, aa))] w =
  nc_bI (nc_Call m_X3_read [.inr (.inr (3, 0))] w) fun r2 w1 =>
  nc_lt (nc_si w1 10 0 1 0) fun w3 =>
  if r2 ≠ 0 then
    nc_bV (nc_Call m_X2_copyFrom [.inr (.inr (2, 0)), .inr (.inr (2, 1))] w3) fun w4 =>
    nc_bV (nc_Call m_X7_clear [.inr (.inr (7, 0))] w4) fun w5 =>
    nc_bV (nc_Call m_X9_clear [.inr (.inr (9, 0))] w5) fun w6 =>
    nc_bV (nc_Call m_X5_clear [.inr (.inr (5, 0))] w6) fun w7 =>
    some (some (.inl (w7.1 2 0 0)), w7)
  else
    some (some (.inl ((-1) - (w3.1 10 0 15))), w3) :=
  (nc_Call_eq _ _ _).trans ((if_pos (Nat.le_of_ble_eq_true rfl)).trans ((nc_Run_un [] 28).trans rfl))
set_option maxRecDepth 100000 in
theorem qc_X11_cow (aa : Nat) (xb : Int32) (xc : Int32) (w : nc_H) : nc_Call m_X11_cow [.inr (.inr (11, aa)), .inl xb, .inl xc] w =
  nc_bI (nc_Call m_X11_isCow [.inr (.inr (11, aa)), .inl xb] w) fun r2 w1 =>
  if r2 = 0 then
    none
  else
    if xc < 0 then
      none
    else
      if xc ≤ 7 then
        if xc = 0 then
          nc_bd xb 8 fun j3 =>
          some (some (.inl (w1.1 238 0 j3)), w1)
        else
        if xc = 1 then
          nc_bI (nc_Call m_X7_isDry [.inr (.inr (7, 0)), .inl xb] w1) fun r5 w4 =>
          if r5 = 0 then
            some (some (.inl 0), w4)
          else
            some (some (.inl 1), w4)
        else
        if xc = 2 then
          nc_bI (nc_Call m_X7_isCurdled [.inr (.inr (7, 0)), .inl xb] w1) fun r7 w6 =>
          if r7 = 0 then
            some (some (.inl 0), w6)
          else
            some (some (.inl 1), w6)
        else
        if xc = 3 then
          nc_bd xb 8 fun j8 =>
          some (some (.inl (w1.1 559 0 j8)), w1)
        else
        if xc = 4 then
          nc_bd xb 8 fun j9 =>
          some (some (.inl (w1.1 555 0 j9)), w1)
        else
        if xc = 5 then
          nc_bd xb 8 fun j10 =>
          some (some (.inl (w1.1 554 0 j10)), w1)
        else
        if xc = 6 then
          nc_bI (nc_Call m_X7_milk [.inr (.inr (7, 0)), .inl xb] w1) fun r12 w11 =>
          some (some (.inl r12), w11)
        else
          nc_bd xb 8 fun j13 =>
          some (some (.inl (w1.1 560 0 j13)), w1)
      else
        none :=
  (nc_Call_eq _ _ _).trans ((if_pos (Nat.le_of_ble_eq_true rfl)).trans ((nc_Run_un [] 19).trans rfl))
set_option maxRecDepth 100000 in
theorem qc_X11_news (aa : Nat) (xb : Int32) (xc : Int32) (w : nc_H) : nc_Call m_X11_news [.inr (.inr (11, aa)), .inl xb, .inl xc] w =
  nc_bI (nc_Call m_X11_isNews [.inr (.inr (11, aa)), .inl xb] w) fun r2 w1 =>
  if r2 ≠ 0 then
    if xc = 0 then
      nc_bd xb 10 fun j3 =>
      some (some (.inl (w1.1 242 0 j3)), w1)
    else
    if xc = 1 then
      nc_bd xb 10 fun j4 =>
      some (some (.inl (w1.1 243 0 j4)), w1)
    else
    if xc = 2 then
      nc_bI (nc_Call m_X2_isLie [.inr (.inr (2, 0)), .inl xb] w1) fun r6 w5 =>
      if r6 = 0 then
        some (some (.inl 0), w5)
      else
        some (some (.inl 1), w5)
    else
    if xc = 3 then
      some (some (.inl (((w1.1 7 0 4) >>> (xb &&& 31)) &&& 1)), w1)
    else
    if xc = 4 then
      nc_bI (nc_Call m_X11_cowsWith [.inr (.inr (11, aa)), .inr (.inr (555, 0)), .inl xb] w1) fun r8 w7 =>
      some (some (.inl r8), w7)
    else
    if xc = 5 then
      nc_bI (nc_Call m_X11_cowsWith [.inr (.inr (11, aa)), .inr (.inr (554, 0)), .inl xb] w1) fun r10 w9 =>
      some (some (.inl r10), w9)
    else
      some (some (.inl (-1)), w1)
  else
    some (some (.inl (-1)), w1) :=
  (nc_Call_eq _ _ _).trans ((if_pos (Nat.le_of_ble_eq_true rfl)).trans ((nc_Run_un [] 14).trans rfl))
set_option maxRecDepth 100000 in
theorem qc_X11_milkOfFarm (aa : Nat) (xb : Int32) (w : nc_H) : nc_Call m_X11_milkOfFarm [.inr (.inr (11, aa)), .inl xb] w =
  nc_Run m_X11_milkOfFarm 4 [some (.inr (.inr (11, aa))), some (.inl xb), some (.inl 0), some (.inl 0)] [] w :=
  (nc_Call_eq _ _ _).trans ((if_pos (Nat.le_of_ble_eq_true rfl)).trans ((nc_Run_un [4] 5).trans rfl))
set_option maxRecDepth 100000 in
theorem qr_X11_milkOfFarm_4 (aa : Nat) (xb : Int32) (xc : Int32) (xd : Int32) (w : nc_H) : nc_Run m_X11_milkOfFarm 4 [some (.inr (.inr (11, aa))), some (.inl xb), some (.inl xc), some (.inl xd)] [] w =
  if (w.1 2 0 2) ≤ xd then
    some (some (.inl xc), w)
  else
    nc_bd xd 8 fun j1 =>
    if (w.1 238 0 j1) ≠ xb then
      nc_li (xd + 1) fun x2 =>
      nc_Run m_X11_milkOfFarm 4 [some (.inr (.inr (11, aa))), some (.inl xb), some (.inl xc), some (.inl x2)] [] w
    else
      nc_bI (nc_Call m_X7_milk [.inr (.inr (7, 0)), .inl xd] w) fun r4 w3 =>
      nc_li (xc + r4) fun x5 =>
      nc_li (xd + 1) fun x6 =>
      nc_Run m_X11_milkOfFarm 4 [some (.inr (.inr (11, aa))), some (.inl xb), some (.inl x5), some (.inl x6)] [] w3 :=
  (nc_Run_un [4] 22).trans rfl
set_option maxRecDepth 100000 in
theorem qc_X11_farm (aa : Nat) (xb : Int32) (xc : Int32) (w : nc_H) : nc_Call m_X11_farm [.inr (.inr (11, aa)), .inl xb, .inl xc] w =
  nc_bI (nc_Call m_X11_isFarm [.inr (.inr (11, aa)), .inl xb] w) fun r2 w1 =>
  if r2 = 0 then
    none
  else
    if xc < 0 then
      none
    else
      if xc ≤ 3 then
        if xc = 0 then
          nc_bd xb 4 fun j3 =>
          some (some (.inl (w1.1 237 0 j3)), w1)
        else
        if xc = 1 then
          nc_bd xb 4 fun j4 =>
          some (some (.inl (w1.1 561 0 j4)), w1)
        else
        if xc = 2 then
          nc_bI (nc_Call m_X11_milkOfFarm [.inr (.inr (11, aa)), .inl xb] w1) fun r6 w5 =>
          some (some (.inl r6), w5)
        else
          nc_bI (nc_Call m_X2_hedgesOf [.inr (.inr (2, 0)), .inl xb] w1) fun r8 w7 =>
          some (some (.inl r8), w7)
      else
        none :=
  (nc_Call_eq _ _ _).trans ((if_pos (Nat.le_of_ble_eq_true rfl)).trans ((nc_Run_un [] 17).trans rfl))
set_option maxRecDepth 100000 in
theorem qc_X11_now (aa : Nat) (xb : Int32) (w : nc_H) : nc_Call m_X11_now [.inr (.inr (11, aa)), .inl xb] w =
  if xb = 0 then
    some (some (.inl (w.1 7 0 1)), w)
  else
  if xb = 1 then
    some (some (.inl (w.1 7 0 3)), w)
  else
  if xb = 2 then
    some (some (.inl (w.1 7 0 4)), w)
  else
  if xb = 3 then
    nc_bI (nc_Call m_X7_allPails [.inr (.inr (7, 0))] w) fun r2 w1 =>
    some (some (.inl r2), w1)
  else
  if xb = 4 then
    some (some (.inl (w.1 7 0 2)), w)
  else
  if xb = 5 then
    nc_bI (nc_Call m_X7_talking [.inr (.inr (7, 0))] w) fun r4 w3 =>
    some (some (.inl r4), w3)
  else
    some (some (.inl (-1)), w) :=
  (nc_Call_eq _ _ _).trans ((if_pos (Nat.le_of_ble_eq_true rfl)).trans ((nc_Run_un [] 6).trans rfl))
set_option maxRecDepth 100000 in
theorem qc_X11_why (aa : Nat) (xb : Int32) (xc : Int32) (w : nc_H) : nc_Call m_X11_why [.inr (.inr (11, aa)), .inl xb, .inl xc] w =
  nc_bI (nc_Call m_X11_isCow [.inr (.inr (11, aa)), .inl xb] w) fun r2 w1 =>
  if r2 = 0 then
    some (some (.inl (-1)), w1)
  else
    nc_bI (nc_Call m_X11_isNews [.inr (.inr (11, aa)), .inl xc] w1) fun r4 w3 =>
    if r4 = 0 then
      some (some (.inl (-1)), w3)
    else
      nc_bI (nc_Call m_X7_whyNotTold [.inr (.inr (7, 0)), .inl xb, .inl xc] w3) fun r6 w5 =>
      some (some (.inl r6), w5) :=
  (nc_Call_eq _ _ _).trans ((if_pos (Nat.le_of_ble_eq_true rfl)).trans ((nc_Run_un [] 15).trans rfl))
set_option maxRecDepth 100000 in
theorem qc_X11_tell (aa : Nat) (xb : Int32) (xc : Int32) (w : nc_H) : nc_Call m_X11_tell [.inr (.inr (11, aa)), .inl xb, .inl xc] w =
  nc_bI (nc_Call m_X11_why [.inr (.inr (11, aa)), .inl xb, .inl xc] w) fun r2 w1 =>
  if r2 ≠ 0 then
    some (some (.inl r2), w1)
  else
    nc_bV (nc_Call m_X5_keep [.inr (.inr (5, 0)), .inr (.inr (7, 0))] w1) fun w3 =>
    nc_bV (nc_Call m_X7_hear [.inr (.inr (7, 0)), .inl xb, .inl xc] w3) fun w4 =>
    some (some (.inl r2), w4) :=
  (nc_Call_eq _ _ _).trans ((if_pos (Nat.le_of_ble_eq_true rfl)).trans ((nc_Run_un [] 19).trans rfl))
set_option maxRecDepth 100000 in
theorem qc_X11_find (aa : Nat) (xb : Int32) (w : nc_H) : nc_Call m_X11_find [.inr (.inr (11, aa)), .inl xb] w =
  nc_bI (nc_Call m_X11_isNews [.inr (.inr (11, aa)), .inl xb] w) fun r2 w1 =>
  if r2 ≠ 0 then
    nc_bI (nc_Call m_X7_whyNotFound [.inr (.inr (7, 0)), .inl xb] w1) fun r4 w3 =>
    if r4 ≠ 0 then
      some (some (.inl r4), w3)
    else
      nc_bV (nc_Call m_X5_keep [.inr (.inr (5, 0)), .inr (.inr (7, 0))] w3) fun w5 =>
      nc_bV (nc_Call m_X7_findOut [.inr (.inr (7, 0)), .inl xb] w5) fun w6 =>
      some (some (.inl r4), w6)
  else
    some (some (.inl (-1)), w1) :=
  (nc_Call_eq _ _ _).trans ((if_pos (Nat.le_of_ble_eq_true rfl)).trans ((nc_Run_un [] 22).trans rfl))
set_option maxRecDepth 100000 in
theorem qc_X11_days (aa : Nat) (xb : Int32) (w : nc_H) : nc_Call m_X11_days [.inr (.inr (11, aa)), .inl xb] w =
  if xb < 1 then
    some (some (.inl (-1)), w)
  else
    if xb ≤ 60 then
      if (400 : Int32) ≤ (w.1 7 0 1) then
        nc_bI (nc_Call m_X7_goDays [.inr (.inr (7, 0)), .inl xb] w) fun r2 w1 =>
        some (some (.inl r2), w1)
      else
        nc_bV (nc_Call m_X5_keep [.inr (.inr (5, 0)), .inr (.inr (7, 0))] w) fun w3 =>
        nc_bI (nc_Call m_X7_goDays [.inr (.inr (7, 0)), .inl xb] w3) fun r5 w4 =>
        some (some (.inl r5), w4)
    else
      some (some (.inl (-1)), w) :=
  (nc_Call_eq _ _ _).trans ((if_pos (Nat.le_of_ble_eq_true rfl)).trans ((nc_Run_un [] 21).trans rfl))
set_option maxRecDepth 100000 in
theorem qc_X11_undo (aa : Nat) (w : nc_H) : nc_Call m_X11_undo [.inr (.inr (11, aa))] w =
  nc_bI (nc_Call m_X5_takeBack [.inr (.inr (5, 0)), .inr (.inr (7, 0))] w) fun r2 w1 =>
  some (some (.inl r2), w1) :=
  (nc_Call_eq _ _ _).trans ((if_pos (Nat.le_of_ble_eq_true rfl)).trans ((nc_Run_un [] 6).trans rfl))
set_option maxRecDepth 100000 in
theorem qc_X11_canBeTold (aa : Nat) (xb : Int32) (w : nc_H) : nc_Call m_X11_canBeTold [.inr (.inr (11, aa)), .inl xb] w =
  nc_bI (nc_Call m_X11_isCow [.inr (.inr (11, aa)), .inl xb] w) fun r2 w1 =>
  if r2 = 0 then
    some (some (.inl 0), w1)
  else
    nc_bI (nc_Call m_X7_isDry [.inr (.inr (7, 0)), .inl xb] w1) fun r4 w3 =>
    if r4 ≠ 0 then
      some (some (.inl 0), w3)
    else
      some (some (.inl 1), w3) :=
  (nc_Call_eq _ _ _).trans ((if_pos (Nat.le_of_ble_eq_true rfl)).trans ((nc_Run_un [] 12).trans rfl))
set_option maxRecDepth 100000 in
theorem qc_X11_best (aa : Nat) (xb : Int32) (w : nc_H) : nc_Call m_X11_best [.inr (.inr (11, aa)), .inl xb] w =
  nc_bI (nc_Call m_X11_canBeTold [.inr (.inr (11, aa)), .inl xb] w) fun r2 w1 =>
  if r2 = 0 then
    some (some (.inl (-1)), w1)
  else
    nc_bI (nc_Call m_X1_most [.inr (.inr (1, 0)), .inl xb] w1) fun r4 w3 =>
    some (some (.inl r4), w3) :=
  (nc_Call_eq _ _ _).trans ((if_pos (Nat.le_of_ble_eq_true rfl)).trans ((nc_Run_un [] 10).trans rfl))
set_option maxRecDepth 100000 in
theorem qc_X11_least (aa : Nat) (xb : Int32) (xc : Int32) (w : nc_H) : nc_Call m_X11_least [.inr (.inr (11, aa)), .inl xb, .inl xc] w =
  nc_bI (nc_Call m_X11_canBeTold [.inr (.inr (11, aa)), .inl xb] w) fun r2 w1 =>
  if r2 = 0 then
    some (some (.inl (-1)), w1)
  else
    if xc < 0 then
      some (some (.inl (-1)), w1)
    else
      if (999 : Int32) < xc then
        some (some (.inl (-1)), w1)
      else
        nc_bI (nc_Call m_X1_fewestLies [.inr (.inr (1, 0)), .inl xb, .inl xc] w1) fun r4 w3 =>
        some (some (.inl r4), w3) :=
  (nc_Call_eq _ _ _).trans ((if_pos (Nat.le_of_ble_eq_true rfl)).trans ((nc_Run_un [] 16).trans rfl))
set_option maxRecDepth 100000 in
theorem qc_X11_honest (aa : Nat) (xb : Int32) (w : nc_H) : nc_Call m_X11_honest [.inr (.inr (11, aa)), .inl xb] w =
  nc_bI (nc_Call m_X11_canBeTold [.inr (.inr (11, aa)), .inl xb] w) fun r2 w1 =>
  if r2 = 0 then
    some (some (.inl (-1)), w1)
  else
    nc_bI (nc_Call m_X1_mostWithoutLies [.inr (.inr (1, 0)), .inl xb] w1) fun r4 w3 =>
    some (some (.inl r4), w3) :=
  (nc_Call_eq _ _ _).trans ((if_pos (Nat.le_of_ble_eq_true rfl)).trans ((nc_Run_un [] 10).trans rfl))
set_option maxRecDepth 100000 in
theorem qc_X11_plan (aa : Nat) (xb : Int32) (xc : Int32) (w : nc_H) : nc_Call m_X11_plan [.inr (.inr (11, aa)), .inl xb, .inl xc] w =
  nc_bI (nc_Call m_X11_isCow [.inr (.inr (11, aa)), .inl xb] w) fun r2 w1 =>
  if r2 = 0 then
    some (some (.inl (-1)), w1)
  else
    if xc < 1 then
      some (some (.inl (-1)), w1)
    else
      if (3 : Int32) < xc then
        some (some (.inl (-1)), w1)
      else
        if ((w1.1 7 0 1) + xc) ≤ 400 then
          nc_bI (nc_Call m_X8_seek [.inr (.inr (8, 0)), .inr (.inr (7, 0)), .inl xb, .inl xc] w1) fun r4 w3 =>
          some (some (.inl r4), w3)
        else
          some (some (.inl (-1)), w1) :=
  (nc_Call_eq _ _ _).trans ((if_pos (Nat.le_of_ble_eq_true rfl)).trans ((nc_Run_un [] 25).trans rfl))
set_option maxRecDepth 100000 in
theorem qc_X11_allKnow (aa : Nat) (xb : Int32) (w : nc_H) : nc_Call m_X11_allKnow [.inr (.inr (11, aa)), .inl xb] w =
  nc_bI (nc_Call m_X11_isNews [.inr (.inr (11, aa)), .inl xb] w) fun r2 w1 =>
  if r2 = 0 then
    some (some (.inl (-1)), w1)
  else
    if (w1.1 2 0 2) ≠ 0 then
      nc_bV (nc_Call m_X7_copyFrom [.inr (.inr (7, 1)), .inr (.inr (7, 0))] w1) fun w3 =>
      nc_Run m_X11_allKnow 33 [some (.inr (.inr (11, aa))), some (.inl xb), some (.inl 0), none] [] w3
    else
      some (some (.inl (-1)), w1) :=
  (nc_Call_eq _ _ _).trans ((if_pos (Nat.le_of_ble_eq_true rfl)).trans ((nc_Run_un [33] 16).trans rfl))
set_option maxRecDepth 100000 in
theorem qr_X11_allKnow_33 (aa : Nat) (xb : Int32) (xc : Int32) (w : nc_H) : nc_Run m_X11_allKnow 33 [some (.inr (.inr (11, aa))), some (.inl xb), some (.inl xc), none] [] w =
  if (200 : Int32) ≤ xc then
    some (some (.inl (-1)), w)
  else
    if (400 : Int32) ≤ (w.1 7 1 1) then
      some (some (.inl (-1)), w)
    else
      nc_li (w.1 7 1 1) fun x1 =>
      nc_bV (nc_Call m_X7_talk [.inr (.inr (7, 1))] w) fun w2 =>
      nc_bV (nc_Call m_X7_turn [.inr (.inr (7, 1))] w2) fun w3 =>
      nc_bI (nc_Call m_X11_cowsWith [.inr (.inr (11, aa)), .inr (.inr (554, 1)), .inl xb] w3) fun r5 w4 =>
      nc_bI (nc_Call m_X2_allCows [.inr (.inr (2, 0))] w4) fun r7 w6 =>
      if r5 ≠ r7 then
        nc_li (xc + 1) fun x8 =>
        nc_Run m_X11_allKnow 33 [some (.inr (.inr (11, aa))), some (.inl xb), some (.inl x8), none] [] w6
      else
        some (some (.inl x1), w6) :=
  (nc_Run_un [33] 31).trans rfl
set_option maxRecDepth 100000 in
theorem qc_X11_part (aa : Nat) (xb : Int32) (xc : Int32) (w : nc_H) : nc_Call m_X11_part [.inr (.inr (11, aa)), .inl xb, .inl xc] w =
  nc_bI (nc_Call m_X11_isFarm [.inr (.inr (11, aa)), .inl xb] w) fun r2 w1 =>
  if r2 = 0 then
    some (some (.inl (-1)), w1)
  else
    nc_bI (nc_Call m_X11_isFarm [.inr (.inr (11, aa)), .inl xc] w1) fun r4 w3 =>
    if r4 = 0 then
      some (some (.inl (-1)), w3)
    else
      if xb ≠ xc then
        nc_bI (nc_Call m_X2_fewestBetween [.inr (.inr (2, 0)), .inl xb, .inl xc] w3) fun r6 w5 =>
        nc_lt (nc_si w5 11 aa 15 r6) fun w7 =>
        nc_bI (nc_Call m_J6_bitCount_0f7a4 [.inl (w7.1 11 aa 15)] w7) fun r9 w8 =>
        some (some (.inl r9), w8)
      else
        some (some (.inl (-1)), w3) :=
  (nc_Call_eq _ _ _).trans ((if_pos (Nat.le_of_ble_eq_true rfl)).trans ((nc_Run_un [] 22).trans rfl))
set_option maxRecDepth 100000 in
theorem qc_X11_tasted (aa : Nat) (xb : Int32) (w : nc_H) : nc_Call m_X11_tasted [.inr (.inr (11, aa)), .inl xb] w =
  if (w.1 10 0 1) ≠ 1 then
    nc_lt (nc_si w 10 0 1 0) fun w1 =>
    some (some (.inl (-1)), w1)
  else
    nc_bI (nc_Call m_X10_at [.inr (.inr (10, 0)), .inl 0] w) fun r3 w2 =>
    nc_lt (nc_si w2 10 0 1 0) fun w4 =>
    if r3 = (-1) then
      some (some (.inl (-1)), w4)
    else
      nc_bI (nc_Call m_X11_canBeTold [.inr (.inr (11, aa)), .inl xb] w4) fun r6 w5 =>
      if r6 = 0 then
        some (some (.inl (-1)), w5)
      else
        nc_bI (nc_Call m_X1_setsThatGive [.inr (.inr (1, 0)), .inl xb, .inl r3] w5) fun r8 w7 =>
        some (some (.inl r8), w7) :=
  (nc_Call_eq _ _ _).trans ((if_pos (Nat.le_of_ble_eq_true rfl)).trans ((nc_Run_un [] 29).trans rfl))
set_option maxRecDepth 100000 in
theorem qc_X11_dries (aa : Nat) (xb : Int32) (w : nc_H) : nc_Call m_X11_dries [.inr (.inr (11, aa)), .inl xb] w =
  nc_bI (nc_Call m_X11_isNews [.inr (.inr (11, aa)), .inl xb] w) fun r2 w1 =>
  if r2 = 0 then
    some (some (.inl (-1)), w1)
  else
    nc_bI (nc_Call m_X7_whyNotFound [.inr (.inr (7, 0)), .inl xb] w1) fun r4 w3 =>
    if r4 ≠ 0 then
      some (some (.inl (-1)), w3)
    else
      nc_bI (nc_Call m_X7_wouldDry [.inr (.inr (7, 0)), .inl xb] w3) fun r6 w5 =>
      some (some (.inl r6), w5) :=
  (nc_Call_eq _ _ _).trans ((if_pos (Nat.le_of_ble_eq_true rfl)).trans ((nc_Run_un [] 15).trans rfl))
set_option maxRecDepth 100000 in
theorem qc_X11_fits (aa : Nat) (xb : Int32) (xc : Int32) (xd : Int32) (w : nc_H) : nc_Call m_X11_fits [.inr (.inr (11, aa)), .inl xb, .inl xc, .inl xd] w =
  nc_Run m_X11_fits 3 [some (.inr (.inr (11, aa))), some (.inl xb), some (.inl xc), some (.inl xd), some (.inl 0)] [] w :=
  (nc_Call_eq _ _ _).trans ((if_pos (Nat.le_of_ble_eq_true rfl)).trans ((nc_Run_un [3] 3).trans rfl))
set_option maxRecDepth 100000 in
theorem qr_X11_fits_3 (aa : Nat) (xb : Int32) (xc : Int32) (xd : Int32) (xe : Int32) (w : nc_H) : nc_Run m_X11_fits 3 [some (.inr (.inr (11, aa))), some (.inl xb), some (.inl xc), some (.inl xd), some (.inl xe)] [] w =
  if xd ≤ xe then
    some (some (.inl 1), w)
  else
    nc_bI (nc_Call m_X7_pailsOn [.inr (.inr (7, 0)), .inl xb, .inl (xc + xe)] w) fun r2 w1 =>
    nc_bI (nc_Call m_X10_at [.inr (.inr (10, 0)), .inl xe] w1) fun r4 w3 =>
    if r2 = r4 then
      nc_li (xe + 1) fun x5 =>
      nc_Run m_X11_fits 3 [some (.inr (.inr (11, aa))), some (.inl xb), some (.inl xc), some (.inl xd), some (.inl x5)] [] w3
    else
      some (some (.inl 0), w3) :=
  (nc_Run_un [3] 18).trans rfl
set_option maxRecDepth 100000 in
theorem qc_X11_week (aa : Nat) (xb : Int32) (w : nc_H) : nc_Call m_X11_week [.inr (.inr (11, aa)), .inl xb] w =
  nc_li (w.1 10 0 1) fun x1 =>
  nc_lt (nc_si w 10 0 1 0) fun w2 =>
  nc_bI (nc_Call m_X11_isFarm [.inr (.inr (11, aa)), .inl xb] w2) fun r4 w3 =>
  if r4 = 0 then
    some (some (.inl (-1)), w3)
  else
    if x1 < 1 then
      some (some (.inl (-1)), w3)
    else
      if x1 ≤ 7 then
        nc_li (if (0 : Int32) < ((w3.1 7 0 1) - 30) then ((w3.1 7 0 1) - 30) else (0 : Int32)) fun x5 =>
        nc_Run m_X11_week 52 [some (.inr (.inr (11, aa))), some (.inl xb), some (.inl x1), some (.inl x5)] [] w3
      else
        some (some (.inl (-1)), w3) :=
  (nc_Call_eq _ _ _).trans ((if_pos (Nat.le_of_ble_eq_true rfl)).trans ((nc_Run_un [52] 27).trans rfl))
set_option maxRecDepth 100000 in
theorem qr_X11_week_52 (aa : Nat) (xb : Int32) (xc : Int32) (xd : Int32) (w : nc_H) : nc_Run m_X11_week 52 [some (.inr (.inr (11, aa))), some (.inl xb), some (.inl xc), some (.inl xd)] [] w =
  if (w.1 7 0 1) < (xd + xc) then
    some (some (.inl (-1)), w)
  else
    nc_bI (nc_Call m_X11_fits [.inr (.inr (11, aa)), .inl xb, .inl xd, .inl xc] w) fun r2 w1 =>
    if r2 = 0 then
      nc_li (xd + 1) fun x3 =>
      nc_Run m_X11_week 52 [some (.inr (.inr (11, aa))), some (.inl xb), some (.inl xc), some (.inl x3)] [] w1
    else
      some (some (.inl xd), w1) :=
  (nc_Run_un [52] 16).trans rfl
set_option maxRecDepth 100000 in
theorem qc_X11_pails (aa : Nat) (xb : Int32) (xc : Int32) (w : nc_H) : nc_Call m_X11_pails [.inr (.inr (11, aa)), .inl xb, .inl xc] w =
  nc_bI (nc_Call m_X11_isFarm [.inr (.inr (11, aa)), .inl xb] w) fun r2 w1 =>
  if r2 = 0 then
    some (some (.inl (-1)), w1)
  else
    nc_bI (nc_Call m_X7_pailsOn [.inr (.inr (7, 0)), .inl xb, .inl xc] w1) fun r4 w3 =>
    some (some (.inl r4), w3) :=
  (nc_Call_eq _ _ _).trans ((if_pos (Nat.le_of_ble_eq_true rfl)).trans ((nc_Run_un [] 11).trans rfl))
set_option maxRecDepth 100000 in
theorem qc_X11_ahead (aa : Nat) (xb : Int32) (w : nc_H) : nc_Call m_X11_ahead [.inr (.inr (11, aa)), .inl xb] w =
  if xb < 1 then
    some (some (.inl (-1)), w)
  else
    if xb ≤ 60 then
      nc_bV (nc_Call m_X7_copyFrom [.inr (.inr (7, 1)), .inr (.inr (7, 0))] w) fun w1 =>
      nc_bI (nc_Call m_X7_goDays [.inr (.inr (7, 1)), .inl xb] w1) fun r3 w2 =>
      nc_bI (nc_Call m_X7_allPails [.inr (.inr (7, 1))] w2) fun r5 w4 =>
      nc_bI (nc_Call m_X7_allPails [.inr (.inr (7, 0))] w4) fun r7 w6 =>
      some (some (.inl (r5 - r7)), w6)
    else
      some (some (.inl (-1)), w) :=
  (nc_Call_eq _ _ _).trans ((if_pos (Nat.le_of_ble_eq_true rfl)).trans ((nc_Run_un [] 24).trans rfl))
set_option maxRecDepth 100000 in
theorem qc_X11_drawn (aa : Nat) (xb : Int32) (xc : Int32) (w : nc_H) : nc_Call m_X11_drawn [.inr (.inr (11, aa)), .inl xb, .inl xc] w =
  if xb < 1 then
    some (some (.inl (-1)), w)
  else
    if (60 : Int32) < xb then
      some (some (.inl (-1)), w)
    else
      if (w.1 2 0 3) ≠ 0 then
        if (400 : Int32) ≤ (w.1 7 0 1) then
          nc_lt (nc_si w 4 0 0 xc) fun w1 =>
          nc_li (w1.1 7 0 1) fun x2 =>
          nc_Run m_X11_drawn 66 [some (.inr (.inr (11, aa))), some (.inl xb), none, some (.inl x2), some (.inl 0)] [] w1
        else
          nc_bV (nc_Call m_X5_keep [.inr (.inr (5, 0)), .inr (.inr (7, 0))] w) fun w3 =>
          nc_lt (nc_si w3 4 0 0 xc) fun w4 =>
          nc_li (w4.1 7 0 1) fun x5 =>
          nc_Run m_X11_drawn 66 [some (.inr (.inr (11, aa))), some (.inl xb), none, some (.inl x5), some (.inl 0)] [] w4
      else
        some (some (.inl (-1)), w) :=
  (nc_Call_eq _ _ _).trans ((if_pos (Nat.le_of_ble_eq_true rfl)).trans ((nc_Run_un [66] 31).trans rfl))
set_option maxRecDepth 100000 in
theorem qr_X11_drawn_66 (aa : Nat) (xb : Int32) (xd : Int32) (xe : Int32) (w : nc_H) : nc_Run m_X11_drawn 66 [some (.inr (.inr (11, aa))), some (.inl xb), none, some (.inl xd), some (.inl xe)] [] w =
  if xb ≤ xe then
    some (some (.inl ((w.1 7 0 1) - xd)), w)
  else
    if (400 : Int32) ≤ (w.1 7 0 1) then
      some (some (.inl ((w.1 7 0 1) - xd)), w)
    else
      nc_bV (nc_Call m_X4_tellAndFind [.inr (.inr (4, 0)), .inr (.inr (7, 0))] w) fun w1 =>
      nc_bI (nc_Call m_X7_goDays [.inr (.inr (7, 0)), .inl 1] w1) fun r3 w2 =>
      nc_li (xe + 1) fun x4 =>
      nc_Run m_X11_drawn 66 [some (.inr (.inr (11, aa))), some (.inl xb), none, some (.inl xd), some (.inl x4)] [] w2 :=
  (nc_Run_un [66] 21).trans rfl
set_option maxRecDepth 100000 in
theorem qc_X11_driesByDraws (aa : Nat) (xb : Int32) (w : nc_H) : nc_Call m_X11_driesByDraws [.inr (.inr (11, aa)), .inl xb] w =
  nc_Run m_X11_driesByDraws 2 [some (.inr (.inr (11, aa))), some (.inl xb), some (.inl 0)] [] w :=
  (nc_Call_eq _ _ _).trans ((if_pos (Nat.le_of_ble_eq_true rfl)).trans ((nc_Run_un [2] 3).trans rfl))
set_option maxRecDepth 100000 in
theorem qr_X11_driesByDraws_2 (aa : Nat) (xb : Int32) (xc : Int32) (w : nc_H) : nc_Run m_X11_driesByDraws 2 [some (.inr (.inr (11, aa))), some (.inl xb), some (.inl xc)] [] w =
  if (20 : Int32) ≤ xc then
    nc_bI (nc_Call m_X7_isDry [.inr (.inr (7, 1)), .inl xb] w) fun r2 w1 =>
    nc_z r2 <| some (some (.inl r2), w1)
  else
    if (400 : Int32) ≤ (w.1 7 1 1) then
      nc_bI (nc_Call m_X7_isDry [.inr (.inr (7, 1)), .inl xb] w) fun r4 w3 =>
      nc_z r4 <| some (some (.inl r4), w3)
    else
      nc_bI (nc_Call m_X7_isDry [.inr (.inr (7, 1)), .inl xb] w) fun r6 w5 =>
      if r6 ≠ 0 then
        nc_bI (nc_Call m_X7_isDry [.inr (.inr (7, 1)), .inl xb] w5) fun r8 w7 =>
        nc_z r8 <| some (some (.inl r8), w7)
      else
        nc_bV (nc_Call m_X4_tellAndFind [.inr (.inr (4, 0)), .inr (.inr (7, 1))] w5) fun w9 =>
        nc_bV (nc_Call m_X7_talk [.inr (.inr (7, 1))] w9) fun w10 =>
        nc_bV (nc_Call m_X7_turn [.inr (.inr (7, 1))] w10) fun w11 =>
        nc_li (xc + 1) fun x12 =>
        nc_Run m_X11_driesByDraws 2 [some (.inr (.inr (11, aa))), some (.inl xb), some (.inl x12)] [] w11 :=
  (nc_Run_un [2] 27).trans rfl
set_option maxRecDepth 100000 in
theorem qc_X11_odds (aa : Nat) (xb : Int32) (xc : Int32) (xd : Int32) (w : nc_H) : nc_Call m_X11_odds [.inr (.inr (11, aa)), .inl xb, .inl xc, .inl xd] w =
  nc_bI (nc_Call m_X11_isCow [.inr (.inr (11, aa)), .inl xb] w) fun r2 w1 =>
  if r2 = 0 then
    some (some (.inl (-1)), w1)
  else
    if xc < 1 then
      some (some (.inl (-1)), w1)
    else
      if (30 : Int32) < xc then
        some (some (.inl (-1)), w1)
      else
        if (w1.1 2 0 3) ≠ 0 then
          nc_Run m_X11_odds 37 [some (.inr (.inr (11, aa))), some (.inl xb), some (.inl xc), some (.inl xd), some (.inl 0), some (.inl 0)] [] w1
        else
          some (some (.inl (-1)), w1) :=
  (nc_Call_eq _ _ _).trans ((if_pos (Nat.le_of_ble_eq_true rfl)).trans ((nc_Run_un [37] 19).trans rfl))
set_option maxRecDepth 100000 in
theorem qr_X11_odds_37 (aa : Nat) (xb : Int32) (xc : Int32) (xd : Int32) (xe : Int32) (xf : Int32) (w : nc_H) : nc_Run m_X11_odds 37 [some (.inr (.inr (11, aa))), some (.inl xb), some (.inl xc), some (.inl xd), some (.inl xe), some (.inl xf)] [] w =
  if xc ≤ xf then
    some (some (.inl xe), w)
  else
    nc_bV (nc_Call m_X7_copyFrom [.inr (.inr (7, 1)), .inr (.inr (7, 0))] w) fun w1 =>
    nc_lt (nc_si w1 4 0 0 (xd + xf)) fun w2 =>
    nc_bI (nc_Call m_X11_driesByDraws [.inr (.inr (11, aa)), .inl xb] w2) fun r4 w3 =>
    if r4 = 0 then
      nc_li (xf + 1) fun x5 =>
      nc_Run m_X11_odds 37 [some (.inr (.inr (11, aa))), some (.inl xb), some (.inl xc), some (.inl xd), some (.inl xe), some (.inl x5)] [] w3
    else
      nc_li (xe + 1) fun x6 =>
      nc_li (xf + 1) fun x7 =>
      nc_Run m_X11_odds 37 [some (.inr (.inr (11, aa))), some (.inl xb), some (.inl xc), some (.inl xd), some (.inl x6), some (.inl x7)] [] w3 :=
  (nc_Run_un [37] 22).trans rfl
set_option maxRecDepth 100000 in
theorem qc_X11_book (aa : Nat) (xb : Int32) (w : nc_H) : nc_Call m_X11_book [.inr (.inr (11, aa)), .inl xb] w =
  if xb = 0 then
    nc_bI (nc_Call m_X0_read [.inr (.inr (0, 0)), .inr (.inr (10, 0)), .inr (.inr (2, 0))] w) fun r2 w1 =>
    nc_lt (nc_si w1 10 0 1 0) fun w3 =>
    if r2 ≠ 0 then
      nc_bV (nc_Call m_X7_copyFrom [.inr (.inr (7, 1)), .inr (.inr (7, 0))] w3) fun w4 =>
      nc_bI (nc_Call m_X0_judge [.inr (.inr (0, 0)), .inr (.inr (7, 1))] w4) fun r6 w5 =>
      if xb ≠ 1 then
        some (some (.inl r6), w5)
      else
        if (w5.1 0 0 6) ≤ 0 then
          some (some (.inl r6), w5)
        else
          nc_bV (nc_Call m_X5_keep [.inr (.inr (5, 0)), .inr (.inr (7, 0))] w5) fun w7 =>
          nc_bV (nc_Call m_X7_copyFrom [.inr (.inr (7, 0)), .inr (.inr (7, 1))] w7) fun w8 =>
          some (some (.inl r6), w8)
    else
      some (some (.inl ((-2) - (w3.1 10 0 15))), w3)
  else
    if xb = 1 then
      nc_bI (nc_Call m_X0_read [.inr (.inr (0, 0)), .inr (.inr (10, 0)), .inr (.inr (2, 0))] w) fun r10 w9 =>
      nc_lt (nc_si w9 10 0 1 0) fun w11 =>
      if r10 ≠ 0 then
        nc_bV (nc_Call m_X7_copyFrom [.inr (.inr (7, 1)), .inr (.inr (7, 0))] w11) fun w12 =>
        nc_bI (nc_Call m_X0_judge [.inr (.inr (0, 0)), .inr (.inr (7, 1))] w12) fun r14 w13 =>
        if xb ≠ 1 then
          some (some (.inl r14), w13)
        else
          if (w13.1 0 0 6) ≤ 0 then
            some (some (.inl r14), w13)
          else
            nc_bV (nc_Call m_X5_keep [.inr (.inr (5, 0)), .inr (.inr (7, 0))] w13) fun w15 =>
            nc_bV (nc_Call m_X7_copyFrom [.inr (.inr (7, 0)), .inr (.inr (7, 1))] w15) fun w16 =>
            some (some (.inl r14), w16)
      else
        some (some (.inl ((-2) - (w11.1 10 0 15))), w11)
    else
      some (some (.inl (-1000)), w) :=
  (nc_Call_eq _ _ _).trans ((if_pos (Nat.le_of_ble_eq_true rfl)).trans ((nc_Run_un [] 49).trans rfl))
set_option maxRecDepth 100000 in
theorem qc_X11_sentence (aa : Nat) (w : nc_H) : nc_Call m_X11_sentence [.inr (.inr (11, aa))] w =
  nc_bI (nc_Call m_X9_read [.inr (.inr (9, 1)), .inr (.inr (10, 0)), .inr (.inr (2, 0))] w) fun r2 w1 =>
  nc_lt (nc_si w1 10 0 1 0) fun w3 =>
  if r2 ≠ 0 then
    nc_bV (nc_Call m_X9_copyFrom [.inr (.inr (9, 0)), .inr (.inr (9, 1))] w3) fun w4 =>
    some (some (.inl (w4.1 9 0 4)), w4)
  else
    some (some (.inl ((-1) - (w3.1 10 0 15))), w3) :=
  (nc_Call_eq _ _ _).trans ((if_pos (Nat.le_of_ble_eq_true rfl)).trans ((nc_Run_un [] 23).trans rfl))
set_option maxRecDepth 100000 in
theorem qc_X11_said (aa : Nat) (xb : Int32) (w : nc_H) : nc_Call m_X11_said [.inr (.inr (11, aa)), .inl xb] w =
  if (w.1 9 0 4) ≠ 0 then
    nc_Run m_X11_said 16 [some (.inr (.inr (11, aa))), some (.inl xb), some (.inl 0), some (.inl 0)] [] w
  else
    some (some (.inl (-1)), w) :=
  (nc_Call_eq _ _ _).trans ((if_pos (Nat.le_of_ble_eq_true rfl)).trans ((nc_Run_un [16] 9).trans rfl))
set_option maxRecDepth 100000 in
theorem qr_X11_said_16 (aa : Nat) (xb : Int32) (xc : Int32) (xd : Int32) (w : nc_H) : nc_Run m_X11_said 16 [some (.inr (.inr (11, aa))), some (.inl xb), some (.inl xc), some (.inl xd)] [] w =
  if (w.1 2 0 2) ≤ xd then
    if xb ≠ (-1) then
      some (some (.inl (-1)), w)
    else
      some (some (.inl xc), w)
  else
    nc_bI (nc_Call m_X9_holds [.inr (.inr (9, 0)), .inr (.inr (7, 0)), .inl xd] w) fun r2 w1 =>
    if r2 = 0 then
      nc_li (xd + 1) fun x3 =>
      nc_Run m_X11_said 16 [some (.inr (.inr (11, aa))), some (.inl xb), some (.inl xc), some (.inl x3)] [] w1
    else
      if xc ≠ xb then
        nc_li (xc + 1) fun x4 =>
        nc_li (xd + 1) fun x5 =>
        nc_Run m_X11_said 16 [some (.inr (.inr (11, aa))), some (.inl xb), some (.inl x4), some (.inl x5)] [] w1
      else
        some (some (.inl xd), w1) :=
  (nc_Run_un [16] 19).trans rfl
set_option maxRecDepth 100000 in
theorem qc_X11_image (aa : Nat) (xb : Int32) (w : nc_H) : nc_Call m_X11_image [.inr (.inr (11, aa)), .inl xb] w =
  if xb = 0 then
    if xb ≠ 0 then
      nc_lt (nc_si w 6 1 0 1) fun w1 =>
      nc_bV (nc_Call m_X2_copyFrom [.inr (.inr (2, 2 + 1)), .inr (.inr (2, 0))] w1) fun w2 =>
      nc_bV (nc_Call m_X7_copyFrom [.inr (.inr (7, 12 + 1)), .inr (.inr (7, 0))] w2) fun w3 =>
      nc_bV (nc_Call m_X9_copyFrom [.inr (.inr (9, 2 + 1)), .inr (.inr (9, 0))] w3) fun w4 =>
      some (some (.inl 1), w4)
    else
      nc_lt (nc_si w 6 0 0 1) fun w5 =>
      nc_bV (nc_Call m_X2_copyFrom [.inr (.inr (2, 2 + 0)), .inr (.inr (2, 0))] w5) fun w6 =>
      nc_bV (nc_Call m_X7_copyFrom [.inr (.inr (7, 12 + 0)), .inr (.inr (7, 0))] w6) fun w7 =>
      nc_bV (nc_Call m_X9_copyFrom [.inr (.inr (9, 2 + 0)), .inr (.inr (9, 0))] w7) fun w8 =>
      some (some (.inl 1), w8)
  else
    if xb = 1 then
      if xb ≠ 0 then
        nc_lt (nc_si w 6 1 0 1) fun w9 =>
        nc_bV (nc_Call m_X2_copyFrom [.inr (.inr (2, 2 + 1)), .inr (.inr (2, 0))] w9) fun w10 =>
        nc_bV (nc_Call m_X7_copyFrom [.inr (.inr (7, 12 + 1)), .inr (.inr (7, 0))] w10) fun w11 =>
        nc_bV (nc_Call m_X9_copyFrom [.inr (.inr (9, 2 + 1)), .inr (.inr (9, 0))] w11) fun w12 =>
        some (some (.inl 1), w12)
      else
        nc_lt (nc_si w 6 0 0 1) fun w13 =>
        nc_bV (nc_Call m_X2_copyFrom [.inr (.inr (2, 2 + 0)), .inr (.inr (2, 0))] w13) fun w14 =>
        nc_bV (nc_Call m_X7_copyFrom [.inr (.inr (7, 12 + 0)), .inr (.inr (7, 0))] w14) fun w15 =>
        nc_bV (nc_Call m_X9_copyFrom [.inr (.inr (9, 2 + 0)), .inr (.inr (9, 0))] w15) fun w16 =>
        some (some (.inl 1), w16)
    else
      some (some (.inl 0), w) :=
  (nc_Call_eq _ _ _).trans ((if_pos (Nat.le_of_ble_eq_true rfl)).trans ((nc_Run_un [] 31).trans rfl))
set_option maxRecDepth 100000 in
theorem qc_X11_restore (aa : Nat) (xb : Int32) (w : nc_H) : nc_Call m_X11_restore [.inr (.inr (11, aa)), .inl xb] w =
  if xb = 0 then
    if xb ≠ 0 then
      if (w.1 6 1 0) ≠ 0 then
        nc_bV (nc_Call m_X2_copyFrom [.inr (.inr (2, 0)), .inr (.inr (2, 2 + 1))] w) fun w1 =>
        nc_bV (nc_Call m_X7_copyFrom [.inr (.inr (7, 0)), .inr (.inr (7, 12 + 1))] w1) fun w2 =>
        nc_bV (nc_Call m_X9_copyFrom [.inr (.inr (9, 0)), .inr (.inr (9, 2 + 1))] w2) fun w3 =>
        nc_bV (nc_Call m_X5_clear [.inr (.inr (5, 0))] w3) fun w4 =>
        some (some (.inl 1), w4)
      else
        some (some (.inl 0), w)
    else
      if (w.1 6 0 0) ≠ 0 then
        nc_bV (nc_Call m_X2_copyFrom [.inr (.inr (2, 0)), .inr (.inr (2, 2 + 0))] w) fun w5 =>
        nc_bV (nc_Call m_X7_copyFrom [.inr (.inr (7, 0)), .inr (.inr (7, 12 + 0))] w5) fun w6 =>
        nc_bV (nc_Call m_X9_copyFrom [.inr (.inr (9, 0)), .inr (.inr (9, 2 + 0))] w6) fun w7 =>
        nc_bV (nc_Call m_X5_clear [.inr (.inr (5, 0))] w7) fun w8 =>
        some (some (.inl 1), w8)
      else
        some (some (.inl 0), w)
  else
    if xb = 1 then
      if xb ≠ 0 then
        if (w.1 6 1 0) ≠ 0 then
          nc_bV (nc_Call m_X2_copyFrom [.inr (.inr (2, 0)), .inr (.inr (2, 2 + 1))] w) fun w9 =>
          nc_bV (nc_Call m_X7_copyFrom [.inr (.inr (7, 0)), .inr (.inr (7, 12 + 1))] w9) fun w10 =>
          nc_bV (nc_Call m_X9_copyFrom [.inr (.inr (9, 0)), .inr (.inr (9, 2 + 1))] w10) fun w11 =>
          nc_bV (nc_Call m_X5_clear [.inr (.inr (5, 0))] w11) fun w12 =>
          some (some (.inl 1), w12)
        else
          some (some (.inl 0), w)
      else
        if (w.1 6 0 0) ≠ 0 then
          nc_bV (nc_Call m_X2_copyFrom [.inr (.inr (2, 0)), .inr (.inr (2, 2 + 0))] w) fun w13 =>
          nc_bV (nc_Call m_X7_copyFrom [.inr (.inr (7, 0)), .inr (.inr (7, 12 + 0))] w13) fun w14 =>
          nc_bV (nc_Call m_X9_copyFrom [.inr (.inr (9, 0)), .inr (.inr (9, 2 + 0))] w14) fun w15 =>
          nc_bV (nc_Call m_X5_clear [.inr (.inr (5, 0))] w15) fun w16 =>
          some (some (.inl 1), w16)
        else
          some (some (.inl 0), w)
    else
      some (some (.inl 0), w) :=
  (nc_Call_eq _ _ _).trans ((if_pos (Nat.le_of_ble_eq_true rfl)).trans ((nc_Run_un [] 34).trans rfl))
end
section
set_option maxRecDepth 100000 in
theorem qc_X12_thrown (aa : Nat) (w : nc_H) : nc_Call m_X12_thrown [.inr (.inr (12, aa))] w =
  some (some (.inl (w.1 12 aa 0)), w) :=
  (nc_Call_eq _ _ _).trans ((if_pos (Nat.le_of_ble_eq_true rfl)).trans ((nc_Run_un [] 3).trans rfl))
set_option maxRecDepth 100000 in
theorem qc_X12_throwsIf (aa : Nat) (xb : Int32) (w : nc_H) : nc_Call m_X12_throwsIf [.inr (.inr (12, aa)), .inl xb] w =
  if xb = 0 then
    nc_lt (nc_si w 12 aa 0 0) fun w1 =>
    nc_z xb <| some (some (.inl xb), w1)
  else
    nc_lt (nc_si w 12 aa 0 1) fun w2 =>
    nc_z xb <| some (some (.inl xb), w2) :=
  (nc_Call_eq _ _ _).trans ((if_pos (Nat.le_of_ble_eq_true rfl)).trans ((nc_Run_un [] 8).trans rfl))
set_option maxRecDepth 100000 in
theorem qc_X12_four (aa : Nat) (xb : Int32) (w : nc_H) : nc_Call m_X12_four [.inr (.inr (12, aa)), .inl xb] w =
  nc_Run m_X12_four 3 [some (.inr (.inr (12, aa))), some (.inl xb), some (.inl 24)] [] w :=
  (nc_Call_eq _ _ _).trans ((if_pos (Nat.le_of_ble_eq_true rfl)).trans ((nc_Run_un [3] 3).trans rfl))
set_option maxRecDepth 100000 in
theorem qr_X12_four_3 (aa : Nat) (xb : Int32) (xc : Int32) (w : nc_H) : nc_Run m_X12_four 3 [some (.inr (.inr (12, aa))), some (.inl xb), some (.inl xc)] [] w =
  if xc < 0 then
    some (none, w)
  else
    nc_bd (w.1 12 aa 2) 940 fun j1 =>
    nc_lt (nc_si w 869 aa j1 (((xb >>> (xc &&& 31)).toInt8.toInt32).toInt8.toInt32)) fun w2 =>
    nc_lt (nc_si w2 12 aa 2 ((w2.1 12 aa 2) + 1)) fun w3 =>
    nc_li (xc + Int32.ofInt (-8)) fun x4 =>
    nc_Run m_X12_four 3 [some (.inr (.inr (12, aa))), some (.inl xb), some (.inl x4)] [] w3 :=
  (nc_Run_un [3] 20).trans rfl
set_option maxRecDepth 100000 in
theorem qc_X12_end (aa : Nat) (xb : Int32) (w : nc_H) : nc_Call m_X12_end [.inr (.inr (12, aa)), .inl xb] w =
  nc_lt (nc_si w 12 aa 0 0) fun w1 =>
  if xb < 0 then
    some (some (.inl 0), w1)
  else
    if xb ≤ (w1.1 12 aa 2) then
      nc_lt (nc_si w1 12 aa 2 xb) fun w2 =>
      some (some (.inl 1), w2)
    else
      some (some (.inl 0), w1) :=
  (nc_Call_eq _ _ _).trans ((if_pos (Nat.le_of_ble_eq_true rfl)).trans ((nc_Run_un [] 14).trans rfl))
set_option maxRecDepth 100000 in
theorem qc_X12_taken (aa : Nat) (xb : Int32) (w : nc_H) : nc_Call m_X12_taken [.inr (.inr (12, aa)), .inl xb] w =
  nc_lt (nc_si w 12 aa 3 (w.1 12 aa 2)) fun w1 =>
  nc_lt (nc_si w1 12 aa 2 0) fun w2 =>
  nc_lt (nc_si w2 12 aa 4 0) fun w3 =>
  nc_lt (nc_si w3 12 aa 5 xb) fun w4 =>
  some (none, w4) :=
  (nc_Call_eq _ _ _).trans ((if_pos (Nat.le_of_ble_eq_true rfl)).trans ((nc_Run_un [] 14).trans rfl))
set_option maxRecDepth 100000 in
theorem qc_X12_isIn (xa : Int32) (xb : Int32) (xc : Int32) (w : nc_H) : nc_Call m_X12_isIn [.inl xa, .inl xb, .inl xc] w =
  if xa < xb then
    some (some (.inl 0), w)
  else
    if xc < xa then
      some (some (.inl 0), w)
    else
      some (some (.inl 1), w) :=
  (nc_Call_eq _ _ _).trans ((if_pos (Nat.le_of_ble_eq_true rfl)).trans ((nc_Run_un [] 9).trans rfl))
set_option maxRecDepth 100000 in
theorem qc_X12_bitOf (xa : Int32) (xb : Int32) (w : nc_H) : nc_Call m_X12_bitOf [.inl xa, .inl xb] w =
  if ((xa >>> (xb &&& 31)) &&& 1) ≠ 1 then
    some (some (.inl 0), w)
  else
    some (some (.inl 1), w) :=
  (nc_Call_eq _ _ _).trans ((if_pos (Nat.le_of_ble_eq_true rfl)).trans ((nc_Run_un [] 10).trans rfl))
set_option maxRecDepth 100000 in
theorem qc_X12_greater (xa : Int32) (xb : Int32) (w : nc_H) : nc_Call m_X12_greater [.inl xa, .inl xb] w =
  if xa ≤ xb then
    some (some (.inl xb), w)
  else
    some (some (.inl xa), w) :=
  (nc_Call_eq _ _ _).trans ((if_pos (Nat.le_of_ble_eq_true rfl)).trans ((nc_Run_un [] 6).trans rfl))
set_option maxRecDepth 100000 in
theorem qc_X12_absolute (xa : Int32) (w : nc_H) : nc_Call m_X12_absolute [.inl xa] w =
  if (0 : Int32) ≤ xa then
    some (some (.inl xa), w)
  else
    some (some (.inl (-xa)), w) :=
  (nc_Call_eq _ _ _).trans ((if_pos (Nat.le_of_ble_eq_true rfl)).trans ((nc_Run_un [] 6).trans rfl))
set_option maxRecDepth 100000 in
theorem qc_X12_bits (xa : Int32) (w : nc_H) : nc_Call m_X12_bits [.inl xa] w =
  nc_Run m_X12_bits 4 [none, some (.inl 0), some (.inl xa)] [] w :=
  (nc_Call_eq _ _ _).trans ((if_pos (Nat.le_of_ble_eq_true rfl)).trans ((nc_Run_un [4] 5).trans rfl))
set_option maxRecDepth 100000 in
theorem qr_X12_bits_4 (xb : Int32) (xc : Int32) (w : nc_H) : nc_Run m_X12_bits 4 [none, some (.inl xb), some (.inl xc)] [] w =
  if xc = 0 then
    some (some (.inl xb), w)
  else
    nc_li (xb + 1) fun x1 =>
    nc_li (xc &&& (xc - 1)) fun x2 =>
    nc_Run m_X12_bits 4 [none, some (.inl x1), some (.inl x2)] [] w :=
  (nc_Run_un [4] 11).trans rfl
set_option maxRecDepth 100000 in
theorem qc_X12_octet (aa : Nat) (xb : Int32) (w : nc_H) : nc_Call m_X12_octet [.inr (.inr (12, aa)), .inl xb] w =
  nc_bd xb 940 fun j1 =>
  some (some (.inl ((w.1 869 aa j1) &&& 255)), w) :=
  (nc_Call_eq _ _ _).trans ((if_pos (Nat.le_of_ble_eq_true rfl)).trans ((nc_Run_un [] 7).trans rfl))
set_option maxRecDepth 100000 in
theorem qc_X12_peek (aa : Nat) (w : nc_H) : nc_Call m_X12_peek [.inr (.inr (12, aa))] w =
  if (w.1 12 aa 3) ≤ (w.1 12 aa 4) then
    some (some (.inl (-1)), w)
  else
    nc_bd (w.1 12 aa 4) 940 fun j1 =>
    some (some (.inl ((w.1 869 aa j1) &&& 255)), w) :=
  (nc_Call_eq _ _ _).trans ((if_pos (Nat.le_of_ble_eq_true rfl)).trans ((nc_Run_un [] 14).trans rfl))
set_option maxRecDepth 100000 in
theorem qc_X12_isSmall (xa : Int32) (w : nc_H) : nc_Call m_X12_isSmall [.inl xa] w =
  if xa < 97 then
    some (some (.inl 0), w)
  else
    if (122 : Int32) < xa then
      some (some (.inl 0), w)
    else
      some (some (.inl 1), w) :=
  (nc_Call_eq _ _ _).trans ((if_pos (Nat.le_of_ble_eq_true rfl)).trans ((nc_Run_un [] 9).trans rfl))
set_option maxRecDepth 100000 in
theorem qc_X12_isDigit (xa : Int32) (w : nc_H) : nc_Call m_X12_isDigit [.inl xa] w =
  if xa < 48 then
    some (some (.inl 0), w)
  else
    if (57 : Int32) < xa then
      some (some (.inl 0), w)
    else
      some (some (.inl 1), w) :=
  (nc_Call_eq _ _ _).trans ((if_pos (Nat.le_of_ble_eq_true rfl)).trans ((nc_Run_un [] 9).trans rfl))
set_option maxRecDepth 100000 in
theorem qc_X12_bad (aa : Nat) (xb : Int32) (w : nc_H) : nc_Call m_X12_bad [.inr (.inr (12, aa)), .inl xb] w =
  nc_lt (nc_si w 12 aa 15 xb) fun w1 =>
  nc_lt (nc_si w1 12 aa 16 (w1.1 12 aa 12)) fun w2 =>
  some (some (.inl 0), w2) :=
  (nc_Call_eq _ _ _).trans ((if_pos (Nat.le_of_ble_eq_true rfl)).trans ((nc_Run_un [] 9).trans rfl))
set_option maxRecDepth 100000 in
theorem qc_X12_isWord (aa : Nat) (yb : Int64) (w : nc_H) : nc_Call m_X12_isWord [.inr (.inr (12, aa)), .inr (.inl yb)] w =
  if (w.1 12 aa 11) ≠ 1 then
    some (some (.inl 0), w)
  else
    if (lg_cmp (w.2 12 aa 17) yb) ≠ 0 then
      some (some (.inl 0), w)
    else
      some (some (.inl 1), w) :=
  (nc_Call_eq _ _ _).trans ((if_pos (Nat.le_of_ble_eq_true rfl)).trans ((nc_Run_un [] 12).trans rfl))
set_option maxRecDepth 100000 in
theorem qc_X12_isSign (aa : Nat) (xb : Int32) (w : nc_H) : nc_Call m_X12_isSign [.inr (.inr (12, aa)), .inl xb] w =
  if (w.1 12 aa 11) ≠ 3 then
    some (some (.inl 0), w)
  else
    if (w.1 12 aa 14) ≠ xb then
      some (some (.inl 0), w)
    else
      some (some (.inl 1), w) :=
  (nc_Call_eq _ _ _).trans ((if_pos (Nat.le_of_ble_eq_true rfl)).trans ((nc_Run_un [] 11).trans rfl))
set_option maxRecDepth 100000 in
theorem qc_X12_isName (aa : Nat) (w : nc_H) : nc_Call m_X12_isName [.inr (.inr (12, aa))] w =
  if (w.1 12 aa 11) ≠ 1 then
    nc_Run m_X12_isName 16 [some (.inr (.inr (12, aa))), some (.inl 0), some (.inl 0)] [] w
  else
    nc_Run m_X12_isName 16 [some (.inr (.inr (12, aa))), some (.inl 1), some (.inl 0)] [] w :=
  (nc_Call_eq _ _ _).trans ((if_pos (Nat.le_of_ble_eq_true rfl)).trans ((nc_Run_un [16] 10).trans rfl))
set_option maxRecDepth 100000 in
theorem qr_X12_isName_16 (aa : Nat) (xb : Int32) (xc : Int32) (w : nc_H) : nc_Run m_X12_isName 16 [some (.inr (.inr (12, aa))), some (.inl xb), some (.inl xc)] [] w =
  if (24 : Int32) ≤ xc then
    nc_z xb <| some (some (.inl xb), w)
  else
    if xb = 0 then
      nc_li (xc + 1) fun x1 =>
      nc_Run m_X12_isName 16 [some (.inr (.inr (12, aa))), some (.inl 0), some (.inl x1)] [] w
    else
      nc_bd xc 24 fun j2 =>
      if (lg_cmp (w.2 12 aa 17) (w.2 878 aa j2)) = 0 then
        nc_li (xc + 1) fun x3 =>
        nc_Run m_X12_isName 16 [some (.inr (.inr (12, aa))), some (.inl 0), some (.inl x3)] [] w
      else
        nc_li (xc + 1) fun x4 =>
        nc_Run m_X12_isName 16 [some (.inr (.inr (12, aa))), some (.inl 1), some (.inl x4)] [] w :=
  (nc_Run_un [16] 19).trans rfl
set_option maxRecDepth 100000 in
theorem qc_X12_seek (aa : Nat) (xb : Int32) (xc : Int32) (w : nc_H) : nc_Call m_X12_seek [.inr (.inr (12, aa)), .inl xb, .inl xc] w =
  nc_Run m_X12_seek 2 [some (.inr (.inr (12, aa))), some (.inl xb), some (.inl xc), some (.inl 0)] [] w :=
  (nc_Call_eq _ _ _).trans ((if_pos (Nat.le_of_ble_eq_true rfl)).trans ((nc_Run_un [2] 3).trans rfl))
set_option maxRecDepth 100000 in
theorem qr_X12_seek_2 (aa : Nat) (xb : Int32) (xc : Int32) (xd : Int32) (w : nc_H) : nc_Run m_X12_seek 2 [some (.inr (.inr (12, aa))), some (.inl xb), some (.inl xc), some (.inl xd)] [] w =
  if xc ≤ xd then
    some (some (.inl (-1)), w)
  else
    nc_bd (xb + xd) 44 fun j1 =>
    if (lg_cmp (w.2 877 aa j1) (w.2 12 aa 17)) ≠ 0 then
      nc_li (xd + 1) fun x2 =>
      nc_Run m_X12_seek 2 [some (.inr (.inr (12, aa))), some (.inl xb), some (.inl xc), some (.inl x2)] [] w
    else
      some (some (.inl xd), w) :=
  (nc_Run_un [2] 16).trans rfl
set_option maxRecDepth 100000 in
theorem qc_X12_fault (aa : Nat) (w : nc_H) : nc_Call m_X12_fault [.inr (.inr (12, aa))] w =
  nc_lt (nc_si w 12 aa 0 0) fun w1 =>
  some (some (.inl (w1.1 12 aa 15)), w1) :=
  (nc_Call_eq _ _ _).trans ((if_pos (Nat.le_of_ble_eq_true rfl)).trans ((nc_Run_un [] 6).trans rfl))
set_option maxRecDepth 100000 in
theorem qc_X12_knows (aa : Nat) (xb : Int32) (xc : Int32) (w : nc_H) : nc_Call m_X12_knows [.inr (.inr (12, aa)), .inl xb, .inl xc] w =
  nc_bd ((132 + (10 * xb)) + xc) 513 fun j1 =>
  nc_li (w.1 874 aa j1) fun x2 =>
  if x2 ≤ 0 then
    some (some (.inl 0), w)
  else
    nc_bd 76 513 fun j3 =>
    nc_bd (29 + xb) 513 fun j4 =>
    if (w.1 874 aa j4) < ((w.1 874 aa j3) - (x2 - 1)) then
      some (some (.inl 0), w)
    else
      some (some (.inl 1), w) :=
  (nc_Call_eq _ _ _).trans ((if_pos (Nat.le_of_ble_eq_true rfl)).trans ((nc_Run_un [] 31).trans rfl))
set_option maxRecDepth 100000 in
theorem qc_X12_isCurdled (aa : Nat) (xb : Int32) (w : nc_H) : nc_Call m_X12_isCurdled [.inr (.inr (12, aa)), .inl xb] w =
  nc_bd (124 + xb) 513 fun j1 =>
  if (w.1 874 aa j1) ≤ 0 then
    some (some (.inl 0), w)
  else
    nc_bd 76 513 fun j2 =>
    nc_bd (124 + xb) 513 fun j3 =>
    if (6 : Int32) < ((w.1 874 aa j2) - ((w.1 874 aa j3) - 1)) then
      some (some (.inl 0), w)
    else
      some (some (.inl 1), w) :=
  (nc_Call_eq _ _ _).trans ((if_pos (Nat.le_of_ble_eq_true rfl)).trans ((nc_Run_un [] 25).trans rfl))
set_option maxRecDepth 100000 in
theorem qc_X12_cowsOf (aa : Nat) (xb : Int32) (w : nc_H) : nc_Call m_X12_cowsOf [.inr (.inr (12, aa)), .inl xb] w =
  nc_Run m_X12_cowsOf 4 [some (.inr (.inr (12, aa))), some (.inl xb), some (.inl 0), some (.inl 0)] [] w :=
  (nc_Call_eq _ _ _).trans ((if_pos (Nat.le_of_ble_eq_true rfl)).trans ((nc_Run_un [4] 5).trans rfl))
set_option maxRecDepth 100000 in
theorem qr_X12_cowsOf_4 (aa : Nat) (xb : Int32) (xc : Int32) (xd : Int32) (w : nc_H) : nc_Run m_X12_cowsOf 4 [some (.inr (.inr (12, aa))), some (.inl xb), some (.inl xc), some (.inl xd)] [] w =
  nc_bd 1 513 fun j1 =>
  if (w.1 874 aa j1) ≤ xd then
    some (some (.inl xc), w)
  else
    nc_bd (5 + xd) 513 fun j2 =>
    if (w.1 874 aa j2) ≠ xb then
      nc_li (xc ||| 0) fun x3 =>
      nc_li (xd + 1) fun x4 =>
      nc_Run m_X12_cowsOf 4 [some (.inr (.inr (12, aa))), some (.inl xb), some (.inl x3), some (.inl x4)] [] w
    else
      nc_li (xc ||| (1 <<< (xd &&& 31))) fun x5 =>
      nc_li (xd + 1) fun x6 =>
      nc_Run m_X12_cowsOf 4 [some (.inr (.inr (12, aa))), some (.inl xb), some (.inl x5), some (.inl x6)] [] w :=
  (nc_Run_un [4] 24).trans rfl
set_option maxRecDepth 100000 in
theorem qc_X12_talks (aa : Nat) (xb : Int32) (w : nc_H) : nc_Call m_X12_talks [.inr (.inr (12, aa)), .inl xb] w =
  nc_bd 76 513 fun j1 =>
  nc_bd (70 + xb) 513 fun j2 =>
  if w.1 874 aa j2 = 0 then none else
  if (((w.1 874 aa j1) + 1) - ((w.1 874 aa j1) + 1) / (w.1 874 aa j2) * (w.1 874 aa j2)) ≠ 0 then
    some (some (.inl 0), w)
  else
    some (some (.inl 1), w) :=
  (nc_Call_eq _ _ _).trans ((if_pos (Nat.le_of_ble_eq_true rfl)).trans ((nc_Run_un [] 17).trans rfl))
set_option maxRecDepth 100000 in
theorem qc_X12_allPails (aa : Nat) (w : nc_H) : nc_Call m_X12_allPails [.inr (.inr (12, aa))] w =
  nc_bd 95 513 fun j1 =>
  nc_bd 96 513 fun j2 =>
  nc_bd 97 513 fun j3 =>
  nc_bd 98 513 fun j4 =>
  some (some (.inl ((((w.1 874 aa j1) + (w.1 874 aa j2)) + (w.1 874 aa j3)) + (w.1 874 aa j4))), w) :=
  (nc_Call_eq _ _ _).trans ((if_pos (Nat.le_of_ble_eq_true rfl)).trans ((nc_Run_un [] 20).trans rfl))
set_option maxRecDepth 100000 in
theorem qc_X12_keep (aa : Nat) (w : nc_H) : nc_Call m_X12_keep [.inr (.inr (12, aa))] w =
  if (w.1 12 aa 24) ≠ 8 then
    nc_Run m_X12_keep 48 [some (.inr (.inr (12, aa))), some (.inl 0)] [] w
  else
    nc_Run m_X12_keep 11 [some (.inr (.inr (12, aa))), some (.inl 0)] [] w :=
  (nc_Call_eq _ _ _).trans ((if_pos (Nat.le_of_ble_eq_true rfl)).trans ((nc_Run_un [11, 48] 7).trans rfl))
set_option maxRecDepth 100000 in
theorem qr_X12_keep_48 (aa : Nat) (xb : Int32) (w : nc_H) : nc_Run m_X12_keep 48 [some (.inr (.inr (12, aa))), some (.inl xb)] [] w =
  if (256 : Int32) ≤ xb then
    nc_lt (nc_si w 12 aa 24 ((w.1 12 aa 24) + 1)) fun w1 =>
    some (none, w1)
  else
    nc_bd (76 + xb) 513 fun j2 =>
    nc_bd ((256 * (w.1 12 aa 24)) + xb) 2048 fun j3 =>
    nc_lt (nc_si w 890 aa j3 (w.1 874 aa j2)) fun w4 =>
    nc_li (xb + 1) fun x5 =>
    nc_Run m_X12_keep 48 [some (.inr (.inr (12, aa))), some (.inl x5)] [] w4 :=
  (nc_Run_un [11, 48] 21).trans rfl
set_option maxRecDepth 100000 in
theorem qr_X12_keep_11 (aa : Nat) (xb : Int32) (w : nc_H) : nc_Run m_X12_keep 11 [some (.inr (.inr (12, aa))), some (.inl xb)] [] w =
  if (1792 : Int32) ≤ xb then
    nc_lt (nc_si w 12 aa 24 7) fun w1 =>
    nc_Run m_X12_keep 48 [some (.inr (.inr (12, aa))), some (.inl 0)] [] w1
  else
    nc_bd (xb + 256) 2048 fun j2 =>
    nc_bd xb 2048 fun j3 =>
    nc_lt (nc_si w 890 aa j3 (w.1 890 aa j2)) fun w4 =>
    nc_li (xb + 1) fun x5 =>
    nc_Run m_X12_keep 11 [some (.inr (.inr (12, aa))), some (.inl x5)] [] w4 :=
  (nc_Run_un [11, 48] 16).trans rfl
set_option maxRecDepth 100000 in
theorem qc_X12_undo (aa : Nat) (w : nc_H) : nc_Call m_X12_undo [.inr (.inr (12, aa))] w =
  nc_lt (nc_si w 12 aa 0 0) fun w1 =>
  if (w1.1 12 aa 24) ≠ 0 then
    nc_lt (nc_si w1 12 aa 24 ((w1.1 12 aa 24) - 1)) fun w2 =>
    nc_Run m_X12_undo 26 [some (.inr (.inr (12, aa))), some (.inl 0)] [] w2
  else
    some (some (.inl (-1)), w1) :=
  (nc_Call_eq _ _ _).trans ((if_pos (Nat.le_of_ble_eq_true rfl)).trans ((nc_Run_un [26] 15).trans rfl))
set_option maxRecDepth 100000 in
theorem qr_X12_undo_26 (aa : Nat) (xb : Int32) (w : nc_H) : nc_Run m_X12_undo 26 [some (.inr (.inr (12, aa))), some (.inl xb)] [] w =
  if (256 : Int32) ≤ xb then
    some (some (.inl (w.1 12 aa 24)), w)
  else
    nc_bd ((256 * (w.1 12 aa 24)) + xb) 2048 fun j1 =>
    nc_bd (76 + xb) 513 fun j2 =>
    nc_lt (nc_si w 874 aa j2 (w.1 890 aa j1)) fun w3 =>
    nc_li (xb + 1) fun x4 =>
    nc_Run m_X12_undo 26 [some (.inr (.inr (12, aa))), some (.inl x4)] [] w3 :=
  (nc_Run_un [26] 21).trans rfl
set_option maxRecDepth 100000 in
theorem qc_X12_tries (aa : Nat) (w : nc_H) : nc_Call m_X12_tries [.inr (.inr (12, aa))] w =
  nc_Run m_X12_tries 2 [some (.inr (.inr (12, aa))), some (.inl 0)] [] w :=
  (nc_Call_eq _ _ _).trans ((if_pos (Nat.le_of_ble_eq_true rfl)).trans ((nc_Run_un [2] 3).trans rfl))
set_option maxRecDepth 100000 in
theorem qr_X12_tries_2 (aa : Nat) (xb : Int32) (w : nc_H) : nc_Run m_X12_tries 2 [some (.inr (.inr (12, aa))), some (.inl xb)] [] w =
  if (256 : Int32) ≤ xb then
    some (none, w)
  else
    nc_bd (76 + xb) 513 fun j1 =>
    nc_bd xb 256 fun j2 =>
    nc_lt (nc_si w 891 aa j2 (w.1 874 aa j1)) fun w3 =>
    nc_li (xb + 1) fun x4 =>
    nc_Run m_X12_tries 2 [some (.inr (.inr (12, aa))), some (.inl x4)] [] w3 :=
  (nc_Run_un [2] 16).trans rfl
set_option maxRecDepth 100000 in
theorem qc_X12_back (aa : Nat) (w : nc_H) : nc_Call m_X12_back [.inr (.inr (12, aa))] w =
  nc_Run m_X12_back 2 [some (.inr (.inr (12, aa))), some (.inl 0)] [] w :=
  (nc_Call_eq _ _ _).trans ((if_pos (Nat.le_of_ble_eq_true rfl)).trans ((nc_Run_un [2] 3).trans rfl))
set_option maxRecDepth 100000 in
theorem qr_X12_back_2 (aa : Nat) (xb : Int32) (w : nc_H) : nc_Run m_X12_back 2 [some (.inr (.inr (12, aa))), some (.inl xb)] [] w =
  if (256 : Int32) ≤ xb then
    some (none, w)
  else
    nc_bd xb 256 fun j1 =>
    nc_bd (76 + xb) 513 fun j2 =>
    nc_lt (nc_si w 874 aa j2 (w.1 891 aa j1)) fun w3 =>
    nc_li (xb + 1) fun x4 =>
    nc_Run m_X12_back 2 [some (.inr (.inr (12, aa))), some (.inl x4)] [] w3 :=
  (nc_Run_un [2] 16).trans rfl
set_option maxRecDepth 100000 in
theorem qc_X12_peace (aa : Nat) (w : nc_H) : nc_Call m_X12_peace [.inr (.inr (12, aa))] w =
  nc_Run m_X12_peace 4 [some (.inr (.inr (12, aa))), some (.inl 0), some (.inl 0)] [] w :=
  (nc_Call_eq _ _ _).trans ((if_pos (Nat.le_of_ble_eq_true rfl)).trans ((nc_Run_un [4] 5).trans rfl))
set_option maxRecDepth 100000 in
theorem qr_X12_peace_4 (aa : Nat) (xb : Int32) (xc : Int32) (w : nc_H) : nc_Run m_X12_peace 4 [some (.inr (.inr (12, aa))), some (.inl xb), some (.inl xc)] [] w =
  nc_bd 2 513 fun j1 =>
  if (w.1 874 aa j1) ≤ xc then
    some (some (.inl xb), w)
  else
    nc_bd (37 + xc) 513 fun j2 =>
    if (w.1 874 aa j2) = 2 then
      nc_li (xb ||| 0) fun x3 =>
      nc_li (xc + 1) fun x4 =>
      nc_Run m_X12_peace 4 [some (.inr (.inr (12, aa))), some (.inl x3), some (.inl x4)] [] w
    else
      nc_li (xb ||| (1 <<< (xc &&& 31))) fun x5 =>
      nc_li (xc + 1) fun x6 =>
      nc_Run m_X12_peace 4 [some (.inr (.inr (12, aa))), some (.inl x5), some (.inl x6)] [] w :=
  (nc_Run_un [4] 24).trans rfl
set_option maxRecDepth 100000 in
theorem qc_X12_tellsSet (aa : Nat) (xb : Int32) (w : nc_H) : nc_Call m_X12_tellsSet [.inr (.inr (12, aa)), .inl xb] w =
  nc_lt (nc_si w 12 aa 26 1) fun w1 =>
  nc_lt (nc_si w1 12 aa 25 xb) fun w2 =>
  some (none, w2) :=
  (nc_Call_eq _ _ _).trans ((if_pos (Nat.le_of_ble_eq_true rfl)).trans ((nc_Run_un [] 7).trans rfl))
set_option maxRecDepth 100000 in
theorem qc_X12_told (aa : Nat) (w : nc_H) : nc_Call m_X12_told [.inr (.inr (12, aa))] w =
  nc_lt (nc_si w 12 aa 0 0) fun w1 =>
  if (w1.1 12 aa 26) = 0 then
    some (some (.inl (-1)), w1)
  else
    some (some (.inl (w1.1 12 aa 25)), w1) :=
  (nc_Call_eq _ _ _).trans ((if_pos (Nat.le_of_ble_eq_true rfl)).trans ((nc_Run_un [] 10).trans rfl))
set_option maxRecDepth 100000 in
theorem qc_X12_digit (aa : Nat) (xb : Int32) (xc : Int32) (xd : Int32) (w : nc_H) : nc_Call m_X12_digit [.inr (.inr (12, aa)), .inl xb, .inl xc, .inl xd] w =
  nc_Run m_X12_digit 6 [some (.inr (.inr (12, aa))), none, none, some (.inl xd), some (.inl xb), some (.inl xc)] [] w :=
  (nc_Call_eq _ _ _).trans ((if_pos (Nat.le_of_ble_eq_true rfl)).trans ((nc_Run_un [6] 5).trans rfl))
set_option maxRecDepth 100000 in
theorem qr_X12_digit_6 (aa : Nat) (xd : Int32) (xe : Int32) (xf : Int32) (w : nc_H) : nc_Run m_X12_digit 6 [some (.inr (.inr (12, aa))), none, none, some (.inl xd), some (.inl xe), some (.inl xf)] [] w =
  if (xd - 1) ≤ xf then
    nc_bd 2 513 fun j1 =>
    if (w.1 874 aa j1) + 1 = 0 then none else
    some (some (.inl (xe - xe / ((w.1 874 aa j1) + 1) * ((w.1 874 aa j1) + 1))), w)
  else
    nc_bd 2 513 fun j2 =>
    if (w.1 874 aa j2) + 1 = 0 then none else
    nc_li (xe / ((w.1 874 aa j2) + 1)) fun x3 =>
    nc_li (xf + 1) fun x4 =>
    nc_Run m_X12_digit 6 [some (.inr (.inr (12, aa))), none, none, some (.inl xd), some (.inl x3), some (.inl x4)] [] w :=
  (nc_Run_un [6] 17).trans rfl
set_option maxRecDepth 100000 in
theorem qc_X12_parted (aa : Nat) (w : nc_H) : nc_Call m_X12_parted [.inr (.inr (12, aa))] w =
  nc_lt (nc_si w 12 aa 0 0) fun w1 =>
  if (w1.1 12 aa 30) = 0 then
    some (some (.inl (-1)), w1)
  else
    some (some (.inl (w1.1 12 aa 29)), w1) :=
  (nc_Call_eq _ _ _).trans ((if_pos (Nat.le_of_ble_eq_true rfl)).trans ((nc_Run_un [] 10).trans rfl))
set_option maxRecDepth 100000 in
theorem qc_X12_surely (aa : Nat) (w : nc_H) : nc_Call m_X12_surely [.inr (.inr (12, aa))] w =
  nc_lt (nc_si w 12 aa 0 0) fun w1 =>
  if (w1.1 12 aa 33) = 0 then
    some (some (.inl (-1)), w1)
  else
    some (some (.inl (w1.1 12 aa 31)), w1) :=
  (nc_Call_eq _ _ _).trans ((if_pos (Nat.le_of_ble_eq_true rfl)).trans ((nc_Run_un [] 10).trans rfl))
set_option maxRecDepth 100000 in
theorem qc_X12_ask (aa : Nat) (w : nc_H) : nc_Call m_X12_ask [.inr (.inr (12, aa))] w =
  nc_lt (nc_si w 12 aa 0 0) fun w1 =>
  if (w1.1 12 aa 33) = 0 then
    some (some (.inl (-1)), w1)
  else
    some (some (.inl (w1.1 12 aa 32)), w1) :=
  (nc_Call_eq _ _ _).trans ((if_pos (Nat.le_of_ble_eq_true rfl)).trans ((nc_Run_un [] 10).trans rfl))
set_option maxRecDepth 100000 in
theorem qc_X12_draw (aa : Nat) (xb : Int32) (w : nc_H) : nc_Call m_X12_draw [.inr (.inr (12, aa)), .inl xb] w =
  nc_lt (nc_si w 12 aa 35 (((w.1 12 aa 35) * 1103515245) + 12345)) fun w1 =>
  if xb = 0 then none else
  some (some (.inl ((((w1.1 12 aa 35).toUInt32 >>> ((8 : Int32).toUInt32 &&& Int32.toUInt32 31)).toInt32) - (((w1.1 12 aa 35).toUInt32 >>> ((8 : Int32).toUInt32 &&& Int32.toUInt32 31)).toInt32) / xb * xb)), w1) :=
  (nc_Call_eq _ _ _).trans ((if_pos (Nat.le_of_ble_eq_true rfl)).trans ((nc_Run_un [] 15).trans rfl))
set_option maxRecDepth 100000 in
theorem qc_X12_code (aa : Nat) (xb : Int32) (xc : Int32) (xd : Int32) (w : nc_H) : nc_Call m_X12_code [.inr (.inr (12, aa)), .inl xb, .inl xc, .inl xd] w =
  nc_bd (3 * (w.1 12 aa 40)) 135 fun j1 =>
  nc_lt (nc_si w 876 aa j1 xb) fun w2 =>
  nc_bd ((3 * (w2.1 12 aa 40)) + 1) 135 fun j3 =>
  nc_lt (nc_si w2 876 aa j3 xc) fun w4 =>
  nc_bd ((3 * (w4.1 12 aa 40)) + 2) 135 fun j5 =>
  nc_lt (nc_si w4 876 aa j5 xd) fun w6 =>
  nc_lt (nc_si w6 12 aa 40 ((w6.1 12 aa 40) + 1)) fun w7 =>
  some (none, w7) :=
  (nc_Call_eq _ _ _).trans ((if_pos (Nat.le_of_ble_eq_true rfl)).trans ((nc_Run_un [] 35).trans rfl))
set_option maxRecDepth 100000 in
theorem qc_X12_feed (aa : Nat) (xb : Int32) (xc : Int32) (xd : Int32) (xe : Int32) (xf : Int32) (w : nc_H) : nc_Call m_X12_feed [.inr (.inr (12, aa)), .inl xb, .inl xc, .inl xd, .inl xe, .inl xf] w =
  nc_lt (nc_si w 12 aa 0 0) fun w1 =>
  if ((w1.1 12 aa 2) + 20) ≤ 940 then
    nc_bV (nc_Call m_X12_four [.inr (.inr (12, aa)), .inl xb] w1) fun w2 =>
    nc_bV (nc_Call m_X12_four [.inr (.inr (12, aa)), .inl xc] w2) fun w3 =>
    nc_bV (nc_Call m_X12_four [.inr (.inr (12, aa)), .inl xd] w3) fun w4 =>
    nc_bV (nc_Call m_X12_four [.inr (.inr (12, aa)), .inl xe] w4) fun w5 =>
    nc_bV (nc_Call m_X12_four [.inr (.inr (12, aa)), .inl xf] w5) fun w6 =>
    some (some (.inl (w6.1 12 aa 2)), w6)
  else
    some (some (.inl (-1)), w1) :=
  (nc_Call_eq _ _ _).trans ((if_pos (Nat.le_of_ble_eq_true rfl)).trans ((nc_Run_un [] 27).trans rfl))
set_option maxRecDepth 100000 in
theorem qc_X12_next (aa : Nat) (w : nc_H) : nc_Call m_X12_next [.inr (.inr (12, aa))] w =
  nc_bI (nc_Call m_X12_peek [.inr (.inr (12, aa))] w) fun r2 w1 =>
  if r2 = 32 then
    nc_lt (nc_si w1 12 aa 4 ((w1.1 12 aa 4) + 1)) fun w3 =>
    nc_Run m_X12_next 0 [some (.inr (.inr (12, aa))), none, none, none] [] w3
  else
    nc_bI (nc_Call m_X12_peek [.inr (.inr (12, aa))] w1) fun r5 w4 =>
    if r5 ≠ 10 then
      nc_lt (nc_si w4 12 aa 12 (w4.1 12 aa 4)) fun w6 =>
      nc_lt (nc_si w6 12 aa 13 0) fun w7 =>
      if (w7.1 12 aa 3) ≤ (w7.1 12 aa 5) then
        nc_Run m_X12_next 80 [some (.inr (.inr (12, aa))), none, none, none] [] w7
      else
        if (w7.1 12 aa 4) < (w7.1 12 aa 5) then
          nc_Run m_X12_next 80 [some (.inr (.inr (12, aa))), none, none, none] [] w7
        else
          nc_lt (nc_si w7 12 aa 12 (w7.1 12 aa 5)) fun w8 =>
          nc_lt (nc_si w8 12 aa 11 4) fun w9 =>
          some (none, w9)
    else
      nc_lt (nc_si w4 12 aa 4 ((w4.1 12 aa 4) + 1)) fun w10 =>
      nc_Run m_X12_next 0 [some (.inr (.inr (12, aa))), none, none, none] [] w10 :=
  (nc_Call_eq _ _ _).trans ((if_pos (Nat.le_of_ble_eq_true rfl)).trans ((nc_Run_un [0, 80, 181, 201, 220] 33).trans rfl))
set_option maxRecDepth 100000 in
theorem qr_X12_next_0 (aa : Nat) (w : nc_H) : nc_Run m_X12_next 0 [some (.inr (.inr (12, aa))), none, none, none] [] w =
  nc_bI (nc_Call m_X12_peek [.inr (.inr (12, aa))] w) fun r2 w1 =>
  if r2 = 32 then
    nc_lt (nc_si w1 12 aa 4 ((w1.1 12 aa 4) + 1)) fun w3 =>
    nc_Run m_X12_next 0 [some (.inr (.inr (12, aa))), none, none, none] [] w3
  else
    nc_bI (nc_Call m_X12_peek [.inr (.inr (12, aa))] w1) fun r5 w4 =>
    if r5 ≠ 10 then
      nc_lt (nc_si w4 12 aa 12 (w4.1 12 aa 4)) fun w6 =>
      nc_lt (nc_si w6 12 aa 13 0) fun w7 =>
      if (w7.1 12 aa 3) ≤ (w7.1 12 aa 5) then
        nc_Run m_X12_next 80 [some (.inr (.inr (12, aa))), none, none, none] [] w7
      else
        if (w7.1 12 aa 4) < (w7.1 12 aa 5) then
          nc_Run m_X12_next 80 [some (.inr (.inr (12, aa))), none, none, none] [] w7
        else
          nc_lt (nc_si w7 12 aa 12 (w7.1 12 aa 5)) fun w8 =>
          nc_lt (nc_si w8 12 aa 11 4) fun w9 =>
          some (none, w9)
    else
      nc_lt (nc_si w4 12 aa 4 ((w4.1 12 aa 4) + 1)) fun w10 =>
      nc_Run m_X12_next 0 [some (.inr (.inr (12, aa))), none, none, none] [] w10 :=
  (nc_Run_un [0, 80, 181, 201, 220] 33).trans rfl
set_option maxRecDepth 100000 in
theorem qr_X12_next_80 (aa : Nat) (w : nc_H) : nc_Run m_X12_next 80 [some (.inr (.inr (12, aa))), none, none, none] [] w =
  nc_bI (nc_Call m_X12_peek [.inr (.inr (12, aa))] w) fun r2 w1 =>
  if (0 : Int32) ≤ r2 then
    nc_bI (nc_Call m_X12_isSmall [.inl r2] w1) fun r4 w3 =>
    if r4 ≠ 0 then
      nc_bI (nc_Call m_X12_isSmall [.inl r2] w3) fun r6 w5 =>
      nc_lt (nc_sl w5 12 aa 17 0) fun w7 =>
      nc_lt (nc_si w7 12 aa 14 0) fun w8 =>
      nc_Run m_X12_next 181 [some (.inr (.inr (12, aa))), none, some (.inl r6), some (.inl 1)] [] w8
    else
      nc_bI (nc_Call m_X12_isDigit [.inl r2] w3) fun r10 w9 =>
      if r10 ≠ 0 then
        nc_bI (nc_Call m_X12_isSmall [.inl r2] w9) fun r12 w11 =>
        nc_lt (nc_sl w11 12 aa 17 0) fun w13 =>
        nc_lt (nc_si w13 12 aa 14 0) fun w14 =>
        nc_Run m_X12_next 181 [some (.inr (.inr (12, aa))), none, some (.inl r12), some (.inl 1)] [] w14
      else
        if r2 = 59 then
          nc_lt (nc_si w9 12 aa 11 3) fun w15 =>
          nc_lt (nc_si w15 12 aa 14 r2) fun w16 =>
          nc_lt (nc_si w16 12 aa 4 ((w16.1 12 aa 4) + 1)) fun w17 =>
          some (none, w17)
        else
          if r2 = 40 then
            nc_lt (nc_si w9 12 aa 11 3) fun w18 =>
            nc_lt (nc_si w18 12 aa 14 r2) fun w19 =>
            nc_lt (nc_si w19 12 aa 4 ((w19.1 12 aa 4) + 1)) fun w20 =>
            some (none, w20)
          else
            if r2 = 41 then
              nc_lt (nc_si w9 12 aa 11 3) fun w21 =>
              nc_lt (nc_si w21 12 aa 14 r2) fun w22 =>
              nc_lt (nc_si w22 12 aa 4 ((w22.1 12 aa 4) + 1)) fun w23 =>
              some (none, w23)
            else
              if r2 < 60 then
                nc_lt (nc_si w9 12 aa 11 4) fun w24 =>
                nc_lt (nc_si w24 12 aa 14 r2) fun w25 =>
                nc_lt (nc_si w25 12 aa 4 ((w25.1 12 aa 4) + 1)) fun w26 =>
                some (none, w26)
              else
                if (62 : Int32) < r2 then
                  nc_lt (nc_si w9 12 aa 11 4) fun w27 =>
                  nc_lt (nc_si w27 12 aa 14 r2) fun w28 =>
                  nc_lt (nc_si w28 12 aa 4 ((w28.1 12 aa 4) + 1)) fun w29 =>
                  some (none, w29)
                else
                  nc_lt (nc_si w9 12 aa 11 3) fun w30 =>
                  nc_lt (nc_si w30 12 aa 14 r2) fun w31 =>
                  nc_lt (nc_si w31 12 aa 4 ((w31.1 12 aa 4) + 1)) fun w32 =>
                  some (none, w32)
  else
    nc_lt (nc_si w1 12 aa 11 0) fun w33 =>
    some (none, w33) :=
  (nc_Run_un [0, 80, 181, 201, 220] 40).trans rfl
set_option maxRecDepth 100000 in
theorem qr_X12_next_181 (aa : Nat) (xc : Int32) (xd : Int32) (w : nc_H) : nc_Run m_X12_next 181 [some (.inr (.inr (12, aa))), none, some (.inl xc), some (.inl xd)] [] w =
  nc_bI (nc_Call m_X12_peek [.inr (.inr (12, aa))] w) fun r2 w1 =>
  nc_bI (nc_Call m_X12_isSmall [.inl r2] w1) fun r4 w3 =>
  if r4 ≠ 0 then
    nc_Run m_X12_next 201 [some (.inr (.inr (12, aa))), none, some (.inl xc), some (.inl xd)] [] w3
  else
    nc_bI (nc_Call m_X12_peek [.inr (.inr (12, aa))] w3) fun r6 w5 =>
    nc_bI (nc_Call m_X12_isDigit [.inl r6] w5) fun r8 w7 =>
    if r8 = 0 then
      if xd = 0 then
        nc_lt (nc_si w7 12 aa 11 4) fun w9 =>
        some (none, w9)
      else
        if xc = 0 then
          if (w7.1 12 aa 13) ≤ 3 then
            if xc = 0 then
              nc_lt (nc_si w7 12 aa 11 2) fun w10 =>
              some (none, w10)
            else
              nc_lt (nc_si w7 12 aa 11 1) fun w11 =>
              some (none, w11)
          else
            nc_lt (nc_si w7 12 aa 11 4) fun w12 =>
            some (none, w12)
        else
          if (w7.1 12 aa 13) ≤ 7 then
            if xc = 0 then
              nc_lt (nc_si w7 12 aa 11 2) fun w13 =>
              some (none, w13)
            else
              nc_lt (nc_si w7 12 aa 11 1) fun w14 =>
              some (none, w14)
          else
            nc_lt (nc_si w7 12 aa 11 4) fun w15 =>
            some (none, w15)
    else
      nc_Run m_X12_next 201 [some (.inr (.inr (12, aa))), none, some (.inl xc), some (.inl xd)] [] w7 :=
  (nc_Run_un [0, 80, 181, 201, 220] 24).trans rfl
set_option maxRecDepth 100000 in
theorem qr_X12_next_201 (aa : Nat) (xc : Int32) (xd : Int32) (w : nc_H) : nc_Run m_X12_next 201 [some (.inr (.inr (12, aa))), none, some (.inl xc), some (.inl xd)] [] w =
  if xd = 0 then
    nc_Run m_X12_next 220 [some (.inr (.inr (12, aa))), none, some (.inl xc), none] [] w
  else
    nc_bI (nc_Call m_X12_peek [.inr (.inr (12, aa))] w) fun r2 w1 =>
    nc_bI (nc_Call m_X12_isSmall [.inl r2] w1) fun r4 w3 =>
    if r4 ≠ xc then
      nc_Run m_X12_next 220 [some (.inr (.inr (12, aa))), none, some (.inl xc), none] [] w3
    else
      if (7 : Int32) ≤ (w3.1 12 aa 13) then
        if (3 : Int32) ≤ (w3.1 12 aa 13) then
          nc_lt (nc_si w3 12 aa 13 ((w3.1 12 aa 13) + 1)) fun w5 =>
          nc_lt (nc_si w5 12 aa 4 ((w5.1 12 aa 4) + 1)) fun w6 =>
          nc_Run m_X12_next 181 [some (.inr (.inr (12, aa))), none, some (.inl xc), some (.inl 1)] [] w6
        else
          nc_bI (nc_Call m_X12_peek [.inr (.inr (12, aa))] w3) fun r8 w7 =>
          nc_lt (nc_si w7 12 aa 14 (((10 * (w3.1 12 aa 14)) + r8) - 48)) fun w9 =>
          nc_lt (nc_si w9 12 aa 13 ((w9.1 12 aa 13) + 1)) fun w10 =>
          nc_lt (nc_si w10 12 aa 4 ((w10.1 12 aa 4) + 1)) fun w11 =>
          nc_Run m_X12_next 181 [some (.inr (.inr (12, aa))), none, some (.inl xc), some (.inl 1)] [] w11
      else
        nc_bI (nc_Call m_X12_peek [.inr (.inr (12, aa))] w3) fun r13 w12 =>
        nc_lt (nc_sl w12 12 aa 17 (((w3.2 12 aa 17) <<< ((8 : Int32).toInt64 &&& 63)) ||| r13.toInt64)) fun w14 =>
        if (3 : Int32) ≤ (w14.1 12 aa 13) then
          nc_lt (nc_si w14 12 aa 13 ((w14.1 12 aa 13) + 1)) fun w15 =>
          nc_lt (nc_si w15 12 aa 4 ((w15.1 12 aa 4) + 1)) fun w16 =>
          nc_Run m_X12_next 181 [some (.inr (.inr (12, aa))), none, some (.inl xc), some (.inl 1)] [] w16
        else
          nc_bI (nc_Call m_X12_peek [.inr (.inr (12, aa))] w14) fun r18 w17 =>
          nc_lt (nc_si w17 12 aa 14 (((10 * (w14.1 12 aa 14)) + r18) - 48)) fun w19 =>
          nc_lt (nc_si w19 12 aa 13 ((w19.1 12 aa 13) + 1)) fun w20 =>
          nc_lt (nc_si w20 12 aa 4 ((w20.1 12 aa 4) + 1)) fun w21 =>
          nc_Run m_X12_next 181 [some (.inr (.inr (12, aa))), none, some (.inl xc), some (.inl 1)] [] w21 :=
  (nc_Run_un [0, 80, 181, 201, 220] 53).trans rfl
set_option maxRecDepth 100000 in
theorem qr_X12_next_220 (aa : Nat) (xc : Int32) (w : nc_H) : nc_Run m_X12_next 220 [some (.inr (.inr (12, aa))), none, some (.inl xc), none] [] w =
  if (7 : Int32) ≤ (w.1 12 aa 13) then
    if (3 : Int32) ≤ (w.1 12 aa 13) then
      nc_lt (nc_si w 12 aa 13 ((w.1 12 aa 13) + 1)) fun w1 =>
      nc_lt (nc_si w1 12 aa 4 ((w1.1 12 aa 4) + 1)) fun w2 =>
      nc_Run m_X12_next 181 [some (.inr (.inr (12, aa))), none, some (.inl xc), some (.inl 0)] [] w2
    else
      nc_bI (nc_Call m_X12_peek [.inr (.inr (12, aa))] w) fun r4 w3 =>
      nc_lt (nc_si w3 12 aa 14 (((10 * (w.1 12 aa 14)) + r4) - 48)) fun w5 =>
      nc_lt (nc_si w5 12 aa 13 ((w5.1 12 aa 13) + 1)) fun w6 =>
      nc_lt (nc_si w6 12 aa 4 ((w6.1 12 aa 4) + 1)) fun w7 =>
      nc_Run m_X12_next 181 [some (.inr (.inr (12, aa))), none, some (.inl xc), some (.inl 0)] [] w7
  else
    nc_bI (nc_Call m_X12_peek [.inr (.inr (12, aa))] w) fun r9 w8 =>
    nc_lt (nc_sl w8 12 aa 17 (((w.2 12 aa 17) <<< ((8 : Int32).toInt64 &&& 63)) ||| r9.toInt64)) fun w10 =>
    if (3 : Int32) ≤ (w10.1 12 aa 13) then
      nc_lt (nc_si w10 12 aa 13 ((w10.1 12 aa 13) + 1)) fun w11 =>
      nc_lt (nc_si w11 12 aa 4 ((w11.1 12 aa 4) + 1)) fun w12 =>
      nc_Run m_X12_next 181 [some (.inr (.inr (12, aa))), none, some (.inl xc), some (.inl 0)] [] w12
    else
      nc_bI (nc_Call m_X12_peek [.inr (.inr (12, aa))] w10) fun r14 w13 =>
      nc_lt (nc_si w13 12 aa 14 (((10 * (w10.1 12 aa 14)) + r14) - 48)) fun w15 =>
      nc_lt (nc_si w15 12 aa 13 ((w15.1 12 aa 13) + 1)) fun w16 =>
      nc_lt (nc_si w16 12 aa 4 ((w16.1 12 aa 4) + 1)) fun w17 =>
      nc_Run m_X12_next 181 [some (.inr (.inr (12, aa))), none, some (.inl xc), some (.inl 0)] [] w17 :=
  (nc_Run_un [0, 80, 181, 201, 220] 45).trans rfl
set_option maxRecDepth 100000 in
theorem qc_X12_sign (aa : Nat) (xb : Int32) (w : nc_H) : nc_Call m_X12_sign [.inr (.inr (12, aa)), .inl xb] w =
  nc_bI (nc_Call m_X12_isSign [.inr (.inr (12, aa)), .inl xb] w) fun r2 w1 =>
  if r2 ≠ 0 then
    nc_bV (nc_Call m_X12_next [.inr (.inr (12, aa))] w1) fun w3 =>
    some (some (.inl 1), w3)
  else
    nc_bI (nc_Call m_X12_bad [.inr (.inr (12, aa)), .inl 1] w1) fun r5 w4 =>
    nc_z r5 <| some (some (.inl r5), w4) :=
  (nc_Call_eq _ _ _).trans ((if_pos (Nat.le_of_ble_eq_true rfl)).trans ((nc_Run_un [] 8).trans rfl))
set_option maxRecDepth 100000 in
theorem qc_X12_takes (aa : Nat) (xb : Int32) (xc : Int32) (w : nc_H) : nc_Call m_X12_takes [.inr (.inr (12, aa)), .inl xb, .inl xc] w =
  if (w.1 12 aa 11) = 2 then
    nc_bI (nc_Call m_X12_isIn [.inl (w.1 12 aa 14), .inl xb, .inl xc] w) fun r2 w1 =>
    if r2 ≠ 0 then
      nc_lt (nc_si w1 12 aa 18 (w1.1 12 aa 14)) fun w3 =>
      nc_bV (nc_Call m_X12_next [.inr (.inr (12, aa))] w3) fun w4 =>
      some (some (.inl 1), w4)
    else
      nc_bI (nc_Call m_X12_bad [.inr (.inr (12, aa)), .inl 2] w1) fun r6 w5 =>
      nc_z r6 <| some (some (.inl r6), w5)
  else
    nc_bI (nc_Call m_X12_bad [.inr (.inr (12, aa)), .inl 1] w) fun r8 w7 =>
    nc_z r8 <| some (some (.inl r8), w7) :=
  (nc_Call_eq _ _ _).trans ((if_pos (Nat.le_of_ble_eq_true rfl)).trans ((nc_Run_un [] 18).trans rfl))
set_option maxRecDepth 100000 in
theorem qc_X12_puts (aa : Nat) (xb : Int32) (xc : Int32) (xd : Int32) (w : nc_H) : nc_Call m_X12_puts [.inr (.inr (12, aa)), .inl xb, .inl xc, .inl xd] w =
  nc_bI (nc_Call m_X12_takes [.inr (.inr (12, aa)), .inl xc, .inl xd] w) fun r2 w1 =>
  if r2 ≠ 0 then
    nc_bd xb 76 fun j3 =>
    nc_lt (nc_si w1 875 aa j3 (w1.1 12 aa 18)) fun w4 =>
    some (some (.inl 1), w4)
  else
    some (some (.inl 0), w1) :=
  (nc_Call_eq _ _ _).trans ((if_pos (Nat.le_of_ble_eq_true rfl)).trans ((nc_Run_un [] 13).trans rfl))
set_option maxRecDepth 100000 in
theorem qc_X12_fresh (aa : Nat) (xb : Int32) (w : nc_H) : nc_Call m_X12_fresh [.inr (.inr (12, aa)), .inl xb] w =
  nc_bI (nc_Call m_X12_isName [.inr (.inr (12, aa))] w) fun r2 w1 =>
  if r2 ≠ 0 then
    nc_bd 0 76 fun j3 =>
    nc_bI (nc_Call m_X12_seek [.inr (.inr (12, aa)), .inl 22, .inl (w1.1 875 aa j3)] w1) fun r5 w4 =>
    if (0 : Int32) ≤ r5 then
      nc_bI (nc_Call m_X12_bad [.inr (.inr (12, aa)), .inl 3] w4) fun r7 w6 =>
      nc_z r7 <| some (some (.inl r7), w6)
    else
      nc_bd 1 76 fun j8 =>
      nc_bI (nc_Call m_X12_seek [.inr (.inr (12, aa)), .inl 26, .inl (w4.1 875 aa j8)] w4) fun r10 w9 =>
      if (0 : Int32) ≤ r10 then
        nc_bI (nc_Call m_X12_bad [.inr (.inr (12, aa)), .inl 3] w9) fun r12 w11 =>
        nc_z r12 <| some (some (.inl r12), w11)
      else
        nc_bd 2 76 fun j13 =>
        nc_bI (nc_Call m_X12_seek [.inr (.inr (12, aa)), .inl 34, .inl (w9.1 875 aa j13)] w9) fun r15 w14 =>
        if r15 < 0 then
          nc_bd xb 44 fun j16 =>
          nc_lt (nc_sl w14 877 aa j16 (w14.2 12 aa 17)) fun w17 =>
          nc_bV (nc_Call m_X12_next [.inr (.inr (12, aa))] w17) fun w18 =>
          some (some (.inl 1), w18)
        else
          nc_bI (nc_Call m_X12_bad [.inr (.inr (12, aa)), .inl 3] w14) fun r20 w19 =>
          nc_z r20 <| some (some (.inl r20), w19)
  else
    nc_bI (nc_Call m_X12_bad [.inr (.inr (12, aa)), .inl 1] w1) fun r22 w21 =>
    nc_z r22 <| some (some (.inl r22), w21) :=
  (nc_Call_eq _ _ _).trans ((if_pos (Nat.le_of_ble_eq_true rfl)).trans ((nc_Run_un [] 37).trans rfl))
set_option maxRecDepth 100000 in
theorem qc_X12_looksAt (aa : Nat) (xb : Int32) (xc : Int32) (w : nc_H) : nc_Call m_X12_looksAt [.inr (.inr (12, aa)), .inl xb, .inl xc] w =
  nc_bI (nc_Call m_X12_isName [.inr (.inr (12, aa))] w) fun r2 w1 =>
  if r2 ≠ 0 then
    nc_bI (nc_Call m_X12_seek [.inr (.inr (12, aa)), .inl xb, .inl xc] w1) fun r4 w3 =>
    nc_lt (nc_si w3 12 aa 18 r4) fun w5 =>
    if (0 : Int32) ≤ (w5.1 12 aa 18) then
      some (some (.inl 1), w5)
    else
      nc_bI (nc_Call m_X12_bad [.inr (.inr (12, aa)), .inl 3] w5) fun r7 w6 =>
      if r7 = 0 then
        some (some (.inl 0), w6)
      else
        some (some (.inl 1), w6)
  else
    nc_bI (nc_Call m_X12_bad [.inr (.inr (12, aa)), .inl 1] w1) fun r9 w8 =>
    nc_z r9 <| some (some (.inl r9), w8) :=
  (nc_Call_eq _ _ _).trans ((if_pos (Nat.le_of_ble_eq_true rfl)).trans ((nc_Run_un [] 19).trans rfl))
set_option maxRecDepth 100000 in
theorem qc_X12_takesName (aa : Nat) (xb : Int32) (xc : Int32) (w : nc_H) : nc_Call m_X12_takesName [.inr (.inr (12, aa)), .inl xb, .inl xc] w =
  nc_bI (nc_Call m_X12_looksAt [.inr (.inr (12, aa)), .inl xb, .inl xc] w) fun r2 w1 =>
  if r2 ≠ 0 then
    nc_bV (nc_Call m_X12_next [.inr (.inr (12, aa))] w1) fun w3 =>
    some (some (.inl 1), w3)
  else
    some (some (.inl 0), w1) :=
  (nc_Call_eq _ _ _).trans ((if_pos (Nat.le_of_ble_eq_true rfl)).trans ((nc_Run_un [] 9).trans rfl))
set_option maxRecDepth 100000 in
theorem qc_X12_kindOf (aa : Nat) (w : nc_H) : nc_Call m_X12_kindOf [.inr (.inr (12, aa))] w =
  nc_bI (nc_Call m_X12_isWord [.inr (.inr (12, aa)), .inr (.inl 482854660462)] w) fun r2 w1 =>
  if r2 = 0 then
    nc_bI (nc_Call m_X12_isWord [.inr (.inr (12, aa)), .inr (.inl 32478892436775276)] w1) fun r4 w3 =>
    if r4 = 0 then
      nc_bI (nc_Call m_X12_isWord [.inr (.inr (12, aa)), .inr (.inl 7823730)] w3) fun r6 w5 =>
      if r6 = 0 then
        nc_bI (nc_Call m_X12_isWord [.inr (.inr (12, aa)), .inr (.inl 33606991467799922)] w5) fun r8 w7 =>
        if r8 = 0 then
          some (some (.inl (-1)), w7)
        else
          some (some (.inl 3), w7)
      else
        some (some (.inl 2), w5)
    else
      some (some (.inl 1), w3)
  else
    some (some (.inl 0), w1) :=
  (nc_Call_eq _ _ _).trans ((if_pos (Nat.le_of_ble_eq_true rfl)).trans ((nc_Run_un [] 19).trans rfl))
set_option maxRecDepth 100000 in
theorem qc_X12_readNews (aa : Nat) (w : nc_H) : nc_Call m_X12_readNews [.inr (.inr (12, aa))] w =
  nc_bd 2 76 fun j1 =>
  nc_li (w.1 875 aa j1) fun x2 =>
  if x2 ≠ 10 then
    nc_bV (nc_Call m_X12_next [.inr (.inr (12, aa))] w) fun w3 =>
    nc_bI (nc_Call m_X12_fresh [.inr (.inr (12, aa)), .inl (34 + x2)] w3) fun r5 w4 =>
    if r5 ≠ 0 then
      nc_bI (nc_Call m_X12_kindOf [.inr (.inr (12, aa))] w4) fun r7 w6 =>
      nc_bd (37 + x2) 76 fun j8 =>
      nc_lt (nc_si w6 875 aa j8 r7) fun w9 =>
      nc_bd (37 + x2) 76 fun j10 =>
      if (0 : Int32) ≤ (w9.1 875 aa j10) then
        nc_bV (nc_Call m_X12_next [.inr (.inr (12, aa))] w9) fun w11 =>
        nc_bI (nc_Call m_X12_puts [.inr (.inr (12, aa)), .inl (47 + x2), .inl 0, .inl 20] w11) fun r13 w12 =>
        if r13 ≠ 0 then
          nc_bI (nc_Call m_X12_isWord [.inr (.inr (12, aa)), .inr (.inl 7104869)] w12) fun r15 w14 =>
          if r15 = 0 then
            nc_bd 2 76 fun j16 =>
            nc_bd 2 76 fun j17 =>
            nc_lt (nc_si w14 875 aa j17 ((w14.1 875 aa j16) + 1)) fun w18 =>
            some (some (.inl 1), w18)
          else
            nc_bd 57 76 fun j19 =>
            nc_bd 57 76 fun j20 =>
            nc_lt (nc_si w14 875 aa j20 ((w14.1 875 aa j19) ||| (1 <<< (x2 &&& 31)))) fun w21 =>
            nc_bV (nc_Call m_X12_next [.inr (.inr (12, aa))] w21) fun w22 =>
            nc_bd 2 76 fun j23 =>
            nc_bd 2 76 fun j24 =>
            nc_lt (nc_si w22 875 aa j24 ((w22.1 875 aa j23) + 1)) fun w25 =>
            some (some (.inl 1), w25)
        else
          some (some (.inl 0), w12)
      else
        nc_bI (nc_Call m_X12_bad [.inr (.inr (12, aa)), .inl 1] w9) fun r27 w26 =>
        nc_z r27 <| some (some (.inl r27), w26)
    else
      some (some (.inl 0), w4)
  else
    nc_bI (nc_Call m_X12_bad [.inr (.inr (12, aa)), .inl 4] w) fun r29 w28 =>
    nc_z r29 <| some (some (.inl r29), w28) :=
  (nc_Call_eq _ _ _).trans ((if_pos (Nat.le_of_ble_eq_true rfl)).trans ((nc_Run_un [] 67).trans rfl))
set_option maxRecDepth 100000 in
theorem qc_X12_readHedge (aa : Nat) (w : nc_H) : nc_Call m_X12_readHedge [.inr (.inr (12, aa))] w =
  nc_bd 3 76 fun j1 =>
  nc_li (w.1 875 aa j1) fun x2 =>
  nc_bV (nc_Call m_X12_next [.inr (.inr (12, aa))] w) fun w3 =>
  nc_bd 0 76 fun j4 =>
  nc_bI (nc_Call m_X12_takesName [.inr (.inr (12, aa)), .inl 22, .inl (w3.1 875 aa j4)] w3) fun r6 w5 =>
  if r6 ≠ 0 then
    nc_li (w5.1 12 aa 18) fun x7 =>
    nc_bd 0 76 fun j8 =>
    nc_bI (nc_Call m_X12_looksAt [.inr (.inr (12, aa)), .inl 22, .inl (w5.1 875 aa j8)] w5) fun r10 w9 =>
    if r10 ≠ 0 then
      if (w9.1 12 aa 18) = x7 then
        nc_Run m_X12_readHedge 67 [some (.inr (.inr (12, aa))), some (.inl x2), some (.inl x7), some (.inl 0), some (.inl 0)] [] w9
      else
        nc_Run m_X12_readHedge 67 [some (.inr (.inr (12, aa))), some (.inl x2), some (.inl x7), some (.inl 1), some (.inl 0)] [] w9
    else
      some (some (.inl 0), w9)
  else
    some (some (.inl 0), w5) :=
  (nc_Call_eq _ _ _).trans ((if_pos (Nat.le_of_ble_eq_true rfl)).trans ((nc_Run_un [67] 36).trans rfl))
set_option maxRecDepth 100000 in
theorem qr_X12_readHedge_67 (aa : Nat) (xb : Int32) (xc : Int32) (xd : Int32) (xe : Int32) (w : nc_H) : nc_Run m_X12_readHedge 67 [some (.inr (.inr (12, aa))), some (.inl xb), some (.inl xc), some (.inl xd), some (.inl xe)] [] w =
  if xb ≤ xe then
    if xd ≠ 0 then
      nc_bd (58 + xb) 76 fun j1 =>
      nc_lt (nc_si w 875 aa j1 xc) fun w2 =>
      nc_bd (64 + xb) 76 fun j3 =>
      nc_lt (nc_si w2 875 aa j3 (w2.1 12 aa 18)) fun w4 =>
      nc_bV (nc_Call m_X12_next [.inr (.inr (12, aa))] w4) fun w5 =>
      nc_bI (nc_Call m_X12_puts [.inr (.inr (12, aa)), .inl (70 + xb), .inl 1, .inl 9] w5) fun r7 w6 =>
      if r7 ≠ 0 then
        nc_bd 3 76 fun j8 =>
        nc_bd 3 76 fun j9 =>
        nc_lt (nc_si w6 875 aa j9 ((w6.1 875 aa j8) + 1)) fun w10 =>
        some (some (.inl 1), w10)
      else
        some (some (.inl 0), w6)
    else
      nc_bI (nc_Call m_X12_bad [.inr (.inr (12, aa)), .inl 3] w) fun r12 w11 =>
      nc_z r12 <| some (some (.inl r12), w11)
  else
    if xd = 0 then
      nc_li (xe + 1) fun x13 =>
      nc_Run m_X12_readHedge 67 [some (.inr (.inr (12, aa))), some (.inl xb), some (.inl xc), some (.inl 0), some (.inl x13)] [] w
    else
      nc_bd (58 + xe) 76 fun j14 =>
      if (w.1 875 aa j14) ≠ xc then
        nc_bd (58 + xe) 76 fun j15 =>
        if (w.1 875 aa j15) ≠ (w.1 12 aa 18) then
          nc_li (xe + 1) fun x16 =>
          nc_Run m_X12_readHedge 67 [some (.inr (.inr (12, aa))), some (.inl xb), some (.inl xc), some (.inl 1), some (.inl x16)] [] w
        else
          nc_bd (64 + xe) 76 fun j17 =>
          if (w.1 875 aa j17) = xc then
            nc_li (xe + 1) fun x18 =>
            nc_Run m_X12_readHedge 67 [some (.inr (.inr (12, aa))), some (.inl xb), some (.inl xc), some (.inl 0), some (.inl x18)] [] w
          else
            nc_li (xe + 1) fun x19 =>
            nc_Run m_X12_readHedge 67 [some (.inr (.inr (12, aa))), some (.inl xb), some (.inl xc), some (.inl 1), some (.inl x19)] [] w
      else
        nc_bd (64 + xe) 76 fun j20 =>
        if (w.1 875 aa j20) = (w.1 12 aa 18) then
          nc_li (xe + 1) fun x21 =>
          nc_Run m_X12_readHedge 67 [some (.inr (.inr (12, aa))), some (.inl xb), some (.inl xc), some (.inl 0), some (.inl x21)] [] w
        else
          nc_bd (58 + xe) 76 fun j22 =>
          if (w.1 875 aa j22) ≠ (w.1 12 aa 18) then
            nc_li (xe + 1) fun x23 =>
            nc_Run m_X12_readHedge 67 [some (.inr (.inr (12, aa))), some (.inl xb), some (.inl xc), some (.inl 1), some (.inl x23)] [] w
          else
            nc_bd (64 + xe) 76 fun j24 =>
            if (w.1 875 aa j24) = xc then
              nc_li (xe + 1) fun x25 =>
              nc_Run m_X12_readHedge 67 [some (.inr (.inr (12, aa))), some (.inl xb), some (.inl xc), some (.inl 0), some (.inl x25)] [] w
            else
              nc_li (xe + 1) fun x26 =>
              nc_Run m_X12_readHedge 67 [some (.inr (.inr (12, aa))), some (.inl xb), some (.inl xc), some (.inl 1), some (.inl x26)] [] w :=
  (nc_Run_un [67] 45).trans rfl
set_option maxRecDepth 100000 in
theorem qc_X12_line (aa : Nat) (w : nc_H) : nc_Call m_X12_line [.inr (.inr (12, aa))] w =
  nc_bI (nc_Call m_X12_isWord [.inr (.inr (12, aa)), .inr (.inl 1717662317)] w) fun r2 w1 =>
  if r2 = 0 then
    nc_bI (nc_Call m_X12_isWord [.inr (.inr (12, aa)), .inr (.inl 6516599)] w1) fun r4 w3 =>
    if r4 = 0 then
      nc_bI (nc_Call m_X12_isWord [.inr (.inr (12, aa)), .inr (.inl 1852143475)] w3) fun r6 w5 =>
      if r6 = 0 then
        nc_bI (nc_Call m_X12_isWord [.inr (.inr (12, aa)), .inr (.inl 448377677669)] w5) fun r8 w7 =>
        if r8 = 0 then
          nc_bI (nc_Call m_X12_isWord [.inr (.inr (12, aa)), .inr (.inl 448377483891)] w7) fun r10 w9 =>
          if r10 ≠ 0 then
            if (w9.1 12 aa 20) = 0 then
              nc_lt (nc_si w9 12 aa 20 1) fun w11 =>
              nc_bV (nc_Call m_X12_next [.inr (.inr (12, aa))] w11) fun w12 =>
              nc_bI (nc_Call m_X12_puts [.inr (.inr (12, aa)), .inl 4, .inl 1, .inl 5] w12) fun r14 w13 =>
              nc_z r14 <| some (some (.inl r14), w13)
            else
              nc_bI (nc_Call m_X12_bad [.inr (.inr (12, aa)), .inl 3] w9) fun r16 w15 =>
              nc_z r16 <| some (some (.inl r16), w15)
          else
            nc_bI (nc_Call m_X12_bad [.inr (.inr (12, aa)), .inl 1] w9) fun r18 w17 =>
            nc_z r18 <| some (some (.inl r18), w17)
        else
          nc_bI (nc_Call m_X12_readHedge [.inr (.inr (12, aa))] w7) fun r20 w19 =>
          nc_z r20 <| some (some (.inl r20), w19)
      else
        nc_bI (nc_Call m_X12_readNews [.inr (.inr (12, aa))] w5) fun r22 w21 =>
        nc_z r22 <| some (some (.inl r22), w21)
    else
      nc_bd 1 76 fun j23 =>
      nc_li (w3.1 875 aa j23) fun x24 =>
      if x24 ≠ 8 then
        nc_bV (nc_Call m_X12_next [.inr (.inr (12, aa))] w3) fun w25 =>
        nc_bI (nc_Call m_X12_fresh [.inr (.inr (12, aa)), .inl (26 + x24)] w25) fun r27 w26 =>
        if r27 = 0 then
          some (some (.inl 0), w26)
        else
          nc_bd 0 76 fun j28 =>
          nc_bI (nc_Call m_X12_takesName [.inr (.inr (12, aa)), .inl 22, .inl (w26.1 875 aa j28)] w26) fun r30 w29 =>
          if r30 ≠ 0 then
            nc_bd (5 + x24) 76 fun j31 =>
            nc_lt (nc_si w29 875 aa j31 (w29.1 12 aa 18)) fun w32 =>
            nc_bI (nc_Call m_X12_puts [.inr (.inr (12, aa)), .inl (13 + x24), .inl 1, .inl 40] w32) fun r34 w33 =>
            if r34 = 0 then
              some (some (.inl 0), w33)
            else
              nc_bI (nc_Call m_X12_puts [.inr (.inr (12, aa)), .inl (21 + x24), .inl 1, .inl 9] w33) fun r36 w35 =>
              if r36 = 0 then
                some (some (.inl 0), w35)
              else
                nc_bI (nc_Call m_X12_puts [.inr (.inr (12, aa)), .inl (29 + x24), .inl 1, .inl 30] w35) fun r38 w37 =>
                if r38 ≠ 0 then
                  nc_bd 1 76 fun j39 =>
                  nc_bd 1 76 fun j40 =>
                  nc_lt (nc_si w37 875 aa j40 ((w37.1 875 aa j39) + 1)) fun w41 =>
                  some (some (.inl 1), w41)
                else
                  some (some (.inl 0), w37)
          else
            some (some (.inl 0), w29)
      else
        nc_bI (nc_Call m_X12_bad [.inr (.inr (12, aa)), .inl 4] w3) fun r43 w42 =>
        nc_z r43 <| some (some (.inl r43), w42)
  else
    nc_bd 0 76 fun j44 =>
    if (w1.1 875 aa j44) ≠ 4 then
      nc_bV (nc_Call m_X12_next [.inr (.inr (12, aa))] w1) fun w45 =>
      nc_bd 0 76 fun j46 =>
      nc_bI (nc_Call m_X12_fresh [.inr (.inr (12, aa)), .inl (22 + (w45.1 875 aa j46))] w45) fun r48 w47 =>
      if r48 ≠ 0 then
        nc_bd 0 76 fun j49 =>
        nc_bd 0 76 fun j50 =>
        nc_lt (nc_si w47 875 aa j50 ((w47.1 875 aa j49) + 1)) fun w51 =>
        some (some (.inl 1), w51)
      else
        some (some (.inl 0), w47)
    else
      nc_bI (nc_Call m_X12_bad [.inr (.inr (12, aa)), .inl 4] w1) fun r53 w52 =>
      nc_z r53 <| some (some (.inl r53), w52) :=
  (nc_Call_eq _ _ _).trans ((if_pos (Nat.le_of_ble_eq_true rfl)).trans ((nc_Run_un [] 74).trans rfl))
set_option maxRecDepth 100000 in
theorem qc_X12_dairy (aa : Nat) (w : nc_H) : nc_Call m_X12_dairy [.inr (.inr (12, aa))] w =
  nc_lt (nc_si w 12 aa 0 0) fun w1 =>
  nc_bV (nc_Call m_X12_taken [.inr (.inr (12, aa)), .inl 900] w1) fun w2 =>
  nc_lt (nc_si w2 12 aa 15 0) fun w3 =>
  nc_lt (nc_si w3 12 aa 19 0) fun w4 =>
  nc_lt (nc_si w4 12 aa 20 0) fun w5 =>
  nc_Run m_X12_dairy 29 [some (.inr (.inr (12, aa))), some (.inl 0)] [] w5 :=
  (nc_Call_eq _ _ _).trans ((if_pos (Nat.le_of_ble_eq_true rfl)).trans ((nc_Run_un [29, 59, 104, 141] 18).trans rfl))
set_option maxRecDepth 100000 in
theorem qr_X12_dairy_29 (aa : Nat) (xb : Int32) (w : nc_H) : nc_Run m_X12_dairy 29 [some (.inr (.inr (12, aa))), some (.inl xb)] [] w =
  if (76 : Int32) ≤ xb then
    nc_bd 4 76 fun j1 =>
    nc_lt (nc_si w 875 aa j1 3) fun w2 =>
    nc_bV (nc_Call m_X12_next [.inr (.inr (12, aa))] w2) fun w3 =>
    nc_Run m_X12_dairy 59 [some (.inr (.inr (12, aa))), none] [] w3
  else
    nc_bd xb 76 fun j4 =>
    nc_lt (nc_si w 875 aa j4 0) fun w5 =>
    nc_li (xb + 1) fun x6 =>
    nc_Run m_X12_dairy 29 [some (.inr (.inr (12, aa))), some (.inl x6)] [] w5 :=
  (nc_Run_un [29, 59, 104, 141] 11).trans rfl
set_option maxRecDepth 100000 in
theorem qr_X12_dairy_59 (aa : Nat) (w : nc_H) : nc_Run m_X12_dairy 59 [some (.inr (.inr (12, aa))), none] [] w =
  if (w.1 12 aa 11) = 0 then
    nc_Run m_X12_dairy 104 [some (.inr (.inr (12, aa))), some (.inl 0)] [] w
  else
    nc_bI (nc_Call m_X12_line [.inr (.inr (12, aa))] w) fun r2 w1 =>
    if r2 = 0 then
      some (some (.inl ((-1) - (w1.1 12 aa 16))), w1)
    else
      nc_bI (nc_Call m_X12_sign [.inr (.inr (12, aa)), .inl 59] w1) fun r4 w3 =>
      if r4 ≠ 0 then
        nc_lt (nc_si w3 12 aa 19 ((w3.1 12 aa 19) + 1)) fun w5 =>
        nc_Run m_X12_dairy 59 [some (.inr (.inr (12, aa))), none] [] w5
      else
        some (some (.inl ((-1) - (w3.1 12 aa 16))), w3) :=
  (nc_Run_un [29, 59, 104, 141] 18).trans rfl
set_option maxRecDepth 100000 in
theorem qr_X12_dairy_104 (aa : Nat) (xb : Int32) (w : nc_H) : nc_Run m_X12_dairy 104 [some (.inr (.inr (12, aa))), some (.inl xb)] [] w =
  if (513 : Int32) ≤ xb then
    nc_Run m_X12_dairy 141 [some (.inr (.inr (12, aa))), some (.inl 0)] [] w
  else
    if (76 : Int32) ≤ xb then
      nc_bd xb 513 fun j1 =>
      nc_lt (nc_si w 874 aa j1 0) fun w2 =>
      nc_li (xb + 1) fun x3 =>
      nc_Run m_X12_dairy 104 [some (.inr (.inr (12, aa))), some (.inl x3)] [] w2
    else
      nc_bd xb 76 fun j4 =>
      nc_bd xb 513 fun j5 =>
      nc_lt (nc_si w 874 aa j5 (w.1 875 aa j4)) fun w6 =>
      nc_li (xb + 1) fun x7 =>
      nc_Run m_X12_dairy 104 [some (.inr (.inr (12, aa))), some (.inl x7)] [] w6 :=
  (nc_Run_un [29, 59, 104, 141] 18).trans rfl
set_option maxRecDepth 100000 in
theorem qr_X12_dairy_141 (aa : Nat) (xb : Int32) (w : nc_H) : nc_Run m_X12_dairy 141 [some (.inr (.inr (12, aa))), some (.inl xb)] [] w =
  if (22 : Int32) ≤ xb then
    nc_lt (nc_si w 12 aa 24 0) fun w1 =>
    some (some (.inl (w1.1 12 aa 19)), w1)
  else
    nc_bd (22 + xb) 44 fun j2 =>
    nc_bd xb 44 fun j3 =>
    nc_lt (nc_sl w 877 aa j3 (w.2 877 aa j2)) fun w4 =>
    nc_li (xb + 1) fun x5 =>
    nc_Run m_X12_dairy 141 [some (.inr (.inr (12, aa))), some (.inl x5)] [] w4 :=
  (nc_Run_un [29, 59, 104, 141] 16).trans rfl
set_option maxRecDepth 100000 in
theorem qc_X12_isFarm (aa : Nat) (xb : Int32) (w : nc_H) : nc_Call m_X12_isFarm [.inr (.inr (12, aa)), .inl xb] w =
  nc_bd 0 513 fun j1 =>
  nc_bI (nc_Call m_X12_isIn [.inl xb, .inl 0, .inl ((w.1 874 aa j1) - 1)] w) fun r3 w2 =>
  nc_z r3 <| some (some (.inl r3), w2) :=
  (nc_Call_eq _ _ _).trans ((if_pos (Nat.le_of_ble_eq_true rfl)).trans ((nc_Run_un [] 10).trans rfl))
set_option maxRecDepth 100000 in
theorem qc_X12_isCow (aa : Nat) (xb : Int32) (w : nc_H) : nc_Call m_X12_isCow [.inr (.inr (12, aa)), .inl xb] w =
  nc_bd 1 513 fun j1 =>
  nc_bI (nc_Call m_X12_isIn [.inl xb, .inl 0, .inl ((w.1 874 aa j1) - 1)] w) fun r3 w2 =>
  nc_z r3 <| some (some (.inl r3), w2) :=
  (nc_Call_eq _ _ _).trans ((if_pos (Nat.le_of_ble_eq_true rfl)).trans ((nc_Run_un [] 10).trans rfl))
set_option maxRecDepth 100000 in
theorem qc_X12_isNews (aa : Nat) (xb : Int32) (w : nc_H) : nc_Call m_X12_isNews [.inr (.inr (12, aa)), .inl xb] w =
  nc_bd 2 513 fun j1 =>
  nc_bI (nc_Call m_X12_isIn [.inl xb, .inl 0, .inl ((w.1 874 aa j1) - 1)] w) fun r3 w2 =>
  nc_z r3 <| some (some (.inl r3), w2) :=
  (nc_Call_eq _ _ _).trans ((if_pos (Nat.le_of_ble_eq_true rfl)).trans ((nc_Run_un [] 10).trans rfl))
set_option maxRecDepth 100000 in
theorem qc_X12_isDry (aa : Nat) (xb : Int32) (w : nc_H) : nc_Call m_X12_isDry [.inr (.inr (12, aa)), .inl xb] w =
  nc_bd 77 513 fun j1 =>
  nc_bI (nc_Call m_X12_bitOf [.inl (w.1 874 aa j1), .inl xb] w) fun r3 w2 =>
  nc_z r3 <| some (some (.inl r3), w2) :=
  (nc_Call_eq _ _ _).trans ((if_pos (Nat.le_of_ble_eq_true rfl)).trans ((nc_Run_un [] 7).trans rfl))
set_option maxRecDepth 100000 in
theorem qc_X12_isLie (aa : Nat) (xb : Int32) (w : nc_H) : nc_Call m_X12_isLie [.inr (.inr (12, aa)), .inl xb] w =
  nc_bd 57 513 fun j1 =>
  nc_bI (nc_Call m_X12_bitOf [.inl (w.1 874 aa j1), .inl xb] w) fun r3 w2 =>
  nc_z r3 <| some (some (.inl r3), w2) :=
  (nc_Call_eq _ _ _).trans ((if_pos (Nat.le_of_ble_eq_true rfl)).trans ((nc_Run_un [] 7).trans rfl))
set_option maxRecDepth 100000 in
theorem qc_X12_known (aa : Nat) (xb : Int32) (w : nc_H) : nc_Call m_X12_known [.inr (.inr (12, aa)), .inl xb] w =
  nc_Run m_X12_known 4 [some (.inr (.inr (12, aa))), some (.inl xb), some (.inl 0), some (.inl 0)] [] w :=
  (nc_Call_eq _ _ _).trans ((if_pos (Nat.le_of_ble_eq_true rfl)).trans ((nc_Run_un [4] 5).trans rfl))
set_option maxRecDepth 100000 in
theorem qr_X12_known_4 (aa : Nat) (xb : Int32) (xc : Int32) (xd : Int32) (w : nc_H) : nc_Run m_X12_known 4 [some (.inr (.inr (12, aa))), some (.inl xb), some (.inl xc), some (.inl xd)] [] w =
  nc_bd 2 513 fun j1 =>
  if (w.1 874 aa j1) ≤ xd then
    some (some (.inl xc), w)
  else
    nc_bI (nc_Call m_X12_knows [.inr (.inr (12, aa)), .inl xb, .inl xd] w) fun r3 w2 =>
    if r3 = 0 then
      nc_li (xc ||| 0) fun x4 =>
      nc_li (xd + 1) fun x5 =>
      nc_Run m_X12_known 4 [some (.inr (.inr (12, aa))), some (.inl xb), some (.inl x4), some (.inl x5)] [] w2
    else
      nc_li (xc ||| (1 <<< (xd &&& 31))) fun x6 =>
      nc_li (xd + 1) fun x7 =>
      nc_Run m_X12_known 4 [some (.inr (.inr (12, aa))), some (.inl xb), some (.inl x6), some (.inl x7)] [] w2 :=
  (nc_Run_un [4] 21).trans rfl
set_option maxRecDepth 100000 in
theorem qc_X12_hasOther (aa : Nat) (xb : Int32) (xc : Int32) (w : nc_H) : nc_Call m_X12_hasOther [.inr (.inr (12, aa)), .inl xb, .inl xc] w =
  nc_Run m_X12_hasOther 5 [some (.inr (.inr (12, aa))), some (.inl xb), some (.inl xc), some (.inl 0), some (.inl 0)] [] w :=
  (nc_Call_eq _ _ _).trans ((if_pos (Nat.le_of_ble_eq_true rfl)).trans ((nc_Run_un [5] 5).trans rfl))
set_option maxRecDepth 100000 in
theorem qr_X12_hasOther_5 (aa : Nat) (xb : Int32) (xc : Int32) (xd : Int32) (xe : Int32) (w : nc_H) : nc_Run m_X12_hasOther 5 [some (.inr (.inr (12, aa))), some (.inl xb), some (.inl xc), some (.inl xd), some (.inl xe)] [] w =
  nc_bd 1 513 fun j1 =>
  if (w.1 874 aa j1) ≤ xe then
    nc_z xd <| some (some (.inl xd), w)
  else
    if xd ≠ 0 then
      nc_li (xe + 1) fun x2 =>
      nc_Run m_X12_hasOther 5 [some (.inr (.inr (12, aa))), some (.inl xb), some (.inl xc), some (.inl 1), some (.inl x2)] [] w
    else
      if xe = xb then
        nc_li (xe + 1) fun x3 =>
        nc_Run m_X12_hasOther 5 [some (.inr (.inr (12, aa))), some (.inl xb), some (.inl xc), some (.inl 0), some (.inl x3)] [] w
      else
        nc_bd (5 + xe) 513 fun j4 =>
        nc_bd (5 + xb) 513 fun j5 =>
        if (w.1 874 aa j4) ≠ (w.1 874 aa j5) then
          nc_li (xe + 1) fun x6 =>
          nc_Run m_X12_hasOther 5 [some (.inr (.inr (12, aa))), some (.inl xb), some (.inl xc), some (.inl 0), some (.inl x6)] [] w
        else
          nc_bd (100 + xe) 513 fun j7 =>
          nc_bI (nc_Call m_X12_bitOf [.inl (w.1 874 aa j7), .inl xc] w) fun r9 w8 =>
          if r9 = 0 then
            nc_li (xe + 1) fun x10 =>
            nc_Run m_X12_hasOther 5 [some (.inr (.inr (12, aa))), some (.inl xb), some (.inl xc), some (.inl 0), some (.inl x10)] [] w8
          else
            nc_li (xe + 1) fun x11 =>
            nc_Run m_X12_hasOther 5 [some (.inr (.inr (12, aa))), some (.inl xb), some (.inl xc), some (.inl 1), some (.inl x11)] [] w8 :=
  (nc_Run_un [5] 39).trans rfl
set_option maxRecDepth 100000 in
theorem qc_X12_milkBy (aa : Nat) (xb : Int32) (xc : Int32) (xd : Int32) (w : nc_H) : nc_Call m_X12_milkBy [.inr (.inr (12, aa)), .inl xb, .inl xc, .inl xd] w =
  nc_bd (13 + xb) 513 fun j1 =>
  nc_li (w.1 874 aa j1) fun x2 =>
  nc_Run m_X12_milkBy 14 [some (.inr (.inr (12, aa))), some (.inl xb), some (.inl xc), some (.inl xd), some (.inl x2), some (.inl 0), none, none] [] w :=
  (nc_Call_eq _ _ _).trans ((if_pos (Nat.le_of_ble_eq_true rfl)).trans ((nc_Run_un [14, 90, 91, 116] 10).trans rfl))
set_option maxRecDepth 100000 in
theorem qr_X12_milkBy_14 (aa : Nat) (xb : Int32) (xc : Int32) (xd : Int32) (xe : Int32) (xf : Int32) (w : nc_H) : nc_Run m_X12_milkBy 14 [some (.inr (.inr (12, aa))), some (.inl xb), some (.inl xc), some (.inl xd), some (.inl xe), some (.inl xf), none, none] [] w =
  nc_bd 2 513 fun j1 =>
  if (w.1 874 aa j1) ≤ xf then
    nc_bI (nc_Call m_X12_greater [.inl 0, .inl xe] w) fun r3 w2 =>
    some (some (.inl r3), w2)
  else
    nc_bd (37 + xf) 513 fun j4 =>
    nc_li (w.1 874 aa j4) fun x5 =>
    nc_bI (nc_Call m_X12_bitOf [.inl xc, .inl xf] w) fun r7 w6 =>
    if r7 = 0 then
      if x5 ≠ 3 then
        nc_li (xf + 1) fun x8 =>
        nc_Run m_X12_milkBy 14 [some (.inr (.inr (12, aa))), some (.inl xb), some (.inl xc), some (.inl xd), some (.inl xe), some (.inl x8), none, none] [] w6
      else
        nc_bd (116 + xb) 513 fun j9 =>
        nc_bI (nc_Call m_X12_bitOf [.inl (w6.1 874 aa j9), .inl xf] w6) fun r11 w10 =>
        if r11 = 0 then
          nc_li (xf + 1) fun x12 =>
          nc_Run m_X12_milkBy 14 [some (.inr (.inr (12, aa))), some (.inl xb), some (.inl xc), some (.inl xd), some (.inl xe), some (.inl x12), none, none] [] w10
        else
          nc_bI (nc_Call m_X12_isLie [.inr (.inr (12, aa)), .inl xf] w10) fun r14 w13 =>
          if r14 = 0 then
            nc_bd (47 + xf) 513 fun j15 =>
            nc_li (xe + (w13.1 874 aa j15)) fun x16 =>
            nc_li (xf + 1) fun x17 =>
            nc_Run m_X12_milkBy 14 [some (.inr (.inr (12, aa))), some (.inl xb), some (.inl xc), some (.inl xd), some (.inl x16), some (.inl x17), none, none] [] w13
          else
            nc_bd (47 + xf) 513 fun j18 =>
            nc_li (xe + (-(w13.1 874 aa j18))) fun x19 =>
            nc_li (xf + 1) fun x20 =>
            nc_Run m_X12_milkBy 14 [some (.inr (.inr (12, aa))), some (.inl xb), some (.inl xc), some (.inl xd), some (.inl x19), some (.inl x20), none, none] [] w13
    else
      if (2 : Int32) ≤ x5 then
        if x5 ≠ 3 then
          nc_li (xf + 1) fun x21 =>
          nc_Run m_X12_milkBy 14 [some (.inr (.inr (12, aa))), some (.inl xb), some (.inl xc), some (.inl xd), some (.inl xe), some (.inl x21), none, none] [] w6
        else
          nc_bd (116 + xb) 513 fun j22 =>
          nc_bI (nc_Call m_X12_bitOf [.inl (w6.1 874 aa j22), .inl xf] w6) fun r24 w23 =>
          if r24 = 0 then
            nc_li (xf + 1) fun x25 =>
            nc_Run m_X12_milkBy 14 [some (.inr (.inr (12, aa))), some (.inl xb), some (.inl xc), some (.inl xd), some (.inl xe), some (.inl x25), none, none] [] w23
          else
            nc_bI (nc_Call m_X12_isLie [.inr (.inr (12, aa)), .inl xf] w23) fun r27 w26 =>
            if r27 = 0 then
              nc_bd (47 + xf) 513 fun j28 =>
              nc_li (xe + (w26.1 874 aa j28)) fun x29 =>
              nc_li (xf + 1) fun x30 =>
              nc_Run m_X12_milkBy 14 [some (.inr (.inr (12, aa))), some (.inl xb), some (.inl xc), some (.inl xd), some (.inl x29), some (.inl x30), none, none] [] w26
            else
              nc_bd (47 + xf) 513 fun j31 =>
              nc_li (xe + (-(w26.1 874 aa j31))) fun x32 =>
              nc_li (xf + 1) fun x33 =>
              nc_Run m_X12_milkBy 14 [some (.inr (.inr (12, aa))), some (.inl xb), some (.inl xc), some (.inl xd), some (.inl x32), some (.inl x33), none, none] [] w26
      else
        nc_bd (47 + xf) 513 fun j34 =>
        nc_bI (nc_Call m_X12_isLie [.inr (.inr (12, aa)), .inl xf] w6) fun r36 w35 =>
        if r36 = 0 then
          nc_Run m_X12_milkBy 90 [some (.inr (.inr (12, aa))), some (.inl xb), some (.inl xc), some (.inl xd), some (.inl xe), some (.inl xf), some (.inl x5), none] [.inl (w6.1 874 aa j34)] w35
        else
          nc_bd 78 513 fun j37 =>
          nc_bI (nc_Call m_X12_bitOf [.inl (w35.1 874 aa j37), .inl xf] w35) fun r39 w38 =>
          if r39 ≠ 0 then
            nc_Run m_X12_milkBy 90 [some (.inr (.inr (12, aa))), some (.inl xb), some (.inl xc), some (.inl xd), some (.inl xe), some (.inl xf), some (.inl x5), none] [.inl (w6.1 874 aa j34)] w38
          else
            nc_Run m_X12_milkBy 91 [some (.inr (.inr (12, aa))), some (.inl xb), some (.inl xc), some (.inl xd), some (.inl xe), some (.inl xf), some (.inl x5), none] [.inl 5, .inl (w6.1 874 aa j34)] w38 :=
  (nc_Run_un [14, 90, 91, 116] 50).trans rfl
set_option maxRecDepth 100000 in
theorem qr_X12_milkBy_90 (aa : Nat) (xb : Int32) (xc : Int32) (xd : Int32) (xe : Int32) (xf : Int32) (xg : Int32) (za : Int32) (w : nc_H) : nc_Run m_X12_milkBy 90 [some (.inr (.inr (12, aa))), some (.inl xb), some (.inl xc), some (.inl xd), some (.inl xe), some (.inl xf), some (.inl xg), none] [.inl za] w =
  nc_Run m_X12_milkBy 91 [some (.inr (.inr (12, aa))), some (.inl xb), some (.inl xc), some (.inl xd), some (.inl xe), some (.inl xf), some (.inl xg), none] [.inl 0, .inl za] w :=
  (nc_Run_un [14, 90, 91, 116] 2).trans rfl
end
section
set_option maxRecDepth 100000 in
theorem qr_X12_milkBy_91 (aa : Nat) (xb : Int32) (xc : Int32) (xd : Int32) (xe : Int32) (xf : Int32) (xg : Int32) (za : Int32) (zb : Int32) (w : nc_H) : nc_Run m_X12_milkBy 91 [some (.inr (.inr (12, aa))), some (.inl xb), some (.inl xc), some (.inl xd), some (.inl xe), some (.inl xf), some (.inl xg), none] [.inl za, .inl zb] w =
  nc_li (zb + za) fun x1 =>
  if xg ≠ 1 then
    nc_Run m_X12_milkBy 116 [some (.inr (.inr (12, aa))), some (.inl xb), some (.inl xc), some (.inl xd), some (.inl xe), some (.inl xf), some (.inl xg), some (.inl x1)] [] w
  else
    nc_bI (nc_Call m_X12_hasOther [.inr (.inr (12, aa)), .inl xb, .inl xf] w) fun r3 w2 =>
    if r3 = 0 then
      nc_Run m_X12_milkBy 116 [some (.inr (.inr (12, aa))), some (.inl xb), some (.inl xc), some (.inl xd), some (.inl xe), some (.inl xf), some (.inl xg), some (.inl x1)] [] w2
    else
      nc_li (x1 * 2) fun x4 =>
      nc_Run m_X12_milkBy 116 [some (.inr (.inr (12, aa))), some (.inl xb), some (.inl xc), some (.inl xd), some (.inl xe), some (.inl xf), some (.inl xg), some (.inl x4)] [] w2 :=
  (nc_Run_un [14, 90, 91, 116] 15).trans rfl
set_option maxRecDepth 100000 in
theorem qr_X12_milkBy_116 (aa : Nat) (xb : Int32) (xc : Int32) (xd : Int32) (xe : Int32) (xf : Int32) (xg : Int32) (xh : Int32) (w : nc_H) : nc_Run m_X12_milkBy 116 [some (.inr (.inr (12, aa))), some (.inl xb), some (.inl xc), some (.inl xd), some (.inl xe), some (.inl xf), some (.inl xg), some (.inl xh)] [] w =
  nc_bI (nc_Call m_X12_bitOf [.inl xd, .inl xf] w) fun r2 w1 =>
  if r2 = 0 then
    nc_li (xe + xh) fun x3 =>
    if xg ≠ 3 then
      nc_li (xf + 1) fun x4 =>
      nc_Run m_X12_milkBy 14 [some (.inr (.inr (12, aa))), some (.inl xb), some (.inl xc), some (.inl xd), some (.inl x3), some (.inl x4), none, none] [] w1
    else
      nc_bd (116 + xb) 513 fun j5 =>
      nc_bI (nc_Call m_X12_bitOf [.inl (w1.1 874 aa j5), .inl xf] w1) fun r7 w6 =>
      if r7 = 0 then
        nc_li (xf + 1) fun x8 =>
        nc_Run m_X12_milkBy 14 [some (.inr (.inr (12, aa))), some (.inl xb), some (.inl xc), some (.inl xd), some (.inl x3), some (.inl x8), none, none] [] w6
      else
        nc_bI (nc_Call m_X12_isLie [.inr (.inr (12, aa)), .inl xf] w6) fun r10 w9 =>
        if r10 = 0 then
          nc_bd (47 + xf) 513 fun j11 =>
          nc_li (x3 + (w9.1 874 aa j11)) fun x12 =>
          nc_li (xf + 1) fun x13 =>
          nc_Run m_X12_milkBy 14 [some (.inr (.inr (12, aa))), some (.inl xb), some (.inl xc), some (.inl xd), some (.inl x12), some (.inl x13), none, none] [] w9
        else
          nc_bd (47 + xf) 513 fun j14 =>
          nc_li (x3 + (-(w9.1 874 aa j14))) fun x15 =>
          nc_li (xf + 1) fun x16 =>
          nc_Run m_X12_milkBy 14 [some (.inr (.inr (12, aa))), some (.inl xb), some (.inl xc), some (.inl xd), some (.inl x15), some (.inl x16), none, none] [] w9
  else
    nc_li (xe + (xh / 2)) fun x17 =>
    if xg ≠ 3 then
      nc_li (xf + 1) fun x18 =>
      nc_Run m_X12_milkBy 14 [some (.inr (.inr (12, aa))), some (.inl xb), some (.inl xc), some (.inl xd), some (.inl x17), some (.inl x18), none, none] [] w1
    else
      nc_bd (116 + xb) 513 fun j19 =>
      nc_bI (nc_Call m_X12_bitOf [.inl (w1.1 874 aa j19), .inl xf] w1) fun r21 w20 =>
      if r21 = 0 then
        nc_li (xf + 1) fun x22 =>
        nc_Run m_X12_milkBy 14 [some (.inr (.inr (12, aa))), some (.inl xb), some (.inl xc), some (.inl xd), some (.inl x17), some (.inl x22), none, none] [] w20
      else
        nc_bI (nc_Call m_X12_isLie [.inr (.inr (12, aa)), .inl xf] w20) fun r24 w23 =>
        if r24 = 0 then
          nc_bd (47 + xf) 513 fun j25 =>
          nc_li (x17 + (w23.1 874 aa j25)) fun x26 =>
          nc_li (xf + 1) fun x27 =>
          nc_Run m_X12_milkBy 14 [some (.inr (.inr (12, aa))), some (.inl xb), some (.inl xc), some (.inl xd), some (.inl x26), some (.inl x27), none, none] [] w23
        else
          nc_bd (47 + xf) 513 fun j28 =>
          nc_li (x17 + (-(w23.1 874 aa j28))) fun x29 =>
          nc_li (xf + 1) fun x30 =>
          nc_Run m_X12_milkBy 14 [some (.inr (.inr (12, aa))), some (.inl xb), some (.inl xc), some (.inl xd), some (.inl x29), some (.inl x30), none, none] [] w23 :=
  (nc_Run_un [14, 90, 91, 116] 41).trans rfl
set_option maxRecDepth 100000 in
theorem qc_X12_milkWith (aa : Nat) (xb : Int32) (xc : Int32) (w : nc_H) : nc_Call m_X12_milkWith [.inr (.inr (12, aa)), .inl xb, .inl xc] w =
  nc_bI (nc_Call m_X12_isDry [.inr (.inr (12, aa)), .inl xb] w) fun r2 w1 =>
  if r2 ≠ 0 then
    some (some (.inl 0), w1)
  else
    nc_bI (nc_Call m_X12_isCurdled [.inr (.inr (12, aa)), .inl xb] w1) fun r4 w3 =>
    if r4 = 0 then
      nc_Run m_X12_milkWith 20 [some (.inr (.inr (12, aa))), some (.inl xb), some (.inl xc), some (.inl 0)] [] w3
    else
      some (some (.inl 0), w3) :=
  (nc_Call_eq _ _ _).trans ((if_pos (Nat.le_of_ble_eq_true rfl)).trans ((nc_Run_un [20] 11).trans rfl))
set_option maxRecDepth 100000 in
theorem qr_X12_milkWith_20 (aa : Nat) (xb : Int32) (xc : Int32) (xd : Int32) (w : nc_H) : nc_Run m_X12_milkWith 20 [some (.inr (.inr (12, aa))), some (.inl xb), some (.inl xc), some (.inl xd)] [] w =
  nc_bd 2 513 fun j1 =>
  if (w.1 874 aa j1) ≤ xd then
    nc_bd (100 + xb) 513 fun j2 =>
    nc_bd (108 + xb) 513 fun j3 =>
    nc_bI (nc_Call m_X12_known [.inr (.inr (12, aa)), .inl xb] w) fun r5 w4 =>
    nc_bI (nc_Call m_X12_milkBy [.inr (.inr (12, aa)), .inl xb, .inl ((w.1 874 aa j2) ||| xc), .inl ((w.1 874 aa j3) ||| (xc &&& r5))] w4) fun r7 w6 =>
    some (some (.inl r7), w6)
  else
    nc_bI (nc_Call m_X12_bitOf [.inl xc, .inl xd] w) fun r9 w8 =>
    if r9 = 0 then
      nc_li (xd + 1) fun x10 =>
      nc_Run m_X12_milkWith 20 [some (.inr (.inr (12, aa))), some (.inl xb), some (.inl xc), some (.inl x10)] [] w8
    else
      nc_bd (37 + xd) 513 fun j11 =>
      if (w8.1 874 aa j11) ≠ 2 then
        nc_li (xd + 1) fun x12 =>
        nc_Run m_X12_milkWith 20 [some (.inr (.inr (12, aa))), some (.inl xb), some (.inl xc), some (.inl x12)] [] w8
      else
        some (some (.inl 0), w8) :=
  (nc_Run_un [20] 30).trans rfl
set_option maxRecDepth 100000 in
theorem qc_X12_milk (aa : Nat) (xb : Int32) (w : nc_H) : nc_Call m_X12_milk [.inr (.inr (12, aa)), .inl xb] w =
  nc_bI (nc_Call m_X12_milkWith [.inr (.inr (12, aa)), .inl xb, .inl 0] w) fun r2 w1 =>
  some (some (.inl r2), w1) :=
  (nc_Call_eq _ _ _).trans ((if_pos (Nat.le_of_ble_eq_true rfl)).trans ((nc_Run_un [] 5).trans rfl))
set_option maxRecDepth 100000 in
theorem qc_X12_cow (aa : Nat) (xb : Int32) (xc : Int32) (w : nc_H) : nc_Call m_X12_cow [.inr (.inr (12, aa)), .inl xb, .inl xc] w =
  nc_bI (nc_Call m_X12_isCow [.inr (.inr (12, aa)), .inl xb] w) fun r2 w1 =>
  if r2 = 0 then
    nc_bI (nc_Call m_X12_throwsIf [.inr (.inr (12, aa)), .inl 1] w1) fun r4 w3 =>
    if r4 = 0 then
      if xc = 0 then
        nc_bd (5 + xb) 513 fun j5 =>
        some (some (.inl (w3.1 874 aa j5)), w3)
      else
      if xc = 1 then
        nc_bI (nc_Call m_X12_isDry [.inr (.inr (12, aa)), .inl xb] w3) fun r7 w6 =>
        if r7 = 0 then
          some (some (.inl 0), w6)
        else
          some (some (.inl 1), w6)
      else
      if xc = 2 then
        nc_bI (nc_Call m_X12_isCurdled [.inr (.inr (12, aa)), .inl xb] w3) fun r9 w8 =>
        if r9 = 0 then
          some (some (.inl 0), w8)
        else
          some (some (.inl 1), w8)
      else
      if xc = 3 then
        nc_bd (79 + xb) 513 fun j10 =>
        some (some (.inl (w3.1 874 aa j10)), w3)
      else
      if xc = 4 then
        nc_bd (100 + xb) 513 fun j11 =>
        some (some (.inl (w3.1 874 aa j11)), w3)
      else
      if xc = 5 then
        nc_bI (nc_Call m_X12_known [.inr (.inr (12, aa)), .inl xb] w3) fun r13 w12 =>
        some (some (.inl r13), w12)
      else
      if xc = 6 then
        nc_bI (nc_Call m_X12_milk [.inr (.inr (12, aa)), .inl xb] w3) fun r15 w14 =>
        some (some (.inl r15), w14)
      else
        nc_bd (87 + xb) 513 fun j16 =>
        some (some (.inl (w3.1 874 aa j16)), w3)
    else
      some (some (.inl 0), w3)
  else
    nc_bI (nc_Call m_X12_isIn [.inl xc, .inl 0, .inl 7] w1) fun r18 w17 =>
    if r18 ≠ 0 then
      nc_bI (nc_Call m_X12_throwsIf [.inr (.inr (12, aa)), .inl 0] w17) fun r20 w19 =>
      if r20 = 0 then
        if xc = 0 then
          nc_bd (5 + xb) 513 fun j21 =>
          some (some (.inl (w19.1 874 aa j21)), w19)
        else
        if xc = 1 then
          nc_bI (nc_Call m_X12_isDry [.inr (.inr (12, aa)), .inl xb] w19) fun r23 w22 =>
          if r23 = 0 then
            some (some (.inl 0), w22)
          else
            some (some (.inl 1), w22)
        else
        if xc = 2 then
          nc_bI (nc_Call m_X12_isCurdled [.inr (.inr (12, aa)), .inl xb] w19) fun r25 w24 =>
          if r25 = 0 then
            some (some (.inl 0), w24)
          else
            some (some (.inl 1), w24)
        else
        if xc = 3 then
          nc_bd (79 + xb) 513 fun j26 =>
          some (some (.inl (w19.1 874 aa j26)), w19)
        else
        if xc = 4 then
          nc_bd (100 + xb) 513 fun j27 =>
          some (some (.inl (w19.1 874 aa j27)), w19)
        else
        if xc = 5 then
          nc_bI (nc_Call m_X12_known [.inr (.inr (12, aa)), .inl xb] w19) fun r29 w28 =>
          some (some (.inl r29), w28)
        else
        if xc = 6 then
          nc_bI (nc_Call m_X12_milk [.inr (.inr (12, aa)), .inl xb] w19) fun r31 w30 =>
          some (some (.inl r31), w30)
        else
          nc_bd (87 + xb) 513 fun j32 =>
          some (some (.inl (w19.1 874 aa j32)), w19)
      else
        some (some (.inl 0), w19)
    else
      nc_bI (nc_Call m_X12_throwsIf [.inr (.inr (12, aa)), .inl 1] w17) fun r34 w33 =>
      if r34 = 0 then
        if xc = 0 then
          nc_bd (5 + xb) 513 fun j35 =>
          some (some (.inl (w33.1 874 aa j35)), w33)
        else
        if xc = 1 then
          nc_bI (nc_Call m_X12_isDry [.inr (.inr (12, aa)), .inl xb] w33) fun r37 w36 =>
          if r37 = 0 then
            some (some (.inl 0), w36)
          else
            some (some (.inl 1), w36)
        else
        if xc = 2 then
          nc_bI (nc_Call m_X12_isCurdled [.inr (.inr (12, aa)), .inl xb] w33) fun r39 w38 =>
          if r39 = 0 then
            some (some (.inl 0), w38)
          else
            some (some (.inl 1), w38)
        else
        if xc = 3 then
          nc_bd (79 + xb) 513 fun j40 =>
          some (some (.inl (w33.1 874 aa j40)), w33)
        else
        if xc = 4 then
          nc_bd (100 + xb) 513 fun j41 =>
          some (some (.inl (w33.1 874 aa j41)), w33)
        else
        if xc = 5 then
          nc_bI (nc_Call m_X12_known [.inr (.inr (12, aa)), .inl xb] w33) fun r43 w42 =>
          some (some (.inl r43), w42)
        else
        if xc = 6 then
          nc_bI (nc_Call m_X12_milk [.inr (.inr (12, aa)), .inl xb] w33) fun r45 w44 =>
          some (some (.inl r45), w44)
        else
          nc_bd (87 + xb) 513 fun j46 =>
          some (some (.inl (w33.1 874 aa j46)), w33)
      else
        some (some (.inl 0), w33) :=
  (nc_Call_eq _ _ _).trans ((if_pos (Nat.le_of_ble_eq_true rfl)).trans ((nc_Run_un [] 23).trans rfl))
set_option maxRecDepth 100000 in
theorem qc_X12_news (aa : Nat) (xb : Int32) (xc : Int32) (w : nc_H) : nc_Call m_X12_news [.inr (.inr (12, aa)), .inl xb, .inl xc] w =
  nc_lt (nc_si w 12 aa 0 0) fun w1 =>
  nc_bI (nc_Call m_X12_isNews [.inr (.inr (12, aa)), .inl xb] w1) fun r3 w2 =>
  if r3 ≠ 0 then
    nc_Run m_X12_news 23 [some (.inr (.inr (12, aa))), some (.inl xb), some (.inl xc), some (.inl 0), some (.inl 0), some (.inl 0)] [] w2
  else
    some (some (.inl (-1)), w2) :=
  (nc_Call_eq _ _ _).trans ((if_pos (Nat.le_of_ble_eq_true rfl)).trans ((nc_Run_un [23] 14).trans rfl))
set_option maxRecDepth 100000 in
theorem qr_X12_news_23 (aa : Nat) (xb : Int32) (xc : Int32) (xd : Int32) (xe : Int32) (xf : Int32) (w : nc_H) : nc_Run m_X12_news 23 [some (.inr (.inr (12, aa))), some (.inl xb), some (.inl xc), some (.inl xd), some (.inl xe), some (.inl xf)] [] w =
  nc_bd 1 513 fun j1 =>
  if (w.1 874 aa j1) ≤ xf then
    if xc = 0 then
      nc_bd (37 + xb) 513 fun j2 =>
      some (some (.inl (w.1 874 aa j2)), w)
    else
    if xc = 1 then
      nc_bd (47 + xb) 513 fun j3 =>
      some (some (.inl (w.1 874 aa j3)), w)
    else
    if xc = 2 then
      nc_bI (nc_Call m_X12_isLie [.inr (.inr (12, aa)), .inl xb] w) fun r5 w4 =>
      if r5 = 0 then
        some (some (.inl 0), w4)
      else
        some (some (.inl 1), w4)
    else
    if xc = 3 then
      nc_bd 78 513 fun j6 =>
      nc_bI (nc_Call m_X12_bitOf [.inl (w.1 874 aa j6), .inl xb] w) fun r8 w7 =>
      if r8 = 0 then
        some (some (.inl 0), w7)
      else
        some (some (.inl 1), w7)
    else
    if xc = 4 then
      some (some (.inl xd), w)
    else
    if xc = 5 then
      some (some (.inl xe), w)
    else
      some (some (.inl (-1)), w)
  else
    nc_bd (100 + xf) 513 fun j9 =>
    nc_bI (nc_Call m_X12_bitOf [.inl (w.1 874 aa j9), .inl xb] w) fun r11 w10 =>
    if r11 = 0 then
      nc_li (xd ||| 0) fun x12 =>
      nc_bI (nc_Call m_X12_knows [.inr (.inr (12, aa)), .inl xf, .inl xb] w10) fun r14 w13 =>
      if r14 = 0 then
        nc_li (xe ||| 0) fun x15 =>
        nc_li (xf + 1) fun x16 =>
        nc_Run m_X12_news 23 [some (.inr (.inr (12, aa))), some (.inl xb), some (.inl xc), some (.inl x12), some (.inl x15), some (.inl x16)] [] w13
      else
        nc_li (xe ||| (1 <<< (xf &&& 31))) fun x17 =>
        nc_li (xf + 1) fun x18 =>
        nc_Run m_X12_news 23 [some (.inr (.inr (12, aa))), some (.inl xb), some (.inl xc), some (.inl x12), some (.inl x17), some (.inl x18)] [] w13
    else
      nc_li (xd ||| (1 <<< (xf &&& 31))) fun x19 =>
      nc_bI (nc_Call m_X12_knows [.inr (.inr (12, aa)), .inl xf, .inl xb] w10) fun r21 w20 =>
      if r21 = 0 then
        nc_li (xe ||| 0) fun x22 =>
        nc_li (xf + 1) fun x23 =>
        nc_Run m_X12_news 23 [some (.inr (.inr (12, aa))), some (.inl xb), some (.inl xc), some (.inl x19), some (.inl x22), some (.inl x23)] [] w20
      else
        nc_li (xe ||| (1 <<< (xf &&& 31))) fun x24 =>
        nc_li (xf + 1) fun x25 =>
        nc_Run m_X12_news 23 [some (.inr (.inr (12, aa))), some (.inl xb), some (.inl xc), some (.inl x19), some (.inl x24), some (.inl x25)] [] w20 :=
  (nc_Run_un [23] 37).trans rfl
set_option maxRecDepth 100000 in
theorem qc_X12_milkOf (aa : Nat) (xb : Int32) (w : nc_H) : nc_Call m_X12_milkOf [.inr (.inr (12, aa)), .inl xb] w =
  nc_Run m_X12_milkOf 4 [some (.inr (.inr (12, aa))), some (.inl xb), some (.inl 0), some (.inl 0)] [] w :=
  (nc_Call_eq _ _ _).trans ((if_pos (Nat.le_of_ble_eq_true rfl)).trans ((nc_Run_un [4] 5).trans rfl))
set_option maxRecDepth 100000 in
theorem qr_X12_milkOf_4 (aa : Nat) (xb : Int32) (xc : Int32) (xd : Int32) (w : nc_H) : nc_Run m_X12_milkOf 4 [some (.inr (.inr (12, aa))), some (.inl xb), some (.inl xc), some (.inl xd)] [] w =
  nc_bd 1 513 fun j1 =>
  if (w.1 874 aa j1) ≤ xd then
    some (some (.inl xc), w)
  else
    nc_bd (5 + xd) 513 fun j2 =>
    if (w.1 874 aa j2) ≠ xb then
      nc_li (xc + 0) fun x3 =>
      nc_li (xd + 1) fun x4 =>
      nc_Run m_X12_milkOf 4 [some (.inr (.inr (12, aa))), some (.inl xb), some (.inl x3), some (.inl x4)] [] w
    else
      nc_bI (nc_Call m_X12_milk [.inr (.inr (12, aa)), .inl xd] w) fun r6 w5 =>
      nc_li (xc + r6) fun x7 =>
      nc_li (xd + 1) fun x8 =>
      nc_Run m_X12_milkOf 4 [some (.inr (.inr (12, aa))), some (.inl xb), some (.inl x7), some (.inl x8)] [] w5 :=
  (nc_Run_un [4] 24).trans rfl
set_option maxRecDepth 100000 in
theorem qc_X12_farm (aa : Nat) (xb : Int32) (xc : Int32) (w : nc_H) : nc_Call m_X12_farm [.inr (.inr (12, aa)), .inl xb, .inl xc] w =
  nc_bI (nc_Call m_X12_isFarm [.inr (.inr (12, aa)), .inl xb] w) fun r2 w1 =>
  if r2 = 0 then
    nc_bI (nc_Call m_X12_throwsIf [.inr (.inr (12, aa)), .inl 1] w1) fun r4 w3 =>
    if r4 = 0 then
      nc_Run m_X12_farm 36 [some (.inr (.inr (12, aa))), some (.inl xb), some (.inl xc), some (.inl 0), some (.inl 0)] [] w3
    else
      some (some (.inl 0), w3)
  else
    nc_bI (nc_Call m_X12_isIn [.inl xc, .inl 0, .inl 3] w1) fun r6 w5 =>
    if r6 ≠ 0 then
      nc_bI (nc_Call m_X12_throwsIf [.inr (.inr (12, aa)), .inl 0] w5) fun r8 w7 =>
      if r8 = 0 then
        nc_Run m_X12_farm 36 [some (.inr (.inr (12, aa))), some (.inl xb), some (.inl xc), some (.inl 0), some (.inl 0)] [] w7
      else
        some (some (.inl 0), w7)
    else
      nc_bI (nc_Call m_X12_throwsIf [.inr (.inr (12, aa)), .inl 1] w5) fun r10 w9 =>
      if r10 = 0 then
        nc_Run m_X12_farm 36 [some (.inr (.inr (12, aa))), some (.inl xb), some (.inl xc), some (.inl 0), some (.inl 0)] [] w9
      else
        some (some (.inl 0), w9) :=
  (nc_Call_eq _ _ _).trans ((if_pos (Nat.le_of_ble_eq_true rfl)).trans ((nc_Run_un [36] 19).trans rfl))
set_option maxRecDepth 100000 in
theorem qr_X12_farm_36 (aa : Nat) (xb : Int32) (xc : Int32) (xd : Int32) (xe : Int32) (w : nc_H) : nc_Run m_X12_farm 36 [some (.inr (.inr (12, aa))), some (.inl xb), some (.inl xc), some (.inl xd), some (.inl xe)] [] w =
  nc_bd 3 513 fun j1 =>
  if (w.1 874 aa j1) ≤ xe then
    if xc = 0 then
      nc_bI (nc_Call m_X12_cowsOf [.inr (.inr (12, aa)), .inl xb] w) fun r3 w2 =>
      some (some (.inl r3), w2)
    else
    if xc = 1 then
      nc_bd (95 + xb) 513 fun j4 =>
      some (some (.inl (w.1 874 aa j4)), w)
    else
    if xc = 2 then
      nc_bI (nc_Call m_X12_milkOf [.inr (.inr (12, aa)), .inl xb] w) fun r6 w5 =>
      some (some (.inl r6), w5)
    else
      some (some (.inl xd), w)
  else
    nc_bd (58 + xe) 513 fun j7 =>
    if (w.1 874 aa j7) = xb then
      nc_li (xd ||| (1 <<< (xe &&& 31))) fun x8 =>
      nc_li (xe + 1) fun x9 =>
      nc_Run m_X12_farm 36 [some (.inr (.inr (12, aa))), some (.inl xb), some (.inl xc), some (.inl x8), some (.inl x9)] [] w
    else
      nc_bd (64 + xe) 513 fun j10 =>
      if (w.1 874 aa j10) ≠ xb then
        nc_li (xd ||| 0) fun x11 =>
        nc_li (xe + 1) fun x12 =>
        nc_Run m_X12_farm 36 [some (.inr (.inr (12, aa))), some (.inl xb), some (.inl xc), some (.inl x11), some (.inl x12)] [] w
      else
        nc_li (xd ||| (1 <<< (xe &&& 31))) fun x13 =>
        nc_li (xe + 1) fun x14 =>
        nc_Run m_X12_farm 36 [some (.inr (.inr (12, aa))), some (.inl xb), some (.inl xc), some (.inl x13), some (.inl x14)] [] w :=
  (nc_Run_un [36] 32).trans rfl
set_option maxRecDepth 100000 in
theorem qc_X12_now (aa : Nat) (xb : Int32) (w : nc_H) : nc_Call m_X12_now [.inr (.inr (12, aa)), .inl xb] w =
  nc_lt (nc_si w 12 aa 0 0) fun w1 =>
  nc_Run m_X12_now 9 [some (.inr (.inr (12, aa))), some (.inl xb), some (.inl 0), some (.inl 0)] [] w1 :=
  (nc_Call_eq _ _ _).trans ((if_pos (Nat.le_of_ble_eq_true rfl)).trans ((nc_Run_un [9] 8).trans rfl))
set_option maxRecDepth 100000 in
theorem qr_X12_now_9 (aa : Nat) (xb : Int32) (xc : Int32) (xd : Int32) (w : nc_H) : nc_Run m_X12_now 9 [some (.inr (.inr (12, aa))), some (.inl xb), some (.inl xc), some (.inl xd)] [] w =
  nc_bd 3 513 fun j1 =>
  if (w.1 874 aa j1) ≤ xd then
    if xb = 0 then
      nc_bd 76 513 fun j2 =>
      some (some (.inl (w.1 874 aa j2)), w)
    else
    if xb = 1 then
      nc_bd 77 513 fun j3 =>
      some (some (.inl (w.1 874 aa j3)), w)
    else
    if xb = 2 then
      nc_bd 78 513 fun j4 =>
      some (some (.inl (w.1 874 aa j4)), w)
    else
    if xb = 3 then
      nc_bI (nc_Call m_X12_allPails [.inr (.inr (12, aa))] w) fun r6 w5 =>
      some (some (.inl r6), w5)
    else
    if xb = 4 then
      nc_bd 99 513 fun j7 =>
      some (some (.inl (w.1 874 aa j7)), w)
    else
    if xb = 5 then
      some (some (.inl xc), w)
    else
      some (some (.inl (-1)), w)
  else
    nc_bI (nc_Call m_X12_talks [.inr (.inr (12, aa)), .inl xd] w) fun r9 w8 =>
    if r9 = 0 then
      nc_li (xc ||| 0) fun x10 =>
      nc_li (xd + 1) fun x11 =>
      nc_Run m_X12_now 9 [some (.inr (.inr (12, aa))), some (.inl xb), some (.inl x10), some (.inl x11)] [] w8
    else
      nc_li (xc ||| (1 <<< (xd &&& 31))) fun x12 =>
      nc_li (xd + 1) fun x13 =>
      nc_Run m_X12_now 9 [some (.inr (.inr (12, aa))), some (.inl xb), some (.inl x12), some (.inl x13)] [] w8 :=
  (nc_Run_un [9] 20).trans rfl
set_option maxRecDepth 100000 in
theorem qc_X12_whyTell (aa : Nat) (xb : Int32) (xc : Int32) (w : nc_H) : nc_Call m_X12_whyTell [.inr (.inr (12, aa)), .inl xb, .inl xc] w =
  nc_bI (nc_Call m_X12_isDry [.inr (.inr (12, aa)), .inl xb] w) fun r2 w1 =>
  if r2 = 0 then
    nc_bd (100 + xb) 513 fun j3 =>
    nc_bI (nc_Call m_X12_bitOf [.inl (w1.1 874 aa j3), .inl xc] w1) fun r5 w4 =>
    if r5 = 0 then
      nc_bd (100 + xb) 513 fun j6 =>
      nc_bI (nc_Call m_X12_bits [.inl (w4.1 874 aa j6)] w4) fun r8 w7 =>
      nc_bd 4 513 fun j9 =>
      if r8 < (w7.1 874 aa j9) then
        some (some (.inl 0), w7)
      else
        some (some (.inl 3), w7)
    else
      some (some (.inl 2), w4)
  else
    some (some (.inl 1), w1) :=
  (nc_Call_eq _ _ _).trans ((if_pos (Nat.le_of_ble_eq_true rfl)).trans ((nc_Run_un [] 28).trans rfl))
set_option maxRecDepth 100000 in
theorem qc_X12_tells (aa : Nat) (xb : Int32) (xc : Int32) (w : nc_H) : nc_Call m_X12_tells [.inr (.inr (12, aa)), .inl xb, .inl xc] w =
  nc_bI (nc_Call m_X12_knows [.inr (.inr (12, aa)), .inl xb, .inl xc] w) fun r2 w1 =>
  if r2 = 0 then
    nc_bd (100 + xb) 513 fun j3 =>
    nc_bd (100 + xb) 513 fun j4 =>
    nc_lt (nc_si w1 874 aa j4 ((w1.1 874 aa j3) ||| (1 <<< (xc &&& 31)))) fun w5 =>
    nc_bd 76 513 fun j6 =>
    nc_bd ((132 + (10 * xb)) + xc) 513 fun j7 =>
    nc_lt (nc_si w5 874 aa j7 ((w5.1 874 aa j6) + 1)) fun w8 =>
    nc_bd (37 + xc) 513 fun j9 =>
    if (w8.1 874 aa j9) ≠ 2 then
      nc_bd 99 513 fun j10 =>
      nc_bd 99 513 fun j11 =>
      nc_lt (nc_si w8 874 aa j11 ((w8.1 874 aa j10) + 1)) fun w12 =>
      some (none, w12)
    else
      nc_bd 76 513 fun j13 =>
      nc_bd (124 + xb) 513 fun j14 =>
      nc_lt (nc_si w8 874 aa j14 ((w8.1 874 aa j13) + 1)) fun w15 =>
      nc_bd 99 513 fun j16 =>
      nc_bd 99 513 fun j17 =>
      nc_lt (nc_si w15 874 aa j17 ((w15.1 874 aa j16) + 1)) fun w18 =>
      some (none, w18)
  else
    nc_bd (108 + xb) 513 fun j19 =>
    nc_bd (108 + xb) 513 fun j20 =>
    nc_lt (nc_si w1 874 aa j20 ((w1.1 874 aa j19) ||| (1 <<< (xc &&& 31)))) fun w21 =>
    nc_bd (100 + xb) 513 fun j22 =>
    nc_bd (100 + xb) 513 fun j23 =>
    nc_lt (nc_si w21 874 aa j23 ((w21.1 874 aa j22) ||| (1 <<< (xc &&& 31)))) fun w24 =>
    nc_bd 76 513 fun j25 =>
    nc_bd ((132 + (10 * xb)) + xc) 513 fun j26 =>
    nc_lt (nc_si w24 874 aa j26 ((w24.1 874 aa j25) + 1)) fun w27 =>
    nc_bd (37 + xc) 513 fun j28 =>
    if (w27.1 874 aa j28) ≠ 2 then
      nc_bd 99 513 fun j29 =>
      nc_bd 99 513 fun j30 =>
      nc_lt (nc_si w27 874 aa j30 ((w27.1 874 aa j29) + 1)) fun w31 =>
      some (none, w31)
    else
      nc_bd 76 513 fun j32 =>
      nc_bd (124 + xb) 513 fun j33 =>
      nc_lt (nc_si w27 874 aa j33 ((w27.1 874 aa j32) + 1)) fun w34 =>
      nc_bd 99 513 fun j35 =>
      nc_bd 99 513 fun j36 =>
      nc_lt (nc_si w34 874 aa j36 ((w34.1 874 aa j35) + 1)) fun w37 =>
      some (none, w37) :=
  (nc_Call_eq _ _ _).trans ((if_pos (Nat.le_of_ble_eq_true rfl)).trans ((nc_Run_un [] 74).trans rfl))
set_option maxRecDepth 100000 in
theorem qc_X12_whyFind (aa : Nat) (xb : Int32) (w : nc_H) : nc_Call m_X12_whyFind [.inr (.inr (12, aa)), .inl xb] w =
  nc_bI (nc_Call m_X12_isLie [.inr (.inr (12, aa)), .inl xb] w) fun r2 w1 =>
  if r2 ≠ 0 then
    nc_bd 78 513 fun j3 =>
    nc_bI (nc_Call m_X12_bitOf [.inl (w1.1 874 aa j3), .inl xb] w1) fun r5 w4 =>
    if r5 = 0 then
      some (some (.inl 0), w4)
    else
      some (some (.inl 2), w4)
  else
    some (some (.inl 1), w1) :=
  (nc_Call_eq _ _ _).trans ((if_pos (Nat.le_of_ble_eq_true rfl)).trans ((nc_Run_un [] 14).trans rfl))
set_option maxRecDepth 100000 in
theorem qc_X12_driedBy (aa : Nat) (xb : Int32) (w : nc_H) : nc_Call m_X12_driedBy [.inr (.inr (12, aa)), .inl xb] w =
  nc_Run m_X12_driedBy 4 [some (.inr (.inr (12, aa))), some (.inl xb), some (.inl 0), some (.inl 0)] [] w :=
  (nc_Call_eq _ _ _).trans ((if_pos (Nat.le_of_ble_eq_true rfl)).trans ((nc_Run_un [4] 5).trans rfl))
set_option maxRecDepth 100000 in
theorem qr_X12_driedBy_4 (aa : Nat) (xb : Int32) (xc : Int32) (xd : Int32) (w : nc_H) : nc_Run m_X12_driedBy 4 [some (.inr (.inr (12, aa))), some (.inl xb), some (.inl xc), some (.inl xd)] [] w =
  nc_bd 1 513 fun j1 =>
  if (w.1 874 aa j1) ≤ xd then
    some (some (.inl xc), w)
  else
    nc_bI (nc_Call m_X12_isDry [.inr (.inr (12, aa)), .inl xd] w) fun r3 w2 =>
    if r3 ≠ 0 then
      nc_li (xc ||| 0) fun x4 =>
      nc_li (xd + 1) fun x5 =>
      nc_Run m_X12_driedBy 4 [some (.inr (.inr (12, aa))), some (.inl xb), some (.inl x4), some (.inl x5)] [] w2
    else
      nc_bI (nc_Call m_X12_knows [.inr (.inr (12, aa)), .inl xd, .inl xb] w2) fun r7 w6 =>
      if r7 = 0 then
        nc_li (xc ||| 0) fun x8 =>
        nc_li (xd + 1) fun x9 =>
        nc_Run m_X12_driedBy 4 [some (.inr (.inr (12, aa))), some (.inl xb), some (.inl x8), some (.inl x9)] [] w6
      else
        nc_bd (79 + xd) 513 fun j10 =>
        nc_bd (21 + xd) 513 fun j11 =>
        if ((w6.1 874 aa j10) + 1) < (w6.1 874 aa j11) then
          nc_li (xc ||| 0) fun x12 =>
          nc_li (xd + 1) fun x13 =>
          nc_Run m_X12_driedBy 4 [some (.inr (.inr (12, aa))), some (.inl xb), some (.inl x12), some (.inl x13)] [] w6
        else
          nc_li (xc ||| (1 <<< (xd &&& 31))) fun x14 =>
          nc_li (xd + 1) fun x15 =>
          nc_Run m_X12_driedBy 4 [some (.inr (.inr (12, aa))), some (.inl xb), some (.inl x14), some (.inl x15)] [] w6 :=
  (nc_Run_un [4] 40).trans rfl
set_option maxRecDepth 100000 in
theorem qc_X12_finds (aa : Nat) (xb : Int32) (w : nc_H) : nc_Call m_X12_finds [.inr (.inr (12, aa)), .inl xb] w =
  nc_bI (nc_Call m_X12_driedBy [.inr (.inr (12, aa)), .inl xb] w) fun r2 w1 =>
  nc_Run m_X12_finds 8 [some (.inr (.inr (12, aa))), some (.inl xb), some (.inl r2), some (.inl 0)] [] w1 :=
  (nc_Call_eq _ _ _).trans ((if_pos (Nat.le_of_ble_eq_true rfl)).trans ((nc_Run_un [8] 7).trans rfl))
set_option maxRecDepth 100000 in
theorem qr_X12_finds_8 (aa : Nat) (xb : Int32) (xc : Int32) (xd : Int32) (w : nc_H) : nc_Run m_X12_finds 8 [some (.inr (.inr (12, aa))), some (.inl xb), some (.inl xc), some (.inl xd)] [] w =
  nc_bd 1 513 fun j1 =>
  if (w.1 874 aa j1) ≤ xd then
    nc_bd 77 513 fun j2 =>
    nc_bd 77 513 fun j3 =>
    nc_lt (nc_si w 874 aa j3 ((w.1 874 aa j2) ||| xc)) fun w4 =>
    nc_bd 78 513 fun j5 =>
    nc_bd 78 513 fun j6 =>
    nc_lt (nc_si w4 874 aa j6 ((w4.1 874 aa j5) ||| (1 <<< (xb &&& 31)))) fun w7 =>
    some (none, w7)
  else
    nc_bd (79 + xd) 513 fun j8 =>
    nc_bI (nc_Call m_X12_isDry [.inr (.inr (12, aa)), .inl xd] w) fun r10 w9 =>
    if r10 ≠ 0 then
      nc_bd (79 + xd) 513 fun j11 =>
      nc_lt (nc_si w9 874 aa j11 ((w.1 874 aa j8) + 0)) fun w12 =>
      nc_li (xd + 1) fun x13 =>
      nc_Run m_X12_finds 8 [some (.inr (.inr (12, aa))), some (.inl xb), some (.inl xc), some (.inl x13)] [] w12
    else
      nc_bI (nc_Call m_X12_knows [.inr (.inr (12, aa)), .inl xd, .inl xb] w9) fun r15 w14 =>
      if r15 = 0 then
        nc_bd (79 + xd) 513 fun j16 =>
        nc_lt (nc_si w14 874 aa j16 ((w.1 874 aa j8) + 0)) fun w17 =>
        nc_li (xd + 1) fun x18 =>
        nc_Run m_X12_finds 8 [some (.inr (.inr (12, aa))), some (.inl xb), some (.inl xc), some (.inl x18)] [] w17
      else
        nc_bd (79 + xd) 513 fun j19 =>
        nc_lt (nc_si w14 874 aa j19 ((w.1 874 aa j8) + 1)) fun w20 =>
        nc_li (xd + 1) fun x21 =>
        nc_Run m_X12_finds 8 [some (.inr (.inr (12, aa))), some (.inl xb), some (.inl xc), some (.inl x21)] [] w20 :=
  (nc_Run_un [8] 29).trans rfl
set_option maxRecDepth 100000 in
theorem qc_X12_comesTo (aa : Nat) (xb : Int32) (xc : Int32) (w : nc_H) : nc_Call m_X12_comesTo [.inr (.inr (12, aa)), .inl xb, .inl xc] w =
  nc_Run m_X12_comesTo 5 [some (.inr (.inr (12, aa))), some (.inl xb), some (.inl xc), some (.inl 0), some (.inl 0), none] [] w :=
  (nc_Call_eq _ _ _).trans ((if_pos (Nat.le_of_ble_eq_true rfl)).trans ((nc_Run_un [5, 52, 82] 5).trans rfl))
set_option maxRecDepth 100000 in
theorem qr_X12_comesTo_5 (aa : Nat) (xb : Int32) (xc : Int32) (xd : Int32) (xe : Int32) (w : nc_H) : nc_Run m_X12_comesTo 5 [some (.inr (.inr (12, aa))), some (.inl xb), some (.inl xc), some (.inl xd), some (.inl xe), none] [] w =
  nc_bd 1 513 fun j1 =>
  if (w.1 874 aa j1) ≤ xe then
    nc_Run m_X12_comesTo 52 [some (.inr (.inr (12, aa))), none, some (.inl xc), some (.inl xd), some (.inl 0), none] [] w
  else
    nc_bd (5 + xe) 513 fun j2 =>
    if (w.1 874 aa j2) ≠ xb then
      nc_li (xd ||| 0) fun x3 =>
      nc_li (xe + 1) fun x4 =>
      nc_Run m_X12_comesTo 5 [some (.inr (.inr (12, aa))), some (.inl xb), some (.inl xc), some (.inl x3), some (.inl x4), none] [] w
    else
      nc_bd xe 8 fun j5 =>
      nc_li (xd ||| (w.1 889 aa j5)) fun x6 =>
      nc_li (xe + 1) fun x7 =>
      nc_Run m_X12_comesTo 5 [some (.inr (.inr (12, aa))), some (.inl xb), some (.inl xc), some (.inl x6), some (.inl x7), none] [] w :=
  (nc_Run_un [5, 52, 82] 25).trans rfl
set_option maxRecDepth 100000 in
theorem qr_X12_comesTo_52 (aa : Nat) (xc : Int32) (xd : Int32) (xe : Int32) (w : nc_H) : nc_Run m_X12_comesTo 52 [some (.inr (.inr (12, aa))), none, some (.inl xc), some (.inl xd), some (.inl xe), none] [] w =
  nc_bd 1 513 fun j1 =>
  if (w.1 874 aa j1) ≤ xe then
    some (none, w)
  else
    nc_bd (5 + xe) 513 fun j2 =>
    if (w.1 874 aa j2) = xc then
      nc_Run m_X12_comesTo 82 [some (.inr (.inr (12, aa))), none, some (.inl xc), some (.inl xd), some (.inl xe), some (.inl 0)] [] w
    else
      nc_li (xe + 1) fun x3 =>
      nc_Run m_X12_comesTo 52 [some (.inr (.inr (12, aa))), none, some (.inl xc), some (.inl xd), some (.inl x3), none] [] w :=
  (nc_Run_un [5, 52, 82] 18).trans rfl
set_option maxRecDepth 100000 in
theorem qr_X12_comesTo_82 (aa : Nat) (xc : Int32) (xd : Int32) (xe : Int32) (xf : Int32) (w : nc_H) : nc_Run m_X12_comesTo 82 [some (.inr (.inr (12, aa))), none, some (.inl xc), some (.inl xd), some (.inl xe), some (.inl xf)] [] w =
  nc_bd 2 513 fun j1 =>
  if (w.1 874 aa j1) ≤ xf then
    nc_li (xe + 1) fun x2 =>
    nc_Run m_X12_comesTo 52 [some (.inr (.inr (12, aa))), none, some (.inl xc), some (.inl xd), some (.inl x2), none] [] w
  else
    nc_bI (nc_Call m_X12_bitOf [.inl xd, .inl xf] w) fun r4 w3 =>
    if r4 = 0 then
      nc_li (xf + 1) fun x5 =>
      nc_Run m_X12_comesTo 82 [some (.inr (.inr (12, aa))), none, some (.inl xc), some (.inl xd), some (.inl xe), some (.inl x5)] [] w3
    else
      nc_bd 76 513 fun j6 =>
      nc_bd ((132 + (10 * xe)) + xf) 513 fun j7 =>
      nc_lt (nc_si w3 874 aa j7 ((w3.1 874 aa j6) + 1)) fun w8 =>
      nc_li (xf + 1) fun x9 =>
      nc_Run m_X12_comesTo 82 [some (.inr (.inr (12, aa))), none, some (.inl xc), some (.inl xd), some (.inl xe), some (.inl x9)] [] w8 :=
  (nc_Run_un [5, 52, 82] 29).trans rfl
set_option maxRecDepth 100000 in
theorem qc_X12_day (aa : Nat) (w : nc_H) : nc_Call m_X12_day [.inr (.inr (12, aa))] w =
  nc_Run m_X12_day 2 [some (.inr (.inr (12, aa))), some (.inl 0)] [] w :=
  (nc_Call_eq _ _ _).trans ((if_pos (Nat.le_of_ble_eq_true rfl)).trans ((nc_Run_un [2, 66, 112, 185] 3).trans rfl))
set_option maxRecDepth 100000 in
theorem qr_X12_day_2 (aa : Nat) (xb : Int32) (w : nc_H) : nc_Run m_X12_day 2 [some (.inr (.inr (12, aa))), some (.inl xb)] [] w =
  nc_bd 0 513 fun j1 =>
  if (w.1 874 aa j1) ≤ xb then
    nc_Run m_X12_day 66 [some (.inr (.inr (12, aa))), some (.inl 0)] [] w
  else
    nc_bd 76 513 fun j2 =>
    nc_bI (nc_Call m_X12_milkOf [.inr (.inr (12, aa)), .inl xb] w) fun r4 w3 =>
    nc_bd ((212 + (30 * xb)) + ((w.1 874 aa j2) - (w.1 874 aa j2) / 30 * 30)) 513 fun j5 =>
    nc_lt (nc_si w3 874 aa j5 r4) fun w6 =>
    nc_bd (95 + xb) 513 fun j7 =>
    nc_bI (nc_Call m_X12_milkOf [.inr (.inr (12, aa)), .inl xb] w6) fun r9 w8 =>
    nc_bd (95 + xb) 513 fun j10 =>
    nc_lt (nc_si w8 874 aa j10 ((w6.1 874 aa j7) + r9)) fun w11 =>
    nc_li (xb + 1) fun x12 =>
    nc_Run m_X12_day 2 [some (.inr (.inr (12, aa))), some (.inl x12)] [] w11 :=
  (nc_Run_un [2, 66, 112, 185] 39).trans rfl
set_option maxRecDepth 100000 in
theorem qr_X12_day_66 (aa : Nat) (xb : Int32) (w : nc_H) : nc_Run m_X12_day 66 [some (.inr (.inr (12, aa))), some (.inl xb)] [] w =
  nc_bd 1 513 fun j1 =>
  if (w.1 874 aa j1) ≤ xb then
    nc_Run m_X12_day 112 [some (.inr (.inr (12, aa))), some (.inl 0)] [] w
  else
    nc_bd (87 + xb) 513 fun j2 =>
    nc_bI (nc_Call m_X12_milk [.inr (.inr (12, aa)), .inl xb] w) fun r4 w3 =>
    nc_bd (87 + xb) 513 fun j5 =>
    nc_lt (nc_si w3 874 aa j5 ((w.1 874 aa j2) + r4)) fun w6 =>
    nc_bI (nc_Call m_X12_known [.inr (.inr (12, aa)), .inl xb] w6) fun r8 w7 =>
    nc_bd xb 8 fun j9 =>
    nc_lt (nc_si w7 889 aa j9 r8) fun w10 =>
    nc_li (xb + 1) fun x11 =>
    nc_Run m_X12_day 66 [some (.inr (.inr (12, aa))), some (.inl x11)] [] w10 :=
  (nc_Run_un [2, 66, 112, 185] 28).trans rfl
set_option maxRecDepth 100000 in
theorem qr_X12_day_112 (aa : Nat) (xb : Int32) (w : nc_H) : nc_Run m_X12_day 112 [some (.inr (.inr (12, aa))), some (.inl xb)] [] w =
  nc_bd 3 513 fun j1 =>
  if (w.1 874 aa j1) ≤ xb then
    nc_Run m_X12_day 185 [some (.inr (.inr (12, aa))), some (.inl 0)] [] w
  else
    nc_bI (nc_Call m_X12_talks [.inr (.inr (12, aa)), .inl xb] w) fun r3 w2 =>
    if r3 ≠ 0 then
      nc_bd (58 + xb) 513 fun j4 =>
      nc_bd (64 + xb) 513 fun j5 =>
      nc_bV (nc_Call m_X12_comesTo [.inr (.inr (12, aa)), .inl (w2.1 874 aa j4), .inl (w2.1 874 aa j5)] w2) fun w6 =>
      nc_bd (64 + xb) 513 fun j7 =>
      nc_bd (58 + xb) 513 fun j8 =>
      nc_bV (nc_Call m_X12_comesTo [.inr (.inr (12, aa)), .inl (w6.1 874 aa j7), .inl (w6.1 874 aa j8)] w6) fun w9 =>
      nc_li (xb + 1) fun x10 =>
      nc_Run m_X12_day 112 [some (.inr (.inr (12, aa))), some (.inl x10)] [] w9
    else
      nc_li (xb + 1) fun x11 =>
      nc_Run m_X12_day 112 [some (.inr (.inr (12, aa))), some (.inl x11)] [] w2 :=
  (nc_Run_un [2, 66, 112, 185] 41).trans rfl
set_option maxRecDepth 100000 in
theorem qr_X12_day_185 (aa : Nat) (xb : Int32) (w : nc_H) : nc_Run m_X12_day 185 [some (.inr (.inr (12, aa))), some (.inl xb)] [] w =
  nc_bd 1 513 fun j1 =>
  if (w.1 874 aa j1) ≤ xb then
    nc_bd 76 513 fun j2 =>
    nc_bd 76 513 fun j3 =>
    nc_lt (nc_si w 874 aa j3 ((w.1 874 aa j2) + 1)) fun w4 =>
    some (none, w4)
  else
    nc_bd (100 + xb) 513 fun j5 =>
    nc_bd (116 + xb) 513 fun j6 =>
    nc_lt (nc_si w 874 aa j6 (w.1 874 aa j5)) fun w7 =>
    nc_bd (100 + xb) 513 fun j8 =>
    nc_lt (nc_si w7 874 aa j8 0) fun w9 =>
    nc_bd (108 + xb) 513 fun j10 =>
    nc_lt (nc_si w9 874 aa j10 0) fun w11 =>
    nc_li (xb + 1) fun x12 =>
    nc_Run m_X12_day 185 [some (.inr (.inr (12, aa))), some (.inl x12)] [] w11 :=
  (nc_Run_un [2, 66, 112, 185] 35).trans rfl
set_option maxRecDepth 100000 in
theorem qc_X12_goesOn (aa : Nat) (xb : Int32) (w : nc_H) : nc_Call m_X12_goesOn [.inr (.inr (12, aa)), .inl xb] w =
  nc_Run m_X12_goesOn 2 [some (.inr (.inr (12, aa))), some (.inl xb), some (.inl 0)] [] w :=
  (nc_Call_eq _ _ _).trans ((if_pos (Nat.le_of_ble_eq_true rfl)).trans ((nc_Run_un [2] 3).trans rfl))
set_option maxRecDepth 100000 in
theorem qr_X12_goesOn_2 (aa : Nat) (xb : Int32) (xc : Int32) (w : nc_H) : nc_Run m_X12_goesOn 2 [some (.inr (.inr (12, aa))), some (.inl xb), some (.inl xc)] [] w =
  if xb ≤ xc then
    some (some (.inl xc), w)
  else
    nc_bd 76 513 fun j1 =>
    if (400 : Int32) ≤ (w.1 874 aa j1) then
      some (some (.inl xc), w)
    else
      nc_bV (nc_Call m_X12_day [.inr (.inr (12, aa))] w) fun w2 =>
      nc_li (xc + 1) fun x3 =>
      nc_Run m_X12_goesOn 2 [some (.inr (.inr (12, aa))), some (.inl xb), some (.inl x3)] [] w2 :=
  (nc_Run_un [2] 14).trans rfl
set_option maxRecDepth 100000 in
theorem qc_X12_tell (aa : Nat) (xb : Int32) (xc : Int32) (w : nc_H) : nc_Call m_X12_tell [.inr (.inr (12, aa)), .inl xb, .inl xc] w =
  nc_lt (nc_si w 12 aa 0 0) fun w1 =>
  nc_bI (nc_Call m_X12_isCow [.inr (.inr (12, aa)), .inl xb] w1) fun r3 w2 =>
  if r3 = 0 then
    some (some (.inl (-1)), w2)
  else
    nc_bI (nc_Call m_X12_isNews [.inr (.inr (12, aa)), .inl xc] w2) fun r5 w4 =>
    if r5 ≠ 0 then
      nc_bI (nc_Call m_X12_whyTell [.inr (.inr (12, aa)), .inl xb, .inl xc] w4) fun r7 w6 =>
      if r7 ≤ 0 then
        nc_bV (nc_Call m_X12_keep [.inr (.inr (12, aa))] w6) fun w8 =>
        nc_bV (nc_Call m_X12_tells [.inr (.inr (12, aa)), .inl xb, .inl xc] w8) fun w9 =>
        some (some (.inl 0), w9)
      else
        some (some (.inl r7), w6)
    else
      some (some (.inl (-1)), w4) :=
  (nc_Call_eq _ _ _).trans ((if_pos (Nat.le_of_ble_eq_true rfl)).trans ((nc_Run_un [] 26).trans rfl))
set_option maxRecDepth 100000 in
theorem qc_X12_find (aa : Nat) (xb : Int32) (w : nc_H) : nc_Call m_X12_find [.inr (.inr (12, aa)), .inl xb] w =
  nc_lt (nc_si w 12 aa 0 0) fun w1 =>
  nc_bI (nc_Call m_X12_isNews [.inr (.inr (12, aa)), .inl xb] w1) fun r3 w2 =>
  if r3 ≠ 0 then
    nc_bI (nc_Call m_X12_whyFind [.inr (.inr (12, aa)), .inl xb] w2) fun r5 w4 =>
    if r5 ≤ 0 then
      nc_bV (nc_Call m_X12_keep [.inr (.inr (12, aa))] w4) fun w6 =>
      nc_bV (nc_Call m_X12_finds [.inr (.inr (12, aa)), .inl xb] w6) fun w7 =>
      some (some (.inl 0), w7)
    else
      some (some (.inl r5), w4)
  else
    some (some (.inl (-1)), w2) :=
  (nc_Call_eq _ _ _).trans ((if_pos (Nat.le_of_ble_eq_true rfl)).trans ((nc_Run_un [] 20).trans rfl))
set_option maxRecDepth 100000 in
theorem qc_X12_days (aa : Nat) (xb : Int32) (w : nc_H) : nc_Call m_X12_days [.inr (.inr (12, aa)), .inl xb] w =
  nc_lt (nc_si w 12 aa 0 0) fun w1 =>
  nc_bI (nc_Call m_X12_isIn [.inl xb, .inl 1, .inl 60] w1) fun r3 w2 =>
  if r3 ≠ 0 then
    nc_bd 76 513 fun j4 =>
    if (w2.1 874 aa j4) ≠ 400 then
      nc_bV (nc_Call m_X12_keep [.inr (.inr (12, aa))] w2) fun w5 =>
      nc_bI (nc_Call m_X12_goesOn [.inr (.inr (12, aa)), .inl xb] w5) fun r7 w6 =>
      some (some (.inl r7), w6)
    else
      some (some (.inl 0), w2)
  else
    some (some (.inl (-1)), w2) :=
  (nc_Call_eq _ _ _).trans ((if_pos (Nat.le_of_ble_eq_true rfl)).trans ((nc_Run_un [] 20).trans rfl))
set_option maxRecDepth 100000 in
theorem qc_X12_why (aa : Nat) (xb : Int32) (xc : Int32) (w : nc_H) : nc_Call m_X12_why [.inr (.inr (12, aa)), .inl xb, .inl xc] w =
  nc_lt (nc_si w 12 aa 0 0) fun w1 =>
  nc_bI (nc_Call m_X12_isCow [.inr (.inr (12, aa)), .inl xb] w1) fun r3 w2 =>
  if r3 = 0 then
    some (some (.inl (-1)), w2)
  else
    nc_bI (nc_Call m_X12_isNews [.inr (.inr (12, aa)), .inl xc] w2) fun r5 w4 =>
    if r5 = 0 then
      some (some (.inl (-1)), w4)
    else
      nc_bI (nc_Call m_X12_whyTell [.inr (.inr (12, aa)), .inl xb, .inl xc] w4) fun r7 w6 =>
      some (some (.inl r7), w6) :=
  (nc_Call_eq _ _ _).trans ((if_pos (Nat.le_of_ble_eq_true rfl)).trans ((nc_Run_un [] 17).trans rfl))
set_option maxRecDepth 100000 in
theorem qc_X12_mayHear (aa : Nat) (xb : Int32) (xc : Int32) (w : nc_H) : nc_Call m_X12_mayHear [.inr (.inr (12, aa)), .inl xb, .inl xc] w =
  nc_bd (100 + xb) 513 fun j1 =>
  if (xc &&& (w.1 874 aa j1)) ≠ 0 then
    some (some (.inl 0), w)
  else
    nc_bI (nc_Call m_X12_bits [.inl xc] w) fun r3 w2 =>
    nc_bd 4 513 fun j4 =>
    nc_bd (100 + xb) 513 fun j5 =>
    nc_bI (nc_Call m_X12_bits [.inl (w2.1 874 aa j5)] w2) fun r7 w6 =>
    if ((w2.1 874 aa j4) - r7) < r3 then
      some (some (.inl 0), w6)
    else
      some (some (.inl 1), w6) :=
  (nc_Call_eq _ _ _).trans ((if_pos (Nat.le_of_ble_eq_true rfl)).trans ((nc_Run_un [] 27).trans rfl))
set_option maxRecDepth 100000 in
theorem qc_X12_bestOf (aa : Nat) (xb : Int32) (xc : Int32) (w : nc_H) : nc_Call m_X12_bestOf [.inr (.inr (12, aa)), .inl xb, .inl xc] w =
  nc_Run m_X12_bestOf 5 [some (.inr (.inr (12, aa))), some (.inl xb), some (.inl xc), some (.inl 0), some (.inl 1), none, none] [] w :=
  (nc_Call_eq _ _ _).trans ((if_pos (Nat.le_of_ble_eq_true rfl)).trans ((nc_Run_un [5] 5).trans rfl))
set_option maxRecDepth 100000 in
theorem qr_X12_bestOf_5 (aa : Nat) (xb : Int32) (xc : Int32) (xd : Int32) (xe : Int32) (w : nc_H) : nc_Run m_X12_bestOf 5 [some (.inr (.inr (12, aa))), some (.inl xb), some (.inl xc), some (.inl xd), some (.inl xe), none, none] [] w =
  if xc < xe then
    some (some (.inl xd), w)
  else
    if (xe &&& (xc ^^^ (-1))) ≠ 0 then
      nc_li (xe + 1) fun x1 =>
      nc_Run m_X12_bestOf 5 [some (.inr (.inr (12, aa))), some (.inl xb), some (.inl xc), some (.inl xd), some (.inl x1), none, none] [] w
    else
      nc_bI (nc_Call m_X12_mayHear [.inr (.inr (12, aa)), .inl xb, .inl xe] w) fun r3 w2 =>
      if r3 ≠ 0 then
        nc_bI (nc_Call m_X12_milkWith [.inr (.inr (12, aa)), .inl xb, .inl xe] w2) fun r5 w4 =>
        nc_bI (nc_Call m_X12_milkWith [.inr (.inr (12, aa)), .inl xb, .inl xd] w4) fun r7 w6 =>
        if r7 < r5 then
          nc_li (xe + 1) fun x8 =>
          nc_Run m_X12_bestOf 5 [some (.inr (.inr (12, aa))), some (.inl xb), some (.inl xc), some (.inl xe), some (.inl x8), none, none] [] w6
        else
          if r5 ≠ r7 then
            nc_li (xe + 1) fun x9 =>
            nc_Run m_X12_bestOf 5 [some (.inr (.inr (12, aa))), some (.inl xb), some (.inl xc), some (.inl xd), some (.inl x9), none, none] [] w6
          else
            nc_bI (nc_Call m_X12_bits [.inl xe] w6) fun r11 w10 =>
            nc_bI (nc_Call m_X12_bits [.inl xd] w10) fun r13 w12 =>
            if r13 ≤ r11 then
              nc_li (xe + 1) fun x14 =>
              nc_Run m_X12_bestOf 5 [some (.inr (.inr (12, aa))), some (.inl xb), some (.inl xc), some (.inl xd), some (.inl x14), none, none] [] w12
            else
              nc_li (xe + 1) fun x15 =>
              nc_Run m_X12_bestOf 5 [some (.inr (.inr (12, aa))), some (.inl xb), some (.inl xc), some (.inl xe), some (.inl x15), none, none] [] w12
      else
        nc_li (xe + 1) fun x16 =>
        nc_Run m_X12_bestOf 5 [some (.inr (.inr (12, aa))), some (.inl xb), some (.inl xc), some (.inl xd), some (.inl x16), none, none] [] w2 :=
  (nc_Run_un [5] 40).trans rfl
set_option maxRecDepth 100000 in
theorem qc_X12_best (aa : Nat) (xb : Int32) (w : nc_H) : nc_Call m_X12_best [.inr (.inr (12, aa)), .inl xb] w =
  nc_lt (nc_si w 12 aa 0 0) fun w1 =>
  nc_bI (nc_Call m_X12_isCow [.inr (.inr (12, aa)), .inl xb] w1) fun r3 w2 =>
  if r3 = 0 then
    some (some (.inl (-1)), w2)
  else
    nc_bI (nc_Call m_X12_isDry [.inr (.inr (12, aa)), .inl xb] w2) fun r5 w4 =>
    if r5 = 0 then
      nc_bI (nc_Call m_X12_peace [.inr (.inr (12, aa))] w4) fun r7 w6 =>
      nc_bI (nc_Call m_X12_bestOf [.inr (.inr (12, aa)), .inl xb, .inl r7] w6) fun r9 w8 =>
      nc_bV (nc_Call m_X12_tellsSet [.inr (.inr (12, aa)), .inl r9] w8) fun w10 =>
      nc_bI (nc_Call m_X12_milkWith [.inr (.inr (12, aa)), .inl xb, .inl r9] w10) fun r12 w11 =>
      some (some (.inl r12), w11)
    else
      some (some (.inl (-1)), w4) :=
  (nc_Call_eq _ _ _).trans ((if_pos (Nat.le_of_ble_eq_true rfl)).trans ((nc_Run_un [] 25).trans rfl))
set_option maxRecDepth 100000 in
theorem qc_X12_least (aa : Nat) (xb : Int32) (xc : Int32) (w : nc_H) : nc_Call m_X12_least [.inr (.inr (12, aa)), .inl xb, .inl xc] w =
  nc_lt (nc_si w 12 aa 0 0) fun w1 =>
  nc_bI (nc_Call m_X12_isCow [.inr (.inr (12, aa)), .inl xb] w1) fun r3 w2 =>
  if r3 = 0 then
    some (some (.inl (-1)), w2)
  else
    nc_bI (nc_Call m_X12_isDry [.inr (.inr (12, aa)), .inl xb] w2) fun r5 w4 =>
    if r5 ≠ 0 then
      some (some (.inl (-1)), w4)
    else
      nc_bI (nc_Call m_X12_isIn [.inl xc, .inl 0, .inl 999] w4) fun r7 w6 =>
      if r7 ≠ 0 then
        nc_bI (nc_Call m_X12_peace [.inr (.inr (12, aa))] w6) fun r9 w8 =>
        nc_Run m_X12_least 45 [some (.inr (.inr (12, aa))), some (.inl xb), some (.inl xc), some (.inl r9), some (.inl (-1)), some (.inl 0), none] [] w8
      else
        some (some (.inl (-1)), w6) :=
  (nc_Call_eq _ _ _).trans ((if_pos (Nat.le_of_ble_eq_true rfl)).trans ((nc_Run_un [45] 24).trans rfl))
set_option maxRecDepth 100000 in
theorem qr_X12_least_45 (aa : Nat) (xb : Int32) (xc : Int32) (xd : Int32) (xe : Int32) (xf : Int32) (w : nc_H) : nc_Run m_X12_least 45 [some (.inr (.inr (12, aa))), some (.inl xb), some (.inl xc), some (.inl xd), some (.inl xe), some (.inl xf), none] [] w =
  if xd < xf then
    if (0 : Int32) ≤ xe then
      nc_bV (nc_Call m_X12_tellsSet [.inr (.inr (12, aa)), .inl xe] w) fun w1 =>
      nc_bd 57 513 fun j2 =>
      nc_bI (nc_Call m_X12_bits [.inl (xe &&& (w1.1 874 aa j2))] w1) fun r4 w3 =>
      some (some (.inl r4), w3)
    else
      some (some (.inl (-1)), w)
  else
    if (xf &&& (xd ^^^ (-1))) ≠ 0 then
      nc_li (xf + 1) fun x5 =>
      nc_Run m_X12_least 45 [some (.inr (.inr (12, aa))), some (.inl xb), some (.inl xc), some (.inl xd), some (.inl xe), some (.inl x5), none] [] w
    else
      nc_bI (nc_Call m_X12_mayHear [.inr (.inr (12, aa)), .inl xb, .inl xf] w) fun r7 w6 =>
      if r7 = 0 then
        nc_li (xf + 1) fun x8 =>
        nc_Run m_X12_least 45 [some (.inr (.inr (12, aa))), some (.inl xb), some (.inl xc), some (.inl xd), some (.inl xe), some (.inl x8), none] [] w6
      else
        nc_bI (nc_Call m_X12_milkWith [.inr (.inr (12, aa)), .inl xb, .inl xf] w6) fun r10 w9 =>
        if xc ≤ r10 then
          nc_bd 57 513 fun j11 =>
          nc_bI (nc_Call m_X12_bits [.inl (xf &&& (w9.1 874 aa j11))] w9) fun r13 w12 =>
          if xe < 0 then
            nc_li (xf + 1) fun x14 =>
            nc_Run m_X12_least 45 [some (.inr (.inr (12, aa))), some (.inl xb), some (.inl xc), some (.inl xd), some (.inl xf), some (.inl x14), none] [] w12
          else
            nc_bd 57 513 fun j15 =>
            nc_bI (nc_Call m_X12_bits [.inl (xe &&& (w12.1 874 aa j15))] w12) fun r17 w16 =>
            if r13 < r17 then
              nc_li (xf + 1) fun x18 =>
              nc_Run m_X12_least 45 [some (.inr (.inr (12, aa))), some (.inl xb), some (.inl xc), some (.inl xd), some (.inl xf), some (.inl x18), none] [] w16
            else
              nc_bd 57 513 fun j19 =>
              nc_bI (nc_Call m_X12_bits [.inl (xe &&& (w16.1 874 aa j19))] w16) fun r21 w20 =>
              if r13 ≠ r21 then
                nc_li (xf + 1) fun x22 =>
                nc_Run m_X12_least 45 [some (.inr (.inr (12, aa))), some (.inl xb), some (.inl xc), some (.inl xd), some (.inl xe), some (.inl x22), none] [] w20
              else
                nc_bI (nc_Call m_X12_bits [.inl xf] w20) fun r24 w23 =>
                nc_bI (nc_Call m_X12_bits [.inl xe] w23) fun r26 w25 =>
                if r26 ≤ r24 then
                  nc_li (xf + 1) fun x27 =>
                  nc_Run m_X12_least 45 [some (.inr (.inr (12, aa))), some (.inl xb), some (.inl xc), some (.inl xd), some (.inl xe), some (.inl x27), none] [] w25
                else
                  nc_li (xf + 1) fun x28 =>
                  nc_Run m_X12_least 45 [some (.inr (.inr (12, aa))), some (.inl xb), some (.inl xc), some (.inl xd), some (.inl xf), some (.inl x28), none] [] w25
        else
          nc_li (xf + 1) fun x29 =>
          nc_Run m_X12_least 45 [some (.inr (.inr (12, aa))), some (.inl xb), some (.inl xc), some (.inl xd), some (.inl xe), some (.inl x29), none] [] w9 :=
  (nc_Run_un [45] 58).trans rfl
set_option maxRecDepth 100000 in
theorem qc_X12_honest (aa : Nat) (xb : Int32) (w : nc_H) : nc_Call m_X12_honest [.inr (.inr (12, aa)), .inl xb] w =
  nc_lt (nc_si w 12 aa 0 0) fun w1 =>
  nc_bI (nc_Call m_X12_isCow [.inr (.inr (12, aa)), .inl xb] w1) fun r3 w2 =>
  if r3 = 0 then
    some (some (.inl (-1)), w2)
  else
    nc_bI (nc_Call m_X12_isDry [.inr (.inr (12, aa)), .inl xb] w2) fun r5 w4 =>
    if r5 ≠ 0 then
      some (some (.inl (-1)), w4)
    else
      nc_bI (nc_Call m_X12_peace [.inr (.inr (12, aa))] w4) fun r7 w6 =>
      nc_bd 57 513 fun j8 =>
      nc_bI (nc_Call m_X12_bestOf [.inr (.inr (12, aa)), .inl xb, .inl (r7 &&& ((w6.1 874 aa j8) ^^^ (-1)))] w6) fun r10 w9 =>
      nc_bI (nc_Call m_X12_milkWith [.inr (.inr (12, aa)), .inl xb, .inl r10] w9) fun r12 w11 =>
      some (some (.inl r12), w11) :=
  (nc_Call_eq _ _ _).trans ((if_pos (Nat.le_of_ble_eq_true rfl)).trans ((nc_Run_un [] 28).trans rfl))
set_option maxRecDepth 100000 in
theorem qc_X12_planned (aa : Nat) (xb : Int32) (xc : Int32) (xd : Int32) (w : nc_H) : nc_Call m_X12_planned [.inr (.inr (12, aa)), .inl xb, .inl xc, .inl xd] w =
  nc_Run m_X12_planned 9 [some (.inr (.inr (12, aa))), some (.inl xb), some (.inl xc), some (.inl xd), some (.inl 0), some (.inl 1), some (.inl 0), none] [] w :=
  (nc_Call_eq _ _ _).trans ((if_pos (Nat.le_of_ble_eq_true rfl)).trans ((nc_Run_un [9] 7).trans rfl))
set_option maxRecDepth 100000 in
theorem qr_X12_planned_9 (aa : Nat) (xb : Int32) (xc : Int32) (xd : Int32) (xe : Int32) (xf : Int32) (xg : Int32) (w : nc_H) : nc_Run m_X12_planned 9 [some (.inr (.inr (12, aa))), some (.inl xb), some (.inl xc), some (.inl xd), some (.inl xe), some (.inl xf), some (.inl xg), none] [] w =
  if xd ≤ xg then
    nc_bV (nc_Call m_X12_back [.inr (.inr (12, aa))] w) fun w1 =>
    if xf = 0 then
      some (some (.inl (-1)), w1)
    else
      some (some (.inl xe), w1)
  else
    if xf = 0 then
      nc_bV (nc_Call m_X12_back [.inr (.inr (12, aa))] w) fun w2 =>
      if xf = 0 then
        some (some (.inl (-1)), w2)
      else
        some (some (.inl xe), w2)
    else
      nc_bI (nc_Call m_X12_digit [.inr (.inr (12, aa)), .inl xc, .inl xg, .inl xd] w) fun r4 w3 =>
      nc_bd 2 513 fun j5 =>
      if r4 = (w3.1 874 aa j5) then
        nc_bd 2 513 fun j6 =>
        if (w3.1 874 aa j6) ≤ r4 then
          nc_bI (nc_Call m_X12_milk [.inr (.inr (12, aa)), .inl xb] w3) fun r8 w7 =>
          nc_li (xe + r8) fun x9 =>
          nc_bV (nc_Call m_X12_day [.inr (.inr (12, aa))] w7) fun w10 =>
          nc_li (xg + 1) fun x11 =>
          nc_Run m_X12_planned 9 [some (.inr (.inr (12, aa))), some (.inl xb), some (.inl xc), some (.inl xd), some (.inl x9), some (.inl 1), some (.inl x11), none] [] w10
        else
          nc_bV (nc_Call m_X12_tells [.inr (.inr (12, aa)), .inl xb, .inl r4] w3) fun w12 =>
          nc_bI (nc_Call m_X12_milk [.inr (.inr (12, aa)), .inl xb] w12) fun r14 w13 =>
          nc_li (xe + r14) fun x15 =>
          nc_bV (nc_Call m_X12_day [.inr (.inr (12, aa))] w13) fun w16 =>
          nc_li (xg + 1) fun x17 =>
          nc_Run m_X12_planned 9 [some (.inr (.inr (12, aa))), some (.inl xb), some (.inl xc), some (.inl xd), some (.inl x15), some (.inl 1), some (.inl x17), none] [] w16
      else
        nc_bI (nc_Call m_X12_whyTell [.inr (.inr (12, aa)), .inl xb, .inl r4] w3) fun r19 w18 =>
        if r19 ≠ 0 then
          nc_bI (nc_Call m_X12_milk [.inr (.inr (12, aa)), .inl xb] w18) fun r21 w20 =>
          nc_li (xe + r21) fun x22 =>
          nc_bV (nc_Call m_X12_day [.inr (.inr (12, aa))] w20) fun w23 =>
          nc_li (xg + 1) fun x24 =>
          nc_Run m_X12_planned 9 [some (.inr (.inr (12, aa))), some (.inl xb), some (.inl xc), some (.inl xd), some (.inl x22), some (.inl 0), some (.inl x24), none] [] w23
        else
          nc_bd 2 513 fun j25 =>
          if (w18.1 874 aa j25) ≤ r4 then
            nc_bI (nc_Call m_X12_milk [.inr (.inr (12, aa)), .inl xb] w18) fun r27 w26 =>
            nc_li (xe + r27) fun x28 =>
            nc_bV (nc_Call m_X12_day [.inr (.inr (12, aa))] w26) fun w29 =>
            nc_li (xg + 1) fun x30 =>
            nc_Run m_X12_planned 9 [some (.inr (.inr (12, aa))), some (.inl xb), some (.inl xc), some (.inl xd), some (.inl x28), some (.inl 1), some (.inl x30), none] [] w29
          else
            nc_bV (nc_Call m_X12_tells [.inr (.inr (12, aa)), .inl xb, .inl r4] w18) fun w31 =>
            nc_bI (nc_Call m_X12_milk [.inr (.inr (12, aa)), .inl xb] w31) fun r33 w32 =>
            nc_li (xe + r33) fun x34 =>
            nc_bV (nc_Call m_X12_day [.inr (.inr (12, aa))] w32) fun w35 =>
            nc_li (xg + 1) fun x36 =>
            nc_Run m_X12_planned 9 [some (.inr (.inr (12, aa))), some (.inl xb), some (.inl xc), some (.inl xd), some (.inl x34), some (.inl 1), some (.inl x36), none] [] w35 :=
  (nc_Run_un [9] 48).trans rfl
set_option maxRecDepth 100000 in
theorem qc_X12_plan (aa : Nat) (xb : Int32) (xc : Int32) (w : nc_H) : nc_Call m_X12_plan [.inr (.inr (12, aa)), .inl xb, .inl xc] w =
  nc_lt (nc_si w 12 aa 0 0) fun w1 =>
  nc_bI (nc_Call m_X12_isCow [.inr (.inr (12, aa)), .inl xb] w1) fun r3 w2 =>
  if r3 = 0 then
    some (some (.inl (-1)), w2)
  else
    nc_bI (nc_Call m_X12_isIn [.inl xc, .inl 1, .inl 3] w2) fun r5 w4 =>
    if r5 = 0 then
      some (some (.inl (-1)), w4)
    else
      nc_bd 76 513 fun j6 =>
      if ((w4.1 874 aa j6) + xc) ≤ 400 then
        nc_Run m_X12_plan 44 [some (.inr (.inr (12, aa))), some (.inl xb), some (.inl xc), some (.inl 1), some (.inl 0), none, none, none] [] w4
      else
        some (some (.inl (-1)), w4) :=
  (nc_Call_eq _ _ _).trans ((if_pos (Nat.le_of_ble_eq_true rfl)).trans ((nc_Run_un [44, 80, 128] 25).trans rfl))
set_option maxRecDepth 100000 in
theorem qr_X12_plan_44 (aa : Nat) (xb : Int32) (xc : Int32) (xd : Int32) (xe : Int32) (w : nc_H) : nc_Run m_X12_plan 44 [some (.inr (.inr (12, aa))), some (.inl xb), some (.inl xc), some (.inl xd), some (.inl xe), none, none, none] [] w =
  if xc ≤ xe then
    nc_bV (nc_Call m_X12_tries [.inr (.inr (12, aa))] w) fun w1 =>
    nc_Run m_X12_plan 80 [some (.inr (.inr (12, aa))), some (.inl xb), some (.inl xc), some (.inl xd), some (.inl (-1)), some (.inl (-1)), some (.inl 0), none] [] w1
  else
    nc_bd 2 513 fun j2 =>
    nc_li (xd * ((w.1 874 aa j2) + 1)) fun x3 =>
    nc_li (xe + 1) fun x4 =>
    nc_Run m_X12_plan 44 [some (.inr (.inr (12, aa))), some (.inl xb), some (.inl xc), some (.inl x3), some (.inl x4), none, none, none] [] w :=
  (nc_Run_un [44, 80, 128] 15).trans rfl
set_option maxRecDepth 100000 in
theorem qr_X12_plan_80 (aa : Nat) (xb : Int32) (xc : Int32) (xd : Int32) (xe : Int32) (xf : Int32) (xg : Int32) (w : nc_H) : nc_Run m_X12_plan 80 [some (.inr (.inr (12, aa))), some (.inl xb), some (.inl xc), some (.inl xd), some (.inl xe), some (.inl xf), some (.inl xg), none] [] w =
  if xd ≤ xg then
    nc_lt (nc_si w 12 aa 28 xc) fun w1 =>
    nc_Run m_X12_plan 128 [some (.inr (.inr (12, aa))), none, some (.inl xc), none, some (.inl xe), some (.inl xf), some (.inl 0), none] [] w1
  else
    nc_bI (nc_Call m_X12_planned [.inr (.inr (12, aa)), .inl xb, .inl xg, .inl xc] w) fun r3 w2 =>
    if xf < r3 then
      nc_li (xg + 1) fun x4 =>
      nc_Run m_X12_plan 80 [some (.inr (.inr (12, aa))), some (.inl xb), some (.inl xc), some (.inl xd), some (.inl xg), some (.inl r3), some (.inl x4), none] [] w2
    else
      nc_li (xg + 1) fun x5 =>
      nc_Run m_X12_plan 80 [some (.inr (.inr (12, aa))), some (.inl xb), some (.inl xc), some (.inl xd), some (.inl xe), some (.inl xf), some (.inl x5), none] [] w2 :=
  (nc_Run_un [44, 80, 128] 19).trans rfl
set_option maxRecDepth 100000 in
theorem qr_X12_plan_128 (aa : Nat) (xc : Int32) (xe : Int32) (xf : Int32) (xg : Int32) (w : nc_H) : nc_Run m_X12_plan 128 [some (.inr (.inr (12, aa))), none, some (.inl xc), none, some (.inl xe), some (.inl xf), some (.inl xg), none] [] w =
  if xc ≤ xg then
    some (some (.inl xf), w)
  else
    nc_bI (nc_Call m_X12_digit [.inr (.inr (12, aa)), .inl xe, .inl xg, .inl xc] w) fun r2 w1 =>
    nc_bd 2 513 fun j3 =>
    if r2 ≠ (w1.1 874 aa j3) then
      nc_bd xg 3 fun j4 =>
      nc_lt (nc_si w1 895 aa j4 r2) fun w5 =>
      nc_li (xg + 1) fun x6 =>
      nc_Run m_X12_plan 128 [some (.inr (.inr (12, aa))), none, some (.inl xc), none, some (.inl xe), some (.inl xf), some (.inl x6), none] [] w5
    else
      nc_bd xg 3 fun j7 =>
      nc_lt (nc_si w1 895 aa j7 (-1)) fun w8 =>
      nc_li (xg + 1) fun x9 =>
      nc_Run m_X12_plan 128 [some (.inr (.inr (12, aa))), none, some (.inl xc), none, some (.inl xe), some (.inl xf), some (.inl x9), none] [] w8 :=
  (nc_Run_un [44, 80, 128] 24).trans rfl
set_option maxRecDepth 100000 in
theorem qc_X12_planAt (aa : Nat) (xb : Int32) (w : nc_H) : nc_Call m_X12_planAt [.inr (.inr (12, aa)), .inl xb] w =
  nc_lt (nc_si w 12 aa 0 0) fun w1 =>
  nc_bI (nc_Call m_X12_isIn [.inl xb, .inl 0, .inl ((w1.1 12 aa 28) - 1)] w1) fun r3 w2 =>
  if r3 = 0 then
    some (some (.inl (-1)), w2)
  else
    nc_bd xb 3 fun j4 =>
    some (some (.inl (w2.1 895 aa j4)), w2) :=
  (nc_Call_eq _ _ _).trans ((if_pos (Nat.le_of_ble_eq_true rfl)).trans ((nc_Run_un [] 17).trans rfl))
set_option maxRecDepth 100000 in
theorem qc_X12_allKnow (aa : Nat) (xb : Int32) (w : nc_H) : nc_Call m_X12_allKnow [.inr (.inr (12, aa)), .inl xb] w =
  nc_lt (nc_si w 12 aa 0 0) fun w1 =>
  nc_bI (nc_Call m_X12_isNews [.inr (.inr (12, aa)), .inl xb] w1) fun r3 w2 =>
  if r3 = 0 then
    some (some (.inl (-1)), w2)
  else
    nc_bd 1 513 fun j4 =>
    if (w2.1 874 aa j4) ≠ 0 then
      nc_bV (nc_Call m_X12_tries [.inr (.inr (12, aa))] w2) fun w5 =>
      nc_Run m_X12_allKnow 32 [some (.inr (.inr (12, aa))), some (.inl xb), some (.inl (-1)), some (.inl 0), none, none] [] w5
    else
      some (some (.inl (-1)), w2) :=
  (nc_Call_eq _ _ _).trans ((if_pos (Nat.le_of_ble_eq_true rfl)).trans ((nc_Run_un [32, 58] 19).trans rfl))
set_option maxRecDepth 100000 in
theorem qr_X12_allKnow_32 (aa : Nat) (xb : Int32) (xc : Int32) (xd : Int32) (w : nc_H) : nc_Run m_X12_allKnow 32 [some (.inr (.inr (12, aa))), some (.inl xb), some (.inl xc), some (.inl xd), none, none] [] w =
  if (200 : Int32) ≤ xd then
    nc_bV (nc_Call m_X12_back [.inr (.inr (12, aa))] w) fun w1 =>
    some (some (.inl xc), w1)
  else
    if (0 : Int32) ≤ xc then
      nc_bV (nc_Call m_X12_back [.inr (.inr (12, aa))] w) fun w2 =>
      some (some (.inl xc), w2)
    else
      nc_bI (nc_Call m_X12_goesOn [.inr (.inr (12, aa)), .inl 1] w) fun r4 w3 =>
      if r4 ≠ 1 then
        nc_bV (nc_Call m_X12_back [.inr (.inr (12, aa))] w3) fun w5 =>
        some (some (.inl xc), w5)
      else
        nc_Run m_X12_allKnow 58 [some (.inr (.inr (12, aa))), some (.inl xb), some (.inl xc), some (.inl xd), some (.inl 1), some (.inl 0)] [] w3 :=
  (nc_Run_un [32, 58] 15).trans rfl
set_option maxRecDepth 100000 in
theorem qr_X12_allKnow_58 (aa : Nat) (xb : Int32) (xc : Int32) (xd : Int32) (xe : Int32) (xf : Int32) (w : nc_H) : nc_Run m_X12_allKnow 58 [some (.inr (.inr (12, aa))), some (.inl xb), some (.inl xc), some (.inl xd), some (.inl xe), some (.inl xf)] [] w =
  nc_bd 1 513 fun j1 =>
  if (w.1 874 aa j1) ≤ xf then
    if xe = 0 then
      nc_li (xd + 1) fun x2 =>
      nc_Run m_X12_allKnow 32 [some (.inr (.inr (12, aa))), some (.inl xb), some (.inl xc), some (.inl x2), none, none] [] w
    else
      nc_bd 76 513 fun j3 =>
      nc_li ((w.1 874 aa j3) - 1) fun x4 =>
      nc_li (xd + 1) fun x5 =>
      nc_Run m_X12_allKnow 32 [some (.inr (.inr (12, aa))), some (.inl xb), some (.inl x4), some (.inl x5), none, none] [] w
  else
    if xe = 0 then
      nc_li (xf + 1) fun x6 =>
      nc_Run m_X12_allKnow 58 [some (.inr (.inr (12, aa))), some (.inl xb), some (.inl xc), some (.inl xd), some (.inl 0), some (.inl x6)] [] w
    else
      nc_bI (nc_Call m_X12_knows [.inr (.inr (12, aa)), .inl xf, .inl xb] w) fun r8 w7 =>
      if r8 = 0 then
        nc_li (xf + 1) fun x9 =>
        nc_Run m_X12_allKnow 58 [some (.inr (.inr (12, aa))), some (.inl xb), some (.inl xc), some (.inl xd), some (.inl 0), some (.inl x9)] [] w7
      else
        nc_li (xf + 1) fun x10 =>
        nc_Run m_X12_allKnow 58 [some (.inr (.inr (12, aa))), some (.inl xb), some (.inl xc), some (.inl xd), some (.inl 1), some (.inl x10)] [] w7 :=
  (nc_Run_un [32, 58] 19).trans rfl
set_option maxRecDepth 100000 in
theorem qc_X12_comes (aa : Nat) (xb : Int32) (xc : Int32) (xd : Int32) (w : nc_H) : nc_Call m_X12_comes [.inr (.inr (12, aa)), .inl xb, .inl xc, .inl xd] w =
  nc_li (1 <<< (xb &&& 31)) fun x1 =>
  nc_Run m_X12_comes 8 [some (.inr (.inr (12, aa))), none, some (.inl xc), some (.inl xd), some (.inl x1), some (.inl 0), none] [] w :=
  (nc_Call_eq _ _ _).trans ((if_pos (Nat.le_of_ble_eq_true rfl)).trans ((nc_Run_un [8, 17] 7).trans rfl))
set_option maxRecDepth 100000 in
theorem qr_X12_comes_8 (aa : Nat) (xc : Int32) (xd : Int32) (xe : Int32) (xf : Int32) (w : nc_H) : nc_Run m_X12_comes 8 [some (.inr (.inr (12, aa))), none, some (.inl xc), some (.inl xd), some (.inl xe), some (.inl xf), none] [] w =
  if (4 : Int32) ≤ xf then
    nc_bI (nc_Call m_X12_bitOf [.inl xe, .inl xc] w) fun r2 w1 =>
    nc_z r2 <| some (some (.inl r2), w1)
  else
    nc_Run m_X12_comes 17 [some (.inr (.inr (12, aa))), none, some (.inl xc), some (.inl xd), some (.inl xe), some (.inl xf), some (.inl 0)] [] w :=
  (nc_Run_un [8, 17] 7).trans rfl
set_option maxRecDepth 100000 in
theorem qr_X12_comes_17 (aa : Nat) (xc : Int32) (xd : Int32) (xe : Int32) (xf : Int32) (xg : Int32) (w : nc_H) : nc_Run m_X12_comes 17 [some (.inr (.inr (12, aa))), none, some (.inl xc), some (.inl xd), some (.inl xe), some (.inl xf), some (.inl xg)] [] w =
  nc_bd 3 513 fun j1 =>
  if (w.1 874 aa j1) ≤ xg then
    nc_li (xf + 1) fun x2 =>
    nc_Run m_X12_comes 8 [some (.inr (.inr (12, aa))), none, some (.inl xc), some (.inl xd), some (.inl xe), some (.inl x2), none] [] w
  else
    nc_bI (nc_Call m_X12_bitOf [.inl xd, .inl xg] w) fun r4 w3 =>
    if r4 ≠ 0 then
      nc_bd (58 + xg) 513 fun j5 =>
      nc_bI (nc_Call m_X12_bitOf [.inl xe, .inl (w3.1 874 aa j5)] w3) fun r7 w6 =>
      if r7 ≠ 0 then
        nc_bd (58 + xg) 513 fun j8 =>
        nc_bd (64 + xg) 513 fun j9 =>
        nc_li (xe ||| ((1 <<< ((w6.1 874 aa j8) &&& 31)) ||| (1 <<< ((w6.1 874 aa j9) &&& 31)))) fun x10 =>
        nc_li (xg + 1) fun x11 =>
        nc_Run m_X12_comes 17 [some (.inr (.inr (12, aa))), none, some (.inl xc), some (.inl xd), some (.inl x10), some (.inl xf), some (.inl x11)] [] w6
      else
        nc_bd (64 + xg) 513 fun j12 =>
        nc_bI (nc_Call m_X12_bitOf [.inl xe, .inl (w6.1 874 aa j12)] w6) fun r14 w13 =>
        if r14 = 0 then
          nc_li (xg + 1) fun x15 =>
          nc_Run m_X12_comes 17 [some (.inr (.inr (12, aa))), none, some (.inl xc), some (.inl xd), some (.inl xe), some (.inl xf), some (.inl x15)] [] w13
        else
          nc_bd (58 + xg) 513 fun j16 =>
          nc_bd (64 + xg) 513 fun j17 =>
          nc_li (xe ||| ((1 <<< ((w13.1 874 aa j16) &&& 31)) ||| (1 <<< ((w13.1 874 aa j17) &&& 31)))) fun x18 =>
          nc_li (xg + 1) fun x19 =>
          nc_Run m_X12_comes 17 [some (.inr (.inr (12, aa))), none, some (.inl xc), some (.inl xd), some (.inl x18), some (.inl xf), some (.inl x19)] [] w13
    else
      nc_li (xg + 1) fun x20 =>
      nc_Run m_X12_comes 17 [some (.inr (.inr (12, aa))), none, some (.inl xc), some (.inl xd), some (.inl xe), some (.inl xf), some (.inl x20)] [] w3 :=
  (nc_Run_un [8, 17] 51).trans rfl
set_option maxRecDepth 100000 in
theorem qc_X12_part (aa : Nat) (xb : Int32) (xc : Int32) (w : nc_H) : nc_Call m_X12_part [.inr (.inr (12, aa)), .inl xb, .inl xc] w =
  nc_lt (nc_si w 12 aa 0 0) fun w1 =>
  nc_bI (nc_Call m_X12_isFarm [.inr (.inr (12, aa)), .inl xb] w1) fun r3 w2 =>
  if r3 = 0 then
    some (some (.inl (-1)), w2)
  else
    nc_bI (nc_Call m_X12_isFarm [.inr (.inr (12, aa)), .inl xc] w2) fun r5 w4 =>
    if r5 = 0 then
      some (some (.inl (-1)), w4)
    else
      if xb ≠ xc then
        nc_bd 3 513 fun j6 =>
        nc_li ((1 <<< ((w4.1 874 aa j6) &&& 31)) - 1) fun x7 =>
        nc_Run m_X12_part 45 [some (.inr (.inr (12, aa))), some (.inl xb), some (.inl xc), some (.inl x7), some (.inl x7), some (.inl x7)] [] w4
      else
        some (some (.inl (-1)), w4) :=
  (nc_Call_eq _ _ _).trans ((if_pos (Nat.le_of_ble_eq_true rfl)).trans ((nc_Run_un [45] 28).trans rfl))
end
section
set_option maxRecDepth 100000 in
theorem qr_X12_part_45 (aa : Nat) (xb : Int32) (xc : Int32) (xd : Int32) (xe : Int32) (xf : Int32) (w : nc_H) : nc_Run m_X12_part 45 [some (.inr (.inr (12, aa))), some (.inl xb), some (.inl xc), some (.inl xd), some (.inl xe), some (.inl xf)] [] w =
  if xf < 0 then
    nc_lt (nc_si w 12 aa 30 1) fun w1 =>
    nc_lt (nc_si w1 12 aa 29 xe) fun w2 =>
    nc_bI (nc_Call m_X12_bits [.inl xe] w2) fun r4 w3 =>
    some (some (.inl r4), w3)
  else
    nc_bI (nc_Call m_X12_bits [.inl xf] w) fun r6 w5 =>
    nc_bI (nc_Call m_X12_bits [.inl xe] w5) fun r8 w7 =>
    if r8 < r6 then
      nc_li (xf + Int32.ofInt (-1)) fun x9 =>
      nc_Run m_X12_part 45 [some (.inr (.inr (12, aa))), some (.inl xb), some (.inl xc), some (.inl xd), some (.inl xe), some (.inl x9)] [] w7
    else
      nc_bI (nc_Call m_X12_comes [.inr (.inr (12, aa)), .inl xb, .inl xc, .inl (xd &&& (xf ^^^ (-1)))] w7) fun r11 w10 =>
      if r11 ≠ 0 then
        nc_li (xf + Int32.ofInt (-1)) fun x12 =>
        nc_Run m_X12_part 45 [some (.inr (.inr (12, aa))), some (.inl xb), some (.inl xc), some (.inl xd), some (.inl xe), some (.inl x12)] [] w10
      else
        nc_li (xf + Int32.ofInt (-1)) fun x13 =>
        nc_Run m_X12_part 45 [some (.inr (.inr (12, aa))), some (.inl xb), some (.inl xc), some (.inl xd), some (.inl xf), some (.inl x13)] [] w10 :=
  (nc_Run_un [45] 22).trans rfl
set_option maxRecDepth 100000 in
theorem qc_X12_tasted (aa : Nat) (xb : Int32) (w : nc_H) : nc_Call m_X12_tasted [.inr (.inr (12, aa)), .inl xb] w =
  nc_lt (nc_si w 12 aa 0 0) fun w1 =>
  nc_bV (nc_Call m_X12_taken [.inr (.inr (12, aa)), .inl 940] w1) fun w2 =>
  nc_bI (nc_Call m_X12_isCow [.inr (.inr (12, aa)), .inl xb] w2) fun r4 w3 =>
  if r4 = 0 then
    some (some (.inl (-1)), w3)
  else
    nc_bI (nc_Call m_X12_isDry [.inr (.inr (12, aa)), .inl xb] w3) fun r6 w5 =>
    if r6 ≠ 0 then
      some (some (.inl (-1)), w5)
    else
      if (w5.1 12 aa 3) = 1 then
        nc_bd 2 513 fun j7 =>
        nc_li ((1 <<< ((w5.1 874 aa j7) &&& 31)) - 1) fun x8 =>
        nc_Run m_X12_tasted 54 [some (.inr (.inr (12, aa))), some (.inl xb), some (.inl 0), some (.inl x8), some (.inl 0), none] [] w5
      else
        some (some (.inl (-1)), w5) :=
  (nc_Call_eq _ _ _).trans ((if_pos (Nat.le_of_ble_eq_true rfl)).trans ((nc_Run_un [54, 78, 130, 202] 32).trans rfl))
set_option maxRecDepth 100000 in
theorem qr_X12_tasted_54 (aa : Nat) (xb : Int32) (xc : Int32) (xd : Int32) (xe : Int32) (w : nc_H) : nc_Run m_X12_tasted 54 [some (.inr (.inr (12, aa))), some (.inl xb), some (.inl xc), some (.inl xd), some (.inl xe), none] [] w =
  if (10 : Int32) ≤ xe then
    nc_Run m_X12_tasted 78 [some (.inr (.inr (12, aa))), some (.inl xb), some (.inl xc), some (.inl xd), some (.inl 0), none] [] w
  else
    nc_bd xe 10 fun j1 =>
    nc_lt (nc_si w 902 aa j1 0) fun w2 =>
    nc_li (xe + 1) fun x3 =>
    nc_Run m_X12_tasted 54 [some (.inr (.inr (12, aa))), some (.inl xb), some (.inl xc), some (.inl xd), some (.inl x3), none] [] w2 :=
  (nc_Run_un [54, 78, 130, 202] 11).trans rfl
set_option maxRecDepth 100000 in
theorem qr_X12_tasted_78 (aa : Nat) (xb : Int32) (xc : Int32) (xd : Int32) (xe : Int32) (w : nc_H) : nc_Run m_X12_tasted 78 [some (.inr (.inr (12, aa))), some (.inl xb), some (.inl xc), some (.inl xd), some (.inl xe), none] [] w =
  nc_bd 2 513 fun j1 =>
  if (1 <<< ((w.1 874 aa j1) &&& 31)) ≤ xe then
    if xc ≠ 0 then
      nc_lt (nc_si w 12 aa 33 1) fun w2 =>
      nc_lt (nc_si w2 12 aa 31 xd) fun w3 =>
      nc_lt (nc_si w3 12 aa 32 (-1)) fun w4 =>
      nc_Run m_X12_tasted 202 [some (.inr (.inr (12, aa))), none, some (.inl xc), none, some (.inl 0), none] [] w4
    else
      some (some (.inl 0), w)
  else
    nc_bI (nc_Call m_X12_mayHear [.inr (.inr (12, aa)), .inl xb, .inl xe] w) fun r6 w5 =>
    if r6 = 0 then
      nc_li (xe + 1) fun x7 =>
      nc_Run m_X12_tasted 78 [some (.inr (.inr (12, aa))), some (.inl xb), some (.inl xc), some (.inl xd), some (.inl x7), none] [] w5
    else
      nc_bI (nc_Call m_X12_milkWith [.inr (.inr (12, aa)), .inl xb, .inl xe] w5) fun r9 w8 =>
      nc_bI (nc_Call m_X12_octet [.inr (.inr (12, aa)), .inl 0] w8) fun r11 w10 =>
      if r9 = r11 then
        nc_li (xc + 1) fun x12 =>
        nc_li (xd &&& xe) fun x13 =>
        nc_Run m_X12_tasted 130 [some (.inr (.inr (12, aa))), some (.inl xb), some (.inl x12), some (.inl x13), some (.inl xe), some (.inl 0)] [] w10
      else
        nc_li (xe + 1) fun x14 =>
        nc_Run m_X12_tasted 78 [some (.inr (.inr (12, aa))), some (.inl xb), some (.inl xc), some (.inl xd), some (.inl x14), none] [] w10 :=
  (nc_Run_un [54, 78, 130, 202] 29).trans rfl
set_option maxRecDepth 100000 in
theorem qr_X12_tasted_202 (aa : Nat) (xc : Int32) (xe : Int32) (w : nc_H) : nc_Run m_X12_tasted 202 [some (.inr (.inr (12, aa))), none, some (.inl xc), none, some (.inl xe), none] [] w =
  nc_bd 2 513 fun j1 =>
  if (w.1 874 aa j1) ≤ xe then
    some (some (.inl xc), w)
  else
    if (w.1 12 aa 32) < 0 then
      nc_lt (nc_si w 12 aa 32 xe) fun w2 =>
      nc_li (xe + 1) fun x3 =>
      nc_Run m_X12_tasted 202 [some (.inr (.inr (12, aa))), none, some (.inl xc), none, some (.inl x3), none] [] w2
    else
      nc_bd xe 10 fun j4 =>
      nc_bI (nc_Call m_X12_absolute [.inl (xc - (2 * (w.1 902 aa j4)))] w) fun r6 w5 =>
      nc_bd (w5.1 12 aa 32) 10 fun j7 =>
      nc_bI (nc_Call m_X12_absolute [.inl (xc - (2 * (w5.1 902 aa j7)))] w5) fun r9 w8 =>
      if r9 ≤ r6 then
        nc_li (xe + 1) fun x10 =>
        nc_Run m_X12_tasted 202 [some (.inr (.inr (12, aa))), none, some (.inl xc), none, some (.inl x10), none] [] w8
      else
        nc_lt (nc_si w8 12 aa 32 xe) fun w11 =>
        nc_li (xe + 1) fun x12 =>
        nc_Run m_X12_tasted 202 [some (.inr (.inr (12, aa))), none, some (.inl xc), none, some (.inl x12), none] [] w11 :=
  (nc_Run_un [54, 78, 130, 202] 35).trans rfl
set_option maxRecDepth 100000 in
theorem qr_X12_tasted_130 (aa : Nat) (xb : Int32) (xc : Int32) (xd : Int32) (xe : Int32) (xf : Int32) (w : nc_H) : nc_Run m_X12_tasted 130 [some (.inr (.inr (12, aa))), some (.inl xb), some (.inl xc), some (.inl xd), some (.inl xe), some (.inl xf)] [] w =
  nc_bd 2 513 fun j1 =>
  if (w.1 874 aa j1) ≤ xf then
    nc_li (xe + 1) fun x2 =>
    nc_Run m_X12_tasted 78 [some (.inr (.inr (12, aa))), some (.inl xb), some (.inl xc), some (.inl xd), some (.inl x2), none] [] w
  else
    nc_bd xf 10 fun j3 =>
    nc_bI (nc_Call m_X12_bitOf [.inl xe, .inl xf] w) fun r5 w4 =>
    if r5 = 0 then
      nc_bd xf 10 fun j6 =>
      nc_lt (nc_si w4 902 aa j6 ((w.1 902 aa j3) + 0)) fun w7 =>
      nc_li (xf + 1) fun x8 =>
      nc_Run m_X12_tasted 130 [some (.inr (.inr (12, aa))), some (.inl xb), some (.inl xc), some (.inl xd), some (.inl xe), some (.inl x8)] [] w7
    else
      nc_bd xf 10 fun j9 =>
      nc_lt (nc_si w4 902 aa j9 ((w.1 902 aa j3) + 1)) fun w10 =>
      nc_li (xf + 1) fun x11 =>
      nc_Run m_X12_tasted 130 [some (.inr (.inr (12, aa))), some (.inl xb), some (.inl xc), some (.inl xd), some (.inl xe), some (.inl x11)] [] w10 :=
  (nc_Run_un [54, 78, 130, 202] 22).trans rfl
set_option maxRecDepth 100000 in
theorem qc_X12_dries (aa : Nat) (xb : Int32) (w : nc_H) : nc_Call m_X12_dries [.inr (.inr (12, aa)), .inl xb] w =
  nc_lt (nc_si w 12 aa 0 0) fun w1 =>
  nc_bI (nc_Call m_X12_isNews [.inr (.inr (12, aa)), .inl xb] w1) fun r3 w2 =>
  if r3 = 0 then
    some (some (.inl (-1)), w2)
  else
    nc_bI (nc_Call m_X12_whyFind [.inr (.inr (12, aa)), .inl xb] w2) fun r5 w4 =>
    if r5 ≠ 0 then
      some (some (.inl (-1)), w4)
    else
      nc_bI (nc_Call m_X12_driedBy [.inr (.inr (12, aa)), .inl xb] w4) fun r7 w6 =>
      some (some (.inl r7), w6) :=
  (nc_Call_eq _ _ _).trans ((if_pos (Nat.le_of_ble_eq_true rfl)).trans ((nc_Run_un [] 16).trans rfl))
set_option maxRecDepth 100000 in
theorem qc_X12_isPast (aa : Nat) (xb : Int32) (w : nc_H) : nc_Call m_X12_isPast [.inr (.inr (12, aa)), .inl xb] w =
  nc_bd 76 513 fun j1 =>
  nc_bI (nc_Call m_X12_greater [.inl 0, .inl ((w.1 874 aa j1) - 30)] w) fun r3 w2 =>
  nc_bd 76 513 fun j4 =>
  nc_bI (nc_Call m_X12_isIn [.inl xb, .inl r3, .inl ((w2.1 874 aa j4) - 1)] w2) fun r6 w5 =>
  nc_z r6 <| some (some (.inl r6), w5) :=
  (nc_Call_eq _ _ _).trans ((if_pos (Nat.le_of_ble_eq_true rfl)).trans ((nc_Run_un [] 17).trans rfl))
set_option maxRecDepth 100000 in
theorem qc_X12_week (aa : Nat) (xb : Int32) (w : nc_H) : nc_Call m_X12_week [.inr (.inr (12, aa)), .inl xb] w =
  nc_lt (nc_si w 12 aa 0 0) fun w1 =>
  nc_bV (nc_Call m_X12_taken [.inr (.inr (12, aa)), .inl 940] w1) fun w2 =>
  nc_bI (nc_Call m_X12_isFarm [.inr (.inr (12, aa)), .inl xb] w2) fun r4 w3 =>
  if r4 = 0 then
    some (some (.inl (-1)), w3)
  else
    nc_bI (nc_Call m_X12_isIn [.inl (w3.1 12 aa 3), .inl 1, .inl 7] w3) fun r6 w5 =>
    if r6 ≠ 0 then
      nc_bd 76 513 fun j7 =>
      nc_bI (nc_Call m_X12_greater [.inl 0, .inl ((w5.1 874 aa j7) - 30)] w5) fun r9 w8 =>
      nc_Run m_X12_week 50 [some (.inr (.inr (12, aa))), some (.inl xb), some (.inl r9), none, none] [] w8
    else
      some (some (.inl (-1)), w5) :=
  (nc_Call_eq _ _ _).trans ((if_pos (Nat.le_of_ble_eq_true rfl)).trans ((nc_Run_un [50, 71] 26).trans rfl))
set_option maxRecDepth 100000 in
theorem qr_X12_week_50 (aa : Nat) (xb : Int32) (xc : Int32) (w : nc_H) : nc_Run m_X12_week 50 [some (.inr (.inr (12, aa))), some (.inl xb), some (.inl xc), none, none] [] w =
  nc_bd 76 513 fun j1 =>
  if (w.1 874 aa j1) < (xc + (w.1 12 aa 3)) then
    some (some (.inl (-1)), w)
  else
    nc_Run m_X12_week 71 [some (.inr (.inr (12, aa))), some (.inl xb), some (.inl xc), some (.inl 1), some (.inl 0)] [] w :=
  (nc_Run_un [50, 71] 14).trans rfl
set_option maxRecDepth 100000 in
theorem qr_X12_week_71 (aa : Nat) (xb : Int32) (xc : Int32) (xd : Int32) (xe : Int32) (w : nc_H) : nc_Run m_X12_week 71 [some (.inr (.inr (12, aa))), some (.inl xb), some (.inl xc), some (.inl xd), some (.inl xe)] [] w =
  if (w.1 12 aa 3) ≤ xe then
    if xd = 0 then
      nc_li (xc + 1) fun x1 =>
      nc_Run m_X12_week 50 [some (.inr (.inr (12, aa))), some (.inl xb), some (.inl x1), none, none] [] w
    else
      some (some (.inl xc), w)
  else
    if xd = 0 then
      nc_li (xe + 1) fun x2 =>
      nc_Run m_X12_week 71 [some (.inr (.inr (12, aa))), some (.inl xb), some (.inl xc), some (.inl 0), some (.inl x2)] [] w
    else
      nc_bd ((212 + (30 * xb)) + ((xc + xe) - (xc + xe) / 30 * 30)) 513 fun j3 =>
      nc_bI (nc_Call m_X12_octet [.inr (.inr (12, aa)), .inl xe] w) fun r5 w4 =>
      if (w.1 874 aa j3) ≠ r5 then
        nc_li (xe + 1) fun x6 =>
        nc_Run m_X12_week 71 [some (.inr (.inr (12, aa))), some (.inl xb), some (.inl xc), some (.inl 0), some (.inl x6)] [] w4
      else
        nc_li (xe + 1) fun x7 =>
        nc_Run m_X12_week 71 [some (.inr (.inr (12, aa))), some (.inl xb), some (.inl xc), some (.inl 1), some (.inl x7)] [] w4 :=
  (nc_Run_un [50, 71] 30).trans rfl
set_option maxRecDepth 100000 in
theorem qc_X12_pails (aa : Nat) (xb : Int32) (xc : Int32) (w : nc_H) : nc_Call m_X12_pails [.inr (.inr (12, aa)), .inl xb, .inl xc] w =
  nc_lt (nc_si w 12 aa 0 0) fun w1 =>
  nc_bI (nc_Call m_X12_isFarm [.inr (.inr (12, aa)), .inl xb] w1) fun r3 w2 =>
  if r3 = 0 then
    some (some (.inl (-1)), w2)
  else
    nc_bI (nc_Call m_X12_isPast [.inr (.inr (12, aa)), .inl xc] w2) fun r5 w4 =>
    if r5 = 0 then
      some (some (.inl (-1)), w4)
    else
      nc_bd ((212 + (30 * xb)) + (xc - xc / 30 * 30)) 513 fun j6 =>
      some (some (.inl (w4.1 874 aa j6)), w4) :=
  (nc_Call_eq _ _ _).trans ((if_pos (Nat.le_of_ble_eq_true rfl)).trans ((nc_Run_un [] 25).trans rfl))
set_option maxRecDepth 100000 in
theorem qc_X12_ahead (aa : Nat) (xb : Int32) (w : nc_H) : nc_Call m_X12_ahead [.inr (.inr (12, aa)), .inl xb] w =
  nc_lt (nc_si w 12 aa 0 0) fun w1 =>
  nc_bI (nc_Call m_X12_isIn [.inl xb, .inl 1, .inl 60] w1) fun r3 w2 =>
  if r3 ≠ 0 then
    nc_bV (nc_Call m_X12_tries [.inr (.inr (12, aa))] w2) fun w4 =>
    nc_bI (nc_Call m_X12_allPails [.inr (.inr (12, aa))] w4) fun r6 w5 =>
    nc_bI (nc_Call m_X12_goesOn [.inr (.inr (12, aa)), .inl xb] w5) fun r8 w7 =>
    nc_bI (nc_Call m_X12_allPails [.inr (.inr (12, aa))] w7) fun r10 w9 =>
    nc_li (r10 - r6) fun x11 =>
    nc_bV (nc_Call m_X12_back [.inr (.inr (12, aa))] w9) fun w12 =>
    some (some (.inl x11), w12)
  else
    some (some (.inl (-1)), w2) :=
  (nc_Call_eq _ _ _).trans ((if_pos (Nat.le_of_ble_eq_true rfl)).trans ((nc_Run_un [] 26).trans rfl))
set_option maxRecDepth 100000 in
theorem qc_X12_draws (aa : Nat) (xb : Int32) (xc : Int32) (w : nc_H) : nc_Call m_X12_draws [.inr (.inr (12, aa)), .inl xb, .inl xc] w =
  nc_lt (nc_si w 12 aa 35 xc) fun w1 =>
  nc_Run m_X12_draws 7 [some (.inr (.inr (12, aa))), some (.inl xb), none, some (.inl 0), none, none] [] w1 :=
  (nc_Call_eq _ _ _).trans ((if_pos (Nat.le_of_ble_eq_true rfl)).trans ((nc_Run_un [7, 28] 6).trans rfl))
set_option maxRecDepth 100000 in
theorem qr_X12_draws_7 (aa : Nat) (xb : Int32) (xd : Int32) (w : nc_H) : nc_Run m_X12_draws 7 [some (.inr (.inr (12, aa))), some (.inl xb), none, some (.inl xd), none, none] [] w =
  if xb ≤ xd then
    some (some (.inl xd), w)
  else
    nc_bd 76 513 fun j1 =>
    if (400 : Int32) ≤ (w.1 874 aa j1) then
      some (some (.inl xd), w)
    else
      nc_Run m_X12_draws 28 [some (.inr (.inr (12, aa))), some (.inl xb), none, some (.inl xd), some (.inl 0), none] [] w :=
  (nc_Run_un [7, 28] 12).trans rfl
set_option maxRecDepth 100000 in
theorem qr_X12_draws_28 (aa : Nat) (xb : Int32) (xd : Int32) (xe : Int32) (w : nc_H) : nc_Run m_X12_draws 28 [some (.inr (.inr (12, aa))), some (.inl xb), none, some (.inl xd), some (.inl xe), none] [] w =
  nc_bd 1 513 fun j1 =>
  if (w.1 874 aa j1) ≤ xe then
    nc_bI (nc_Call m_X12_draw [.inr (.inr (12, aa)), .inl 12] w) fun r3 w2 =>
    if r3 ≠ 0 then
      nc_bV (nc_Call m_X12_day [.inr (.inr (12, aa))] w2) fun w4 =>
      nc_li (xd + 1) fun x5 =>
      nc_Run m_X12_draws 7 [some (.inr (.inr (12, aa))), some (.inl xb), none, some (.inl x5), none, none] [] w4
    else
      nc_bd 2 513 fun j6 =>
      nc_bI (nc_Call m_X12_draw [.inr (.inr (12, aa)), .inl (w2.1 874 aa j6)] w2) fun r8 w7 =>
      nc_bI (nc_Call m_X12_whyFind [.inr (.inr (12, aa)), .inl r8] w7) fun r10 w9 =>
      if r10 ≠ 0 then
        nc_bV (nc_Call m_X12_day [.inr (.inr (12, aa))] w9) fun w11 =>
        nc_li (xd + 1) fun x12 =>
        nc_Run m_X12_draws 7 [some (.inr (.inr (12, aa))), some (.inl xb), none, some (.inl x12), none, none] [] w11
      else
        nc_bV (nc_Call m_X12_finds [.inr (.inr (12, aa)), .inl r8] w9) fun w13 =>
        nc_bV (nc_Call m_X12_day [.inr (.inr (12, aa))] w13) fun w14 =>
        nc_li (xd + 1) fun x15 =>
        nc_Run m_X12_draws 7 [some (.inr (.inr (12, aa))), some (.inl xb), none, some (.inl x15), none, none] [] w14
  else
    nc_bI (nc_Call m_X12_draw [.inr (.inr (12, aa)), .inl 3] w) fun r17 w16 =>
    if r17 ≤ 0 then
      nc_bd 2 513 fun j18 =>
      nc_bI (nc_Call m_X12_draw [.inr (.inr (12, aa)), .inl (w16.1 874 aa j18)] w16) fun r20 w19 =>
      nc_bI (nc_Call m_X12_whyTell [.inr (.inr (12, aa)), .inl xe, .inl r20] w19) fun r22 w21 =>
      if r22 ≠ 0 then
        nc_li (xe + 1) fun x23 =>
        nc_Run m_X12_draws 28 [some (.inr (.inr (12, aa))), some (.inl xb), none, some (.inl xd), some (.inl x23), none] [] w21
      else
        nc_bV (nc_Call m_X12_tells [.inr (.inr (12, aa)), .inl xe, .inl r20] w21) fun w24 =>
        nc_li (xe + 1) fun x25 =>
        nc_Run m_X12_draws 28 [some (.inr (.inr (12, aa))), some (.inl xb), none, some (.inl xd), some (.inl x25), none] [] w24
    else
      nc_li (xe + 1) fun x26 =>
      nc_Run m_X12_draws 28 [some (.inr (.inr (12, aa))), some (.inl xb), none, some (.inl xd), some (.inl x26), none] [] w16 :=
  (nc_Run_un [7, 28] 29).trans rfl
set_option maxRecDepth 100000 in
theorem qc_X12_drawn (aa : Nat) (xb : Int32) (xc : Int32) (w : nc_H) : nc_Call m_X12_drawn [.inr (.inr (12, aa)), .inl xb, .inl xc] w =
  nc_lt (nc_si w 12 aa 0 0) fun w1 =>
  nc_bI (nc_Call m_X12_isIn [.inl xb, .inl 1, .inl 60] w1) fun r3 w2 =>
  if r3 = 0 then
    some (some (.inl (-1)), w2)
  else
    nc_bd 2 513 fun j4 =>
    if (w2.1 874 aa j4) ≠ 0 then
      nc_bd 76 513 fun j5 =>
      if (400 : Int32) ≤ (w2.1 874 aa j5) then
        nc_bI (nc_Call m_X12_draws [.inr (.inr (12, aa)), .inl xb, .inl xc] w2) fun r7 w6 =>
        some (some (.inl r7), w6)
      else
        nc_bV (nc_Call m_X12_keep [.inr (.inr (12, aa))] w2) fun w8 =>
        nc_bI (nc_Call m_X12_draws [.inr (.inr (12, aa)), .inl xb, .inl xc] w8) fun r10 w9 =>
        some (some (.inl r10), w9)
    else
      some (some (.inl (-1)), w2) :=
  (nc_Call_eq _ _ _).trans ((if_pos (Nat.le_of_ble_eq_true rfl)).trans ((nc_Run_un [] 26).trans rfl))
set_option maxRecDepth 100000 in
theorem qc_X12_odds (aa : Nat) (xb : Int32) (xc : Int32) (xd : Int32) (w : nc_H) : nc_Call m_X12_odds [.inr (.inr (12, aa)), .inl xb, .inl xc, .inl xd] w =
  nc_lt (nc_si w 12 aa 0 0) fun w1 =>
  nc_bI (nc_Call m_X12_isCow [.inr (.inr (12, aa)), .inl xb] w1) fun r3 w2 =>
  if r3 = 0 then
    some (some (.inl (-1)), w2)
  else
    nc_bI (nc_Call m_X12_isIn [.inl xc, .inl 1, .inl 30] w2) fun r5 w4 =>
    if r5 = 0 then
      some (some (.inl (-1)), w4)
    else
      nc_bd 2 513 fun j6 =>
      if (w4.1 874 aa j6) ≠ 0 then
        nc_bV (nc_Call m_X12_tries [.inr (.inr (12, aa))] w4) fun w7 =>
        nc_Run m_X12_odds 44 [some (.inr (.inr (12, aa))), some (.inl xb), some (.inl xc), some (.inl xd), some (.inl 0), some (.inl 0)] [] w7
      else
        some (some (.inl (-1)), w4) :=
  (nc_Call_eq _ _ _).trans ((if_pos (Nat.le_of_ble_eq_true rfl)).trans ((nc_Run_un [44] 24).trans rfl))
set_option maxRecDepth 100000 in
theorem qr_X12_odds_44 (aa : Nat) (xb : Int32) (xc : Int32) (xd : Int32) (xe : Int32) (xf : Int32) (w : nc_H) : nc_Run m_X12_odds 44 [some (.inr (.inr (12, aa))), some (.inl xb), some (.inl xc), some (.inl xd), some (.inl xe), some (.inl xf)] [] w =
  if xc ≤ xf then
    some (some (.inl xe), w)
  else
    nc_bI (nc_Call m_X12_draws [.inr (.inr (12, aa)), .inl 20, .inl (xd + xf)] w) fun r2 w1 =>
    nc_bI (nc_Call m_X12_isDry [.inr (.inr (12, aa)), .inl xb] w1) fun r4 w3 =>
    if r4 = 0 then
      nc_li (xe + 0) fun x5 =>
      nc_bV (nc_Call m_X12_back [.inr (.inr (12, aa))] w3) fun w6 =>
      nc_li (xf + 1) fun x7 =>
      nc_Run m_X12_odds 44 [some (.inr (.inr (12, aa))), some (.inl xb), some (.inl xc), some (.inl xd), some (.inl x5), some (.inl x7)] [] w6
    else
      nc_li (xe + 1) fun x8 =>
      nc_bV (nc_Call m_X12_back [.inr (.inr (12, aa))] w3) fun w9 =>
      nc_li (xf + 1) fun x10 =>
      nc_Run m_X12_odds 44 [some (.inr (.inr (12, aa))), some (.inl xb), some (.inl xc), some (.inl xd), some (.inl x8), some (.inl x10)] [] w9 :=
  (nc_Run_un [44] 24).trans rfl
set_option maxRecDepth 100000 in
theorem qc_X12_bookLine (aa : Nat) (w : nc_H) : nc_Call m_X12_bookLine [.inr (.inr (12, aa))] w =
  nc_li (3 * (w.1 12 aa 36)) fun x1 =>
  nc_bI (nc_Call m_X12_isWord [.inr (.inr (12, aa)), .inr (.inl 439956631140)] w) fun r3 w2 =>
  nc_bI (nc_Call m_X12_isWord [.inr (.inr (12, aa)), .inr (.inl 6578553)] w2) fun r5 w4 =>
  if r3 ≠ 0 then
    nc_Run m_X12_bookLine 47 [some (.inr (.inr (12, aa))), some (.inl x1), some (.inl r3), some (.inl r5)] [] w4
  else
    if r5 ≠ 0 then
      nc_Run m_X12_bookLine 47 [some (.inr (.inr (12, aa))), some (.inl x1), some (.inl r3), some (.inl r5)] [] w4
    else
      nc_bd 1 513 fun j6 =>
      nc_bI (nc_Call m_X12_looksAt [.inr (.inr (12, aa)), .inl 4, .inl (w4.1 874 aa j6)] w4) fun r8 w7 =>
      if r8 ≠ 0 then
        nc_Run m_X12_bookLine 47 [some (.inr (.inr (12, aa))), some (.inl x1), some (.inl r3), some (.inl r5)] [] w7
      else
        some (some (.inl 0), w7) :=
  (nc_Call_eq _ _ _).trans ((if_pos (Nat.le_of_ble_eq_true rfl)).trans ((nc_Run_un [47, 84] 27).trans rfl))
set_option maxRecDepth 100000 in
theorem qr_X12_bookLine_47 (aa : Nat) (xb : Int32) (xc : Int32) (xd : Int32) (w : nc_H) : nc_Run m_X12_bookLine 47 [some (.inr (.inr (12, aa))), some (.inl xb), some (.inl xc), some (.inl xd)] [] w =
  if (w.1 12 aa 36) ≠ 40 then
    if xc = 0 then
      if xd = 0 then
        nc_Run m_X12_bookLine 84 [some (.inr (.inr (12, aa))), some (.inl xb), some (.inl xc), some (.inl xd)] [.inl 0, .inl xb, .inr (.inr (876, aa))] w
      else
        nc_Run m_X12_bookLine 84 [some (.inr (.inr (12, aa))), some (.inl xb), some (.inl xc), some (.inl xd)] [.inl 2, .inl xb, .inr (.inr (876, aa))] w
    else
      nc_Run m_X12_bookLine 84 [some (.inr (.inr (12, aa))), some (.inl xb), some (.inl xc), some (.inl xd)] [.inl 1, .inl xb, .inr (.inr (876, aa))] w
  else
    nc_bI (nc_Call m_X12_bad [.inr (.inr (12, aa)), .inl 4] w) fun r2 w1 =>
    nc_z r2 <| some (some (.inl r2), w1) :=
  (nc_Run_un [47, 84] 14).trans rfl
set_option maxRecDepth 100000 in
theorem qr_X12_bookLine_84 (aa : Nat) (xb : Int32) (xc : Int32) (xd : Int32) (za : Int32) (zb : Int32) (bc : Nat) (w : nc_H) : nc_Run m_X12_bookLine 84 [some (.inr (.inr (12, aa))), some (.inl xb), some (.inl xc), some (.inl xd)] [.inl za, .inl zb, .inr (.inr (876, bc))] w =
  nc_bd zb 135 fun j1 =>
  nc_lt (nc_si w 876 bc j1 za) fun w2 =>
  nc_bd (xb + 1) 135 fun j3 =>
  nc_lt (nc_si w2 876 aa j3 (w2.1 12 aa 18)) fun w4 =>
  nc_bV (nc_Call m_X12_next [.inr (.inr (12, aa))] w4) fun w5 =>
  if xd = 0 then
    if xc ≠ 0 then
      nc_bd 2 513 fun j6 =>
      nc_bI (nc_Call m_X12_takesName [.inr (.inr (12, aa)), .inl 12, .inl (w5.1 874 aa j6)] w5) fun r8 w7 =>
      if r8 ≠ 0 then
        nc_bd (xb + 2) 135 fun j9 =>
        nc_lt (nc_si w7 876 aa j9 (w7.1 12 aa 18)) fun w10 =>
        some (some (.inl 1), w10)
      else
        some (some (.inl 0), w7)
    else
      nc_bI (nc_Call m_X12_isWord [.inr (.inr (12, aa)), .inr (.inl 448377483891)] w5) fun r12 w11 =>
      if r12 ≠ 0 then
        nc_bV (nc_Call m_X12_next [.inr (.inr (12, aa))] w11) fun w13 =>
        nc_bd 2 513 fun j14 =>
        nc_bI (nc_Call m_X12_takesName [.inr (.inr (12, aa)), .inl 12, .inl (w13.1 874 aa j14)] w13) fun r16 w15 =>
        if r16 ≠ 0 then
          nc_bd (xb + 2) 135 fun j17 =>
          nc_lt (nc_si w15 876 aa j17 (w15.1 12 aa 18)) fun w18 =>
          some (some (.inl 1), w18)
        else
          some (some (.inl 0), w15)
      else
        nc_bI (nc_Call m_X12_bad [.inr (.inr (12, aa)), .inl 1] w11) fun r20 w19 =>
        nc_z r20 <| some (some (.inl r20), w19)
  else
    nc_bI (nc_Call m_X12_takes [.inr (.inr (12, aa)), .inl 1, .inl 60] w5) fun r22 w21 =>
    if r22 ≠ 0 then
      nc_bd (xb + 1) 135 fun j23 =>
      nc_lt (nc_si w21 876 aa j23 (w21.1 12 aa 18)) fun w24 =>
      some (some (.inl 1), w24)
    else
      some (some (.inl 0), w21) :=
  (nc_Run_un [47, 84] 39).trans rfl
set_option maxRecDepth 100000 in
theorem qc_X12_does (aa : Nat) (xb : Int32) (xc : Int32) (xd : Int32) (w : nc_H) : nc_Call m_X12_does [.inr (.inr (12, aa)), .inl xb, .inl xc, .inl xd] w =
  if xb ≠ 2 then
    if xb ≠ 0 then
      nc_bI (nc_Call m_X12_whyFind [.inr (.inr (12, aa)), .inl xd] w) fun r2 w1 =>
      if r2 ≤ 0 then
        if xb ≠ 0 then
          nc_bV (nc_Call m_X12_finds [.inr (.inr (12, aa)), .inl xd] w1) fun w3 =>
          some (some (.inl 0), w3)
        else
          nc_bV (nc_Call m_X12_tells [.inr (.inr (12, aa)), .inl xc, .inl xd] w1) fun w4 =>
          some (some (.inl 0), w4)
      else
        some (some (.inl ((10 * xb) + r2)), w1)
    else
      nc_bI (nc_Call m_X12_whyTell [.inr (.inr (12, aa)), .inl xc, .inl xd] w) fun r6 w5 =>
      if r6 ≤ 0 then
        if xb ≠ 0 then
          nc_bV (nc_Call m_X12_finds [.inr (.inr (12, aa)), .inl xd] w5) fun w7 =>
          some (some (.inl 0), w7)
        else
          nc_bV (nc_Call m_X12_tells [.inr (.inr (12, aa)), .inl xc, .inl xd] w5) fun w8 =>
          some (some (.inl 0), w8)
      else
        some (some (.inl ((10 * xb) + r6)), w5)
  else
    nc_bd 76 513 fun j9 =>
    if ((w.1 874 aa j9) + xc) ≤ 400 then
      nc_bI (nc_Call m_X12_goesOn [.inr (.inr (12, aa)), .inl xc] w) fun r11 w10 =>
      some (some (.inl 0), w10)
    else
      some (some (.inl 21), w) :=
  (nc_Call_eq _ _ _).trans ((if_pos (Nat.le_of_ble_eq_true rfl)).trans ((nc_Run_un [] 22).trans rfl))
set_option maxRecDepth 100000 in
theorem qc_X12_book (aa : Nat) (xb : Int32) (w : nc_H) : nc_Call m_X12_book [.inr (.inr (12, aa)), .inl xb] w =
  nc_lt (nc_si w 12 aa 0 0) fun w1 =>
  nc_bI (nc_Call m_X12_isIn [.inl xb, .inl 0, .inl 1] w1) fun r3 w2 =>
  if r3 ≠ 0 then
    nc_bV (nc_Call m_X12_taken [.inr (.inr (12, aa)), .inl 400] w2) fun w4 =>
    nc_lt (nc_si w4 12 aa 15 0) fun w5 =>
    nc_lt (nc_si w5 12 aa 36 0) fun w6 =>
    nc_bV (nc_Call m_X12_next [.inr (.inr (12, aa))] w6) fun w7 =>
    nc_Run m_X12_book 39 [some (.inr (.inr (12, aa))), some (.inl xb), none, none] [] w7
  else
    some (some (.inl (-1000)), w2) :=
  (nc_Call_eq _ _ _).trans ((if_pos (Nat.le_of_ble_eq_true rfl)).trans ((nc_Run_un [39, 89, 111, 242] 20).trans rfl))
set_option maxRecDepth 100000 in
theorem qr_X12_book_39 (aa : Nat) (xb : Int32) (w : nc_H) : nc_Run m_X12_book 39 [some (.inr (.inr (12, aa))), some (.inl xb), none, none] [] w =
  if (w.1 12 aa 11) = 0 then
    nc_bV (nc_Call m_X12_tries [.inr (.inr (12, aa))] w) fun w1 =>
    nc_Run m_X12_book 89 [some (.inr (.inr (12, aa))), some (.inl xb), some (.inl 0), none] [] w1
  else
    nc_bI (nc_Call m_X12_bookLine [.inr (.inr (12, aa))] w) fun r3 w2 =>
    if r3 = 0 then
      some (some (.inl ((-2) - (w2.1 12 aa 16))), w2)
    else
      nc_bI (nc_Call m_X12_sign [.inr (.inr (12, aa)), .inl 59] w2) fun r5 w4 =>
      if r5 ≠ 0 then
        nc_lt (nc_si w4 12 aa 36 ((w4.1 12 aa 36) + 1)) fun w6 =>
        nc_Run m_X12_book 39 [some (.inr (.inr (12, aa))), some (.inl xb), none, none] [] w6
      else
        some (some (.inl ((-2) - (w4.1 12 aa 16))), w4) :=
  (nc_Run_un [39, 89, 111, 242] 18).trans rfl
set_option maxRecDepth 100000 in
theorem qr_X12_book_89 (aa : Nat) (xb : Int32) (xc : Int32) (w : nc_H) : nc_Run m_X12_book 89 [some (.inr (.inr (12, aa))), some (.inl xb), some (.inl xc), none] [] w =
  if (4 : Int32) ≤ xc then
    nc_Run m_X12_book 111 [some (.inr (.inr (12, aa))), some (.inl xb), some (.inl (-1)), some (.inl 0)] [] w
  else
    nc_bd xc 4 fun j1 =>
    nc_lt (nc_si w 905 aa j1 0) fun w2 =>
    nc_li (xc + 1) fun x3 =>
    nc_Run m_X12_book 89 [some (.inr (.inr (12, aa))), some (.inl xb), some (.inl x3), none] [] w2 :=
  (nc_Run_un [39, 89, 111, 242] 11).trans rfl
set_option maxRecDepth 100000 in
theorem qr_X12_book_111 (aa : Nat) (xb : Int32) (xc : Int32) (xd : Int32) (w : nc_H) : nc_Run m_X12_book 111 [some (.inr (.inr (12, aa))), some (.inl xb), some (.inl xc), some (.inl xd)] [] w =
  if (w.1 12 aa 36) ≤ xd then
    nc_bd 76 513 fun j1 =>
    nc_bd 2 4 fun j2 =>
    nc_lt (nc_si w 905 aa j2 (w.1 874 aa j1)) fun w3 =>
    nc_bd 77 513 fun j4 =>
    nc_bd 3 4 fun j5 =>
    nc_lt (nc_si w3 905 aa j5 (w3.1 874 aa j4)) fun w6 =>
    nc_lt (nc_si w6 12 aa 38 1) fun w7 =>
    if xb ≠ 1 then
      if xb ≠ 0 then
        some (some (.inl xc), w7)
      else
        nc_bV (nc_Call m_X12_back [.inr (.inr (12, aa))] w7) fun w8 =>
        some (some (.inl xc), w8)
    else
      nc_bd 1 4 fun j9 =>
      if (w7.1 905 aa j9) ≤ 0 then
        if xb ≠ 0 then
          some (some (.inl xc), w7)
        else
          nc_bV (nc_Call m_X12_back [.inr (.inr (12, aa))] w7) fun w10 =>
          some (some (.inl xc), w10)
      else
        nc_bV (nc_Call m_X12_keep [.inr (.inr (12, aa))] w7) fun w11 =>
        nc_Run m_X12_book 242 [some (.inr (.inr (12, aa))), some (.inl xb), some (.inl xc), some (.inl 0)] [] w11
  else
    if (0 : Int32) ≤ xc then
      nc_bd 76 513 fun j12 =>
      nc_bd 2 4 fun j13 =>
      nc_lt (nc_si w 905 aa j13 (w.1 874 aa j12)) fun w14 =>
      nc_bd 77 513 fun j15 =>
      nc_bd 3 4 fun j16 =>
      nc_lt (nc_si w14 905 aa j16 (w14.1 874 aa j15)) fun w17 =>
      nc_lt (nc_si w17 12 aa 38 1) fun w18 =>
      if xb ≠ 1 then
        if xb ≠ 0 then
          some (some (.inl xc), w18)
        else
          nc_bV (nc_Call m_X12_back [.inr (.inr (12, aa))] w18) fun w19 =>
          some (some (.inl xc), w19)
      else
        nc_bd 1 4 fun j20 =>
        if (w18.1 905 aa j20) ≤ 0 then
          if xb ≠ 0 then
            some (some (.inl xc), w18)
          else
            nc_bV (nc_Call m_X12_back [.inr (.inr (12, aa))] w18) fun w21 =>
            some (some (.inl xc), w21)
        else
          nc_bV (nc_Call m_X12_keep [.inr (.inr (12, aa))] w18) fun w22 =>
          nc_Run m_X12_book 242 [some (.inr (.inr (12, aa))), some (.inl xb), some (.inl xc), some (.inl 0)] [] w22
    else
      nc_bd (3 * xd) 135 fun j23 =>
      nc_bd ((3 * xd) + 1) 135 fun j24 =>
      nc_bd ((3 * xd) + 2) 135 fun j25 =>
      nc_bI (nc_Call m_X12_does [.inr (.inr (12, aa)), .inl (w.1 876 aa j23), .inl (w.1 876 aa j24), .inl (w.1 876 aa j25)] w) fun r27 w26 =>
      nc_bd 0 4 fun j28 =>
      nc_lt (nc_si w26 905 aa j28 r27) fun w29 =>
      nc_bd 0 4 fun j30 =>
      if (w29.1 905 aa j30) ≤ 0 then
        nc_bd 1 4 fun j31 =>
        nc_bd 1 4 fun j32 =>
        nc_lt (nc_si w29 905 aa j32 ((w29.1 905 aa j31) + 1)) fun w33 =>
        nc_li (xd + 1) fun x34 =>
        nc_Run m_X12_book 111 [some (.inr (.inr (12, aa))), some (.inl xb), some (.inl xc), some (.inl x34)] [] w33
      else
        nc_li (xd + 1) fun x35 =>
        nc_Run m_X12_book 111 [some (.inr (.inr (12, aa))), some (.inl xb), some (.inl xd), some (.inl x35)] [] w29 :=
  (nc_Run_un [39, 89, 111, 242] 50).trans rfl
set_option maxRecDepth 100000 in
theorem qr_X12_book_242 (aa : Nat) (xb : Int32) (xc : Int32) (xd : Int32) (w : nc_H) : nc_Run m_X12_book 242 [some (.inr (.inr (12, aa))), some (.inl xb), some (.inl xc), some (.inl xd)] [] w =
  if (256 : Int32) ≤ xd then
    if xb ≠ 0 then
      some (some (.inl xc), w)
    else
      nc_bV (nc_Call m_X12_back [.inr (.inr (12, aa))] w) fun w1 =>
      some (some (.inl xc), w1)
  else
    nc_bd xd 256 fun j2 =>
    nc_bd ((256 * ((w.1 12 aa 24) - 1)) + xd) 2048 fun j3 =>
    nc_lt (nc_si w 890 aa j3 (w.1 891 aa j2)) fun w4 =>
    nc_li (xd + 1) fun x5 =>
    nc_Run m_X12_book 242 [some (.inr (.inr (12, aa))), some (.inl xb), some (.inl xc), some (.inl x5)] [] w4 :=
  (nc_Run_un [39, 89, 111, 242] 21).trans rfl
set_option maxRecDepth 100000 in
theorem qc_X12_written (aa : Nat) (xb : Int32) (w : nc_H) : nc_Call m_X12_written [.inr (.inr (12, aa)), .inl xb] w =
  nc_lt (nc_si w 12 aa 0 0) fun w1 =>
  if (w1.1 12 aa 38) = 0 then
    some (some (.inl (-1)), w1)
  else
    nc_bI (nc_Call m_X12_isIn [.inl xb, .inl 0, .inl 3] w1) fun r3 w2 =>
    if r3 = 0 then
      some (some (.inl (-1)), w2)
    else
      nc_bd xb 4 fun j4 =>
      some (some (.inl (w2.1 905 aa j4)), w2) :=
  (nc_Call_eq _ _ _).trans ((if_pos (Nat.le_of_ble_eq_true rfl)).trans ((nc_Run_un [] 17).trans rfl))
set_option maxRecDepth 100000 in
theorem qc_X12_joins (aa : Nat) (xb : Int32) (w : nc_H) : nc_Call m_X12_joins [.inr (.inr (12, aa)), .inl xb] w =
  if (w.1 12 aa 42) ≤ 0 then
    some (none, w)
  else
    nc_bd ((w.1 12 aa 42) - 1) 45 fun j1 =>
    if (w.1 907 aa j1) = 21 then
      nc_lt (nc_si w 12 aa 42 ((w.1 12 aa 42) - 1)) fun w2 =>
      nc_bd (w2.1 12 aa 42) 45 fun j3 =>
      nc_bV (nc_Call m_X12_code [.inr (.inr (12, aa)), .inl (w2.1 907 aa j3), .inl 0, .inl 0] w2) fun w4 =>
      nc_Run m_X12_joins 0 [some (.inr (.inr (12, aa))), some (.inl xb)] [] w4
    else
      nc_bd ((w.1 12 aa 42) - 1) 45 fun j5 =>
      if (w.1 907 aa j5) ≠ 22 then
        some (none, w)
      else
        if xb ≠ 22 then
          some (none, w)
        else
          nc_lt (nc_si w 12 aa 42 ((w.1 12 aa 42) - 1)) fun w6 =>
          nc_bd (w6.1 12 aa 42) 45 fun j7 =>
          nc_bV (nc_Call m_X12_code [.inr (.inr (12, aa)), .inl (w6.1 907 aa j7), .inl 0, .inl 0] w6) fun w8 =>
          nc_Run m_X12_joins 0 [some (.inr (.inr (12, aa))), some (.inl xb)] [] w8 :=
  (nc_Call_eq _ _ _).trans ((if_pos (Nat.le_of_ble_eq_true rfl)).trans ((nc_Run_un [0] 41).trans rfl))
set_option maxRecDepth 100000 in
theorem qr_X12_joins_0 (aa : Nat) (xb : Int32) (w : nc_H) : nc_Run m_X12_joins 0 [some (.inr (.inr (12, aa))), some (.inl xb)] [] w =
  if (w.1 12 aa 42) ≤ 0 then
    some (none, w)
  else
    nc_bd ((w.1 12 aa 42) - 1) 45 fun j1 =>
    if (w.1 907 aa j1) = 21 then
      nc_lt (nc_si w 12 aa 42 ((w.1 12 aa 42) - 1)) fun w2 =>
      nc_bd (w2.1 12 aa 42) 45 fun j3 =>
      nc_bV (nc_Call m_X12_code [.inr (.inr (12, aa)), .inl (w2.1 907 aa j3), .inl 0, .inl 0] w2) fun w4 =>
      nc_Run m_X12_joins 0 [some (.inr (.inr (12, aa))), some (.inl xb)] [] w4
    else
      nc_bd ((w.1 12 aa 42) - 1) 45 fun j5 =>
      if (w.1 907 aa j5) ≠ 22 then
        some (none, w)
      else
        if xb ≠ 22 then
          some (none, w)
        else
          nc_lt (nc_si w 12 aa 42 ((w.1 12 aa 42) - 1)) fun w6 =>
          nc_bd (w6.1 12 aa 42) 45 fun j7 =>
          nc_bV (nc_Call m_X12_code [.inr (.inr (12, aa)), .inl (w6.1 907 aa j7), .inl 0, .inl 0] w6) fun w8 =>
          nc_Run m_X12_joins 0 [some (.inr (.inr (12, aa))), some (.inl xb)] [] w8 :=
  (nc_Run_un [0] 41).trans rfl
set_option maxRecDepth 100000 in
theorem qc_X12_nots (aa : Nat) (w : nc_H) : nc_Call m_X12_nots [.inr (.inr (12, aa))] w =
  if (w.1 12 aa 42) ≤ 0 then
    some (none, w)
  else
    nc_bd ((w.1 12 aa 42) - 1) 45 fun j1 =>
    if (w.1 907 aa j1) ≠ 20 then
      some (none, w)
    else
      nc_lt (nc_si w 12 aa 42 ((w.1 12 aa 42) - 1)) fun w2 =>
      nc_lt (nc_si w2 12 aa 43 ((w2.1 12 aa 43) - 1)) fun w3 =>
      nc_bV (nc_Call m_X12_code [.inr (.inr (12, aa)), .inl 20, .inl 0, .inl 0] w3) fun w4 =>
      nc_Run m_X12_nots 0 [some (.inr (.inr (12, aa)))] [] w4 :=
  (nc_Call_eq _ _ _).trans ((if_pos (Nat.le_of_ble_eq_true rfl)).trans ((nc_Run_un [0] 31).trans rfl))
set_option maxRecDepth 100000 in
theorem qr_X12_nots_0 (aa : Nat) (w : nc_H) : nc_Run m_X12_nots 0 [some (.inr (.inr (12, aa)))] [] w =
  if (w.1 12 aa 42) ≤ 0 then
    some (none, w)
  else
    nc_bd ((w.1 12 aa 42) - 1) 45 fun j1 =>
    if (w.1 907 aa j1) ≠ 20 then
      some (none, w)
    else
      nc_lt (nc_si w 12 aa 42 ((w.1 12 aa 42) - 1)) fun w2 =>
      nc_lt (nc_si w2 12 aa 43 ((w2.1 12 aa 43) - 1)) fun w3 =>
      nc_bV (nc_Call m_X12_code [.inr (.inr (12, aa)), .inl 20, .inl 0, .inl 0] w3) fun w4 =>
      nc_Run m_X12_nots 0 [some (.inr (.inr (12, aa)))] [] w4 :=
  (nc_Run_un [0] 31).trans rfl
set_option maxRecDepth 100000 in
theorem qc_X12_leafOf (aa : Nat) (w : nc_H) : nc_Call m_X12_leafOf [.inr (.inr (12, aa))] w =
  nc_bI (nc_Call m_X12_isWord [.inr (.inr (12, aa)), .inr (.inl 6582905)] w) fun r2 w1 =>
  if r2 = 0 then
    nc_bI (nc_Call m_X12_isWord [.inr (.inr (12, aa)), .inr (.inl 27995156865901924)] w1) fun r4 w3 =>
    if r4 = 0 then
      nc_bI (nc_Call m_X12_isWord [.inr (.inr (12, aa)), .inr (.inl 24948)] w3) fun r6 w5 =>
      if r6 = 0 then
        nc_bI (nc_Call m_X12_isWord [.inr (.inr (12, aa)), .inr (.inl 461414299507)] w5) fun r8 w7 =>
        if r8 = 0 then
          nc_bI (nc_Call m_X12_isWord [.inr (.inr (12, aa)), .inr (.inl 448377483876)] w7) fun r10 w9 =>
          if r10 = 0 then
            nc_bI (nc_Call m_X12_isWord [.inr (.inr (12, aa)), .inr (.inl 1835625579)] w9) fun r12 w11 =>
            if r12 = 0 then
              nc_bI (nc_Call m_X12_isWord [.inr (.inr (12, aa)), .inr (.inl 444150998382)] w11) fun r14 w13 =>
              if r14 = 0 then
                nc_bI (nc_Call m_X12_isWord [.inr (.inr (12, aa)), .inr (.inl 110429873534067)] w13) fun r16 w15 =>
                if r16 = 0 then
                  nc_bI (nc_Call m_X12_isWord [.inr (.inr (12, aa)), .inr (.inl 121450625394034)] w15) fun r18 w17 =>
                  if r18 = 0 then
                    some (some (.inl (-1)), w17)
                  else
                    some (some (.inl 8), w17)
                else
                  some (some (.inl 7), w15)
              else
                some (some (.inl 6), w13)
            else
              some (some (.inl 5), w11)
          else
            some (some (.inl 4), w9)
        else
          some (some (.inl 3), w7)
      else
        some (some (.inl 2), w5)
    else
      some (some (.inl 1), w3)
  else
    some (some (.inl 0), w1) :=
  (nc_Call_eq _ _ _).trans ((if_pos (Nat.le_of_ble_eq_true rfl)).trans ((nc_Run_un [] 39).trans rfl))
set_option maxRecDepth 100000 in
theorem qc_X12_operand (aa : Nat) (w : nc_H) : nc_Call m_X12_operand [.inr (.inr (12, aa))] w =
  nc_bI (nc_Call m_X12_isWord [.inr (.inr (12, aa)), .inr (.inl 7237492)] w) fun r2 w1 =>
  nc_bI (nc_Call m_X12_isSign [.inr (.inr (12, aa)), .inl 40] w1) fun r4 w3 =>
  nc_bI (nc_Call m_X12_leafOf [.inr (.inr (12, aa))] w3) fun r6 w5 =>
  if r2 ≠ 0 then
    nc_Run m_X12_operand 38 [some (.inr (.inr (12, aa))), some (.inl r2), some (.inl r4), some (.inl r6), none] [] w5
  else
    if r4 ≠ 0 then
      nc_Run m_X12_operand 38 [some (.inr (.inr (12, aa))), some (.inl r2), some (.inl r4), some (.inl r6), none] [] w5
    else
      if (0 : Int32) ≤ r6 then
        nc_Run m_X12_operand 38 [some (.inr (.inr (12, aa))), some (.inl r2), some (.inl r4), some (.inl r6), none] [] w5
      else
        nc_bI (nc_Call m_X12_bad [.inr (.inr (12, aa)), .inl 1] w5) fun r8 w7 =>
        nc_z r8 <| some (some (.inl r8), w7) :=
  (nc_Call_eq _ _ _).trans ((if_pos (Nat.le_of_ble_eq_true rfl)).trans ((nc_Run_un [38] 21).trans rfl))
set_option maxRecDepth 100000 in
theorem qr_X12_operand_38 (aa : Nat) (xb : Int32) (xc : Int32) (xd : Int32) (w : nc_H) : nc_Run m_X12_operand 38 [some (.inr (.inr (12, aa))), some (.inl xb), some (.inl xc), some (.inl xd), none] [] w =
  if (w.1 12 aa 41) = 20 then
    nc_bI (nc_Call m_X12_bad [.inr (.inr (12, aa)), .inl 4] w) fun r2 w1 =>
    nc_z r2 <| some (some (.inl r2), w1)
  else
    if (w.1 12 aa 43) ≤ 8 then
      nc_lt (nc_si w 12 aa 41 ((w.1 12 aa 41) + 1)) fun w3 =>
      nc_bV (nc_Call m_X12_next [.inr (.inr (12, aa))] w3) fun w4 =>
      if xb ≠ 0 then
        if xb = 0 then
          nc_bd (w4.1 12 aa 42) 45 fun j5 =>
          nc_lt (nc_si w4 907 aa j5 23) fun w6 =>
          nc_lt (nc_si w6 12 aa 42 ((w6.1 12 aa 42) + 1)) fun w7 =>
          nc_lt (nc_si w7 12 aa 43 ((w7.1 12 aa 43) + 1)) fun w8 =>
          some (some (.inl 1), w8)
        else
          nc_bd (w4.1 12 aa 42) 45 fun j9 =>
          nc_lt (nc_si w4 907 aa j9 20) fun w10 =>
          nc_lt (nc_si w10 12 aa 42 ((w10.1 12 aa 42) + 1)) fun w11 =>
          nc_lt (nc_si w11 12 aa 43 ((w11.1 12 aa 43) + 1)) fun w12 =>
          some (some (.inl 1), w12)
      else
        if xc = 0 then
          nc_lt (nc_si w4 12 aa 44 1) fun w13 =>
          if (2 : Int32) ≤ xd then
            if (5 : Int32) ≤ xd then
              if (w13.1 12 aa 11) ≠ 3 then
                nc_bI (nc_Call m_X12_bad [.inr (.inr (12, aa)), .inl 1] w13) fun r15 w14 =>
                nc_z r15 <| some (some (.inl r15), w14)
              else
                if (w13.1 12 aa 14) < 60 then
                  nc_bI (nc_Call m_X12_bad [.inr (.inr (12, aa)), .inl 1] w13) fun r17 w16 =>
                  nc_z r17 <| some (some (.inl r17), w16)
                else
                  if (w13.1 12 aa 14) ≤ 62 then
                    nc_li (w13.1 12 aa 14) fun x18 =>
                    nc_bV (nc_Call m_X12_next [.inr (.inr (12, aa))] w13) fun w19 =>
                    if (w19.1 12 aa 11) = 2 then
                      nc_bV (nc_Call m_X12_code [.inr (.inr (12, aa)), .inl xd, .inl x18, .inl (w19.1 12 aa 14)] w19) fun w20 =>
                      nc_bV (nc_Call m_X12_next [.inr (.inr (12, aa))] w20) fun w21 =>
                      some (some (.inl 1), w21)
                    else
                      nc_bI (nc_Call m_X12_bad [.inr (.inr (12, aa)), .inl 1] w19) fun r23 w22 =>
                      nc_z r23 <| some (some (.inl r23), w22)
                  else
                    nc_bI (nc_Call m_X12_bad [.inr (.inr (12, aa)), .inl 1] w13) fun r25 w24 =>
                    nc_z r25 <| some (some (.inl r25), w24)
            else
              if xd ≠ 2 then
                if xd ≠ 2 then
                  nc_bd 2 513 fun j26 =>
                  nc_bI (nc_Call m_X12_looksAt [.inr (.inr (12, aa)), .inl 12, .inl (w13.1 874 aa j26)] w13) fun r28 w27 =>
                  if r28 ≠ 0 then
                    nc_bV (nc_Call m_X12_code [.inr (.inr (12, aa)), .inl xd, .inl 0, .inl (w27.1 12 aa 18)] w27) fun w29 =>
                    nc_bV (nc_Call m_X12_next [.inr (.inr (12, aa))] w29) fun w30 =>
                    some (some (.inl 1), w30)
                  else
                    some (some (.inl 0), w27)
                else
                  nc_bd 0 513 fun j31 =>
                  nc_bI (nc_Call m_X12_looksAt [.inr (.inr (12, aa)), .inl 12, .inl (w13.1 874 aa j31)] w13) fun r33 w32 =>
                  if r33 ≠ 0 then
                    nc_bV (nc_Call m_X12_code [.inr (.inr (12, aa)), .inl xd, .inl 0, .inl (w32.1 12 aa 18)] w32) fun w34 =>
                    nc_bV (nc_Call m_X12_next [.inr (.inr (12, aa))] w34) fun w35 =>
                    some (some (.inl 1), w35)
                  else
                    some (some (.inl 0), w32)
              else
                if xd ≠ 2 then
                  nc_bd 2 513 fun j36 =>
                  nc_bI (nc_Call m_X12_looksAt [.inr (.inr (12, aa)), .inl 0, .inl (w13.1 874 aa j36)] w13) fun r38 w37 =>
                  if r38 ≠ 0 then
                    nc_bV (nc_Call m_X12_code [.inr (.inr (12, aa)), .inl xd, .inl 0, .inl (w37.1 12 aa 18)] w37) fun w39 =>
                    nc_bV (nc_Call m_X12_next [.inr (.inr (12, aa))] w39) fun w40 =>
                    some (some (.inl 1), w40)
                  else
                    some (some (.inl 0), w37)
                else
                  nc_bd 0 513 fun j41 =>
                  nc_bI (nc_Call m_X12_looksAt [.inr (.inr (12, aa)), .inl 0, .inl (w13.1 874 aa j41)] w13) fun r43 w42 =>
                  if r43 ≠ 0 then
                    nc_bV (nc_Call m_X12_code [.inr (.inr (12, aa)), .inl xd, .inl 0, .inl (w42.1 12 aa 18)] w42) fun w44 =>
                    nc_bV (nc_Call m_X12_next [.inr (.inr (12, aa))] w44) fun w45 =>
                    some (some (.inl 1), w45)
                  else
                    some (some (.inl 0), w42)
          else
            nc_bV (nc_Call m_X12_code [.inr (.inr (12, aa)), .inl xd, .inl 0, .inl 0] w13) fun w46 =>
            some (some (.inl 1), w46)
        else
          if xb = 0 then
            nc_bd (w4.1 12 aa 42) 45 fun j47 =>
            nc_lt (nc_si w4 907 aa j47 23) fun w48 =>
            nc_lt (nc_si w48 12 aa 42 ((w48.1 12 aa 42) + 1)) fun w49 =>
            nc_lt (nc_si w49 12 aa 43 ((w49.1 12 aa 43) + 1)) fun w50 =>
            some (some (.inl 1), w50)
          else
            nc_bd (w4.1 12 aa 42) 45 fun j51 =>
            nc_lt (nc_si w4 907 aa j51 20) fun w52 =>
            nc_lt (nc_si w52 12 aa 42 ((w52.1 12 aa 42) + 1)) fun w53 =>
            nc_lt (nc_si w53 12 aa 43 ((w53.1 12 aa 43) + 1)) fun w54 =>
            some (some (.inl 1), w54)
    else
      nc_bI (nc_Call m_X12_bad [.inr (.inr (12, aa)), .inl 4] w) fun r56 w55 =>
      nc_z r56 <| some (some (.inl r56), w55) :=
  (nc_Run_un [38] 60).trans rfl
set_option maxRecDepth 100000 in
theorem qc_X12_behind (aa : Nat) (w : nc_H) : nc_Call m_X12_behind [.inr (.inr (12, aa))] w =
  nc_bV (nc_Call m_X12_nots [.inr (.inr (12, aa))] w) fun w1 =>
  nc_bI (nc_Call m_X12_isWord [.inr (.inr (12, aa)), .inr (.inl 6385252)] w1) fun r3 w2 =>
  if r3 ≠ 0 then
    nc_bI (nc_Call m_X12_isWord [.inr (.inr (12, aa)), .inr (.inl 6385252)] w2) fun r5 w4 =>
    if r5 = 0 then
      nc_bV (nc_Call m_X12_joins [.inr (.inr (12, aa)), .inl 22] w4) fun w6 =>
      nc_bI (nc_Call m_X12_isWord [.inr (.inr (12, aa)), .inr (.inl 6385252)] w6) fun r8 w7 =>
      if r8 = 0 then
        nc_bd (w6.1 12 aa 42) 45 fun j9 =>
        nc_lt (nc_si w7 907 aa j9 22) fun w10 =>
        nc_lt (nc_si w10 12 aa 42 ((w10.1 12 aa 42) + 1)) fun w11 =>
        nc_lt (nc_si w11 12 aa 44 0) fun w12 =>
        nc_bV (nc_Call m_X12_next [.inr (.inr (12, aa))] w12) fun w13 =>
        some (some (.inl 1), w13)
      else
        nc_bd (w6.1 12 aa 42) 45 fun j14 =>
        nc_lt (nc_si w7 907 aa j14 21) fun w15 =>
        nc_lt (nc_si w15 12 aa 42 ((w15.1 12 aa 42) + 1)) fun w16 =>
        nc_lt (nc_si w16 12 aa 44 0) fun w17 =>
        nc_bV (nc_Call m_X12_next [.inr (.inr (12, aa))] w17) fun w18 =>
        some (some (.inl 1), w18)
    else
      nc_bV (nc_Call m_X12_joins [.inr (.inr (12, aa)), .inl 21] w4) fun w19 =>
      nc_bI (nc_Call m_X12_isWord [.inr (.inr (12, aa)), .inr (.inl 6385252)] w19) fun r21 w20 =>
      if r21 = 0 then
        nc_bd (w19.1 12 aa 42) 45 fun j22 =>
        nc_lt (nc_si w20 907 aa j22 22) fun w23 =>
        nc_lt (nc_si w23 12 aa 42 ((w23.1 12 aa 42) + 1)) fun w24 =>
        nc_lt (nc_si w24 12 aa 44 0) fun w25 =>
        nc_bV (nc_Call m_X12_next [.inr (.inr (12, aa))] w25) fun w26 =>
        some (some (.inl 1), w26)
      else
        nc_bd (w19.1 12 aa 42) 45 fun j27 =>
        nc_lt (nc_si w20 907 aa j27 21) fun w28 =>
        nc_lt (nc_si w28 12 aa 42 ((w28.1 12 aa 42) + 1)) fun w29 =>
        nc_lt (nc_si w29 12 aa 44 0) fun w30 =>
        nc_bV (nc_Call m_X12_next [.inr (.inr (12, aa))] w30) fun w31 =>
        some (some (.inl 1), w31)
  else
    nc_bI (nc_Call m_X12_isWord [.inr (.inr (12, aa)), .inr (.inl 28530)] w2) fun r33 w32 =>
    if r33 = 0 then
      nc_bV (nc_Call m_X12_joins [.inr (.inr (12, aa)), .inl 22] w32) fun w34 =>
      nc_bI (nc_Call m_X12_isSign [.inr (.inr (12, aa)), .inl 41] w34) fun r36 w35 =>
      if r36 = 0 then
        nc_bI (nc_Call m_X12_bad [.inr (.inr (12, aa)), .inl 1] w35) fun r38 w37 =>
        nc_z r38 <| some (some (.inl r38), w37)
      else
        if (w35.1 12 aa 42) ≠ 0 then
          nc_lt (nc_si w35 12 aa 42 ((w35.1 12 aa 42) - 1)) fun w39 =>
          nc_lt (nc_si w39 12 aa 43 ((w39.1 12 aa 43) - 1)) fun w40 =>
          nc_bV (nc_Call m_X12_next [.inr (.inr (12, aa))] w40) fun w41 =>
          some (some (.inl 1), w41)
        else
          nc_bI (nc_Call m_X12_bad [.inr (.inr (12, aa)), .inl 1] w35) fun r43 w42 =>
          nc_z r43 <| some (some (.inl r43), w42)
    else
      nc_bI (nc_Call m_X12_isWord [.inr (.inr (12, aa)), .inr (.inl 6385252)] w32) fun r45 w44 =>
      if r45 = 0 then
        nc_bV (nc_Call m_X12_joins [.inr (.inr (12, aa)), .inl 22] w44) fun w46 =>
        nc_bI (nc_Call m_X12_isWord [.inr (.inr (12, aa)), .inr (.inl 6385252)] w46) fun r48 w47 =>
        if r48 = 0 then
          nc_bd (w46.1 12 aa 42) 45 fun j49 =>
          nc_lt (nc_si w47 907 aa j49 22) fun w50 =>
          nc_lt (nc_si w50 12 aa 42 ((w50.1 12 aa 42) + 1)) fun w51 =>
          nc_lt (nc_si w51 12 aa 44 0) fun w52 =>
          nc_bV (nc_Call m_X12_next [.inr (.inr (12, aa))] w52) fun w53 =>
          some (some (.inl 1), w53)
        else
          nc_bd (w46.1 12 aa 42) 45 fun j54 =>
          nc_lt (nc_si w47 907 aa j54 21) fun w55 =>
          nc_lt (nc_si w55 12 aa 42 ((w55.1 12 aa 42) + 1)) fun w56 =>
          nc_lt (nc_si w56 12 aa 44 0) fun w57 =>
          nc_bV (nc_Call m_X12_next [.inr (.inr (12, aa))] w57) fun w58 =>
          some (some (.inl 1), w58)
      else
        nc_bV (nc_Call m_X12_joins [.inr (.inr (12, aa)), .inl 21] w44) fun w59 =>
        nc_bI (nc_Call m_X12_isWord [.inr (.inr (12, aa)), .inr (.inl 6385252)] w59) fun r61 w60 =>
        if r61 = 0 then
          nc_bd (w59.1 12 aa 42) 45 fun j62 =>
          nc_lt (nc_si w60 907 aa j62 22) fun w63 =>
          nc_lt (nc_si w63 12 aa 42 ((w63.1 12 aa 42) + 1)) fun w64 =>
          nc_lt (nc_si w64 12 aa 44 0) fun w65 =>
          nc_bV (nc_Call m_X12_next [.inr (.inr (12, aa))] w65) fun w66 =>
          some (some (.inl 1), w66)
        else
          nc_bd (w59.1 12 aa 42) 45 fun j67 =>
          nc_lt (nc_si w60 907 aa j67 21) fun w68 =>
          nc_lt (nc_si w68 12 aa 42 ((w68.1 12 aa 42) + 1)) fun w69 =>
          nc_lt (nc_si w69 12 aa 44 0) fun w70 =>
          nc_bV (nc_Call m_X12_next [.inr (.inr (12, aa))] w70) fun w71 =>
          some (some (.inl 1), w71) :=
  (nc_Call_eq _ _ _).trans ((if_pos (Nat.le_of_ble_eq_true rfl)).trans ((nc_Run_un [] 42).trans rfl))
set_option maxRecDepth 100000 in
theorem qc_X12_sentence (aa : Nat) (w : nc_H) : nc_Call m_X12_sentence [.inr (.inr (12, aa))] w =
  nc_lt (nc_si w 12 aa 0 0) fun w1 =>
  nc_bV (nc_Call m_X12_taken [.inr (.inr (12, aa)), .inl 200] w1) fun w2 =>
  nc_lt (nc_si w2 12 aa 15 0) fun w3 =>
  nc_lt (nc_si w3 12 aa 40 0) fun w4 =>
  nc_lt (nc_si w4 12 aa 41 0) fun w5 =>
  nc_lt (nc_si w5 12 aa 42 0) fun w6 =>
  nc_lt (nc_si w6 12 aa 43 1) fun w7 =>
  nc_lt (nc_si w7 12 aa 44 0) fun w8 =>
  nc_bV (nc_Call m_X12_next [.inr (.inr (12, aa))] w8) fun w9 =>
  nc_Run m_X12_sentence 48 [some (.inr (.inr (12, aa))), some (.inl 1), none] [] w9 :=
  (nc_Call_eq _ _ _).trans ((if_pos (Nat.le_of_ble_eq_true rfl)).trans ((nc_Run_un [48, 146] 29).trans rfl))
set_option maxRecDepth 100000 in
theorem qr_X12_sentence_48 (aa : Nat) (xb : Int32) (w : nc_H) : nc_Run m_X12_sentence 48 [some (.inr (.inr (12, aa))), some (.inl xb), none] [] w =
  if xb = 0 then
    nc_bd 332 513 fun j1 =>
    nc_lt (nc_si w 874 aa j1 (w.1 12 aa 40)) fun w2 =>
    nc_Run m_X12_sentence 146 [some (.inr (.inr (12, aa))), none, some (.inl 0)] [] w2
  else
    if (w.1 12 aa 44) = 0 then
      if (w.1 12 aa 44) = 0 then
        nc_bI (nc_Call m_X12_operand [.inr (.inr (12, aa))] w) fun r4 w3 =>
        if r4 ≠ 0 then
          nc_Run m_X12_sentence 48 [some (.inr (.inr (12, aa))), some (.inl xb), none] [] w3
        else
          some (some (.inl ((-1) - (w3.1 12 aa 16))), w3)
      else
        nc_bI (nc_Call m_X12_behind [.inr (.inr (12, aa))] w) fun r6 w5 =>
        if r6 ≠ 0 then
          nc_Run m_X12_sentence 48 [some (.inr (.inr (12, aa))), some (.inl xb), none] [] w5
        else
          some (some (.inl ((-1) - (w5.1 12 aa 16))), w5)
    else
      if (w.1 12 aa 11) ≠ 0 then
        if (w.1 12 aa 44) = 0 then
          nc_bI (nc_Call m_X12_operand [.inr (.inr (12, aa))] w) fun r8 w7 =>
          if r8 ≠ 0 then
            nc_Run m_X12_sentence 48 [some (.inr (.inr (12, aa))), some (.inl xb), none] [] w7
          else
            some (some (.inl ((-1) - (w7.1 12 aa 16))), w7)
        else
          nc_bI (nc_Call m_X12_behind [.inr (.inr (12, aa))] w) fun r10 w9 =>
          if r10 ≠ 0 then
            nc_Run m_X12_sentence 48 [some (.inr (.inr (12, aa))), some (.inl xb), none] [] w9
          else
            some (some (.inl ((-1) - (w9.1 12 aa 16))), w9)
      else
        nc_bV (nc_Call m_X12_nots [.inr (.inr (12, aa))] w) fun w11 =>
        nc_bV (nc_Call m_X12_joins [.inr (.inr (12, aa)), .inl 22] w11) fun w12 =>
        if (w12.1 12 aa 42) ≤ 0 then
          nc_Run m_X12_sentence 48 [some (.inr (.inr (12, aa))), some (.inl 0), none] [] w12
        else
          nc_bI (nc_Call m_X12_bad [.inr (.inr (12, aa)), .inl 1] w12) fun r14 w13 =>
          some (some (.inl ((-1) - (w13.1 12 aa 16))), w13) :=
  (nc_Run_un [48, 146] 25).trans rfl
set_option maxRecDepth 100000 in
theorem qr_X12_sentence_146 (aa : Nat) (xc : Int32) (w : nc_H) : nc_Run m_X12_sentence 146 [some (.inr (.inr (12, aa))), none, some (.inl xc)] [] w =
  if (3 * (w.1 12 aa 40)) ≤ xc then
    some (some (.inl (w.1 12 aa 41)), w)
  else
    nc_bd xc 135 fun j1 =>
    nc_bd (333 + xc) 513 fun j2 =>
    nc_lt (nc_si w 874 aa j2 (w.1 876 aa j1)) fun w3 =>
    nc_li (xc + 1) fun x4 =>
    nc_Run m_X12_sentence 146 [some (.inr (.inr (12, aa))), none, some (.inl x4)] [] w3 :=
  (nc_Run_un [48, 146] 19).trans rfl
set_option maxRecDepth 100000 in
theorem qc_X12_isLeaf (aa : Nat) (xb : Int32) (xc : Int32) (xd : Int32) (xe : Int32) (w : nc_H) : nc_Call m_X12_isLeaf [.inr (.inr (12, aa)), .inl xb, .inl xc, .inl xd, .inl xe] w =
  if xc = 0 then
    nc_bI (nc_Call m_X12_isDry [.inr (.inr (12, aa)), .inl xb] w) fun r2 w1 =>
    nc_z r2 <| some (some (.inl r2), w1)
  else
  if xc = 1 then
    nc_bI (nc_Call m_X12_isCurdled [.inr (.inr (12, aa)), .inl xb] w) fun r4 w3 =>
    nc_z r4 <| some (some (.inl r4), w3)
  else
  if xc = 2 then
    nc_bd (5 + xb) 513 fun j5 =>
    if (w.1 874 aa j5) ≠ xe then
      some (some (.inl 0), w)
    else
      some (some (.inl 1), w)
  else
  if xc = 3 then
    nc_bI (nc_Call m_X12_knows [.inr (.inr (12, aa)), .inl xb, .inl xe] w) fun r7 w6 =>
    nc_z r7 <| some (some (.inl r7), w6)
  else
  if xc = 4 then
    nc_bd (100 + xb) 513 fun j8 =>
    nc_bI (nc_Call m_X12_bitOf [.inl (w.1 874 aa j8), .inl xe] w) fun r10 w9 =>
    nc_z r10 <| some (some (.inl r10), w9)
  else
    if xc ≠ 5 then
      if xc ≠ 6 then
        if xc ≠ 7 then
          if xd ≠ 60 then
            if xd ≠ 61 then
              if xb ≤ xe then
                some (some (.inl 0), w)
              else
                some (some (.inl 1), w)
            else
              if xb ≠ xe then
                some (some (.inl 0), w)
              else
                some (some (.inl 1), w)
          else
            if xe ≤ xb then
              some (some (.inl 0), w)
            else
              some (some (.inl 1), w)
        else
          nc_bd (79 + xb) 513 fun j11 =>
          nc_li (w.1 874 aa j11) fun x12 =>
          if xd ≠ 60 then
            if xd ≠ 61 then
              if x12 ≤ xe then
                some (some (.inl 0), w)
              else
                some (some (.inl 1), w)
            else
              if x12 ≠ xe then
                some (some (.inl 0), w)
              else
                some (some (.inl 1), w)
          else
            if xe ≤ x12 then
              some (some (.inl 0), w)
            else
              some (some (.inl 1), w)
      else
        nc_bd (87 + xb) 513 fun j13 =>
        nc_li (w.1 874 aa j13) fun x14 =>
        if xd ≠ 60 then
          if xd ≠ 61 then
            if x14 ≤ xe then
              some (some (.inl 0), w)
            else
              some (some (.inl 1), w)
          else
            if x14 ≠ xe then
              some (some (.inl 0), w)
            else
              some (some (.inl 1), w)
        else
          if xe ≤ x14 then
            some (some (.inl 0), w)
          else
            some (some (.inl 1), w)
    else
      nc_bI (nc_Call m_X12_milk [.inr (.inr (12, aa)), .inl xb] w) fun r16 w15 =>
      if xd ≠ 60 then
        if xd ≠ 61 then
          if r16 ≤ xe then
            some (some (.inl 0), w15)
          else
            some (some (.inl 1), w15)
        else
          if r16 ≠ xe then
            some (some (.inl 0), w15)
          else
            some (some (.inl 1), w15)
      else
        if xe ≤ r16 then
          some (some (.inl 0), w15)
        else
          some (some (.inl 1), w15) :=
  (nc_Call_eq _ _ _).trans ((if_pos (Nat.le_of_ble_eq_true rfl)).trans ((nc_Run_un [] 31).trans rfl))
set_option maxRecDepth 100000 in
theorem qc_X12_isSaid (aa : Nat) (xb : Int32) (w : nc_H) : nc_Call m_X12_isSaid [.inr (.inr (12, aa)), .inl xb] w =
  nc_Run m_X12_isSaid 4 [some (.inr (.inr (12, aa))), some (.inl xb), some (.inl 0), some (.inl 0), none] [] w :=
  (nc_Call_eq _ _ _).trans ((if_pos (Nat.le_of_ble_eq_true rfl)).trans ((nc_Run_un [4, 88] 5).trans rfl))
set_option maxRecDepth 100000 in
theorem qr_X12_isSaid_4 (aa : Nat) (xb : Int32) (xc : Int32) (xd : Int32) (w : nc_H) : nc_Run m_X12_isSaid 4 [some (.inr (.inr (12, aa))), some (.inl xb), some (.inl xc), some (.inl xd), none] [] w =
  nc_bd 332 513 fun j1 =>
  if (w.1 874 aa j1) ≤ xd then
    nc_bd 0 45 fun j2 =>
    nc_z (w.1 913 aa j2) <| some (some (.inl (w.1 913 aa j2)), w)
  else
    nc_li (333 + (3 * xd)) fun x3 =>
    nc_bd x3 513 fun j4 =>
    if (w.1 874 aa j4) ≠ 20 then
      nc_bd x3 513 fun j5 =>
      if (w.1 874 aa j5) = 21 then
        nc_Run m_X12_isSaid 88 [some (.inr (.inr (12, aa))), some (.inl xb), some (.inl xc), some (.inl xd), some (.inl x3)] [] w
      else
        nc_bd x3 513 fun j6 =>
        if (w.1 874 aa j6) ≠ 22 then
          nc_bd x3 513 fun j7 =>
          nc_bd (x3 + 1) 513 fun j8 =>
          nc_bd (x3 + 2) 513 fun j9 =>
          nc_bI (nc_Call m_X12_isLeaf [.inr (.inr (12, aa)), .inl xb, .inl (w.1 874 aa j7), .inl (w.1 874 aa j8), .inl (w.1 874 aa j9)] w) fun r11 w10 =>
          nc_bd xc 45 fun j12 =>
          nc_z r11 <|
          nc_lt (nc_si w10 913 aa j12 r11) fun w13 =>
          nc_li (xc + 1) fun x14 =>
          nc_li (xd + 1) fun x15 =>
          nc_Run m_X12_isSaid 4 [some (.inr (.inr (12, aa))), some (.inl xb), some (.inl x14), some (.inl x15), none] [] w13
        else
          nc_Run m_X12_isSaid 88 [some (.inr (.inr (12, aa))), some (.inl xb), some (.inl xc), some (.inl xd), some (.inl x3)] [] w
    else
      nc_bd (xc - 1) 45 fun j16 =>
      if (w.1 913 aa j16) ≠ 0 then
        nc_bd (xc - 1) 45 fun j17 =>
        nc_lt (nc_si w 913 aa j17 0) fun w18 =>
        nc_li (xd + 1) fun x19 =>
        nc_Run m_X12_isSaid 4 [some (.inr (.inr (12, aa))), some (.inl xb), some (.inl xc), some (.inl x19), none] [] w18
      else
        nc_bd (xc - 1) 45 fun j20 =>
        nc_lt (nc_si w 913 aa j20 1) fun w21 =>
        nc_li (xd + 1) fun x22 =>
        nc_Run m_X12_isSaid 4 [some (.inr (.inr (12, aa))), some (.inl xb), some (.inl xc), some (.inl x22), none] [] w21 :=
  (nc_Run_un [4, 88] 57).trans rfl
set_option maxRecDepth 100000 in
theorem qc_X12_said (aa : Nat) (xb : Int32) (w : nc_H) : nc_Call m_X12_said [.inr (.inr (12, aa)), .inl xb] w =
  nc_lt (nc_si w 12 aa 0 0) fun w1 =>
  nc_bd 332 513 fun j2 =>
  if (w1.1 874 aa j2) = 0 then
    some (some (.inl (-1)), w1)
  else
    if (-1 : Int32) ≤ xb then
      nc_Run m_X12_said 27 [some (.inr (.inr (12, aa))), some (.inl xb), some (.inl 0), some (.inl 0)] [] w1
    else
      some (some (.inl (-1)), w1) :=
  (nc_Call_eq _ _ _).trans ((if_pos (Nat.le_of_ble_eq_true rfl)).trans ((nc_Run_un [27] 16).trans rfl))
set_option maxRecDepth 100000 in
theorem qr_X12_said_27 (aa : Nat) (xb : Int32) (xc : Int32) (xd : Int32) (w : nc_H) : nc_Run m_X12_said 27 [some (.inr (.inr (12, aa))), some (.inl xb), some (.inl xc), some (.inl xd)] [] w =
  nc_bd 1 513 fun j1 =>
  if (w.1 874 aa j1) ≤ xd then
    if xb ≠ (-1) then
      some (some (.inl (-1)), w)
    else
      some (some (.inl xc), w)
  else
    nc_bI (nc_Call m_X12_isSaid [.inr (.inr (12, aa)), .inl xd] w) fun r3 w2 =>
    if r3 ≠ 0 then
      if xc ≠ xb then
        nc_li (xc + 1) fun x4 =>
        nc_li (xd + 1) fun x5 =>
        nc_Run m_X12_said 27 [some (.inr (.inr (12, aa))), some (.inl xb), some (.inl x4), some (.inl x5)] [] w2
      else
        some (some (.inl xd), w2)
    else
      nc_li (xd + 1) fun x6 =>
      nc_Run m_X12_said 27 [some (.inr (.inr (12, aa))), some (.inl xb), some (.inl xc), some (.inl x6)] [] w2 :=
  (nc_Run_un [27] 17).trans rfl
set_option maxRecDepth 100000 in
theorem qc_X12_image (aa : Nat) (xb : Int32) (w : nc_H) : nc_Call m_X12_image [.inr (.inr (12, aa)), .inl xb] w =
  nc_lt (nc_si w 12 aa 0 0) fun w1 =>
  nc_bI (nc_Call m_X12_isIn [.inl xb, .inl 0, .inl 1] w1) fun r3 w2 =>
  if r3 ≠ 0 then
    nc_Run m_X12_image 18 [some (.inr (.inr (12, aa))), some (.inl xb), some (.inl 0)] [] w2
  else
    some (some (.inl 0), w2) :=
  (nc_Call_eq _ _ _).trans ((if_pos (Nat.le_of_ble_eq_true rfl)).trans ((nc_Run_un [18, 51] 11).trans rfl))
set_option maxRecDepth 100000 in
theorem qr_X12_image_18 (aa : Nat) (xb : Int32) (xc : Int32) (w : nc_H) : nc_Run m_X12_image 18 [some (.inr (.inr (12, aa))), some (.inl xb), some (.inl xc)] [] w =
  if (513 : Int32) ≤ xc then
    nc_Run m_X12_image 51 [some (.inr (.inr (12, aa))), some (.inl xb), some (.inl 0)] [] w
  else
    nc_bd xc 513 fun j1 =>
    nc_bd ((513 * xb) + xc) 1026 fun j2 =>
    nc_lt (nc_si w 914 aa j2 (w.1 874 aa j1)) fun w3 =>
    nc_li (xc + 1) fun x4 =>
    nc_Run m_X12_image 18 [some (.inr (.inr (12, aa))), some (.inl xb), some (.inl x4)] [] w3 :=
  (nc_Run_un [18, 51] 18).trans rfl
set_option maxRecDepth 100000 in
theorem qr_X12_image_51 (aa : Nat) (xb : Int32) (xc : Int32) (w : nc_H) : nc_Run m_X12_image 51 [some (.inr (.inr (12, aa))), some (.inl xb), some (.inl xc)] [] w =
  if (22 : Int32) ≤ xc then
    nc_bd xb 2 fun j1 =>
    nc_lt (nc_si w 916 aa j1 1) fun w2 =>
    some (some (.inl 1), w2)
  else
    nc_bd xc 44 fun j3 =>
    nc_bd ((22 * xb) + xc) 44 fun j4 =>
    nc_lt (nc_sl w 915 aa j4 (w.2 877 aa j3)) fun w5 =>
    nc_li (xc + 1) fun x6 =>
    nc_Run m_X12_image 51 [some (.inr (.inr (12, aa))), some (.inl xb), some (.inl x6)] [] w5 :=
  (nc_Run_un [18, 51] 18).trans rfl
set_option maxRecDepth 100000 in
theorem qc_X12_restore (aa : Nat) (xb : Int32) (w : nc_H) : nc_Call m_X12_restore [.inr (.inr (12, aa)), .inl xb] w =
  nc_lt (nc_si w 12 aa 0 0) fun w1 =>
  nc_bI (nc_Call m_X12_isIn [.inl xb, .inl 0, .inl 1] w1) fun r3 w2 =>
  if r3 = 0 then
    some (some (.inl 0), w2)
  else
    nc_bd xb 2 fun j4 =>
    if (w2.1 916 aa j4) ≠ 0 then
      nc_Run m_X12_restore 27 [some (.inr (.inr (12, aa))), some (.inl xb), some (.inl 0)] [] w2
    else
      some (some (.inl 0), w2) :=
  (nc_Call_eq _ _ _).trans ((if_pos (Nat.le_of_ble_eq_true rfl)).trans ((nc_Run_un [27, 60] 16).trans rfl))
set_option maxRecDepth 100000 in
theorem qr_X12_restore_27 (aa : Nat) (xb : Int32) (xc : Int32) (w : nc_H) : nc_Run m_X12_restore 27 [some (.inr (.inr (12, aa))), some (.inl xb), some (.inl xc)] [] w =
  if (513 : Int32) ≤ xc then
    nc_Run m_X12_restore 60 [some (.inr (.inr (12, aa))), some (.inl xb), some (.inl 0)] [] w
  else
    nc_bd ((513 * xb) + xc) 1026 fun j1 =>
    nc_bd xc 513 fun j2 =>
    nc_lt (nc_si w 874 aa j2 (w.1 914 aa j1)) fun w3 =>
    nc_li (xc + 1) fun x4 =>
    nc_Run m_X12_restore 27 [some (.inr (.inr (12, aa))), some (.inl xb), some (.inl x4)] [] w3 :=
  (nc_Run_un [27, 60] 18).trans rfl
set_option maxRecDepth 100000 in
theorem qr_X12_restore_60 (aa : Nat) (xb : Int32) (xc : Int32) (w : nc_H) : nc_Run m_X12_restore 60 [some (.inr (.inr (12, aa))), some (.inl xb), some (.inl xc)] [] w =
  if (22 : Int32) ≤ xc then
    nc_lt (nc_si w 12 aa 24 0) fun w1 =>
    some (some (.inl 1), w1)
  else
    nc_bd ((22 * xb) + xc) 44 fun j2 =>
    nc_bd xc 44 fun j3 =>
    nc_lt (nc_sl w 877 aa j3 (w.2 915 aa j2)) fun w4 =>
    nc_li (xc + 1) fun x5 =>
    nc_Run m_X12_restore 60 [some (.inr (.inr (12, aa))), some (.inl xb), some (.inl x5)] [] w4 :=
  (nc_Run_un [27, 60] 18).trans rfl
set_option maxRecDepth 100000 in
theorem qc_X12_count (aa : Nat) (xb : Int32) (w : nc_H) : nc_Call m_X12_count [.inr (.inr (12, aa)), .inl xb] w =
  nc_lt (nc_si w 12 aa 0 0) fun w1 =>
  if xb ≠ 5 then
    nc_bI (nc_Call m_X12_isIn [.inl xb, .inl 0, .inl 4] w1) fun r3 w2 =>
    if r3 = 0 then
      some (some (.inl (-1)), w2)
    else
      nc_bd xb 513 fun j4 =>
      some (some (.inl (w2.1 874 aa j4)), w2)
  else
    some (some (.inl (w1.1 12 aa 2)), w1) :=
  (nc_Call_eq _ _ _).trans ((if_pos (Nat.le_of_ble_eq_true rfl)).trans ((nc_Run_un [] 17).trans rfl))
end
section
set_option maxRecDepth 100000 in
theorem qr_X12_isSaid_88 (aa : Nat) (xb : Int32) (xc : Int32) (xd : Int32) (xe : Int32) (w : nc_H) : nc_Run m_X12_isSaid 88 [some (.inr (.inr (12, aa))), some (.inl xb), some (.inl xc), some (.inl xd), some (.inl xe)] [] w =
  nc_li (xc + Int32.ofInt (-1)) fun x1 =>
  nc_bd xe 513 fun j2 =>
  if (w.1 874 aa j2) ≠ 21 then
    nc_Run m_X12_isSaid 138 [some (.inr (.inr (12, aa))), some (.inl xb), some (.inl x1), some (.inl xd), some (.inl xe)] [.inl (x1 - 1), .inr (.inr (913, aa))] w
  else
    nc_Run m_X12_isSaid 110 [some (.inr (.inr (12, aa))), some (.inl xb), some (.inl x1), some (.inl xd), some (.inl xe)] [.inl (x1 - 1), .inr (.inr (913, aa))] w :=
  (nc_Run_un [4, 88, 110, 138, 163] 13).trans rfl
set_option maxRecDepth 100000 in
theorem qr_X12_isSaid_138 (aa : Nat) (xb : Int32) (xc : Int32) (xd : Int32) (xe : Int32) (za : Int32) (bb : Nat) (w : nc_H) : nc_Run m_X12_isSaid 138 [some (.inr (.inr (12, aa))), some (.inl xb), some (.inl xc), some (.inl xd), some (.inl xe)] [.inl za, .inr (.inr (913, bb))] w =
  nc_bd (xc - 1) 45 fun j1 =>
  if (w.1 913 aa j1) ≠ 0 then
    nc_Run m_X12_isSaid 163 [some (.inr (.inr (12, aa))), some (.inl xb), some (.inl xc), some (.inl xd), some (.inl xe)] [.inl 1, .inl za, .inr (.inr (913, bb))] w
  else
    nc_bd xc 45 fun j2 =>
    if (w.1 913 aa j2) = 0 then
      nc_Run m_X12_isSaid 163 [some (.inr (.inr (12, aa))), some (.inl xb), some (.inl xc), some (.inl xd), some (.inl xe)] [.inl 0, .inl za, .inr (.inr (913, bb))] w
    else
      nc_Run m_X12_isSaid 163 [some (.inr (.inr (12, aa))), some (.inl xb), some (.inl xc), some (.inl xd), some (.inl xe)] [.inl 1, .inl za, .inr (.inr (913, bb))] w :=
  (nc_Run_un [4, 88, 110, 138, 163] 15).trans rfl
set_option maxRecDepth 100000 in
theorem qr_X12_isSaid_110 (aa : Nat) (xb : Int32) (xc : Int32) (xd : Int32) (xe : Int32) (za : Int32) (bb : Nat) (w : nc_H) : nc_Run m_X12_isSaid 110 [some (.inr (.inr (12, aa))), some (.inl xb), some (.inl xc), some (.inl xd), some (.inl xe)] [.inl za, .inr (.inr (913, bb))] w =
  nc_bd (xc - 1) 45 fun j1 =>
  if (w.1 913 aa j1) = 0 then
    nc_Run m_X12_isSaid 163 [some (.inr (.inr (12, aa))), some (.inl xb), some (.inl xc), some (.inl xd), some (.inl xe)] [.inl 0, .inl za, .inr (.inr (913, bb))] w
  else
    nc_bd xc 45 fun j2 =>
    if (w.1 913 aa j2) = 0 then
      nc_Run m_X12_isSaid 163 [some (.inr (.inr (12, aa))), some (.inl xb), some (.inl xc), some (.inl xd), some (.inl xe)] [.inl 0, .inl za, .inr (.inr (913, bb))] w
    else
      nc_Run m_X12_isSaid 163 [some (.inr (.inr (12, aa))), some (.inl xb), some (.inl xc), some (.inl xd), some (.inl xe)] [.inl 1, .inl za, .inr (.inr (913, bb))] w :=
  (nc_Run_un [4, 88, 110, 138, 163] 15).trans rfl
set_option maxRecDepth 100000 in
theorem qr_X12_isSaid_163 (aa : Nat) (xb : Int32) (xc : Int32) (xd : Int32) (xe : Int32) (za : Int32) (zb : Int32) (bc : Nat) (w : nc_H) : nc_Run m_X12_isSaid 163 [some (.inr (.inr (12, aa))), some (.inl xb), some (.inl xc), some (.inl xd), some (.inl xe)] [.inl za, .inl zb, .inr (.inr (913, bc))] w =
  nc_bd zb 45 fun j1 =>
  nc_z za <|
  nc_lt (nc_si w 913 bc j1 za) fun w2 =>
  nc_li (xd + 1) fun x3 =>
  nc_Run m_X12_isSaid 4 [some (.inr (.inr (12, aa))), some (.inl xb), some (.inl xc), some (.inl x3), none] [] w2 :=
  (nc_Run_un [4, 88, 110, 138, 163] 5).trans rfl
end
section
/-! THE TABLES' WORDS that the machine's tables speak of, by their places; and the code. -/
def nc_cn (n : Nat) : String := ([RX0, RX1, RX2, RX3, RX4, RX5, RX6, RX7, RX8, RX9, RX10, RX11, RX12, RJ6, RJ7][n]?).getD ""
abbrev nc_cl : List vw_C := [(RX0, TX0, 9), (RX1, TX1, 11), (RX2, TX2, 19), (RX3, TX3, 3), (RX4, TX4, 1), (RX5, TX5, 3), (RX6, TX6, 4), (RX7, TX7, 17), (RX8, TX8, 7), (RX9, TX9, 5), (RX10, TX10, 16), (RX11, TX11, 16), (RX12, TX12, 49)]
def nc_tk (k : Nat) : List Cond := match k with
  | 0 => k2_sels lw_privs
  | 1 => tables_1_1
  | 2 => tables_1_2
  | 3 => tables_1_3
  | 4 => tables_1_4
  | 5 => tables_1_5
  | 6 => tables_1_6
  | 7 => tables_1_7
  | 8 => tables_1_8
  | _ => tables_1_9
theorem nc_tk_in {k : Nat} {w : Cond} (h : w ∈ nc_tk k) : w ∈ lw_tbl := by
  unfold nc_tk at h
  unfold lw_tbl tables_1
  simp only [List.mem_append]
  split at h <;> simp [h]
abbrev nc_at (p : Nat × Nat) (w : Cond) : Bool := decide ((nc_tk p.1)[p.2]? = some w)
theorem nc_at_in {p : Nat × Nat} {w : Cond} (h : nc_at p w = true) : w ∈ lw_tbl := nc_tk_in (List.mem_of_getElem? (of_decide_eq_true h))
theorem nc_gd_0 : (nc_tk 0).all goodWord = true := by decide +kernel
theorem nc_gd_1 : (nc_tk 1).all goodWord = true := by decide +kernel
theorem nc_gd_2 : (nc_tk 2).all goodWord = true := by decide +kernel
theorem nc_gd_3 : (nc_tk 3).all goodWord = true := by decide +kernel
theorem nc_gd_4 : (nc_tk 4).all goodWord = true := by decide +kernel
theorem nc_gd_5 : (nc_tk 5).all goodWord = true := by decide +kernel
theorem nc_gd_6 : (nc_tk 6).all goodWord = true := by decide +kernel
theorem nc_gd_7 : (nc_tk 7).all goodWord = true := by decide +kernel
theorem nc_gd_8 : (nc_tk 8).all goodWord = true := by decide +kernel
theorem nc_gd_9 : (nc_tk 9).all goodWord = true := by decide +kernel
theorem nc_good {w : Cond} (h : w ∈ lw_tbl) : goodWord w = true := by
  unfold lw_tbl tables_1 at h
  simp only [List.mem_append] at h
  rcases h with h | h | h | h | h | h | h | h | h | h
  · exact List.all_eq_true.mp nc_gd_0 w h
  · exact List.all_eq_true.mp nc_gd_1 w h
  · exact List.all_eq_true.mp nc_gd_2 w h
  · exact List.all_eq_true.mp nc_gd_3 w h
  · exact List.all_eq_true.mp nc_gd_4 w h
  · exact List.all_eq_true.mp nc_gd_5 w h
  · exact List.all_eq_true.mp nc_gd_6 w h
  · exact List.all_eq_true.mp nc_gd_7 w h
  · exact List.all_eq_true.mp nc_gd_8 w h
  · exact List.all_eq_true.mp nc_gd_9 w h
def nc_mq_l : List (Nat × Nat × (Nat × Nat) × (Nat × Nat) × (Nat × Nat) × (Nat × Nat)) := [(1, 2, (5, 56), (5, 55), (0, 0), (1, 14)), (0, 1, (5, 169), (5, 168), (0, 28), (1, 14)), (0, 1, (4, 123), (4, 121), (4, 122), (1, 7)), (0, 0, (5, 133), (5, 131), (5, 132), (1, 7)), (0, 0, (5, 44), (5, 42), (5, 43), (1, 7)), (0, 1, (4, 37), (4, 36), (0, 5), (1, 7)), (0, 1, (4, 80), (4, 78), (4, 79), (1, 7)), (0, 3, (5, 150), (5, 149), (0, 27), (1, 7)), (0, 1, (5, 222), (5, 221), (0, 31), (1, 16)), (0, 0, (4, 107), (4, 105), (4, 106), (1, 11)), (0, 1, (4, 159), (4, 157), (4, 158), (1, 9)), (0, 1, (4, 224), (4, 222), (4, 223), (1, 9)), (0, 2, (4, 183), (4, 182), (0, 13), (1, 9)), (0, 3, (4, 236), (4, 234), (4, 235), (1, 9)), (0, 1, (4, 232), (4, 230), (4, 231), (1, 9)), (0, 0, (4, 139), (4, 137), (4, 138), (1, 9)), (0, 1, (5, 14), (5, 13), (0, 17), (1, 9)), (0, 0, (4, 135), (4, 133), (4, 134), (1, 9)), (0, 2, (5, 202), (5, 200), (5, 201), (1, 9)), (0, 0, (4, 103), (4, 101), (4, 102), (1, 12)), (0, 3, (6, 67), (6, 66), (0, 38), (1, 12)), (0, 2, (6, 98), (6, 97), (0, 41), (1, 12)), (1, 2, (1, 92), (1, 91), (0, 0), (1, 2)), (1, 1, (3, 170), (3, 169), (0, 0), (1, 2)), (1, 1, (3, 173), (3, 172), (0, 0), (1, 2)), (0, 1, (3, 136), (3, 134), (3, 135), (1, 2)), (0, 1, (3, 167), (3, 165), (3, 166), (1, 2)), (0, 1, (3, 181), (3, 180), (0, 1), (1, 2)), (0, 4, (3, 185), (3, 184), (0, 2), (1, 2)), (0, 0, (4, 11), (4, 9), (4, 10), (1, 2)), (0, 1, (4, 27), (4, 25), (4, 26), (1, 2)), (0, 0, (4, 19), (4, 17), (4, 18), (1, 2)), (0, 1, (4, 49), (4, 47), (4, 48), (1, 2)), (0, 1, (3, 140), (3, 138), (3, 139), (1, 1)), (0, 0, (4, 111), (4, 109), (4, 110), (1, 1)), (0, 0, (5, 77), (5, 75), (5, 76), (1, 1)), (0, 1, (5, 122), (5, 120), (5, 121), (1, 1)), (0, 0, (5, 155), (5, 153), (5, 154), (1, 1)), (0, 0, (5, 180), (5, 178), (5, 179), (1, 1)), (0, 0, (5, 184), (5, 182), (5, 183), (1, 1)), (0, 1, (6, 36), (6, 34), (6, 35), (1, 1)), (0, 1, (6, 110), (6, 108), (6, 109), (1, 1)), (0, 1, (5, 141), (5, 140), (0, 26), (1, 1)), (0, 1, (4, 151), (4, 150), (0, 12), (1, 1)), (0, 1, (4, 119), (4, 118), (0, 10), (1, 1)), (0, 2, (4, 127), (4, 126), (0, 11), (1, 1)), (0, 0, (6, 197), (6, 195), (6, 196), (1, 18)), (0, 1, (8, 9), (8, 8), (0, 64), (1, 18)), (0, 1, (6, 206), (6, 204), (0, 44), (1, 18)), (0, 1, (6, 210), (6, 208), (6, 209), (1, 18)), (0, 1, (7, 156), (7, 155), (0, 45), (1, 18)), (1, 3, (7, 213), (7, 212), (0, 0), (1, 18)), (1, 2, (8, 16), (8, 15), (0, 0), (1, 18)), (1, 2, (8, 51), (8, 50), (0, 0), (1, 18)), (1, 1, (8, 229), (8, 228), (0, 0), (1, 18)), (1, 1, (8, 98), (8, 97), (0, 0), (1, 18)), (0, 1, (8, 226), (8, 225), (0, 98), (1, 18)), (0, 0, (7, 164), (7, 163), (0, 47), (1, 18)), (1, 1, (7, 167), (7, 166), (0, 0), (1, 18)), (1, 1, (7, 170), (7, 169), (0, 0), (1, 18)), (0, 1, (7, 182), (7, 181), (0, 50), (1, 18)), (0, 1, (7, 178), (7, 177), (0, 49), (1, 18)), (0, 1, (7, 233), (7, 232), (0, 62), (1, 18)), (0, 0, (7, 190), (7, 189), (0, 52), (1, 18)), (0, 2, (7, 194), (7, 193), (0, 53), (1, 18)), (0, 0, (7, 237), (7, 235), (7, 236), (1, 18)), (0, 2, (8, 28), (8, 27), (0, 68), (1, 18)), (0, 1, (8, 20), (8, 19), (0, 66), (1, 18)), (0, 1, (8, 71), (8, 70), (0, 76), (1, 18)), (0, 1, (8, 83), (8, 82), (0, 78), (1, 18)), (0, 0, (8, 87), (8, 86), (0, 79), (1, 18)), (0, 0, (8, 102), (8, 101), (0, 81), (1, 18)), (0, 0, (8, 142), (8, 140), (8, 141), (1, 18)), (0, 0, (8, 186), (8, 185), (0, 93), (1, 18)), (0, 0, (8, 198), (8, 197), (0, 96), (1, 18)), (0, 0, (8, 154), (8, 153), (0, 89), (1, 18)), (0, 1, (8, 166), (8, 165), (0, 92), (1, 18)), (0, 0, (8, 174), (8, 172), (8, 173), (1, 18)), (0, 3, (8, 194), (8, 193), (0, 95), (1, 18)), (0, 0, (8, 218), (8, 216), (8, 217), (1, 18)), (0, 0, (8, 233), (8, 231), (8, 232), (1, 18)), (0, 0, (8, 237), (8, 235), (8, 236), (1, 18)), (0, 1, (9, 29), (9, 28), (0, 101), (1, 18)), (0, 3, (9, 62), (9, 61), (0, 105), (1, 18)), (1, 1, (4, 162), (4, 161), (0, 0), (1, 26)), (1, 2, (3, 155), (3, 154), (0, 0), (1, 10)), (1, 2, (2, 52), (2, 51), (0, 0), (1, 10)), (0, 1, (4, 45), (4, 43), (4, 44), (1, 2)), (0, 3, (4, 59), (4, 57), (4, 58), (1, 7)), (0, 2, (4, 63), (4, 61), (4, 62), (1, 2)), (0, 3, (6, 71), (6, 70), (0, 39), (1, 12)), (0, 1, (4, 228), (4, 226), (4, 227), (1, 9)), (0, 2, (4, 155), (4, 153), (4, 154), (1, 9)), (0, 1, (5, 112), (5, 111), (0, 25), (1, 15)), (0, 1, (4, 220), (4, 218), (4, 219), (1, 9)), (0, 4, (5, 101), (5, 100), (0, 24), (1, 15)), (0, 1, (4, 173), (4, 171), (4, 172), (1, 9)), (0, 2, (4, 179), (4, 177), (4, 178), (1, 9)), (0, 2, (5, 6), (5, 5), (0, 16), (1, 9)), (0, 0, (5, 1), (4, 239), (5, 0), (1, 9)), (0, 0, (5, 10), (5, 8), (5, 9), (1, 9)), (0, 3, (6, 59), (6, 58), (0, 37), (1, 12)), (0, 3, (6, 55), (6, 54), (0, 36), (1, 12)), (0, 3, (6, 51), (6, 50), (0, 35), (1, 12)), (0, 3, (6, 59), (6, 58), (0, 37), (1, 12)), (0, 3, (6, 55), (6, 54), (0, 36), (1, 12)), (0, 3, (6, 51), (6, 50), (0, 35), (1, 12)), (0, 3, (6, 59), (6, 58), (0, 37), (1, 12)), (0, 3, (6, 55), (6, 54), (0, 36), (1, 12)), (0, 3, (6, 51), (6, 50), (0, 35), (1, 12)), (0, 3, (6, 59), (6, 58), (0, 37), (1, 12)), (0, 3, (6, 55), (6, 54), (0, 36), (1, 12)), (0, 3, (6, 51), (6, 50), (0, 35), (1, 12)), (0, 3, (6, 59), (6, 58), (0, 37), (1, 12)), (0, 3, (6, 55), (6, 54), (0, 36), (1, 12)), (0, 3, (6, 51), (6, 50), (0, 35), (1, 12)), (0, 3, (6, 59), (6, 58), (0, 37), (1, 12)), (0, 3, (6, 55), (6, 54), (0, 36), (1, 12)), (0, 3, (6, 51), (6, 50), (0, 35), (1, 12)), (0, 3, (6, 59), (6, 58), (0, 37), (1, 12)), (0, 3, (6, 55), (6, 54), (0, 36), (1, 12)), (0, 3, (6, 51), (6, 50), (0, 35), (1, 12)), (0, 3, (6, 59), (6, 58), (0, 37), (1, 12)), (0, 3, (6, 55), (6, 54), (0, 36), (1, 12)), (0, 3, (6, 51), (6, 50), (0, 35), (1, 12)), (0, 3, (6, 59), (6, 58), (0, 37), (1, 12)), (0, 3, (6, 55), (6, 54), (0, 36), (1, 12)), (0, 3, (6, 51), (6, 50), (0, 35), (1, 12)), (0, 4, (5, 97), (5, 96), (0, 23), (1, 15)), (0, 4, (5, 97), (5, 96), (0, 23), (1, 15)), (0, 4, (5, 97), (5, 96), (0, 23), (1, 15)), (0, 1, (3, 177), (3, 176), (0, 0), (1, 2)), (0, 1, (3, 160), (3, 158), (3, 159), (1, 2)), (0, 0, (4, 7), (4, 5), (4, 6), (1, 2)), (1, 3, (6, 16), (6, 15), (0, 0), (1, 13)), (0, 0, (4, 41), (4, 39), (4, 40), (1, 2)), (0, 2, (6, 9), (6, 8), (0, 33), (1, 13)), (0, 0, (4, 88), (4, 86), (4, 87), (1, 2)), (0, 2, (6, 3), (6, 1), (6, 2), (1, 13)), (0, 0, (4, 216), (4, 215), (0, 15), (1, 9)), (0, 1, (4, 212), (4, 210), (4, 211), (1, 9)), (0, 1, (4, 191), (4, 189), (4, 190), (1, 9)), (0, 2, (4, 204), (4, 203), (0, 14), (1, 9)), (0, 1, (4, 200), (4, 198), (4, 199), (1, 9)), (0, 1, (4, 196), (4, 194), (4, 195), (1, 9)), (0, 2, (6, 27), (6, 26), (0, 34), (1, 13)), (0, 1, (6, 23), (6, 21), (6, 22), (1, 13)), (0, 1, (5, 40), (5, 39), (0, 19), (1, 14)), (0, 1, (5, 60), (5, 59), (0, 21), (1, 14)), (0, 1, (5, 53), (5, 52), (0, 20), (1, 14)), (0, 1, (5, 36), (5, 34), (5, 35), (1, 14)), (0, 1, (5, 85), (5, 83), (5, 84), (1, 14)), (0, 2, (5, 73), (5, 72), (0, 22), (1, 14)), (0, 2, (5, 69), (5, 67), (5, 68), (1, 14)), (0, 1, (5, 173), (5, 172), (0, 29), (1, 14)), (0, 2, (5, 164), (5, 162), (5, 163), (1, 14)), (0, 0, (3, 152), (3, 150), (3, 151), (1, 7)), (0, 1, (4, 92), (4, 90), (4, 91), (1, 7)), (0, 2, (4, 31), (4, 29), (4, 30), (1, 7)), (0, 2, (4, 76), (4, 74), (4, 75), (1, 7)), (0, 2, (5, 145), (5, 143), (5, 144), (1, 7)), (0, 0, (4, 23), (4, 22), (0, 4), (1, 8)), (0, 0, (4, 54), (4, 53), (0, 6), (1, 8)), (0, 0, (4, 67), (4, 66), (0, 7), (1, 8)), (0, 0, (4, 72), (4, 71), (0, 8), (1, 8)), (0, 0, (4, 84), (4, 83), (0, 9), (1, 8)), (0, 0, (4, 15), (4, 14), (0, 3), (1, 8)), (0, 0, (3, 148), (3, 146), (3, 147), (1, 8)), (0, 1, (5, 218), (5, 216), (5, 217), (1, 16)), (0, 1, (4, 169), (4, 167), (4, 168), (1, 11)), (0, 1, (5, 22), (5, 20), (5, 21), (1, 11)), (0, 0, (4, 99), (4, 97), (4, 98), (1, 9)), (0, 3, (5, 93), (5, 91), (5, 92), (1, 15)), (0, 1, (6, 78), (6, 76), (6, 77), (1, 12)), (0, 2, (6, 44), (6, 42), (6, 43), (1, 12)), (0, 3, (6, 91), (6, 90), (0, 40), (1, 12)), (0, 2, (6, 87), (6, 85), (6, 86), (1, 12)), (0, 5, (3, 132), (3, 130), (3, 131), (1, 1)), (0, 0, (3, 144), (3, 142), (3, 143), (1, 1)), (0, 2, (6, 118), (6, 116), (6, 117), (1, 1)), (0, 2, (4, 115), (4, 113), (4, 114), (1, 1)), (0, 1, (6, 192), (6, 191), (0, 43), (1, 1)), (0, 2, (6, 188), (6, 186), (6, 187), (1, 1)), (0, 1, (4, 131), (4, 129), (4, 130), (1, 1)), (0, 2, (4, 147), (4, 145), (4, 146), (1, 1)), (0, 2, (4, 143), (4, 141), (4, 142), (1, 1)), (0, 1, (4, 187), (4, 185), (4, 186), (1, 1)), (0, 1, (4, 208), (4, 206), (4, 207), (1, 1)), (0, 0, (5, 18), (5, 16), (5, 17), (1, 1)), (0, 1, (5, 31), (5, 30), (0, 18), (1, 1)), (0, 1, (5, 27), (5, 25), (5, 26), (1, 1)), (0, 2, (5, 65), (5, 63), (5, 64), (1, 1)), (0, 1, (5, 81), (5, 79), (5, 80), (1, 1)), (0, 2, (5, 89), (5, 87), (5, 88), (1, 1)), (0, 1, (5, 126), (5, 124), (5, 125), (1, 1)), (0, 2, (5, 137), (5, 135), (5, 136), (1, 1)), (0, 1, (5, 159), (5, 157), (5, 158), (1, 1)), (0, 1, (5, 188), (5, 186), (5, 187), (1, 1)), (0, 3, (5, 198), (5, 197), (0, 30), (1, 1)), (0, 1, (5, 193), (5, 191), (5, 192), (1, 1)), (0, 2, (5, 206), (5, 204), (5, 205), (1, 1)), (0, 1, (5, 210), (5, 208), (5, 209), (1, 1)), (0, 2, (5, 214), (5, 212), (5, 213), (1, 1)), (0, 1, (5, 235), (5, 234), (0, 32), (1, 1)), (0, 3, (5, 231), (5, 229), (5, 230), (1, 1)), (0, 1, (5, 239), (5, 237), (5, 238), (1, 1)), (0, 0, (6, 40), (6, 38), (6, 39), (1, 1)), (0, 1, (6, 83), (6, 81), (6, 82), (1, 1)), (0, 1, (6, 102), (6, 100), (6, 101), (1, 1)), (0, 1, (6, 106), (6, 104), (6, 105), (1, 1)), (0, 5, (6, 201), (6, 199), (6, 200), (1, 18)), (0, 0, (7, 160), (7, 159), (0, 46), (1, 18)), (0, 1, (7, 229), (7, 228), (0, 61), (1, 18)), (0, 2, (7, 210), (7, 209), (0, 57), (1, 18)), (0, 3, (7, 206), (7, 205), (0, 56), (1, 18)), (0, 1, (7, 186), (7, 185), (0, 51), (1, 18)), (0, 2, (7, 202), (7, 201), (0, 55), (1, 18)), (0, 2, (7, 198), (7, 197), (0, 54), (1, 18)), (0, 0, (7, 221), (7, 220), (0, 59), (1, 18)), (0, 0, (7, 217), (7, 216), (0, 58), (1, 18)), (0, 0, (7, 225), (7, 224), (0, 60), (1, 18)), (0, 0, (7, 174), (7, 173), (0, 48), (1, 18)), (0, 0, (7, 152), (7, 150), (7, 151), (1, 18)), (0, 1, (8, 67), (8, 66), (0, 75), (1, 18)), (0, 1, (8, 5), (8, 4), (0, 63), (1, 18)), (0, 1, (8, 59), (8, 58), (0, 74), (1, 18)), (0, 1, (8, 13), (8, 12), (0, 65), (1, 18)), (0, 1, (8, 44), (8, 43), (0, 72), (1, 18)), (0, 1, (8, 24), (8, 23), (0, 67), (1, 18)), (0, 2, (8, 48), (8, 47), (0, 73), (1, 18)), (0, 3, (8, 40), (8, 39), (0, 71), (1, 18)), (0, 2, (8, 36), (8, 35), (0, 70), (1, 18)), (0, 1, (8, 32), (8, 31), (0, 69), (1, 18)), (0, 2, (8, 1), (7, 239), (8, 0), (1, 18)), (0, 2, (8, 55), (8, 53), (8, 54), (1, 18)), (0, 1, (8, 75), (8, 74), (0, 77), (1, 18)), (0, 2, (8, 63), (8, 61), (8, 62), (1, 18)), (0, 1, (8, 79), (8, 77), (8, 78), (1, 18)), (0, 2, (8, 95), (8, 94), (0, 80), (1, 18)), (0, 2, (8, 106), (8, 105), (0, 82), (1, 18)), (0, 1, (8, 114), (8, 113), (0, 83), (1, 18)), (0, 1, (8, 122), (8, 121), (0, 85), (1, 18)), (0, 1, (8, 118), (8, 117), (0, 84), (1, 18)), (0, 2, (8, 138), (8, 137), (0, 88), (1, 18)), (0, 0, (8, 134), (8, 133), (0, 87), (1, 18)), (0, 1, (8, 130), (8, 129), (0, 86), (1, 18)), (0, 2, (8, 91), (8, 89), (8, 90), (1, 18)), (0, 1, (8, 110), (8, 108), (8, 109), (1, 18)), (0, 1, (8, 126), (8, 124), (8, 125), (1, 18)), (0, 2, (8, 146), (8, 144), (8, 145), (1, 18)), (0, 2, (8, 162), (8, 161), (0, 91), (1, 18)), (0, 2, (8, 158), (8, 157), (0, 90), (1, 18)), (0, 1, (8, 150), (8, 148), (8, 149), (1, 18)), (0, 2, (8, 170), (8, 168), (8, 169), (1, 18)), (0, 1, (8, 178), (8, 176), (8, 177), (1, 18)), (0, 3, (8, 190), (8, 189), (0, 94), (1, 18)), (0, 2, (8, 182), (8, 180), (8, 181), (1, 18)), (0, 1, (8, 202), (8, 200), (8, 201), (1, 18)), (0, 1, (8, 206), (8, 204), (8, 205), (1, 18)), (0, 3, (8, 214), (8, 213), (0, 97), (1, 18)), (0, 2, (8, 210), (8, 208), (8, 209), (1, 18)), (0, 1, (8, 222), (8, 220), (8, 221), (1, 18)), (0, 1, (9, 1), (8, 239), (9, 0), (1, 18)), (0, 1, (9, 13), (9, 12), (0, 99), (1, 18)), (0, 1, (9, 5), (9, 3), (9, 4), (1, 18)), (0, 2, (9, 9), (9, 7), (9, 8), (1, 18)), (0, 1, (9, 17), (9, 15), (9, 16), (1, 18)), (0, 2, (9, 25), (9, 24), (0, 100), (1, 18)), (0, 2, (9, 21), (9, 19), (9, 20), (1, 18)), (0, 3, (9, 34), (9, 32), (9, 33), (1, 18)), (0, 0, (9, 42), (9, 41), (0, 102), (1, 18)), (0, 3, (9, 46), (9, 45), (0, 103), (1, 18)), (0, 1, (9, 38), (9, 36), (9, 37), (1, 18)), (0, 1, (9, 50), (9, 48), (9, 49), (1, 18)), (0, 1, (9, 66), (9, 65), (0, 106), (1, 18)), (0, 0, (9, 58), (9, 57), (0, 104), (1, 18)), (0, 0, (9, 78), (9, 77), (0, 109), (1, 18)), (0, 0, (9, 74), (9, 73), (0, 108), (1, 18)), (0, 0, (9, 70), (9, 69), (0, 107), (1, 18)), (0, 0, (9, 54), (9, 52), (9, 53), (1, 18)), (0, 4, (9, 90), (9, 89), (0, 111), (1, 18)), (0, 1, (9, 86), (9, 85), (0, 110), (1, 18)), (0, 1, (9, 82), (9, 80), (9, 81), (1, 18)), (0, 1, (9, 94), (9, 92), (9, 93), (1, 18)), (0, 1, (9, 98), (9, 96), (9, 97), (1, 18)), (0, 1, (9, 102), (9, 100), (9, 101), (1, 18))]
def nc_mq (M : Nat) : Nat × Nat × (Nat × Nat) × (Nat × Nat) × (Nat × Nat) × (Nat × Nat) := (nc_mq_l[M]?).getD (9, 0, (0, 0), (0, 0), (0, 0), (0, 0))
def nc_mchk (M : Nat) : Bool :=
  (nc_at (nc_mq M).2.2.1 (.code (nc_y M) (nc_b M) (nc_mL M) (nc_rt (nc_rk M))) &&
  (nc_at (nc_mq M).2.2.2.1 (if (nc_mq M).1 = 0 then .instanceMethod (nc_y M) else .static (nc_y M)) &&
  ((Nat.beq (nc_mq M).1 1 || nc_at (nc_mq M).2.2.2.2.1 (.selects (nc_y M).cls (nc_y M) (nc_y M))) &&
  (nc_at (nc_mq M).2.2.2.2.2 (.initialized (nc_y M).cls) &&
  (plainName (nc_y M).cls && (decide ((nc_y M).cls = nc_cn (nc_own M)) && ((decide ((nc_y M).cls ≠ "java/lang/invoke/MethodHandle") && decide ((nc_y M).cls ≠ "java/lang/invoke/VarHandle")) &&
  (decide ((parseMethodDescriptor (nc_y M).desc).map (fun d => d.parameters.length) = some (nc_mq M).2.1) && (Nat.ble (nc_mL M) 45 && Nat.ble (nc_own M) 14)))))))))
theorem nc_mk_0 : (List.range' 0 24).all nc_mchk = true := by decide +kernel
theorem nc_mk_1 : (List.range' 24 24).all nc_mchk = true := by decide +kernel
theorem nc_mk_2 : (List.range' 48 24).all nc_mchk = true := by decide +kernel
theorem nc_mk_3 : (List.range' 72 24).all nc_mchk = true := by decide +kernel
theorem nc_mk_4 : (List.range' 96 24).all nc_mchk = true := by decide +kernel
theorem nc_mk_5 : (List.range' 120 24).all nc_mchk = true := by decide +kernel
theorem nc_mk_6 : (List.range' 144 24).all nc_mchk = true := by decide +kernel
theorem nc_mk_7 : (List.range' 168 24).all nc_mchk = true := by decide +kernel
theorem nc_mk_8 : (List.range' 192 24).all nc_mchk = true := by decide +kernel
theorem nc_mk_9 : (List.range' 216 24).all nc_mchk = true := by decide +kernel
theorem nc_mk_10 : (List.range' 240 24).all nc_mchk = true := by decide +kernel
theorem nc_mk_11 : (List.range' 264 22).all nc_mchk = true := by decide +kernel
theorem nc_mok (M : Nat) (h : M < nc_many) : nc_mchk M = true := by
  have key : ∀ (a n : Nat), (List.range' a n).all nc_mchk = true → a ≤ M → M < a + n → nc_mchk M = true := fun a n hh h1 h2 => List.all_eq_true.mp hh M (List.mem_range'_1.mpr ⟨h1, h2⟩)
  have h : M < 286 := h
  by_cases q0 : M < 24
  · exact key 0 24 nc_mk_0 (by omega) (by omega)
  by_cases q1 : M < 48
  · exact key 24 24 nc_mk_1 (by omega) (by omega)
  by_cases q2 : M < 72
  · exact key 48 24 nc_mk_2 (by omega) (by omega)
  by_cases q3 : M < 96
  · exact key 72 24 nc_mk_3 (by omega) (by omega)
  by_cases q4 : M < 120
  · exact key 96 24 nc_mk_4 (by omega) (by omega)
  by_cases q5 : M < 144
  · exact key 120 24 nc_mk_5 (by omega) (by omega)
  by_cases q6 : M < 168
  · exact key 144 24 nc_mk_6 (by omega) (by omega)
  by_cases q7 : M < 192
  · exact key 168 24 nc_mk_7 (by omega) (by omega)
  by_cases q8 : M < 216
  · exact key 192 24 nc_mk_8 (by omega) (by omega)
  by_cases q9 : M < 240
  · exact key 216 24 nc_mk_9 (by omega) (by omega)
  by_cases q10 : M < 264
  · exact key 240 24 nc_mk_10 (by omega) (by omega)
  by_cases q11 : M < 286
  · exact key 264 22 nc_mk_11 (by omega) (by omega)
  exact absurd h (by omega)
/-- an instruction's length, and its place among the locals -/
def nc_lok (n : Nat) (i : Instr) (len : Nat) : Bool := match i with
  | .tableswitch _ _ _ _ => true
  | .istore_n k => Nat.beq len 1 && Nat.blt k.val n
  | .astore_n k => Nat.beq len 1 && Nat.blt k.val n
  | .lstore_n k => Nat.beq len 1 && Nat.blt (k.val + 1) n
  | .istore k => Nat.beq len 2 && Nat.blt k n
  | .astore k => Nat.beq len 2 && Nat.blt k n
  | .lstore k => Nat.beq len 2 && Nat.blt (k + 1) n
  | .iinc k _ => Nat.beq len 3 && Nat.blt k n
  | .bipush _ => Nat.beq len 2
  | .ldc _ => Nat.beq len 2
  | .iload _ => Nat.beq len 2
  | .lload _ => Nat.beq len 2
  | .aload _ => Nat.beq len 2
  | .sipush _ => Nat.beq len 3
  | .ldc_w _ => Nat.beq len 3
  | .ldc2_w _ => Nat.beq len 3
  | .goto _ => Nat.beq len 3
  | .ifCond _ _ => Nat.beq len 3
  | .if_icmp _ _ => Nat.beq len 3
  | .ifnull _ => Nat.beq len 3
  | .ifnonnull _ => Nat.beq len 3
  | .getfield _ => Nat.beq len 3
  | .putfield _ => Nat.beq len 3
  | .invokestatic _ => Nat.beq len 3
  | .invokevirtual _ => Nat.beq len 3
  | .invokespecial _ => true
  | .new _ => true
  | .newarray _ => true
  | .anewarray _ => true
  | _ => Nat.beq len 1
/-- a jump goes to a place -/
def nc_jok (pc : Nat) (i : Instr) : Bool := match i with
  | .goto o => decide (0 ≤ (pc : Int) + o)
  | .ifCond _ o => decide (0 ≤ (pc : Int) + o)
  | .if_icmp _ o => decide (0 ≤ (pc : Int) + o)
  | _ => true
def nc_dchk (b : ByteArray) (n : Nat) (l : List (Nat × Instr × Nat)) : Bool := l.all (fun q => decide (decode b q.1 = .ok (q.2.1, q.2.2)) && (nc_lok n q.2.1 q.2.2 && nc_jok q.1 q.2.1))
theorem nc_dk_X1_setAfter : nc_dchk cX1_setAfter 2 nc_c_X1_setAfter = true := by decide +kernel
theorem nc_dk_X1_countNews : nc_dchk cX1_countNews 3 nc_c_X1_countNews = true := by decide +kernel
theorem nc_dk_X2_isLie : nc_dchk cX2_isLie 2 nc_c_X2_isLie = true := by decide +kernel
theorem nc_dk_X2_allCows : nc_dchk cX2_allCows 1 nc_c_X2_allCows = true := by decide +kernel
theorem nc_dk_X2_allNews : nc_dchk cX2_allNews 1 nc_c_X2_allNews = true := by decide +kernel
theorem nc_dk_X2_slotOf : nc_dchk cX2_slotOf 4 nc_c_X2_slotOf = true := by decide +kernel
theorem nc_dk_X2_hedgesOf : nc_dchk cX2_hedgesOf 4 nc_c_X2_hedgesOf = true := by decide +kernel
theorem nc_dk_X2_comesTo : nc_dchk cX2_comesTo 8 nc_c_X2_comesTo = true := by decide +kernel
theorem nc_dk_X4_draw : nc_dchk cX4_draw 2 nc_c_X4_draw = true := by decide +kernel
theorem nc_dk_X5_clear : nc_dchk cX5_clear 1 nc_c_X5_clear = true := by decide +kernel
theorem nc_dk_X7_isDry : nc_dchk cX7_isDry 2 nc_c_X7_isDry = true := by decide +kernel
theorem nc_dk_X7_isCurdled : nc_dchk cX7_isCurdled 2 nc_c_X7_isCurdled = true := by decide +kernel
theorem nc_dk_X7_comes : nc_dchk cX7_comes 3 nc_c_X7_comes = true := by decide +kernel
theorem nc_dk_X7_addedBy : nc_dchk cX7_addedBy 5 nc_c_X7_addedBy = true := by decide +kernel
theorem nc_dk_X7_heardByOthers : nc_dchk cX7_heardByOthers 4 nc_c_X7_heardByOthers = true := by decide +kernel
theorem nc_dk_X7_talking : nc_dchk cX7_talking 4 nc_c_X7_talking = true := by decide +kernel
theorem nc_dk_X7_forget : nc_dchk cX7_forget 3 nc_c_X7_forget = true := by decide +kernel
theorem nc_dk_X7_allPails : nc_dchk cX7_allPails 3 nc_c_X7_allPails = true := by decide +kernel
theorem nc_dk_X7_pailsOn : nc_dchk cX7_pailsOn 3 nc_c_X7_pailsOn = true := by decide +kernel
theorem nc_dk_X9_clear : nc_dchk cX9_clear 1 nc_c_X9_clear = true := by decide +kernel
theorem nc_dk_X9_put : nc_dchk cX9_put 4 nc_c_X9_put = true := by decide +kernel
theorem nc_dk_X9_compares : nc_dchk cX9_compares 3 nc_c_X9_compares = true := by decide +kernel
theorem nc_dk_X10_withLetter : nc_dchk cX10_withLetter 3 nc_c_X10_withLetter = true := by decide +kernel
theorem nc_dk_X10_isLetter : nc_dchk cX10_isLetter 1 nc_c_X10_isLetter = true := by decide +kernel
theorem nc_dk_X10_isDigit : nc_dchk cX10_isDigit 1 nc_c_X10_isDigit = true := by decide +kernel
theorem nc_dk_X10_append : nc_dchk cX10_append 3 nc_c_X10_append = true := by decide +kernel
theorem nc_dk_X10_at : nc_dchk cX10_at 2 nc_c_X10_at = true := by decide +kernel
theorem nc_dk_X10_toldWord : nc_dchk cX10_toldWord 4 nc_c_X10_toldWord = true := by decide +kernel
theorem nc_dk_X10_add : nc_dchk cX10_add 6 nc_c_X10_add = true := by decide +kernel
theorem nc_dk_X10_next : nc_dchk cX10_next 1 nc_c_X10_next = true := by decide +kernel
theorem nc_dk_X10_fail : nc_dchk cX10_fail 2 nc_c_X10_fail = true := by decide +kernel
theorem nc_dk_X10_word : nc_dchk cX10_word 1 nc_c_X10_word = true := by decide +kernel
theorem nc_dk_X10_isSign : nc_dchk cX10_isSign 2 nc_c_X10_isSign = true := by decide +kernel
theorem nc_dk_X11_end : nc_dchk cX11_end 2 nc_c_X11_end = true := by decide +kernel
theorem nc_dk_X11_fault : nc_dchk cX11_fault 1 nc_c_X11_fault = true := by decide +kernel
theorem nc_dk_X11_told : nc_dchk cX11_told 1 nc_c_X11_told = true := by decide +kernel
theorem nc_dk_X11_planAt : nc_dchk cX11_planAt 2 nc_c_X11_planAt = true := by decide +kernel
theorem nc_dk_X11_parted : nc_dchk cX11_parted 1 nc_c_X11_parted = true := by decide +kernel
theorem nc_dk_X11_surely : nc_dchk cX11_surely 1 nc_c_X11_surely = true := by decide +kernel
theorem nc_dk_X11_ask : nc_dchk cX11_ask 1 nc_c_X11_ask = true := by decide +kernel
theorem nc_dk_X11_written : nc_dchk cX11_written 2 nc_c_X11_written = true := by decide +kernel
theorem nc_dk_X11_count : nc_dchk cX11_count 2 nc_c_X11_count = true := by decide +kernel
theorem nc_dk_X11_isFarm : nc_dchk cX11_isFarm 2 nc_c_X11_isFarm = true := by decide +kernel
theorem nc_dk_X11_isCow : nc_dchk cX11_isCow 2 nc_c_X11_isCow = true := by decide +kernel
theorem nc_dk_X11_isNews : nc_dchk cX11_isNews 2 nc_c_X11_isNews = true := by decide +kernel
theorem nc_dk_X11_cowsWith : nc_dchk cX11_cowsWith 5 nc_c_X11_cowsWith = true := by decide +kernel
theorem nc_dk_X12_thrown : nc_dchk cX12_thrown 1 nc_c_X12_thrown = true := by decide +kernel
theorem nc_dk_X12_throwsIf : nc_dchk cX12_throwsIf 2 nc_c_X12_throwsIf = true := by decide +kernel
theorem nc_dk_X12_four : nc_dchk cX12_four 3 nc_c_X12_four = true := by decide +kernel
theorem nc_dk_X12_end : nc_dchk cX12_end 2 nc_c_X12_end = true := by decide +kernel
theorem nc_dk_X12_taken : nc_dchk cX12_taken 2 nc_c_X12_taken = true := by decide +kernel
theorem nc_dk_X12_isIn : nc_dchk cX12_isIn 3 nc_c_X12_isIn = true := by decide +kernel
theorem nc_dk_X12_bitOf : nc_dchk cX12_bitOf 2 nc_c_X12_bitOf = true := by decide +kernel
theorem nc_dk_X12_greater : nc_dchk cX12_greater 2 nc_c_X12_greater = true := by decide +kernel
theorem nc_dk_X12_absolute : nc_dchk cX12_absolute 1 nc_c_X12_absolute = true := by decide +kernel
theorem nc_dk_X12_bits : nc_dchk cX12_bits 3 nc_c_X12_bits = true := by decide +kernel
theorem nc_dk_X12_octet : nc_dchk cX12_octet 2 nc_c_X12_octet = true := by decide +kernel
theorem nc_dk_X12_peek : nc_dchk cX12_peek 1 nc_c_X12_peek = true := by decide +kernel
theorem nc_dk_X12_isSmall : nc_dchk cX12_isSmall 1 nc_c_X12_isSmall = true := by decide +kernel
theorem nc_dk_X12_isDigit : nc_dchk cX12_isDigit 1 nc_c_X12_isDigit = true := by decide +kernel
theorem nc_dk_X12_bad : nc_dchk cX12_bad 2 nc_c_X12_bad = true := by decide +kernel
theorem nc_dk_X12_isWord : nc_dchk cX12_isWord 3 nc_c_X12_isWord = true := by decide +kernel
theorem nc_dk_X12_isSign : nc_dchk cX12_isSign 2 nc_c_X12_isSign = true := by decide +kernel
theorem nc_dk_X12_isName : nc_dchk cX12_isName 3 nc_c_X12_isName = true := by decide +kernel
theorem nc_dk_X12_seek : nc_dchk cX12_seek 4 nc_c_X12_seek = true := by decide +kernel
theorem nc_dk_X12_fault : nc_dchk cX12_fault 1 nc_c_X12_fault = true := by decide +kernel
theorem nc_dk_X12_knows : nc_dchk cX12_knows 4 nc_c_X12_knows = true := by decide +kernel
theorem nc_dk_X12_isCurdled : nc_dchk cX12_isCurdled 2 nc_c_X12_isCurdled = true := by decide +kernel
theorem nc_dk_X12_cowsOf : nc_dchk cX12_cowsOf 4 nc_c_X12_cowsOf = true := by decide +kernel
theorem nc_dk_X12_talks : nc_dchk cX12_talks 2 nc_c_X12_talks = true := by decide +kernel
theorem nc_dk_X12_allPails : nc_dchk cX12_allPails 1 nc_c_X12_allPails = true := by decide +kernel
theorem nc_dk_X12_keep : nc_dchk cX12_keep 2 nc_c_X12_keep = true := by decide +kernel
theorem nc_dk_X12_undo : nc_dchk cX12_undo 2 nc_c_X12_undo = true := by decide +kernel
theorem nc_dk_X12_tries : nc_dchk cX12_tries 2 nc_c_X12_tries = true := by decide +kernel
theorem nc_dk_X12_back : nc_dchk cX12_back 2 nc_c_X12_back = true := by decide +kernel
theorem nc_dk_X12_peace : nc_dchk cX12_peace 3 nc_c_X12_peace = true := by decide +kernel
theorem nc_dk_X12_tellsSet : nc_dchk cX12_tellsSet 2 nc_c_X12_tellsSet = true := by decide +kernel
theorem nc_dk_X12_told : nc_dchk cX12_told 1 nc_c_X12_told = true := by decide +kernel
theorem nc_dk_X12_digit : nc_dchk cX12_digit 6 nc_c_X12_digit = true := by decide +kernel
theorem nc_dk_X12_parted : nc_dchk cX12_parted 1 nc_c_X12_parted = true := by decide +kernel
theorem nc_dk_X12_surely : nc_dchk cX12_surely 1 nc_c_X12_surely = true := by decide +kernel
theorem nc_dk_X12_ask : nc_dchk cX12_ask 1 nc_c_X12_ask = true := by decide +kernel
theorem nc_dk_X12_draw : nc_dchk cX12_draw 2 nc_c_X12_draw = true := by decide +kernel
theorem nc_dk_X12_code : nc_dchk cX12_code 4 nc_c_X12_code = true := by decide +kernel
theorem nc_dk_J6_bitCount_0f7a4 : nc_dchk cJ6_bitCount_0f7a4 1 nc_c_J6_bitCount_0f7a4 = true := by decide +kernel
theorem nc_dk_J7_fill_d0a16 : nc_dchk cJ7_fill_d0a16 5 nc_c_J7_fill_d0a16 = true := by decide +kernel
theorem nc_dk_J7_fill_53178 : nc_dchk cJ7_fill_53178 4 nc_c_J7_fill_53178 = true := by decide +kernel
theorem nc_dk_X10_mustBeSign : nc_dchk cX10_mustBeSign 2 nc_c_X10_mustBeSign = true := by decide +kernel
theorem nc_dk_X2_named : nc_dchk cX2_named 5 nc_c_X2_named = true := by decide +kernel
theorem nc_dk_X10_nextNumber : nc_dchk cX10_nextNumber 3 nc_c_X10_nextNumber = true := by decide +kernel
theorem nc_dk_X9_readPlainOne : nc_dchk cX9_readPlainOne 6 nc_c_X9_readPlainOne = true := by decide +kernel
theorem nc_dk_X7_sumOf : nc_dchk cX7_sumOf 5 nc_c_X7_sumOf = true := by decide +kernel
theorem nc_dk_X7_whyNotTold : nc_dchk cX7_whyNotTold 3 nc_c_X7_whyNotTold = true := by decide +kernel
theorem nc_dk_X8_weigh : nc_dchk cX8_weigh 2 nc_c_X8_weigh = true := by decide +kernel
theorem nc_dk_X7_milk : nc_dchk cX7_milk 2 nc_c_X7_milk = true := by decide +kernel
theorem nc_dk_X8_goLast : nc_dchk cX8_goLast 11 nc_c_X8_goLast = true := by decide +kernel
theorem nc_dk_X7_copyFrom : nc_dchk cX7_copyFrom 2 nc_c_X7_copyFrom = true := by decide +kernel
theorem nc_dk_X7_hear : nc_dchk cX7_hear 4 nc_c_X7_hear = true := by decide +kernel
theorem nc_dk_X7_allComes : nc_dchk cX7_allComes 4 nc_c_X7_allComes = true := by decide +kernel
theorem nc_dk_X7_talk : nc_dchk cX7_talk 3 nc_c_X7_talk = true := by decide +kernel
theorem nc_dk_X7_turn : nc_dchk cX7_turn 2 nc_c_X7_turn = true := by decide +kernel
theorem nc_dk_X9_readOne : nc_dchk cX9_readOne 6 nc_c_X9_readOne = true := by decide +kernel
theorem nc_dk_X9_readAll : nc_dchk cX9_readAll 5 nc_c_X9_readAll = true := by decide +kernel
theorem nc_dk_X9_readCond : nc_dchk cX9_readCond 5 nc_c_X9_readCond = true := by decide +kernel
theorem nc_dk_X8_go : nc_dchk cX8_go 9 nc_c_X8_go = true := by decide +kernel
theorem nc_dk_X10_addRun : nc_dchk cX10_addRun 8 nc_c_X10_addRun = true := by decide +kernel
theorem nc_dk_X10_start : nc_dchk cX10_start 6 nc_c_X10_start = true := by decide +kernel
theorem nc_dk_X10_nextLine : nc_dchk cX10_nextLine 1 nc_c_X10_nextLine = true := by decide +kernel
theorem nc_dk_X0_readArg : nc_dchk cX0_readArg 3 nc_c_X0_readArg = true := by decide +kernel
theorem nc_dk_X10_closesLine : nc_dchk cX10_closesLine 1 nc_c_X10_closesLine = true := by decide +kernel
theorem nc_dk_X0_readLine : nc_dchk cX0_readLine 7 nc_c_X0_readLine = true := by decide +kernel
theorem nc_dk_X10_mustEnd : nc_dchk cX10_mustEnd 1 nc_c_X10_mustEnd = true := by decide +kernel
theorem nc_dk_X0_read : nc_dchk cX0_read 4 nc_c_X0_read = true := by decide +kernel
theorem nc_dk_X7_fillPails : nc_dchk cX7_fillPails 5 nc_c_X7_fillPails = true := by decide +kernel
theorem nc_dk_X7_goDays : nc_dchk cX7_goDays 4 nc_c_X7_goDays = true := by decide +kernel
theorem nc_dk_X7_whyNotFound : nc_dchk cX7_whyNotFound 2 nc_c_X7_whyNotFound = true := by decide +kernel
theorem nc_dk_X7_wouldDoubt : nc_dchk cX7_wouldDoubt 3 nc_c_X7_wouldDoubt = true := by decide +kernel
theorem nc_dk_X7_wouldDry : nc_dchk cX7_wouldDry 4 nc_c_X7_wouldDry = true := by decide +kernel
theorem nc_dk_X7_findOut : nc_dchk cX7_findOut 4 nc_c_X7_findOut = true := by decide +kernel
theorem nc_dk_X0_live : nc_dchk cX0_live 4 nc_c_X0_live = true := by decide +kernel
theorem nc_dk_X0_judge : nc_dchk cX0_judge 3 nc_c_X0_judge = true := by decide +kernel
theorem nc_dk_X1_lookAt : nc_dchk cX1_lookAt 6 nc_c_X1_lookAt = true := by decide +kernel
theorem nc_dk_X1_milkBy : nc_dchk cX1_milkBy 2 nc_c_X1_milkBy = true := by decide +kernel
theorem nc_dk_X1_bestOf : nc_dchk cX1_bestOf 8 nc_c_X1_bestOf = true := by decide +kernel
theorem nc_dk_X1_most : nc_dchk cX1_most 2 nc_c_X1_most = true := by decide +kernel
theorem nc_dk_X1_mostWithoutLies : nc_dchk cX1_mostWithoutLies 2 nc_c_X1_mostWithoutLies = true := by decide +kernel
theorem nc_dk_X1_isLess : nc_dchk cX1_isLess 4 nc_c_X1_isLess = true := by decide +kernel
theorem nc_dk_X1_fewestLies : nc_dchk cX1_fewestLies 8 nc_c_X1_fewestLies = true := by decide +kernel
theorem nc_dk_X1_mostEven : nc_dchk cX1_mostEven 6 nc_c_X1_mostEven = true := by decide +kernel
theorem nc_dk_X1_setsThatGive : nc_dchk cX1_setsThatGive 8 nc_c_X1_setsThatGive = true := by decide +kernel
theorem nc_dk_X2_clear : nc_dchk cX2_clear 1 nc_c_X2_clear = true := by decide +kernel
theorem nc_dk_X2_copyFrom : nc_dchk cX2_copyFrom 2 nc_c_X2_copyFrom = true := by decide +kernel
theorem nc_dk_X2_nextNewName : nc_dchk cX2_nextNewName 3 nc_c_X2_nextNewName = true := by decide +kernel
theorem nc_dk_X2_hasHedge : nc_dchk cX2_hasHedge 3 nc_c_X2_hasHedge = true := by decide +kernel
theorem nc_dk_X2_fewestBetween : nc_dchk cX2_fewestBetween 5 nc_c_X2_fewestBetween = true := by decide +kernel
theorem nc_dk_X3_readFarm : nc_dchk cX3_readFarm 2 nc_c_X3_readFarm = true := by decide +kernel
theorem nc_dk_X3_readCow : nc_dchk cX3_readCow 3 nc_c_X3_readCow = true := by decide +kernel
theorem nc_dk_X3_readNews : nc_dchk cX3_readNews 3 nc_c_X3_readNews = true := by decide +kernel
theorem nc_dk_X3_readHedge : nc_dchk cX3_readHedge 4 nc_c_X3_readHedge = true := by decide +kernel
theorem nc_dk_X3_readHears : nc_dchk cX3_readHears 1 nc_c_X3_readHears = true := by decide +kernel
theorem nc_dk_X3_readLine : nc_dchk cX3_readLine 1 nc_c_X3_readLine = true := by decide +kernel
theorem nc_dk_X3_read : nc_dchk cX3_read 2 nc_c_X3_read = true := by decide +kernel
theorem nc_dk_X4_tellAndFind : nc_dchk cX4_tellAndFind 5 nc_c_X4_tellAndFind = true := by decide +kernel
theorem nc_dk_X5_keep : nc_dchk cX5_keep 3 nc_c_X5_keep = true := by decide +kernel
theorem nc_dk_X5_takeBack : nc_dchk cX5_takeBack 3 nc_c_X5_takeBack = true := by decide +kernel
theorem nc_dk_X7_clear : nc_dchk cX7_clear 1 nc_c_X7_clear = true := by decide +kernel
theorem nc_dk_X8_seek : nc_dchk cX8_seek 4 nc_c_X8_seek = true := by decide +kernel
theorem nc_dk_X9_copyFrom : nc_dchk cX9_copyFrom 2 nc_c_X9_copyFrom = true := by decide +kernel
theorem nc_dk_X9_read : nc_dchk cX9_read 3 nc_c_X9_read = true := by decide +kernel
theorem nc_dk_X9_isSo : nc_dchk cX9_isSo 4 nc_c_X9_isSo = true := by decide +kernel
theorem nc_dk_X9_holds : nc_dchk cX9_holds 6 nc_c_X9_holds = true := by decide +kernel
theorem nc_dk_X11_feed : nc_dchk cX11_feed 6 nc_c_X11_feed = true := by decide +kernel
theorem nc_dk_X11_dairy : nc_dchk cX11_dairy 2 nc_c_X11_dairy = true := by decide +kernel
theorem nc_dk_X11_cow : nc_dchk cX11_cow 3 nc_c_X11_cow = true := by decide +kernel
theorem nc_dk_X11_news : nc_dchk cX11_news 3 nc_c_X11_news = true := by decide +kernel
theorem nc_dk_X11_milkOfFarm : nc_dchk cX11_milkOfFarm 4 nc_c_X11_milkOfFarm = true := by decide +kernel
theorem nc_dk_X11_farm : nc_dchk cX11_farm 3 nc_c_X11_farm = true := by decide +kernel
theorem nc_dk_X11_now : nc_dchk cX11_now 2 nc_c_X11_now = true := by decide +kernel
theorem nc_dk_X11_why : nc_dchk cX11_why 3 nc_c_X11_why = true := by decide +kernel
theorem nc_dk_X11_tell : nc_dchk cX11_tell 4 nc_c_X11_tell = true := by decide +kernel
theorem nc_dk_X11_find : nc_dchk cX11_find 3 nc_c_X11_find = true := by decide +kernel
theorem nc_dk_X11_days : nc_dchk cX11_days 2 nc_c_X11_days = true := by decide +kernel
theorem nc_dk_X11_undo : nc_dchk cX11_undo 1 nc_c_X11_undo = true := by decide +kernel
theorem nc_dk_X11_canBeTold : nc_dchk cX11_canBeTold 2 nc_c_X11_canBeTold = true := by decide +kernel
theorem nc_dk_X11_best : nc_dchk cX11_best 2 nc_c_X11_best = true := by decide +kernel
theorem nc_dk_X11_least : nc_dchk cX11_least 3 nc_c_X11_least = true := by decide +kernel
theorem nc_dk_X11_honest : nc_dchk cX11_honest 2 nc_c_X11_honest = true := by decide +kernel
theorem nc_dk_X11_plan : nc_dchk cX11_plan 3 nc_c_X11_plan = true := by decide +kernel
theorem nc_dk_X11_allKnow : nc_dchk cX11_allKnow 4 nc_c_X11_allKnow = true := by decide +kernel
theorem nc_dk_X11_part : nc_dchk cX11_part 3 nc_c_X11_part = true := by decide +kernel
theorem nc_dk_X11_tasted : nc_dchk cX11_tasted 3 nc_c_X11_tasted = true := by decide +kernel
theorem nc_dk_X11_dries : nc_dchk cX11_dries 2 nc_c_X11_dries = true := by decide +kernel
theorem nc_dk_X11_fits : nc_dchk cX11_fits 5 nc_c_X11_fits = true := by decide +kernel
theorem nc_dk_X11_week : nc_dchk cX11_week 4 nc_c_X11_week = true := by decide +kernel
theorem nc_dk_X11_pails : nc_dchk cX11_pails 3 nc_c_X11_pails = true := by decide +kernel
theorem nc_dk_X11_ahead : nc_dchk cX11_ahead 2 nc_c_X11_ahead = true := by decide +kernel
theorem nc_dk_X11_drawn : nc_dchk cX11_drawn 5 nc_c_X11_drawn = true := by decide +kernel
theorem nc_dk_X11_driesByDraws : nc_dchk cX11_driesByDraws 3 nc_c_X11_driesByDraws = true := by decide +kernel
theorem nc_dk_X11_odds : nc_dchk cX11_odds 6 nc_c_X11_odds = true := by decide +kernel
theorem nc_dk_X11_book : nc_dchk cX11_book 4 nc_c_X11_book = true := by decide +kernel
theorem nc_dk_X11_sentence : nc_dchk cX11_sentence 2 nc_c_X11_sentence = true := by decide +kernel
theorem nc_dk_X11_said : nc_dchk cX11_said 4 nc_c_X11_said = true := by decide +kernel
theorem nc_dk_X11_image : nc_dchk cX11_image 3 nc_c_X11_image = true := by decide +kernel
theorem nc_dk_X11_restore : nc_dchk cX11_restore 3 nc_c_X11_restore = true := by decide +kernel
theorem nc_dk_X12_feed : nc_dchk cX12_feed 6 nc_c_X12_feed = true := by decide +kernel
theorem nc_dk_X12_next : nc_dchk cX12_next 4 nc_c_X12_next = true := by decide +kernel
theorem nc_dk_X12_sign : nc_dchk cX12_sign 2 nc_c_X12_sign = true := by decide +kernel
theorem nc_dk_X12_takes : nc_dchk cX12_takes 3 nc_c_X12_takes = true := by decide +kernel
theorem nc_dk_X12_puts : nc_dchk cX12_puts 4 nc_c_X12_puts = true := by decide +kernel
theorem nc_dk_X12_fresh : nc_dchk cX12_fresh 2 nc_c_X12_fresh = true := by decide +kernel
theorem nc_dk_X12_looksAt : nc_dchk cX12_looksAt 3 nc_c_X12_looksAt = true := by decide +kernel
theorem nc_dk_X12_takesName : nc_dchk cX12_takesName 3 nc_c_X12_takesName = true := by decide +kernel
theorem nc_dk_X12_kindOf : nc_dchk cX12_kindOf 1 nc_c_X12_kindOf = true := by decide +kernel
theorem nc_dk_X12_readNews : nc_dchk cX12_readNews 2 nc_c_X12_readNews = true := by decide +kernel
theorem nc_dk_X12_readHedge : nc_dchk cX12_readHedge 5 nc_c_X12_readHedge = true := by decide +kernel
theorem nc_dk_X12_line : nc_dchk cX12_line 2 nc_c_X12_line = true := by decide +kernel
theorem nc_dk_X12_dairy : nc_dchk cX12_dairy 2 nc_c_X12_dairy = true := by decide +kernel
theorem nc_dk_X12_isFarm : nc_dchk cX12_isFarm 2 nc_c_X12_isFarm = true := by decide +kernel
theorem nc_dk_X12_isCow : nc_dchk cX12_isCow 2 nc_c_X12_isCow = true := by decide +kernel
theorem nc_dk_X12_isNews : nc_dchk cX12_isNews 2 nc_c_X12_isNews = true := by decide +kernel
theorem nc_dk_X12_isDry : nc_dchk cX12_isDry 2 nc_c_X12_isDry = true := by decide +kernel
theorem nc_dk_X12_isLie : nc_dchk cX12_isLie 2 nc_c_X12_isLie = true := by decide +kernel
theorem nc_dk_X12_known : nc_dchk cX12_known 4 nc_c_X12_known = true := by decide +kernel
theorem nc_dk_X12_hasOther : nc_dchk cX12_hasOther 5 nc_c_X12_hasOther = true := by decide +kernel
theorem nc_dk_X12_milkBy : nc_dchk cX12_milkBy 8 nc_c_X12_milkBy = true := by decide +kernel
theorem nc_dk_X12_milkWith : nc_dchk cX12_milkWith 4 nc_c_X12_milkWith = true := by decide +kernel
theorem nc_dk_X12_milk : nc_dchk cX12_milk 2 nc_c_X12_milk = true := by decide +kernel
theorem nc_dk_X12_cow : nc_dchk cX12_cow 3 nc_c_X12_cow = true := by decide +kernel
theorem nc_dk_X12_news : nc_dchk cX12_news 6 nc_c_X12_news = true := by decide +kernel
theorem nc_dk_X12_milkOf : nc_dchk cX12_milkOf 4 nc_c_X12_milkOf = true := by decide +kernel
theorem nc_dk_X12_farm : nc_dchk cX12_farm 5 nc_c_X12_farm = true := by decide +kernel
theorem nc_dk_X12_now : nc_dchk cX12_now 4 nc_c_X12_now = true := by decide +kernel
theorem nc_dk_X12_whyTell : nc_dchk cX12_whyTell 3 nc_c_X12_whyTell = true := by decide +kernel
theorem nc_dk_X12_tells : nc_dchk cX12_tells 3 nc_c_X12_tells = true := by decide +kernel
theorem nc_dk_X12_whyFind : nc_dchk cX12_whyFind 2 nc_c_X12_whyFind = true := by decide +kernel
theorem nc_dk_X12_driedBy : nc_dchk cX12_driedBy 4 nc_c_X12_driedBy = true := by decide +kernel
theorem nc_dk_X12_finds : nc_dchk cX12_finds 4 nc_c_X12_finds = true := by decide +kernel
theorem nc_dk_X12_comesTo : nc_dchk cX12_comesTo 6 nc_c_X12_comesTo = true := by decide +kernel
theorem nc_dk_X12_day : nc_dchk cX12_day 2 nc_c_X12_day = true := by decide +kernel
theorem nc_dk_X12_goesOn : nc_dchk cX12_goesOn 3 nc_c_X12_goesOn = true := by decide +kernel
theorem nc_dk_X12_tell : nc_dchk cX12_tell 4 nc_c_X12_tell = true := by decide +kernel
theorem nc_dk_X12_find : nc_dchk cX12_find 3 nc_c_X12_find = true := by decide +kernel
theorem nc_dk_X12_days : nc_dchk cX12_days 2 nc_c_X12_days = true := by decide +kernel
theorem nc_dk_X12_why : nc_dchk cX12_why 3 nc_c_X12_why = true := by decide +kernel
theorem nc_dk_X12_mayHear : nc_dchk cX12_mayHear 3 nc_c_X12_mayHear = true := by decide +kernel
theorem nc_dk_X12_bestOf : nc_dchk cX12_bestOf 7 nc_c_X12_bestOf = true := by decide +kernel
theorem nc_dk_X12_best : nc_dchk cX12_best 3 nc_c_X12_best = true := by decide +kernel
theorem nc_dk_X12_least : nc_dchk cX12_least 7 nc_c_X12_least = true := by decide +kernel
theorem nc_dk_X12_honest : nc_dchk cX12_honest 2 nc_c_X12_honest = true := by decide +kernel
theorem nc_dk_X12_planned : nc_dchk cX12_planned 8 nc_c_X12_planned = true := by decide +kernel
theorem nc_dk_X12_plan : nc_dchk cX12_plan 8 nc_c_X12_plan = true := by decide +kernel
theorem nc_dk_X12_planAt : nc_dchk cX12_planAt 2 nc_c_X12_planAt = true := by decide +kernel
theorem nc_dk_X12_allKnow : nc_dchk cX12_allKnow 6 nc_c_X12_allKnow = true := by decide +kernel
theorem nc_dk_X12_comes : nc_dchk cX12_comes 7 nc_c_X12_comes = true := by decide +kernel
theorem nc_dk_X12_part : nc_dchk cX12_part 6 nc_c_X12_part = true := by decide +kernel
theorem nc_dk_X12_tasted : nc_dchk cX12_tasted 6 nc_c_X12_tasted = true := by decide +kernel
theorem nc_dk_X12_dries : nc_dchk cX12_dries 2 nc_c_X12_dries = true := by decide +kernel
theorem nc_dk_X12_isPast : nc_dchk cX12_isPast 2 nc_c_X12_isPast = true := by decide +kernel
theorem nc_dk_X12_week : nc_dchk cX12_week 5 nc_c_X12_week = true := by decide +kernel
theorem nc_dk_X12_pails : nc_dchk cX12_pails 3 nc_c_X12_pails = true := by decide +kernel
theorem nc_dk_X12_ahead : nc_dchk cX12_ahead 4 nc_c_X12_ahead = true := by decide +kernel
theorem nc_dk_X12_draws : nc_dchk cX12_draws 6 nc_c_X12_draws = true := by decide +kernel
theorem nc_dk_X12_drawn : nc_dchk cX12_drawn 3 nc_c_X12_drawn = true := by decide +kernel
theorem nc_dk_X12_odds : nc_dchk cX12_odds 6 nc_c_X12_odds = true := by decide +kernel
theorem nc_dk_X12_bookLine : nc_dchk cX12_bookLine 4 nc_c_X12_bookLine = true := by decide +kernel
theorem nc_dk_X12_does : nc_dchk cX12_does 5 nc_c_X12_does = true := by decide +kernel
theorem nc_dk_X12_book : nc_dchk cX12_book 4 nc_c_X12_book = true := by decide +kernel
theorem nc_dk_X12_written : nc_dchk cX12_written 2 nc_c_X12_written = true := by decide +kernel
theorem nc_dk_X12_joins : nc_dchk cX12_joins 2 nc_c_X12_joins = true := by decide +kernel
theorem nc_dk_X12_nots : nc_dchk cX12_nots 1 nc_c_X12_nots = true := by decide +kernel
theorem nc_dk_X12_leafOf : nc_dchk cX12_leafOf 1 nc_c_X12_leafOf = true := by decide +kernel
theorem nc_dk_X12_operand : nc_dchk cX12_operand 5 nc_c_X12_operand = true := by decide +kernel
theorem nc_dk_X12_behind : nc_dchk cX12_behind 1 nc_c_X12_behind = true := by decide +kernel
theorem nc_dk_X12_sentence : nc_dchk cX12_sentence 3 nc_c_X12_sentence = true := by decide +kernel
theorem nc_dk_X12_isLeaf : nc_dchk cX12_isLeaf 6 nc_c_X12_isLeaf = true := by decide +kernel
theorem nc_dk_X12_isSaid : nc_dchk cX12_isSaid 5 nc_c_X12_isSaid = true := by decide +kernel
theorem nc_dk_X12_said : nc_dchk cX12_said 4 nc_c_X12_said = true := by decide +kernel
theorem nc_dk_X12_image : nc_dchk cX12_image 3 nc_c_X12_image = true := by decide +kernel
theorem nc_dk_X12_restore : nc_dchk cX12_restore 3 nc_c_X12_restore = true := by decide +kernel
theorem nc_dk_X12_count : nc_dchk cX12_count 2 nc_c_X12_count = true := by decide +kernel
def nc_dall (M : Nat) : Prop := nc_dchk (nc_b M) (nc_mL M) (nc_code M) = true
theorem nc_da_0 : ∀ M, M < 32 → 0 ≤ M → nc_dall M := by
  intro M h1 h2
  by_cases e0 : M = 0
  · subst e0
    exact nc_dk_X1_setAfter
  by_cases e1 : M = 1
  · subst e1
    exact nc_dk_X1_countNews
  by_cases e2 : M = 2
  · subst e2
    exact nc_dk_X2_isLie
  by_cases e3 : M = 3
  · subst e3
    exact nc_dk_X2_allCows
  by_cases e4 : M = 4
  · subst e4
    exact nc_dk_X2_allNews
  by_cases e5 : M = 5
  · subst e5
    exact nc_dk_X2_slotOf
  by_cases e6 : M = 6
  · subst e6
    exact nc_dk_X2_hedgesOf
  by_cases e7 : M = 7
  · subst e7
    exact nc_dk_X2_comesTo
  by_cases e8 : M = 8
  · subst e8
    exact nc_dk_X4_draw
  by_cases e9 : M = 9
  · subst e9
    exact nc_dk_X5_clear
  by_cases e10 : M = 10
  · subst e10
    exact nc_dk_X7_isDry
  by_cases e11 : M = 11
  · subst e11
    exact nc_dk_X7_isCurdled
  by_cases e12 : M = 12
  · subst e12
    exact nc_dk_X7_comes
  by_cases e13 : M = 13
  · subst e13
    exact nc_dk_X7_addedBy
  by_cases e14 : M = 14
  · subst e14
    exact nc_dk_X7_heardByOthers
  by_cases e15 : M = 15
  · subst e15
    exact nc_dk_X7_talking
  by_cases e16 : M = 16
  · subst e16
    exact nc_dk_X7_forget
  by_cases e17 : M = 17
  · subst e17
    exact nc_dk_X7_allPails
  by_cases e18 : M = 18
  · subst e18
    exact nc_dk_X7_pailsOn
  by_cases e19 : M = 19
  · subst e19
    exact nc_dk_X9_clear
  by_cases e20 : M = 20
  · subst e20
    exact nc_dk_X9_put
  by_cases e21 : M = 21
  · subst e21
    exact nc_dk_X9_compares
  by_cases e22 : M = 22
  · subst e22
    exact nc_dk_X10_withLetter
  by_cases e23 : M = 23
  · subst e23
    exact nc_dk_X10_isLetter
  by_cases e24 : M = 24
  · subst e24
    exact nc_dk_X10_isDigit
  by_cases e25 : M = 25
  · subst e25
    exact nc_dk_X10_append
  by_cases e26 : M = 26
  · subst e26
    exact nc_dk_X10_at
  by_cases e27 : M = 27
  · subst e27
    exact nc_dk_X10_toldWord
  by_cases e28 : M = 28
  · subst e28
    exact nc_dk_X10_add
  by_cases e29 : M = 29
  · subst e29
    exact nc_dk_X10_next
  by_cases e30 : M = 30
  · subst e30
    exact nc_dk_X10_fail
  by_cases e31 : M = 31
  · subst e31
    exact nc_dk_X10_word
  omega
theorem nc_da_1 : ∀ M, M < 64 → 32 ≤ M → nc_dall M := by
  intro M h1 h2
  by_cases e32 : M = 32
  · subst e32
    exact nc_dk_X10_isSign
  by_cases e33 : M = 33
  · subst e33
    exact nc_dk_X11_end
  by_cases e34 : M = 34
  · subst e34
    exact nc_dk_X11_fault
  by_cases e35 : M = 35
  · subst e35
    exact nc_dk_X11_told
  by_cases e36 : M = 36
  · subst e36
    exact nc_dk_X11_planAt
  by_cases e37 : M = 37
  · subst e37
    exact nc_dk_X11_parted
  by_cases e38 : M = 38
  · subst e38
    exact nc_dk_X11_surely
  by_cases e39 : M = 39
  · subst e39
    exact nc_dk_X11_ask
  by_cases e40 : M = 40
  · subst e40
    exact nc_dk_X11_written
  by_cases e41 : M = 41
  · subst e41
    exact nc_dk_X11_count
  by_cases e42 : M = 42
  · subst e42
    exact nc_dk_X11_isFarm
  by_cases e43 : M = 43
  · subst e43
    exact nc_dk_X11_isCow
  by_cases e44 : M = 44
  · subst e44
    exact nc_dk_X11_isNews
  by_cases e45 : M = 45
  · subst e45
    exact nc_dk_X11_cowsWith
  by_cases e46 : M = 46
  · subst e46
    exact nc_dk_X12_thrown
  by_cases e47 : M = 47
  · subst e47
    exact nc_dk_X12_throwsIf
  by_cases e48 : M = 48
  · subst e48
    exact nc_dk_X12_four
  by_cases e49 : M = 49
  · subst e49
    exact nc_dk_X12_end
  by_cases e50 : M = 50
  · subst e50
    exact nc_dk_X12_taken
  by_cases e51 : M = 51
  · subst e51
    exact nc_dk_X12_isIn
  by_cases e52 : M = 52
  · subst e52
    exact nc_dk_X12_bitOf
  by_cases e53 : M = 53
  · subst e53
    exact nc_dk_X12_greater
  by_cases e54 : M = 54
  · subst e54
    exact nc_dk_X12_absolute
  by_cases e55 : M = 55
  · subst e55
    exact nc_dk_X12_bits
  by_cases e56 : M = 56
  · subst e56
    exact nc_dk_X12_octet
  by_cases e57 : M = 57
  · subst e57
    exact nc_dk_X12_peek
  by_cases e58 : M = 58
  · subst e58
    exact nc_dk_X12_isSmall
  by_cases e59 : M = 59
  · subst e59
    exact nc_dk_X12_isDigit
  by_cases e60 : M = 60
  · subst e60
    exact nc_dk_X12_bad
  by_cases e61 : M = 61
  · subst e61
    exact nc_dk_X12_isWord
  by_cases e62 : M = 62
  · subst e62
    exact nc_dk_X12_isSign
  by_cases e63 : M = 63
  · subst e63
    exact nc_dk_X12_isName
  omega
theorem nc_da_2 : ∀ M, M < 96 → 64 ≤ M → nc_dall M := by
  intro M h1 h2
  by_cases e64 : M = 64
  · subst e64
    exact nc_dk_X12_seek
  by_cases e65 : M = 65
  · subst e65
    exact nc_dk_X12_fault
  by_cases e66 : M = 66
  · subst e66
    exact nc_dk_X12_knows
  by_cases e67 : M = 67
  · subst e67
    exact nc_dk_X12_isCurdled
  by_cases e68 : M = 68
  · subst e68
    exact nc_dk_X12_cowsOf
  by_cases e69 : M = 69
  · subst e69
    exact nc_dk_X12_talks
  by_cases e70 : M = 70
  · subst e70
    exact nc_dk_X12_allPails
  by_cases e71 : M = 71
  · subst e71
    exact nc_dk_X12_keep
  by_cases e72 : M = 72
  · subst e72
    exact nc_dk_X12_undo
  by_cases e73 : M = 73
  · subst e73
    exact nc_dk_X12_tries
  by_cases e74 : M = 74
  · subst e74
    exact nc_dk_X12_back
  by_cases e75 : M = 75
  · subst e75
    exact nc_dk_X12_peace
  by_cases e76 : M = 76
  · subst e76
    exact nc_dk_X12_tellsSet
  by_cases e77 : M = 77
  · subst e77
    exact nc_dk_X12_told
  by_cases e78 : M = 78
  · subst e78
    exact nc_dk_X12_digit
  by_cases e79 : M = 79
  · subst e79
    exact nc_dk_X12_parted
  by_cases e80 : M = 80
  · subst e80
    exact nc_dk_X12_surely
  by_cases e81 : M = 81
  · subst e81
    exact nc_dk_X12_ask
  by_cases e82 : M = 82
  · subst e82
    exact nc_dk_X12_draw
  by_cases e83 : M = 83
  · subst e83
    exact nc_dk_X12_code
  by_cases e84 : M = 84
  · subst e84
    exact nc_dk_J6_bitCount_0f7a4
  by_cases e85 : M = 85
  · subst e85
    exact nc_dk_J7_fill_d0a16
  by_cases e86 : M = 86
  · subst e86
    exact nc_dk_J7_fill_53178
  by_cases e87 : M = 87
  · subst e87
    exact nc_dk_X10_mustBeSign
  by_cases e88 : M = 88
  · subst e88
    exact nc_dk_X2_named
  by_cases e89 : M = 89
  · subst e89
    exact nc_dk_X10_nextNumber
  by_cases e90 : M = 90
  · subst e90
    exact nc_dk_X9_readPlainOne
  by_cases e91 : M = 91
  · subst e91
    exact nc_dk_X7_sumOf
  by_cases e92 : M = 92
  · subst e92
    exact nc_dk_X7_whyNotTold
  by_cases e93 : M = 93
  · subst e93
    exact nc_dk_X8_weigh
  by_cases e94 : M = 94
  · subst e94
    exact nc_dk_X7_milk
  by_cases e95 : M = 95
  · subst e95
    exact nc_dk_X8_goLast
  omega
theorem nc_da_3 : ∀ M, M < 128 → 96 ≤ M → nc_dall M := by
  intro M h1 h2
  by_cases e96 : M = 96
  · subst e96
    exact nc_dk_X7_copyFrom
  by_cases e97 : M = 97
  · subst e97
    exact nc_dk_X7_hear
  by_cases e98 : M = 98
  · subst e98
    exact nc_dk_X7_allComes
  by_cases e99 : M = 99
  · subst e99
    exact nc_dk_X7_talk
  by_cases e100 : M = 100
  · subst e100
    exact nc_dk_X7_turn
  by_cases e101 : M = 101
  · subst e101
    exact nc_dk_X9_readOne
  by_cases e102 : M = 102
  · subst e102
    exact nc_dk_X9_readAll
  by_cases e103 : M = 103
  · subst e103
    exact nc_dk_X9_readCond
  by_cases e104 : M = 104
  · subst e104
    exact nc_dk_X9_readOne
  by_cases e105 : M = 105
  · subst e105
    exact nc_dk_X9_readAll
  by_cases e106 : M = 106
  · subst e106
    exact nc_dk_X9_readCond
  by_cases e107 : M = 107
  · subst e107
    exact nc_dk_X9_readOne
  by_cases e108 : M = 108
  · subst e108
    exact nc_dk_X9_readAll
  by_cases e109 : M = 109
  · subst e109
    exact nc_dk_X9_readCond
  by_cases e110 : M = 110
  · subst e110
    exact nc_dk_X9_readOne
  by_cases e111 : M = 111
  · subst e111
    exact nc_dk_X9_readAll
  by_cases e112 : M = 112
  · subst e112
    exact nc_dk_X9_readCond
  by_cases e113 : M = 113
  · subst e113
    exact nc_dk_X9_readOne
  by_cases e114 : M = 114
  · subst e114
    exact nc_dk_X9_readAll
  by_cases e115 : M = 115
  · subst e115
    exact nc_dk_X9_readCond
  by_cases e116 : M = 116
  · subst e116
    exact nc_dk_X9_readOne
  by_cases e117 : M = 117
  · subst e117
    exact nc_dk_X9_readAll
  by_cases e118 : M = 118
  · subst e118
    exact nc_dk_X9_readCond
  by_cases e119 : M = 119
  · subst e119
    exact nc_dk_X9_readOne
  by_cases e120 : M = 120
  · subst e120
    exact nc_dk_X9_readAll
  by_cases e121 : M = 121
  · subst e121
    exact nc_dk_X9_readCond
  by_cases e122 : M = 122
  · subst e122
    exact nc_dk_X9_readOne
  by_cases e123 : M = 123
  · subst e123
    exact nc_dk_X9_readAll
  by_cases e124 : M = 124
  · subst e124
    exact nc_dk_X9_readCond
  by_cases e125 : M = 125
  · subst e125
    exact nc_dk_X9_readOne
  by_cases e126 : M = 126
  · subst e126
    exact nc_dk_X9_readAll
  by_cases e127 : M = 127
  · subst e127
    exact nc_dk_X9_readCond
  omega
theorem nc_da_4 : ∀ M, M < 160 → 128 ≤ M → nc_dall M := by
  intro M h1 h2
  by_cases e128 : M = 128
  · subst e128
    exact nc_dk_X8_go
  by_cases e129 : M = 129
  · subst e129
    exact nc_dk_X8_go
  by_cases e130 : M = 130
  · subst e130
    exact nc_dk_X8_go
  by_cases e131 : M = 131
  · subst e131
    exact nc_dk_X10_addRun
  by_cases e132 : M = 132
  · subst e132
    exact nc_dk_X10_start
  by_cases e133 : M = 133
  · subst e133
    exact nc_dk_X10_nextLine
  by_cases e134 : M = 134
  · subst e134
    exact nc_dk_X0_readArg
  by_cases e135 : M = 135
  · subst e135
    exact nc_dk_X10_closesLine
  by_cases e136 : M = 136
  · subst e136
    exact nc_dk_X0_readLine
  by_cases e137 : M = 137
  · subst e137
    exact nc_dk_X10_mustEnd
  by_cases e138 : M = 138
  · subst e138
    exact nc_dk_X0_read
  by_cases e139 : M = 139
  · subst e139
    exact nc_dk_X7_fillPails
  by_cases e140 : M = 140
  · subst e140
    exact nc_dk_X7_goDays
  by_cases e141 : M = 141
  · subst e141
    exact nc_dk_X7_whyNotFound
  by_cases e142 : M = 142
  · subst e142
    exact nc_dk_X7_wouldDoubt
  by_cases e143 : M = 143
  · subst e143
    exact nc_dk_X7_wouldDry
  by_cases e144 : M = 144
  · subst e144
    exact nc_dk_X7_findOut
  by_cases e145 : M = 145
  · subst e145
    exact nc_dk_X0_live
  by_cases e146 : M = 146
  · subst e146
    exact nc_dk_X0_judge
  by_cases e147 : M = 147
  · subst e147
    exact nc_dk_X1_lookAt
  by_cases e148 : M = 148
  · subst e148
    exact nc_dk_X1_milkBy
  by_cases e149 : M = 149
  · subst e149
    exact nc_dk_X1_bestOf
  by_cases e150 : M = 150
  · subst e150
    exact nc_dk_X1_most
  by_cases e151 : M = 151
  · subst e151
    exact nc_dk_X1_mostWithoutLies
  by_cases e152 : M = 152
  · subst e152
    exact nc_dk_X1_isLess
  by_cases e153 : M = 153
  · subst e153
    exact nc_dk_X1_fewestLies
  by_cases e154 : M = 154
  · subst e154
    exact nc_dk_X1_mostEven
  by_cases e155 : M = 155
  · subst e155
    exact nc_dk_X1_setsThatGive
  by_cases e156 : M = 156
  · subst e156
    exact nc_dk_X2_clear
  by_cases e157 : M = 157
  · subst e157
    exact nc_dk_X2_copyFrom
  by_cases e158 : M = 158
  · subst e158
    exact nc_dk_X2_nextNewName
  by_cases e159 : M = 159
  · subst e159
    exact nc_dk_X2_hasHedge
  omega
theorem nc_da_5 : ∀ M, M < 192 → 160 ≤ M → nc_dall M := by
  intro M h1 h2
  by_cases e160 : M = 160
  · subst e160
    exact nc_dk_X2_fewestBetween
  by_cases e161 : M = 161
  · subst e161
    exact nc_dk_X3_readFarm
  by_cases e162 : M = 162
  · subst e162
    exact nc_dk_X3_readCow
  by_cases e163 : M = 163
  · subst e163
    exact nc_dk_X3_readNews
  by_cases e164 : M = 164
  · subst e164
    exact nc_dk_X3_readHedge
  by_cases e165 : M = 165
  · subst e165
    exact nc_dk_X3_readHears
  by_cases e166 : M = 166
  · subst e166
    exact nc_dk_X3_readLine
  by_cases e167 : M = 167
  · subst e167
    exact nc_dk_X3_read
  by_cases e168 : M = 168
  · subst e168
    exact nc_dk_X4_tellAndFind
  by_cases e169 : M = 169
  · subst e169
    exact nc_dk_X5_keep
  by_cases e170 : M = 170
  · subst e170
    exact nc_dk_X5_takeBack
  by_cases e171 : M = 171
  · subst e171
    exact nc_dk_X7_clear
  by_cases e172 : M = 172
  · subst e172
    exact nc_dk_X8_seek
  by_cases e173 : M = 173
  · subst e173
    exact nc_dk_X9_copyFrom
  by_cases e174 : M = 174
  · subst e174
    exact nc_dk_X9_read
  by_cases e175 : M = 175
  · subst e175
    exact nc_dk_X9_isSo
  by_cases e176 : M = 176
  · subst e176
    exact nc_dk_X9_holds
  by_cases e177 : M = 177
  · subst e177
    exact nc_dk_X11_feed
  by_cases e178 : M = 178
  · subst e178
    exact nc_dk_X11_dairy
  by_cases e179 : M = 179
  · subst e179
    exact nc_dk_X11_cow
  by_cases e180 : M = 180
  · subst e180
    exact nc_dk_X11_news
  by_cases e181 : M = 181
  · subst e181
    exact nc_dk_X11_milkOfFarm
  by_cases e182 : M = 182
  · subst e182
    exact nc_dk_X11_farm
  by_cases e183 : M = 183
  · subst e183
    exact nc_dk_X11_now
  by_cases e184 : M = 184
  · subst e184
    exact nc_dk_X11_why
  by_cases e185 : M = 185
  · subst e185
    exact nc_dk_X11_tell
  by_cases e186 : M = 186
  · subst e186
    exact nc_dk_X11_find
  by_cases e187 : M = 187
  · subst e187
    exact nc_dk_X11_days
  by_cases e188 : M = 188
  · subst e188
    exact nc_dk_X11_undo
  by_cases e189 : M = 189
  · subst e189
    exact nc_dk_X11_canBeTold
  by_cases e190 : M = 190
  · subst e190
    exact nc_dk_X11_best
  by_cases e191 : M = 191
  · subst e191
    exact nc_dk_X11_least
  omega
theorem nc_da_6 : ∀ M, M < 224 → 192 ≤ M → nc_dall M := by
  intro M h1 h2
  by_cases e192 : M = 192
  · subst e192
    exact nc_dk_X11_honest
  by_cases e193 : M = 193
  · subst e193
    exact nc_dk_X11_plan
  by_cases e194 : M = 194
  · subst e194
    exact nc_dk_X11_allKnow
  by_cases e195 : M = 195
  · subst e195
    exact nc_dk_X11_part
  by_cases e196 : M = 196
  · subst e196
    exact nc_dk_X11_tasted
  by_cases e197 : M = 197
  · subst e197
    exact nc_dk_X11_dries
  by_cases e198 : M = 198
  · subst e198
    exact nc_dk_X11_fits
  by_cases e199 : M = 199
  · subst e199
    exact nc_dk_X11_week
  by_cases e200 : M = 200
  · subst e200
    exact nc_dk_X11_pails
  by_cases e201 : M = 201
  · subst e201
    exact nc_dk_X11_ahead
  by_cases e202 : M = 202
  · subst e202
    exact nc_dk_X11_drawn
  by_cases e203 : M = 203
  · subst e203
    exact nc_dk_X11_driesByDraws
  by_cases e204 : M = 204
  · subst e204
    exact nc_dk_X11_odds
  by_cases e205 : M = 205
  · subst e205
    exact nc_dk_X11_book
  by_cases e206 : M = 206
  · subst e206
    exact nc_dk_X11_sentence
  by_cases e207 : M = 207
  · subst e207
    exact nc_dk_X11_said
  by_cases e208 : M = 208
  · subst e208
    exact nc_dk_X11_image
  by_cases e209 : M = 209
  · subst e209
    exact nc_dk_X11_restore
  by_cases e210 : M = 210
  · subst e210
    exact nc_dk_X12_feed
  by_cases e211 : M = 211
  · subst e211
    exact nc_dk_X12_next
  by_cases e212 : M = 212
  · subst e212
    exact nc_dk_X12_sign
  by_cases e213 : M = 213
  · subst e213
    exact nc_dk_X12_takes
  by_cases e214 : M = 214
  · subst e214
    exact nc_dk_X12_puts
  by_cases e215 : M = 215
  · subst e215
    exact nc_dk_X12_fresh
  by_cases e216 : M = 216
  · subst e216
    exact nc_dk_X12_looksAt
  by_cases e217 : M = 217
  · subst e217
    exact nc_dk_X12_takesName
  by_cases e218 : M = 218
  · subst e218
    exact nc_dk_X12_kindOf
  by_cases e219 : M = 219
  · subst e219
    exact nc_dk_X12_readNews
  by_cases e220 : M = 220
  · subst e220
    exact nc_dk_X12_readHedge
  by_cases e221 : M = 221
  · subst e221
    exact nc_dk_X12_line
  by_cases e222 : M = 222
  · subst e222
    exact nc_dk_X12_dairy
  by_cases e223 : M = 223
  · subst e223
    exact nc_dk_X12_isFarm
  omega
theorem nc_da_7 : ∀ M, M < 256 → 224 ≤ M → nc_dall M := by
  intro M h1 h2
  by_cases e224 : M = 224
  · subst e224
    exact nc_dk_X12_isCow
  by_cases e225 : M = 225
  · subst e225
    exact nc_dk_X12_isNews
  by_cases e226 : M = 226
  · subst e226
    exact nc_dk_X12_isDry
  by_cases e227 : M = 227
  · subst e227
    exact nc_dk_X12_isLie
  by_cases e228 : M = 228
  · subst e228
    exact nc_dk_X12_known
  by_cases e229 : M = 229
  · subst e229
    exact nc_dk_X12_hasOther
  by_cases e230 : M = 230
  · subst e230
    exact nc_dk_X12_milkBy
  by_cases e231 : M = 231
  · subst e231
    exact nc_dk_X12_milkWith
  by_cases e232 : M = 232
  · subst e232
    exact nc_dk_X12_milk
  by_cases e233 : M = 233
  · subst e233
    exact nc_dk_X12_cow
  by_cases e234 : M = 234
  · subst e234
    exact nc_dk_X12_news
  by_cases e235 : M = 235
  · subst e235
    exact nc_dk_X12_milkOf
  by_cases e236 : M = 236
  · subst e236
    exact nc_dk_X12_farm
  by_cases e237 : M = 237
  · subst e237
    exact nc_dk_X12_now
  by_cases e238 : M = 238
  · subst e238
    exact nc_dk_X12_whyTell
  by_cases e239 : M = 239
  · subst e239
    exact nc_dk_X12_tells
  by_cases e240 : M = 240
  · subst e240
    exact nc_dk_X12_whyFind
  by_cases e241 : M = 241
  · subst e241
    exact nc_dk_X12_driedBy
  by_cases e242 : M = 242
  · subst e242
    exact nc_dk_X12_finds
  by_cases e243 : M = 243
  · subst e243
    exact nc_dk_X12_comesTo
  by_cases e244 : M = 244
  · subst e244
    exact nc_dk_X12_day
  by_cases e245 : M = 245
  · subst e245
    exact nc_dk_X12_goesOn
  by_cases e246 : M = 246
  · subst e246
    exact nc_dk_X12_tell
  by_cases e247 : M = 247
  · subst e247
    exact nc_dk_X12_find
  by_cases e248 : M = 248
  · subst e248
    exact nc_dk_X12_days
  by_cases e249 : M = 249
  · subst e249
    exact nc_dk_X12_why
  by_cases e250 : M = 250
  · subst e250
    exact nc_dk_X12_mayHear
  by_cases e251 : M = 251
  · subst e251
    exact nc_dk_X12_bestOf
  by_cases e252 : M = 252
  · subst e252
    exact nc_dk_X12_best
  by_cases e253 : M = 253
  · subst e253
    exact nc_dk_X12_least
  by_cases e254 : M = 254
  · subst e254
    exact nc_dk_X12_honest
  by_cases e255 : M = 255
  · subst e255
    exact nc_dk_X12_planned
  omega
theorem nc_da_8 : ∀ M, M < 286 → 256 ≤ M → nc_dall M := by
  intro M h1 h2
  by_cases e256 : M = 256
  · subst e256
    exact nc_dk_X12_plan
  by_cases e257 : M = 257
  · subst e257
    exact nc_dk_X12_planAt
  by_cases e258 : M = 258
  · subst e258
    exact nc_dk_X12_allKnow
  by_cases e259 : M = 259
  · subst e259
    exact nc_dk_X12_comes
  by_cases e260 : M = 260
  · subst e260
    exact nc_dk_X12_part
  by_cases e261 : M = 261
  · subst e261
    exact nc_dk_X12_tasted
  by_cases e262 : M = 262
  · subst e262
    exact nc_dk_X12_dries
  by_cases e263 : M = 263
  · subst e263
    exact nc_dk_X12_isPast
  by_cases e264 : M = 264
  · subst e264
    exact nc_dk_X12_week
  by_cases e265 : M = 265
  · subst e265
    exact nc_dk_X12_pails
  by_cases e266 : M = 266
  · subst e266
    exact nc_dk_X12_ahead
  by_cases e267 : M = 267
  · subst e267
    exact nc_dk_X12_draws
  by_cases e268 : M = 268
  · subst e268
    exact nc_dk_X12_drawn
  by_cases e269 : M = 269
  · subst e269
    exact nc_dk_X12_odds
  by_cases e270 : M = 270
  · subst e270
    exact nc_dk_X12_bookLine
  by_cases e271 : M = 271
  · subst e271
    exact nc_dk_X12_does
  by_cases e272 : M = 272
  · subst e272
    exact nc_dk_X12_book
  by_cases e273 : M = 273
  · subst e273
    exact nc_dk_X12_written
  by_cases e274 : M = 274
  · subst e274
    exact nc_dk_X12_joins
  by_cases e275 : M = 275
  · subst e275
    exact nc_dk_X12_nots
  by_cases e276 : M = 276
  · subst e276
    exact nc_dk_X12_leafOf
  by_cases e277 : M = 277
  · subst e277
    exact nc_dk_X12_operand
  by_cases e278 : M = 278
  · subst e278
    exact nc_dk_X12_behind
  by_cases e279 : M = 279
  · subst e279
    exact nc_dk_X12_sentence
  by_cases e280 : M = 280
  · subst e280
    exact nc_dk_X12_isLeaf
  by_cases e281 : M = 281
  · subst e281
    exact nc_dk_X12_isSaid
  by_cases e282 : M = 282
  · subst e282
    exact nc_dk_X12_said
  by_cases e283 : M = 283
  · subst e283
    exact nc_dk_X12_image
  by_cases e284 : M = 284
  · subst e284
    exact nc_dk_X12_restore
  by_cases e285 : M = 285
  · subst e285
    exact nc_dk_X12_count
  omega
theorem nc_dok (M : Nat) (h : M < nc_many) : nc_dall M := by
  have h : M < 286 := h
  by_cases q0 : M < 32
  · exact nc_da_0 M (by omega) (by omega)
  by_cases q1 : M < 64
  · exact nc_da_1 M (by omega) (by omega)
  by_cases q2 : M < 96
  · exact nc_da_2 M (by omega) (by omega)
  by_cases q3 : M < 128
  · exact nc_da_3 M (by omega) (by omega)
  by_cases q4 : M < 160
  · exact nc_da_4 M (by omega) (by omega)
  by_cases q5 : M < 192
  · exact nc_da_5 M (by omega) (by omega)
  by_cases q6 : M < 224
  · exact nc_da_6 M (by omega) (by omega)
  by_cases q7 : M < 256
  · exact nc_da_7 M (by omega) (by omega)
  by_cases q8 : M < 286
  · exact nc_da_8 M (by omega) (by omega)
  omega
def nc_fdQ : List (Nat × List (Nat × Nat × Nat × Bool × (Nat × Nat))) := [(0, [(9, 0, 0, false, (2, 173)), (15, 0, 1, false, (2, 174)), (18, 0, 2, false, (2, 175)), (21, 0, 3, false, (2, 176)), (70, 10, 12, false, (1, 107)), (73, 0, 4, false, (2, 177)), (77, 0, 5, false, (2, 179)), (80, 0, 6, false, (2, 181)), (87, 7, 1, false, (2, 57)), (92, 0, 7, false, (2, 183)), (95, 7, 3, false, (2, 62)), (98, 0, 8, false, (2, 185))]), (1, [(9, 1, 2, false, (2, 214)), (15, 1, 3, false, (2, 215)), (18, 1, 8, false, (2, 220)), (22, 1, 9, false, (2, 222)), (25, 1, 10, false, (2, 224)), (28, 1, 0, false, (2, 212)), (32, 1, 1, false, (2, 213)), (40, 1, 4, false, (2, 216)), (43, 2, 7, false, (1, 190)), (55, 2, 6, false, (1, 187)), (62, 7, 7, false, (2, 73)), (67, 2, 5, false, (1, 182)), (75, 1, 5, false, (2, 217)), (81, 1, 6, false, (2, 218)), (88, 1, 7, false, (2, 219)), (94, 2, 3, false, (1, 173)), (97, 7, 6, false, (2, 69))]), (2, [(9, 2, 5, false, (1, 181)), (15, 2, 8, false, (1, 193)), (19, 2, 9, false, (1, 194)), (23, 2, 10, false, (1, 197)), (26, 2, 11, false, (1, 202)), (29, 2, 12, false, (1, 205)), (32, 2, 13, false, (1, 208)), (35, 2, 14, false, (1, 211)), (38, 2, 15, false, (1, 216)), (41, 2, 16, false, (1, 220)), (44, 2, 17, false, (1, 223)), (47, 2, 18, false, (1, 226)), (50, 2, 0, false, (1, 159)), (53, 2, 1, false, (1, 162)), (56, 2, 2, false, (1, 165)), (59, 2, 3, false, (1, 170)), (62, 2, 4, false, (1, 177)), (65, 2, 6, false, (1, 186)), (68, 2, 7, false, (1, 191)), (91, 10, 11, false, (1, 105)), (97, 10, 13, false, (1, 111))]), (3, [(9, 3, 0, false, (2, 34)), (15, 3, 1, false, (2, 35)), (24, 3, 2, false, (2, 36)), (41, 2, 0, false, (1, 160)), (71, 2, 1, false, (1, 163)), (81, 2, 2, false, (1, 167)), (95, 2, 10, false, (1, 198)), (99, 2, 9, false, (1, 195)), (102, 2, 11, false, (1, 203)), (105, 10, 12, false, (1, 108)), (108, 2, 12, false, (1, 206)), (111, 2, 13, false, (1, 209)), (114, 2, 3, false, (1, 174)), (117, 2, 14, false, (1, 213)), (120, 2, 7, false, (1, 192)), (123, 2, 15, false, (1, 217)), (126, 2, 6, false, (1, 188)), (132, 2, 4, false, (1, 178)), (138, 2, 16, false, (1, 221)), (141, 2, 17, false, (1, 224)), (144, 2, 18, false, (1, 227)), (147, 2, 5, false, (1, 184))]), (4, [(7, 4, 0, false, (3, 47)), (14, 7, 0, true, (2, 54)), (20, 2, 3, false, (1, 171)), (25, 2, 2, false, (1, 166))]), (5, [(11, 5, 0, false, (2, 134)), (20, 5, 2, false, (2, 136)), (24, 5, 1, false, (2, 135))]), (7, [(9, 7, 5, false, (2, 66)), (15, 7, 6, false, (2, 67)), (18, 7, 7, false, (2, 72)), (21, 7, 8, false, (2, 76)), (24, 7, 9, false, (2, 77)), (27, 7, 10, false, (2, 78)), (30, 7, 11, false, (2, 79)), (33, 7, 12, false, (2, 82)), (36, 7, 13, false, (2, 85)), (39, 7, 14, false, (2, 87)), (42, 7, 15, false, (2, 88)), (45, 7, 16, false, (2, 89)), (48, 7, 0, false, (2, 53)), (58, 7, 1, false, (2, 56)), (62, 7, 2, false, (2, 59)), (65, 7, 3, false, (2, 61)), (68, 7, 4, false, (2, 64)), (87, 2, 5, false, (1, 183)), (96, 2, 14, false, (1, 214)), (105, 2, 2, false, (1, 168)), (112, 2, 12, false, (1, 207)), (127, 2, 11, false, (1, 204)), (133, 2, 3, false, (1, 175)), (140, 2, 6, false, (1, 189)), (143, 2, 15, false, (1, 219)), (146, 2, 10, false, (1, 201)), (161, 2, 4, false, (1, 179)), (164, 2, 18, false, (1, 228)), (171, 2, 16, false, (1, 222)), (174, 2, 17, false, (1, 225)), (184, 2, 13, false, (1, 210))]), (8, [(9, 8, 3, false, (3, 20)), (15, 8, 4, false, (3, 21)), (18, 8, 0, false, (3, 17)), (27, 8, 1, false, (3, 18)), (31, 8, 2, false, (3, 19)), (34, 8, 5, false, (3, 23)), (38, 8, 6, false, (3, 25)), (48, 2, 3, false, (1, 172)), (88, 2, 14, false, (1, 212)), (91, 7, 6, false, (2, 68))]), (9, [(11, 9, 0, false, (2, 150)), (15, 9, 1, false, (2, 151)), (18, 9, 2, false, (2, 152)), (21, 9, 3, false, (2, 153)), (25, 9, 4, false, (2, 154)), (87, 10, 12, false, (1, 109)), (106, 7, 0, true, (2, 55)), (110, 2, 10, false, (1, 200)), (113, 7, 6, false, (2, 71)), (116, 7, 7, false, (2, 75)), (126, 7, 12, false, (2, 84)), (129, 7, 11, false, (2, 81))]), (10, [(9, 10, 0, false, (1, 93)), (15, 10, 2, false, (1, 96)), (19, 10, 3, false, (1, 97)), (23, 10, 4, false, (1, 98)), (26, 10, 5, false, (1, 99)), (29, 10, 6, false, (1, 100)), (48, 10, 1, false, (1, 95)), (58, 10, 9, false, (1, 103)), (62, 10, 14, false, (1, 114)), (65, 10, 15, false, (1, 116)), (68, 10, 7, false, (1, 101)), (71, 10, 8, false, (1, 102)), (101, 10, 10, false, (1, 104)), (104, 10, 11, false, (1, 106)), (107, 10, 12, false, (1, 110)), (110, 10, 13, false, (1, 112))]), (11, [(12, 11, 0, false, (3, 80)), (19, 11, 1, false, (3, 81)), (23, 11, 2, false, (3, 82)), (31, 11, 3, false, (3, 83)), (40, 11, 4, false, (3, 84)), (44, 11, 5, false, (3, 85)), (50, 11, 6, false, (3, 86)), (57, 11, 7, false, (3, 87)), (61, 11, 8, false, (3, 88)), (67, 11, 9, false, (3, 89)), (76, 11, 10, false, (3, 90)), (83, 11, 11, false, (3, 91)), (90, 11, 12, false, (3, 92)), (97, 11, 13, false, (3, 93)), (101, 11, 14, false, (3, 94)), (104, 11, 15, false, (3, 95)), (108, 10, 1, false, (1, 94)), (119, 10, 15, false, (1, 115)), (130, 2, 0, false, (1, 161)), (133, 10, 14, false, (1, 113)), (143, 2, 10, false, (1, 199)), (153, 7, 11, false, (2, 80)), (156, 7, 7, false, (2, 74)), (159, 7, 6, false, (2, 70)), (166, 7, 12, false, (2, 83)), (172, 2, 14, false, (1, 215)), (175, 2, 15, false, (1, 218)), (181, 7, 4, false, (2, 65)), (191, 2, 9, false, (1, 196)), (194, 7, 13, false, (2, 86)), (203, 7, 1, false, (2, 58)), (206, 7, 3, false, (2, 63)), (213, 7, 2, false, (2, 60)), (256, 1, 8, false, (2, 221)), (266, 8, 5, false, (3, 24)), (269, 8, 4, false, (3, 22)), (272, 2, 2, false, (1, 169)), (300, 1, 9, false, (2, 223)), (303, 1, 10, false, (2, 225)), (321, 2, 3, false, (1, 176)), (324, 4, 0, false, (3, 48)), (339, 0, 6, false, (2, 182)), (342, 0, 4, false, (2, 178)), (346, 0, 5, false, (2, 180)), (349, 0, 7, false, (2, 184)), (352, 0, 8, false, (2, 186)), (359, 9, 4, false, (2, 155)), (366, 6, 0, false, (3, 64)), (369, 6, 1, false, (3, 66)), (370, 6, 2, false, (3, 68)), (371, 6, 3, false, (3, 70)), (374, 2, 1, false, (1, 164)), (377, 2, 4, false, (1, 180)), (380, 2, 5, false, (1, 185))]), (12, [(1, 12, 0, false, (7, 0)), (7, 12, 2, false, (7, 2)), (14, 12, 1, false, (7, 1)), (18, 12, 3, false, (7, 3)), (21, 12, 4, false, (7, 4)), (24, 12, 5, false, (7, 5)), (33, 12, 6, false, (7, 6)), (37, 12, 7, false, (7, 7)), (40, 12, 8, false, (7, 8)), (43, 12, 9, false, (7, 9)), (47, 12, 10, false, (7, 10)), (50, 12, 21, false, (7, 21)), (53, 12, 22, false, (7, 22)), (56, 12, 23, false, (7, 23)), (59, 12, 27, false, (7, 27)), (62, 12, 28, false, (7, 28)), (65, 12, 34, false, (7, 34)), (68, 12, 37, false, (7, 37)), (71, 12, 39, false, (7, 39)), (74, 12, 45, false, (7, 45)), (78, 12, 46, false, (7, 46)), (81, 12, 47, false, (7, 47)), (84, 12, 48, false, (7, 48)), (139, 12, 12, false, (7, 12)), (142, 12, 13, false, (7, 13)), (145, 12, 11, false, (7, 11)), (155, 12, 14, false, (7, 14)), (158, 12, 17, false, (7, 17)), (162, 12, 15, false, (7, 15)), (165, 12, 16, false, (7, 16)), (181, 12, 18, false, (7, 18)), (218, 12, 20, false, (7, 20)), (228, 12, 19, false, (7, 19)), (237, 12, 24, false, (7, 24)), (334, 12, 26, false, (7, 26)), (337, 12, 25, false, (7, 25)), (364, 12, 30, false, (7, 30)), (367, 12, 29, false, (7, 29)), (373, 12, 33, false, (7, 33)), (376, 12, 31, false, (7, 31)), (379, 12, 32, false, (7, 32)), (388, 12, 35, false, (7, 35)), (398, 12, 36, false, (7, 36)), (407, 12, 38, false, (7, 38)), (410, 12, 40, false, (7, 40)), (413, 12, 42, false, (7, 42)), (420, 12, 43, false, (7, 43)), (426, 12, 41, false, (7, 41)), (429, 12, 44, false, (7, 44))])]
theorem nc_fdQ_T : nc_fdT = nc_fdQ.map (fun p => (p.1, p.2.map (fun e => (e.1, e.2.1, e.2.2.1)))) := by rfl
def nc_T (t : Nat) : u_T := match nc_cl[t]? with
  | some q => q.2.1
  | none => fun _ => ("", "", "", false)
def nc_fchk (ow : Nat) (e : Nat × Nat × Nat × Bool × (Nat × Nat)) : Bool :=
  (cond e.2.2.2.1 (nc_at e.2.2.2.2 (.fieldLinkNest (nc_cn ow) e.1 (nc_cn e.2.1) (nc_T e.2.1 e.2.2.1).2.1 (nc_T e.2.1 e.2.2.1).2.2.1 "NewsCows")) (nc_at e.2.2.2.2 (.fieldLink (nc_cn ow) e.1 (nc_cn e.2.1) (nc_T e.2.1 e.2.2.1).2.1 (nc_T e.2.1 e.2.2.1).2.2.1))) &&
  (Nat.blt e.2.1 13 && (Nat.blt e.2.2.1 (((nc_fkT[e.2.1]?).getD []).length) && decide ((nc_T e.2.1 e.2.2.1).1 = nc_cn e.2.1)))
theorem nc_fk_all : (nc_fdQ.all fun p => p.2.all (nc_fchk p.1)) = true := by decide +kernel
def nc_lp : List (List (Nat × Nat)) := [[(2, 187), (2, 189), (2, 191), (2, 193), (2, 195), (2, 197), (2, 199), (2, 201), (2, 203)], [(2, 226), (2, 228), (2, 230), (2, 232), (2, 234), (2, 236), (2, 238), (3, 0), (3, 2), (3, 4), (3, 6)], [(1, 229), (1, 231), (1, 233), (1, 235), (1, 237), (1, 239), (2, 1), (2, 3), (2, 5), (2, 7), (2, 9), (2, 11), (2, 13), (2, 15), (2, 17), (2, 19), (2, 21), (2, 23), (2, 25)], [(2, 37), (2, 39), (2, 41)], [(3, 49)], [(2, 137), (2, 139), (2, 141)], [(3, 71), (3, 73), (3, 75), (3, 77)], [(2, 90), (2, 92), (2, 94), (2, 96), (2, 98), (2, 100), (2, 102), (2, 104), (2, 106), (2, 108), (2, 110), (2, 112), (2, 114), (2, 116), (2, 118), (2, 120), (2, 122)], [(3, 26), (3, 28), (3, 30), (3, 32), (3, 34), (3, 36), (3, 38)], [(2, 156), (2, 158), (2, 160), (2, 162), (2, 164)], [(1, 117), (1, 119), (1, 121), (1, 123), (1, 125), (1, 127), (1, 129), (1, 131), (1, 133), (1, 135), (1, 137), (1, 139), (1, 141), (1, 143), (1, 145), (1, 147)], [(3, 96), (3, 98), (3, 100), (3, 102), (3, 104), (3, 106), (3, 108), (3, 110), (3, 112), (3, 114), (3, 116), (3, 118), (3, 120), (3, 122), (3, 124), (3, 126)], [(7, 49), (7, 51), (7, 53), (7, 55), (7, 57), (7, 59), (7, 61), (7, 63), (7, 65), (7, 67), (7, 69), (7, 71), (7, 73), (7, 75), (7, 77), (7, 79), (7, 81), (7, 83), (7, 85), (7, 87), (7, 89), (7, 91), (7, 93), (7, 95), (7, 97), (7, 99), (7, 101), (7, 103), (7, 105), (7, 107), (7, 109), (7, 111), (7, 113), (7, 115), (7, 117), (7, 119), (7, 121), (7, 123), (7, 125), (7, 127), (7, 129), (7, 131), (7, 133), (7, 135), (7, 137), (7, 139), (7, 141), (7, 143), (7, 145)]]
theorem nc_lw_0 : ∀ w ∈ u_ws RX0 TX0 9, w ∈ lw_tbl := by
  intro w h
  obtain ⟨k, hk, rfl⟩ := List.mem_map.mp h
  have hk := List.mem_range.mp hk
  have key : (List.range 9).all (fun k => nc_at ((((nc_lp[0]?).getD [])[k]?).getD (0, 0)) (u_lay RX0 TX0 k)) = true := by decide +kernel
  exact nc_at_in (List.all_eq_true.mp key k (List.mem_range.mpr hk))
theorem nc_lw_1 : ∀ w ∈ u_ws RX1 TX1 11, w ∈ lw_tbl := by
  intro w h
  obtain ⟨k, hk, rfl⟩ := List.mem_map.mp h
  have hk := List.mem_range.mp hk
  have key : (List.range 11).all (fun k => nc_at ((((nc_lp[1]?).getD [])[k]?).getD (0, 0)) (u_lay RX1 TX1 k)) = true := by decide +kernel
  exact nc_at_in (List.all_eq_true.mp key k (List.mem_range.mpr hk))
theorem nc_lw_2 : ∀ w ∈ u_ws RX2 TX2 19, w ∈ lw_tbl := by
  intro w h
  obtain ⟨k, hk, rfl⟩ := List.mem_map.mp h
  have hk := List.mem_range.mp hk
  have key : (List.range 19).all (fun k => nc_at ((((nc_lp[2]?).getD [])[k]?).getD (0, 0)) (u_lay RX2 TX2 k)) = true := by decide +kernel
  exact nc_at_in (List.all_eq_true.mp key k (List.mem_range.mpr hk))
theorem nc_lw_3 : ∀ w ∈ u_ws RX3 TX3 3, w ∈ lw_tbl := by
  intro w h
  obtain ⟨k, hk, rfl⟩ := List.mem_map.mp h
  have hk := List.mem_range.mp hk
  have key : (List.range 3).all (fun k => nc_at ((((nc_lp[3]?).getD [])[k]?).getD (0, 0)) (u_lay RX3 TX3 k)) = true := by decide +kernel
  exact nc_at_in (List.all_eq_true.mp key k (List.mem_range.mpr hk))
theorem nc_lw_4 : ∀ w ∈ u_ws RX4 TX4 1, w ∈ lw_tbl := by
  intro w h
  obtain ⟨k, hk, rfl⟩ := List.mem_map.mp h
  have hk := List.mem_range.mp hk
  have key : (List.range 1).all (fun k => nc_at ((((nc_lp[4]?).getD [])[k]?).getD (0, 0)) (u_lay RX4 TX4 k)) = true := by decide +kernel
  exact nc_at_in (List.all_eq_true.mp key k (List.mem_range.mpr hk))
theorem nc_lw_5 : ∀ w ∈ u_ws RX5 TX5 3, w ∈ lw_tbl := by
  intro w h
  obtain ⟨k, hk, rfl⟩ := List.mem_map.mp h
  have hk := List.mem_range.mp hk
  have key : (List.range 3).all (fun k => nc_at ((((nc_lp[5]?).getD [])[k]?).getD (0, 0)) (u_lay RX5 TX5 k)) = true := by decide +kernel
  exact nc_at_in (List.all_eq_true.mp key k (List.mem_range.mpr hk))
theorem nc_lw_6 : ∀ w ∈ u_ws RX6 TX6 4, w ∈ lw_tbl := by
  intro w h
  obtain ⟨k, hk, rfl⟩ := List.mem_map.mp h
  have hk := List.mem_range.mp hk
  have key : (List.range 4).all (fun k => nc_at ((((nc_lp[6]?).getD [])[k]?).getD (0, 0)) (u_lay RX6 TX6 k)) = true := by decide +kernel
  exact nc_at_in (List.all_eq_true.mp key k (List.mem_range.mpr hk))
theorem nc_lw_7 : ∀ w ∈ u_ws RX7 TX7 17, w ∈ lw_tbl := by
  intro w h
  obtain ⟨k, hk, rfl⟩ := List.mem_map.mp h
  have hk := List.mem_range.mp hk
  have key : (List.range 17).all (fun k => nc_at ((((nc_lp[7]?).getD [])[k]?).getD (0, 0)) (u_lay RX7 TX7 k)) = true := by decide +kernel
  exact nc_at_in (List.all_eq_true.mp key k (List.mem_range.mpr hk))
theorem nc_lw_8 : ∀ w ∈ u_ws RX8 TX8 7, w ∈ lw_tbl := by
  intro w h
  obtain ⟨k, hk, rfl⟩ := List.mem_map.mp h
  have hk := List.mem_range.mp hk
  have key : (List.range 7).all (fun k => nc_at ((((nc_lp[8]?).getD [])[k]?).getD (0, 0)) (u_lay RX8 TX8 k)) = true := by decide +kernel
  exact nc_at_in (List.all_eq_true.mp key k (List.mem_range.mpr hk))
theorem nc_lw_9 : ∀ w ∈ u_ws RX9 TX9 5, w ∈ lw_tbl := by
  intro w h
  obtain ⟨k, hk, rfl⟩ := List.mem_map.mp h
  have hk := List.mem_range.mp hk
  have key : (List.range 5).all (fun k => nc_at ((((nc_lp[9]?).getD [])[k]?).getD (0, 0)) (u_lay RX9 TX9 k)) = true := by decide +kernel
  exact nc_at_in (List.all_eq_true.mp key k (List.mem_range.mpr hk))
theorem nc_lw_10 : ∀ w ∈ u_ws RX10 TX10 16, w ∈ lw_tbl := by
  intro w h
  obtain ⟨k, hk, rfl⟩ := List.mem_map.mp h
  have hk := List.mem_range.mp hk
  have key : (List.range 16).all (fun k => nc_at ((((nc_lp[10]?).getD [])[k]?).getD (0, 0)) (u_lay RX10 TX10 k)) = true := by decide +kernel
  exact nc_at_in (List.all_eq_true.mp key k (List.mem_range.mpr hk))
theorem nc_lw_11 : ∀ w ∈ u_ws RX11 TX11 16, w ∈ lw_tbl := by
  intro w h
  obtain ⟨k, hk, rfl⟩ := List.mem_map.mp h
  have hk := List.mem_range.mp hk
  have key : (List.range 16).all (fun k => nc_at ((((nc_lp[11]?).getD [])[k]?).getD (0, 0)) (u_lay RX11 TX11 k)) = true := by decide +kernel
  exact nc_at_in (List.all_eq_true.mp key k (List.mem_range.mpr hk))
theorem nc_lw_12 : ∀ w ∈ u_ws RX12 TX12 49, w ∈ lw_tbl := by
  intro w h
  obtain ⟨k, hk, rfl⟩ := List.mem_map.mp h
  have hk := List.mem_range.mp hk
  have key : (List.range 49).all (fun k => nc_at ((((nc_lp[12]?).getD [])[k]?).getD (0, 0)) (u_lay RX12 TX12 k)) = true := by decide +kernel
  exact nc_at_in (List.all_eq_true.mp key k (List.mem_range.mpr hk))
def nc_ciP : List (Nat × Nat) := [(5, 223), (9, 30), (4, 163), (4, 164), (4, 165)]
def nc_clP : List (Nat × Nat) := [(6, 216), (6, 217), (6, 218), (6, 219), (6, 220), (6, 221), (6, 222), (6, 223), (6, 224), (6, 225), (6, 226), (6, 227), (6, 228), (6, 229), (6, 230), (6, 231), (6, 232), (6, 233), (6, 234), (6, 235), (6, 236), (6, 237), (6, 238), (6, 239)]
theorem nc_ci_all : ((nc_ciT.zip nc_ciP).all fun e => nc_at e.2 (.constant (nc_cn e.1.1.1) e.1.1.2 e.1.2)) = true := by decide +kernel
theorem nc_cl_all : ((nc_clT.zip nc_clP).all fun e => nc_at e.2 (.constantLong (nc_cn e.1.1.1) e.1.1.2 e.1.2)) = true := by decide +kernel
theorem nc_ci_len : nc_ciT.length = nc_ciP.length := by rfl
theorem nc_cl_len : nc_clT.length = nc_clP.length := by rfl
def nc_ip_l : List (List (Nat × Nat)) := [[], [], [], [], [], [], [], [], [], [], [], [], [], [], [], [], [], [], [], [], [], [], [], [], [], [], [], [], [], [], [], [], [], [], [], [], [], [], [], [], [], [], [], [], [], [], [], [], [], [], [], [], [], [], [], [], [], [], [], [], [], [], [], [], [], [], [], [], [], [], [], [], [], [], [], [], [], [], [], [], [], [], [], [], [], [], [], [(4, 46), (4, 50)], [(4, 33), (4, 34)], [(4, 50), (4, 8)], [(6, 47), (6, 64), (6, 60), (6, 62), (6, 72), (6, 73)], [(4, 229), (4, 233)], [(4, 156), (4, 160)], [(5, 113)], [(4, 156), (4, 221), (4, 225), (4, 237)], [(5, 106), (5, 114), (5, 102), (5, 103), (5, 104), (5, 105), (5, 107), (5, 108), (5, 109)], [(4, 174)], [(4, 180)], [(4, 180)], [(2, 50), (5, 2), (5, 3)], [(5, 11)], [(6, 47), (6, 61), (6, 64), (6, 60), (6, 62), (6, 63), (6, 68)], [(6, 47), (6, 61), (6, 64), (6, 56)], [(6, 47), (6, 52), (6, 61), (6, 64)], [(6, 47), (6, 48), (6, 61), (6, 64), (6, 56), (6, 60), (6, 62), (6, 63), (6, 68)], [(6, 47), (6, 61), (6, 64), (6, 56)], [(6, 47), (6, 52), (6, 61), (6, 64)], [(6, 47), (6, 48), (6, 61), (6, 64), (6, 56), (6, 60), (6, 62), (6, 63), (6, 68)], [(6, 47), (6, 61), (6, 64), (6, 56)], [(6, 47), (6, 52), (6, 61), (6, 64)], [(6, 47), (6, 48), (6, 61), (6, 64), (6, 56), (6, 60), (6, 62), (6, 63), (6, 68)], [(6, 47), (6, 61), (6, 64), (6, 56)], [(6, 47), (6, 52), (6, 61), (6, 64)], [(6, 47), (6, 48), (6, 61), (6, 64), (6, 56), (6, 60), (6, 62), (6, 63), (6, 68)], [(6, 47), (6, 61), (6, 64), (6, 56)], [(6, 47), (6, 52), (6, 61), (6, 64)], [(6, 47), (6, 48), (6, 61), (6, 64), (6, 56), (6, 60), (6, 62), (6, 63), (6, 68)], [(6, 47), (6, 61), (6, 64), (6, 56)], [(6, 47), (6, 52), (6, 61), (6, 64)], [(6, 47), (6, 48), (6, 61), (6, 64), (6, 56), (6, 60), (6, 62), (6, 63), (6, 68)], [(6, 47), (6, 61), (6, 64), (6, 56)], [(6, 47), (6, 52), (6, 61), (6, 64)], [(6, 47), (6, 48), (6, 61), (6, 64), (6, 56), (6, 60), (6, 62), (6, 63), (6, 68)], [(6, 47), (6, 61), (6, 64), (6, 56)], [(6, 47), (6, 52), (6, 61), (6, 64)], [(6, 47), (6, 48), (6, 61), (6, 64), (6, 56), (6, 60), (6, 62), (6, 63), (6, 68)], [(6, 47), (6, 61), (6, 64), (6, 56)], [(6, 47), (6, 52), (6, 61), (6, 64)], [(5, 98), (5, 106), (5, 115), (5, 116), (5, 114), (5, 117), (5, 118)], [(5, 94), (5, 98), (5, 106), (5, 115), (5, 116), (5, 114), (5, 117), (5, 118)], [(5, 94), (5, 98), (5, 106), (5, 115), (5, 116), (5, 114), (5, 117), (5, 118)], [(1, 90), (3, 164), (3, 168), (3, 171), (3, 182), (3, 178)], [(3, 161), (3, 164), (3, 168), (3, 171), (3, 174), (3, 187), (3, 182)], [(4, 8)], [(6, 11), (6, 13), (6, 17)], [(4, 8), (4, 42)], [(6, 10), (6, 11), (6, 12), (6, 13), (6, 14), (6, 18)], [(4, 50)], [(6, 4), (6, 5), (6, 6), (6, 19)], [(4, 217)], [(4, 213), (4, 238), (5, 7)], [(4, 192)], [(4, 156)], [(4, 201)], [(4, 197), (4, 201)], [(6, 28), (6, 29), (6, 30), (6, 31), (6, 32)], [(6, 24)], [(5, 41), (5, 45), (5, 46), (5, 47), (5, 48), (5, 49)], [(5, 61)], [(5, 57), (5, 45), (5, 54)], [(5, 37), (5, 50), (5, 57)], [(5, 37), (5, 50), (5, 57)], [(5, 45)], [(5, 37), (5, 57), (5, 45), (5, 54), (5, 70)], [(5, 174)], [(5, 37), (5, 57), (5, 41), (5, 45), (5, 54), (5, 165), (5, 166), (5, 170)], [(3, 153), (3, 156)], [(4, 93)], [(4, 32), (4, 33), (4, 34)], [(4, 77)], [(5, 146), (5, 147)], [(4, 24), (4, 28), (4, 38)], [(4, 24), (4, 28), (4, 38), (4, 55), (4, 56), (4, 60)], [(4, 16), (4, 24), (4, 28), (4, 55), (4, 60), (4, 68)], [(4, 24), (4, 38), (4, 55), (4, 56), (4, 60), (4, 73)], [(4, 24), (4, 38), (4, 60)], [(4, 16), (4, 20), (4, 51), (4, 64), (4, 69), (4, 81), (4, 24)], [(3, 149), (3, 157), (4, 4), (4, 12), (4, 85)], [(5, 219), (5, 224), (5, 225), (5, 226), (5, 227)], [(4, 170), (4, 175)], [(4, 170)], [(2, 50)], [(5, 94)], [(6, 79)], [(6, 45), (6, 46), (6, 47), (6, 48), (6, 74)], [(6, 92), (6, 93), (6, 94), (6, 95)], [(6, 88)], [(3, 133)], [(3, 145), (4, 89), (4, 96), (4, 100), (4, 104)], [(4, 148), (5, 32), (6, 180), (6, 181)], [(4, 116), (4, 120), (4, 124)], [(6, 181)], [(5, 138), (6, 189), (6, 193)], [(4, 132), (4, 136)], [(4, 148), (4, 116), (4, 152)], [(4, 144), (4, 166), (4, 176)], [(4, 116), (4, 166), (4, 188), (4, 193)], [(4, 166), (4, 209)], [(5, 19)], [(4, 148), (5, 32)], [(5, 28), (5, 33)], [(5, 28), (5, 66)], [(5, 28), (5, 82)], [(4, 148), (5, 90)], [(4, 116), (4, 124), (5, 127), (5, 128), (5, 129), (5, 130)], [(5, 138), (5, 142), (5, 151)], [(5, 28), (5, 160), (5, 161)], [(4, 116), (4, 188), (5, 189)], [(5, 160), (5, 199)], [(5, 138), (5, 194), (5, 195)], [(5, 138), (5, 199)], [(4, 132), (4, 209), (5, 127)], [(4, 166), (4, 209), (5, 215)], [(5, 32), (5, 128), (5, 129), (5, 215)], [(4, 148), (5, 127), (5, 232)], [(4, 166), (5, 127), (6, 0), (6, 20)], [(6, 41), (6, 75)], [(6, 84)], [(4, 89), (5, 127), (6, 75)], [(4, 89), (4, 104), (5, 127), (6, 75)], [(6, 202)], [(7, 161), (7, 165), (7, 168)], [(7, 230), (7, 179), (7, 157)], [(7, 179), (7, 157), (7, 211)], [(7, 207)], [(7, 179), (7, 157), (7, 187), (7, 191)], [(7, 179), (7, 187), (7, 191)], [(7, 157), (7, 199)], [(7, 175)], [(7, 179), (7, 157), (7, 175), (7, 183), (7, 203), (7, 218)], [(7, 179), (7, 157), (7, 199), (7, 195), (7, 203)], [(7, 179), (7, 157), (7, 175), (7, 183), (7, 195), (7, 203), (7, 214), (7, 222)], [(7, 157), (7, 153), (7, 171), (7, 226)], [(7, 211)], [(7, 211)], [(7, 211)], [(8, 14)], [(8, 14)], [(8, 25)], [(8, 14)], [(8, 14), (8, 41), (8, 45), (8, 49)], [(8, 14), (8, 10), (8, 17), (8, 21), (8, 37)], [(8, 33)], [(7, 211), (8, 10), (8, 17), (8, 21), (8, 2), (8, 6), (8, 29)], [(8, 14), (8, 25), (8, 41), (8, 56)], [(8, 29)], [(7, 211), (8, 6), (8, 64), (8, 68), (8, 72)], [(8, 80), (8, 84)], [(8, 14), (8, 10), (8, 96)], [(8, 25)], [(8, 14), (8, 41)], [(8, 25), (8, 10)], [(8, 25), (8, 10), (8, 119)], [(8, 14)], [(8, 21), (8, 29), (8, 72), (8, 80), (8, 135)], [(8, 131)], [(8, 2), (8, 56), (8, 92), (8, 99), (8, 103)], [(8, 56), (8, 99), (8, 111), (8, 115)], [(7, 211), (8, 99), (8, 127)], [(8, 2), (8, 56), (8, 92)], [(8, 96)], [(8, 33), (8, 96), (8, 159)], [(8, 10), (8, 33), (8, 2), (8, 151), (8, 155), (8, 163)], [(7, 211), (8, 10), (8, 33), (8, 2), (8, 96), (8, 159), (8, 151), (8, 163)], [(8, 10), (8, 33), (8, 2), (8, 151), (8, 155)], [(8, 29), (8, 131), (8, 92), (8, 103), (8, 191), (8, 195)], [(7, 211), (8, 2), (8, 191), (8, 183), (8, 187)], [(7, 211)], [(8, 25), (8, 56), (8, 127), (8, 195), (8, 183)], [(8, 14)], [(8, 64), (8, 96), (8, 211)], [(7, 153), (8, 14), (8, 10), (8, 33), (8, 2), (8, 159), (8, 223), (8, 227)], [(8, 56), (8, 119), (8, 111)], [(7, 211), (8, 49)], [(7, 211), (7, 153), (8, 49), (8, 64), (8, 223)], [(8, 64), (9, 10)], [(7, 211), (8, 84), (8, 127), (8, 195), (8, 183)], [(8, 131), (8, 92), (8, 103), (8, 111), (8, 115), (9, 26)], [(7, 211), (8, 99), (9, 22)], [(7, 211), (8, 10), (8, 2), (8, 195), (8, 183), (9, 22)], [(7, 179), (7, 157), (7, 207), (7, 199), (7, 175), (7, 195)], [(8, 92), (8, 103), (8, 111), (8, 115), (8, 127)], [(7, 157), (7, 211), (7, 153), (7, 226), (8, 99), (8, 195), (8, 183), (9, 39), (9, 43)], [(7, 211)], [(9, 59)], [(9, 59)], [(7, 175)], [(7, 230), (7, 179), (7, 157), (7, 199), (7, 175), (9, 59), (9, 75)], [(7, 230), (7, 179), (7, 157), (7, 175), (9, 55), (9, 63)], [(7, 179), (7, 157), (7, 153), (9, 55), (9, 63), (9, 67), (9, 71)], [(8, 14), (8, 25), (8, 10), (8, 17), (8, 29)], [(9, 87)], [(9, 83)], [(7, 211)], [(7, 211)], [(7, 211)]]
def nc_ip (M : Nat) : List (Nat × Nat) := (nc_ip_l[M]?).getD []
def nc_idx : MethodName := ⟨"java/lang/String", "indexOf", "(I)I"⟩
def nc_cy (kind M : Nat) : MethodName := match kind with
  | 2 => Lib.Math.max.name
  | 3 => Lib.Math.min.name
  | 4 => Lib.Math.abs.name
  | 5 => arraycopyName
  | 6 => nc_idx
  | _ => nc_y M
def nc_ichk (M : Nat) : Bool := Nat.beq (nc_inv M).length (nc_ip M).length && ((nc_inv M).zip (nc_ip M)).all (fun e =>
  nc_at e.2 (.methodLink (nc_cn (nc_own M)) e.1.1 (nc_cy e.1.2.1 e.1.2.2.1)) && (Nat.ble 1 M && (Nat.ble 2 e.1.2.1 || (Nat.beq e.1.2.1 (nc_mq e.1.2.2.1).1 && (Nat.beq e.1.2.2.2 (nc_mq e.1.2.2.1).2.1 && Nat.blt e.1.2.2.1 nc_many)))))
theorem nc_ik_0 : (List.range' 0 24).all nc_ichk = true := by decide +kernel
theorem nc_ik_1 : (List.range' 24 24).all nc_ichk = true := by decide +kernel
theorem nc_ik_2 : (List.range' 48 24).all nc_ichk = true := by decide +kernel
theorem nc_ik_3 : (List.range' 72 24).all nc_ichk = true := by decide +kernel
theorem nc_ik_4 : (List.range' 96 24).all nc_ichk = true := by decide +kernel
theorem nc_ik_5 : (List.range' 120 24).all nc_ichk = true := by decide +kernel
theorem nc_ik_6 : (List.range' 144 24).all nc_ichk = true := by decide +kernel
theorem nc_ik_7 : (List.range' 168 24).all nc_ichk = true := by decide +kernel
theorem nc_ik_8 : (List.range' 192 24).all nc_ichk = true := by decide +kernel
theorem nc_ik_9 : (List.range' 216 24).all nc_ichk = true := by decide +kernel
theorem nc_ik_10 : (List.range' 240 24).all nc_ichk = true := by decide +kernel
theorem nc_ik_11 : (List.range' 264 22).all nc_ichk = true := by decide +kernel
theorem nc_iok (M : Nat) (h : M < nc_many) : nc_ichk M = true := by
  have key : ∀ (a n : Nat), (List.range' a n).all nc_ichk = true → a ≤ M → M < a + n → nc_ichk M = true := fun a n hh h1 h2 => List.all_eq_true.mp hh M (List.mem_range'_1.mpr ⟨h1, h2⟩)
  have h : M < 286 := h
  by_cases q0 : M < 24
  · exact key 0 24 nc_ik_0 (by omega) (by omega)
  by_cases q1 : M < 48
  · exact key 24 24 nc_ik_1 (by omega) (by omega)
  by_cases q2 : M < 72
  · exact key 48 24 nc_ik_2 (by omega) (by omega)
  by_cases q3 : M < 96
  · exact key 72 24 nc_ik_3 (by omega) (by omega)
  by_cases q4 : M < 120
  · exact key 96 24 nc_ik_4 (by omega) (by omega)
  by_cases q5 : M < 144
  · exact key 120 24 nc_ik_5 (by omega) (by omega)
  by_cases q6 : M < 168
  · exact key 144 24 nc_ik_6 (by omega) (by omega)
  by_cases q7 : M < 192
  · exact key 168 24 nc_ik_7 (by omega) (by omega)
  by_cases q8 : M < 216
  · exact key 192 24 nc_ik_8 (by omega) (by omega)
  by_cases q9 : M < 240
  · exact key 216 24 nc_ik_9 (by omega) (by omega)
  by_cases q10 : M < 264
  · exact key 240 24 nc_ik_10 (by omega) (by omega)
  by_cases q11 : M < 286
  · exact key 264 22 nc_ik_11 (by omega) (by omega)
  exact absurd h (by omega)
theorem nc_w_max1 : Cond.static Lib.Math.max.name ∈ lw_tbl := nc_at_in (p := (3, 203)) (by decide +kernel)
theorem nc_w_max2 : Cond.code Lib.Math.max.name Lib.Math.max.code 2 (some .int) ∈ lw_tbl := nc_at_in (p := (3, 204)) (by decide +kernel)
theorem nc_w_min1 : Cond.static Lib.Math.min.name ∈ lw_tbl := nc_at_in (p := (3, 162)) (by decide +kernel)
theorem nc_w_min2 : Cond.code Lib.Math.min.name Lib.Math.min.code 2 (some .int) ∈ lw_tbl := nc_at_in (p := (3, 163)) (by decide +kernel)
theorem nc_w_abs1 : Cond.static Lib.Math.abs.name ∈ lw_tbl := nc_at_in (p := (5, 175)) (by decide +kernel)
theorem nc_w_abs2 : Cond.code Lib.Math.abs.name Lib.Math.abs.code 1 (some .int) ∈ lw_tbl := nc_at_in (p := (5, 176)) (by decide +kernel)
theorem nc_w_math : Cond.initialized "java/lang/Math" ∈ lw_tbl := nc_at_in (p := (1, 19)) (by decide +kernel)
theorem nc_w_ac1 : Cond.native arraycopyName ∈ lw_tbl := nc_at_in (p := (4, 95)) (by decide +kernel)
theorem nc_w_ac2 : Cond.static arraycopyName ∈ lw_tbl := nc_at_in (p := (4, 94)) (by decide +kernel)
theorem nc_w_sys : Cond.initialized "java/lang/System" ∈ lw_tbl := nc_at_in (p := (1, 21)) (by decide +kernel)
end
section
/-! WHAT A MACHINE'S HEAP STANDS FOR: ad gives each object's and each array's address. -/
def nc_v (ad : Nat → Nat → Nat) (v : nc_V) : Value := match v with
  | .inl x => .int x
  | .inr (.inl y) => .long y
  | .inr (.inr q) => .ref (ad q.1 q.2)
theorem nc_v_cat (ad : Nat → Nat → Nat) (v : nc_V) : (nc_v ad v).category = nc_cat v := by rcases v with x | (y | q) <;> rfl
theorem nc_cats_eq (ad : Nat → Nat → Nat) : ∀ st : List nc_V, ((st.map (nc_v ad)).map fun v => v.category).sum = nc_cats st
  | [] => rfl
  | v :: r => by
    show (nc_v ad v).category + ((r.map (nc_v ad)).map fun v => v.category).sum = nc_cat v + nc_cats r
    rw [nc_v_cat, nc_cats_eq ad r]
theorem nc_look_mem {α : Type} (d : α) (k : Nat) : ∀ l : List (Nat × α), nc_look d k l = d ∨ (k, nc_look d k l) ∈ l
  | [] => Or.inl rfl
  | q :: r => by
    unfold nc_look
    rcases h : Nat.beq q.1 k with _ | _
    · rcases nc_look_mem d k r with h1 | h1
      · exact Or.inl h1
      · exact Or.inr (List.mem_cons_of_mem _ h1)
    · have e := Nat.eq_of_beq_eq_true h
      subst e
      exact Or.inr List.mem_cons_self
def nc_tags : List (Nat × Nat) := [(0, 1), (1, 1), (2, 4), (3, 1), (4, 1), (5, 1), (6, 2), (7, 14), (8, 1), (9, 4), (10, 1), (11, 1), (12, 1), (100, 1), (101, 1), (102, 1), (166, 1), (167, 1), (236, 4), (237, 4), (238, 4), (239, 4), (240, 4), (241, 4), (242, 4), (243, 4), (244, 4), (245, 4), (246, 4), (420, 1), (553, 14), (554, 14), (555, 14), (556, 14), (557, 14), (558, 14), (559, 14), (560, 14), (561, 14), (562, 14), (563, 14), (564, 14), (615, 1), (616, 1), (676, 4), (677, 4), (678, 4), (740, 1), (742, 1), (743, 1), (744, 1), (745, 1), (746, 1), (869, 1), (874, 1), (875, 1), (876, 1), (877, 1), (878, 1), (889, 1), (890, 1), (891, 1), (895, 1), (902, 1), (905, 1), (907, 1), (913, 1), (914, 1), (915, 1), (916, 1)]
def nc_ok (q : Nat × Nat) : Bool := Nat.blt q.2 (nc_look 0 q.1 nc_tags)
def nc_U : List (Nat × Nat) := nc_tags.flatMap (fun p => (List.range p.2).map (fun a => (p.1, a)))
theorem nc_U_nd : nc_U.Nodup := by decide +kernel
theorem nc_U_ok {q : Nat × Nat} (h : nc_ok q = true) : q ∈ nc_U := by
  have h1 : q.2 < nc_look 0 q.1 nc_tags := Nat.blt_eq.mp h
  rcases nc_look_mem 0 q.1 nc_tags with h2 | h2
  · rw [h2] at h1
    exact absurd h1 (Nat.not_lt_zero _)
  · exact List.mem_flatMap.mpr ⟨_, h2, List.mem_map.mpr ⟨q.2, List.mem_range.mpr h1, rfl⟩⟩
def nc_nf (t : Nat) : Nat := ((nc_fkT[t]?).getD []).length
def nc_fv (ad : Nat → Nat → Nat) (w : nc_H) (t a k : Nat) : Value := match nc_fk t k with
  | 1 => .long (w.2 t a k)
  | 2 => .ref (ad (nc_fr t k a).1 (nc_fr t k a).2)
  | _ => .int (w.1 t a k)
def nc_ac (ad : Nat → Nat → Nat) (w : nc_H) (t a : Nat) : (Nat → Int32) ⊕ (Nat → Int64) ⊕ (Nat → UInt32) ⊕ (Nat → UInt64) ⊕ (Nat → Option Nat) := match nc_ak t with
  | 3 => .inr (.inl (w.2 t a))
  | 4 => .inr (.inr (.inr (.inr (fun j => some (ad 7 (2 + j))))))
  | _ => .inl (w.1 t a)
def nc_cell (ad : Nat → Nat → Nat) (cA : Nat → ClassId) (w : nc_H) (q : Nat × Nat) : va_E :=
  if q.1 < 100 then .inr (q.1, (List.range (nc_nf q.1)).map (nc_fv ad w q.1 q.2)) else .inl (cA (nc_ak q.1), nc_al q.1, nc_ac ad w q.1 q.2)
def nc_W (ad : Nat → Nat → Nat) (cA : Nat → ClassId) (w : nc_H) : va_W := nc_U.map (fun q => (ad q.1 q.2, nc_cell ad cA w q))
def nc_tys (cA : Nat → ClassId) : List (ClassId × FieldType) := [(cA 0, .int), (cA 1, .byte), (cA 2, .boolean), (cA 3, .long), (cA 4, .object "NewsCows$Life")]
theorem nc_W_at {ad : Nat → Nat → Nat} {cA : Nat → ClassId} {q : Nat × Nat} (h : nc_ok q = true) : ∃ k, nc_U[k]? = some q ∧ ∀ w, (nc_W ad cA w)[k]? = some (ad q.1 q.2, nc_cell ad cA w q) := by
  obtain ⟨k, hk⟩ := List.getElem?_of_mem (nc_U_ok h)
  exact ⟨k, hk, fun w => by unfold nc_W; rw [List.getElem?_map, hk]; rfl⟩
theorem nc_W_set {ad : Nat → Nat → Nat} {cA : Nat → ClassId} {k : Nat} {q : Nat × Nat} {w w' : nc_H} (h : nc_U[k]? = some q) (hw : ∀ q', q' ≠ q → nc_cell ad cA w' q' = nc_cell ad cA w q') {cl : va_E} (hc : cl = nc_cell ad cA w' q) : (nc_W ad cA w).set k (ad q.1 q.2, cl) = nc_W ad cA w' := by
  subst hc
  apply List.ext_getElem?
  intro j
  have hl : k < nc_U.length := (List.getElem?_eq_some_iff.mp h).1
  unfold nc_W
  rw [List.getElem?_set, List.getElem?_map, List.getElem?_map, List.length_map]
  by_cases e : k = j
  · subst e
    rw [if_pos rfl, if_pos hl, h]
    rfl
  · rw [if_neg e]
    rcases hj : nc_U[j]? with _ | q'
    · rfl
    · have hne : q' ≠ q := by
        intro e2
        subst e2
        exact e (List.getElem?_inj hl nc_U_nd (h.trans hj.symm))
      show some _ = some _
      rw [hw q' hne]
theorem nc_cell_same {ad : Nat → Nat → Nat} {cA : Nat → ClassId} {w w' : nc_H} {q : Nat × Nat} (h1 : w'.1 q.1 q.2 = w.1 q.1 q.2) (h2 : w'.2 q.1 q.2 = w.2 q.1 q.2) : nc_cell ad cA w' q = nc_cell ad cA w q := by
  unfold nc_cell nc_ac
  rw [h1, h2]
  have h3 : nc_fv ad w' q.1 q.2 = nc_fv ad w q.1 q.2 := by
    funext k
    unfold nc_fv
    rw [h1, h2]
  rw [h3]
theorem nc_ne {q : Nat × Nat} {t a : Nat} (h : q ≠ (t, a)) (k : Nat) (P : Prop) : ¬ (q.1 = t ∧ q.2 = a ∧ P) := fun e => h (by rcases q with ⟨x, y⟩; rw [e.1.symm, e.2.1.symm])
theorem nc_si_cell {ad : Nat → Nat → Nat} {cA : Nat → ClassId} {w : nc_H} {t a k : Nat} {x : Int32} {q : Nat × Nat} (h : q ≠ (t, a)) : nc_cell ad cA (nc_si w t a k x) q = nc_cell ad cA w q :=
  nc_cell_same (by funext k'; show (if q.1 = t ∧ q.2 = a ∧ k' = k then x else _) = _; rw [if_neg (nc_ne h k' _)]) rfl
theorem nc_sl_cell {ad : Nat → Nat → Nat} {cA : Nat → ClassId} {w : nc_H} {t a k : Nat} {x : Int64} {q : Nat × Nat} (h : q ≠ (t, a)) : nc_cell ad cA (nc_sl w t a k x) q = nc_cell ad cA w q :=
  nc_cell_same rfl (by funext k'; show (if q.1 = t ∧ q.2 = a ∧ k' = k then x else _) = _; rw [if_neg (nc_ne h k' _)])
theorem nc_cpi_cell {ad : Nat → Nat → Nat} {cA : Nat → ClassId} {w : nc_H} {t0 a0 sp t a dp n : Nat} {q : Nat × Nat} (h : q ≠ (t, a)) : nc_cell ad cA (nc_cpi w t0 a0 sp t a dp n) q = nc_cell ad cA w q :=
  nc_cell_same (by funext k'; show (if q.1 = t ∧ q.2 = a ∧ (dp ≤ k' ∧ k' < dp + n) then _ else _) = _; rw [if_neg (nc_ne h k' _)]) rfl
theorem nc_cpl_cell {ad : Nat → Nat → Nat} {cA : Nat → ClassId} {w : nc_H} {t0 a0 sp t a dp n : Nat} {q : Nat × Nat} (h : q ≠ (t, a)) : nc_cell ad cA (nc_cpl w t0 a0 sp t a dp n) q = nc_cell ad cA w q :=
  nc_cell_same rfl (by funext k'; show (if q.1 = t ∧ q.2 = a ∧ (dp ≤ k' ∧ k' < dp + n) then _ else _) = _; rw [if_neg (nc_ne h k' _)])
/-! the locals -/
def nc_lv (ad : Nat → Nat → Nat) : Nat → nc_L → List (Nat × Value)
  | _, [] => []
  | i, none :: r => nc_lv ad (i + 1) r
  | i, some v :: r => (i, nc_v ad v) :: nc_lv ad (i + 1) r
theorem nc_lv_mem {ad : Nat → Nat → Nat} {q : Nat × Value} : ∀ {L : nc_L} {i : Nat}, q ∈ nc_lv ad i L → ∃ k v, q = (i + k, nc_v ad v) ∧ nc_get L k = some v
  | [], i, h => by simp [nc_lv] at h
  | none :: r, i, h => by
    obtain ⟨k, v, h1, h2⟩ := nc_lv_mem (L := r) h
    exact ⟨k + 1, v, by rw [h1, Nat.add_right_comm, Nat.add_assoc], h2⟩
  | some u :: r, i, h => by
    rcases List.mem_cons.mp h with h | h
    · exact ⟨0, u, h, rfl⟩
    · obtain ⟨k, v, h1, h2⟩ := nc_lv_mem (L := r) h
      exact ⟨k + 1, v, by rw [h1, Nat.add_right_comm, Nat.add_assoc], h2⟩
theorem nc_lv_of {ad : Nat → Nat → Nat} {v : nc_V} : ∀ {L : nc_L} {i k : Nat}, nc_get L k = some v → (i + k, nc_v ad v) ∈ nc_lv ad i L
  | [], i, k, h => by simp [nc_get] at h
  | none :: r, i, 0, h => by simp [nc_get] at h
  | some u :: r, i, 0, h => by
    have e : u = v := Option.some.inj h
    subst e
    exact List.mem_cons_self
  | none :: r, i, k + 1, h => by
    have := nc_lv_of (ad := ad) (L := r) (i := i + 1) (k := k) h
    rwa [Nat.add_right_comm, Nat.add_assoc] at this
  | some u :: r, i, k + 1, h => by
    have := nc_lv_of (ad := ad) (L := r) (i := i + 1) (k := k) h
    rw [Nat.add_right_comm, Nat.add_assoc] at this
    exact List.mem_cons_of_mem _ this
theorem nc_has_sub {ls : Array Slot} {n : Nat} {l l' : List (Nat × Value)} (h : lv_has ls n l) (hs : ∀ q ∈ l', q ∈ l) : lv_has ls n l' := ⟨h.1, h.2.1, fun q hq => h.2.2 q (hs q hq)⟩
theorem nc_put1_get {v : nc_V} : ∀ {L : nc_L} {k j : Nat} {u : nc_V}, nc_get (nc_put1 v L k) j = some u → (j = k ∧ u = v) ∨ (j ≠ k ∧ nc_get L j = some u ∧ ¬ (j + 1 = k ∧ nc_cat u = 2))
  | [], k, j, u, h => by simp [nc_put1, nc_get] at h
  | o :: r, 0, 0, u, h => by
    simp only [nc_put1, nc_get] at h
    exact Or.inl ⟨rfl, (Option.some.inj h).symm⟩
  | o :: r, 0, j + 1, u, h => by
    simp only [nc_put1, nc_get] at h
    exact Or.inr ⟨by omega, h, by omega⟩
  | o :: r, k + 1, j, u, h => by
    have key : ∀ o', (o' = o ∨ o' = none) → (k = 0 → ∀ z, o' ≠ some (.inr (.inl z))) → nc_get (o' :: nc_put1 v r k) j = some u → (j = k + 1 ∧ u = v) ∨ (j ≠ k + 1 ∧ nc_get (o :: r) j = some u ∧ ¬ (j + 1 = k + 1 ∧ nc_cat u = 2)) := by
      intro o' ho hz hg
      cases j with
      | zero =>
        simp only [nc_get] at hg
        rcases ho with ho | ho
        · refine Or.inr ⟨by omega, by rw [← ho]; exact hg, fun e => ?_⟩
          have k0 : k = 0 := by omega
          rcases u with x | (y | q)
          · exact absurd e.2 (by show ¬ (1 : Nat) = 2; omega)
          · exact hz k0 y hg
          · exact absurd e.2 (by show ¬ (1 : Nat) = 2; omega)
        · rw [ho] at hg
          cases hg
      | succ j =>
        simp only [nc_get] at hg
        rcases nc_put1_get (L := r) hg with h1 | h1
        · exact Or.inl ⟨by omega, h1.2⟩
        · exact Or.inr ⟨by omega, h1.2.1, fun e => h1.2.2 ⟨by omega, e.2⟩⟩
    cases k with
    | succ k =>
      have e : nc_put1 v (o :: r) (k + 1 + 1) = o :: nc_put1 v r (k + 1) := by
        rcases o with _ | (x | (y | q)) <;> rfl
      rw [e] at h
      exact key o (Or.inl rfl) (fun q => by omega) h
    | zero =>
      rcases o with _ | (x | (y | q))
      · exact key none (Or.inl rfl) (fun _ z e => by cases e) h
      · exact key _ (Or.inl rfl) (fun _ z e => by cases e) h
      · exact key none (Or.inr rfl) (fun _ z e => by cases e) h
      · exact key _ (Or.inl rfl) (fun _ z e => by cases e) h
theorem nc_put2_get {v : nc_V} : ∀ {L : nc_L} {k j : Nat} {u : nc_V}, nc_get (nc_put2 v L k) j = some u → k + 1 < L.length → (j = k ∧ u = v) ∨ (j ≠ k ∧ j ≠ k + 1 ∧ nc_get L j = some u ∧ ¬ (j + 1 = k ∧ nc_cat u = 2))
  | [], k, j, u, h, hl => by simp [nc_put2, nc_get] at h
  | [o], 0, j, u, h, hl => by simp at hl
  | o :: o2 :: r, 0, 0, u, h, hl => by
    simp only [nc_put2, nc_get] at h
    exact Or.inl ⟨rfl, (Option.some.inj h).symm⟩
  | o :: o2 :: r, 0, 1, u, h, hl => by
    simp [nc_put2, nc_get] at h
  | o :: o2 :: r, 0, j + 2, u, h, hl => by
    simp only [nc_put2, nc_get] at h
    exact Or.inr ⟨by omega, by omega, h, by omega⟩
  | o :: r, k + 1, j, u, h, hl => by
    have hl' : k + 1 < r.length := by simp at hl; omega
    have key : ∀ o', (o' = o ∨ o' = none) → (k = 0 → ∀ z, o' ≠ some (.inr (.inl z))) → nc_get (o' :: nc_put2 v r k) j = some u → (j = k + 1 ∧ u = v) ∨ (j ≠ k + 1 ∧ j ≠ k + 1 + 1 ∧ nc_get (o :: r) j = some u ∧ ¬ (j + 1 = k + 1 ∧ nc_cat u = 2)) := by
      intro o' ho hz hg
      cases j with
      | zero =>
        simp only [nc_get] at hg
        rcases ho with ho | ho
        · refine Or.inr ⟨by omega, by omega, by rw [← ho]; exact hg, fun e => ?_⟩
          have k0 : k = 0 := by omega
          rcases u with x | (y | q)
          · exact absurd e.2 (by show ¬ (1 : Nat) = 2; omega)
          · exact hz k0 y hg
          · exact absurd e.2 (by show ¬ (1 : Nat) = 2; omega)
        · rw [ho] at hg
          cases hg
      | succ j =>
        simp only [nc_get] at hg
        rcases nc_put2_get (L := r) hg hl' with h1 | h1
        · exact Or.inl ⟨by omega, h1.2⟩
        · exact Or.inr ⟨by omega, by omega, h1.2.2.1, fun e => h1.2.2.2 ⟨by omega, e.2⟩⟩
    cases k with
    | succ k =>
      have e : nc_put2 v (o :: r) (k + 1 + 1) = o :: nc_put2 v r (k + 1) := by
        rcases o with _ | (x | (y | q)) <;> rfl
      rw [e] at h
      exact key o (Or.inl rfl) (fun q => by omega) h
    | zero =>
      rcases o with _ | (x | (y | q))
      · exact key none (Or.inl rfl) (fun _ z e => by cases e) h
      · exact key _ (Or.inl rfl) (fun _ z e => by cases e) h
      · exact key none (Or.inr rfl) (fun _ z e => by cases e) h
      · exact key _ (Or.inl rfl) (fun _ z e => by cases e) h
theorem nc_put1_len {v : nc_V} : ∀ (L : nc_L) (k : Nat), (nc_put1 v L k).length = L.length
  | [], k => by cases k <;> rfl
  | o :: r, 0 => by rcases o with _ | (x | (y | q)) <;> rfl
  | o :: r, 1 => by
    have := nc_put1_len (v := v) r 0
    rcases o with _ | (x | (y | q)) <;> simp [nc_put1, this]
  | o :: r, k + 2 => by
    have := nc_put1_len (v := v) r (k + 1)
    rcases o with _ | (x | (y | q)) <;> simp [nc_put1, this]
theorem nc_put2_len {v : nc_V} : ∀ (L : nc_L) (k : Nat), (nc_put2 v L k).length = L.length
  | [], k => by cases k <;> rfl
  | [o], 0 => by rcases o with _ | (x | (y | q)) <;> rfl
  | o :: o2 :: r, 0 => by rcases o with _ | (x | (y | q)) <;> rfl
  | o :: r, 1 => by
    have := nc_put2_len (v := v) r 0
    rcases o with _ | (x | (y | q)) <;> simp [nc_put2, this]
  | o :: r, k + 2 => by
    have := nc_put2_len (v := v) r (k + 1)
    rcases o with _ | (x | (y | q)) <;> simp [nc_put2, this]
theorem nc_mask_get : ∀ {bs : List Bool} {L : nc_L} {j : Nat} {u : nc_V}, nc_get (nc_mask bs L) j = some u → nc_get L j = some u
  | [], L, j, u, h => by simpa [nc_mask] using h
  | b :: bs, [], j, u, h => by simpa [nc_mask] using h
  | b :: bs, o :: os, 0, u, h => by
    cases b
    · simp [nc_mask, nc_get] at h
    · simpa [nc_mask, nc_get] using h
  | b :: bs, o :: os, j + 1, u, h => by
    simp only [nc_mask, nc_get] at h ⊢
    exact nc_mask_get h
theorem nc_mask_len : ∀ (bs : List Bool) (L : nc_L), (nc_mask bs L).length = L.length
  | [], L => by simp [nc_mask]
  | b :: bs, [] => by simp [nc_mask]
  | b :: bs, o :: os => by simp [nc_mask, nc_mask_len bs os]
theorem nc_lv_mask {ad : Nat → Nat → Nat} {ls : Array Slot} {n : Nat} {bs : List Bool} {L : nc_L} (h : lv_has ls n (nc_lv ad 0 L)) : lv_has ls n (nc_lv ad 0 (nc_mask bs L)) :=
  nc_has_sub h (fun q hq => by
    obtain ⟨k, v, h1, h2⟩ := nc_lv_mem hq
    rw [h1]
    exact nc_lv_of (nc_mask_get h2))
theorem nc_lv_put1 {ad : Nat → Nat → Nat} {ls : Array Slot} {n k : Nat} {v : nc_V} {L : nc_L} (h : lv_has ls n ((k, nc_v ad v) :: (nc_lv ad 0 L).filter (fun q => !(q.1 == k) && !(q.1 + 1 == k && q.2.category == 2)))) : lv_has ls n (nc_lv ad 0 (nc_put1 v L k)) :=
  nc_has_sub h (fun q hq => by
    obtain ⟨j, u, h1, h2⟩ := nc_lv_mem hq
    rw [Nat.zero_add] at h1
    rcases nc_put1_get h2 with ⟨e1, e2⟩ | ⟨e1, e2, e3⟩
    · rw [h1, e1, e2]
      exact List.mem_cons_self
    · refine List.mem_cons_of_mem _ (List.mem_filter.mpr ⟨?_, ?_⟩)
      · rw [h1]
        have := nc_lv_of (ad := ad) (i := 0) e2
        rwa [Nat.zero_add] at this
      · rw [h1]
        simp only [nc_v_cat, Bool.and_eq_true, Bool.not_eq_true', beq_eq_false_iff_ne, Bool.and_eq_false_imp, beq_iff_eq]
        exact ⟨e1, fun a b => e3 ⟨a, b⟩⟩)
theorem nc_lv_put2 {ad : Nat → Nat → Nat} {ls : Array Slot} {n k : Nat} {v : nc_V} {L : nc_L} (hk : k + 1 < L.length) (h : lv_has ls n ((k, nc_v ad v) :: (nc_lv ad 0 L).filter (fun q => !(q.1 == k) && (!(q.1 == k + 1) && !(q.1 + 1 == k && q.2.category == 2))))) : lv_has ls n (nc_lv ad 0 (nc_put2 v L k)) :=
  nc_has_sub h (fun q hq => by
    obtain ⟨j, u, h1, h2⟩ := nc_lv_mem hq
    rw [Nat.zero_add] at h1
    rcases nc_put2_get h2 hk with ⟨e1, e2⟩ | ⟨e1, e0, e2, e3⟩
    · rw [h1, e1, e2]
      exact List.mem_cons_self
    · refine List.mem_cons_of_mem _ (List.mem_filter.mpr ⟨?_, ?_⟩)
      · rw [h1]
        have := nc_lv_of (ad := ad) (i := 0) e2
        rwa [Nat.zero_add] at this
      · rw [h1]
        simp only [nc_v_cat, Bool.and_eq_true, Bool.not_eq_true', beq_eq_false_iff_ne, Bool.and_eq_false_imp, beq_iff_eq]
        exact ⟨e1, e0, fun a b => e3 ⟨a, b⟩⟩)
/-- a reference that is one of the world's, or the text of signs -/
def nc_vok (v : nc_V) : Prop := match v with
  | .inr (.inr q) => nc_ok q = true ∨ q = (90, 0)
  | _ => True
def nc_Sok (st : List nc_V) : Prop := ∀ v ∈ st, nc_vok v
def nc_Lok (n : Nat) (L : nc_L) : Prop := L.length = n ∧ ∀ k v, nc_get L k = some v → nc_vok v
theorem nc_so_c {v : nc_V} {r : List nc_V} (h1 : nc_vok v) (h : nc_Sok r) : nc_Sok (v :: r) := fun u hu => (List.mem_cons.mp hu).elim (fun e => e ▸ h1) (h u)
theorem nc_so_t {v : nc_V} {r : List nc_V} (h : nc_Sok (v :: r)) : nc_Sok r := fun u hu => h u (List.mem_cons_of_mem _ hu)
theorem nc_so_h {v : nc_V} {r : List nc_V} (h : nc_Sok (v :: r)) : nc_vok v := h v List.mem_cons_self
theorem nc_lo_put1 {n k : Nat} {v : nc_V} {L : nc_L} (h1 : nc_vok v) (h : nc_Lok n L) : nc_Lok n (nc_put1 v L k) := ⟨(nc_put1_len L k).trans h.1, fun j u hj => by
  rcases nc_put1_get hj with ⟨_, e⟩ | ⟨_, e, _⟩
  · exact e ▸ h1
  · exact h.2 _ _ e⟩
theorem nc_lo_put2 {n k : Nat} {v : nc_V} {L : nc_L} (hk : k + 1 < n) (h1 : nc_vok v) (h : nc_Lok n L) : nc_Lok n (nc_put2 v L k) := ⟨(nc_put2_len L k).trans h.1, fun j u hj => by
  rcases nc_put2_get hj (by rw [h.1]; exact hk) with ⟨_, e⟩ | ⟨_, _, e, _⟩
  · exact e ▸ h1
  · exact h.2 _ _ e⟩
theorem nc_lo_mask {n : Nat} {bs : List Bool} {L : nc_L} (h : nc_Lok n L) : nc_Lok n (nc_mask bs L) := ⟨(nc_mask_len bs L).trans h.1, fun j u hj => h.2 _ _ (nc_mask_get hj)⟩
end
