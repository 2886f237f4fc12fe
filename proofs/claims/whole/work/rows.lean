section
-- ===== PART A: goes FIRST, ahead of the names: the tables' words, and 'selects' of the private methods out of them =====
/-- a private method of a class that the tables say can be made, by its rows of tables_1 -/
def lw_okq (q : MethodName × Nat) : Prop := (q.1.cls ≠ "java/lang/invoke/MethodHandle" ∧ q.1.cls ≠ "java/lang/invoke/VarHandle") ∧ Cond.instantiable q.1.cls q.2 ∈ tables_1 ∧ Cond.privateMethod q.1 ∈ tables_1 ∧ Cond.instanceMethod q.1 ∈ tables_1
theorem lw_p0 : lw_okq (⟨"ShareHouse", "readLease", "(I)I"⟩, 7) := ⟨⟨by decide +kernel, by decide +kernel⟩, List.mem_of_getElem? (i := 23) (by decide +kernel), List.mem_of_getElem? (i := 482) (by decide +kernel), List.mem_of_getElem? (i := 483) (by decide +kernel)⟩
theorem lw_p1 : lw_okq (⟨"ShareHouse$Tape", "step", "()V"⟩, 10) := ⟨⟨by decide +kernel, by decide +kernel⟩, List.mem_of_getElem? (i := 305) (by decide +kernel), List.mem_of_getElem? (i := 490) (by decide +kernel), List.mem_of_getElem? (i := 491) (by decide +kernel)⟩
theorem lw_p2 : lw_okq (⟨"ShareHouse$Tape", "readClause", "()Z"⟩, 10) := ⟨⟨by decide +kernel, by decide +kernel⟩, List.mem_of_getElem? (i := 305) (by decide +kernel), List.mem_of_getElem? (i := 494) (by decide +kernel), List.mem_of_getElem? (i := 495) (by decide +kernel)⟩
theorem lw_p3 : lw_okq (⟨"ShareHouse$Tape", "readHeads", "()Z"⟩, 10) := ⟨⟨by decide +kernel, by decide +kernel⟩, List.mem_of_getElem? (i := 305) (by decide +kernel), List.mem_of_getElem? (i := 502) (by decide +kernel), List.mem_of_getElem? (i := 503) (by decide +kernel)⟩
theorem lw_p4 : lw_okq (⟨"ShareHouse$Tape", "take", "(Ljava/lang/String;)Z"⟩, 10) := ⟨⟨by decide +kernel, by decide +kernel⟩, List.mem_of_getElem? (i := 305) (by decide +kernel), List.mem_of_getElem? (i := 507) (by decide +kernel), List.mem_of_getElem? (i := 508) (by decide +kernel)⟩
theorem lw_p5 : lw_okq (⟨"ShareHouse$Tape", "isAtHand", "(Ljava/lang/String;)Z"⟩, 10) := ⟨⟨by decide +kernel, by decide +kernel⟩, List.mem_of_getElem? (i := 305) (by decide +kernel), List.mem_of_getElem? (i := 511) (by decide +kernel), List.mem_of_getElem? (i := 512) (by decide +kernel)⟩
theorem lw_p6 : lw_okq (⟨"ShareHouse$Tape", "headAtHand", "()I"⟩, 10) := ⟨⟨by decide +kernel, by decide +kernel⟩, List.mem_of_getElem? (i := 305) (by decide +kernel), List.mem_of_getElem? (i := 563) (by decide +kernel), List.mem_of_getElem? (i := 564) (by decide +kernel)⟩
theorem lw_p7 : lw_okq (⟨"ShareHouse$Tape", "readShare", "()Z"⟩, 10) := ⟨⟨by decide +kernel, by decide +kernel⟩, List.mem_of_getElem? (i := 305) (by decide +kernel), List.mem_of_getElem? (i := 575) (by decide +kernel), List.mem_of_getElem? (i := 576) (by decide +kernel)⟩
theorem lw_p8 : lw_okq (⟨"ShareHouse$Tape", "plainShareAtHand", "()I"⟩, 10) := ⟨⟨by decide +kernel, by decide +kernel⟩, List.mem_of_getElem? (i := 305) (by decide +kernel), List.mem_of_getElem? (i := 579) (by decide +kernel), List.mem_of_getElem? (i := 580) (by decide +kernel)⟩
theorem lw_p9 : lw_okq (⟨"ShareHouse$Tape", "numberAtHand", "()I"⟩, 10) := ⟨⟨by decide +kernel, by decide +kernel⟩, List.mem_of_getElem? (i := 305) (by decide +kernel), List.mem_of_getElem? (i := 587) (by decide +kernel), List.mem_of_getElem? (i := 588) (by decide +kernel)⟩
theorem lw_p10 : lw_okq (⟨"ShareHouse$Tape", "readCondition", "()Z"⟩, 10) := ⟨⟨by decide +kernel, by decide +kernel⟩, List.mem_of_getElem? (i := 305) (by decide +kernel), List.mem_of_getElem? (i := 596) (by decide +kernel), List.mem_of_getElem? (i := 597) (by decide +kernel)⟩
theorem lw_p11 : lw_okq (⟨"ShareHouse$Tape", "readOne", "()Z"⟩, 10) := ⟨⟨by decide +kernel, by decide +kernel⟩, List.mem_of_getElem? (i := 305) (by decide +kernel), List.mem_of_getElem? (i := 600) (by decide +kernel), List.mem_of_getElem? (i := 601) (by decide +kernel)⟩
theorem lw_p12 : lw_okq (⟨"ShareHouse$Tape", "takeSemicolon", "()Z"⟩, 10) := ⟨⟨by decide +kernel, by decide +kernel⟩, List.mem_of_getElem? (i := 305) (by decide +kernel), List.mem_of_getElem? (i := 608) (by decide +kernel), List.mem_of_getElem? (i := 609) (by decide +kernel)⟩
theorem lw_p13 : lw_okq (⟨"ShareHouse$Parting", "readShareOf", "(LShareHouse$Flats;II)V"⟩, 7) := ⟨⟨by decide +kernel, by decide +kernel⟩, List.mem_of_getElem? (i := 368) (by decide +kernel), List.mem_of_getElem? (i := 649) (by decide +kernel), List.mem_of_getElem? (i := 650) (by decide +kernel)⟩
theorem lw_p14 : lw_okq (⟨"ShareHouse$Parting", "putShare", "(III)V"⟩, 7) := ⟨⟨by decide +kernel, by decide +kernel⟩, List.mem_of_getElem? (i := 368) (by decide +kernel), List.mem_of_getElem? (i := 659) (by decide +kernel), List.mem_of_getElem? (i := 660) (by decide +kernel)⟩
theorem lw_p15 : lw_okq (⟨"ShareHouse", "isPast", "(I)Z"⟩, 7) := ⟨⟨by decide +kernel, by decide +kernel⟩, List.mem_of_getElem? (i := 23) (by decide +kernel), List.mem_of_getElem? (i := 698) (by decide +kernel), List.mem_of_getElem? (i := 699) (by decide +kernel)⟩
def lw_privs_1 : List (MethodName × Nat) := [(⟨"ShareHouse", "readLease", "(I)I"⟩, 7), (⟨"ShareHouse$Tape", "step", "()V"⟩, 10), (⟨"ShareHouse$Tape", "readClause", "()Z"⟩, 10), (⟨"ShareHouse$Tape", "readHeads", "()Z"⟩, 10), (⟨"ShareHouse$Tape", "take", "(Ljava/lang/String;)Z"⟩, 10), (⟨"ShareHouse$Tape", "isAtHand", "(Ljava/lang/String;)Z"⟩, 10), (⟨"ShareHouse$Tape", "headAtHand", "()I"⟩, 10), (⟨"ShareHouse$Tape", "readShare", "()Z"⟩, 10), (⟨"ShareHouse$Tape", "plainShareAtHand", "()I"⟩, 10), (⟨"ShareHouse$Tape", "numberAtHand", "()I"⟩, 10), (⟨"ShareHouse$Tape", "readCondition", "()Z"⟩, 10), (⟨"ShareHouse$Tape", "readOne", "()Z"⟩, 10), (⟨"ShareHouse$Tape", "takeSemicolon", "()Z"⟩, 10), (⟨"ShareHouse$Parting", "readShareOf", "(LShareHouse$Flats;II)V"⟩, 7), (⟨"ShareHouse$Parting", "putShare", "(III)V"⟩, 7), (⟨"ShareHouse", "isPast", "(I)Z"⟩, 7)]
theorem lw_r1 : ∀ q ∈ lw_privs_1, lw_okq q := List.forall_mem_cons.mpr ⟨lw_p0, List.forall_mem_cons.mpr ⟨lw_p1, List.forall_mem_cons.mpr ⟨lw_p2, List.forall_mem_cons.mpr ⟨lw_p3, List.forall_mem_cons.mpr ⟨lw_p4, List.forall_mem_cons.mpr ⟨lw_p5, List.forall_mem_cons.mpr ⟨lw_p6, List.forall_mem_cons.mpr ⟨lw_p7, List.forall_mem_cons.mpr ⟨lw_p8, List.forall_mem_cons.mpr ⟨lw_p9, List.forall_mem_cons.mpr ⟨lw_p10, List.forall_mem_cons.mpr ⟨lw_p11, List.forall_mem_cons.mpr ⟨lw_p12, List.forall_mem_cons.mpr ⟨lw_p13, List.forall_mem_cons.mpr ⟨lw_p14, List.forall_mem_cons.mpr ⟨lw_p15, fun _ h => absurd h List.not_mem_nil⟩⟩⟩⟩⟩⟩⟩⟩⟩⟩⟩⟩⟩⟩⟩⟩
theorem lw_p16 : lw_okq (⟨"ShareHouse$Parting", "giveOut", "(II)V"⟩, 7) := ⟨⟨by decide +kernel, by decide +kernel⟩, List.mem_of_getElem? (i := 368) (by decide +kernel), List.mem_of_getElem? (i := 760) (by decide +kernel), List.mem_of_getElem? (i := 761) (by decide +kernel)⟩
theorem lw_p17 : lw_okq (⟨"ShareHouse$Parting", "capParts", "(II)V"⟩, 7) := ⟨⟨by decide +kernel, by decide +kernel⟩, List.mem_of_getElem? (i := 368) (by decide +kernel), List.mem_of_getElem? (i := 765) (by decide +kernel), List.mem_of_getElem? (i := 766) (by decide +kernel)⟩
theorem lw_p18 : lw_okq (⟨"ShareHouse$Accounts", "addParts", "(LShareHouse$House;LShareHouse$Parting;I)V"⟩, 4) := ⟨⟨by decide +kernel, by decide +kernel⟩, List.mem_of_getElem? (i := 403) (by decide +kernel), List.mem_of_getElem? (i := 821) (by decide +kernel), List.mem_of_getElem? (i := 822) (by decide +kernel)⟩
theorem lw_p19 : lw_okq (⟨"ShareHouse$Accounts", "readChanges", "(LShareHouse$House;II)V"⟩, 4) := ⟨⟨by decide +kernel, by decide +kernel⟩, List.mem_of_getElem? (i := 403) (by decide +kernel), List.mem_of_getElem? (i := 841) (by decide +kernel), List.mem_of_getElem? (i := 842) (by decide +kernel)⟩
theorem lw_p20 : lw_okq (⟨"ShareHouse$Accounts", "howManyAhead", "(I)I"⟩, 4) := ⟨⟨by decide +kernel, by decide +kernel⟩, List.mem_of_getElem? (i := 403) (by decide +kernel), List.mem_of_getElem? (i := 859) (by decide +kernel), List.mem_of_getElem? (i := 860) (by decide +kernel)⟩
theorem lw_p21 : lw_okq (⟨"ShareHouse$Works", "placeOf", "(I)I"⟩, 12) := ⟨⟨by decide +kernel, by decide +kernel⟩, List.mem_of_getElem? (i := 181) (by decide +kernel), List.mem_of_getElem? (i := 921) (by decide +kernel), List.mem_of_getElem? (i := 922) (by decide +kernel)⟩
theorem lw_p22 : lw_okq (⟨"ShareHouse$Reserve", "addRenewals", "(II)V"⟩, 7) := ⟨⟨by decide +kernel, by decide +kernel⟩, List.mem_of_getElem? (i := 229) (by decide +kernel), List.mem_of_getElem? (i := 956) (by decide +kernel), List.mem_of_getElem? (i := 957) (by decide +kernel)⟩
theorem lw_p23 : lw_okq (⟨"ShareHouse$Reserve", "leastPayFor", "(II)I"⟩, 7) := ⟨⟨by decide +kernel, by decide +kernel⟩, List.mem_of_getElem? (i := 229) (by decide +kernel), List.mem_of_getElem? (i := 961) (by decide +kernel), List.mem_of_getElem? (i := 962) (by decide +kernel)⟩
theorem lw_p24 : lw_okq (⟨"ShareHouse$Proof", "addRow", "(III)V"⟩, 4) := ⟨⟨by decide +kernel, by decide +kernel⟩, List.mem_of_getElem? (i := 346) (by decide +kernel), List.mem_of_getElem? (i := 985) (by decide +kernel), List.mem_of_getElem? (i := 986) (by decide +kernel)⟩
theorem lw_p25 : lw_okq (⟨"ShareHouse$Accounts", "readAreas", "(LShareHouse$House;)V"⟩, 4) := ⟨⟨by decide +kernel, by decide +kernel⟩, List.mem_of_getElem? (i := 403) (by decide +kernel), List.mem_of_getElem? (i := 1026) (by decide +kernel), List.mem_of_getElem? (i := 1027) (by decide +kernel)⟩
theorem lw_p26 : lw_okq (⟨"ShareHouse$Accounts", "areasOf", "(I)I"⟩, 4) := ⟨⟨by decide +kernel, by decide +kernel⟩, List.mem_of_getElem? (i := 403) (by decide +kernel), List.mem_of_getElem? (i := 1032) (by decide +kernel), List.mem_of_getElem? (i := 1033) (by decide +kernel)⟩
theorem lw_p27 : lw_okq (⟨"ShareHouseModel", "isFlat", "(I)Z"⟩, 30) := ⟨⟨by decide +kernel, by decide +kernel⟩, List.mem_of_getElem? (i := 1084) (by decide +kernel), List.mem_of_getElem? (i := 1201) (by decide +kernel), List.mem_of_getElem? (i := 1202) (by decide +kernel)⟩
theorem lw_p28 : lw_okq (⟨"ShareHouseModel", "next", "()V"⟩, 30) := ⟨⟨by decide +kernel, by decide +kernel⟩, List.mem_of_getElem? (i := 1084) (by decide +kernel), List.mem_of_getElem? (i := 1205) (by decide +kernel), List.mem_of_getElem? (i := 1206) (by decide +kernel)⟩
theorem lw_p29 : lw_okq (⟨"ShareHouseModel", "isLetter", "(I)Z"⟩, 30) := ⟨⟨by decide +kernel, by decide +kernel⟩, List.mem_of_getElem? (i := 1084) (by decide +kernel), List.mem_of_getElem? (i := 1209) (by decide +kernel), List.mem_of_getElem? (i := 1210) (by decide +kernel)⟩
theorem lw_p30 : lw_okq (⟨"ShareHouseModel", "isDigit", "(I)Z"⟩, 30) := ⟨⟨by decide +kernel, by decide +kernel⟩, List.mem_of_getElem? (i := 1084) (by decide +kernel), List.mem_of_getElem? (i := 1213) (by decide +kernel), List.mem_of_getElem? (i := 1214) (by decide +kernel)⟩
theorem lw_p31 : lw_okq (⟨"ShareHouseModel", "tellClause", "(I)V"⟩, 30) := ⟨⟨by decide +kernel, by decide +kernel⟩, List.mem_of_getElem? (i := 1084) (by decide +kernel), List.mem_of_getElem? (i := 1217) (by decide +kernel), List.mem_of_getElem? (i := 1218) (by decide +kernel)⟩
def lw_privs_2 : List (MethodName × Nat) := [(⟨"ShareHouse$Parting", "giveOut", "(II)V"⟩, 7), (⟨"ShareHouse$Parting", "capParts", "(II)V"⟩, 7), (⟨"ShareHouse$Accounts", "addParts", "(LShareHouse$House;LShareHouse$Parting;I)V"⟩, 4), (⟨"ShareHouse$Accounts", "readChanges", "(LShareHouse$House;II)V"⟩, 4), (⟨"ShareHouse$Accounts", "howManyAhead", "(I)I"⟩, 4), (⟨"ShareHouse$Works", "placeOf", "(I)I"⟩, 12), (⟨"ShareHouse$Reserve", "addRenewals", "(II)V"⟩, 7), (⟨"ShareHouse$Reserve", "leastPayFor", "(II)I"⟩, 7), (⟨"ShareHouse$Proof", "addRow", "(III)V"⟩, 4), (⟨"ShareHouse$Accounts", "readAreas", "(LShareHouse$House;)V"⟩, 4), (⟨"ShareHouse$Accounts", "areasOf", "(I)I"⟩, 4), (⟨"ShareHouseModel", "isFlat", "(I)Z"⟩, 30), (⟨"ShareHouseModel", "next", "()V"⟩, 30), (⟨"ShareHouseModel", "isLetter", "(I)Z"⟩, 30), (⟨"ShareHouseModel", "isDigit", "(I)Z"⟩, 30), (⟨"ShareHouseModel", "tellClause", "(I)V"⟩, 30)]
theorem lw_r2 : ∀ q ∈ lw_privs_2, lw_okq q := List.forall_mem_cons.mpr ⟨lw_p16, List.forall_mem_cons.mpr ⟨lw_p17, List.forall_mem_cons.mpr ⟨lw_p18, List.forall_mem_cons.mpr ⟨lw_p19, List.forall_mem_cons.mpr ⟨lw_p20, List.forall_mem_cons.mpr ⟨lw_p21, List.forall_mem_cons.mpr ⟨lw_p22, List.forall_mem_cons.mpr ⟨lw_p23, List.forall_mem_cons.mpr ⟨lw_p24, List.forall_mem_cons.mpr ⟨lw_p25, List.forall_mem_cons.mpr ⟨lw_p26, List.forall_mem_cons.mpr ⟨lw_p27, List.forall_mem_cons.mpr ⟨lw_p28, List.forall_mem_cons.mpr ⟨lw_p29, List.forall_mem_cons.mpr ⟨lw_p30, List.forall_mem_cons.mpr ⟨lw_p31, fun _ h => absurd h List.not_mem_nil⟩⟩⟩⟩⟩⟩⟩⟩⟩⟩⟩⟩⟩⟩⟩⟩
theorem lw_p32 : lw_okq (⟨"ShareHouseModel", "bad", "()V"⟩, 30) := ⟨⟨by decide +kernel, by decide +kernel⟩, List.mem_of_getElem? (i := 1084) (by decide +kernel), List.mem_of_getElem? (i := 1221) (by decide +kernel), List.mem_of_getElem? (i := 1222) (by decide +kernel)⟩
theorem lw_p33 : lw_okq (⟨"ShareHouseModel", "heads", "()I"⟩, 30) := ⟨⟨by decide +kernel, by decide +kernel⟩, List.mem_of_getElem? (i := 1084) (by decide +kernel), List.mem_of_getElem? (i := 1225) (by decide +kernel), List.mem_of_getElem? (i := 1226) (by decide +kernel)⟩
theorem lw_p34 : lw_okq (⟨"ShareHouseModel", "may", "(JI)Z"⟩, 30) := ⟨⟨by decide +kernel, by decide +kernel⟩, List.mem_of_getElem? (i := 1084) (by decide +kernel), List.mem_of_getElem? (i := 1230) (by decide +kernel), List.mem_of_getElem? (i := 1231) (by decide +kernel)⟩
theorem lw_p35 : lw_okq (⟨"ShareHouseModel", "isName", "(JI)Z"⟩, 30) := ⟨⟨by decide +kernel, by decide +kernel⟩, List.mem_of_getElem? (i := 1084) (by decide +kernel), List.mem_of_getElem? (i := 1234) (by decide +kernel), List.mem_of_getElem? (i := 1235) (by decide +kernel)⟩
theorem lw_p36 : lw_okq (⟨"ShareHouseModel", "oneHead", "()I"⟩, 30) := ⟨⟨by decide +kernel, by decide +kernel⟩, List.mem_of_getElem? (i := 1084) (by decide +kernel), List.mem_of_getElem? (i := 1238) (by decide +kernel), List.mem_of_getElem? (i := 1239) (by decide +kernel)⟩
theorem lw_p37 : lw_okq (⟨"ShareHouseModel", "head", "()I"⟩, 30) := ⟨⟨by decide +kernel, by decide +kernel⟩, List.mem_of_getElem? (i := 1084) (by decide +kernel), List.mem_of_getElem? (i := 1242) (by decide +kernel), List.mem_of_getElem? (i := 1243) (by decide +kernel)⟩
theorem lw_p38 : lw_okq (⟨"ShareHouseModel", "must", "(JI)V"⟩, 30) := ⟨⟨by decide +kernel, by decide +kernel⟩, List.mem_of_getElem? (i := 1084) (by decide +kernel), List.mem_of_getElem? (i := 1254) (by decide +kernel), List.mem_of_getElem? (i := 1255) (by decide +kernel)⟩
theorem lw_p39 : lw_okq (⟨"ShareHouseModel", "tellShare", "()V"⟩, 30) := ⟨⟨by decide +kernel, by decide +kernel⟩, List.mem_of_getElem? (i := 1084) (by decide +kernel), List.mem_of_getElem? (i := 1258) (by decide +kernel), List.mem_of_getElem? (i := 1259) (by decide +kernel)⟩
theorem lw_p40 : lw_okq (⟨"ShareHouseModel", "number", "(II)I"⟩, 30) := ⟨⟨by decide +kernel, by decide +kernel⟩, List.mem_of_getElem? (i := 1084) (by decide +kernel), List.mem_of_getElem? (i := 1266) (by decide +kernel), List.mem_of_getElem? (i := 1267) (by decide +kernel)⟩
theorem lw_p41 : lw_okq (⟨"ShareHouseModel", "cond", "(I)V"⟩, 30) := ⟨⟨by decide +kernel, by decide +kernel⟩, List.mem_of_getElem? (i := 1084) (by decide +kernel), List.mem_of_getElem? (i := 1271) (by decide +kernel), List.mem_of_getElem? (i := 1272) (by decide +kernel)⟩
theorem lw_p42 : lw_okq (⟨"ShareHouseModel", "one", "(I)Z"⟩, 30) := ⟨⟨by decide +kernel, by decide +kernel⟩, List.mem_of_getElem? (i := 1084) (by decide +kernel), List.mem_of_getElem? (i := 1276) (by decide +kernel), List.mem_of_getElem? (i := 1277) (by decide +kernel)⟩
theorem lw_p43 : lw_okq (⟨"ShareHouseModel", "flatOf", "(II)I"⟩, 30) := ⟨⟨by decide +kernel, by decide +kernel⟩, List.mem_of_getElem? (i := 1084) (by decide +kernel), List.mem_of_getElem? (i := 1282) (by decide +kernel), List.mem_of_getElem? (i := 1283) (by decide +kernel)⟩
theorem lw_p44 : lw_okq (⟨"ShareHouseModel", "clauseOf", "(III)I"⟩, 30) := ⟨⟨by decide +kernel, by decide +kernel⟩, List.mem_of_getElem? (i := 1084) (by decide +kernel), List.mem_of_getElem? (i := 1293) (by decide +kernel), List.mem_of_getElem? (i := 1294) (by decide +kernel)⟩
theorem lw_p45 : lw_okq (⟨"ShareHouseModel", "findShare", "(II)V"⟩, 30) := ⟨⟨by decide +kernel, by decide +kernel⟩, List.mem_of_getElem? (i := 1084) (by decide +kernel), List.mem_of_getElem? (i := 1304) (by decide +kernel), List.mem_of_getElem? (i := 1305) (by decide +kernel)⟩
theorem lw_p46 : lw_okq (⟨"ShareHouseModel", "together", "(I)I"⟩, 30) := ⟨⟨by decide +kernel, by decide +kernel⟩, List.mem_of_getElem? (i := 1084) (by decide +kernel), List.mem_of_getElem? (i := 1308) (by decide +kernel), List.mem_of_getElem? (i := 1309) (by decide +kernel)⟩
theorem lw_p47 : lw_okq (⟨"ShareHouseModel", "findShares", "(I)V"⟩, 30) := ⟨⟨by decide +kernel, by decide +kernel⟩, List.mem_of_getElem? (i := 1084) (by decide +kernel), List.mem_of_getElem? (i := 1320) (by decide +kernel), List.mem_of_getElem? (i := 1321) (by decide +kernel)⟩
def lw_privs_3 : List (MethodName × Nat) := [(⟨"ShareHouseModel", "bad", "()V"⟩, 30), (⟨"ShareHouseModel", "heads", "()I"⟩, 30), (⟨"ShareHouseModel", "may", "(JI)Z"⟩, 30), (⟨"ShareHouseModel", "isName", "(JI)Z"⟩, 30), (⟨"ShareHouseModel", "oneHead", "()I"⟩, 30), (⟨"ShareHouseModel", "head", "()I"⟩, 30), (⟨"ShareHouseModel", "must", "(JI)V"⟩, 30), (⟨"ShareHouseModel", "tellShare", "()V"⟩, 30), (⟨"ShareHouseModel", "number", "(II)I"⟩, 30), (⟨"ShareHouseModel", "cond", "(I)V"⟩, 30), (⟨"ShareHouseModel", "one", "(I)Z"⟩, 30), (⟨"ShareHouseModel", "flatOf", "(II)I"⟩, 30), (⟨"ShareHouseModel", "clauseOf", "(III)I"⟩, 30), (⟨"ShareHouseModel", "findShare", "(II)V"⟩, 30), (⟨"ShareHouseModel", "together", "(I)I"⟩, 30), (⟨"ShareHouseModel", "findShares", "(I)V"⟩, 30)]
theorem lw_r3 : ∀ q ∈ lw_privs_3, lw_okq q := List.forall_mem_cons.mpr ⟨lw_p32, List.forall_mem_cons.mpr ⟨lw_p33, List.forall_mem_cons.mpr ⟨lw_p34, List.forall_mem_cons.mpr ⟨lw_p35, List.forall_mem_cons.mpr ⟨lw_p36, List.forall_mem_cons.mpr ⟨lw_p37, List.forall_mem_cons.mpr ⟨lw_p38, List.forall_mem_cons.mpr ⟨lw_p39, List.forall_mem_cons.mpr ⟨lw_p40, List.forall_mem_cons.mpr ⟨lw_p41, List.forall_mem_cons.mpr ⟨lw_p42, List.forall_mem_cons.mpr ⟨lw_p43, List.forall_mem_cons.mpr ⟨lw_p44, List.forall_mem_cons.mpr ⟨lw_p45, List.forall_mem_cons.mpr ⟨lw_p46, List.forall_mem_cons.mpr ⟨lw_p47, fun _ h => absurd h List.not_mem_nil⟩⟩⟩⟩⟩⟩⟩⟩⟩⟩⟩⟩⟩⟩⟩⟩
theorem lw_p48 : lw_okq (⟨"ShareHouseModel", "isKnownDay", "(I)Z"⟩, 30) := ⟨⟨by decide +kernel, by decide +kernel⟩, List.mem_of_getElem? (i := 1084) (by decide +kernel), List.mem_of_getElem? (i := 1340) (by decide +kernel), List.mem_of_getElem? (i := 1341) (by decide +kernel)⟩
theorem lw_p49 : lw_okq (⟨"ShareHouseModel", "addCost", "(IIII)I"⟩, 30) := ⟨⟨by decide +kernel, by decide +kernel⟩, List.mem_of_getElem? (i := 1084) (by decide +kernel), List.mem_of_getElem? (i := 1344) (by decide +kernel), List.mem_of_getElem? (i := 1345) (by decide +kernel)⟩
theorem lw_p50 : lw_okq (⟨"ShareHouseModel", "isCost", "(I)Z"⟩, 30) := ⟨⟨by decide +kernel, by decide +kernel⟩, List.mem_of_getElem? (i := 1084) (by decide +kernel), List.mem_of_getElem? (i := 1352) (by decide +kernel), List.mem_of_getElem? (i := 1353) (by decide +kernel)⟩
theorem lw_p51 : lw_okq (⟨"ShareHouseModel", "mayRight", "(I)I"⟩, 30) := ⟨⟨by decide +kernel, by decide +kernel⟩, List.mem_of_getElem? (i := 1084) (by decide +kernel), List.mem_of_getElem? (i := 1356) (by decide +kernel), List.mem_of_getElem? (i := 1357) (by decide +kernel)⟩
theorem lw_p52 : lw_okq (⟨"ShareHouseModel", "costAt", "(II)I"⟩, 30) := ⟨⟨by decide +kernel, by decide +kernel⟩, List.mem_of_getElem? (i := 1084) (by decide +kernel), List.mem_of_getElem? (i := 1360) (by decide +kernel), List.mem_of_getElem? (i := 1361) (by decide +kernel)⟩
theorem lw_p53 : lw_okq (⟨"ShareHouseModel", "pence", "(II)I"⟩, 30) := ⟨⟨by decide +kernel, by decide +kernel⟩, List.mem_of_getElem? (i := 1084) (by decide +kernel), List.mem_of_getElem? (i := 1364) (by decide +kernel), List.mem_of_getElem? (i := 1365) (by decide +kernel)⟩
theorem lw_p54 : lw_okq (⟨"ShareHouseModel", "putRight", "(II)V"⟩, 30) := ⟨⟨by decide +kernel, by decide +kernel⟩, List.mem_of_getElem? (i := 1084) (by decide +kernel), List.mem_of_getElem? (i := 1368) (by decide +kernel), List.mem_of_getElem? (i := 1369) (by decide +kernel)⟩
theorem lw_p55 : lw_okq (⟨"ShareHouseModel", "levelOf", "(I)I"⟩, 30) := ⟨⟨by decide +kernel, by decide +kernel⟩, List.mem_of_getElem? (i := 1084) (by decide +kernel), List.mem_of_getElem? (i := 1376) (by decide +kernel), List.mem_of_getElem? (i := 1377) (by decide +kernel)⟩
theorem lw_p56 : lw_okq (⟨"ShareHouseModel", "findParts", "(II)V"⟩, 30) := ⟨⟨by decide +kernel, by decide +kernel⟩, List.mem_of_getElem? (i := 1084) (by decide +kernel), List.mem_of_getElem? (i := 1384) (by decide +kernel), List.mem_of_getElem? (i := 1385) (by decide +kernel)⟩
theorem lw_p57 : lw_okq (⟨"ShareHouseModel", "dueLine", "(I)J"⟩, 30) := ⟨⟨by decide +kernel, by decide +kernel⟩, List.mem_of_getElem? (i := 1084) (by decide +kernel), List.mem_of_getElem? (i := 1388) (by decide +kernel), List.mem_of_getElem? (i := 1389) (by decide +kernel)⟩
theorem lw_p58 : lw_okq (⟨"ShareHouseModel", "ownerOf", "(II)I"⟩, 30) := ⟨⟨by decide +kernel, by decide +kernel⟩, List.mem_of_getElem? (i := 1084) (by decide +kernel), List.mem_of_getElem? (i := 1409) (by decide +kernel), List.mem_of_getElem? (i := 1410) (by decide +kernel)⟩
theorem lw_p59 : lw_okq (⟨"ShareHouseModel", "findBill", "(II)I"⟩, 30) := ⟨⟨by decide +kernel, by decide +kernel⟩, List.mem_of_getElem? (i := 1084) (by decide +kernel), List.mem_of_getElem? (i := 1421) (by decide +kernel), List.mem_of_getElem? (i := 1422) (by decide +kernel)⟩
theorem lw_p60 : lw_okq (⟨"ShareHouseModel", "paid", "(II)I"⟩, 30) := ⟨⟨by decide +kernel, by decide +kernel⟩, List.mem_of_getElem? (i := 1084) (by decide +kernel), List.mem_of_getElem? (i := 1425) (by decide +kernel), List.mem_of_getElem? (i := 1426) (by decide +kernel)⟩
theorem lw_p61 : lw_okq (⟨"ShareHouseModel", "interest", "(II)I"⟩, 30) := ⟨⟨by decide +kernel, by decide +kernel⟩, List.mem_of_getElem? (i := 1084) (by decide +kernel), List.mem_of_getElem? (i := 1429) (by decide +kernel), List.mem_of_getElem? (i := 1430) (by decide +kernel)⟩
theorem lw_p62 : lw_okq (⟨"ShareHouseModel", "isWork", "(I)Z"⟩, 30) := ⟨⟨by decide +kernel, by decide +kernel⟩, List.mem_of_getElem? (i := 1084) (by decide +kernel), List.mem_of_getElem? (i := 1446) (by decide +kernel), List.mem_of_getElem? (i := 1447) (by decide +kernel)⟩
theorem lw_p63 : lw_okq (⟨"ShareHouseModel", "workOf", "(II)I"⟩, 30) := ⟨⟨by decide +kernel, by decide +kernel⟩, List.mem_of_getElem? (i := 1084) (by decide +kernel), List.mem_of_getElem? (i := 1450) (by decide +kernel), List.mem_of_getElem? (i := 1451) (by decide +kernel)⟩
def lw_privs_4 : List (MethodName × Nat) := [(⟨"ShareHouseModel", "isKnownDay", "(I)Z"⟩, 30), (⟨"ShareHouseModel", "addCost", "(IIII)I"⟩, 30), (⟨"ShareHouseModel", "isCost", "(I)Z"⟩, 30), (⟨"ShareHouseModel", "mayRight", "(I)I"⟩, 30), (⟨"ShareHouseModel", "costAt", "(II)I"⟩, 30), (⟨"ShareHouseModel", "pence", "(II)I"⟩, 30), (⟨"ShareHouseModel", "putRight", "(II)V"⟩, 30), (⟨"ShareHouseModel", "levelOf", "(I)I"⟩, 30), (⟨"ShareHouseModel", "findParts", "(II)V"⟩, 30), (⟨"ShareHouseModel", "dueLine", "(I)J"⟩, 30), (⟨"ShareHouseModel", "ownerOf", "(II)I"⟩, 30), (⟨"ShareHouseModel", "findBill", "(II)I"⟩, 30), (⟨"ShareHouseModel", "paid", "(II)I"⟩, 30), (⟨"ShareHouseModel", "interest", "(II)I"⟩, 30), (⟨"ShareHouseModel", "isWork", "(I)Z"⟩, 30), (⟨"ShareHouseModel", "workOf", "(II)I"⟩, 30)]
theorem lw_r4 : ∀ q ∈ lw_privs_4, lw_okq q := List.forall_mem_cons.mpr ⟨lw_p48, List.forall_mem_cons.mpr ⟨lw_p49, List.forall_mem_cons.mpr ⟨lw_p50, List.forall_mem_cons.mpr ⟨lw_p51, List.forall_mem_cons.mpr ⟨lw_p52, List.forall_mem_cons.mpr ⟨lw_p53, List.forall_mem_cons.mpr ⟨lw_p54, List.forall_mem_cons.mpr ⟨lw_p55, List.forall_mem_cons.mpr ⟨lw_p56, List.forall_mem_cons.mpr ⟨lw_p57, List.forall_mem_cons.mpr ⟨lw_p58, List.forall_mem_cons.mpr ⟨lw_p59, List.forall_mem_cons.mpr ⟨lw_p60, List.forall_mem_cons.mpr ⟨lw_p61, List.forall_mem_cons.mpr ⟨lw_p62, List.forall_mem_cons.mpr ⟨lw_p63, fun _ h => absurd h List.not_mem_nil⟩⟩⟩⟩⟩⟩⟩⟩⟩⟩⟩⟩⟩⟩⟩⟩
theorem lw_p64 : lw_okq (⟨"ShareHouseModel", "cappedBy", "(I)I"⟩, 30) := ⟨⟨by decide +kernel, by decide +kernel⟩, List.mem_of_getElem? (i := 1084) (by decide +kernel), List.mem_of_getElem? (i := 1462) (by decide +kernel), List.mem_of_getElem? (i := 1463) (by decide +kernel)⟩
theorem lw_p65 : lw_okq (⟨"ShareHouseModel", "fairOf", "(I)I"⟩, 30) := ⟨⟨by decide +kernel, by decide +kernel⟩, List.mem_of_getElem? (i := 1084) (by decide +kernel), List.mem_of_getElem? (i := 1478) (by decide +kernel), List.mem_of_getElem? (i := 1479) (by decide +kernel)⟩
theorem lw_p66 : lw_okq (⟨"ShareHouseModel", "isSet", "(I)Z"⟩, 30) := ⟨⟨by decide +kernel, by decide +kernel⟩, List.mem_of_getElem? (i := 1084) (by decide +kernel), List.mem_of_getElem? (i := 1494) (by decide +kernel), List.mem_of_getElem? (i := 1495) (by decide +kernel)⟩
theorem lw_p67 : lw_okq (⟨"ShareHouseModel", "levelPay", "(I)I"⟩, 30) := ⟨⟨by decide +kernel, by decide +kernel⟩, List.mem_of_getElem? (i := 1084) (by decide +kernel), List.mem_of_getElem? (i := 1498) (by decide +kernel), List.mem_of_getElem? (i := 1499) (by decide +kernel)⟩
theorem lw_p68 : lw_okq (⟨"ShareHouseModel", "findSpent", "(I)V"⟩, 30) := ⟨⟨by decide +kernel, by decide +kernel⟩, List.mem_of_getElem? (i := 1084) (by decide +kernel), List.mem_of_getElem? (i := 1502) (by decide +kernel), List.mem_of_getElem? (i := 1503) (by decide +kernel)⟩
theorem lw_p69 : lw_okq (⟨"ShareHouseModel", "lacks", "(II)I"⟩, 30) := ⟨⟨by decide +kernel, by decide +kernel⟩, List.mem_of_getElem? (i := 1084) (by decide +kernel), List.mem_of_getElem? (i := 1506) (by decide +kernel), List.mem_of_getElem? (i := 1507) (by decide +kernel)⟩
theorem lw_p70 : lw_okq (⟨"ShareHouseModel", "binds", "(I)I"⟩, 30) := ⟨⟨by decide +kernel, by decide +kernel⟩, List.mem_of_getElem? (i := 1084) (by decide +kernel), List.mem_of_getElem? (i := 1510) (by decide +kernel), List.mem_of_getElem? (i := 1511) (by decide +kernel)⟩
theorem lw_p71 : lw_okq (⟨"ShareHouseModel", "isCell", "(II)Z"⟩, 30) := ⟨⟨by decide +kernel, by decide +kernel⟩, List.mem_of_getElem? (i := 1084) (by decide +kernel), List.mem_of_getElem? (i := 1529) (by decide +kernel), List.mem_of_getElem? (i := 1530) (by decide +kernel)⟩
def lw_privs_5 : List (MethodName × Nat) := [(⟨"ShareHouseModel", "cappedBy", "(I)I"⟩, 30), (⟨"ShareHouseModel", "fairOf", "(I)I"⟩, 30), (⟨"ShareHouseModel", "isSet", "(I)Z"⟩, 30), (⟨"ShareHouseModel", "levelPay", "(I)I"⟩, 30), (⟨"ShareHouseModel", "findSpent", "(I)V"⟩, 30), (⟨"ShareHouseModel", "lacks", "(II)I"⟩, 30), (⟨"ShareHouseModel", "binds", "(I)I"⟩, 30), (⟨"ShareHouseModel", "isCell", "(II)Z"⟩, 30)]
theorem lw_r5 : ∀ q ∈ lw_privs_5, lw_okq q := List.forall_mem_cons.mpr ⟨lw_p64, List.forall_mem_cons.mpr ⟨lw_p65, List.forall_mem_cons.mpr ⟨lw_p66, List.forall_mem_cons.mpr ⟨lw_p67, List.forall_mem_cons.mpr ⟨lw_p68, List.forall_mem_cons.mpr ⟨lw_p69, List.forall_mem_cons.mpr ⟨lw_p70, List.forall_mem_cons.mpr ⟨lw_p71, fun _ h => absurd h List.not_mem_nil⟩⟩⟩⟩⟩⟩⟩⟩
def lw_privs : List (MethodName × Nat) := lw_privs_1 ++ (lw_privs_2 ++ (lw_privs_3 ++ (lw_privs_4 ++ (lw_privs_5))))
def lw_tbl : List Cond := k2_sels lw_privs ++ tables_1
theorem lw_privs_ok : ∀ q ∈ lw_privs, lw_okq q := by
  show ∀ q ∈ lw_privs_1 ++ (lw_privs_2 ++ (lw_privs_3 ++ (lw_privs_4 ++ (lw_privs_5)))), lw_okq q
  exact List.forall_mem_append.mpr ⟨lw_r1, List.forall_mem_append.mpr ⟨lw_r2, List.forall_mem_append.mpr ⟨lw_r3, List.forall_mem_append.mpr ⟨lw_r4, lw_r5⟩⟩⟩⟩
-- ===== end of PART A; then your names; then what follows =====
end
section
def RX0 : String := "ShareHouse$Accounts"
def TX0 : u_T := fun k => match k with
  | 0 => ("ShareHouse$Accounts", "bills", "[[I", true)
  | 1 => ("ShareHouse$Accounts", "changes", "[I", true)
  | 2 => ("ShareHouse$Accounts", "debts", "[I", true)
  | _ => ("ShareHouse$Accounts", "areas", "[I", true)
def tyX0 : Nat → FieldType := fun k => match k with
  | 0 => .array (.array .int)
  | 1 => .array .int
  | 2 => .array .int
  | _ => .array .int
theorem nmX0 : ∀ a, a < 4 → ∀ b, b < 4 → a ≠ b → (TX0 a).2.1 ≠ (TX0 b).2.1 := by decide +kernel
theorem tyX0_ok : ∀ k, k < 4 → parseFieldDescriptor (TX0 k).2.2.1 = some (tyX0 k) := by decide +kernel
theorem inX0 : ∀ w ∈ u_ws RX0 TX0 4, w ∈ tables_1 := by
  have h : u_ws RX0 TX0 4 = [414, 416, 418, 420].filterMap (fun i => tables_1[i]?) := by decide +kernel
  rw [h]; exact fun w hw => by
    obtain ⟨i, -, hi⟩ := List.mem_filterMap.mp hw
    exact List.mem_of_getElem? hi
def RX1 : String := "ShareHouse$Costs"
def TX1 : u_T := fun k => match k with
  | 0 => ("ShareHouse$Costs", "heads", "[I", true)
  | 1 => ("ShareHouse$Costs", "days", "[I", true)
  | 2 => ("ShareHouse$Costs", "pence", "[I", true)
  | 3 => ("ShareHouse$Costs", "knownFrom", "[I", true)
  | 4 => ("ShareHouse$Costs", "isCapped", "[Z", true)
  | 5 => ("ShareHouse$Costs", "count", "I", false)
  | 6 => ("ShareHouse$Costs", "rightCosts", "[I", true)
  | 7 => ("ShareHouse$Costs", "rightPence", "[I", true)
  | 8 => ("ShareHouse$Costs", "rightDays", "[I", true)
  | _ => ("ShareHouse$Costs", "rightCount", "I", false)
def tyX1 : Nat → FieldType := fun k => match k with
  | 0 => .array .int
  | 1 => .array .int
  | 2 => .array .int
  | 3 => .array .int
  | 4 => .array .boolean
  | 5 => .int
  | 6 => .array .int
  | 7 => .array .int
  | 8 => .array .int
  | _ => .int
theorem nmX1 : ∀ a, a < 10 → ∀ b, b < 10 → a ≠ b → (TX1 a).2.1 ≠ (TX1 b).2.1 := by decide +kernel
theorem tyX1_ok : ∀ k, k < 10 → parseFieldDescriptor (TX1 k).2.2.1 = some (tyX1 k) := by decide +kernel
theorem inX1 : ∀ w ∈ u_ws RX1 TX1 10, w ∈ tables_1 := by
  have h : u_ws RX1 TX1 10 = [122, 124, 126, 128, 130, 132, 134, 136, 138, 140].filterMap (fun i => tables_1[i]?) := by decide +kernel
  rw [h]; exact fun w hw => by
    obtain ⟨i, -, hi⟩ := List.mem_filterMap.mp hw
    exact List.mem_of_getElem? hi
def RX2 : String := "ShareHouse$Flats"
def TX2 : u_T := fun k => match k with
  | 0 => ("ShareHouse$Flats", "floors", "[I", true)
  | 1 => ("ShareHouse$Flats", "areas", "[I", true)
  | 2 => ("ShareHouse$Flats", "shops", "[Z", true)
  | 3 => ("ShareHouse$Flats", "leases", "[LShareHouse$Lease;", true)
  | _ => ("ShareHouse$Flats", "count", "I", false)
def tyX2 : Nat → FieldType := fun k => match k with
  | 0 => .array .int
  | 1 => .array .int
  | 2 => .array .boolean
  | 3 => .array (.object "ShareHouse$Lease")
  | _ => .int
theorem nmX2 : ∀ a, a < 5 → ∀ b, b < 5 → a ≠ b → (TX2 a).2.1 ≠ (TX2 b).2.1 := by decide +kernel
theorem tyX2_ok : ∀ k, k < 5 → parseFieldDescriptor (TX2 k).2.2.1 = some (tyX2 k) := by decide +kernel
theorem inX2 : ∀ w ∈ u_ws RX2 TX2 5, w ∈ tables_1 := by
  have h : u_ws RX2 TX2 5 = [84, 86, 88, 90, 92].filterMap (fun i => tables_1[i]?) := by decide +kernel
  rw [h]; exact fun w hw => by
    obtain ⟨i, -, hi⟩ := List.mem_filterMap.mp hw
    exact List.mem_of_getElem? hi
def RX3 : String := "ShareHouse$House"
def TX3 : u_T := fun k => match k with
  | 0 => ("ShareHouse$House", "today", "I", false)
  | 1 => ("ShareHouse$House", "rules", "[I", true)
  | 2 => ("ShareHouse$House", "laws", "[I", true)
  | 3 => ("ShareHouse$House", "flats", "LShareHouse$Flats;", true)
  | 4 => ("ShareHouse$House", "costs", "LShareHouse$Costs;", true)
  | 5 => ("ShareHouse$House", "owners", "LShareHouse$Owners;", true)
  | 6 => ("ShareHouse$House", "works", "LShareHouse$Works;", true)
  | _ => ("ShareHouse$House", "reserve", "LShareHouse$Reserve;", true)
def tyX3 : Nat → FieldType := fun k => match k with
  | 0 => .int
  | 1 => .array .int
  | 2 => .array .int
  | 3 => .object "ShareHouse$Flats"
  | 4 => .object "ShareHouse$Costs"
  | 5 => .object "ShareHouse$Owners"
  | 6 => .object "ShareHouse$Works"
  | _ => .object "ShareHouse$Reserve"
theorem nmX3 : ∀ a, a < 8 → ∀ b, b < 8 → a ≠ b → (TX3 a).2.1 ≠ (TX3 b).2.1 := by decide +kernel
theorem tyX3_ok : ∀ k, k < 8 → parseFieldDescriptor (TX3 k).2.2.1 = some (tyX3 k) := by decide +kernel
theorem inX3 : ∀ w ∈ u_ws RX3 TX3 8, w ∈ tables_1 := by
  have h : u_ws RX3 TX3 8 = [287, 289, 291, 293, 295, 297, 299, 301].filterMap (fun i => tables_1[i]?) := by decide +kernel
  rw [h]; exact fun w hw => by
    obtain ⟨i, -, hi⟩ := List.mem_filterMap.mp hw
    exact List.mem_of_getElem? hi
def RX4 : String := "ShareHouse$Lease"
def TX4 : u_T := fun k => match k with
  | 0 => ("ShareHouse$Lease", "cells", "[I", true)
  | _ => ("ShareHouse$Lease", "count", "I", false)
def tyX4 : Nat → FieldType := fun k => match k with
  | 0 => .array .int
  | _ => .int
theorem nmX4 : ∀ a, a < 2 → ∀ b, b < 2 → a ≠ b → (TX4 a).2.1 ≠ (TX4 b).2.1 := by decide +kernel
theorem tyX4_ok : ∀ k, k < 2 → parseFieldDescriptor (TX4 k).2.2.1 = some (tyX4 k) := by decide +kernel
theorem inX4 : ∀ w ∈ u_ws RX4 TX4 2, w ∈ tables_1 := by
  have h : u_ws RX4 TX4 2 = [62, 64].filterMap (fun i => tables_1[i]?) := by decide +kernel
  rw [h]; exact fun w hw => by
    obtain ⟨i, -, hi⟩ := List.mem_filterMap.mp hw
    exact List.mem_of_getElem? hi
def RX5 : String := "ShareHouse$Owners"
def TX5 : u_T := fun k => match k with
  | 0 => ("ShareHouse$Owners", "saleFlats", "[I", true)
  | 1 => ("ShareHouse$Owners", "saleOwners", "[I", true)
  | 2 => ("ShareHouse$Owners", "saleDays", "[I", true)
  | 3 => ("ShareHouse$Owners", "saleCount", "I", false)
  | 4 => ("ShareHouse$Owners", "payers", "[I", true)
  | 5 => ("ShareHouse$Owners", "payPence", "[I", true)
  | 6 => ("ShareHouse$Owners", "payDays", "[I", true)
  | _ => ("ShareHouse$Owners", "paymentCount", "I", false)
def tyX5 : Nat → FieldType := fun k => match k with
  | 0 => .array .int
  | 1 => .array .int
  | 2 => .array .int
  | 3 => .int
  | 4 => .array .int
  | 5 => .array .int
  | 6 => .array .int
  | _ => .int
theorem nmX5 : ∀ a, a < 8 → ∀ b, b < 8 → a ≠ b → (TX5 a).2.1 ≠ (TX5 b).2.1 := by decide +kernel
theorem tyX5_ok : ∀ k, k < 8 → parseFieldDescriptor (TX5 k).2.2.1 = some (tyX5 k) := by decide +kernel
theorem inX5 : ∀ w ∈ u_ws RX5 TX5 8, w ∈ tables_1 := by
  have h : u_ws RX5 TX5 8 = [163, 165, 167, 169, 171, 173, 175, 177].filterMap (fun i => tables_1[i]?) := by decide +kernel
  rw [h]; exact fun w hw => by
    obtain ⟨i, -, hi⟩ := List.mem_filterMap.mp hw
    exact List.mem_of_getElem? hi
def RX6 : String := "ShareHouse$Parting"
def TX6 : u_T := fun k => match k with
  | 0 => ("ShareHouse$Parting", "tops", "[J", true)
  | 1 => ("ShareHouse$Parting", "bottoms", "[J", true)
  | 2 => ("ShareHouse$Parting", "weights", "[J", true)
  | 3 => ("ShareHouse$Parting", "rests", "[J", true)
  | 4 => ("ShareHouse$Parting", "parts", "[I", true)
  | 5 => ("ShareHouse$Parting", "whole", "J", false)
  | _ => ("ShareHouse$Parting", "total", "J", false)
def tyX6 : Nat → FieldType := fun k => match k with
  | 0 => .array .long
  | 1 => .array .long
  | 2 => .array .long
  | 3 => .array .long
  | 4 => .array .int
  | 5 => .long
  | _ => .long
theorem nmX6 : ∀ a, a < 7 → ∀ b, b < 7 → a ≠ b → (TX6 a).2.1 ≠ (TX6 b).2.1 := by decide +kernel
theorem tyX6_ok : ∀ k, k < 7 → parseFieldDescriptor (TX6 k).2.2.1 = some (tyX6 k) := by decide +kernel
theorem inX6 : ∀ w ∈ u_ws RX6 TX6 7, w ∈ tables_1 := by
  have h : u_ws RX6 TX6 7 = [386, 388, 390, 392, 394, 396, 398].filterMap (fun i => tables_1[i]?) := by decide +kernel
  rw [h]; exact fun w hw => by
    obtain ⟨i, -, hi⟩ := List.mem_filterMap.mp hw
    exact List.mem_of_getElem? hi
def RX7 : String := "ShareHouse$Proof"
def TX7 : u_T := fun k => match k with
  | 0 => ("ShareHouse$Proof", "cells", "[I", true)
  | 1 => ("ShareHouse$Proof", "count", "I", false)
  | 2 => ("ShareHouse$Proof", "told", "[I", true)
  | _ => ("ShareHouse$Proof", "toldCount", "I", false)
def tyX7 : Nat → FieldType := fun k => match k with
  | 0 => .array .int
  | 1 => .int
  | 2 => .array .int
  | _ => .int
theorem nmX7 : ∀ a, a < 4 → ∀ b, b < 4 → a ≠ b → (TX7 a).2.1 ≠ (TX7 b).2.1 := by decide +kernel
theorem tyX7_ok : ∀ k, k < 4 → parseFieldDescriptor (TX7 k).2.2.1 = some (tyX7 k) := by decide +kernel
theorem inX7 : ∀ w ∈ u_ws RX7 TX7 4, w ∈ tables_1 := by
  have h : u_ws RX7 TX7 4 = [358, 360, 362, 364].filterMap (fun i => tables_1[i]?) := by decide +kernel
  rw [h]; exact fun w hw => by
    obtain ⟨i, -, hi⟩ := List.mem_filterMap.mp hw
    exact List.mem_of_getElem? hi
def RX8 : String := "ShareHouse$Reserve"
def TX8 : u_T := fun k => match k with
  | 0 => ("ShareHouse$Reserve", "lives", "[I", true)
  | 1 => ("ShareHouse$Reserve", "prices", "[I", true)
  | 2 => ("ShareHouse$Reserve", "nexts", "[I", true)
  | 3 => ("ShareHouse$Reserve", "count", "I", false)
  | 4 => ("ShareHouse$Reserve", "spent", "[I", true)
  | 5 => ("ShareHouse$Reserve", "levelPay", "I", false)
  | _ => ("ShareHouse$Reserve", "bindingYear", "I", false)
def tyX8 : Nat → FieldType := fun k => match k with
  | 0 => .array .int
  | 1 => .array .int
  | 2 => .array .int
  | 3 => .int
  | 4 => .array .int
  | 5 => .int
  | _ => .int
theorem nmX8 : ∀ a, a < 7 → ∀ b, b < 7 → a ≠ b → (TX8 a).2.1 ≠ (TX8 b).2.1 := by decide +kernel
theorem tyX8_ok : ∀ k, k < 7 → parseFieldDescriptor (TX8 k).2.2.1 = some (tyX8 k) := by decide +kernel
theorem inX8 : ∀ w ∈ u_ws RX8 TX8 7, w ∈ tables_1 := by
  have h : u_ws RX8 TX8 7 = [247, 249, 251, 253, 255, 257, 259].filterMap (fun i => tables_1[i]?) := by decide +kernel
  rw [h]; exact fun w hw => by
    obtain ⟨i, -, hi⟩ := List.mem_filterMap.mp hw
    exact List.mem_of_getElem? hi
def RX9 : String := "ShareHouse$Tape"
def TX9 : u_T := fun k => match k with
  | 0 => ("ShareHouse$Tape", "bytes", "[I", true)
  | 1 => ("ShareHouse$Tape", "kinds", "[I", true)
  | 2 => ("ShareHouse$Tape", "count", "I", false)
  | 3 => ("ShareHouse$Tape", "draft", "LShareHouse$Lease;", true)
  | 4 => ("ShareHouse$Tape", "start", "I", false)
  | 5 => ("ShareHouse$Tape", "end", "I", false)
  | 6 => ("ShareHouse$Tape", "kind", "I", false)
  | 7 => ("ShareHouse$Tape", "floor", "I", false)
  | 8 => ("ShareHouse$Tape", "shop", "Z", false)
  | _ => ("ShareHouse$Tape", "holds", "Z", false)
def tyX9 : Nat → FieldType := fun k => match k with
  | 0 => .array .int
  | 1 => .array .int
  | 2 => .int
  | 3 => .object "ShareHouse$Lease"
  | 4 => .int
  | 5 => .int
  | 6 => .int
  | 7 => .int
  | 8 => .boolean
  | _ => .boolean
theorem nmX9 : ∀ a, a < 10 → ∀ b, b < 10 → a ≠ b → (TX9 a).2.1 ≠ (TX9 b).2.1 := by decide +kernel
theorem tyX9_ok : ∀ k, k < 10 → parseFieldDescriptor (TX9 k).2.2.1 = some (tyX9 k) := by decide +kernel
theorem inX9 : ∀ w ∈ u_ws RX9 TX9 10, w ∈ tables_1 := by
  have h : u_ws RX9 TX9 10 = [324, 326, 328, 330, 332, 334, 336, 338, 340, 342].filterMap (fun i => tables_1[i]?) := by decide +kernel
  rw [h]; exact fun w hw => by
    obtain ⟨i, -, hi⟩ := List.mem_filterMap.mp hw
    exact List.mem_of_getElem? hi
def RX10 : String := "ShareHouse$Works"
def TX10 : u_T := fun k => match k with
  | 0 => ("ShareHouse$Works", "heads", "[I", true)
  | 1 => ("ShareHouse$Works", "pence", "[I", true)
  | 2 => ("ShareHouse$Works", "isDone", "[Z", true)
  | 3 => ("ShareHouse$Works", "letterCounts", "[I", true)
  | 4 => ("ShareHouse$Works", "firstLetters", "[I", true)
  | 5 => ("ShareHouse$Works", "lastLetters", "[I", true)
  | 6 => ("ShareHouse$Works", "priceCounts", "[I", true)
  | 7 => ("ShareHouse$Works", "greatestPrices", "[I", true)
  | 8 => ("ShareHouse$Works", "count", "I", false)
  | 9 => ("ShareHouse$Works", "likeHeads", "[I", true)
  | 10 => ("ShareHouse$Works", "likes", "[I", true)
  | _ => ("ShareHouse$Works", "likeCount", "I", false)
def tyX10 : Nat → FieldType := fun k => match k with
  | 0 => .array .int
  | 1 => .array .int
  | 2 => .array .boolean
  | 3 => .array .int
  | 4 => .array .int
  | 5 => .array .int
  | 6 => .array .int
  | 7 => .array .int
  | 8 => .int
  | 9 => .array .int
  | 10 => .array .int
  | _ => .int
theorem nmX10 : ∀ a, a < 12 → ∀ b, b < 12 → a ≠ b → (TX10 a).2.1 ≠ (TX10 b).2.1 := by decide +kernel
theorem tyX10_ok : ∀ k, k < 12 → parseFieldDescriptor (TX10 k).2.2.1 = some (tyX10 k) := by decide +kernel
theorem inX10 : ∀ w ∈ u_ws RX10 TX10 12, w ∈ tables_1 := by
  have h : u_ws RX10 TX10 12 = [203, 205, 207, 209, 211, 213, 215, 217, 219, 221, 223, 225].filterMap (fun i => tables_1[i]?) := by decide +kernel
  rw [h]; exact fun w hw => by
    obtain ⟨i, -, hi⟩ := List.mem_filterMap.mp hw
    exact List.mem_of_getElem? hi
def RX11 : String := "ShareHouse"
def TX11 : u_T := fun k => match k with
  | 0 => ("ShareHouse", "house", "LShareHouse$House;", true)
  | 1 => ("ShareHouse", "kept", "LShareHouse$House;", true)
  | 2 => ("ShareHouse", "isKept", "Z", false)
  | 3 => ("ShareHouse", "tape", "LShareHouse$Tape;", true)
  | 4 => ("ShareHouse", "proof", "LShareHouse$Proof;", true)
  | 5 => ("ShareHouse", "parting", "LShareHouse$Parting;", true)
  | _ => ("ShareHouse", "accounts", "LShareHouse$Accounts;", true)
def tyX11 : Nat → FieldType := fun k => match k with
  | 0 => .object "ShareHouse$House"
  | 1 => .object "ShareHouse$House"
  | 2 => .boolean
  | 3 => .object "ShareHouse$Tape"
  | 4 => .object "ShareHouse$Proof"
  | 5 => .object "ShareHouse$Parting"
  | _ => .object "ShareHouse$Accounts"
theorem nmX11 : ∀ a, a < 7 → ∀ b, b < 7 → a ≠ b → (TX11 a).2.1 ≠ (TX11 b).2.1 := by decide +kernel
theorem tyX11_ok : ∀ k, k < 7 → parseFieldDescriptor (TX11 k).2.2.1 = some (tyX11 k) := by decide +kernel
theorem inX11 : ∀ w ∈ u_ws RX11 TX11 7, w ∈ tables_1 := by
  have h : u_ws RX11 TX11 7 = [430, 432, 434, 436, 438, 440, 442].filterMap (fun i => tables_1[i]?) := by decide +kernel
  rw [h]; exact fun w hw => by
    obtain ⟨i, -, hi⟩ := List.mem_filterMap.mp hw
    exact List.mem_of_getElem? hi
def RX12 : String := "ShareHouseModel"
def TX12 : u_T := fun k => match k with
  | 0 => ("ShareHouseModel", "s", "[I", true)
  | 1 => ("ShareHouseModel", "kept", "[I", true)
  | 2 => ("ShareHouseModel", "isKept", "Z", false)
  | 3 => ("ShareHouseModel", "tape", "[I", true)
  | 4 => ("ShareHouseModel", "taped", "I", false)
  | 5 => ("ShareHouseModel", "from", "I", false)
  | 6 => ("ShareHouseModel", "end", "I", false)
  | 7 => ("ShareHouseModel", "fault", "I", false)
  | 8 => ("ShareHouseModel", "readShare", "I", false)
  | 9 => ("ShareHouseModel", "readN", "I", false)
  | 10 => ("ShareHouseModel", "readM", "I", false)
  | 11 => ("ShareHouseModel", "readOnes", "I", false)
  | 12 => ("ShareHouseModel", "readFor", "Z", false)
  | 13 => ("ShareHouseModel", "drawn", "[I", true)
  | 14 => ("ShareHouseModel", "drawnMany", "I", false)
  | 15 => ("ShareHouseModel", "shareAbove", "I", false)
  | 16 => ("ShareHouseModel", "shareBelow", "I", false)
  | 17 => ("ShareHouseModel", "above", "[J", true)
  | 18 => ("ShareHouseModel", "line", "J", false)
  | 19 => ("ShareHouseModel", "whole", "J", false)
  | 20 => ("ShareHouseModel", "parts", "[I", true)
  | 21 => ("ShareHouseModel", "rests", "[J", true)
  | 22 => ("ShareHouseModel", "landlords", "I", false)
  | 23 => ("ShareHouseModel", "asks", "[I", true)
  | 24 => ("ShareHouseModel", "owing", "[I", true)
  | 25 => ("ShareHouseModel", "spent", "[I", true)
  | 26 => ("ShareHouseModel", "told", "I", false)
  | 27 => ("ShareHouseModel", "proof", "[I", true)
  | 28 => ("ShareHouseModel", "rowMany", "I", false)
  | _ => ("ShareHouseModel", "rows", "[I", true)
def tyX12 : Nat → FieldType := fun k => match k with
  | 0 => .array .int
  | 1 => .array .int
  | 2 => .boolean
  | 3 => .array .int
  | 4 => .int
  | 5 => .int
  | 6 => .int
  | 7 => .int
  | 8 => .int
  | 9 => .int
  | 10 => .int
  | 11 => .int
  | 12 => .boolean
  | 13 => .array .int
  | 14 => .int
  | 15 => .int
  | 16 => .int
  | 17 => .array .long
  | 18 => .long
  | 19 => .long
  | 20 => .array .int
  | 21 => .array .long
  | 22 => .int
  | 23 => .array .int
  | 24 => .array .int
  | 25 => .array .int
  | 26 => .int
  | 27 => .array .int
  | 28 => .int
  | _ => .array .int
theorem nmX12 : ∀ a, a < 30 → ∀ b, b < 30 → a ≠ b → (TX12 a).2.1 ≠ (TX12 b).2.1 := by decide +kernel
theorem tyX12_ok : ∀ k, k < 30 → parseFieldDescriptor (TX12 k).2.2.1 = some (tyX12 k) := by decide +kernel
theorem inX12 : ∀ w ∈ u_ws RX12 TX12 30, w ∈ tables_1 := by
  have h : u_ws RX12 TX12 30 = [1119, 1121, 1123, 1125, 1127, 1129, 1131, 1133, 1135, 1137, 1139, 1141, 1143, 1145, 1147, 1149, 1151, 1153, 1155, 1157, 1159, 1161, 1163, 1165, 1167, 1169, 1171, 1173, 1175, 1177].filterMap (fun i => tables_1[i]?) := by decide +kernel
  rw [h]; exact fun w hw => by
    obtain ⟨i, -, hi⟩ := List.mem_filterMap.mp hw
    exact List.mem_of_getElem? hi
abbrev am_cl : List vw_C := [(RX0, TX0, 4), (RX1, TX1, 10), (RX2, TX2, 5), (RX3, TX3, 8), (RX4, TX4, 2), (RX5, TX5, 8), (RX6, TX6, 7), (RX7, TX7, 4), (RX8, TX8, 7), (RX9, TX9, 10), (RX10, TX10, 12), (RX11, TX11, 7), (RX12, TX12, 30)]
def am_ty (ci : Nat) : Nat → FieldType := match ci with
  | 0 => tyX0
  | 1 => tyX1
  | 2 => tyX2
  | 3 => tyX3
  | 4 => tyX4
  | 5 => tyX5
  | 6 => tyX6
  | 7 => tyX7
  | 8 => tyX8
  | 9 => tyX9
  | 10 => tyX10
  | 11 => tyX11
  | _ => tyX12
def am_nf (ci : Nat) : Nat := match ci with
  | 0 => 4
  | 1 => 10
  | 2 => 5
  | 3 => 8
  | 4 => 2
  | 5 => 8
  | 6 => 7
  | 7 => 4
  | 8 => 7
  | 9 => 10
  | 10 => 12
  | 11 => 7
  | _ => 30
theorem am_cls : ∀ (ci : Nat) (q : vw_C), am_cl[ci]? = some q → (∀ w ∈ u_ws q.1 q.2.1 q.2.2, w ∈ tables_1) ∧ (∀ k, k < q.2.2 → parseFieldDescriptor (q.2.1 k).2.2.1 = some (am_ty ci k)) ∧ (∀ a, a < q.2.2 → ∀ b, b < q.2.2 → a ≠ b → (q.2.1 a).2.1 ≠ (q.2.1 b).2.1) ∧ q.2.2 = am_nf ci := by
  intro ci q h
  match ci, h with
  | 0, h => cases h; exact ⟨inX0, tyX0_ok, nmX0, rfl⟩
  | 1, h => cases h; exact ⟨inX1, tyX1_ok, nmX1, rfl⟩
  | 2, h => cases h; exact ⟨inX2, tyX2_ok, nmX2, rfl⟩
  | 3, h => cases h; exact ⟨inX3, tyX3_ok, nmX3, rfl⟩
  | 4, h => cases h; exact ⟨inX4, tyX4_ok, nmX4, rfl⟩
  | 5, h => cases h; exact ⟨inX5, tyX5_ok, nmX5, rfl⟩
  | 6, h => cases h; exact ⟨inX6, tyX6_ok, nmX6, rfl⟩
  | 7, h => cases h; exact ⟨inX7, tyX7_ok, nmX7, rfl⟩
  | 8, h => cases h; exact ⟨inX8, tyX8_ok, nmX8, rfl⟩
  | 9, h => cases h; exact ⟨inX9, tyX9_ok, nmX9, rfl⟩
  | 10, h => cases h; exact ⟨inX10, tyX10_ok, nmX10, rfl⟩
  | 11, h => cases h; exact ⟨inX11, tyX11_ok, nmX11, rfl⟩
  | 12, h => cases h; exact ⟨inX12, tyX12_ok, nmX12, rfl⟩
  | k + 13, h => simp [am_cl] at h
abbrev cX0_init : ByteArray := prog_2_method_1_code
def yX0_init : MethodName := ⟨"ShareHouse$Accounts", "<init>", "()V"⟩
abbrev cX0_reckon : ByteArray := prog_2_method_2_code
def yX0_reckon : MethodName := ⟨"ShareHouse$Accounts", "reckon", "(LShareHouse$House;LShareHouse$Parting;I)V"⟩
abbrev cX0_addParts : ByteArray := prog_2_method_3_code
def yX0_addParts : MethodName := ⟨"ShareHouse$Accounts", "addParts", "(LShareHouse$House;LShareHouse$Parting;I)V"⟩
abbrev cX0_billOf : ByteArray := prog_2_method_4_code
def yX0_billOf : MethodName := ⟨"ShareHouse$Accounts", "billOf", "(I)I"⟩
abbrev cX0_balanceOf : ByteArray := prog_2_method_5_code
def yX0_balanceOf : MethodName := ⟨"ShareHouse$Accounts", "balanceOf", "(LShareHouse$House;II)I"⟩
abbrev cX0_interestOf : ByteArray := prog_2_method_6_code
def yX0_interestOf : MethodName := ⟨"ShareHouse$Accounts", "interestOf", "(LShareHouse$House;II)I"⟩
abbrev cX0_readChanges : ByteArray := prog_2_method_7_code
def yX0_readChanges : MethodName := ⟨"ShareHouse$Accounts", "readChanges", "(LShareHouse$House;II)V"⟩
abbrev cX0_askedAt : ByteArray := prog_2_method_8_code
def yX0_askedAt : MethodName := ⟨"ShareHouse$Accounts", "askedAt", "(LShareHouse$House;II)I"⟩
abbrev cX0_howManyAhead : ByteArray := prog_2_method_9_code
def yX0_howManyAhead : MethodName := ⟨"ShareHouse$Accounts", "howManyAhead", "(I)I"⟩
abbrev cX0_buyersOf : ByteArray := prog_2_method_10_code
def yX0_buyersOf : MethodName := ⟨"ShareHouse$Accounts", "buyersOf", "(LShareHouse$House;)I"⟩
abbrev cX0_readAreas : ByteArray := prog_2_method_11_code
def yX0_readAreas : MethodName := ⟨"ShareHouse$Accounts", "readAreas", "(LShareHouse$House;)V"⟩
abbrev cX0_areasOf : ByteArray := prog_2_method_12_code
def yX0_areasOf : MethodName := ⟨"ShareHouse$Accounts", "areasOf", "(I)I"⟩
abbrev cX1_init : ByteArray := prog_3_method_1_code
def yX1_init : MethodName := ⟨"ShareHouse$Costs", "<init>", "()V"⟩
abbrev cX1_become : ByteArray := prog_3_method_2_code
def yX1_become : MethodName := ⟨"ShareHouse$Costs", "become", "(LShareHouse$Costs;)V"⟩
abbrev cX1_has : ByteArray := prog_3_method_3_code
def yX1_has : MethodName := ⟨"ShareHouse$Costs", "has", "(I)Z"⟩
abbrev cX1_add : ByteArray := prog_3_method_4_code
def yX1_add : MethodName := ⟨"ShareHouse$Costs", "add", "(IIIIZ)I"⟩
abbrev cX1_isKnown : ByteArray := prog_3_method_5_code
def yX1_isKnown : MethodName := ⟨"ShareHouse$Costs", "isKnown", "(II)Z"⟩
abbrev cX1_penceOn : ByteArray := prog_3_method_6_code
def yX1_penceOn : MethodName := ⟨"ShareHouse$Costs", "penceOn", "(II)I"⟩
abbrev cX1_timesRight : ByteArray := prog_3_method_7_code
def yX1_timesRight : MethodName := ⟨"ShareHouse$Costs", "timesRight", "(I)I"⟩
abbrev cX1_putRight : ByteArray := prog_3_method_8_code
def yX1_putRight : MethodName := ⟨"ShareHouse$Costs", "putRight", "(IIII)I"⟩
abbrev cX2_init : ByteArray := prog_4_method_1_code
def yX2_init : MethodName := ⟨"ShareHouse$Flats", "<init>", "()V"⟩
abbrev cX2_become : ByteArray := prog_4_method_2_code
def yX2_become : MethodName := ⟨"ShareHouse$Flats", "become", "(LShareHouse$Flats;)V"⟩
abbrev cX2_has : ByteArray := prog_4_method_3_code
def yX2_has : MethodName := ⟨"ShareHouse$Flats", "has", "(I)Z"⟩
abbrev cX2_add : ByteArray := prog_4_method_4_code
def yX2_add : MethodName := ⟨"ShareHouse$Flats", "add", "(IIZ)I"⟩
abbrev cX2_allAreas : ByteArray := prog_4_method_5_code
def yX2_allAreas : MethodName := ⟨"ShareHouse$Flats", "allAreas", "()I"⟩
abbrev cX2_allFloors : ByteArray := prog_4_method_6_code
def yX2_allFloors : MethodName := ⟨"ShareHouse$Flats", "allFloors", "()I"⟩
abbrev cX3_init : ByteArray := prog_5_method_1_code
def yX3_init : MethodName := ⟨"ShareHouse$House", "<init>", "()V"⟩
abbrev cX3_become : ByteArray := prog_5_method_2_code
def yX3_become : MethodName := ⟨"ShareHouse$House", "become", "(LShareHouse$House;)V"⟩
abbrev cX3_putRight : ByteArray := prog_5_method_3_code
def yX3_putRight : MethodName := ⟨"ShareHouse$House", "putRight", "(II)I"⟩
abbrev cX3_levelOf : ByteArray := prog_5_method_4_code
def yX3_levelOf : MethodName := ⟨"ShareHouse$House", "levelOf", "(I)I"⟩
abbrev cX3_lack : ByteArray := prog_5_method_5_code
def yX3_lack : MethodName := ⟨"ShareHouse$House", "lack", "()I"⟩
abbrev cX4_init : ByteArray := prog_6_method_1_code
def yX4_init : MethodName := ⟨"ShareHouse$Lease", "<init>", "()V"⟩
abbrev cX4_become : ByteArray := prog_6_method_2_code
def yX4_become : MethodName := ⟨"ShareHouse$Lease", "become", "(LShareHouse$Lease;)V"⟩
abbrev cX4_cell : ByteArray := prog_6_method_3_code
def yX4_cell : MethodName := ⟨"ShareHouse$Lease", "cell", "(II)I"⟩
abbrev cX4_put : ByteArray := prog_6_method_4_code
def yX4_put : MethodName := ⟨"ShareHouse$Lease", "put", "(II)V"⟩
abbrev cX4_lastFor : ByteArray := prog_6_method_5_code
def yX4_lastFor : MethodName := ⟨"ShareHouse$Lease", "lastFor", "(I)I"⟩
abbrev cX5_init : ByteArray := prog_7_method_1_code
def yX5_init : MethodName := ⟨"ShareHouse$Owners", "<init>", "()V"⟩
abbrev cX5_become : ByteArray := prog_7_method_2_code
def yX5_become : MethodName := ⟨"ShareHouse$Owners", "become", "(LShareHouse$Owners;)V"⟩
abbrev cX5_addSale : ByteArray := prog_7_method_3_code
def yX5_addSale : MethodName := ⟨"ShareHouse$Owners", "addSale", "(III)I"⟩
abbrev cX5_addPayment : ByteArray := prog_7_method_4_code
def yX5_addPayment : MethodName := ⟨"ShareHouse$Owners", "addPayment", "(III)I"⟩
abbrev cX5_ownerOn : ByteArray := prog_7_method_5_code
def yX5_ownerOn : MethodName := ⟨"ShareHouse$Owners", "ownerOn", "(II)I"⟩
abbrev cX5_paidBy : ByteArray := prog_7_method_6_code
def yX5_paidBy : MethodName := ⟨"ShareHouse$Owners", "paidBy", "(II)I"⟩
abbrev cX6_init : ByteArray := prog_8_method_1_code
def yX6_init : MethodName := ⟨"ShareHouse$Parting", "<init>", "()V"⟩
abbrev cX6_readShares : ByteArray := prog_8_method_2_code
def yX6_readShares : MethodName := ⟨"ShareHouse$Parting", "readShares", "(LShareHouse$Flats;I)V"⟩
abbrev cX6_readShareOf : ByteArray := prog_8_method_3_code
def yX6_readShareOf : MethodName := ⟨"ShareHouse$Parting", "readShareOf", "(LShareHouse$Flats;II)V"⟩
abbrev cX6_putShare : ByteArray := prog_8_method_4_code
def yX6_putShare : MethodName := ⟨"ShareHouse$Parting", "putShare", "(III)V"⟩
abbrev cX6_divide : ByteArray := prog_8_method_5_code
def yX6_divide : MethodName := ⟨"ShareHouse$Parting", "divide", "(LShareHouse$House;II)V"⟩
abbrev cX6_giveOut : ByteArray := prog_8_method_6_code
def yX6_giveOut : MethodName := ⟨"ShareHouse$Parting", "giveOut", "(II)V"⟩
abbrev cX6_capParts : ByteArray := prog_8_method_7_code
def yX6_capParts : MethodName := ⟨"ShareHouse$Parting", "capParts", "(II)V"⟩
abbrev cX6_allParts : ByteArray := prog_8_method_8_code
def yX6_allParts : MethodName := ⟨"ShareHouse$Parting", "allParts", "(I)I"⟩
abbrev cX7_init : ByteArray := prog_9_method_1_code
def yX7_init : MethodName := ⟨"ShareHouse$Proof", "<init>", "()V"⟩
abbrev cX7_has : ByteArray := prog_9_method_2_code
def yX7_has : MethodName := ⟨"ShareHouse$Proof", "has", "(II)Z"⟩
abbrev cX7_tell : ByteArray := prog_9_method_3_code
def yX7_tell : MethodName := ⟨"ShareHouse$Proof", "tell", "(LShareHouse$Reserve;II)I"⟩
abbrev cX7_addRow : ByteArray := prog_9_method_4_code
def yX7_addRow : MethodName := ⟨"ShareHouse$Proof", "addRow", "(III)V"⟩
abbrev cX7_goesAhead : ByteArray := prog_9_method_5_code
def yX7_goesAhead : MethodName := ⟨"ShareHouse$Proof", "goesAhead", "(II)Z"⟩
abbrev cX7_firstWrong : ByteArray := prog_9_method_6_code
def yX7_firstWrong : MethodName := ⟨"ShareHouse$Proof", "firstWrong", "()I"⟩
abbrev cX8_init : ByteArray := prog_10_method_1_code
def yX8_init : MethodName := ⟨"ShareHouse$Reserve", "<init>", "()V"⟩
abbrev cX8_become : ByteArray := prog_10_method_2_code
def yX8_become : MethodName := ⟨"ShareHouse$Reserve", "become", "(LShareHouse$Reserve;)V"⟩
abbrev cX8_hasAll : ByteArray := prog_10_method_3_code
def yX8_hasAll : MethodName := ⟨"ShareHouse$Reserve", "hasAll", "(I)Z"⟩
abbrev cX8_add : ByteArray := prog_10_method_4_code
def yX8_add : MethodName := ⟨"ShareHouse$Reserve", "add", "(III)I"⟩
abbrev cX8_reckon : ByteArray := prog_10_method_5_code
def yX8_reckon : MethodName := ⟨"ShareHouse$Reserve", "reckon", "(II)V"⟩
abbrev cX8_addRenewals : ByteArray := prog_10_method_6_code
def yX8_addRenewals : MethodName := ⟨"ShareHouse$Reserve", "addRenewals", "(II)V"⟩
abbrev cX8_leastPayFor : ByteArray := prog_10_method_7_code
def yX8_leastPayFor : MethodName := ⟨"ShareHouse$Reserve", "leastPayFor", "(II)I"⟩
abbrev cX9_init : ByteArray := prog_11_method_1_code
def yX9_init : MethodName := ⟨"ShareHouse$Tape", "<init>", "()V"⟩
abbrev cX9_add : ByteArray := prog_11_method_2_code
def yX9_add : MethodName := ⟨"ShareHouse$Tape", "add", "(JI)I"⟩
abbrev cX9_clear : ByteArray := prog_11_method_3_code
def yX9_clear : MethodName := ⟨"ShareHouse$Tape", "clear", "()V"⟩
abbrev cX9_read : ByteArray := prog_11_method_4_code
def yX9_read : MethodName := ⟨"ShareHouse$Tape", "read", "(IZ)I"⟩
abbrev cX9_readClause : ByteArray := prog_11_method_5_code
def yX9_readClause : MethodName := ⟨"ShareHouse$Tape", "readClause", "()Z"⟩
abbrev cX9_readHeads : ByteArray := prog_11_method_6_code
def yX9_readHeads : MethodName := ⟨"ShareHouse$Tape", "readHeads", "()Z"⟩
abbrev cX9_headAtHand : ByteArray := prog_11_method_7_code
def yX9_headAtHand : MethodName := ⟨"ShareHouse$Tape", "headAtHand", "()I"⟩
abbrev cX9_readShare : ByteArray := prog_11_method_8_code
def yX9_readShare : MethodName := ⟨"ShareHouse$Tape", "readShare", "()Z"⟩
abbrev cX9_plainShareAtHand : ByteArray := prog_11_method_9_code
def yX9_plainShareAtHand : MethodName := ⟨"ShareHouse$Tape", "plainShareAtHand", "()I"⟩
abbrev cX9_readCondition : ByteArray := prog_11_method_10_code
def yX9_readCondition : MethodName := ⟨"ShareHouse$Tape", "readCondition", "()Z"⟩
abbrev cX9_readOne : ByteArray := prog_11_method_11_code
def yX9_readOne : MethodName := ⟨"ShareHouse$Tape", "readOne", "()Z"⟩
abbrev cX9_takeSemicolon : ByteArray := prog_11_method_12_code
def yX9_takeSemicolon : MethodName := ⟨"ShareHouse$Tape", "takeSemicolon", "()Z"⟩
abbrev cX9_take : ByteArray := prog_11_method_13_code
def yX9_take : MethodName := ⟨"ShareHouse$Tape", "take", "(Ljava/lang/String;)Z"⟩
abbrev cX9_isAtHand : ByteArray := prog_11_method_14_code
def yX9_isAtHand : MethodName := ⟨"ShareHouse$Tape", "isAtHand", "(Ljava/lang/String;)Z"⟩
abbrev cX9_numberAtHand : ByteArray := prog_11_method_15_code
def yX9_numberAtHand : MethodName := ⟨"ShareHouse$Tape", "numberAtHand", "()I"⟩
abbrev cX9_step : ByteArray := prog_11_method_16_code
def yX9_step : MethodName := ⟨"ShareHouse$Tape", "step", "()V"⟩
abbrev cX9_kindOf : ByteArray := prog_11_method_17_code
def yX9_kindOf : MethodName := ⟨"ShareHouse$Tape", "kindOf", "(I)I"⟩
abbrev cX10_init : ByteArray := prog_12_method_1_code
def yX10_init : MethodName := ⟨"ShareHouse$Works", "<init>", "()V"⟩
abbrev cX10_become : ByteArray := prog_12_method_2_code
def yX10_become : MethodName := ⟨"ShareHouse$Works", "become", "(LShareHouse$Works;)V"⟩
abbrev cX10_has : ByteArray := prog_12_method_3_code
def yX10_has : MethodName := ⟨"ShareHouse$Works", "has", "(I)Z"⟩
abbrev cX10_add : ByteArray := prog_12_method_4_code
def yX10_add : MethodName := ⟨"ShareHouse$Works", "add", "(II)I"⟩
abbrev cX10_addLetter : ByteArray := prog_12_method_5_code
def yX10_addLetter : MethodName := ⟨"ShareHouse$Works", "addLetter", "(II)I"⟩
abbrev cX10_addPrice : ByteArray := prog_12_method_6_code
def yX10_addPrice : MethodName := ⟨"ShareHouse$Works", "addPrice", "(II)I"⟩
abbrev cX10_whyCapped : ByteArray := prog_12_method_7_code
def yX10_whyCapped : MethodName := ⟨"ShareHouse$Works", "whyCapped", "(II)I"⟩
abbrev cX10_addLike : ByteArray := prog_12_method_8_code
def yX10_addLike : MethodName := ⟨"ShareHouse$Works", "addLike", "(II)I"⟩
abbrev cX10_fairOf : ByteArray := prog_12_method_9_code
def yX10_fairOf : MethodName := ⟨"ShareHouse$Works", "fairOf", "(I)I"⟩
abbrev cX10_placeOf : ByteArray := prog_12_method_10_code
def yX10_placeOf : MethodName := ⟨"ShareHouse$Works", "placeOf", "(I)I"⟩
abbrev cX11_init : ByteArray := prog_1_method_1_code
def yX11_init : MethodName := ⟨"ShareHouse", "<init>", "()V"⟩
abbrev cX11_flat : ByteArray := prog_1_method_2_code
def yX11_flat : MethodName := ⟨"ShareHouse", "flat", "(IIZ)I"⟩
abbrev cX11_days : ByteArray := prog_1_method_3_code
def yX11_days : MethodName := ⟨"ShareHouse", "days", "(I)I"⟩
abbrev cX11_feed : ByteArray := prog_1_method_4_code
def yX11_feed : MethodName := ⟨"ShareHouse", "feed", "(JI)I"⟩
abbrev cX11_lease : ByteArray := prog_1_method_5_code
def yX11_lease : MethodName := ⟨"ShareHouse", "lease", "(I)I"⟩
abbrev cX11_readLease : ByteArray := prog_1_method_6_code
def yX11_readLease : MethodName := ⟨"ShareHouse", "readLease", "(I)I"⟩
abbrev cX11_clause : ByteArray := prog_1_method_7_code
def yX11_clause : MethodName := ⟨"ShareHouse", "clause", "(III)I"⟩
abbrev cX11_share : ByteArray := prog_1_method_8_code
def yX11_share : MethodName := ⟨"ShareHouse", "share", "(III)I"⟩
abbrev cX11_sum : ByteArray := prog_1_method_9_code
def yX11_sum : MethodName := ⟨"ShareHouse", "sum", "(II)J"⟩
abbrev cX11_law : ByteArray := prog_1_method_10_code
def yX11_law : MethodName := ⟨"ShareHouse", "law", "(II)I"⟩
abbrev cX11_rule : ByteArray := prog_1_method_11_code
def yX11_rule : MethodName := ⟨"ShareHouse", "rule", "(II)I"⟩
abbrev cX11_cost : ByteArray := prog_1_method_12_code
def yX11_cost : MethodName := ⟨"ShareHouse", "cost", "(III)I"⟩
abbrev cX11_right : ByteArray := prog_1_method_13_code
def yX11_right : MethodName := ⟨"ShareHouse", "right", "(II)I"⟩
abbrev cX11_costOf : ByteArray := prog_1_method_14_code
def yX11_costOf : MethodName := ⟨"ShareHouse", "costOf", "(II)I"⟩
abbrev cX11_part : ByteArray := prog_1_method_15_code
def yX11_part : MethodName := ⟨"ShareHouse", "part", "(III)I"⟩
abbrev cX11_landlord : ByteArray := prog_1_method_16_code
def yX11_landlord : MethodName := ⟨"ShareHouse", "landlord", "(II)I"⟩
abbrev cX11_sell : ByteArray := prog_1_method_17_code
def yX11_sell : MethodName := ⟨"ShareHouse", "sell", "(III)I"⟩
abbrev cX11_owner : ByteArray := prog_1_method_18_code
def yX11_owner : MethodName := ⟨"ShareHouse", "owner", "(II)I"⟩
abbrev cX11_pay : ByteArray := prog_1_method_19_code
def yX11_pay : MethodName := ⟨"ShareHouse", "pay", "(II)I"⟩
abbrev cX11_account : ByteArray := prog_1_method_20_code
def yX11_account : MethodName := ⟨"ShareHouse", "account", "(III)I"⟩
abbrev cX11_asked : ByteArray := prog_1_method_21_code
def yX11_asked : MethodName := ⟨"ShareHouse", "asked", "(II)I"⟩
abbrev cX11_work : ByteArray := prog_1_method_22_code
def yX11_work : MethodName := ⟨"ShareHouse", "work", "(II)I"⟩
abbrev cX11_letter : ByteArray := prog_1_method_23_code
def yX11_letter : MethodName := ⟨"ShareHouse", "letter", "(I)I"⟩
abbrev cX11_price : ByteArray := prog_1_method_24_code
def yX11_price : MethodName := ⟨"ShareHouse", "price", "(II)I"⟩
abbrev cX11_done : ByteArray := prog_1_method_25_code
def yX11_done : MethodName := ⟨"ShareHouse", "done", "(I)I"⟩
abbrev cX11_capped : ByteArray := prog_1_method_26_code
def yX11_capped : MethodName := ⟨"ShareHouse", "capped", "(I)I"⟩
abbrev cX11_like : ByteArray := prog_1_method_27_code
def yX11_like : MethodName := ⟨"ShareHouse", "like", "(II)I"⟩
abbrev cX11_fair : ByteArray := prog_1_method_28_code
def yX11_fair : MethodName := ⟨"ShareHouse", "fair", "(I)I"⟩
abbrev cX11_cut : ByteArray := prog_1_method_29_code
def yX11_cut : MethodName := ⟨"ShareHouse", "cut", "(I)I"⟩
abbrev cX11_piece : ByteArray := prog_1_method_30_code
def yX11_piece : MethodName := ⟨"ShareHouse", "piece", "(III)I"⟩
abbrev cX11_level : ByteArray := prog_1_method_31_code
def yX11_level : MethodName := ⟨"ShareHouse", "level", "(II)I"⟩
abbrev cX11_left : ByteArray := prog_1_method_32_code
def yX11_left : MethodName := ⟨"ShareHouse", "left", "(III)I"⟩
abbrev cX11_worst : ByteArray := prog_1_method_33_code
def yX11_worst : MethodName := ⟨"ShareHouse", "worst", "(I)I"⟩
abbrev cX11_row : ByteArray := prog_1_method_34_code
def yX11_row : MethodName := ⟨"ShareHouse", "row", "(II)I"⟩
abbrev cX11_alter : ByteArray := prog_1_method_35_code
def yX11_alter : MethodName := ⟨"ShareHouse", "alter", "(III)I"⟩
abbrev cX11_drop : ByteArray := prog_1_method_36_code
def yX11_drop : MethodName := ⟨"ShareHouse", "drop", "()I"⟩
abbrev cX11_check : ByteArray := prog_1_method_37_code
def yX11_check : MethodName := ⟨"ShareHouse", "check", "()I"⟩
abbrev cX11_buyers : ByteArray := prog_1_method_38_code
def yX11_buyers : MethodName := ⟨"ShareHouse", "buyers", "()I"⟩
abbrev cX11_many : ByteArray := prog_1_method_39_code
def yX11_many : MethodName := ⟨"ShareHouse", "many", "(I)I"⟩
abbrev cX11_keep : ByteArray := prog_1_method_40_code
def yX11_keep : MethodName := ⟨"ShareHouse", "keep", "()I"⟩
abbrev cX11_back : ByteArray := prog_1_method_41_code
def yX11_back : MethodName := ⟨"ShareHouse", "back", "()I"⟩
abbrev cX11_isPast : ByteArray := prog_1_method_42_code
def yX11_isPast : MethodName := ⟨"ShareHouse", "isPast", "(I)Z"⟩
abbrev cX11_isHead : ByteArray := prog_1_method_43_code
def yX11_isHead : MethodName := ⟨"ShareHouse", "isHead", "(I)Z"⟩
abbrev cX11_isOwner : ByteArray := prog_1_method_44_code
def yX11_isOwner : MethodName := ⟨"ShareHouse", "isOwner", "(I)Z"⟩
abbrev cX11_within : ByteArray := prog_1_method_45_code
def yX11_within : MethodName := ⟨"ShareHouse", "within", "(III)Z"⟩
abbrev cX11_divisorOf : ByteArray := prog_1_method_46_code
def yX11_divisorOf : MethodName := ⟨"ShareHouse", "divisorOf", "(JJ)J"⟩
abbrev cX11_copy : ByteArray := prog_1_method_47_code
def yX11_copy : MethodName := ⟨"ShareHouse", "copy", "([I[I)V"⟩
abbrev cX11_copy_ : ByteArray := prog_1_method_48_code
def yX11_copy_ : MethodName := ⟨"ShareHouse", "copy", "([Z[Z)V"⟩
abbrev cX12_init : ByteArray := prog_14_method_1_code
def yX12_init : MethodName := ⟨"ShareHouseModel", "<init>", "()V"⟩
abbrev cX12_in : ByteArray := prog_14_method_2_code
def yX12_in : MethodName := ⟨"ShareHouseModel", "in", "(III)Z"⟩
abbrev cX12_isFlat : ByteArray := prog_14_method_3_code
def yX12_isFlat : MethodName := ⟨"ShareHouseModel", "isFlat", "(I)Z"⟩
abbrev cX12_isHead : ByteArray := prog_14_method_4_code
def yX12_isHead : MethodName := ⟨"ShareHouseModel", "isHead", "(I)Z"⟩
abbrev cX12_isCost : ByteArray := prog_14_method_5_code
def yX12_isCost : MethodName := ⟨"ShareHouseModel", "isCost", "(I)Z"⟩
abbrev cX12_isOwner : ByteArray := prog_14_method_6_code
def yX12_isOwner : MethodName := ⟨"ShareHouseModel", "isOwner", "(I)Z"⟩
abbrev cX12_isKnownDay : ByteArray := prog_14_method_7_code
def yX12_isKnownDay : MethodName := ⟨"ShareHouseModel", "isKnownDay", "(I)Z"⟩
abbrev cX12_isWork : ByteArray := prog_14_method_8_code
def yX12_isWork : MethodName := ⟨"ShareHouseModel", "isWork", "(I)Z"⟩
abbrev cX12_flatOf : ByteArray := prog_14_method_9_code
def yX12_flatOf : MethodName := ⟨"ShareHouseModel", "flatOf", "(II)I"⟩
abbrev cX12_flat : ByteArray := prog_14_method_10_code
def yX12_flat : MethodName := ⟨"ShareHouseModel", "flat", "(IIZ)I"⟩
abbrev cX12_days : ByteArray := prog_14_method_11_code
def yX12_days : MethodName := ⟨"ShareHouseModel", "days", "(I)I"⟩
abbrev cX12_feed : ByteArray := prog_14_method_12_code
def yX12_feed : MethodName := ⟨"ShareHouseModel", "feed", "(JI)I"⟩
abbrev cX12_isDigit : ByteArray := prog_14_method_13_code
def yX12_isDigit : MethodName := ⟨"ShareHouseModel", "isDigit", "(I)Z"⟩
abbrev cX12_isLetter : ByteArray := prog_14_method_14_code
def yX12_isLetter : MethodName := ⟨"ShareHouseModel", "isLetter", "(I)Z"⟩
abbrev cX12_next : ByteArray := prog_14_method_15_code
def yX12_next : MethodName := ⟨"ShareHouseModel", "next", "()V"⟩
abbrev cX12_bad : ByteArray := prog_14_method_16_code
def yX12_bad : MethodName := ⟨"ShareHouseModel", "bad", "()V"⟩
abbrev cX12_isName : ByteArray := prog_14_method_17_code
def yX12_isName : MethodName := ⟨"ShareHouseModel", "isName", "(JI)Z"⟩
abbrev cX12_may : ByteArray := prog_14_method_18_code
def yX12_may : MethodName := ⟨"ShareHouseModel", "may", "(JI)Z"⟩
abbrev cX12_must : ByteArray := prog_14_method_19_code
def yX12_must : MethodName := ⟨"ShareHouseModel", "must", "(JI)V"⟩
abbrev cX12_number : ByteArray := prog_14_method_20_code
def yX12_number : MethodName := ⟨"ShareHouseModel", "number", "(II)I"⟩
abbrev cX12_head : ByteArray := prog_14_method_21_code
def yX12_head : MethodName := ⟨"ShareHouseModel", "head", "()I"⟩
abbrev cX12_oneHead : ByteArray := prog_14_method_22_code
def yX12_oneHead : MethodName := ⟨"ShareHouseModel", "oneHead", "()I"⟩
abbrev cX12_heads : ByteArray := prog_14_method_23_code
def yX12_heads : MethodName := ⟨"ShareHouseModel", "heads", "()I"⟩
abbrev cX12_tellShare : ByteArray := prog_14_method_24_code
def yX12_tellShare : MethodName := ⟨"ShareHouseModel", "tellShare", "()V"⟩
abbrev cX12_one : ByteArray := prog_14_method_25_code
def yX12_one : MethodName := ⟨"ShareHouseModel", "one", "(I)Z"⟩
abbrev cX12_cond : ByteArray := prog_14_method_26_code
def yX12_cond : MethodName := ⟨"ShareHouseModel", "cond", "(I)V"⟩
abbrev cX12_tellClause : ByteArray := prog_14_method_27_code
def yX12_tellClause : MethodName := ⟨"ShareHouseModel", "tellClause", "(I)V"⟩
abbrev cX12_lease : ByteArray := prog_14_method_28_code
def yX12_lease : MethodName := ⟨"ShareHouseModel", "lease", "(I)I"⟩
abbrev cX12_clauseOf : ByteArray := prog_14_method_29_code
def yX12_clauseOf : MethodName := ⟨"ShareHouseModel", "clauseOf", "(III)I"⟩
abbrev cX12_clause : ByteArray := prog_14_method_30_code
def yX12_clause : MethodName := ⟨"ShareHouseModel", "clause", "(III)I"⟩
abbrev cX12_common : ByteArray := prog_14_method_31_code
def yX12_common : MethodName := ⟨"ShareHouseModel", "common", "(JJ)J"⟩
abbrev cX12_together : ByteArray := prog_14_method_32_code
def yX12_together : MethodName := ⟨"ShareHouseModel", "together", "(I)I"⟩
abbrev cX12_findShare : ByteArray := prog_14_method_33_code
def yX12_findShare : MethodName := ⟨"ShareHouseModel", "findShare", "(II)V"⟩
abbrev cX12_share : ByteArray := prog_14_method_34_code
def yX12_share : MethodName := ⟨"ShareHouseModel", "share", "(III)I"⟩
abbrev cX12_findShares : ByteArray := prog_14_method_35_code
def yX12_findShares : MethodName := ⟨"ShareHouseModel", "findShares", "(I)V"⟩
abbrev cX12_sum : ByteArray := prog_14_method_36_code
def yX12_sum : MethodName := ⟨"ShareHouseModel", "sum", "(II)J"⟩
abbrev cX12_law : ByteArray := prog_14_method_37_code
def yX12_law : MethodName := ⟨"ShareHouseModel", "law", "(II)I"⟩
abbrev cX12_dueLine : ByteArray := prog_14_method_38_code
def yX12_dueLine : MethodName := ⟨"ShareHouseModel", "dueLine", "(I)J"⟩
abbrev cX12_mostOf : ByteArray := prog_14_method_39_code
def yX12_mostOf : MethodName := ⟨"ShareHouseModel", "mostOf", "(I)I"⟩
abbrev cX12_rule : ByteArray := prog_14_method_40_code
def yX12_rule : MethodName := ⟨"ShareHouseModel", "rule", "(II)I"⟩
abbrev cX12_addCost : ByteArray := prog_14_method_41_code
def yX12_addCost : MethodName := ⟨"ShareHouseModel", "addCost", "(IIII)I"⟩
abbrev cX12_cost : ByteArray := prog_14_method_42_code
def yX12_cost : MethodName := ⟨"ShareHouseModel", "cost", "(III)I"⟩
abbrev cX12_costAt : ByteArray := prog_14_method_43_code
def yX12_costAt : MethodName := ⟨"ShareHouseModel", "costAt", "(II)I"⟩
abbrev cX12_pence : ByteArray := prog_14_method_44_code
def yX12_pence : MethodName := ⟨"ShareHouseModel", "pence", "(II)I"⟩
abbrev cX12_mayRight : ByteArray := prog_14_method_45_code
def yX12_mayRight : MethodName := ⟨"ShareHouseModel", "mayRight", "(I)I"⟩
abbrev cX12_putRight : ByteArray := prog_14_method_46_code
def yX12_putRight : MethodName := ⟨"ShareHouseModel", "putRight", "(II)V"⟩
abbrev cX12_right : ByteArray := prog_14_method_47_code
def yX12_right : MethodName := ⟨"ShareHouseModel", "right", "(II)I"⟩
abbrev cX12_levelOf : ByteArray := prog_14_method_48_code
def yX12_levelOf : MethodName := ⟨"ShareHouseModel", "levelOf", "(I)I"⟩
abbrev cX12_costOf : ByteArray := prog_14_method_49_code
def yX12_costOf : MethodName := ⟨"ShareHouseModel", "costOf", "(II)I"⟩
abbrev cX12_findParts : ByteArray := prog_14_method_50_code
def yX12_findParts : MethodName := ⟨"ShareHouseModel", "findParts", "(II)V"⟩
abbrev cX12_part : ByteArray := prog_14_method_51_code
def yX12_part : MethodName := ⟨"ShareHouseModel", "part", "(III)I"⟩
abbrev cX12_landlord : ByteArray := prog_14_method_52_code
def yX12_landlord : MethodName := ⟨"ShareHouseModel", "landlord", "(II)I"⟩
abbrev cX12_sell : ByteArray := prog_14_method_53_code
def yX12_sell : MethodName := ⟨"ShareHouseModel", "sell", "(III)I"⟩
abbrev cX12_ownerOf : ByteArray := prog_14_method_54_code
def yX12_ownerOf : MethodName := ⟨"ShareHouseModel", "ownerOf", "(II)I"⟩
abbrev cX12_owner : ByteArray := prog_14_method_55_code
def yX12_owner : MethodName := ⟨"ShareHouseModel", "owner", "(II)I"⟩
abbrev cX12_pay : ByteArray := prog_14_method_56_code
def yX12_pay : MethodName := ⟨"ShareHouseModel", "pay", "(II)I"⟩
abbrev cX12_paid : ByteArray := prog_14_method_57_code
def yX12_paid : MethodName := ⟨"ShareHouseModel", "paid", "(II)I"⟩
abbrev cX12_findBill : ByteArray := prog_14_method_58_code
def yX12_findBill : MethodName := ⟨"ShareHouseModel", "findBill", "(II)I"⟩
abbrev cX12_interest : ByteArray := prog_14_method_59_code
def yX12_interest : MethodName := ⟨"ShareHouseModel", "interest", "(II)I"⟩
abbrev cX12_account : ByteArray := prog_14_method_60_code
def yX12_account : MethodName := ⟨"ShareHouseModel", "account", "(III)I"⟩
abbrev cX12_asked : ByteArray := prog_14_method_61_code
def yX12_asked : MethodName := ⟨"ShareHouseModel", "asked", "(II)I"⟩
abbrev cX12_workOf : ByteArray := prog_14_method_62_code
def yX12_workOf : MethodName := ⟨"ShareHouseModel", "workOf", "(II)I"⟩
abbrev cX12_work : ByteArray := prog_14_method_63_code
def yX12_work : MethodName := ⟨"ShareHouseModel", "work", "(II)I"⟩
abbrev cX12_letter : ByteArray := prog_14_method_64_code
def yX12_letter : MethodName := ⟨"ShareHouseModel", "letter", "(I)I"⟩
abbrev cX12_price : ByteArray := prog_14_method_65_code
def yX12_price : MethodName := ⟨"ShareHouseModel", "price", "(II)I"⟩
abbrev cX12_cappedBy : ByteArray := prog_14_method_66_code
def yX12_cappedBy : MethodName := ⟨"ShareHouseModel", "cappedBy", "(I)I"⟩
abbrev cX12_done : ByteArray := prog_14_method_67_code
def yX12_done : MethodName := ⟨"ShareHouseModel", "done", "(I)I"⟩
abbrev cX12_capped : ByteArray := prog_14_method_68_code
def yX12_capped : MethodName := ⟨"ShareHouseModel", "capped", "(I)I"⟩
abbrev cX12_like : ByteArray := prog_14_method_69_code
def yX12_like : MethodName := ⟨"ShareHouseModel", "like", "(II)I"⟩
abbrev cX12_fairOf : ByteArray := prog_14_method_70_code
def yX12_fairOf : MethodName := ⟨"ShareHouseModel", "fairOf", "(I)I"⟩
abbrev cX12_fair : ByteArray := prog_14_method_71_code
def yX12_fair : MethodName := ⟨"ShareHouseModel", "fair", "(I)I"⟩
abbrev cX12_cut : ByteArray := prog_14_method_72_code
def yX12_cut : MethodName := ⟨"ShareHouseModel", "cut", "(I)I"⟩
abbrev cX12_piece : ByteArray := prog_14_method_73_code
def yX12_piece : MethodName := ⟨"ShareHouseModel", "piece", "(III)I"⟩
abbrev cX12_isSet : ByteArray := prog_14_method_74_code
def yX12_isSet : MethodName := ⟨"ShareHouseModel", "isSet", "(I)Z"⟩
abbrev cX12_findSpent : ByteArray := prog_14_method_75_code
def yX12_findSpent : MethodName := ⟨"ShareHouseModel", "findSpent", "(I)V"⟩
abbrev cX12_lacks : ByteArray := prog_14_method_76_code
def yX12_lacks : MethodName := ⟨"ShareHouseModel", "lacks", "(II)I"⟩
abbrev cX12_levelPay : ByteArray := prog_14_method_77_code
def yX12_levelPay : MethodName := ⟨"ShareHouseModel", "levelPay", "(I)I"⟩
abbrev cX12_binds : ByteArray := prog_14_method_78_code
def yX12_binds : MethodName := ⟨"ShareHouseModel", "binds", "(I)I"⟩
abbrev cX12_level : ByteArray := prog_14_method_79_code
def yX12_level : MethodName := ⟨"ShareHouseModel", "level", "(II)I"⟩
abbrev cX12_left : ByteArray := prog_14_method_80_code
def yX12_left : MethodName := ⟨"ShareHouseModel", "left", "(III)I"⟩
abbrev cX12_ones : ByteArray := prog_14_method_81_code
def yX12_ones : MethodName := ⟨"ShareHouseModel", "ones", "(I)I"⟩
abbrev cX12_worst : ByteArray := prog_14_method_82_code
def yX12_worst : MethodName := ⟨"ShareHouseModel", "worst", "(I)I"⟩
abbrev cX12_isCell : ByteArray := prog_14_method_83_code
def yX12_isCell : MethodName := ⟨"ShareHouseModel", "isCell", "(II)Z"⟩
abbrev cX12_row : ByteArray := prog_14_method_84_code
def yX12_row : MethodName := ⟨"ShareHouseModel", "row", "(II)I"⟩
abbrev cX12_alter : ByteArray := prog_14_method_85_code
def yX12_alter : MethodName := ⟨"ShareHouseModel", "alter", "(III)I"⟩
abbrev cX12_drop : ByteArray := prog_14_method_86_code
def yX12_drop : MethodName := ⟨"ShareHouseModel", "drop", "()I"⟩
abbrev cX12_check : ByteArray := prog_14_method_87_code
def yX12_check : MethodName := ⟨"ShareHouseModel", "check", "()I"⟩
abbrev cX12_buyers : ByteArray := prog_14_method_88_code
def yX12_buyers : MethodName := ⟨"ShareHouseModel", "buyers", "()I"⟩
abbrev cX12_many : ByteArray := prog_14_method_89_code
def yX12_many : MethodName := ⟨"ShareHouseModel", "many", "(I)I"⟩
abbrev cX12_keep : ByteArray := prog_14_method_90_code
def yX12_keep : MethodName := ⟨"ShareHouseModel", "keep", "()I"⟩
abbrev cX12_back : ByteArray := prog_14_method_91_code
def yX12_back : MethodName := ⟨"ShareHouseModel", "back", "()I"⟩
abbrev cJ6_bitCount_0f7a4 : ByteArray := prog_16_method_49_code
def yJ6_bitCount_0f7a4 : MethodName := ⟨"java/lang/Integer", "bitCount", "(I)I"⟩
abbrev cJ9_max_7cf53 : ByteArray := prog_17_method_65_code
def yJ9_max_7cf53 : MethodName := ⟨"java/lang/Math", "max", "(II)I"⟩
abbrev cJ9_max_f86c9 : ByteArray := prog_17_method_66_code
def yJ9_max_f86c9 : MethodName := ⟨"java/lang/Math", "max", "(JJ)J"⟩
abbrev cJ9_min_7cf53 : ByteArray := prog_17_method_69_code
def yJ9_min_7cf53 : MethodName := ⟨"java/lang/Math", "min", "(II)I"⟩
abbrev cJ0_length_8abf5 : ByteArray := prog_18_method_54_code
def yJ0_length_8abf5 : MethodName := ⟨"java/lang/String", "length", "()I"⟩
abbrev cJ0_charAt_5068e : ByteArray := prog_18_method_56_code
def yJ0_charAt_5068e : MethodName := ⟨"java/lang/String", "charAt", "(I)C"⟩
abbrev cJ0_coder_7d493 : ByteArray := prog_18_method_152_code
def yJ0_coder_7d493 : MethodName := ⟨"java/lang/String", "coder", "()B"⟩
abbrev cJ0_isLatin1_aae02 : ByteArray := prog_18_method_154_code
def yJ0_isLatin1_aae02 : MethodName := ⟨"java/lang/String", "isLatin1", "()Z"⟩
abbrev cJ0_checkIndex_df160 : ByteArray := prog_18_method_155_code
def yJ0_checkIndex_df160 : MethodName := ⟨"java/lang/String", "checkIndex", "(II)V"⟩
abbrev cJ1_charAt_3b067 : ByteArray := prog_19_method_2_code
def yJ1_charAt_3b067 : MethodName := ⟨"java/lang/StringLatin1", "charAt", "([BI)C"⟩
abbrev cJ2_getChar_3b067 : ByteArray := prog_20_method_5_code
def yJ2_getChar_3b067 : MethodName := ⟨"java/lang/StringUTF16", "getChar", "([BI)C"⟩
abbrev cJ2_length_9d52b : ByteArray := prog_20_method_6_code
def yJ2_length_9d52b : MethodName := ⟨"java/lang/StringUTF16", "length", "([B)I"⟩
abbrev cJ2_charAt_3b067 : ByteArray := prog_20_method_83_code
def yJ2_charAt_3b067 : MethodName := ⟨"java/lang/StringUTF16", "charAt", "([BI)C"⟩
abbrev cJ2_checkIndex_2214a : ByteArray := prog_20_method_91_code
def yJ2_checkIndex_2214a : MethodName := ⟨"java/lang/StringUTF16", "checkIndex", "(I[B)V"⟩
abbrev cJ7_fill_53178 : ByteArray := prog_22_method_103_code
def yJ7_fill_53178 : MethodName := ⟨"java/util/Arrays", "fill", "([II)V"⟩
abbrev cJ3_checkIndex_8e157 : ByteArray := prog_23_method_11_code
def yJ3_checkIndex_8e157 : MethodName := ⟨"jdk/internal/util/Preconditions", "checkIndex", "(IILjava/util/function/BiFunction;)I"⟩
/-- the shapes of the cells, by their numbers: (0, class), (1, n) ints, (2, n) booleans, (3, n) longs, (4, n) leases, (5, n) rows of ints -/
def am_shL : List (Nat × Nat) := [(0, 11), (0, 3), (1, 6), (1, 6), (0, 2), (1, 8), (1, 8), (2, 8), (4, 8), (0, 4), (1, 72), (0, 4), (1, 72), (0, 4), (1, 72), (0, 4), (1, 72), (0, 4), (1, 72), (0, 4), (1, 72), (0, 4), (1, 72), (0, 4), (1, 72), (0, 1), (1, 20), (1, 20), (1, 20), (1, 20), (2, 20), (1, 30), (1, 30), (1, 30), (0, 5), (1, 20), (1, 20), (1, 20), (1, 20), (1, 20), (1, 20), (0, 10), (1, 6), (1, 6), (2, 6), (1, 6), (1, 6), (1, 6), (1, 6), (1, 6), (1, 16), (1, 16), (0, 8), (1, 7), (1, 7), (1, 7), (1, 30), (0, 3), (1, 6), (1, 6), (0, 2), (1, 8), (1, 8), (2, 8), (4, 8), (0, 4), (1, 72), (0, 4), (1, 72), (0, 4), (1, 72), (0, 4), (1, 72), (0, 4), (1, 72), (0, 4), (1, 72), (0, 4), (1, 72), (0, 4), (1, 72), (0, 1), (1, 20), (1, 20), (1, 20), (1, 20), (2, 20), (1, 30), (1, 30), (1, 30), (0, 5), (1, 20), (1, 20), (1, 20), (1, 20), (1, 20), (1, 20), (0, 10), (1, 6), (1, 6), (2, 6), (1, 6), (1, 6), (1, 6), (1, 6), (1, 6), (1, 16), (1, 16), (0, 8), (1, 7), (1, 7), (1, 7), (1, 30), (0, 9), (1, 200), (1, 200), (0, 4), (1, 72), (0, 7), (1, 384), (1, 384), (0, 6), (3, 8), (3, 8), (3, 8), (3, 8), (1, 8), (0, 0), (5, 8), (1, 20), (1, 20), (1, 20), (1, 20), (1, 20), (1, 20), (1, 20), (1, 20), (1, 900), (1, 8), (1, 8), (0, 12), (1, 1060), (1, 1060), (1, 200), (1, 72), (3, 8), (1, 8), (3, 8), (1, 20), (1, 8), (1, 30), (1, 384), (1, 384)]
def am_sh (k : Nat) : Nat × Nat := am_shL.getD k (9, 0)
def am_rfL : List (List (Option Nat)) := [[some 1, some 57, none, some 113, some 118, some 121, some 127], [none, some 2, some 3, some 4, some 25, some 34, some 41, some 52], [], [], [some 5, some 6, some 7, some 8, none], [], [], [], [some 9, some 11, some 13, some 15, some 17, some 19, some 21, some 23], [some 10, none], [], [some 12, none], [], [some 14, none], [], [some 16, none], [], [some 18, none], [], [some 20, none], [], [some 22, none], [], [some 24, none], [], [some 26, some 27, some 28, some 29, some 30, none, some 31, some 32, some 33, none], [], [], [], [], [], [], [], [], [some 35, some 36, some 37, none, some 38, some 39, some 40, none], [], [], [], [], [], [], [some 42, some 43, some 44, some 45, some 46, some 47, some 48, some 49, none, some 50, some 51, none], [], [], [], [], [], [], [], [], [], [], [some 53, some 54, some 55, none, some 56, none, none], [], [], [], [], [none, some 58, some 59, some 60, some 81, some 90, some 97, some 108], [], [], [some 61, some 62, some 63, some 64, none], [], [], [], [some 65, some 67, some 69, some 71, some 73, some 75, some 77, some 79], [some 66, none], [], [some 68, none], [], [some 70, none], [], [some 72, none], [], [some 74, none], [], [some 76, none], [], [some 78, none], [], [some 80, none], [], [some 82, some 83, some 84, some 85, some 86, none, some 87, some 88, some 89, none], [], [], [], [], [], [], [], [], [some 91, some 92, some 93, none, some 94, some 95, some 96, none], [], [], [], [], [], [], [some 98, some 99, some 100, some 101, some 102, some 103, some 104, some 105, none, some 106, some 107, none], [], [], [], [], [], [], [], [], [], [], [some 109, some 110, some 111, none, some 112, none, none], [], [], [], [], [some 114, some 115, none, some 116, none, none, none, none, none, none], [], [], [some 117, none], [], [some 119, none, some 120, none], [], [], [some 122, some 123, some 124, some 125, some 126, none, none], [], [], [], [], [], [some 128, some 137, some 138, some 139], [some 129, some 130, some 131, some 132, some 133, some 134, some 135, some 136], [], [], [], [], [], [], [], [], [], [], [], [some 141, some 142, none, some 143, none, none, none, none, none, none, none, none, none, some 144, none, none, none, some 145, none, none, some 146, some 147, none, some 148, some 149, some 150, none, some 151, none, some 152], [], [], [], [], [], [], [], [], [], [], [], []]
def am_RF (k j : Nat) : Option Nat := (am_rfL.getD k []).getD j none
abbrev am_NN : Nat := 153
end
section
/-! THE ABSTRACT MACHINE: cells by numbers; the mutable part is ints and longs; what a step does, and that the machine does it -/
abbrev am_T : Type := (Nat → Nat → Int32) × (Nat → Nat → Int64)
abbrev am_S : Type := Nat × am_T × (Nat → Nat → Option Nat)
abbrev am_G : Type := Nat × va_G × (Nat → ClassId) × (Nat → Nat)
def am_ad (g : am_G) (k : Nat) : Nat := if k < 1000 then g.1 + k else g.2.2.2 k
def am_rv (g : am_G) : Value → Value
  | .ref k => .ref (am_ad g k)
  | v => v
def am_fv (g : am_G) (σ : am_S) (k j : Nat) (t : FieldType) : Value := match t with
  | .int => .int (σ.2.1.1 k j)
  | .boolean => .int (σ.2.1.1 k j)
  | .long => .long (σ.2.1.2 k j)
  | _ => va_rf ((σ.2.2 k j).map (am_ad g))
def am_fs (g : am_G) (σ : am_S) (k ci : Nat) : List Value := (List.range (am_nf ci)).map (fun j => am_fv g σ k j (am_ty ci j))
def am_elS (g : am_G) (σ : am_S) (k : Nat) (sh : Nat × Nat) : va_E := match sh with
  | (0, ci) => .inr (ci, am_fs g σ k ci)
  | (1, n) => .inl (g.2.2.1 1, n, .inl (σ.2.1.1 k))
  | (2, n) => .inl (g.2.2.1 2, n, .inl (σ.2.1.1 k))
  | (3, n) => .inl (g.2.2.1 3, n, .inr (.inl (σ.2.1.2 k)))
  | (t, n) => .inl (g.2.2.1 t, n, .inr (.inr (.inr (.inr (fun j => (σ.2.2 k j).map (am_ad g))))))
def am_el (g : am_G) (σ : am_S) (k : Nat) : va_E := am_elS g σ k (am_sh k)
def am_ws (g : am_G) (σ : am_S) : va_W := (List.range σ.1).map (fun k => (g.1 + k, am_el g σ k))
/-- the heap holds the world; its size is known while cells are made -/
def am_I (g : am_G) (σ : am_S) (H : Heap) : Prop := (σ.1 ≤ 1000 ∧ g.1 + σ.1 ≤ H.size) ∧ (σ.1 < am_NN → H.size = g.1 + σ.1) ∧ va_P g.2.1 am_cl (am_ws g σ) H
def am_tys (g : am_G) : List (ClassId × FieldType) := [(g.2.2.1 1, .int), (g.2.2.1 2, .boolean), (g.2.2.1 3, .long), (g.2.2.1 4, .object "ShareHouse$Lease"), (g.2.2.1 5, .array .int)]
/-- writing -/
def am_si (τ : am_T) (k j : Nat) (v : Int32) : am_T := (fun a b => if a = k ∧ b = j then v else τ.1 a b, τ.2)
def am_sl (τ : am_T) (k j : Nat) (v : Int64) : am_T := (τ.1, fun a b => if a = k ∧ b = j then v else τ.2 a b)
theorem am_ws_at {g : am_G} {σ : am_S} {k : Nat} (h : k < σ.1) : (am_ws g σ)[k]? = some (g.1 + k, am_el g σ k) := by
  simp [am_ws, h]
theorem am_ws_len {g : am_G} {σ : am_S} : (am_ws g σ).length = σ.1 := by simp [am_ws]
theorem am_ws_D {g : am_G} {σ : am_S} : va_D (fun q => g.1 ≤ q) (am_ws g σ) := by
  have key : ∀ (k : Nat) (q : Nat × va_E), (am_ws g σ)[k]? = some q → q.1 = g.1 + k := by
    intro k q h
    have hl : k < σ.1 := by
      have := (List.getElem?_eq_some_iff.mp h).1
      rwa [am_ws_len] at this
    rw [am_ws_at hl] at h
    cases h
    rfl
  refine ⟨fun i j p q hi hj e => ?_, fun k q h => ?_⟩
  · rw [key i p hi, key j q hj] at e; omega
  · rw [key k q h]; exact Nat.le_add_right _ _
theorem am_ws_set {g : am_G} {σ σ' : am_S} {k : Nat} (h : k < σ.1) (hn : σ'.1 = σ.1) (ho : ∀ j, j ≠ k → am_el g σ' j = am_el g σ j) : (am_ws g σ).set k (g.1 + k, am_el g σ' k) = am_ws g σ' := by
  apply List.ext_getElem?
  intro j
  by_cases hj : j = k
  · subst hj
    rw [List.getElem?_set_self (by rw [am_ws_len]; exact h), am_ws_at (by rw [hn]; exact h)]
  · rw [List.getElem?_set_ne (Ne.symm hj)]
    by_cases hl : j < σ.1
    · rw [am_ws_at hl, am_ws_at (by rw [hn]; exact hl), ho j hj]
    · rw [List.getElem?_eq_none (by rw [am_ws_len]; omega), List.getElem?_eq_none (by rw [am_ws_len]; omega)]
theorem am_I_set {g : am_G} {σ σ' : am_S} {k : Nat} {H H1 : Heap} {e : va_E} (hI : am_I g σ H) (h : k < σ.1) (hn : σ'.1 = σ.1) (ho : ∀ j, j ≠ k → am_el g σ' j = am_el g σ j) (he : e = am_el g σ' k) (hz : H1.size = H.size) (hP : va_P g.2.1 am_cl ((am_ws g σ).set k (g.1 + k, e)) H1) : am_I g σ' H1 := by
  subst he
  rw [am_ws_set h hn ho] at hP
  exact ⟨by rw [hn, hz]; exact hI.1, by rw [hn, hz]; exact hI.2.1, hP⟩
/-- locals -/
def am_lg : List (Nat × Value) → Nat → Option Value
  | [], _ => none
  | (k, v) :: t, i => bif Nat.beq k i then some v else am_lg t i
def am_l1 (lv : List (Nat × Value)) (i : Nat) (v : Value) : List (Nat × Value) := (i, v) :: lv.filter (fun q => !(q.1 == i) && !(q.1 + 1 == i && q.2.category == 2))
def am_l2 (lv : List (Nat × Value)) (i : Nat) (v : Value) : List (Nat × Value) := (i, v) :: lv.filter (fun q => !(q.1 == i) && (!(q.1 == i + 1) && !(q.1 + 1 == i && q.2.category == 2)))
def am_ml (g : am_G) (lv : List (Nat × Value)) : List (Nat × Value) := lv.map (fun q => (q.1, am_rv g q.2))
theorem am_rv_cat (g : am_G) (v : Value) : (am_rv g v).category = v.category := by cases v <;> rfl
theorem am_lg_mem {lv : List (Nat × Value)} {i : Nat} {v : Value} (h : am_lg lv i = some v) : (i, v) ∈ lv := by
  induction lv with
  | nil => cases h
  | cons q t ih =>
    obtain ⟨k, w⟩ := q
    by_cases e : k = i
    · subst e
      have : am_lg ((k, w) :: t) k = some w := by simp [am_lg]
      rw [this] at h
      cases h
      exact List.mem_cons_self
    · have hb : Nat.beq k i = false := by
        cases hh : Nat.beq k i with
        | false => rfl
        | true => exact absurd (Nat.eq_of_beq_eq_true hh) e
      have : am_lg ((k, w) :: t) i = am_lg t i := by simp [am_lg, hb]
      rw [this] at h
      exact List.mem_cons_of_mem _ (ih h)
theorem am_lg_at {g : am_G} {ls : Array Slot} {nL : Nat} {lv : List (Nat × Value)} {i : Nat} {v : Value} (hl : lv_has ls nL (am_ml g lv)) (h : am_lg lv i = some v) : ls[i]? = some (.val (am_rv g v)) :=
  hl.2.2 (i, am_rv g v) (List.mem_map.mpr ⟨(i, v), am_lg_mem h, rfl⟩)
theorem am_lg_get {g : am_G} {lv : List (Nat × Value)} {i : Nat} {v : Value} (h : am_lg lv i = some v) : ∃ k : Nat, (am_ml g lv)[k]? = some (i, am_rv g v) := by
  obtain ⟨k, hk⟩ := List.getElem?_of_mem (am_lg_mem h)
  exact ⟨k, by simp [am_ml, hk]⟩
theorem am_ml_1 {g : am_G} {lv : List (Nat × Value)} {i : Nat} {v : Value} : (i, am_rv g v) :: (am_ml g lv).filter (fun q => !(q.1 == i) && !(q.1 + 1 == i && q.2.category == 2)) = am_ml g (am_l1 lv i v) := by
  simp only [am_ml, am_l1, List.map_cons, List.filter_map]
  congr 2
  apply List.filter_congr
  intro q _
  simp [Function.comp, am_rv_cat]
theorem am_ml_2 {g : am_G} {lv : List (Nat × Value)} {i : Nat} {v : Value} : (i, am_rv g v) :: (am_ml g lv).filter (fun q => !(q.1 == i) && (!(q.1 == i + 1) && !(q.1 + 1 == i && q.2.category == 2))) = am_ml g (am_l2 lv i v) := by
  simp only [am_ml, am_l2, List.map_cons, List.filter_map]
  congr 2
  apply List.filter_congr
  intro q _
  simp [Function.comp, am_rv_cat]
end
section
/-! what stands outside the world: nest words, String constants, static rows -/
def am_isN : Cond → Bool
  | .methodLinkNest _ _ _ _ => true
  | .fieldLinkNest _ _ _ _ _ _ => true
  | _ => false
def am_tb : List Cond := lw_tbl.filter goodWord
def am_sx : List Nat := [84, 92, 97, 99, 101, 103, 105, 90, 67, 125, 127, 129, 131, 117, 76, 135, 137, 138, 140]
def am_sw : List String := ["all", "roof", "lift", "lamps", "water", "fire", "agent", "and", "pays", "nothing", "equal", "area", "floor", "of", "if", "not", "shop", "above", "below"]
def am_len : List Nat := [3, 4, 4, 5, 5, 4, 5, 3, 4, 7, 5, 4, 5, 2, 2, 3, 4, 5, 5]
def am_byt : List (List Int32) := [[97, 108, 108], [114, 111, 111, 102], [108, 105, 102, 116], [108, 97, 109, 112, 115], [119, 97, 116, 101, 114], [102, 105, 114, 101], [97, 103, 101, 110, 116], [97, 110, 100], [112, 97, 121, 115], [110, 111, 116, 104, 105, 110, 103], [101, 113, 117, 97, 108], [97, 114, 101, 97], [102, 108, 111, 111, 114], [111, 102], [105, 102], [110, 111, 116], [115, 104, 111, 112], [97, 98, 111, 118, 101], [98, 101, 108, 111, 119]]
def am_RA : List Int32 := [540, 250, 30, 20, 0, 0]
def am_RM : List Int32 := [900, 9999, 90, 99, 99999, 9999]
def am_A (g : am_G) : Nat → Prop := fun q => g.1 ≤ q
def am_AOA (U : State) : Prop := (Cond.arrayOver (.array .int)).before #[] U = true
theorem am_AOA.moved {u U : State} (hvm : u.vm.Alike U.vm) (h : am_AOA u) : am_AOA U := by
  obtain ⟨comp, c, k, h1, h2, h3, h4, h5⟩ := arrayOverA_spec h
  obtain ⟨k', hk', he⟩ := hvm.2.2 _ _ h3
  have hi : (U.vm.classes.findIdx? fun (x : Class) => match x.kind with | .array component _ => component == comp | _ => false) = some c := by
    have e1 := va_idx_bare U.vm comp
    have e2 := va_idx_bare u.vm comp
    first | rw [hvm.bare_eq] at e1 | rw [← hvm.bare_eq] at e1
    exact e1.symm.trans (e2.trans h2)
  have hkind : k'.kind = .array comp (.array .int) := by rw [he]; exact h4
  have f1 : U.vm.findClass (FieldType.array .int).toString = some comp := by rw [hvm.findClass]; exact h1
  have f2 : U.vm.findClass ("[" ++ (FieldType.array .int).toString) = some c := by rw [hvm.findClass]; exact h5
  unfold am_AOA Cond.before Cond.holds
  simp only [Cond.value]
  rw [f1, Option.bind_some]
  refine (congrArg (fun o : Option Nat => (o.bind (fun c => (U.vm.classes[c]?).map fun (k : Class) => match k.kind with | .array _ ty => decide (ty = FieldType.array .int) && decide (U.vm.findClass ("[" ++ (FieldType.array .int).toString) = some c) | _ => false) == some true)) hi).trans ?_
  simp [hk', hkind, f2]
def am_O2 (g : am_G) (U : State) (H : Heap) : Prop := va_Z "java/lang/String" "COMPACT_STRINGS" "Z" (.int 1) (am_A g) U H ∧ (va_Z "jdk/internal/util/Preconditions" "SIOOBE_FORMATTER" "Ljava/util/function/BiFunction;" .null (am_A g) U H ∨ va_Z "jdk/internal/util/Preconditions" "SIOOBE_FORMATTER" "Ljava/util/function/BiFunction;" (.ref (g.2.2.2 1102)) (am_A g) U H) ∧ va_AO "ShareHouse$Lease" U ∧ am_AOA U
theorem am_O2.moved {g : am_G} {u U : State} {H : Heap} (hvm : u.vm.Alike U.vm) (h : am_O2 g u H) : am_O2 g U H := ⟨va_Z.moved hvm h.1, h.2.1.imp (va_Z.moved hvm) (va_Z.moved hvm), h.2.2.1.moved hvm, h.2.2.2.moved hvm⟩
theorem am_O2.kept {g : am_G} {U : State} {H H1 : Heap} (h : am_O2 g U H) (hq : ∀ a : Nat, a < H.size → ¬ am_A g a → H1[a]? = H[a]?) : am_O2 g U H1 := ⟨h.1.kept hq, h.2.1.imp (fun z => z.kept hq) (fun z => z.kept hq), h.2.2⟩
def am_O (g : am_G) (U : State) (H : Heap) : Prop := vk_S 19 am_len am_byt (fun i => g.2.2.2 (1000 + i)) (fun i => g.2.2.2 (1050 + i)) (am_A g) U H ∧ am_O2 g U H ∧ (va_Z "ShareHouse" "RULES_AT_FIRST" "[I" (.ref (g.2.2.2 1100)) (am_A g) U H ∧ va_T .int (g.2.2.2 1100) 6 (fun j => .int (am_RA.getD j 0)) (am_A g) U H) ∧ va_Z "ShareHouse" "RULES_MOST" "[I" (.ref (g.2.2.2 1101)) (am_A g) U H ∧ va_T .int (g.2.2.2 1101) 6 (fun j => .int (am_RM.getD j 0)) (am_A g) U H
def am_E (g : am_G) (U : State) : Prop := va_K g.2.1 am_cl (am_tys g) U ∧ (∀ w ∈ tables_1, am_isN w = true → va_Nw w U) ∧ (∀ i, i < 19 → vk_R "ShareHouse$Tape" (am_sx.getD i 0) (am_sw.getD i "") (g.2.2.2 (1000 + i)) U) ∧ am_O g U U.heap
theorem am_O.moved {g : am_G} {u U : State} {H : Heap} (hvm : u.vm.Alike U.vm) (h : am_O g u H) : am_O g U H := ⟨vk_S.moved hvm h.1, h.2.1.moved hvm, ⟨va_Z.moved hvm h.2.2.1.1, va_T.moved hvm h.2.2.1.2⟩, va_Z.moved hvm h.2.2.2.1, va_T.moved hvm h.2.2.2.2⟩
theorem am_O.kept {g : am_G} {U : State} {H H1 : Heap} (h : am_O g U H) (hq : ∀ a : Nat, a < H.size → ¬ am_A g a → H1[a]? = H[a]?) : am_O g U H1 := ⟨h.1.kept hq, h.2.1.kept hq, ⟨h.2.2.1.1.kept hq, h.2.2.1.2.kept hq⟩, h.2.2.2.1.kept hq, h.2.2.2.2.kept hq⟩
theorem am_Nw_warm {s U : State} (hW : s.WarmedH U.vm) {w : Cond} (hi : am_isN w = true) (h : va_Nw w s) : va_Nw w U := by
  cases w
  case methodLinkNest => exact va_Nw.warmM hW h
  case fieldLinkNest => exact va_Nw.warmF hW h
  all_goals (exact (nomatch (show false = true from hi)))
theorem am_E.step {g : am_G} {s U : State} (h : am_E g s) (hW : s.WarmedH U.vm) (hq : ∀ a : Nat, a < s.heap.size → ¬ am_A g a → U.heap[a]? = s.heap[a]?) : am_E g U :=
  ⟨va_K.moved hW.alike h.1, fun w hw hi => am_Nw_warm hW hi (h.2.1 w hw hi), fun i hi => vk_R.warm hW (h.2.2.1 i hi), (am_O.moved hW.alike h.2.2.2).kept hq⟩
/-- an activation: program, launch, environment, room, start, method, arguments, frames below, method, code, aim, the world's data, how many cells stood -/
abbrev am_X : Type := Program × Launch × Env × Room × State × MethodId × Array Value × List Frame × Method × Code × (State → Prop) × am_G × Nat
def am_suL : List Nat := am_shL.map (fun q => if q.1 = 0 then am_nf q.2 else q.2)
def am_su (n : Nat) : Nat := (am_suL.take n).sum
abbrev am_Y : Type := Nat × List (Nat × Value) × List Value × am_S
def am_W (X : am_X) (nL : Nat) (x : am_Y) : Prop := match X with
  | (p, l, e, R, s, m, args, below, meth, c, Q, g, n0) => ∀ (H : Heap) (locs : List Loc) (ls : Array Slot), n0 ≤ x.2.2.2.1 → am_I g x.2.2.2 H → va_S (am_A g) s.heap H locs → lv_has ls nL (am_ml g x.2.1) →
    W p l e R s m args below meth c H locs (x.2.2.2.1 - n0) (am_su x.2.2.2.1 - am_su n0) Q (F0 m x.1 ls (x.2.2.1.map (am_rv g)))
def am_F (X : am_X) (own : String) (cc : ByteArray) (nL : Nat) : Prop := match X with
  | (p, l, e, R, s, m, args, below, meth, c, Q, g, n0) => p.tables.exec = Jvm.exec ∧ c.code = cc ∧ c.maxLocals = nL ∧ s.vm.findClass own = some m.cls ∧ (∀ w ∈ am_tb, w.before args s = true) ∧ am_E g s ∧ meth.locks = false ∧ g.1 ≤ s.heap.size
theorem am_tbI {i : Nat} {w : Cond} (h : tables_1[i]? = some w) (hg : goodWord w = true) : w ∈ am_tb := List.mem_filter.mpr ⟨List.mem_append_right _ (List.mem_of_getElem? h), hg⟩
theorem am_tbP {i : Nat} {q : MethodName × Nat} (h : lw_privs[i]? = some q) : Cond.selects q.1.cls q.1 q.1 ∈ am_tb := List.mem_filter.mpr ⟨List.mem_append_left _ (List.mem_map.mpr ⟨q, List.mem_of_getElem? h, rfl⟩), rfl⟩
theorem am_tm1 {i : Nat} {w : Cond} (h : tables_1_1[i]? = some w) : w ∈ tables_1 := List.mem_append_left _ (List.mem_of_getElem? h)
theorem am_tb1 {i : Nat} {w : Cond} (h : tables_1_1[i]? = some w) (hg : goodWord w = true) : w ∈ am_tb := List.mem_filter.mpr ⟨List.mem_append_right _ (show w ∈ tables_1 from List.mem_append_left _ (List.mem_of_getElem? h)), hg⟩
theorem am_tm2 {i : Nat} {w : Cond} (h : tables_1_2[i]? = some w) : w ∈ tables_1 := List.mem_append_right _ (List.mem_append_left _ (List.mem_of_getElem? h))
theorem am_tb2 {i : Nat} {w : Cond} (h : tables_1_2[i]? = some w) (hg : goodWord w = true) : w ∈ am_tb := List.mem_filter.mpr ⟨List.mem_append_right _ (show w ∈ tables_1 from List.mem_append_right _ (List.mem_append_left _ (List.mem_of_getElem? h))), hg⟩
theorem am_tm3 {i : Nat} {w : Cond} (h : tables_1_3[i]? = some w) : w ∈ tables_1 := List.mem_append_right _ (List.mem_append_right _ (List.mem_append_left _ (List.mem_of_getElem? h)))
theorem am_tb3 {i : Nat} {w : Cond} (h : tables_1_3[i]? = some w) (hg : goodWord w = true) : w ∈ am_tb := List.mem_filter.mpr ⟨List.mem_append_right _ (show w ∈ tables_1 from List.mem_append_right _ (List.mem_append_right _ (List.mem_append_left _ (List.mem_of_getElem? h)))), hg⟩
theorem am_tm4 {i : Nat} {w : Cond} (h : tables_1_4[i]? = some w) : w ∈ tables_1 := List.mem_append_right _ (List.mem_append_right _ (List.mem_append_right _ (List.mem_append_left _ (List.mem_of_getElem? h))))
theorem am_tb4 {i : Nat} {w : Cond} (h : tables_1_4[i]? = some w) (hg : goodWord w = true) : w ∈ am_tb := List.mem_filter.mpr ⟨List.mem_append_right _ (show w ∈ tables_1 from List.mem_append_right _ (List.mem_append_right _ (List.mem_append_right _ (List.mem_append_left _ (List.mem_of_getElem? h))))), hg⟩
theorem am_tm5 {i : Nat} {w : Cond} (h : tables_1_5[i]? = some w) : w ∈ tables_1 := List.mem_append_right _ (List.mem_append_right _ (List.mem_append_right _ (List.mem_append_right _ (List.mem_append_left _ (List.mem_of_getElem? h)))))
theorem am_tb5 {i : Nat} {w : Cond} (h : tables_1_5[i]? = some w) (hg : goodWord w = true) : w ∈ am_tb := List.mem_filter.mpr ⟨List.mem_append_right _ (show w ∈ tables_1 from List.mem_append_right _ (List.mem_append_right _ (List.mem_append_right _ (List.mem_append_right _ (List.mem_append_left _ (List.mem_of_getElem? h)))))), hg⟩
theorem am_tm6 {i : Nat} {w : Cond} (h : tables_1_6[i]? = some w) : w ∈ tables_1 := List.mem_append_right _ (List.mem_append_right _ (List.mem_append_right _ (List.mem_append_right _ (List.mem_append_right _ (List.mem_append_left _ (List.mem_of_getElem? h))))))
theorem am_tb6 {i : Nat} {w : Cond} (h : tables_1_6[i]? = some w) (hg : goodWord w = true) : w ∈ am_tb := List.mem_filter.mpr ⟨List.mem_append_right _ (show w ∈ tables_1 from List.mem_append_right _ (List.mem_append_right _ (List.mem_append_right _ (List.mem_append_right _ (List.mem_append_right _ (List.mem_append_left _ (List.mem_of_getElem? h))))))), hg⟩
theorem am_tm7 {i : Nat} {w : Cond} (h : tables_1_7[i]? = some w) : w ∈ tables_1 := List.mem_append_right _ (List.mem_append_right _ (List.mem_append_right _ (List.mem_append_right _ (List.mem_append_right _ (List.mem_append_right _ (List.mem_of_getElem? h))))))
theorem am_tb7 {i : Nat} {w : Cond} (h : tables_1_7[i]? = some w) (hg : goodWord w = true) : w ∈ am_tb := List.mem_filter.mpr ⟨List.mem_append_right _ (show w ∈ tables_1 from List.mem_append_right _ (List.mem_append_right _ (List.mem_append_right _ (List.mem_append_right _ (List.mem_append_right _ (List.mem_append_right _ (List.mem_of_getElem? h))))))), hg⟩
def am_on (k : Nat) : String := match k with
  | 0 => "ShareHouse$Accounts"
  | 1 => "ShareHouse$Costs"
  | 2 => "ShareHouse$Flats"
  | 3 => "ShareHouse$House"
  | 4 => "ShareHouse$Lease"
  | 5 => "ShareHouse$Owners"
  | 6 => "ShareHouse$Parting"
  | 7 => "ShareHouse$Proof"
  | 8 => "ShareHouse$Reserve"
  | 9 => "ShareHouse$Tape"
  | 10 => "ShareHouse$Works"
  | 11 => "ShareHouse"
  | 12 => "ShareHouseModel"
  | 13 => "java/lang/Integer"
  | 14 => "java/util/Arrays"
  | _ => "ShareHouseLaw"
/-- field links: class number of the user, pool entry, class of the field, its place -/
def am_flk : List (Nat × Nat × Nat × Nat) := [(4, 9, 4, 0), (4, 19, 4, 1), (9, 40, 4, 1), (11, 105, 4, 1), (2, 9, 2, 0), (6, 79, 2, 0), (11, 79, 2, 0), (2, 15, 2, 1), (6, 72, 2, 1), (0, 154, 2, 1), (2, 18, 2, 2), (11, 83, 2, 2), (2, 24, 2, 3), (6, 54, 2, 3), (11, 91, 2, 3), (6, 32, 2, 4), (2, 40, 2, 4), (0, 62, 2, 4), (11, 206, 2, 4), (1, 9, 1, 0), (6, 91, 1, 0), (11, 173, 1, 0), (1, 15, 1, 1), (0, 69, 1, 1), (11, 176, 1, 1), (1, 18, 1, 2), (11, 179, 1, 2), (1, 21, 1, 3), (11, 182, 1, 3), (1, 24, 1, 4), (6, 117, 1, 4), (11, 185, 1, 4), (0, 38, 1, 5), (1, 44, 1, 5), (11, 328, 1, 5), (1, 28, 1, 6), (1, 31, 1, 7), (1, 34, 1, 8), (1, 48, 1, 9), (11, 329, 1, 9), (5, 11, 5, 0), (5, 15, 5, 1), (5, 18, 5, 2), (5, 34, 5, 3), (11, 332, 5, 3), (5, 21, 5, 4), (0, 116, 5, 4), (5, 24, 5, 5), (0, 122, 5, 5), (5, 27, 5, 6), (0, 119, 5, 6), (5, 38, 5, 7), (0, 113, 5, 7), (11, 335, 5, 7), (10, 11, 10, 0), (11, 270, 10, 0), (10, 15, 10, 1), (11, 271, 10, 1), (10, 18, 10, 2), (11, 258, 10, 2), (10, 22, 10, 3), (10, 25, 10, 4), (10, 28, 10, 5), (10, 31, 10, 6), (10, 34, 10, 7), (10, 50, 10, 8), (11, 338, 10, 8), (10, 37, 10, 9), (10, 40, 10, 10), (10, 54, 10, 11), (11, 339, 10, 11), (8, 9, 8, 0), (8, 15, 8, 1), (8, 18, 8, 2), (8, 28, 8, 3), (11, 342, 8, 3), (8, 21, 8, 4), (11, 305, 8, 4), (7, 45, 8, 5), (8, 46, 8, 5), (11, 299, 8, 5), (7, 48, 8, 6), (8, 49, 8, 6), (11, 302, 8, 6), (3, 61, 3, 0), (11, 61, 3, 0), (0, 151, 3, 0), (3, 18, 3, 1), (6, 121, 3, 1), (0, 101, 3, 1), (11, 150, 3, 1), (3, 23, 3, 2), (6, 104, 3, 2), (11, 144, 3, 2), (3, 29, 3, 3), (11, 51, 3, 3), (0, 58, 3, 3), (6, 96, 3, 3), (3, 36, 3, 4), (0, 32, 3, 4), (6, 85, 3, 4), (11, 157, 3, 4), (3, 43, 3, 5), (0, 65, 3, 5), (11, 213, 3, 5), (3, 50, 3, 6), (11, 249, 3, 6), (3, 57, 3, 7), (11, 282, 3, 7), (9, 11, 9, 0), (9, 15, 9, 1), (9, 25, 9, 2), (11, 343, 9, 2), (9, 21, 9, 3), (11, 95, 9, 3), (9, 54, 9, 4), (9, 41, 9, 5), (9, 47, 9, 6), (9, 33, 9, 7), (9, 36, 9, 8), (9, 61, 9, 9), (7, 11, 7, 0), (11, 314, 7, 0), (7, 18, 7, 1), (11, 317, 7, 1), (7, 15, 7, 2), (7, 26, 7, 3), (11, 318, 7, 3), (6, 9, 6, 0), (11, 119, 6, 0), (6, 15, 6, 1), (11, 123, 6, 1), (6, 18, 6, 2), (6, 21, 6, 3), (6, 24, 6, 4), (0, 82, 6, 4), (11, 202, 6, 4), (6, 28, 6, 5), (11, 132, 6, 5), (6, 51, 6, 6), (11, 128, 6, 6), (0, 11, 0, 0), (0, 16, 0, 1), (0, 20, 0, 2), (0, 23, 0, 3), (11, 10, 11, 0), (11, 16, 11, 1), (11, 347, 11, 2), (11, 22, 11, 3), (11, 29, 11, 4), (11, 36, 11, 5), (11, 43, 11, 6), (12, 7, 12, 0), (12, 13, 12, 1), (12, 318, 12, 2), (12, 16, 12, 3), (12, 55, 12, 4), (12, 63, 12, 5), (12, 60, 12, 6), (12, 73, 12, 7), (12, 126, 12, 8), (12, 112, 12, 9), (12, 115, 12, 10), (12, 141, 12, 11), (12, 153, 12, 12), (12, 19, 12, 13), (12, 162, 12, 14), (12, 189, 12, 15), (12, 192, 12, 16), (12, 22, 12, 17), (12, 210, 12, 18), (12, 214, 12, 19), (12, 26, 12, 20), (12, 29, 12, 21), (12, 257, 12, 22), (12, 32, 12, 23), (12, 35, 12, 24), (12, 38, 12, 25), (12, 41, 12, 26), (12, 45, 12, 27), (12, 311, 12, 28), (12, 48, 12, 29)]
set_option maxRecDepth 100000 in
theorem am_fl0 : Cond.fieldLink "ShareHouse$Lease" 9 (TX4 0).1 (TX4 0).2.1 (TX4 0).2.2.1 ∈ am_tb := am_tb1 (i := 58) rfl rfl
set_option maxRecDepth 100000 in
theorem am_fl1 : Cond.fieldLink "ShareHouse$Lease" 19 (TX4 1).1 (TX4 1).2.1 (TX4 1).2.2.1 ∈ am_tb := am_tb1 (i := 59) rfl rfl
set_option maxRecDepth 100000 in
theorem am_fl2 : Cond.fieldLink "ShareHouse$Tape" 40 (TX4 1).1 (TX4 1).2.1 (TX4 1).2.2.1 ∈ am_tb := am_tb1 (i := 60) rfl rfl
set_option maxRecDepth 100000 in
theorem am_fl3 : Cond.fieldLink "ShareHouse" 105 (TX4 1).1 (TX4 1).2.1 (TX4 1).2.2.1 ∈ am_tb := am_tb1 (i := 61) rfl rfl
set_option maxRecDepth 100000 in
theorem am_fl4 : Cond.fieldLink "ShareHouse$Flats" 9 (TX2 0).1 (TX2 0).2.1 (TX2 0).2.2.1 ∈ am_tb := am_tb1 (i := 69) rfl rfl
set_option maxRecDepth 100000 in
theorem am_fl5 : Cond.fieldLink "ShareHouse$Parting" 79 (TX2 0).1 (TX2 0).2.1 (TX2 0).2.2.1 ∈ am_tb := am_tb1 (i := 70) rfl rfl
set_option maxRecDepth 100000 in
theorem am_fl6 : Cond.fieldLink "ShareHouse" 79 (TX2 0).1 (TX2 0).2.1 (TX2 0).2.2.1 ∈ am_tb := am_tb1 (i := 71) rfl rfl
set_option maxRecDepth 100000 in
theorem am_fl7 : Cond.fieldLink "ShareHouse$Flats" 15 (TX2 1).1 (TX2 1).2.1 (TX2 1).2.2.1 ∈ am_tb := am_tb1 (i := 72) rfl rfl
set_option maxRecDepth 100000 in
theorem am_fl8 : Cond.fieldLink "ShareHouse$Parting" 72 (TX2 1).1 (TX2 1).2.1 (TX2 1).2.2.1 ∈ am_tb := am_tb1 (i := 73) rfl rfl
set_option maxRecDepth 100000 in
theorem am_fl9 : Cond.fieldLink "ShareHouse$Accounts" 154 (TX2 1).1 (TX2 1).2.1 (TX2 1).2.2.1 ∈ am_tb := am_tb1 (i := 74) rfl rfl
set_option maxRecDepth 100000 in
theorem am_fl10 : Cond.fieldLink "ShareHouse$Flats" 18 (TX2 2).1 (TX2 2).2.1 (TX2 2).2.2.1 ∈ am_tb := am_tb1 (i := 75) rfl rfl
set_option maxRecDepth 100000 in
theorem am_fl11 : Cond.fieldLink "ShareHouse" 83 (TX2 2).1 (TX2 2).2.1 (TX2 2).2.2.1 ∈ am_tb := am_tb1 (i := 76) rfl rfl
set_option maxRecDepth 100000 in
theorem am_fl12 : Cond.fieldLink "ShareHouse$Flats" 24 (TX2 3).1 (TX2 3).2.1 (TX2 3).2.2.1 ∈ am_tb := am_tb1 (i := 77) rfl rfl
set_option maxRecDepth 100000 in
theorem am_fl13 : Cond.fieldLink "ShareHouse$Parting" 54 (TX2 3).1 (TX2 3).2.1 (TX2 3).2.2.1 ∈ am_tb := am_tb1 (i := 78) rfl rfl
set_option maxRecDepth 100000 in
theorem am_fl14 : Cond.fieldLink "ShareHouse" 91 (TX2 3).1 (TX2 3).2.1 (TX2 3).2.2.1 ∈ am_tb := am_tb1 (i := 79) rfl rfl
set_option maxRecDepth 100000 in
theorem am_fl15 : Cond.fieldLink "ShareHouse$Parting" 32 (TX2 4).1 (TX2 4).2.1 (TX2 4).2.2.1 ∈ am_tb := am_tb1 (i := 80) rfl rfl
set_option maxRecDepth 100000 in
theorem am_fl16 : Cond.fieldLink "ShareHouse$Flats" 40 (TX2 4).1 (TX2 4).2.1 (TX2 4).2.2.1 ∈ am_tb := am_tb1 (i := 81) rfl rfl
set_option maxRecDepth 100000 in
theorem am_fl17 : Cond.fieldLink "ShareHouse$Accounts" 62 (TX2 4).1 (TX2 4).2.1 (TX2 4).2.2.1 ∈ am_tb := am_tb1 (i := 82) rfl rfl
set_option maxRecDepth 100000 in
theorem am_fl18 : Cond.fieldLink "ShareHouse" 206 (TX2 4).1 (TX2 4).2.1 (TX2 4).2.2.1 ∈ am_tb := am_tb1 (i := 83) rfl rfl
set_option maxRecDepth 100000 in
theorem am_fl19 : Cond.fieldLink "ShareHouse$Costs" 9 (TX1 0).1 (TX1 0).2.1 (TX1 0).2.2.1 ∈ am_tb := am_tb1 (i := 101) rfl rfl
set_option maxRecDepth 100000 in
theorem am_fl20 : Cond.fieldLink "ShareHouse$Parting" 91 (TX1 0).1 (TX1 0).2.1 (TX1 0).2.2.1 ∈ am_tb := am_tb1 (i := 102) rfl rfl
set_option maxRecDepth 100000 in
theorem am_fl21 : Cond.fieldLink "ShareHouse" 173 (TX1 0).1 (TX1 0).2.1 (TX1 0).2.2.1 ∈ am_tb := am_tb1 (i := 103) rfl rfl
set_option maxRecDepth 100000 in
theorem am_fl22 : Cond.fieldLink "ShareHouse$Costs" 15 (TX1 1).1 (TX1 1).2.1 (TX1 1).2.2.1 ∈ am_tb := am_tb1 (i := 104) rfl rfl
set_option maxRecDepth 100000 in
theorem am_fl23 : Cond.fieldLink "ShareHouse$Accounts" 69 (TX1 1).1 (TX1 1).2.1 (TX1 1).2.2.1 ∈ am_tb := am_tb1 (i := 105) rfl rfl
set_option maxRecDepth 100000 in
theorem am_fl24 : Cond.fieldLink "ShareHouse" 176 (TX1 1).1 (TX1 1).2.1 (TX1 1).2.2.1 ∈ am_tb := am_tb1 (i := 106) rfl rfl
set_option maxRecDepth 100000 in
theorem am_fl25 : Cond.fieldLink "ShareHouse$Costs" 18 (TX1 2).1 (TX1 2).2.1 (TX1 2).2.2.1 ∈ am_tb := am_tb1 (i := 107) rfl rfl
set_option maxRecDepth 100000 in
theorem am_fl26 : Cond.fieldLink "ShareHouse" 179 (TX1 2).1 (TX1 2).2.1 (TX1 2).2.2.1 ∈ am_tb := am_tb1 (i := 108) rfl rfl
set_option maxRecDepth 100000 in
theorem am_fl27 : Cond.fieldLink "ShareHouse$Costs" 21 (TX1 3).1 (TX1 3).2.1 (TX1 3).2.2.1 ∈ am_tb := am_tb1 (i := 109) rfl rfl
set_option maxRecDepth 100000 in
theorem am_fl28 : Cond.fieldLink "ShareHouse" 182 (TX1 3).1 (TX1 3).2.1 (TX1 3).2.2.1 ∈ am_tb := am_tb1 (i := 110) rfl rfl
set_option maxRecDepth 100000 in
theorem am_fl29 : Cond.fieldLink "ShareHouse$Costs" 24 (TX1 4).1 (TX1 4).2.1 (TX1 4).2.2.1 ∈ am_tb := am_tb1 (i := 111) rfl rfl
set_option maxRecDepth 100000 in
theorem am_fl30 : Cond.fieldLink "ShareHouse$Parting" 117 (TX1 4).1 (TX1 4).2.1 (TX1 4).2.2.1 ∈ am_tb := am_tb1 (i := 112) rfl rfl
set_option maxRecDepth 100000 in
theorem am_fl31 : Cond.fieldLink "ShareHouse" 185 (TX1 4).1 (TX1 4).2.1 (TX1 4).2.2.1 ∈ am_tb := am_tb1 (i := 113) rfl rfl
set_option maxRecDepth 100000 in
theorem am_fl32 : Cond.fieldLink "ShareHouse$Accounts" 38 (TX1 5).1 (TX1 5).2.1 (TX1 5).2.2.1 ∈ am_tb := am_tb1 (i := 114) rfl rfl
set_option maxRecDepth 100000 in
theorem am_fl33 : Cond.fieldLink "ShareHouse$Costs" 44 (TX1 5).1 (TX1 5).2.1 (TX1 5).2.2.1 ∈ am_tb := am_tb1 (i := 115) rfl rfl
set_option maxRecDepth 100000 in
theorem am_fl34 : Cond.fieldLink "ShareHouse" 328 (TX1 5).1 (TX1 5).2.1 (TX1 5).2.2.1 ∈ am_tb := am_tb1 (i := 116) rfl rfl
set_option maxRecDepth 100000 in
theorem am_fl35 : Cond.fieldLink "ShareHouse$Costs" 28 (TX1 6).1 (TX1 6).2.1 (TX1 6).2.2.1 ∈ am_tb := am_tb1 (i := 117) rfl rfl
set_option maxRecDepth 100000 in
theorem am_fl36 : Cond.fieldLink "ShareHouse$Costs" 31 (TX1 7).1 (TX1 7).2.1 (TX1 7).2.2.1 ∈ am_tb := am_tb1 (i := 118) rfl rfl
set_option maxRecDepth 100000 in
theorem am_fl37 : Cond.fieldLink "ShareHouse$Costs" 34 (TX1 8).1 (TX1 8).2.1 (TX1 8).2.2.1 ∈ am_tb := am_tb1 (i := 119) rfl rfl
set_option maxRecDepth 100000 in
theorem am_fl38 : Cond.fieldLink "ShareHouse$Costs" 48 (TX1 9).1 (TX1 9).2.1 (TX1 9).2.2.1 ∈ am_tb := am_tb1 (i := 120) rfl rfl
set_option maxRecDepth 100000 in
theorem am_fl39 : Cond.fieldLink "ShareHouse" 329 (TX1 9).1 (TX1 9).2.1 (TX1 9).2.2.1 ∈ am_tb := am_tb1 (i := 121) rfl rfl
set_option maxRecDepth 100000 in
theorem am_fl40 : Cond.fieldLink "ShareHouse$Owners" 11 (TX5 0).1 (TX5 0).2.1 (TX5 0).2.2.1 ∈ am_tb := am_tb1 (i := 149) rfl rfl
set_option maxRecDepth 100000 in
theorem am_fl41 : Cond.fieldLink "ShareHouse$Owners" 15 (TX5 1).1 (TX5 1).2.1 (TX5 1).2.2.1 ∈ am_tb := am_tb1 (i := 150) rfl rfl
set_option maxRecDepth 100000 in
theorem am_fl42 : Cond.fieldLink "ShareHouse$Owners" 18 (TX5 2).1 (TX5 2).2.1 (TX5 2).2.2.1 ∈ am_tb := am_tb1 (i := 151) rfl rfl
set_option maxRecDepth 100000 in
theorem am_fl43 : Cond.fieldLink "ShareHouse$Owners" 34 (TX5 3).1 (TX5 3).2.1 (TX5 3).2.2.1 ∈ am_tb := am_tb1 (i := 152) rfl rfl
set_option maxRecDepth 100000 in
theorem am_fl44 : Cond.fieldLink "ShareHouse" 332 (TX5 3).1 (TX5 3).2.1 (TX5 3).2.2.1 ∈ am_tb := am_tb1 (i := 153) rfl rfl
set_option maxRecDepth 100000 in
theorem am_fl45 : Cond.fieldLink "ShareHouse$Owners" 21 (TX5 4).1 (TX5 4).2.1 (TX5 4).2.2.1 ∈ am_tb := am_tb1 (i := 154) rfl rfl
set_option maxRecDepth 100000 in
theorem am_fl46 : Cond.fieldLink "ShareHouse$Accounts" 116 (TX5 4).1 (TX5 4).2.1 (TX5 4).2.2.1 ∈ am_tb := am_tb1 (i := 155) rfl rfl
set_option maxRecDepth 100000 in
theorem am_fl47 : Cond.fieldLink "ShareHouse$Owners" 24 (TX5 5).1 (TX5 5).2.1 (TX5 5).2.2.1 ∈ am_tb := am_tb1 (i := 156) rfl rfl
set_option maxRecDepth 100000 in
theorem am_fl48 : Cond.fieldLink "ShareHouse$Accounts" 122 (TX5 5).1 (TX5 5).2.1 (TX5 5).2.2.1 ∈ am_tb := am_tb1 (i := 157) rfl rfl
set_option maxRecDepth 100000 in
theorem am_fl49 : Cond.fieldLink "ShareHouse$Owners" 27 (TX5 6).1 (TX5 6).2.1 (TX5 6).2.2.1 ∈ am_tb := am_tb1 (i := 158) rfl rfl
set_option maxRecDepth 100000 in
theorem am_fl50 : Cond.fieldLink "ShareHouse$Accounts" 119 (TX5 6).1 (TX5 6).2.1 (TX5 6).2.2.1 ∈ am_tb := am_tb1 (i := 159) rfl rfl
set_option maxRecDepth 100000 in
theorem am_fl51 : Cond.fieldLink "ShareHouse$Owners" 38 (TX5 7).1 (TX5 7).2.1 (TX5 7).2.2.1 ∈ am_tb := am_tb1 (i := 160) rfl rfl
set_option maxRecDepth 100000 in
theorem am_fl52 : Cond.fieldLink "ShareHouse$Accounts" 113 (TX5 7).1 (TX5 7).2.1 (TX5 7).2.2.1 ∈ am_tb := am_tb1 (i := 161) rfl rfl
set_option maxRecDepth 100000 in
theorem am_fl53 : Cond.fieldLink "ShareHouse" 335 (TX5 7).1 (TX5 7).2.1 (TX5 7).2.2.1 ∈ am_tb := am_tb1 (i := 162) rfl rfl
set_option maxRecDepth 100000 in
theorem am_fl54 : Cond.fieldLink "ShareHouse$Works" 11 (TX10 0).1 (TX10 0).2.1 (TX10 0).2.2.1 ∈ am_tb := am_tb1 (i := 186) rfl rfl
set_option maxRecDepth 100000 in
theorem am_fl55 : Cond.fieldLink "ShareHouse" 270 (TX10 0).1 (TX10 0).2.1 (TX10 0).2.2.1 ∈ am_tb := am_tb1 (i := 187) rfl rfl
set_option maxRecDepth 100000 in
theorem am_fl56 : Cond.fieldLink "ShareHouse$Works" 15 (TX10 1).1 (TX10 1).2.1 (TX10 1).2.2.1 ∈ am_tb := am_tb1 (i := 188) rfl rfl
set_option maxRecDepth 100000 in
theorem am_fl57 : Cond.fieldLink "ShareHouse" 271 (TX10 1).1 (TX10 1).2.1 (TX10 1).2.2.1 ∈ am_tb := am_tb1 (i := 189) rfl rfl
set_option maxRecDepth 100000 in
theorem am_fl58 : Cond.fieldLink "ShareHouse$Works" 18 (TX10 2).1 (TX10 2).2.1 (TX10 2).2.2.1 ∈ am_tb := am_tb1 (i := 190) rfl rfl
set_option maxRecDepth 100000 in
theorem am_fl59 : Cond.fieldLink "ShareHouse" 258 (TX10 2).1 (TX10 2).2.1 (TX10 2).2.2.1 ∈ am_tb := am_tb1 (i := 191) rfl rfl
set_option maxRecDepth 100000 in
theorem am_fl60 : Cond.fieldLink "ShareHouse$Works" 22 (TX10 3).1 (TX10 3).2.1 (TX10 3).2.2.1 ∈ am_tb := am_tb1 (i := 192) rfl rfl
set_option maxRecDepth 100000 in
theorem am_fl61 : Cond.fieldLink "ShareHouse$Works" 25 (TX10 4).1 (TX10 4).2.1 (TX10 4).2.2.1 ∈ am_tb := am_tb1 (i := 193) rfl rfl
set_option maxRecDepth 100000 in
theorem am_fl62 : Cond.fieldLink "ShareHouse$Works" 28 (TX10 5).1 (TX10 5).2.1 (TX10 5).2.2.1 ∈ am_tb := am_tb1 (i := 194) rfl rfl
set_option maxRecDepth 100000 in
theorem am_fl63 : Cond.fieldLink "ShareHouse$Works" 31 (TX10 6).1 (TX10 6).2.1 (TX10 6).2.2.1 ∈ am_tb := am_tb1 (i := 195) rfl rfl
set_option maxRecDepth 100000 in
theorem am_fl64 : Cond.fieldLink "ShareHouse$Works" 34 (TX10 7).1 (TX10 7).2.1 (TX10 7).2.2.1 ∈ am_tb := am_tb1 (i := 196) rfl rfl
set_option maxRecDepth 100000 in
theorem am_fl65 : Cond.fieldLink "ShareHouse$Works" 50 (TX10 8).1 (TX10 8).2.1 (TX10 8).2.2.1 ∈ am_tb := am_tb1 (i := 197) rfl rfl
set_option maxRecDepth 100000 in
theorem am_fl66 : Cond.fieldLink "ShareHouse" 338 (TX10 8).1 (TX10 8).2.1 (TX10 8).2.2.1 ∈ am_tb := am_tb1 (i := 198) rfl rfl
set_option maxRecDepth 100000 in
theorem am_fl67 : Cond.fieldLink "ShareHouse$Works" 37 (TX10 9).1 (TX10 9).2.1 (TX10 9).2.2.1 ∈ am_tb := am_tb1 (i := 199) rfl rfl
set_option maxRecDepth 100000 in
theorem am_fl68 : Cond.fieldLink "ShareHouse$Works" 40 (TX10 10).1 (TX10 10).2.1 (TX10 10).2.2.1 ∈ am_tb := am_tb1 (i := 200) rfl rfl
set_option maxRecDepth 100000 in
theorem am_fl69 : Cond.fieldLink "ShareHouse$Works" 54 (TX10 11).1 (TX10 11).2.1 (TX10 11).2.2.1 ∈ am_tb := am_tb1 (i := 201) rfl rfl
set_option maxRecDepth 100000 in
theorem am_fl70 : Cond.fieldLink "ShareHouse" 339 (TX10 11).1 (TX10 11).2.1 (TX10 11).2.2.1 ∈ am_tb := am_tb1 (i := 202) rfl rfl
set_option maxRecDepth 100000 in
theorem am_fl71 : Cond.fieldLink "ShareHouse$Reserve" 9 (TX8 0).1 (TX8 0).2.1 (TX8 0).2.2.1 ∈ am_tb := am_tb1 (i := 234) rfl rfl
set_option maxRecDepth 100000 in
theorem am_fl72 : Cond.fieldLink "ShareHouse$Reserve" 15 (TX8 1).1 (TX8 1).2.1 (TX8 1).2.2.1 ∈ am_tb := am_tb1 (i := 235) rfl rfl
set_option maxRecDepth 100000 in
theorem am_fl73 : Cond.fieldLink "ShareHouse$Reserve" 18 (TX8 2).1 (TX8 2).2.1 (TX8 2).2.2.1 ∈ am_tb := am_tb1 (i := 236) rfl rfl
set_option maxRecDepth 100000 in
theorem am_fl74 : Cond.fieldLink "ShareHouse$Reserve" 28 (TX8 3).1 (TX8 3).2.1 (TX8 3).2.2.1 ∈ am_tb := am_tb1 (i := 237) rfl rfl
set_option maxRecDepth 100000 in
theorem am_fl75 : Cond.fieldLink "ShareHouse" 342 (TX8 3).1 (TX8 3).2.1 (TX8 3).2.2.1 ∈ am_tb := am_tb1 (i := 238) rfl rfl
set_option maxRecDepth 100000 in
theorem am_fl76 : Cond.fieldLink "ShareHouse$Reserve" 21 (TX8 4).1 (TX8 4).2.1 (TX8 4).2.2.1 ∈ am_tb := am_tb1 (i := 239) rfl rfl
set_option maxRecDepth 100000 in
theorem am_fl77 : Cond.fieldLink "ShareHouse" 305 (TX8 4).1 (TX8 4).2.1 (TX8 4).2.2.1 ∈ am_tb := am_tb2 (i := 0) rfl rfl
set_option maxRecDepth 100000 in
theorem am_fl78 : Cond.fieldLink "ShareHouse$Proof" 45 (TX8 5).1 (TX8 5).2.1 (TX8 5).2.2.1 ∈ am_tb := am_tb2 (i := 1) rfl rfl
set_option maxRecDepth 100000 in
theorem am_fl79 : Cond.fieldLink "ShareHouse$Reserve" 46 (TX8 5).1 (TX8 5).2.1 (TX8 5).2.2.1 ∈ am_tb := am_tb2 (i := 2) rfl rfl
set_option maxRecDepth 100000 in
theorem am_fl80 : Cond.fieldLink "ShareHouse" 299 (TX8 5).1 (TX8 5).2.1 (TX8 5).2.2.1 ∈ am_tb := am_tb2 (i := 3) rfl rfl
set_option maxRecDepth 100000 in
theorem am_fl81 : Cond.fieldLink "ShareHouse$Proof" 48 (TX8 6).1 (TX8 6).2.1 (TX8 6).2.2.1 ∈ am_tb := am_tb2 (i := 4) rfl rfl
set_option maxRecDepth 100000 in
theorem am_fl82 : Cond.fieldLink "ShareHouse$Reserve" 49 (TX8 6).1 (TX8 6).2.1 (TX8 6).2.2.1 ∈ am_tb := am_tb2 (i := 5) rfl rfl
set_option maxRecDepth 100000 in
theorem am_fl83 : Cond.fieldLink "ShareHouse" 302 (TX8 6).1 (TX8 6).2.1 (TX8 6).2.2.1 ∈ am_tb := am_tb2 (i := 6) rfl rfl
set_option maxRecDepth 100000 in
theorem am_fl84 : Cond.fieldLink "ShareHouse$House" 61 (TX3 0).1 (TX3 0).2.1 (TX3 0).2.2.1 ∈ am_tb := am_tb2 (i := 22) rfl rfl
set_option maxRecDepth 100000 in
theorem am_fl85 : Cond.fieldLink "ShareHouse" 61 (TX3 0).1 (TX3 0).2.1 (TX3 0).2.2.1 ∈ am_tb := am_tb2 (i := 23) rfl rfl
set_option maxRecDepth 100000 in
theorem am_fl86 : Cond.fieldLink "ShareHouse$Accounts" 151 (TX3 0).1 (TX3 0).2.1 (TX3 0).2.2.1 ∈ am_tb := am_tb2 (i := 24) rfl rfl
set_option maxRecDepth 100000 in
theorem am_fl87 : Cond.fieldLink "ShareHouse$House" 18 (TX3 1).1 (TX3 1).2.1 (TX3 1).2.2.1 ∈ am_tb := am_tb2 (i := 25) rfl rfl
set_option maxRecDepth 100000 in
theorem am_fl88 : Cond.fieldLink "ShareHouse$Parting" 121 (TX3 1).1 (TX3 1).2.1 (TX3 1).2.2.1 ∈ am_tb := am_tb2 (i := 26) rfl rfl
set_option maxRecDepth 100000 in
theorem am_fl89 : Cond.fieldLink "ShareHouse$Accounts" 101 (TX3 1).1 (TX3 1).2.1 (TX3 1).2.2.1 ∈ am_tb := am_tb2 (i := 27) rfl rfl
set_option maxRecDepth 100000 in
theorem am_fl90 : Cond.fieldLink "ShareHouse" 150 (TX3 1).1 (TX3 1).2.1 (TX3 1).2.2.1 ∈ am_tb := am_tb2 (i := 28) rfl rfl
set_option maxRecDepth 100000 in
theorem am_fl91 : Cond.fieldLink "ShareHouse$House" 23 (TX3 2).1 (TX3 2).2.1 (TX3 2).2.2.1 ∈ am_tb := am_tb2 (i := 29) rfl rfl
set_option maxRecDepth 100000 in
theorem am_fl92 : Cond.fieldLink "ShareHouse$Parting" 104 (TX3 2).1 (TX3 2).2.1 (TX3 2).2.2.1 ∈ am_tb := am_tb2 (i := 30) rfl rfl
set_option maxRecDepth 100000 in
theorem am_fl93 : Cond.fieldLink "ShareHouse" 144 (TX3 2).1 (TX3 2).2.1 (TX3 2).2.2.1 ∈ am_tb := am_tb2 (i := 31) rfl rfl
set_option maxRecDepth 100000 in
theorem am_fl94 : Cond.fieldLink "ShareHouse$House" 29 (TX3 3).1 (TX3 3).2.1 (TX3 3).2.2.1 ∈ am_tb := am_tb2 (i := 32) rfl rfl
set_option maxRecDepth 100000 in
theorem am_fl95 : Cond.fieldLink "ShareHouse" 51 (TX3 3).1 (TX3 3).2.1 (TX3 3).2.2.1 ∈ am_tb := am_tb2 (i := 33) rfl rfl
set_option maxRecDepth 100000 in
theorem am_fl96 : Cond.fieldLink "ShareHouse$Accounts" 58 (TX3 3).1 (TX3 3).2.1 (TX3 3).2.2.1 ∈ am_tb := am_tb2 (i := 34) rfl rfl
set_option maxRecDepth 100000 in
theorem am_fl97 : Cond.fieldLink "ShareHouse$Parting" 96 (TX3 3).1 (TX3 3).2.1 (TX3 3).2.2.1 ∈ am_tb := am_tb2 (i := 35) rfl rfl
set_option maxRecDepth 100000 in
theorem am_fl98 : Cond.fieldLink "ShareHouse$House" 36 (TX3 4).1 (TX3 4).2.1 (TX3 4).2.2.1 ∈ am_tb := am_tb2 (i := 36) rfl rfl
set_option maxRecDepth 100000 in
theorem am_fl99 : Cond.fieldLink "ShareHouse$Accounts" 32 (TX3 4).1 (TX3 4).2.1 (TX3 4).2.2.1 ∈ am_tb := am_tb2 (i := 37) rfl rfl
set_option maxRecDepth 100000 in
theorem am_fl100 : Cond.fieldLink "ShareHouse$Parting" 85 (TX3 4).1 (TX3 4).2.1 (TX3 4).2.2.1 ∈ am_tb := am_tb2 (i := 38) rfl rfl
set_option maxRecDepth 100000 in
theorem am_fl101 : Cond.fieldLink "ShareHouse" 157 (TX3 4).1 (TX3 4).2.1 (TX3 4).2.2.1 ∈ am_tb := am_tb2 (i := 39) rfl rfl
set_option maxRecDepth 100000 in
theorem am_fl102 : Cond.fieldLink "ShareHouse$House" 43 (TX3 5).1 (TX3 5).2.1 (TX3 5).2.2.1 ∈ am_tb := am_tb2 (i := 40) rfl rfl
set_option maxRecDepth 100000 in
theorem am_fl103 : Cond.fieldLink "ShareHouse$Accounts" 65 (TX3 5).1 (TX3 5).2.1 (TX3 5).2.2.1 ∈ am_tb := am_tb2 (i := 41) rfl rfl
set_option maxRecDepth 100000 in
theorem am_fl104 : Cond.fieldLink "ShareHouse" 213 (TX3 5).1 (TX3 5).2.1 (TX3 5).2.2.1 ∈ am_tb := am_tb2 (i := 42) rfl rfl
set_option maxRecDepth 100000 in
theorem am_fl105 : Cond.fieldLink "ShareHouse$House" 50 (TX3 6).1 (TX3 6).2.1 (TX3 6).2.2.1 ∈ am_tb := am_tb2 (i := 43) rfl rfl
set_option maxRecDepth 100000 in
theorem am_fl106 : Cond.fieldLink "ShareHouse" 249 (TX3 6).1 (TX3 6).2.1 (TX3 6).2.2.1 ∈ am_tb := am_tb2 (i := 44) rfl rfl
set_option maxRecDepth 100000 in
theorem am_fl107 : Cond.fieldLink "ShareHouse$House" 57 (TX3 7).1 (TX3 7).2.1 (TX3 7).2.2.1 ∈ am_tb := am_tb2 (i := 45) rfl rfl
set_option maxRecDepth 100000 in
theorem am_fl108 : Cond.fieldLink "ShareHouse" 282 (TX3 7).1 (TX3 7).2.1 (TX3 7).2.2.1 ∈ am_tb := am_tb2 (i := 46) rfl rfl
set_option maxRecDepth 100000 in
theorem am_fl109 : Cond.fieldLink "ShareHouse$Tape" 11 (TX9 0).1 (TX9 0).2.1 (TX9 0).2.2.1 ∈ am_tb := am_tb2 (i := 72) rfl rfl
set_option maxRecDepth 100000 in
theorem am_fl110 : Cond.fieldLink "ShareHouse$Tape" 15 (TX9 1).1 (TX9 1).2.1 (TX9 1).2.2.1 ∈ am_tb := am_tb2 (i := 73) rfl rfl
set_option maxRecDepth 100000 in
theorem am_fl111 : Cond.fieldLink "ShareHouse$Tape" 25 (TX9 2).1 (TX9 2).2.1 (TX9 2).2.2.1 ∈ am_tb := am_tb2 (i := 74) rfl rfl
set_option maxRecDepth 100000 in
theorem am_fl112 : Cond.fieldLink "ShareHouse" 343 (TX9 2).1 (TX9 2).2.1 (TX9 2).2.2.1 ∈ am_tb := am_tb2 (i := 75) rfl rfl
set_option maxRecDepth 100000 in
theorem am_fl113 : Cond.fieldLink "ShareHouse$Tape" 21 (TX9 3).1 (TX9 3).2.1 (TX9 3).2.2.1 ∈ am_tb := am_tb2 (i := 76) rfl rfl
set_option maxRecDepth 100000 in
theorem am_fl114 : Cond.fieldLink "ShareHouse" 95 (TX9 3).1 (TX9 3).2.1 (TX9 3).2.2.1 ∈ am_tb := am_tb2 (i := 77) rfl rfl
set_option maxRecDepth 100000 in
theorem am_fl115 : Cond.fieldLink "ShareHouse$Tape" 54 (TX9 4).1 (TX9 4).2.1 (TX9 4).2.2.1 ∈ am_tb := am_tb2 (i := 78) rfl rfl
set_option maxRecDepth 100000 in
theorem am_fl116 : Cond.fieldLink "ShareHouse$Tape" 41 (TX9 5).1 (TX9 5).2.1 (TX9 5).2.2.1 ∈ am_tb := am_tb2 (i := 79) rfl rfl
set_option maxRecDepth 100000 in
theorem am_fl117 : Cond.fieldLink "ShareHouse$Tape" 47 (TX9 6).1 (TX9 6).2.1 (TX9 6).2.2.1 ∈ am_tb := am_tb2 (i := 80) rfl rfl
set_option maxRecDepth 100000 in
theorem am_fl118 : Cond.fieldLink "ShareHouse$Tape" 33 (TX9 7).1 (TX9 7).2.1 (TX9 7).2.2.1 ∈ am_tb := am_tb2 (i := 81) rfl rfl
set_option maxRecDepth 100000 in
theorem am_fl119 : Cond.fieldLink "ShareHouse$Tape" 36 (TX9 8).1 (TX9 8).2.1 (TX9 8).2.2.1 ∈ am_tb := am_tb2 (i := 82) rfl rfl
set_option maxRecDepth 100000 in
theorem am_fl120 : Cond.fieldLink "ShareHouse$Tape" 61 (TX9 9).1 (TX9 9).2.1 (TX9 9).2.2.1 ∈ am_tb := am_tb2 (i := 83) rfl rfl
set_option maxRecDepth 100000 in
theorem am_fl121 : Cond.fieldLink "ShareHouse$Proof" 11 (TX7 0).1 (TX7 0).2.1 (TX7 0).2.2.1 ∈ am_tb := am_tb2 (i := 111) rfl rfl
set_option maxRecDepth 100000 in
theorem am_fl122 : Cond.fieldLink "ShareHouse" 314 (TX7 0).1 (TX7 0).2.1 (TX7 0).2.2.1 ∈ am_tb := am_tb2 (i := 112) rfl rfl
set_option maxRecDepth 100000 in
theorem am_fl123 : Cond.fieldLink "ShareHouse$Proof" 18 (TX7 1).1 (TX7 1).2.1 (TX7 1).2.2.1 ∈ am_tb := am_tb2 (i := 113) rfl rfl
set_option maxRecDepth 100000 in
theorem am_fl124 : Cond.fieldLink "ShareHouse" 317 (TX7 1).1 (TX7 1).2.1 (TX7 1).2.2.1 ∈ am_tb := am_tb2 (i := 114) rfl rfl
set_option maxRecDepth 100000 in
theorem am_fl125 : Cond.fieldLink "ShareHouse$Proof" 15 (TX7 2).1 (TX7 2).2.1 (TX7 2).2.2.1 ∈ am_tb := am_tb2 (i := 115) rfl rfl
set_option maxRecDepth 100000 in
theorem am_fl126 : Cond.fieldLink "ShareHouse$Proof" 26 (TX7 3).1 (TX7 3).2.1 (TX7 3).2.2.1 ∈ am_tb := am_tb2 (i := 116) rfl rfl
set_option maxRecDepth 100000 in
theorem am_fl127 : Cond.fieldLink "ShareHouse" 318 (TX7 3).1 (TX7 3).2.1 (TX7 3).2.2.1 ∈ am_tb := am_tb2 (i := 117) rfl rfl
set_option maxRecDepth 100000 in
theorem am_fl128 : Cond.fieldLink "ShareHouse$Parting" 9 (TX6 0).1 (TX6 0).2.1 (TX6 0).2.2.1 ∈ am_tb := am_tb2 (i := 133) rfl rfl
set_option maxRecDepth 100000 in
theorem am_fl129 : Cond.fieldLink "ShareHouse" 119 (TX6 0).1 (TX6 0).2.1 (TX6 0).2.2.1 ∈ am_tb := am_tb2 (i := 134) rfl rfl
set_option maxRecDepth 100000 in
theorem am_fl130 : Cond.fieldLink "ShareHouse$Parting" 15 (TX6 1).1 (TX6 1).2.1 (TX6 1).2.2.1 ∈ am_tb := am_tb2 (i := 135) rfl rfl
set_option maxRecDepth 100000 in
theorem am_fl131 : Cond.fieldLink "ShareHouse" 123 (TX6 1).1 (TX6 1).2.1 (TX6 1).2.2.1 ∈ am_tb := am_tb2 (i := 136) rfl rfl
set_option maxRecDepth 100000 in
theorem am_fl132 : Cond.fieldLink "ShareHouse$Parting" 18 (TX6 2).1 (TX6 2).2.1 (TX6 2).2.2.1 ∈ am_tb := am_tb2 (i := 137) rfl rfl
set_option maxRecDepth 100000 in
theorem am_fl133 : Cond.fieldLink "ShareHouse$Parting" 21 (TX6 3).1 (TX6 3).2.1 (TX6 3).2.2.1 ∈ am_tb := am_tb2 (i := 138) rfl rfl
set_option maxRecDepth 100000 in
theorem am_fl134 : Cond.fieldLink "ShareHouse$Parting" 24 (TX6 4).1 (TX6 4).2.1 (TX6 4).2.2.1 ∈ am_tb := am_tb2 (i := 139) rfl rfl
set_option maxRecDepth 100000 in
theorem am_fl135 : Cond.fieldLink "ShareHouse$Accounts" 82 (TX6 4).1 (TX6 4).2.1 (TX6 4).2.2.1 ∈ am_tb := am_tb2 (i := 140) rfl rfl
set_option maxRecDepth 100000 in
theorem am_fl136 : Cond.fieldLink "ShareHouse" 202 (TX6 4).1 (TX6 4).2.1 (TX6 4).2.2.1 ∈ am_tb := am_tb2 (i := 141) rfl rfl
set_option maxRecDepth 100000 in
theorem am_fl137 : Cond.fieldLink "ShareHouse$Parting" 28 (TX6 5).1 (TX6 5).2.1 (TX6 5).2.2.1 ∈ am_tb := am_tb2 (i := 142) rfl rfl
set_option maxRecDepth 100000 in
theorem am_fl138 : Cond.fieldLink "ShareHouse" 132 (TX6 5).1 (TX6 5).2.1 (TX6 5).2.2.1 ∈ am_tb := am_tb2 (i := 143) rfl rfl
set_option maxRecDepth 100000 in
theorem am_fl139 : Cond.fieldLink "ShareHouse$Parting" 51 (TX6 6).1 (TX6 6).2.1 (TX6 6).2.2.1 ∈ am_tb := am_tb2 (i := 144) rfl rfl
set_option maxRecDepth 100000 in
theorem am_fl140 : Cond.fieldLink "ShareHouse" 128 (TX6 6).1 (TX6 6).2.1 (TX6 6).2.2.1 ∈ am_tb := am_tb2 (i := 145) rfl rfl
set_option maxRecDepth 100000 in
theorem am_fl141 : Cond.fieldLink "ShareHouse$Accounts" 11 (TX0 0).1 (TX0 0).2.1 (TX0 0).2.2.1 ∈ am_tb := am_tb2 (i := 170) rfl rfl
set_option maxRecDepth 100000 in
theorem am_fl142 : Cond.fieldLink "ShareHouse$Accounts" 16 (TX0 1).1 (TX0 1).2.1 (TX0 1).2.2.1 ∈ am_tb := am_tb2 (i := 171) rfl rfl
set_option maxRecDepth 100000 in
theorem am_fl143 : Cond.fieldLink "ShareHouse$Accounts" 20 (TX0 2).1 (TX0 2).2.1 (TX0 2).2.2.1 ∈ am_tb := am_tb2 (i := 172) rfl rfl
set_option maxRecDepth 100000 in
theorem am_fl144 : Cond.fieldLink "ShareHouse$Accounts" 23 (TX0 3).1 (TX0 3).2.1 (TX0 3).2.2.1 ∈ am_tb := am_tb2 (i := 173) rfl rfl
set_option maxRecDepth 100000 in
theorem am_fl145 : Cond.fieldLink "ShareHouse" 10 (TX11 0).1 (TX11 0).2.1 (TX11 0).2.2.1 ∈ am_tb := am_tb2 (i := 183) rfl rfl
set_option maxRecDepth 100000 in
theorem am_fl146 : Cond.fieldLink "ShareHouse" 16 (TX11 1).1 (TX11 1).2.1 (TX11 1).2.2.1 ∈ am_tb := am_tb2 (i := 184) rfl rfl
set_option maxRecDepth 100000 in
theorem am_fl147 : Cond.fieldLink "ShareHouse" 347 (TX11 2).1 (TX11 2).2.1 (TX11 2).2.2.1 ∈ am_tb := am_tb2 (i := 185) rfl rfl
set_option maxRecDepth 100000 in
theorem am_fl148 : Cond.fieldLink "ShareHouse" 22 (TX11 3).1 (TX11 3).2.1 (TX11 3).2.2.1 ∈ am_tb := am_tb2 (i := 186) rfl rfl
set_option maxRecDepth 100000 in
theorem am_fl149 : Cond.fieldLink "ShareHouse" 29 (TX11 4).1 (TX11 4).2.1 (TX11 4).2.2.1 ∈ am_tb := am_tb2 (i := 187) rfl rfl
set_option maxRecDepth 100000 in
theorem am_fl150 : Cond.fieldLink "ShareHouse" 36 (TX11 5).1 (TX11 5).2.1 (TX11 5).2.2.1 ∈ am_tb := am_tb2 (i := 188) rfl rfl
set_option maxRecDepth 100000 in
theorem am_fl151 : Cond.fieldLink "ShareHouse" 43 (TX11 6).1 (TX11 6).2.1 (TX11 6).2.2.1 ∈ am_tb := am_tb2 (i := 189) rfl rfl
set_option maxRecDepth 100000 in
theorem am_fl152 : Cond.fieldLink "ShareHouseModel" 7 (TX12 0).1 (TX12 0).2.1 (TX12 0).2.2.1 ∈ am_tb := am_tb5 (i := 129) rfl rfl
set_option maxRecDepth 100000 in
theorem am_fl153 : Cond.fieldLink "ShareHouseModel" 13 (TX12 1).1 (TX12 1).2.1 (TX12 1).2.2.1 ∈ am_tb := am_tb5 (i := 130) rfl rfl
set_option maxRecDepth 100000 in
theorem am_fl154 : Cond.fieldLink "ShareHouseModel" 318 (TX12 2).1 (TX12 2).2.1 (TX12 2).2.2.1 ∈ am_tb := am_tb5 (i := 131) rfl rfl
set_option maxRecDepth 100000 in
theorem am_fl155 : Cond.fieldLink "ShareHouseModel" 16 (TX12 3).1 (TX12 3).2.1 (TX12 3).2.2.1 ∈ am_tb := am_tb5 (i := 132) rfl rfl
set_option maxRecDepth 100000 in
theorem am_fl156 : Cond.fieldLink "ShareHouseModel" 55 (TX12 4).1 (TX12 4).2.1 (TX12 4).2.2.1 ∈ am_tb := am_tb5 (i := 133) rfl rfl
set_option maxRecDepth 100000 in
theorem am_fl157 : Cond.fieldLink "ShareHouseModel" 63 (TX12 5).1 (TX12 5).2.1 (TX12 5).2.2.1 ∈ am_tb := am_tb5 (i := 134) rfl rfl
set_option maxRecDepth 100000 in
theorem am_fl158 : Cond.fieldLink "ShareHouseModel" 60 (TX12 6).1 (TX12 6).2.1 (TX12 6).2.2.1 ∈ am_tb := am_tb5 (i := 135) rfl rfl
set_option maxRecDepth 100000 in
theorem am_fl159 : Cond.fieldLink "ShareHouseModel" 73 (TX12 7).1 (TX12 7).2.1 (TX12 7).2.2.1 ∈ am_tb := am_tb5 (i := 136) rfl rfl
set_option maxRecDepth 100000 in
theorem am_fl160 : Cond.fieldLink "ShareHouseModel" 126 (TX12 8).1 (TX12 8).2.1 (TX12 8).2.2.1 ∈ am_tb := am_tb5 (i := 137) rfl rfl
set_option maxRecDepth 100000 in
theorem am_fl161 : Cond.fieldLink "ShareHouseModel" 112 (TX12 9).1 (TX12 9).2.1 (TX12 9).2.2.1 ∈ am_tb := am_tb5 (i := 138) rfl rfl
set_option maxRecDepth 100000 in
theorem am_fl162 : Cond.fieldLink "ShareHouseModel" 115 (TX12 10).1 (TX12 10).2.1 (TX12 10).2.2.1 ∈ am_tb := am_tb5 (i := 139) rfl rfl
set_option maxRecDepth 100000 in
theorem am_fl163 : Cond.fieldLink "ShareHouseModel" 141 (TX12 11).1 (TX12 11).2.1 (TX12 11).2.2.1 ∈ am_tb := am_tb5 (i := 140) rfl rfl
set_option maxRecDepth 100000 in
theorem am_fl164 : Cond.fieldLink "ShareHouseModel" 153 (TX12 12).1 (TX12 12).2.1 (TX12 12).2.2.1 ∈ am_tb := am_tb5 (i := 141) rfl rfl
set_option maxRecDepth 100000 in
theorem am_fl165 : Cond.fieldLink "ShareHouseModel" 19 (TX12 13).1 (TX12 13).2.1 (TX12 13).2.2.1 ∈ am_tb := am_tb5 (i := 142) rfl rfl
set_option maxRecDepth 100000 in
theorem am_fl166 : Cond.fieldLink "ShareHouseModel" 162 (TX12 14).1 (TX12 14).2.1 (TX12 14).2.2.1 ∈ am_tb := am_tb5 (i := 143) rfl rfl
set_option maxRecDepth 100000 in
theorem am_fl167 : Cond.fieldLink "ShareHouseModel" 189 (TX12 15).1 (TX12 15).2.1 (TX12 15).2.2.1 ∈ am_tb := am_tb5 (i := 144) rfl rfl
set_option maxRecDepth 100000 in
theorem am_fl168 : Cond.fieldLink "ShareHouseModel" 192 (TX12 16).1 (TX12 16).2.1 (TX12 16).2.2.1 ∈ am_tb := am_tb5 (i := 145) rfl rfl
set_option maxRecDepth 100000 in
theorem am_fl169 : Cond.fieldLink "ShareHouseModel" 22 (TX12 17).1 (TX12 17).2.1 (TX12 17).2.2.1 ∈ am_tb := am_tb5 (i := 146) rfl rfl
set_option maxRecDepth 100000 in
theorem am_fl170 : Cond.fieldLink "ShareHouseModel" 210 (TX12 18).1 (TX12 18).2.1 (TX12 18).2.2.1 ∈ am_tb := am_tb5 (i := 147) rfl rfl
set_option maxRecDepth 100000 in
theorem am_fl171 : Cond.fieldLink "ShareHouseModel" 214 (TX12 19).1 (TX12 19).2.1 (TX12 19).2.2.1 ∈ am_tb := am_tb5 (i := 148) rfl rfl
set_option maxRecDepth 100000 in
theorem am_fl172 : Cond.fieldLink "ShareHouseModel" 26 (TX12 20).1 (TX12 20).2.1 (TX12 20).2.2.1 ∈ am_tb := am_tb5 (i := 149) rfl rfl
set_option maxRecDepth 100000 in
theorem am_fl173 : Cond.fieldLink "ShareHouseModel" 29 (TX12 21).1 (TX12 21).2.1 (TX12 21).2.2.1 ∈ am_tb := am_tb5 (i := 150) rfl rfl
set_option maxRecDepth 100000 in
theorem am_fl174 : Cond.fieldLink "ShareHouseModel" 257 (TX12 22).1 (TX12 22).2.1 (TX12 22).2.2.1 ∈ am_tb := am_tb5 (i := 151) rfl rfl
set_option maxRecDepth 100000 in
theorem am_fl175 : Cond.fieldLink "ShareHouseModel" 32 (TX12 23).1 (TX12 23).2.1 (TX12 23).2.2.1 ∈ am_tb := am_tb5 (i := 152) rfl rfl
set_option maxRecDepth 100000 in
theorem am_fl176 : Cond.fieldLink "ShareHouseModel" 35 (TX12 24).1 (TX12 24).2.1 (TX12 24).2.2.1 ∈ am_tb := am_tb5 (i := 153) rfl rfl
set_option maxRecDepth 100000 in
theorem am_fl177 : Cond.fieldLink "ShareHouseModel" 38 (TX12 25).1 (TX12 25).2.1 (TX12 25).2.2.1 ∈ am_tb := am_tb5 (i := 154) rfl rfl
set_option maxRecDepth 100000 in
theorem am_fl178 : Cond.fieldLink "ShareHouseModel" 41 (TX12 26).1 (TX12 26).2.1 (TX12 26).2.2.1 ∈ am_tb := am_tb5 (i := 155) rfl rfl
set_option maxRecDepth 100000 in
theorem am_fl179 : Cond.fieldLink "ShareHouseModel" 45 (TX12 27).1 (TX12 27).2.1 (TX12 27).2.2.1 ∈ am_tb := am_tb5 (i := 156) rfl rfl
set_option maxRecDepth 100000 in
theorem am_fl180 : Cond.fieldLink "ShareHouseModel" 311 (TX12 28).1 (TX12 28).2.1 (TX12 28).2.2.1 ∈ am_tb := am_tb5 (i := 157) rfl rfl
set_option maxRecDepth 100000 in
theorem am_fl181 : Cond.fieldLink "ShareHouseModel" 48 (TX12 29).1 (TX12 29).2.1 (TX12 29).2.2.1 ∈ am_tb := am_tb5 (i := 158) rfl rfl
set_option maxRecDepth 100000 in
theorem am_flk_ok {pos no i a b : Nat} (h : am_flk[pos]? = some (no, i, a, b)) : ∃ q : vw_C, am_cl[a]? = some q ∧ Cond.fieldLink (am_on no) i (q.2.1 b).1 (q.2.1 b).2.1 (q.2.1 b).2.2.1 ∈ am_tb := by
  match pos, h with
  | 0, h => cases h; exact ⟨_, rfl, am_fl0⟩
  | 1, h => cases h; exact ⟨_, rfl, am_fl1⟩
  | 2, h => cases h; exact ⟨_, rfl, am_fl2⟩
  | 3, h => cases h; exact ⟨_, rfl, am_fl3⟩
  | 4, h => cases h; exact ⟨_, rfl, am_fl4⟩
  | 5, h => cases h; exact ⟨_, rfl, am_fl5⟩
  | 6, h => cases h; exact ⟨_, rfl, am_fl6⟩
  | 7, h => cases h; exact ⟨_, rfl, am_fl7⟩
  | 8, h => cases h; exact ⟨_, rfl, am_fl8⟩
  | 9, h => cases h; exact ⟨_, rfl, am_fl9⟩
  | 10, h => cases h; exact ⟨_, rfl, am_fl10⟩
  | 11, h => cases h; exact ⟨_, rfl, am_fl11⟩
  | 12, h => cases h; exact ⟨_, rfl, am_fl12⟩
  | 13, h => cases h; exact ⟨_, rfl, am_fl13⟩
  | 14, h => cases h; exact ⟨_, rfl, am_fl14⟩
  | 15, h => cases h; exact ⟨_, rfl, am_fl15⟩
  | 16, h => cases h; exact ⟨_, rfl, am_fl16⟩
  | 17, h => cases h; exact ⟨_, rfl, am_fl17⟩
  | 18, h => cases h; exact ⟨_, rfl, am_fl18⟩
  | 19, h => cases h; exact ⟨_, rfl, am_fl19⟩
  | 20, h => cases h; exact ⟨_, rfl, am_fl20⟩
  | 21, h => cases h; exact ⟨_, rfl, am_fl21⟩
  | 22, h => cases h; exact ⟨_, rfl, am_fl22⟩
  | 23, h => cases h; exact ⟨_, rfl, am_fl23⟩
  | 24, h => cases h; exact ⟨_, rfl, am_fl24⟩
  | 25, h => cases h; exact ⟨_, rfl, am_fl25⟩
  | 26, h => cases h; exact ⟨_, rfl, am_fl26⟩
  | 27, h => cases h; exact ⟨_, rfl, am_fl27⟩
  | 28, h => cases h; exact ⟨_, rfl, am_fl28⟩
  | 29, h => cases h; exact ⟨_, rfl, am_fl29⟩
  | 30, h => cases h; exact ⟨_, rfl, am_fl30⟩
  | 31, h => cases h; exact ⟨_, rfl, am_fl31⟩
  | 32, h => cases h; exact ⟨_, rfl, am_fl32⟩
  | 33, h => cases h; exact ⟨_, rfl, am_fl33⟩
  | 34, h => cases h; exact ⟨_, rfl, am_fl34⟩
  | 35, h => cases h; exact ⟨_, rfl, am_fl35⟩
  | 36, h => cases h; exact ⟨_, rfl, am_fl36⟩
  | 37, h => cases h; exact ⟨_, rfl, am_fl37⟩
  | 38, h => cases h; exact ⟨_, rfl, am_fl38⟩
  | 39, h => cases h; exact ⟨_, rfl, am_fl39⟩
  | 40, h => cases h; exact ⟨_, rfl, am_fl40⟩
  | 41, h => cases h; exact ⟨_, rfl, am_fl41⟩
  | 42, h => cases h; exact ⟨_, rfl, am_fl42⟩
  | 43, h => cases h; exact ⟨_, rfl, am_fl43⟩
  | 44, h => cases h; exact ⟨_, rfl, am_fl44⟩
  | 45, h => cases h; exact ⟨_, rfl, am_fl45⟩
  | 46, h => cases h; exact ⟨_, rfl, am_fl46⟩
  | 47, h => cases h; exact ⟨_, rfl, am_fl47⟩
  | 48, h => cases h; exact ⟨_, rfl, am_fl48⟩
  | 49, h => cases h; exact ⟨_, rfl, am_fl49⟩
  | 50, h => cases h; exact ⟨_, rfl, am_fl50⟩
  | 51, h => cases h; exact ⟨_, rfl, am_fl51⟩
  | 52, h => cases h; exact ⟨_, rfl, am_fl52⟩
  | 53, h => cases h; exact ⟨_, rfl, am_fl53⟩
  | 54, h => cases h; exact ⟨_, rfl, am_fl54⟩
  | 55, h => cases h; exact ⟨_, rfl, am_fl55⟩
  | 56, h => cases h; exact ⟨_, rfl, am_fl56⟩
  | 57, h => cases h; exact ⟨_, rfl, am_fl57⟩
  | 58, h => cases h; exact ⟨_, rfl, am_fl58⟩
  | 59, h => cases h; exact ⟨_, rfl, am_fl59⟩
  | 60, h => cases h; exact ⟨_, rfl, am_fl60⟩
  | 61, h => cases h; exact ⟨_, rfl, am_fl61⟩
  | 62, h => cases h; exact ⟨_, rfl, am_fl62⟩
  | 63, h => cases h; exact ⟨_, rfl, am_fl63⟩
  | 64, h => cases h; exact ⟨_, rfl, am_fl64⟩
  | 65, h => cases h; exact ⟨_, rfl, am_fl65⟩
  | 66, h => cases h; exact ⟨_, rfl, am_fl66⟩
  | 67, h => cases h; exact ⟨_, rfl, am_fl67⟩
  | 68, h => cases h; exact ⟨_, rfl, am_fl68⟩
  | 69, h => cases h; exact ⟨_, rfl, am_fl69⟩
  | 70, h => cases h; exact ⟨_, rfl, am_fl70⟩
  | 71, h => cases h; exact ⟨_, rfl, am_fl71⟩
  | 72, h => cases h; exact ⟨_, rfl, am_fl72⟩
  | 73, h => cases h; exact ⟨_, rfl, am_fl73⟩
  | 74, h => cases h; exact ⟨_, rfl, am_fl74⟩
  | 75, h => cases h; exact ⟨_, rfl, am_fl75⟩
  | 76, h => cases h; exact ⟨_, rfl, am_fl76⟩
  | 77, h => cases h; exact ⟨_, rfl, am_fl77⟩
  | 78, h => cases h; exact ⟨_, rfl, am_fl78⟩
  | 79, h => cases h; exact ⟨_, rfl, am_fl79⟩
  | 80, h => cases h; exact ⟨_, rfl, am_fl80⟩
  | 81, h => cases h; exact ⟨_, rfl, am_fl81⟩
  | 82, h => cases h; exact ⟨_, rfl, am_fl82⟩
  | 83, h => cases h; exact ⟨_, rfl, am_fl83⟩
  | 84, h => cases h; exact ⟨_, rfl, am_fl84⟩
  | 85, h => cases h; exact ⟨_, rfl, am_fl85⟩
  | 86, h => cases h; exact ⟨_, rfl, am_fl86⟩
  | 87, h => cases h; exact ⟨_, rfl, am_fl87⟩
  | 88, h => cases h; exact ⟨_, rfl, am_fl88⟩
  | 89, h => cases h; exact ⟨_, rfl, am_fl89⟩
  | 90, h => cases h; exact ⟨_, rfl, am_fl90⟩
  | 91, h => cases h; exact ⟨_, rfl, am_fl91⟩
  | 92, h => cases h; exact ⟨_, rfl, am_fl92⟩
  | 93, h => cases h; exact ⟨_, rfl, am_fl93⟩
  | 94, h => cases h; exact ⟨_, rfl, am_fl94⟩
  | 95, h => cases h; exact ⟨_, rfl, am_fl95⟩
  | 96, h => cases h; exact ⟨_, rfl, am_fl96⟩
  | 97, h => cases h; exact ⟨_, rfl, am_fl97⟩
  | 98, h => cases h; exact ⟨_, rfl, am_fl98⟩
  | 99, h => cases h; exact ⟨_, rfl, am_fl99⟩
  | 100, h => cases h; exact ⟨_, rfl, am_fl100⟩
  | 101, h => cases h; exact ⟨_, rfl, am_fl101⟩
  | 102, h => cases h; exact ⟨_, rfl, am_fl102⟩
  | 103, h => cases h; exact ⟨_, rfl, am_fl103⟩
  | 104, h => cases h; exact ⟨_, rfl, am_fl104⟩
  | 105, h => cases h; exact ⟨_, rfl, am_fl105⟩
  | 106, h => cases h; exact ⟨_, rfl, am_fl106⟩
  | 107, h => cases h; exact ⟨_, rfl, am_fl107⟩
  | 108, h => cases h; exact ⟨_, rfl, am_fl108⟩
  | 109, h => cases h; exact ⟨_, rfl, am_fl109⟩
  | 110, h => cases h; exact ⟨_, rfl, am_fl110⟩
  | 111, h => cases h; exact ⟨_, rfl, am_fl111⟩
  | 112, h => cases h; exact ⟨_, rfl, am_fl112⟩
  | 113, h => cases h; exact ⟨_, rfl, am_fl113⟩
  | 114, h => cases h; exact ⟨_, rfl, am_fl114⟩
  | 115, h => cases h; exact ⟨_, rfl, am_fl115⟩
  | 116, h => cases h; exact ⟨_, rfl, am_fl116⟩
  | 117, h => cases h; exact ⟨_, rfl, am_fl117⟩
  | 118, h => cases h; exact ⟨_, rfl, am_fl118⟩
  | 119, h => cases h; exact ⟨_, rfl, am_fl119⟩
  | 120, h => cases h; exact ⟨_, rfl, am_fl120⟩
  | 121, h => cases h; exact ⟨_, rfl, am_fl121⟩
  | 122, h => cases h; exact ⟨_, rfl, am_fl122⟩
  | 123, h => cases h; exact ⟨_, rfl, am_fl123⟩
  | 124, h => cases h; exact ⟨_, rfl, am_fl124⟩
  | 125, h => cases h; exact ⟨_, rfl, am_fl125⟩
  | 126, h => cases h; exact ⟨_, rfl, am_fl126⟩
  | 127, h => cases h; exact ⟨_, rfl, am_fl127⟩
  | 128, h => cases h; exact ⟨_, rfl, am_fl128⟩
  | 129, h => cases h; exact ⟨_, rfl, am_fl129⟩
  | 130, h => cases h; exact ⟨_, rfl, am_fl130⟩
  | 131, h => cases h; exact ⟨_, rfl, am_fl131⟩
  | 132, h => cases h; exact ⟨_, rfl, am_fl132⟩
  | 133, h => cases h; exact ⟨_, rfl, am_fl133⟩
  | 134, h => cases h; exact ⟨_, rfl, am_fl134⟩
  | 135, h => cases h; exact ⟨_, rfl, am_fl135⟩
  | 136, h => cases h; exact ⟨_, rfl, am_fl136⟩
  | 137, h => cases h; exact ⟨_, rfl, am_fl137⟩
  | 138, h => cases h; exact ⟨_, rfl, am_fl138⟩
  | 139, h => cases h; exact ⟨_, rfl, am_fl139⟩
  | 140, h => cases h; exact ⟨_, rfl, am_fl140⟩
  | 141, h => cases h; exact ⟨_, rfl, am_fl141⟩
  | 142, h => cases h; exact ⟨_, rfl, am_fl142⟩
  | 143, h => cases h; exact ⟨_, rfl, am_fl143⟩
  | 144, h => cases h; exact ⟨_, rfl, am_fl144⟩
  | 145, h => cases h; exact ⟨_, rfl, am_fl145⟩
  | 146, h => cases h; exact ⟨_, rfl, am_fl146⟩
  | 147, h => cases h; exact ⟨_, rfl, am_fl147⟩
  | 148, h => cases h; exact ⟨_, rfl, am_fl148⟩
  | 149, h => cases h; exact ⟨_, rfl, am_fl149⟩
  | 150, h => cases h; exact ⟨_, rfl, am_fl150⟩
  | 151, h => cases h; exact ⟨_, rfl, am_fl151⟩
  | 152, h => cases h; exact ⟨_, rfl, am_fl152⟩
  | 153, h => cases h; exact ⟨_, rfl, am_fl153⟩
  | 154, h => cases h; exact ⟨_, rfl, am_fl154⟩
  | 155, h => cases h; exact ⟨_, rfl, am_fl155⟩
  | 156, h => cases h; exact ⟨_, rfl, am_fl156⟩
  | 157, h => cases h; exact ⟨_, rfl, am_fl157⟩
  | 158, h => cases h; exact ⟨_, rfl, am_fl158⟩
  | 159, h => cases h; exact ⟨_, rfl, am_fl159⟩
  | 160, h => cases h; exact ⟨_, rfl, am_fl160⟩
  | 161, h => cases h; exact ⟨_, rfl, am_fl161⟩
  | 162, h => cases h; exact ⟨_, rfl, am_fl162⟩
  | 163, h => cases h; exact ⟨_, rfl, am_fl163⟩
  | 164, h => cases h; exact ⟨_, rfl, am_fl164⟩
  | 165, h => cases h; exact ⟨_, rfl, am_fl165⟩
  | 166, h => cases h; exact ⟨_, rfl, am_fl166⟩
  | 167, h => cases h; exact ⟨_, rfl, am_fl167⟩
  | 168, h => cases h; exact ⟨_, rfl, am_fl168⟩
  | 169, h => cases h; exact ⟨_, rfl, am_fl169⟩
  | 170, h => cases h; exact ⟨_, rfl, am_fl170⟩
  | 171, h => cases h; exact ⟨_, rfl, am_fl171⟩
  | 172, h => cases h; exact ⟨_, rfl, am_fl172⟩
  | 173, h => cases h; exact ⟨_, rfl, am_fl173⟩
  | 174, h => cases h; exact ⟨_, rfl, am_fl174⟩
  | 175, h => cases h; exact ⟨_, rfl, am_fl175⟩
  | 176, h => cases h; exact ⟨_, rfl, am_fl176⟩
  | 177, h => cases h; exact ⟨_, rfl, am_fl177⟩
  | 178, h => cases h; exact ⟨_, rfl, am_fl178⟩
  | 179, h => cases h; exact ⟨_, rfl, am_fl179⟩
  | 180, h => cases h; exact ⟨_, rfl, am_fl180⟩
  | 181, h => cases h; exact ⟨_, rfl, am_fl181⟩
  | k + 182, h => rw [List.getElem?_eq_none (show am_flk.length ≤ _ from Nat.le_add_left 182 k)] at h; cases h
def am_cnk : List (Nat × Nat × Value) := [(11, 126, .long (-1000000000)), (11, 156, .int (99999)), (6, 127, .long (-1)), (11, 205, .int (-1000000000)), (0, 104, .long (100000)), (13, 265, .int (1431655765)), (13, 266, .int (858993459)), (13, 267, .int (252645135)), (12, 58, .long (255)), (12, 105, .long (6384748)), (12, 89, .long (1919905638)), (12, 91, .long (1818846836)), (12, 93, .long (465491030131)), (12, 95, .long (512736126322)), (12, 97, .long (1718186597)), (12, 99, .long (418346528372)), (12, 110, .long (6385252)), (12, 168, .long (1885436275)), (12, 118, .long (31084793196801639)), (12, 120, .long (435695214956)), (12, 122, .long (1634887009)), (12, 124, .long (439905906546)), (12, 133, .long (28518)), (12, 157, .long (26982)), (12, 139, .long (7237492)), (12, 144, .long (1936224112)), (12, 149, .long (418263299685)), (12, 151, .long (422608400247)), (12, 177, .long (59)), (12, 217, .long (-1000000000)), (12, 222, .int (99999)), (12, 255, .long (-1)), (12, 263, .int (-1000000000)), (12, 273, .long (100000)), (15, 23, .long (4294967295))]
set_option maxRecDepth 100000 in
theorem am_cnk_i {pos no i : Nat} {x : Int32} (h : am_cnk[pos]? = some (no, i, .int x)) : Cond.constant (am_on no) i x ∈ am_tb := by
  match pos, h with
  | 0, h => cases h
  | 1, h => cases h; exact am_tb3 (i := 221) rfl rfl
  | 2, h => cases h
  | 3, h => cases h; exact am_tb4 (i := 53) rfl rfl
  | 4, h => cases h
  | 5, h => cases h; exact am_tb5 (i := 20) rfl rfl
  | 6, h => cases h; exact am_tb5 (i := 21) rfl rfl
  | 7, h => cases h; exact am_tb5 (i := 22) rfl rfl
  | 8, h => cases h
  | 9, h => cases h
  | 10, h => cases h
  | 11, h => cases h
  | 12, h => cases h
  | 13, h => cases h
  | 14, h => cases h
  | 15, h => cases h
  | 16, h => cases h
  | 17, h => cases h
  | 18, h => cases h
  | 19, h => cases h
  | 20, h => cases h
  | 21, h => cases h
  | 22, h => cases h
  | 23, h => cases h
  | 24, h => cases h
  | 25, h => cases h
  | 26, h => cases h
  | 27, h => cases h
  | 28, h => cases h
  | 29, h => cases h
  | 30, h => cases h; exact am_tb6 (i := 134) rfl rfl
  | 31, h => cases h
  | 32, h => cases h; exact am_tb6 (i := 196) rfl rfl
  | 33, h => cases h
  | 34, h => cases h
  | k + 35, h => simp [am_cnk] at h
set_option maxRecDepth 100000 in
theorem am_cnk_l {pos no i : Nat} {x : Int64} (h : am_cnk[pos]? = some (no, i, .long x)) : Cond.constantLong (am_on no) i x ∈ am_tb := by
  match pos, h with
  | 0, h => cases h; exact am_tb3 (i := 200) rfl rfl
  | 1, h => cases h
  | 2, h => cases h; exact am_tb4 (i := 43) rfl rfl
  | 3, h => cases h
  | 4, h => cases h; exact am_tb4 (i := 127) rfl rfl
  | 5, h => cases h
  | 6, h => cases h
  | 7, h => cases h
  | 8, h => cases h; exact am_tb5 (i := 235) rfl rfl
  | 9, h => cases h; exact am_tb6 (i := 28) rfl rfl
  | 10, h => cases h; exact am_tb6 (i := 45) rfl rfl
  | 11, h => cases h; exact am_tb6 (i := 46) rfl rfl
  | 12, h => cases h; exact am_tb6 (i := 47) rfl rfl
  | 13, h => cases h; exact am_tb6 (i := 48) rfl rfl
  | 14, h => cases h; exact am_tb6 (i := 49) rfl rfl
  | 15, h => cases h; exact am_tb6 (i := 50) rfl rfl
  | 16, h => cases h; exact am_tb6 (i := 51) rfl rfl
  | 17, h => cases h; exact am_tb6 (i := 52) rfl rfl
  | 18, h => cases h; exact am_tb6 (i := 61) rfl rfl
  | 19, h => cases h; exact am_tb6 (i := 62) rfl rfl
  | 20, h => cases h; exact am_tb6 (i := 63) rfl rfl
  | 21, h => cases h; exact am_tb6 (i := 64) rfl rfl
  | 22, h => cases h; exact am_tb6 (i := 69) rfl rfl
  | 23, h => cases h; exact am_tb6 (i := 74) rfl rfl
  | 24, h => cases h; exact am_tb6 (i := 79) rfl rfl
  | 25, h => cases h; exact am_tb6 (i := 80) rfl rfl
  | 26, h => cases h; exact am_tb6 (i := 85) rfl rfl
  | 27, h => cases h; exact am_tb6 (i := 86) rfl rfl
  | 28, h => cases h; exact am_tb6 (i := 87) rfl rfl
  | 29, h => cases h; exact am_tb6 (i := 118) rfl rfl
  | 30, h => cases h
  | 31, h => cases h; exact am_tb6 (i := 191) rfl rfl
  | 32, h => cases h
  | 33, h => cases h; exact am_tb6 (i := 232) rfl rfl
  | 34, h => cases h; exact am_tb7 (i := 120) rfl rfl
  | k + 35, h => simp [am_cnk] at h
def am_av (σ : am_S) (k b : Nat) (t : FieldType) : Option Value := match t with
  | .int => some (.int (σ.2.1.1 k b))
  | .boolean => some (.int (σ.2.1.1 k b))
  | .long => some (.long (σ.2.1.2 k b))
  | _ => (σ.2.2 k b).map Value.ref
/-! simple instructions: (pc, instruction, a, b, place of a word, a value) -/
abbrev am_Q : Type := Nat × Instr × Nat × Nat × Nat × Value
def am_ln : Instr → Nat
  | .bipush _ => 2
  | .sipush _ => 3
  | .ldc _ => 2
  | .ldc_w _ => 3
  | .ldc2_w _ => 3
  | .iload _ => 2
  | .lload _ => 2
  | .aload _ => 2
  | .istore _ => 2
  | .lstore _ => 2
  | .astore _ => 2
  | .iinc _ _ => 3
  | .getfield _ => 3
  | .putfield _ => 3
  | .goto _ => 3
  | _ => 1
def am_op (nL pc : Nat) (i : Instr) (a b : Nat) (v : Value) (lv : List (Nat × Value)) (st : List Value) (σ : am_S) : Option am_Y := match i with
  | .iconst _ => some (pc + am_ln i, lv, v :: st, σ)
  | .bipush _ => some (pc + am_ln i, lv, v :: st, σ)
  | .sipush _ => some (pc + am_ln i, lv, v :: st, σ)
  | .ldc_w _ => some (pc + am_ln i, lv, v :: st, σ)
  | .lconst _ => some (pc + am_ln i, lv, v :: st, σ)
  | .ldc2_w _ => some (pc + am_ln i, lv, v :: st, σ)
  | .ldc _ => some (pc + 2, lv, v :: st, σ)
  | .iload_n k => match am_lg lv k with | some (.int x) => some (pc + 1, lv, .int x :: st, σ) | _ => none
  | .iload k => match am_lg lv k with | some (.int x) => some (pc + 2, lv, .int x :: st, σ) | _ => none
  | .lload_n k => match am_lg lv k with | some (.long x) => some (pc + 1, lv, .long x :: st, σ) | _ => none
  | .lload k => match am_lg lv k with | some (.long x) => some (pc + 2, lv, .long x :: st, σ) | _ => none
  | .aload_n k => match am_lg lv k with | some (.ref x) => some (pc + 1, lv, .ref x :: st, σ) | _ => none
  | .aload k => match am_lg lv k with | some (.ref x) => some (pc + 2, lv, .ref x :: st, σ) | _ => none
  | .istore_n k => match st with | .int x :: r => (bif Nat.blt k nL then some (pc + 1, am_l1 lv k (.int x), r, σ) else none) | _ => none
  | .istore k => match st with | .int x :: r => (bif Nat.blt k nL then some (pc + 2, am_l1 lv k (.int x), r, σ) else none) | _ => none
  | .astore_n k => match st with | .ref x :: r => (bif Nat.blt k nL then some (pc + 1, am_l1 lv k (.ref x), r, σ) else none) | _ => none
  | .astore k => match st with | .ref x :: r => (bif Nat.blt k nL then some (pc + 2, am_l1 lv k (.ref x), r, σ) else none) | _ => none
  | .lstore_n k => match st with | .long x :: r => (bif Nat.blt (k + 1) nL then some (pc + 1, am_l2 lv k (.long x), r, σ) else none) | _ => none
  | .lstore k => match st with | .long x :: r => (bif Nat.blt (k + 1) nL then some (pc + 2, am_l2 lv k (.long x), r, σ) else none) | _ => none
  | .iinc k _ => match am_lg lv k, v with | some (.int x), .int d => (bif Nat.blt k nL then some (pc + 3, am_l1 lv k (.int (x + d)), st, σ) else none) | _, _ => none
  | .iadd => match st with | .int y :: .int x :: r => some (pc + 1, lv, .int (x + y) :: r, σ) | _ => none
  | .isub => match st with | .int y :: .int x :: r => some (pc + 1, lv, .int (x - y) :: r, σ) | _ => none
  | .imul => match st with | .int y :: .int x :: r => some (pc + 1, lv, .int (x * y) :: r, σ) | _ => none
  | .iand => match st with | .int y :: .int x :: r => some (pc + 1, lv, .int (x &&& y) :: r, σ) | _ => none
  | .ior => match st with | .int y :: .int x :: r => some (pc + 1, lv, .int (x ||| y) :: r, σ) | _ => none
  | .ixor => match st with | .int y :: .int x :: r => some (pc + 1, lv, .int (x ^^^ y) :: r, σ) | _ => none
  | .ishl => match st with | .int y :: .int x :: r => some (pc + 1, lv, .int (x <<< (y &&& 31)) :: r, σ) | _ => none
  | .ishr => match st with | .int y :: .int x :: r => some (pc + 1, lv, .int (x >>> (y &&& 31)) :: r, σ) | _ => none
  | .iushr => match st with | .int y :: .int x :: r => some (pc + 1, lv, .int ((x.toUInt32 >>> (y.toUInt32 &&& Int32.toUInt32 31)).toInt32) :: r, σ) | _ => none
  | .ladd => match st with | .long y :: .long x :: r => some (pc + 1, lv, .long (x + y) :: r, σ) | _ => none
  | .lsub => match st with | .long y :: .long x :: r => some (pc + 1, lv, .long (x - y) :: r, σ) | _ => none
  | .lmul => match st with | .long y :: .long x :: r => some (pc + 1, lv, .long (x * y) :: r, σ) | _ => none
  | .land => match st with | .long y :: .long x :: r => some (pc + 1, lv, .long (x &&& y) :: r, σ) | _ => none
  | .lor => match st with | .long y :: .long x :: r => some (pc + 1, lv, .long (x ||| y) :: r, σ) | _ => none
  | .lxor => match st with | .long y :: .long x :: r => some (pc + 1, lv, .long (x ^^^ y) :: r, σ) | _ => none
  | .lshl => match st with | .int y :: .long x :: r => some (pc + 1, lv, .long (x <<< (y.toInt64 &&& 63)) :: r, σ) | _ => none
  | .lshr => match st with | .int y :: .long x :: r => some (pc + 1, lv, .long (x >>> (y.toInt64 &&& 63)) :: r, σ) | _ => none
  | .lushr => match st with | .int y :: .long x :: r => some (pc + 1, lv, .long ((x.toUInt64 >>> (y.toInt64.toUInt64 &&& Int64.toUInt64 63)).toInt64) :: r, σ) | _ => none
  | .lcmp => match st with | .long y :: .long x :: r => some (pc + 1, lv, .int (lg_cmp x y) :: r, σ) | _ => none
  | .ineg => match st with | .int x :: r => some (pc + 1, lv, .int (-x) :: r, σ) | _ => none
  | .i2l => match st with | .int x :: r => some (pc + 1, lv, .long x.toInt64 :: r, σ) | _ => none
  | .l2i => match st with | .long x :: r => some (pc + 1, lv, .int x.toInt32 :: r, σ) | _ => none
  | .dup => match st with | .int x :: r => some (pc + 1, lv, .int x :: .int x :: r, σ) | .ref x :: r => some (pc + 1, lv, .ref x :: .ref x :: r, σ) | _ => none
  | .dup2 => match st with | .int x :: .ref y :: r => some (pc + 1, lv, .int x :: .ref y :: .int x :: .ref y :: r, σ) | .long x :: r => some (pc + 1, lv, .long x :: .long x :: r, σ) | _ => none
  | .goto _ => some (a, lv, st, σ)
  | .getfield _ => match st with | .ref k :: r => (bif Nat.blt k σ.1 && Nat.blt k 1000 && Nat.beq (am_sh k).1 0 && Nat.beq (am_sh k).2 a && Nat.blt b (am_nf a) then (match am_av σ k b (am_ty a b) with | some w => some (pc + 3, lv, w :: r, σ) | none => none) else none) | _ => none
  | .putfield _ => match st with | .int x :: .ref k :: r => (bif Nat.blt k σ.1 && Nat.blt k 1000 && Nat.beq (am_sh k).1 0 && Nat.beq (am_sh k).2 a && Nat.blt b (am_nf a) then (match am_ty a b with | .int => some (pc + 3, lv, r, (σ.1, am_si σ.2.1 k b x, σ.2.2)) | _ => none) else none) | .long x :: .ref k :: r => (bif Nat.blt k σ.1 && Nat.blt k 1000 && Nat.beq (am_sh k).1 0 && Nat.beq (am_sh k).2 a && Nat.blt b (am_nf a) then (match am_ty a b with | .long => some (pc + 3, lv, r, (σ.1, am_sl σ.2.1 k b x, σ.2.2)) | _ => none) else none) | _ => none
  | .arraylength => match st with | .ref k :: r => (bif Nat.blt k σ.1 && Nat.blt k 1000 && Nat.blt 0 (am_sh k).1 && Nat.blt (am_sh k).1 6 then some (pc + 1, lv, .int (Int32.ofNat (am_sh k).2) :: r, σ) else none) | _ => none
  | _ => none
def am_lk (no : Nat) (q : am_Q) : Bool := match q with
  | (_, .iconst n, _, _, _, .int x) => decide (Int32.ofInt n = x)
  | (_, .bipush n, _, _, _, .int x) => decide ((Int8.ofInt n).toInt32 = x)
  | (_, .sipush n, _, _, _, .int x) => decide ((Int16.ofInt n).toInt32 = x)
  | (_, .lconst n, _, _, _, .long x) => decide (Int64.ofNat (n : Nat) = x)
  | (_, .ldc i, _, _, pos, .int x) => decide (am_cnk[pos]? = some (no, i, .int x))
  | (_, .ldc_w i, _, _, pos, .int x) => decide (am_cnk[pos]? = some (no, i, .int x))
  | (_, .ldc2_w i, _, _, pos, .long x) => decide (am_cnk[pos]? = some (no, i, .long x))
  | (_, .ldc i, a, _, _, .ref x) => decide (no = 9 ∧ x = 1000 + a ∧ am_sx[a]? = some i)
  | (_, .iinc _ n, _, _, _, .int x) => decide (Int32.ofInt n = x)
  | (pc, .goto o, a, _, _, _) => decide ((pc : Int) + o = (a : Int))
  | (_, .getfield i, a, b, pos, _) => decide (am_flk[pos]? = some (no, i, a, b))
  | (_, .putfield i, a, b, pos, _) => decide (am_flk[pos]? = some (no, i, a, b)) && (match am_cl[a]? with | some (_, T, _) => decide ((T b).2.2.2 = false) | none => false)
  | (_, .iconst _, _) | (_, .bipush _, _) | (_, .sipush _, _) | (_, .lconst _, _) | (_, .ldc _, _) | (_, .ldc_w _, _) | (_, .ldc2_w _, _) | (_, .iinc _ _, _) => false
  | _ => true
def am_ok (no : Nat) (cc : ByteArray) (q : am_Q) : Bool := decide (decode cc q.1 = .ok (q.2.1, am_ln q.2.1)) && am_lk no q
def am_exs (nL : Nat) : List am_Q → am_Y → Option am_Y
  | [], x => some x
  | q :: r, x => bif Nat.beq q.1 x.1 then (match am_op nL q.1 q.2.1 q.2.2.1 q.2.2.2.1 q.2.2.2.2.2 x.2.1 x.2.2.1 x.2.2.2 with | some y => am_exs nL r y | none => none) else none
section
variable {X : am_X} {own : String} {cc : ByteArray} {nL pc : Nat} {lv : List (Nat × Value)} {st : List Value} {σ : am_S}
theorem am_iadd {x y : Int32} (hd : decode cc pc = .ok (.iadd, 1)) (hF : am_F X own cc nL) (k : am_W X nL (pc + 1, lv, .int (x + y) :: st, σ)) : am_W X nL (pc, lv, .int y :: .int x :: st, σ) := by
  obtain ⟨p, l, e, R, s, m, args, below, meth, c, Q, g, n0⟩ := X
  intro H locs ls hn hI hS hl
  exact lv_iadd hF.1 hF.2.1 hd (k H locs ls hn hI hS hl)
theorem am_isub {x y : Int32} (hd : decode cc pc = .ok (.isub, 1)) (hF : am_F X own cc nL) (k : am_W X nL (pc + 1, lv, .int (x - y) :: st, σ)) : am_W X nL (pc, lv, .int y :: .int x :: st, σ) := by
  obtain ⟨p, l, e, R, s, m, args, below, meth, c, Q, g, n0⟩ := X
  intro H locs ls hn hI hS hl
  exact lv_isub hF.1 hF.2.1 hd (k H locs ls hn hI hS hl)
theorem am_imul {x y : Int32} (hd : decode cc pc = .ok (.imul, 1)) (hF : am_F X own cc nL) (k : am_W X nL (pc + 1, lv, .int (x * y) :: st, σ)) : am_W X nL (pc, lv, .int y :: .int x :: st, σ) := by
  obtain ⟨p, l, e, R, s, m, args, below, meth, c, Q, g, n0⟩ := X
  intro H locs ls hn hI hS hl
  exact lv_imul hF.1 hF.2.1 hd (k H locs ls hn hI hS hl)
theorem am_iand {x y : Int32} (hd : decode cc pc = .ok (.iand, 1)) (hF : am_F X own cc nL) (k : am_W X nL (pc + 1, lv, .int (x &&& y) :: st, σ)) : am_W X nL (pc, lv, .int y :: .int x :: st, σ) := by
  obtain ⟨p, l, e, R, s, m, args, below, meth, c, Q, g, n0⟩ := X
  intro H locs ls hn hI hS hl
  exact lv_iand hF.1 hF.2.1 hd (k H locs ls hn hI hS hl)
theorem am_ior {x y : Int32} (hd : decode cc pc = .ok (.ior, 1)) (hF : am_F X own cc nL) (k : am_W X nL (pc + 1, lv, .int (x ||| y) :: st, σ)) : am_W X nL (pc, lv, .int y :: .int x :: st, σ) := by
  obtain ⟨p, l, e, R, s, m, args, below, meth, c, Q, g, n0⟩ := X
  intro H locs ls hn hI hS hl
  exact lv_ior hF.1 hF.2.1 hd (k H locs ls hn hI hS hl)
theorem am_ixor {x y : Int32} (hd : decode cc pc = .ok (.ixor, 1)) (hF : am_F X own cc nL) (k : am_W X nL (pc + 1, lv, .int (x ^^^ y) :: st, σ)) : am_W X nL (pc, lv, .int y :: .int x :: st, σ) := by
  obtain ⟨p, l, e, R, s, m, args, below, meth, c, Q, g, n0⟩ := X
  intro H locs ls hn hI hS hl
  exact lv_ixor hF.1 hF.2.1 hd (k H locs ls hn hI hS hl)
theorem am_ishl {x y : Int32} (hd : decode cc pc = .ok (.ishl, 1)) (hF : am_F X own cc nL) (k : am_W X nL (pc + 1, lv, .int (x <<< (y &&& 31)) :: st, σ)) : am_W X nL (pc, lv, .int y :: .int x :: st, σ) := by
  obtain ⟨p, l, e, R, s, m, args, below, meth, c, Q, g, n0⟩ := X
  intro H locs ls hn hI hS hl
  exact lv_ishl hF.1 hF.2.1 hd (k H locs ls hn hI hS hl)
theorem am_ishr {x y : Int32} (hd : decode cc pc = .ok (.ishr, 1)) (hF : am_F X own cc nL) (k : am_W X nL (pc + 1, lv, .int (x >>> (y &&& 31)) :: st, σ)) : am_W X nL (pc, lv, .int y :: .int x :: st, σ) := by
  obtain ⟨p, l, e, R, s, m, args, below, meth, c, Q, g, n0⟩ := X
  intro H locs ls hn hI hS hl
  exact lv_ishr hF.1 hF.2.1 hd (k H locs ls hn hI hS hl)
theorem am_iushr {x y : Int32} (hd : decode cc pc = .ok (.iushr, 1)) (hF : am_F X own cc nL) (k : am_W X nL (pc + 1, lv, .int ((x.toUInt32 >>> (y.toUInt32 &&& Int32.toUInt32 31)).toInt32) :: st, σ)) : am_W X nL (pc, lv, .int y :: .int x :: st, σ) := by
  obtain ⟨p, l, e, R, s, m, args, below, meth, c, Q, g, n0⟩ := X
  intro H locs ls hn hI hS hl
  exact lv_iushr hF.1 hF.2.1 hd rfl (k H locs ls hn hI hS hl)
theorem am_ladd {x y : Int64} (hd : decode cc pc = .ok (.ladd, 1)) (hF : am_F X own cc nL) (k : am_W X nL (pc + 1, lv, .long (x + y) :: st, σ)) : am_W X nL (pc, lv, .long y :: .long x :: st, σ) := by
  obtain ⟨p, l, e, R, s, m, args, below, meth, c, Q, g, n0⟩ := X
  intro H locs ls hn hI hS hl
  exact lv_ladd hF.1 hF.2.1 hd (k H locs ls hn hI hS hl)
theorem am_lsub {x y : Int64} (hd : decode cc pc = .ok (.lsub, 1)) (hF : am_F X own cc nL) (k : am_W X nL (pc + 1, lv, .long (x - y) :: st, σ)) : am_W X nL (pc, lv, .long y :: .long x :: st, σ) := by
  obtain ⟨p, l, e, R, s, m, args, below, meth, c, Q, g, n0⟩ := X
  intro H locs ls hn hI hS hl
  exact lv_lsub hF.1 hF.2.1 hd (k H locs ls hn hI hS hl)
theorem am_lmul {x y : Int64} (hd : decode cc pc = .ok (.lmul, 1)) (hF : am_F X own cc nL) (k : am_W X nL (pc + 1, lv, .long (x * y) :: st, σ)) : am_W X nL (pc, lv, .long y :: .long x :: st, σ) := by
  obtain ⟨p, l, e, R, s, m, args, below, meth, c, Q, g, n0⟩ := X
  intro H locs ls hn hI hS hl
  exact lv_lmul hF.1 hF.2.1 hd (k H locs ls hn hI hS hl)
theorem am_land {x y : Int64} (hd : decode cc pc = .ok (.land, 1)) (hF : am_F X own cc nL) (k : am_W X nL (pc + 1, lv, .long (x &&& y) :: st, σ)) : am_W X nL (pc, lv, .long y :: .long x :: st, σ) := by
  obtain ⟨p, l, e, R, s, m, args, below, meth, c, Q, g, n0⟩ := X
  intro H locs ls hn hI hS hl
  exact lv_land hF.1 hF.2.1 hd (k H locs ls hn hI hS hl)
theorem am_lor {x y : Int64} (hd : decode cc pc = .ok (.lor, 1)) (hF : am_F X own cc nL) (k : am_W X nL (pc + 1, lv, .long (x ||| y) :: st, σ)) : am_W X nL (pc, lv, .long y :: .long x :: st, σ) := by
  obtain ⟨p, l, e, R, s, m, args, below, meth, c, Q, g, n0⟩ := X
  intro H locs ls hn hI hS hl
  exact lv_lor hF.1 hF.2.1 hd (k H locs ls hn hI hS hl)
theorem am_lxor {x y : Int64} (hd : decode cc pc = .ok (.lxor, 1)) (hF : am_F X own cc nL) (k : am_W X nL (pc + 1, lv, .long (x ^^^ y) :: st, σ)) : am_W X nL (pc, lv, .long y :: .long x :: st, σ) := by
  obtain ⟨p, l, e, R, s, m, args, below, meth, c, Q, g, n0⟩ := X
  intro H locs ls hn hI hS hl
  exact lv_lxor hF.1 hF.2.1 hd (k H locs ls hn hI hS hl)
theorem am_lshl {x : Int64} {y : Int32} (hd : decode cc pc = .ok (.lshl, 1)) (hF : am_F X own cc nL) (k : am_W X nL (pc + 1, lv, .long (x <<< (y.toInt64 &&& 63)) :: st, σ)) : am_W X nL (pc, lv, .int y :: .long x :: st, σ) := by
  obtain ⟨p, l, e, R, s, m, args, below, meth, c, Q, g, n0⟩ := X
  intro H locs ls hn hI hS hl
  exact lv_lshl hF.1 hF.2.1 hd rfl (k H locs ls hn hI hS hl)
theorem am_lshr {x : Int64} {y : Int32} (hd : decode cc pc = .ok (.lshr, 1)) (hF : am_F X own cc nL) (k : am_W X nL (pc + 1, lv, .long (x >>> (y.toInt64 &&& 63)) :: st, σ)) : am_W X nL (pc, lv, .int y :: .long x :: st, σ) := by
  obtain ⟨p, l, e, R, s, m, args, below, meth, c, Q, g, n0⟩ := X
  intro H locs ls hn hI hS hl
  exact lv_lshr hF.1 hF.2.1 hd rfl (k H locs ls hn hI hS hl)
theorem am_lushr {x : Int64} {y : Int32} (hd : decode cc pc = .ok (.lushr, 1)) (hF : am_F X own cc nL) (k : am_W X nL (pc + 1, lv, .long ((x.toUInt64 >>> (y.toInt64.toUInt64 &&& Int64.toUInt64 63)).toInt64) :: st, σ)) : am_W X nL (pc, lv, .int y :: .long x :: st, σ) := by
  obtain ⟨p, l, e, R, s, m, args, below, meth, c, Q, g, n0⟩ := X
  intro H locs ls hn hI hS hl
  exact lv_lushr hF.1 hF.2.1 hd rfl (k H locs ls hn hI hS hl)
theorem am_lcmp {x y : Int64} (hd : decode cc pc = .ok (.lcmp, 1)) (hF : am_F X own cc nL) (k : am_W X nL (pc + 1, lv, .int (lg_cmp x y) :: st, σ)) : am_W X nL (pc, lv, .long y :: .long x :: st, σ) := by
  obtain ⟨p, l, e, R, s, m, args, below, meth, c, Q, g, n0⟩ := X
  intro H locs ls hn hI hS hl
  exact W.lcmp hF.1 hF.2.1 hd (k H locs ls hn hI hS hl)
theorem am_ineg {x : Int32} (hd : decode cc pc = .ok (.ineg, 1)) (hF : am_F X own cc nL) (k : am_W X nL (pc + 1, lv, .int (-x) :: st, σ)) : am_W X nL (pc, lv, .int x :: st, σ) := by
  obtain ⟨p, l, e, R, s, m, args, below, meth, c, Q, g, n0⟩ := X
  intro H locs ls hn hI hS hl
  exact lv_ineg hF.1 hF.2.1 hd (k H locs ls hn hI hS hl)
theorem am_i2l {x : Int32} (hd : decode cc pc = .ok (.i2l, 1)) (hF : am_F X own cc nL) (k : am_W X nL (pc + 1, lv, .long x.toInt64 :: st, σ)) : am_W X nL (pc, lv, .int x :: st, σ) := by
  obtain ⟨p, l, e, R, s, m, args, below, meth, c, Q, g, n0⟩ := X
  intro H locs ls hn hI hS hl
  exact lv_i2l hF.1 hF.2.1 hd rfl (k H locs ls hn hI hS hl)
theorem am_l2i {x : Int64} (hd : decode cc pc = .ok (.l2i, 1)) (hF : am_F X own cc nL) (k : am_W X nL (pc + 1, lv, .int x.toInt32 :: st, σ)) : am_W X nL (pc, lv, .long x :: st, σ) := by
  obtain ⟨p, l, e, R, s, m, args, below, meth, c, Q, g, n0⟩ := X
  intro H locs ls hn hI hS hl
  exact lv_l2i hF.1 hF.2.1 hd rfl (k H locs ls hn hI hS hl)
theorem am_dup {v : Value} (hd : decode cc pc = .ok (.dup, 1)) (hv : v.category = 1) (hF : am_F X own cc nL) (k : am_W X nL (pc + 1, lv, v :: v :: st, σ)) : am_W X nL (pc, lv, v :: st, σ) := by
  obtain ⟨p, l, e, R, s, m, args, below, meth, c, Q, g, n0⟩ := X
  intro H locs ls hn hI hS hl
  exact lv_dup hF.1 hF.2.1 hd (by rw [am_rv_cat]; exact hv) (k H locs ls hn hI hS hl)
theorem am_dup2a {v w : Value} (hd : decode cc pc = .ok (.dup2, 1)) (hv : v.category = 1) (hw : w.category = 1) (hF : am_F X own cc nL) (k : am_W X nL (pc + 1, lv, v :: w :: v :: w :: st, σ)) : am_W X nL (pc, lv, v :: w :: st, σ) := by
  obtain ⟨p, l, e, R, s, m, args, below, meth, c, Q, g, n0⟩ := X
  intro H locs ls hn hI hS hl
  exact lv_dup2_11 hF.1 hF.2.1 hd (by rw [am_rv_cat]; exact hv) (by rw [am_rv_cat]; exact hw) (k H locs ls hn hI hS hl)
theorem am_dup2b {v : Value} (hd : decode cc pc = .ok (.dup2, 1)) (hv : v.category = 2) (hF : am_F X own cc nL) (k : am_W X nL (pc + 1, lv, v :: v :: st, σ)) : am_W X nL (pc, lv, v :: st, σ) := by
  obtain ⟨p, l, e, R, s, m, args, below, meth, c, Q, g, n0⟩ := X
  intro H locs ls hn hI hS hl
  exact lv_dup2_2 hF.1 hF.2.1 hd (by rw [am_rv_cat]; exact hv) (k H locs ls hn hI hS hl)
theorem am_iconst {n : Int} {x : Int32} (hd : decode cc pc = .ok (.iconst n, 1)) (hv : Int32.ofInt n = x) (hF : am_F X own cc nL) (k : am_W X nL (pc + 1, lv, .int x :: st, σ)) : am_W X nL (pc, lv, st, σ) := by
  obtain ⟨p, l, e, R, s, m, args, below, meth, c, Q, g, n0⟩ := X
  intro H locs ls hn hI hS hl
  exact lv_iconst hF.1 hF.2.1 hd hv (k H locs ls hn hI hS hl)
theorem am_bipush {n : Int} {x : Int32} (hd : decode cc pc = .ok (.bipush n, 2)) (hv : (Int8.ofInt n).toInt32 = x) (hF : am_F X own cc nL) (k : am_W X nL (pc + 2, lv, .int x :: st, σ)) : am_W X nL (pc, lv, st, σ) := by
  obtain ⟨p, l, e, R, s, m, args, below, meth, c, Q, g, n0⟩ := X
  intro H locs ls hn hI hS hl
  exact lv_bipush hF.1 hF.2.1 hd hv (k H locs ls hn hI hS hl)
theorem am_sipush {n : Int} {x : Int32} (hd : decode cc pc = .ok (.sipush n, 3)) (hv : (Int16.ofInt n).toInt32 = x) (hF : am_F X own cc nL) (k : am_W X nL (pc + 3, lv, .int x :: st, σ)) : am_W X nL (pc, lv, st, σ) := by
  obtain ⟨p, l, e, R, s, m, args, below, meth, c, Q, g, n0⟩ := X
  intro H locs ls hn hI hS hl
  exact lv_sipush hF.1 hF.2.1 hd hv (k H locs ls hn hI hS hl)
theorem am_lconst {n : Fin 2} {x : Int64} (hd : decode cc pc = .ok (.lconst n, 1)) (hv : Int64.ofNat (n : Nat) = x) (hF : am_F X own cc nL) (k : am_W X nL (pc + 1, lv, .long x :: st, σ)) : am_W X nL (pc, lv, st, σ) := by
  obtain ⟨p, l, e, R, s, m, args, below, meth, c, Q, g, n0⟩ := X
  intro H locs ls hn hI hS hl
  exact lv_lconst hF.1 hF.2.1 hd hv (k H locs ls hn hI hS hl)
theorem am_ldc {i : Nat} {x : Int32} (hd : decode cc pc = .ok (.ldc i, 2)) (hv : Cond.constant own i x ∈ am_tb) (hF : am_F X own cc nL) (k : am_W X nL (pc + 2, lv, .int x :: st, σ)) : am_W X nL (pc, lv, st, σ) := by
  obtain ⟨p, l, e, R, s, m, args, below, meth, c, Q, g, n0⟩ := X
  intro H locs ls hn hI hS hl
  exact lv_ldc hF.1 hF.2.1 hF.2.2.2.1 (hF.2.2.2.2.1 _ hv) hd (k H locs ls hn hI hS hl)
theorem am_ldcw {i : Nat} {x : Int32} (hd : decode cc pc = .ok (.ldc_w i, 3)) (hv : Cond.constant own i x ∈ am_tb) (hF : am_F X own cc nL) (k : am_W X nL (pc + 3, lv, .int x :: st, σ)) : am_W X nL (pc, lv, st, σ) := by
  obtain ⟨p, l, e, R, s, m, args, below, meth, c, Q, g, n0⟩ := X
  intro H locs ls hn hI hS hl
  exact lv_ldcw hF.1 hF.2.1 hF.2.2.2.1 (hF.2.2.2.2.1 _ hv) hd (k H locs ls hn hI hS hl)
theorem am_ldc2 {i : Nat} {x : Int64} (hd : decode cc pc = .ok (.ldc2_w i, 3)) (hv : Cond.constantLong own i x ∈ am_tb) (hF : am_F X own cc nL) (k : am_W X nL (pc + 3, lv, .long x :: st, σ)) : am_W X nL (pc, lv, st, σ) := by
  obtain ⟨p, l, e, R, s, m, args, below, meth, c, Q, g, n0⟩ := X
  intro H locs ls hn hI hS hl
  exact lv_ldc2 hF.1 hF.2.1 hF.2.2.2.1 (hF.2.2.2.2.1 _ hv) hd (k H locs ls hn hI hS hl)
theorem am_ldcS {i a : Nat} (hd : decode cc pc = .ok (.ldc i, 2)) (ho : own = "ShareHouse$Tape") (hv : am_sx[a]? = some i) (hF : am_F X own cc nL) (k : am_W X nL (pc + 2, lv, .ref (1000 + a) :: st, σ)) : am_W X nL (pc, lv, st, σ) := by
  obtain ⟨p, l, e, R, s, m, args, below, meth, c, Q, g, n0⟩ := X
  intro H locs ls hn hI hS hl
  subst ho
  have ha : a < 19 := (List.getElem?_eq_some_iff.mp hv).1
  have h2 := hF.2.2.2.2.2.1.2.2.1 a ha
  have h3 : am_sx.getD a 0 = i := by rw [List.getD_eq_getElem?_getD, hv]; rfl
  rw [h3] at h2
  refine va_ldcS hF.1 hF.2.1 hF.2.2.2.1 h2 hd ?_
  have hk := k H locs ls hn hI hS hl
  have he : am_ad g (1000 + a) = g.2.2.2 (1000 + a) := if_neg (by omega)
  simpa only [List.map_cons, am_rv, he] using hk
theorem am_iload_n {i : Fin 4} {x : Int32} (hd : decode cc pc = .ok (.iload_n i, 1)) (hv : am_lg lv i = some (.int x)) (hF : am_F X own cc nL) (k : am_W X nL (pc + 1, lv, .int x :: st, σ)) : am_W X nL (pc, lv, st, σ) := by
  obtain ⟨p, l, e, R, s, m, args, below, meth, c, Q, g, n0⟩ := X
  intro H locs ls hn hI hS hl
  exact lv_iload_n hF.1 hF.2.1 hd rfl (am_lg_at hl hv) (k H locs ls hn hI hS hl)
theorem am_iload {i : Nat} {x : Int32} (hd : decode cc pc = .ok (.iload i, 2)) (hv : am_lg lv i = some (.int x)) (hF : am_F X own cc nL) (k : am_W X nL (pc + 2, lv, .int x :: st, σ)) : am_W X nL (pc, lv, st, σ) := by
  obtain ⟨p, l, e, R, s, m, args, below, meth, c, Q, g, n0⟩ := X
  intro H locs ls hn hI hS hl
  exact lv_iload hF.1 hF.2.1 hd (am_lg_at hl hv) (k H locs ls hn hI hS hl)
theorem am_lload_n {i : Fin 4} {x : Int64} (hd : decode cc pc = .ok (.lload_n i, 1)) (hv : am_lg lv i = some (.long x)) (hF : am_F X own cc nL) (k : am_W X nL (pc + 1, lv, .long x :: st, σ)) : am_W X nL (pc, lv, st, σ) := by
  obtain ⟨p, l, e, R, s, m, args, below, meth, c, Q, g, n0⟩ := X
  intro H locs ls hn hI hS hl
  exact lv_lload_n hF.1 hF.2.1 hd rfl (am_lg_at hl hv) (k H locs ls hn hI hS hl)
theorem am_lload {i : Nat} {x : Int64} (hd : decode cc pc = .ok (.lload i, 2)) (hv : am_lg lv i = some (.long x)) (hF : am_F X own cc nL) (k : am_W X nL (pc + 2, lv, .long x :: st, σ)) : am_W X nL (pc, lv, st, σ) := by
  obtain ⟨p, l, e, R, s, m, args, below, meth, c, Q, g, n0⟩ := X
  intro H locs ls hn hI hS hl
  exact lv_lload hF.1 hF.2.1 hd (am_lg_at hl hv) (k H locs ls hn hI hS hl)
theorem am_aload_n {i : Fin 4} {x : Nat} (hd : decode cc pc = .ok (.aload_n i, 1)) (hv : am_lg lv i = some (.ref x)) (hF : am_F X own cc nL) (k : am_W X nL (pc + 1, lv, .ref x :: st, σ)) : am_W X nL (pc, lv, st, σ) := by
  obtain ⟨p, l, e, R, s, m, args, below, meth, c, Q, g, n0⟩ := X
  intro H locs ls hn hI hS hl
  exact lv_aload_n hF.1 hF.2.1 hd rfl (am_lg_at hl hv) (k H locs ls hn hI hS hl)
theorem am_aload {i : Nat} {x : Nat} (hd : decode cc pc = .ok (.aload i, 2)) (hv : am_lg lv i = some (.ref x)) (hF : am_F X own cc nL) (k : am_W X nL (pc + 2, lv, .ref x :: st, σ)) : am_W X nL (pc, lv, st, σ) := by
  obtain ⟨p, l, e, R, s, m, args, below, meth, c, Q, g, n0⟩ := X
  intro H locs ls hn hI hS hl
  exact lv_aload hF.1 hF.2.1 hd (am_lg_at hl hv) (k H locs ls hn hI hS hl)
theorem am_istore_n {i : Fin 4} {x : Int32} (hd : decode cc pc = .ok (.istore_n i, 1)) (hv : (i : Nat) < nL) (hF : am_F X own cc nL) (k : am_W X nL (pc + 1, am_l1 lv i (.int x), st, σ)) : am_W X nL (pc, lv, .int x :: st, σ) := by
  obtain ⟨p, l, e, R, s, m, args, below, meth, c, Q, g, n0⟩ := X
  intro H locs ls hn hI hS hl
  exact lv_istore_n hF.1 hF.2.1 hd rfl hl hv (am_ml_1 (v := .int x)) (fun ls2 hl2 => k H locs ls2 hn hI hS hl2)
theorem am_istore {i : Nat} {x : Int32} (hd : decode cc pc = .ok (.istore i, 2)) (hv : i < nL) (hF : am_F X own cc nL) (k : am_W X nL (pc + 2, am_l1 lv i (.int x), st, σ)) : am_W X nL (pc, lv, .int x :: st, σ) := by
  obtain ⟨p, l, e, R, s, m, args, below, meth, c, Q, g, n0⟩ := X
  intro H locs ls hn hI hS hl
  exact lv_istore hF.1 hF.2.1 hd hl hv (am_ml_1 (v := .int x)) (fun ls2 hl2 => k H locs ls2 hn hI hS hl2)
theorem am_lstore_n {i : Fin 4} {x : Int64} (hd : decode cc pc = .ok (.lstore_n i, 1)) (hv : (i : Nat) + 1 < nL) (hF : am_F X own cc nL) (k : am_W X nL (pc + 1, am_l2 lv i (.long x), st, σ)) : am_W X nL (pc, lv, .long x :: st, σ) := by
  obtain ⟨p, l, e, R, s, m, args, below, meth, c, Q, g, n0⟩ := X
  intro H locs ls hn hI hS hl
  exact lv_lstore_n hF.1 hF.2.1 hd rfl hl hv (am_ml_2 (v := .long x)) (fun ls2 hl2 => k H locs ls2 hn hI hS hl2)
theorem am_lstore {i : Nat} {x : Int64} (hd : decode cc pc = .ok (.lstore i, 2)) (hv : i + 1 < nL) (hF : am_F X own cc nL) (k : am_W X nL (pc + 2, am_l2 lv i (.long x), st, σ)) : am_W X nL (pc, lv, .long x :: st, σ) := by
  obtain ⟨p, l, e, R, s, m, args, below, meth, c, Q, g, n0⟩ := X
  intro H locs ls hn hI hS hl
  exact lv_lstore hF.1 hF.2.1 hd hl hv (am_ml_2 (v := .long x)) (fun ls2 hl2 => k H locs ls2 hn hI hS hl2)
theorem am_astore_n {i : Fin 4} {x : Nat} (hd : decode cc pc = .ok (.astore_n i, 1)) (hv : (i : Nat) < nL) (hF : am_F X own cc nL) (k : am_W X nL (pc + 1, am_l1 lv i (.ref x), st, σ)) : am_W X nL (pc, lv, .ref x :: st, σ) := by
  obtain ⟨p, l, e, R, s, m, args, below, meth, c, Q, g, n0⟩ := X
  intro H locs ls hn hI hS hl
  exact lv_astore_n hF.1 hF.2.1 hd rfl hl hv (am_ml_1 (v := .ref x)) (fun ls2 hl2 => k H locs ls2 hn hI hS hl2)
theorem am_astore {i : Nat} {x : Nat} (hd : decode cc pc = .ok (.astore i, 2)) (hv : i < nL) (hF : am_F X own cc nL) (k : am_W X nL (pc + 2, am_l1 lv i (.ref x), st, σ)) : am_W X nL (pc, lv, .ref x :: st, σ) := by
  obtain ⟨p, l, e, R, s, m, args, below, meth, c, Q, g, n0⟩ := X
  intro H locs ls hn hI hS hl
  exact lv_astore hF.1 hF.2.1 hd hl hv (am_ml_1 (v := .ref x)) (fun ls2 hl2 => k H locs ls2 hn hI hS hl2)
theorem am_iinc {i : Nat} {n : Int} {x d : Int32} (hd : decode cc pc = .ok (.iinc i n, 3)) (hx : am_lg lv i = some (.int x)) (hv : Int32.ofInt n = d) (hi : i < nL) (hF : am_F X own cc nL) (k : am_W X nL (pc + 3, am_l1 lv i (.int (x + d)), st, σ)) : am_W X nL (pc, lv, st, σ) := by
  obtain ⟨p, l, e, R, s, m, args, below, meth, c, Q, g, n0⟩ := X
  intro H locs ls hn hI hS hl
  subst hv
  obtain ⟨j, hj⟩ := am_lg_get (g := g) hx
  exact lv_iinc hF.1 hF.2.1 hd hl hj rfl hi (am_ml_1 (v := .int (x + Int32.ofInt n))) (fun ls2 hl2 => k H locs ls2 hn hI hS hl2)
theorem am_goto {o : Int} {t : Nat} (hd : decode cc pc = .ok (.goto o, 3)) (ht : (pc : Int) + o = (t : Int)) (hF : am_F X own cc nL) (k : am_W X nL (t, lv, st, σ)) : am_W X nL (pc, lv, st, σ) := by
  obtain ⟨p, l, e, R, s, m, args, below, meth, c, Q, g, n0⟩ := X
  intro H locs ls hn hI hS hl
  exact lv_goto hF.1 hF.2.1 hd ht (k H locs ls hn hI hS hl)
end
end
section
/-! fields, arrays, the soundness of the step function -/
theorem am_ad_lt {g : am_G} {k : Nat} (h : k < 1000) : am_ad g k = g.1 + k := if_pos h
theorem am_I_put {g : am_G} {σ σ' : am_S} {k : Nat} {H H1 : Heap} (hI : am_I g σ H) (h : k < σ.1) (hn : σ'.1 = σ.1) (ho : ∀ j, j ≠ k → am_el g σ' j = am_el g σ j) (hz : H1.size = H.size) (oq : ∀ q : Nat, q ≠ g.1 + k → H1[q]? = H[q]?) (he : va_at g.2.1 am_cl (g.1 + k, am_el g σ' k) H1) : am_I g σ' H1 :=
  am_I_set hI h hn ho rfl hz (hI.2.2.set am_ws_D (am_ws_at h) he oq)
theorem am_el_congr {g : am_G} {σ σ' : am_S} {k : Nat} (h1 : σ'.2.1.1 k = σ.2.1.1 k) (h2 : σ'.2.1.2 k = σ.2.1.2 k) (h3 : σ'.2.2 k = σ.2.2 k) : am_el g σ' k = am_el g σ k := by
  have hf : ∀ ci, am_fs g σ' k ci = am_fs g σ k ci := by
    intro ci
    unfold am_fs
    apply List.map_congr_left
    intro j _
    unfold am_fv
    rw [h1, h2, h3]
  unfold am_el
  obtain ⟨t, n⟩ := am_sh k
  unfold am_elS
  split <;> simp only [h1, h2, h3, hf]
theorem am_si_ne {τ : am_T} {k j a : Nat} {v : Int32} (h : a ≠ k) : (am_si τ k j v).1 a = τ.1 a := by
  funext b
  exact if_neg (fun q => h q.1)
theorem am_sl_ne {τ : am_T} {k j a : Nat} {v : Int64} (h : a ≠ k) : (am_sl τ k j v).2 a = τ.2 a := by
  funext b
  exact if_neg (fun q => h q.1)
theorem am_si_self {τ : am_T} {k j : Nat} {v : Int32} : (am_si τ k j v).1 k = upd (τ.1 k) j v := by
  funext b
  show (if k = k ∧ b = j then v else τ.1 k b) = (if b = j then v else τ.1 k b)
  simp
theorem am_sl_self {τ : am_T} {k j : Nat} {v : Int64} : (am_sl τ k j v).2 k = vp_updL (τ.2 k) j v := by
  funext b
  show (if k = k ∧ b = j then v else τ.2 k b) = (if b = j then v else τ.2 k b)
  simp
theorem am_av_fv {g : am_G} {σ : am_S} {k b : Nat} {t : FieldType} {v : Value} (h : am_av σ k b t = some v) : am_fv g σ k b t = am_rv g v := by
  unfold am_av at h
  unfold am_fv
  split at h
  · cases h; rfl
  · cases h; rfl
  · cases h; rfl
  · split
    · simp_all
    · simp_all
    · simp_all
    · cases hh : σ.2.2 k b with
      | none => rw [hh] at h; cases h
      | some q => rw [hh] at h; cases h; rfl
theorem am_lays_good {C : String} {T : u_T} {N : Nat} {w : Cond} (h : w ∈ u_ws C T N) : goodWord w = true := by
  obtain ⟨k, -, rfl⟩ := List.mem_map.mp h
  unfold u_lay
  split <;> rfl
theorem am_cls_tb {ci : Nat} {q : vw_C} (h : am_cl[ci]? = some q) : ∀ w ∈ u_ws q.1 q.2.1 q.2.2, w ∈ am_tb := fun w hw => by
  obtain ⟨i, hi⟩ := List.getElem?_of_mem ((am_cls ci q h).1 w hw)
  exact am_tbI hi (am_lays_good hw)
theorem am_fs_get {g : am_G} {σ : am_S} {k ci b : Nat} (h : b < am_nf ci) : (am_fs g σ k ci)[b]? = some (am_fv g σ k b (am_ty ci b)) := by
  simp [am_fs, h]
theorem am_fs_len {g : am_G} {σ : am_S} {k ci : Nat} : (am_fs g σ k ci).length = am_nf ci := by simp [am_fs]
theorem am_el_obj {g : am_G} {σ : am_S} {k ci : Nat} (h : am_sh k = (0, ci)) : am_el g σ k = .inr (ci, am_fs g σ k ci) := by unfold am_el; rw [h]; rfl
theorem am_el_i {g : am_G} {σ : am_S} {k n : Nat} (h : am_sh k = (1, n)) : am_el g σ k = .inl (g.2.2.1 1, n, .inl (σ.2.1.1 k)) := by unfold am_el; rw [h]; rfl
theorem am_el_z {g : am_G} {σ : am_S} {k n : Nat} (h : am_sh k = (2, n)) : am_el g σ k = .inl (g.2.2.1 2, n, .inl (σ.2.1.1 k)) := by unfold am_el; rw [h]; rfl
theorem am_el_l {g : am_G} {σ : am_S} {k n : Nat} (h : am_sh k = (3, n)) : am_el g σ k = .inl (g.2.2.1 3, n, .inr (.inl (σ.2.1.2 k))) := by unfold am_el; rw [h]; rfl
theorem am_el_q {g : am_G} {σ : am_S} {k n : Nat} (h : am_sh k = (4, n)) : am_el g σ k = .inl (g.2.2.1 4, n, .inr (.inr (.inr (.inr (fun j => (σ.2.2 k j).map (am_ad g)))))) := by unfold am_el; rw [h]; rfl
theorem am_el_r {g : am_G} {σ : am_S} {k n : Nat} (h : am_sh k = (5, n)) : am_el g σ k = .inl (g.2.2.1 5, n, .inr (.inr (.inr (.inr (fun j => (σ.2.2 k j).map (am_ad g)))))) := by unfold am_el; rw [h]; rfl
theorem am_fs_setI {g : am_G} {n : Nat} {τ : am_T} {rf : Nat → Nat → Option Nat} {k ci b : Nat} {x : Int32} (hb : b < am_nf ci) (hty : am_ty ci b = .int ∨ am_ty ci b = .boolean) : (am_fs g (n, τ, rf) k ci).set b (.int x) = am_fs g (n, am_si τ k b x, rf) k ci := by
  apply List.ext_getElem?
  intro j
  by_cases hj : j = b
  · subst hj
    rw [List.getElem?_set_self (by rw [am_fs_len]; exact hb), am_fs_get hb]
    rcases hty with h | h <;> (rw [h]; simp [am_fv, am_si])
  · rw [List.getElem?_set_ne (Ne.symm hj)]
    by_cases hl : j < am_nf ci
    · rw [am_fs_get hl, am_fs_get hl]
      congr 1
      unfold am_fv
      have : (am_si τ k b x).1 k j = τ.1 k j := if_neg (fun q => hj q.2)
      simp only [this]
      rfl
    · rw [List.getElem?_eq_none (by rw [am_fs_len]; omega), List.getElem?_eq_none (by rw [am_fs_len]; omega)]
theorem am_fs_setL {g : am_G} {n : Nat} {τ : am_T} {rf : Nat → Nat → Option Nat} {k ci b : Nat} {x : Int64} (hb : b < am_nf ci) (hty : am_ty ci b = .long) : (am_fs g (n, τ, rf) k ci).set b (.long x) = am_fs g (n, am_sl τ k b x, rf) k ci := by
  apply List.ext_getElem?
  intro j
  by_cases hj : j = b
  · subst hj
    rw [List.getElem?_set_self (by rw [am_fs_len]; exact hb), am_fs_get hb, hty]
    simp [am_fv, am_sl]
  · rw [List.getElem?_set_ne (Ne.symm hj)]
    by_cases hl : j < am_nf ci
    · rw [am_fs_get hl, am_fs_get hl]
      congr 1
      unfold am_fv
      have : (am_sl τ k b x).2 k j = τ.2 k j := if_neg (fun q => hj q.2)
      simp only [this]
      rfl
    · rw [List.getElem?_eq_none (by rw [am_fs_len]; omega), List.getElem?_eq_none (by rw [am_fs_len]; omega)]
def am_in (i : Int32) (n : Nat) : Bool := !(decide (i < 0) || decide (n ≤ i.toNatClampNeg))
theorem am_in_vp {i : Int32} {n : Nat} (h : am_in i n = true) : vp_in i n := by
  simpa [am_in, vp_in] using h
section
variable {X : am_X} {own : String} {cc : ByteArray} {nL pc : Nat} {lv : List (Nat × Value)} {st : List Value} {σ : am_S}
theorem am_get {i k ci b N : Nat} {C : String} {T : u_T} {v : Value} (hd : decode cc pc = .ok (.getfield i, 3)) (hk : k < σ.1) (hk2 : k < 1000) (hsh : am_sh k = (0, ci)) (hc : am_cl[ci]? = some (C, T, N)) (hb : b < am_nf ci) (hp : Cond.fieldLink own i (T b).1 (T b).2.1 (T b).2.2.1 ∈ am_tb) (hv : am_av σ k b (am_ty ci b) = some v) (hF : am_F X own cc nL) (kk : am_W X nL (pc + 3, lv, v :: st, σ)) : am_W X nL (pc, lv, .ref k :: st, σ) := by
  obtain ⟨p, l, e, R, s, m, args, below, meth, c, Q, g, n0⟩ := X
  intro H locs ls hn hI hS hl
  have hw := am_cls ci _ hc
  have hN : N = am_nf ci := hw.2.2.2
  show W p l e R s m args below meth c H locs _ _ Q (F0 m pc ls (.ref (am_ad g k) :: st.map (am_rv g)))
  rw [am_ad_lt hk2]
  exact va_get hF.1 hF.2.1 hF.2.2.2.2.1 (am_cls_tb hc) hF.2.2.2.1 hF.2.2.2.2.2.1.1 hI.2.2 k ((am_ws_at hk).trans (by rw [am_el_obj hsh])) hc b (by rw [hN]; exact hb) (hF.2.2.2.2.1 _ hp) (fun x hx => hx) ((am_fs_get hb).trans (congrArg some (am_av_fv hv))) hd (kk H locs ls hn hI hS hl)
theorem am_putX {i k ci b N : Nat} {C : String} {T : u_T} {w : Value} {σ' : am_S} (hd : decode cc pc = .ok (.putfield i, 3)) (hk : k < σ.1) (hk2 : k < 1000) (hsh : am_sh k = (0, ci)) (hc : am_cl[ci]? = some (C, T, N)) (hb : b < am_nf ci) (hp : Cond.fieldLink own i (T b).1 (T b).2.1 (T b).2.2.1 ∈ am_tb) (hfin : (T b).2.2.2 = false) (hnar : ∀ g, narrow (am_ty ci b) (am_rv g w) = am_rv g w) (hfit : ∀ g, fits (am_ty ci b) (am_rv g w) = true) (hn' : σ'.1 = σ.1) (ho : ∀ g j, j ≠ k → am_el g σ' j = am_el g σ j) (hset : ∀ g, (am_fs g σ k ci).set b (am_rv g w) = am_fs g σ' k ci) (hF : am_F X own cc nL) (kk : am_W X nL (pc + 3, lv, st, σ')) : am_W X nL (pc, lv, w :: .ref k :: st, σ) := by
  obtain ⟨p, l, e, R, s, m, args, below, meth, c, Q, g, n0⟩ := X
  intro H locs ls hn hI hS hl
  have hw := am_cls ci _ hc
  have hN : N = am_nf ci := hw.2.2.2
  have hbN : b < N := by rw [hN]; exact hb
  show W p l e R s m args below meth c H locs _ _ Q (F0 m pc ls (am_rv g w :: .ref (am_ad g k) :: st.map (am_rv g)))
  rw [am_ad_lt hk2]
  have hts := hF.2.2.2.2.1
  have hin := am_cls_tb hc
  have hK := hF.2.2.2.2.2.1.1
  have hap := va_apart (own := own) hts hin (am_ty ci) hw.2.1 hw.2.2.1 hK hc
  have he : (am_ws g σ)[k]? = some (g.1 + k, .inr (ci, am_fs g σ k ci)) := (am_ws_at hk).trans (by rw [am_el_obj hsh])
  obtain ⟨r, h1, cell, q1, q2, q3, q4⟩ := hI.2.2 k _ he
  have hr : r = (C, T, N) := Option.some.inj (h1.symm.trans hc)
  subst hr
  obtain ⟨hSl, hfc, kC, hkC, hkind⟩ := hK.1 ci _ hc
  obtain ⟨cf, kf, fi, f, hi, hsl⟩ := hSl b hbN
  have hlay := hts _ (hin _ (u_in_lay hbN))
  unfold u_lay at hlay
  rw [if_neg (by rw [hfin]; decide)] at hlay
  have hst := (u_facts hfc hkC (u_lays hts hin hbN) hi).1
  have h6 := u_store hfc hkC hkind hlay hi (hw.2.1 b hbN) (hnar g) (hfit g)
  refine W.putK hF.1 hF.2.1 (f := f) ⟨hF.2.2.2.1, hts _ hp, ⟨_, _, _, hi⟩, hst⟩ (by rw [q2]; exact h6) q1 q3 (by rw [hsl]; exact k2_hasslot (q4 b hbN)) rfl rfl hd fun H' e1 e2 e3 => ?_
  rw [hsl] at e1 ⊢
  have hI' : am_I g σ' H' := by
    refine am_I_put hI hk hn' (ho g) e2 e3 ?_
    rw [am_el_obj hsh, ← hset g]
    exact ⟨_, hc, t_OB.to (V := updV (vp_V (am_fs g σ k ci)) b (am_rv g w)) ⟨_, e1, q2, q3, t_set q4 hap hbN _⟩ (fun j _ => vp_updV_set (by rw [am_fs_len]; exact hb) _ j)⟩
  have := kk H' _ ls (by rw [hn']; exact hn) hI' (hS.put (k := g.2.1.2 ci b) e2 e3 (Nat.le_add_right _ _)) hl
  rw [show (pc + 3, lv, st, σ').2.2.2.1 = σ.1 from hn'] at this
  exact this
theorem am_putI {i k ci b N : Nat} {C : String} {T : u_T} {x : Int32} (hd : decode cc pc = .ok (.putfield i, 3)) (hk : k < σ.1) (hk2 : k < 1000) (hsh : am_sh k = (0, ci)) (hc : am_cl[ci]? = some (C, T, N)) (hb : b < am_nf ci) (hp : Cond.fieldLink own i (T b).1 (T b).2.1 (T b).2.2.1 ∈ am_tb) (hfin : (T b).2.2.2 = false) (hty : am_ty ci b = .int) (hF : am_F X own cc nL) (kk : am_W X nL (pc + 3, lv, st, (σ.1, am_si σ.2.1 k b x, σ.2.2))) : am_W X nL (pc, lv, .int x :: .ref k :: st, σ) :=
  am_putX (w := .int x) (σ' := (σ.1, am_si σ.2.1 k b x, σ.2.2)) hd hk hk2 hsh hc hb hp hfin (fun _ => by rw [hty]; rfl) (fun _ => by rw [hty]; rfl) rfl (fun _ _ h => am_el_congr (am_si_ne h) rfl rfl) (fun _ => am_fs_setI hb (Or.inl hty)) hF kk
theorem am_putZ {i k ci b N : Nat} {C : String} {T : u_T} {x : Int32} (hd : decode cc pc = .ok (.putfield i, 3)) (hk : k < σ.1) (hk2 : k < 1000) (hsh : am_sh k = (0, ci)) (hc : am_cl[ci]? = some (C, T, N)) (hb : b < am_nf ci) (hp : Cond.fieldLink own i (T b).1 (T b).2.1 (T b).2.2.1 ∈ am_tb) (hfin : (T b).2.2.2 = false) (hty : am_ty ci b = .boolean) (hx : x = 0 ∨ x = 1) (hF : am_F X own cc nL) (kk : am_W X nL (pc + 3, lv, st, (σ.1, am_si σ.2.1 k b x, σ.2.2))) : am_W X nL (pc, lv, .int x :: .ref k :: st, σ) :=
  am_putX (w := .int x) (σ' := (σ.1, am_si σ.2.1 k b x, σ.2.2)) hd hk hk2 hsh hc hb hp hfin (fun _ => by rw [hty]; rcases hx with rfl | rfl <;> rfl) (fun _ => by rw [hty]; rcases hx with rfl | rfl <;> rfl) rfl (fun _ _ h => am_el_congr (am_si_ne h) rfl rfl) (fun _ => am_fs_setI hb (Or.inr hty)) hF kk
theorem am_putL {i k ci b N : Nat} {C : String} {T : u_T} {x : Int64} (hd : decode cc pc = .ok (.putfield i, 3)) (hk : k < σ.1) (hk2 : k < 1000) (hsh : am_sh k = (0, ci)) (hc : am_cl[ci]? = some (C, T, N)) (hb : b < am_nf ci) (hp : Cond.fieldLink own i (T b).1 (T b).2.1 (T b).2.2.1 ∈ am_tb) (hfin : (T b).2.2.2 = false) (hty : am_ty ci b = .long) (hF : am_F X own cc nL) (kk : am_W X nL (pc + 3, lv, st, (σ.1, am_sl σ.2.1 k b x, σ.2.2))) : am_W X nL (pc, lv, .long x :: .ref k :: st, σ) :=
  am_putX (w := .long x) (σ' := (σ.1, am_sl σ.2.1 k b x, σ.2.2)) hd hk hk2 hsh hc hb hp hfin (fun _ => by rw [hty]; rfl) (fun _ => by rw [hty]; rfl) rfl (fun _ _ h => am_el_congr rfl (am_sl_ne h) rfl) (fun _ => am_fs_setL hb hty) hF kk
theorem am_alen {k t n : Nat} (hd : decode cc pc = .ok (.arraylength, 1)) (hk : k < σ.1) (hk2 : k < 1000) (hsh : am_sh k = (t, n)) (h1 : 0 < t) (h2 : t < 6) (hF : am_F X own cc nL) (kk : am_W X nL (pc + 1, lv, .int (Int32.ofNat n) :: st, σ)) : am_W X nL (pc, lv, .ref k :: st, σ) := by
  obtain ⟨p, l, e, R, s, m, args, below, meth, c, Q, g, n0⟩ := X
  intro H locs ls hn hI hS hl
  show W p l e R s m args below meth c H locs _ _ Q (F0 m pc ls (.ref (am_ad g k) :: st.map (am_rv g)))
  rw [am_ad_lt hk2]
  have hK := hF.2.2.2.2.2.1.1
  have kk := kk H locs ls hn hI hS hl
  rcases (show t = 1 ∨ t = 2 ∨ t = 3 ∨ t = 4 ∨ t = 5 by omega) with rfl | rfl | rfl | rfl | rfl
  · exact va_alen hF.1 hF.2.1 hK hI.2.2 k 0 ((am_ws_at (g := g) hk).trans (congrArg (fun e => some (g.1 + k, e)) (am_el_i hsh))) rfl rfl hd kk
  · exact va_alen hF.1 hF.2.1 hK hI.2.2 k 1 ((am_ws_at (g := g) hk).trans (congrArg (fun e => some (g.1 + k, e)) (am_el_z hsh))) rfl rfl hd kk
  · exact va_alen hF.1 hF.2.1 hK hI.2.2 k 2 ((am_ws_at (g := g) hk).trans (congrArg (fun e => some (g.1 + k, e)) (am_el_l hsh))) rfl rfl hd kk
  · exact va_alen hF.1 hF.2.1 hK hI.2.2 k 3 ((am_ws_at (g := g) hk).trans (congrArg (fun e => some (g.1 + k, e)) (am_el_q hsh))) rfl rfl hd kk
  · exact va_alen hF.1 hF.2.1 hK hI.2.2 k 4 ((am_ws_at (g := g) hk).trans (congrArg (fun e => some (g.1 + k, e)) (am_el_r hsh))) rfl rfl hd kk
theorem am_iald {k n j : Nat} {i : Int32} (hd : decode cc pc = .ok (.iaload, 1)) (hk : k < σ.1) (hk2 : k < 1000) (hsh : am_sh k = (1, n)) (hin : am_in i n = true) (hj : i.toNatClampNeg = j) (hF : am_F X own cc nL) (kk : am_W X nL (pc + 1, lv, .int (σ.2.1.1 k j) :: st, σ)) : am_W X nL (pc, lv, .int i :: .ref k :: st, σ) := by
  obtain ⟨p, l, e, R, s, m, args, below, meth, c, Q, g, n0⟩ := X
  intro H locs ls hn hI hS hl
  subst hj
  show W p l e R s m args below meth c H locs _ _ Q (F0 m pc ls (.int i :: .ref (am_ad g k) :: st.map (am_rv g)))
  rw [am_ad_lt hk2]
  exact va_iald hF.1 hF.2.1 hF.2.2.2.2.2.1.1 hI.2.2 k 0 ((am_ws_at hk).trans (by rw [am_el_i hsh])) rfl (am_in_vp hin) hd (kk H locs ls hn hI hS hl)
theorem am_zald {k n j : Nat} {i : Int32} (hd : decode cc pc = .ok (.baload, 1)) (hk : k < σ.1) (hk2 : k < 1000) (hsh : am_sh k = (2, n)) (hin : am_in i n = true) (hj : i.toNatClampNeg = j) (hF : am_F X own cc nL) (kk : am_W X nL (pc + 1, lv, .int (σ.2.1.1 k j) :: st, σ)) : am_W X nL (pc, lv, .int i :: .ref k :: st, σ) := by
  obtain ⟨p, l, e, R, s, m, args, below, meth, c, Q, g, n0⟩ := X
  intro H locs ls hn hI hS hl
  subst hj
  show W p l e R s m args below meth c H locs _ _ Q (F0 m pc ls (.int i :: .ref (am_ad g k) :: st.map (am_rv g)))
  rw [am_ad_lt hk2]
  exact va_zald hF.1 hF.2.1 hF.2.2.2.2.2.1.1 hI.2.2 k 1 ((am_ws_at hk).trans (by rw [am_el_z hsh])) rfl (am_in_vp hin) hd (kk H locs ls hn hI hS hl)
theorem am_lald {k n j : Nat} {i : Int32} (hd : decode cc pc = .ok (.laload, 1)) (hk : k < σ.1) (hk2 : k < 1000) (hsh : am_sh k = (3, n)) (hin : am_in i n = true) (hj : i.toNatClampNeg = j) (hF : am_F X own cc nL) (kk : am_W X nL (pc + 1, lv, .long (σ.2.1.2 k j) :: st, σ)) : am_W X nL (pc, lv, .int i :: .ref k :: st, σ) := by
  obtain ⟨p, l, e, R, s, m, args, below, meth, c, Q, g, n0⟩ := X
  intro H locs ls hn hI hS hl
  subst hj
  show W p l e R s m args below meth c H locs _ _ Q (F0 m pc ls (.int i :: .ref (am_ad g k) :: st.map (am_rv g)))
  rw [am_ad_lt hk2]
  exact va_lald hF.1 hF.2.1 hF.2.2.2.2.2.1.1 hI.2.2 k 2 ((am_ws_at hk).trans (by rw [am_el_l hsh])) rfl (am_in_vp hin) hd (kk H locs ls hn hI hS hl)
theorem am_iast {k n j : Nat} {i : Int32} {x : Int32} (hd : decode cc pc = .ok (.iastore, 1)) (hk : k < σ.1) (hk2 : k < 1000) (hsh : am_sh k = (1, n)) (hin : am_in i n = true) (hj : i.toNatClampNeg = j) (hF : am_F X own cc nL) (kk : am_W X nL (pc + 1, lv, st, (σ.1, am_si σ.2.1 k j x, σ.2.2))) : am_W X nL (pc, lv, .int x :: .int i :: .ref k :: st, σ) := by
  obtain ⟨p, l, e, R, s, m, args, below, meth, c, Q, g, n0⟩ := X
  intro H locs ls hn hI hS hl
  subst hj
  show W p l e R s m args below meth c H locs _ _ Q (F0 m pc ls (.int x :: .int i :: .ref (am_ad g k) :: st.map (am_rv g)))
  rw [am_ad_lt hk2]
  have he : (am_ws g σ)[k]? = _ := (am_ws_at hk).trans (by rw [am_el_i hsh])
  have hv := am_in_vp hin
  refine W.iast hF.1 hF.2.1 (hI.2.2 k _ he) ((hF.2.2.2.2.2.1.1.2 0 _ rfl).1 n (fun j => .int (σ.2.1.1 k j))) (fun q => by cases q) (by show ¬ (i < 0 ∨ (arrV _ _ _).slots.size ≤ _); rw [arrV_size]; exact hv) rfl rfl hd fun H1 e1 z oq => ?_
  refine kk H1 _ ls hn (am_I_put hI hk rfl (fun j h => am_el_congr (am_si_ne h) rfl rfl) z oq ?_) (hS.put z oq (Nat.le_add_right _ _)) hl
  rw [am_el_i hsh]
  show H1[g.1 + k]? = some (vp_cell _ _)
  rw [e1]
  show some ((vp_cell _ _).setSlot _ _) = _
  rw [vp_cell_i, vp_cell_i, arrV_store]
  congr 2
  funext q
  show _ = Value.int (((am_si σ.2.1 k i.toNatClampNeg x).1) k q)
  rw [am_si_self]
  by_cases hq : q = i.toNatClampNeg
  · subst hq
    simp [updV, upd]
  · simp [updV, upd, hq]
theorem am_zast {k n j : Nat} {i : Int32} {x : Int32} (hd : decode cc pc = .ok (.bastore, 1)) (hk : k < σ.1) (hk2 : k < 1000) (hsh : am_sh k = (2, n)) (hin : am_in i n = true) (hj : i.toNatClampNeg = j) (hx : x = 0 ∨ x = 1) (hF : am_F X own cc nL) (kk : am_W X nL (pc + 1, lv, st, (σ.1, am_si σ.2.1 k j x, σ.2.2))) : am_W X nL (pc, lv, .int x :: .int i :: .ref k :: st, σ) := by
  obtain ⟨p, l, e, R, s, m, args, below, meth, c, Q, g, n0⟩ := X
  intro H locs ls hn hI hS hl
  subst hj
  show W p l e R s m args below meth c H locs _ _ Q (F0 m pc ls (.int x :: .int i :: .ref (am_ad g k) :: st.map (am_rv g)))
  rw [am_ad_lt hk2]
  have he : (am_ws g σ)[k]? = _ := (am_ws_at hk).trans (by rw [am_el_z hsh])
  have hv := am_in_vp hin
  refine W.zast hF.1 hF.2.1 (hI.2.2 k _ he) ((hF.2.2.2.2.2.1.1.2 1 _ rfl).1 n (fun j => .int (σ.2.1.1 k j))) (fun q => by cases q) (by show ¬ (i < 0 ∨ (arrV _ _ _).slots.size ≤ _); rw [arrV_size]; exact hv) rfl rfl hd fun H1 e1 z oq => ?_
  refine kk H1 _ ls hn (am_I_put hI hk rfl (fun j h => am_el_congr (am_si_ne h) rfl rfl) z oq ?_) (hS.put z oq (Nat.le_add_right _ _)) hl
  rw [am_el_z hsh]
  show H1[g.1 + k]? = some (vp_cell _ _)
  rw [e1]
  rw [show narrow .boolean (.int x) = .int x by rcases hx with rfl | rfl <;> rfl]
  show some ((vp_cell _ _).setSlot _ _) = _
  rw [vp_cell_i, vp_cell_i, arrV_store]
  congr 2
  funext q
  show _ = Value.int (((am_si σ.2.1 k i.toNatClampNeg x).1) k q)
  rw [am_si_self]
  by_cases hq : q = i.toNatClampNeg
  · subst hq
    simp [updV, upd]
  · simp [updV, upd, hq]
theorem am_last {k n j : Nat} {i : Int32} {x : Int64} (hd : decode cc pc = .ok (.lastore, 1)) (hk : k < σ.1) (hk2 : k < 1000) (hsh : am_sh k = (3, n)) (hin : am_in i n = true) (hj : i.toNatClampNeg = j) (hF : am_F X own cc nL) (kk : am_W X nL (pc + 1, lv, st, (σ.1, am_sl σ.2.1 k j x, σ.2.2))) : am_W X nL (pc, lv, .long x :: .int i :: .ref k :: st, σ) := by
  obtain ⟨p, l, e, R, s, m, args, below, meth, c, Q, g, n0⟩ := X
  intro H locs ls hn hI hS hl
  subst hj
  show W p l e R s m args below meth c H locs _ _ Q (F0 m pc ls (.long x :: .int i :: .ref (am_ad g k) :: st.map (am_rv g)))
  rw [am_ad_lt hk2]
  have he : (am_ws g σ)[k]? = _ := (am_ws_at hk).trans (by rw [am_el_l hsh])
  have hv := am_in_vp hin
  refine W.last hF.1 hF.2.1 (hI.2.2 k _ he) ((hF.2.2.2.2.2.1.1.2 2 _ rfl).1 n (fun j => .long (σ.2.1.2 k j))) (fun q => by cases q) (by show ¬ (i < 0 ∨ (arrV _ _ _).slots.size ≤ _); rw [arrV_size]; exact hv) rfl rfl hd fun H1 e1 z oq => ?_
  refine kk H1 _ ls hn (am_I_put hI hk rfl (fun j h => am_el_congr rfl (am_sl_ne h) rfl) z oq ?_) (hS.put z oq (Nat.le_add_right _ _)) hl
  rw [am_el_l hsh]
  show H1[g.1 + k]? = some (vp_cell _ _)
  rw [e1]
  show some ((vp_cell _ _).setSlot _ _) = _
  rw [vp_cell_l, vp_cell_l, arrV_store]
  congr 2
  funext q
  show _ = Value.long (((am_sl σ.2.1 k i.toNatClampNeg x).2) k q)
  rw [am_sl_self]
  by_cases hq : q = i.toNatClampNeg
  · subst hq
    simp [updV, vp_updL]
  · simp [updV, vp_updL, hq]
theorem am_idiv {x y : Int32} (hd : decode cc pc = .ok (.idiv, 1)) (hne : ¬ y = 0) (hF : am_F X own cc nL) (k : am_W X nL (pc + 1, lv, .int (x / y) :: st, σ)) : am_W X nL (pc, lv, .int y :: .int x :: st, σ) := by
  obtain ⟨p, l, e, R, s, m, args, below, meth, c, Q, g, n0⟩ := X
  intro H locs ls hn hI hS hl
  exact lv_idiv hF.1 hF.2.1 hd hne (k H locs ls hn hI hS hl)
theorem am_irem {x y : Int32} (hd : decode cc pc = .ok (.irem, 1)) (hne : ¬ y = 0) (hF : am_F X own cc nL) (k : am_W X nL (pc + 1, lv, .int (x - x / y * y) :: st, σ)) : am_W X nL (pc, lv, .int y :: .int x :: st, σ) := by
  obtain ⟨p, l, e, R, s, m, args, below, meth, c, Q, g, n0⟩ := X
  intro H locs ls hn hI hS hl
  exact lv_irem hF.1 hF.2.1 hd hne (k H locs ls hn hI hS hl)
theorem am_ldiv {x y : Int64} (hd : decode cc pc = .ok (.ldiv, 1)) (hne : ¬ y = 0) (hF : am_F X own cc nL) (k : am_W X nL (pc + 1, lv, .long (x / y) :: st, σ)) : am_W X nL (pc, lv, .long y :: .long x :: st, σ) := by
  obtain ⟨p, l, e, R, s, m, args, below, meth, c, Q, g, n0⟩ := X
  intro H locs ls hn hI hS hl
  exact lv_ldiv hF.1 hF.2.1 hd hne (k H locs ls hn hI hS hl)
theorem am_lrem {x y : Int64} (hd : decode cc pc = .ok (.lrem, 1)) (hne : ¬ y = 0) (hF : am_F X own cc nL) (k : am_W X nL (pc + 1, lv, .long (x - x / y * y) :: st, σ)) : am_W X nL (pc, lv, .long y :: .long x :: st, σ) := by
  obtain ⟨p, l, e, R, s, m, args, below, meth, c, Q, g, n0⟩ := X
  intro H locs ls hn hI hS hl
  exact lv_lrem hF.1 hF.2.1 hd hne (k H locs ls hn hI hS hl)
theorem am_if_eq_t {x : Int32} {o : Int} {t : Nat} (hd : decode cc pc = .ok (.ifCond .eq o, 3)) (ht : (pc : Int) + o = (t : Int)) (hc : x = 0) (hF : am_F X own cc nL) (k : am_W X nL (t, lv, st, σ)) : am_W X nL (pc, lv, .int x :: st, σ) := by
  obtain ⟨p, l, e, R, s, m, args, below, meth, c, Q, g, n0⟩ := X
  intro H locs ls hn hI hS hl
  exact lv_if_eq hF.1 hF.2.1 hd ht (fun _ => k H locs ls hn hI hS hl) (fun h => absurd h (by simpa using hc))
theorem am_if_eq_f {x : Int32} {o : Int} (hd : decode cc pc = .ok (.ifCond .eq o, 3)) {t : Nat} (ht : (pc : Int) + o = (t : Int)) (hc : ¬ x = 0) (hF : am_F X own cc nL) (k : am_W X nL (pc + 3, lv, st, σ)) : am_W X nL (pc, lv, .int x :: st, σ) := by
  obtain ⟨p, l, e, R, s, m, args, below, meth, c, Q, g, n0⟩ := X
  intro H locs ls hn hI hS hl
  exact lv_if_eq hF.1 hF.2.1 hd ht (fun h => absurd h (by simpa using hc)) (fun _ => k H locs ls hn hI hS hl)
theorem am_if_ne_t {x : Int32} {o : Int} {t : Nat} (hd : decode cc pc = .ok (.ifCond .ne o, 3)) (ht : (pc : Int) + o = (t : Int)) (hc : ¬ x = 0) (hF : am_F X own cc nL) (k : am_W X nL (t, lv, st, σ)) : am_W X nL (pc, lv, .int x :: st, σ) := by
  obtain ⟨p, l, e, R, s, m, args, below, meth, c, Q, g, n0⟩ := X
  intro H locs ls hn hI hS hl
  exact lv_if_ne hF.1 hF.2.1 hd ht (fun _ => k H locs ls hn hI hS hl) (fun h => absurd h (by simpa using hc))
theorem am_if_ne_f {x : Int32} {o : Int} (hd : decode cc pc = .ok (.ifCond .ne o, 3)) {t : Nat} (ht : (pc : Int) + o = (t : Int)) (hc : x = 0) (hF : am_F X own cc nL) (k : am_W X nL (pc + 3, lv, st, σ)) : am_W X nL (pc, lv, .int x :: st, σ) := by
  obtain ⟨p, l, e, R, s, m, args, below, meth, c, Q, g, n0⟩ := X
  intro H locs ls hn hI hS hl
  exact lv_if_ne hF.1 hF.2.1 hd ht (fun h => absurd h (by simpa using hc)) (fun _ => k H locs ls hn hI hS hl)
theorem am_if_lt_t {x : Int32} {o : Int} {t : Nat} (hd : decode cc pc = .ok (.ifCond .lt o, 3)) (ht : (pc : Int) + o = (t : Int)) (hc : x < 0) (hF : am_F X own cc nL) (k : am_W X nL (t, lv, st, σ)) : am_W X nL (pc, lv, .int x :: st, σ) := by
  obtain ⟨p, l, e, R, s, m, args, below, meth, c, Q, g, n0⟩ := X
  intro H locs ls hn hI hS hl
  exact lv_if_lt hF.1 hF.2.1 hd ht (fun _ => k H locs ls hn hI hS hl) (fun h => absurd h (by simpa using hc))
theorem am_if_lt_f {x : Int32} {o : Int} (hd : decode cc pc = .ok (.ifCond .lt o, 3)) {t : Nat} (ht : (pc : Int) + o = (t : Int)) (hc : ¬ x < 0) (hF : am_F X own cc nL) (k : am_W X nL (pc + 3, lv, st, σ)) : am_W X nL (pc, lv, .int x :: st, σ) := by
  obtain ⟨p, l, e, R, s, m, args, below, meth, c, Q, g, n0⟩ := X
  intro H locs ls hn hI hS hl
  exact lv_if_lt hF.1 hF.2.1 hd ht (fun h => absurd h (by simpa using hc)) (fun _ => k H locs ls hn hI hS hl)
theorem am_if_ge_t {x : Int32} {o : Int} {t : Nat} (hd : decode cc pc = .ok (.ifCond .ge o, 3)) (ht : (pc : Int) + o = (t : Int)) (hc : 0 ≤ x) (hF : am_F X own cc nL) (k : am_W X nL (t, lv, st, σ)) : am_W X nL (pc, lv, .int x :: st, σ) := by
  obtain ⟨p, l, e, R, s, m, args, below, meth, c, Q, g, n0⟩ := X
  intro H locs ls hn hI hS hl
  exact lv_if_ge hF.1 hF.2.1 hd ht (fun _ => k H locs ls hn hI hS hl) (fun h => absurd h (by simpa using hc))
theorem am_if_ge_f {x : Int32} {o : Int} (hd : decode cc pc = .ok (.ifCond .ge o, 3)) {t : Nat} (ht : (pc : Int) + o = (t : Int)) (hc : ¬ 0 ≤ x) (hF : am_F X own cc nL) (k : am_W X nL (pc + 3, lv, st, σ)) : am_W X nL (pc, lv, .int x :: st, σ) := by
  obtain ⟨p, l, e, R, s, m, args, below, meth, c, Q, g, n0⟩ := X
  intro H locs ls hn hI hS hl
  exact lv_if_ge hF.1 hF.2.1 hd ht (fun h => absurd h (by simpa using hc)) (fun _ => k H locs ls hn hI hS hl)
theorem am_if_gt_t {x : Int32} {o : Int} {t : Nat} (hd : decode cc pc = .ok (.ifCond .gt o, 3)) (ht : (pc : Int) + o = (t : Int)) (hc : 0 < x) (hF : am_F X own cc nL) (k : am_W X nL (t, lv, st, σ)) : am_W X nL (pc, lv, .int x :: st, σ) := by
  obtain ⟨p, l, e, R, s, m, args, below, meth, c, Q, g, n0⟩ := X
  intro H locs ls hn hI hS hl
  exact lv_if_gt hF.1 hF.2.1 hd ht (fun _ => k H locs ls hn hI hS hl) (fun h => absurd h (by simpa using hc))
theorem am_if_gt_f {x : Int32} {o : Int} (hd : decode cc pc = .ok (.ifCond .gt o, 3)) {t : Nat} (ht : (pc : Int) + o = (t : Int)) (hc : ¬ 0 < x) (hF : am_F X own cc nL) (k : am_W X nL (pc + 3, lv, st, σ)) : am_W X nL (pc, lv, .int x :: st, σ) := by
  obtain ⟨p, l, e, R, s, m, args, below, meth, c, Q, g, n0⟩ := X
  intro H locs ls hn hI hS hl
  exact lv_if_gt hF.1 hF.2.1 hd ht (fun h => absurd h (by simpa using hc)) (fun _ => k H locs ls hn hI hS hl)
theorem am_if_le_t {x : Int32} {o : Int} {t : Nat} (hd : decode cc pc = .ok (.ifCond .le o, 3)) (ht : (pc : Int) + o = (t : Int)) (hc : x ≤ 0) (hF : am_F X own cc nL) (k : am_W X nL (t, lv, st, σ)) : am_W X nL (pc, lv, .int x :: st, σ) := by
  obtain ⟨p, l, e, R, s, m, args, below, meth, c, Q, g, n0⟩ := X
  intro H locs ls hn hI hS hl
  exact lv_if_le hF.1 hF.2.1 hd ht (fun _ => k H locs ls hn hI hS hl) (fun h => absurd h (by simpa using hc))
theorem am_if_le_f {x : Int32} {o : Int} (hd : decode cc pc = .ok (.ifCond .le o, 3)) {t : Nat} (ht : (pc : Int) + o = (t : Int)) (hc : ¬ x ≤ 0) (hF : am_F X own cc nL) (k : am_W X nL (pc + 3, lv, st, σ)) : am_W X nL (pc, lv, .int x :: st, σ) := by
  obtain ⟨p, l, e, R, s, m, args, below, meth, c, Q, g, n0⟩ := X
  intro H locs ls hn hI hS hl
  exact lv_if_le hF.1 hF.2.1 hd ht (fun h => absurd h (by simpa using hc)) (fun _ => k H locs ls hn hI hS hl)
theorem am_icmp_eq_t {x y : Int32} {o : Int} {t : Nat} (hd : decode cc pc = .ok (.if_icmp .eq o, 3)) (ht : (pc : Int) + o = (t : Int)) (hc : x = y) (hF : am_F X own cc nL) (k : am_W X nL (t, lv, st, σ)) : am_W X nL (pc, lv, .int y :: .int x :: st, σ) := by
  obtain ⟨p, l, e, R, s, m, args, below, meth, c, Q, g, n0⟩ := X
  intro H locs ls hn hI hS hl
  exact lv_icmp_eq hF.1 hF.2.1 hd ht (fun _ => k H locs ls hn hI hS hl) (fun h => absurd h (by simpa using hc))
theorem am_icmp_eq_f {x y : Int32} {o : Int} (hd : decode cc pc = .ok (.if_icmp .eq o, 3)) {t : Nat} (ht : (pc : Int) + o = (t : Int)) (hc : ¬ x = y) (hF : am_F X own cc nL) (k : am_W X nL (pc + 3, lv, st, σ)) : am_W X nL (pc, lv, .int y :: .int x :: st, σ) := by
  obtain ⟨p, l, e, R, s, m, args, below, meth, c, Q, g, n0⟩ := X
  intro H locs ls hn hI hS hl
  exact lv_icmp_eq hF.1 hF.2.1 hd ht (fun h => absurd h (by simpa using hc)) (fun _ => k H locs ls hn hI hS hl)
theorem am_icmp_ne_t {x y : Int32} {o : Int} {t : Nat} (hd : decode cc pc = .ok (.if_icmp .ne o, 3)) (ht : (pc : Int) + o = (t : Int)) (hc : ¬ x = y) (hF : am_F X own cc nL) (k : am_W X nL (t, lv, st, σ)) : am_W X nL (pc, lv, .int y :: .int x :: st, σ) := by
  obtain ⟨p, l, e, R, s, m, args, below, meth, c, Q, g, n0⟩ := X
  intro H locs ls hn hI hS hl
  exact lv_icmp_ne hF.1 hF.2.1 hd ht (fun _ => k H locs ls hn hI hS hl) (fun h => absurd h (by simpa using hc))
theorem am_icmp_ne_f {x y : Int32} {o : Int} (hd : decode cc pc = .ok (.if_icmp .ne o, 3)) {t : Nat} (ht : (pc : Int) + o = (t : Int)) (hc : x = y) (hF : am_F X own cc nL) (k : am_W X nL (pc + 3, lv, st, σ)) : am_W X nL (pc, lv, .int y :: .int x :: st, σ) := by
  obtain ⟨p, l, e, R, s, m, args, below, meth, c, Q, g, n0⟩ := X
  intro H locs ls hn hI hS hl
  exact lv_icmp_ne hF.1 hF.2.1 hd ht (fun h => absurd h (by simpa using hc)) (fun _ => k H locs ls hn hI hS hl)
theorem am_icmp_lt_t {x y : Int32} {o : Int} {t : Nat} (hd : decode cc pc = .ok (.if_icmp .lt o, 3)) (ht : (pc : Int) + o = (t : Int)) (hc : x < y) (hF : am_F X own cc nL) (k : am_W X nL (t, lv, st, σ)) : am_W X nL (pc, lv, .int y :: .int x :: st, σ) := by
  obtain ⟨p, l, e, R, s, m, args, below, meth, c, Q, g, n0⟩ := X
  intro H locs ls hn hI hS hl
  exact lv_icmp_lt hF.1 hF.2.1 hd ht (fun _ => k H locs ls hn hI hS hl) (fun h => absurd h (by simpa using hc))
theorem am_icmp_lt_f {x y : Int32} {o : Int} (hd : decode cc pc = .ok (.if_icmp .lt o, 3)) {t : Nat} (ht : (pc : Int) + o = (t : Int)) (hc : ¬ x < y) (hF : am_F X own cc nL) (k : am_W X nL (pc + 3, lv, st, σ)) : am_W X nL (pc, lv, .int y :: .int x :: st, σ) := by
  obtain ⟨p, l, e, R, s, m, args, below, meth, c, Q, g, n0⟩ := X
  intro H locs ls hn hI hS hl
  exact lv_icmp_lt hF.1 hF.2.1 hd ht (fun h => absurd h (by simpa using hc)) (fun _ => k H locs ls hn hI hS hl)
theorem am_icmp_ge_t {x y : Int32} {o : Int} {t : Nat} (hd : decode cc pc = .ok (.if_icmp .ge o, 3)) (ht : (pc : Int) + o = (t : Int)) (hc : y ≤ x) (hF : am_F X own cc nL) (k : am_W X nL (t, lv, st, σ)) : am_W X nL (pc, lv, .int y :: .int x :: st, σ) := by
  obtain ⟨p, l, e, R, s, m, args, below, meth, c, Q, g, n0⟩ := X
  intro H locs ls hn hI hS hl
  exact lv_icmp_ge hF.1 hF.2.1 hd ht (fun _ => k H locs ls hn hI hS hl) (fun h => absurd h (by simpa using hc))
theorem am_icmp_ge_f {x y : Int32} {o : Int} (hd : decode cc pc = .ok (.if_icmp .ge o, 3)) {t : Nat} (ht : (pc : Int) + o = (t : Int)) (hc : ¬ y ≤ x) (hF : am_F X own cc nL) (k : am_W X nL (pc + 3, lv, st, σ)) : am_W X nL (pc, lv, .int y :: .int x :: st, σ) := by
  obtain ⟨p, l, e, R, s, m, args, below, meth, c, Q, g, n0⟩ := X
  intro H locs ls hn hI hS hl
  exact lv_icmp_ge hF.1 hF.2.1 hd ht (fun h => absurd h (by simpa using hc)) (fun _ => k H locs ls hn hI hS hl)
theorem am_icmp_gt_t {x y : Int32} {o : Int} {t : Nat} (hd : decode cc pc = .ok (.if_icmp .gt o, 3)) (ht : (pc : Int) + o = (t : Int)) (hc : y < x) (hF : am_F X own cc nL) (k : am_W X nL (t, lv, st, σ)) : am_W X nL (pc, lv, .int y :: .int x :: st, σ) := by
  obtain ⟨p, l, e, R, s, m, args, below, meth, c, Q, g, n0⟩ := X
  intro H locs ls hn hI hS hl
  exact lv_icmp_gt hF.1 hF.2.1 hd ht (fun _ => k H locs ls hn hI hS hl) (fun h => absurd h (by simpa using hc))
theorem am_icmp_gt_f {x y : Int32} {o : Int} (hd : decode cc pc = .ok (.if_icmp .gt o, 3)) {t : Nat} (ht : (pc : Int) + o = (t : Int)) (hc : ¬ y < x) (hF : am_F X own cc nL) (k : am_W X nL (pc + 3, lv, st, σ)) : am_W X nL (pc, lv, .int y :: .int x :: st, σ) := by
  obtain ⟨p, l, e, R, s, m, args, below, meth, c, Q, g, n0⟩ := X
  intro H locs ls hn hI hS hl
  exact lv_icmp_gt hF.1 hF.2.1 hd ht (fun h => absurd h (by simpa using hc)) (fun _ => k H locs ls hn hI hS hl)
theorem am_icmp_le_t {x y : Int32} {o : Int} {t : Nat} (hd : decode cc pc = .ok (.if_icmp .le o, 3)) (ht : (pc : Int) + o = (t : Int)) (hc : x ≤ y) (hF : am_F X own cc nL) (k : am_W X nL (t, lv, st, σ)) : am_W X nL (pc, lv, .int y :: .int x :: st, σ) := by
  obtain ⟨p, l, e, R, s, m, args, below, meth, c, Q, g, n0⟩ := X
  intro H locs ls hn hI hS hl
  exact lv_icmp_le hF.1 hF.2.1 hd ht (fun _ => k H locs ls hn hI hS hl) (fun h => absurd h (by simpa using hc))
theorem am_icmp_le_f {x y : Int32} {o : Int} (hd : decode cc pc = .ok (.if_icmp .le o, 3)) {t : Nat} (ht : (pc : Int) + o = (t : Int)) (hc : ¬ x ≤ y) (hF : am_F X own cc nL) (k : am_W X nL (pc + 3, lv, st, σ)) : am_W X nL (pc, lv, .int y :: .int x :: st, σ) := by
  obtain ⟨p, l, e, R, s, m, args, below, meth, c, Q, g, n0⟩ := X
  intro H locs ls hn hI hS hl
  exact lv_icmp_le hF.1 hF.2.1 hd ht (fun h => absurd h (by simpa using hc)) (fun _ => k H locs ls hn hI hS hl)
end
end
section
theorem am_bif {α : Type} {b : Bool} {x : Option α} {y : α} (h : (bif b then x else none) = some y) : b = true ∧ x = some y := by
  cases b with
  | false => cases h
  | true => exact ⟨rfl, h⟩
theorem am_blt {a b : Nat} (h : Nat.blt a b = true) : a < b := by simpa [Nat.blt_eq] using h
theorem am_gf {σ : am_S} {k a b : Nat} (h : (Nat.blt k σ.1 && Nat.blt k 1000 && Nat.beq (am_sh k).1 0 && Nat.beq (am_sh k).2 a && Nat.blt b (am_nf a)) = true) : k < σ.1 ∧ k < 1000 ∧ am_sh k = (0, a) ∧ b < am_nf a := by
  simp only [Bool.and_eq_true] at h
  obtain ⟨⟨⟨⟨h1, h2⟩, h3⟩, h4⟩, h5⟩ := h
  exact ⟨am_blt h1, am_blt h2, Prod.ext (Nat.eq_of_beq_eq_true h3) (Nat.eq_of_beq_eq_true h4), am_blt h5⟩
section
variable {X : am_X} {own : String} {cc : ByteArray} {nL pc : Nat} {lv : List (Nat × Value)} {st : List Value} {σ : am_S}
set_option maxHeartbeats 4000000 in
theorem am_op_ok {i : Instr} {no a b pos : Nat} {v : Value} {y : am_Y} (ho : am_on no = own) (hF : am_F X own cc nL) (hd : decode cc pc = .ok (i, am_ln i)) (hlk : am_lk no (pc, i, a, b, pos, v) = true) (h : am_op nL pc i a b v lv st σ = some y) (k : am_W X nL y) : am_W X nL (pc, lv, st, σ) := by
  subst ho
  cases i
  case iconst n =>
    simp only [am_op] at h
    cases h
    cases v <;> first | exact am_iconst hd (of_decide_eq_true hlk) hF k | exact Bool.noConfusion (show false = true from hlk)
  case bipush n =>
    simp only [am_op] at h
    cases h
    cases v <;> first | exact am_bipush hd (of_decide_eq_true hlk) hF k | exact Bool.noConfusion (show false = true from hlk)
  case sipush n =>
    simp only [am_op] at h
    cases h
    cases v <;> first | exact am_sipush hd (of_decide_eq_true hlk) hF k | exact Bool.noConfusion (show false = true from hlk)
  case lconst n =>
    simp only [am_op] at h
    cases h
    cases v <;> first | exact am_lconst hd (of_decide_eq_true hlk) hF k | exact Bool.noConfusion (show false = true from hlk)
  case ldc_w n =>
    simp only [am_op] at h
    cases h
    cases v <;> first | exact am_ldcw hd (am_cnk_i (of_decide_eq_true hlk)) hF k | exact Bool.noConfusion (show false = true from hlk)
  case ldc2_w n =>
    simp only [am_op] at h
    cases h
    cases v <;> first | exact am_ldc2 hd (am_cnk_l (of_decide_eq_true hlk)) hF k | exact Bool.noConfusion (show false = true from hlk)
  case ldc n =>
    simp only [am_op] at h
    cases h
    cases v
    case int x => exact am_ldc hd (am_cnk_i (of_decide_eq_true hlk)) hF k
    case ref x =>
      obtain ⟨ho, hx, hi⟩ := of_decide_eq_true hlk
      subst hx
      exact am_ldcS hd (by rw [ho]; rfl) hi hF k
    all_goals (exact Bool.noConfusion (show false = true from hlk))
  case iload_n n =>
    simp only [am_op] at h
    split at h
    · rename_i x hx
      cases h
      exact am_iload_n hd hx hF k
    · cases h
  case iload n =>
    simp only [am_op] at h
    split at h
    · rename_i x hx
      cases h
      exact am_iload hd hx hF k
    · cases h
  case lload_n n =>
    simp only [am_op] at h
    split at h
    · rename_i x hx
      cases h
      exact am_lload_n hd hx hF k
    · cases h
  case lload n =>
    simp only [am_op] at h
    split at h
    · rename_i x hx
      cases h
      exact am_lload hd hx hF k
    · cases h
  case aload_n n =>
    simp only [am_op] at h
    split at h
    · rename_i x hx
      cases h
      exact am_aload_n hd hx hF k
    · cases h
  case aload n =>
    simp only [am_op] at h
    split at h
    · rename_i x hx
      cases h
      exact am_aload hd hx hF k
    · cases h
  case istore_n n =>
    simp only [am_op] at h
    split at h
    · obtain ⟨h1, h2⟩ := am_bif h
      cases h2
      exact am_istore_n hd (am_blt h1) hF k
    · cases h
  case istore n =>
    simp only [am_op] at h
    split at h
    · obtain ⟨h1, h2⟩ := am_bif h
      cases h2
      exact am_istore hd (am_blt h1) hF k
    · cases h
  case lstore_n n =>
    simp only [am_op] at h
    split at h
    · obtain ⟨h1, h2⟩ := am_bif h
      cases h2
      exact am_lstore_n hd (am_blt h1) hF k
    · cases h
  case lstore n =>
    simp only [am_op] at h
    split at h
    · obtain ⟨h1, h2⟩ := am_bif h
      cases h2
      exact am_lstore hd (am_blt h1) hF k
    · cases h
  case astore_n n =>
    simp only [am_op] at h
    split at h
    · obtain ⟨h1, h2⟩ := am_bif h
      cases h2
      exact am_astore_n hd (am_blt h1) hF k
    · cases h
  case astore n =>
    simp only [am_op] at h
    split at h
    · obtain ⟨h1, h2⟩ := am_bif h
      cases h2
      exact am_astore hd (am_blt h1) hF k
    · cases h
  case iinc n z =>
    simp only [am_op] at h
    split at h
    · rename_i x d hx
      obtain ⟨h1, h2⟩ := am_bif h
      cases h2
      exact am_iinc hd hx (of_decide_eq_true hlk) (am_blt h1) hF k
    · cases h
  case iadd =>
    simp only [am_op] at h
    split at h
    · cases h
      exact am_iadd hd hF k
    · cases h
  case isub =>
    simp only [am_op] at h
    split at h
    · cases h
      exact am_isub hd hF k
    · cases h
  case imul =>
    simp only [am_op] at h
    split at h
    · cases h
      exact am_imul hd hF k
    · cases h
  case iand =>
    simp only [am_op] at h
    split at h
    · cases h
      exact am_iand hd hF k
    · cases h
  case ior =>
    simp only [am_op] at h
    split at h
    · cases h
      exact am_ior hd hF k
    · cases h
  case ixor =>
    simp only [am_op] at h
    split at h
    · cases h
      exact am_ixor hd hF k
    · cases h
  case ishl =>
    simp only [am_op] at h
    split at h
    · cases h
      exact am_ishl hd hF k
    · cases h
  case ishr =>
    simp only [am_op] at h
    split at h
    · cases h
      exact am_ishr hd hF k
    · cases h
  case iushr =>
    simp only [am_op] at h
    split at h
    · cases h
      exact am_iushr hd hF k
    · cases h
  case ladd =>
    simp only [am_op] at h
    split at h
    · cases h
      exact am_ladd hd hF k
    · cases h
  case lsub =>
    simp only [am_op] at h
    split at h
    · cases h
      exact am_lsub hd hF k
    · cases h
  case lmul =>
    simp only [am_op] at h
    split at h
    · cases h
      exact am_lmul hd hF k
    · cases h
  case land =>
    simp only [am_op] at h
    split at h
    · cases h
      exact am_land hd hF k
    · cases h
  case lor =>
    simp only [am_op] at h
    split at h
    · cases h
      exact am_lor hd hF k
    · cases h
  case lxor =>
    simp only [am_op] at h
    split at h
    · cases h
      exact am_lxor hd hF k
    · cases h
  case lshl =>
    simp only [am_op] at h
    split at h
    · cases h
      exact am_lshl hd hF k
    · cases h
  case lshr =>
    simp only [am_op] at h
    split at h
    · cases h
      exact am_lshr hd hF k
    · cases h
  case lushr =>
    simp only [am_op] at h
    split at h
    · cases h
      exact am_lushr hd hF k
    · cases h
  case lcmp =>
    simp only [am_op] at h
    split at h
    · cases h
      exact am_lcmp hd hF k
    · cases h
  case ineg =>
    simp only [am_op] at h
    split at h
    · cases h
      exact am_ineg hd hF k
    · cases h
  case i2l =>
    simp only [am_op] at h
    split at h
    · cases h
      exact am_i2l hd hF k
    · cases h
  case l2i =>
    simp only [am_op] at h
    split at h
    · cases h
      exact am_l2i hd hF k
    · cases h
  case dup =>
    simp only [am_op] at h
    split at h
    · cases h; exact am_dup hd rfl hF k
    · cases h; exact am_dup hd rfl hF k
    · cases h
  case dup2 =>
    simp only [am_op] at h
    split at h
    · cases h; exact am_dup2a hd rfl rfl hF k
    · cases h; exact am_dup2b hd rfl hF k
    · cases h
  case goto o =>
    simp only [am_op] at h
    cases h
    exact am_goto hd (of_decide_eq_true hlk) hF k
  case getfield n =>
    simp only [am_op] at h
    split at h
    · rename_i kq rq
      obtain ⟨h1, h2⟩ := am_bif h
      obtain ⟨g1, g2, g3, g4⟩ := am_gf h1
      obtain ⟨⟨C, T, N⟩, hc, hp⟩ := am_flk_ok (of_decide_eq_true hlk)
      split at h2
      · rename_i w hw
        cases h2
        exact am_get hd g1 g2 g3 hc g4 hp hw hF k
      · cases h2
    · cases h
  case putfield n =>
    simp only [am_op] at h
    have hl2 := (Bool.and_eq_true _ _).mp hlk
    obtain ⟨⟨C, T, N⟩, hc, hp⟩ := am_flk_ok (of_decide_eq_true hl2.1)
    have hfn := hl2.2
    simp only [hc] at hfn
    have hfin := of_decide_eq_true hfn
    split at h
    · obtain ⟨h1, h2⟩ := am_bif h
      obtain ⟨g1, g2, g3, g4⟩ := am_gf h1
      split at h2
      · rename_i hty; cases h2; exact am_putI hd g1 g2 g3 hc g4 hp hfin hty hF k
      · cases h2
    · obtain ⟨h1, h2⟩ := am_bif h
      obtain ⟨g1, g2, g3, g4⟩ := am_gf h1
      split at h2
      · rename_i hty; cases h2; exact am_putL hd g1 g2 g3 hc g4 hp hfin hty hF k
      · cases h2
    · cases h
  case arraylength =>
    simp only [am_op] at h
    split at h
    · obtain ⟨h1, h2⟩ := am_bif h
      cases h2
      simp only [Bool.and_eq_true] at h1
      exact am_alen hd (am_blt h1.1.1.1) (am_blt h1.1.1.2) rfl (am_blt h1.1.2) (am_blt h1.2) hF k
    · cases h
  all_goals (exact (nomatch (show none = some y from h)))
theorem am_seg {no : Nat} (is : List am_Q) {x y : am_Y} (hF : am_F X own cc nL) (hok : is.all (am_ok no cc) = true) (ho : am_on no = own) (h : am_exs nL is x = some y) (k : am_W X nL y) : am_W X nL x := by
  induction is generalizing x with
  | nil => cases h; exact k
  | cons q r ih =>
    obtain ⟨pc, i, a, b, pos, v⟩ := q
    obtain ⟨pc', lv, st, σ⟩ := x
    simp only [List.all_cons, Bool.and_eq_true] at hok
    obtain ⟨h1, h2⟩ := am_bif h
    have hpc : pc = pc' := Nat.eq_of_beq_eq_true h1
    subst hpc
    have hk1 := hok.1
    simp only [am_ok, Bool.and_eq_true] at hk1
    split at h2
    · rename_i z hz
      exact am_op_ok ho hF (of_decide_eq_true hk1.1) hk1.2 hz (ih hok.2 h2)
    · cases h2
end
end
section
/-! contracts, returns, entry, calls -/
def am_Pc (g : am_G) (σ : am_S) (av : List Value) : Array Value → State → Prop := va_Pc (av.map (am_rv g)) (fun U => am_I g σ U.heap ∧ am_E g U)
def am_Qc (g : am_G) (σ' : am_S) (r : Option Value) : Array Value → State → Outcome → State → Prop := fun _ st oc t => oc = .returned (r.map (am_rv g)) ∧ am_I g σ' t.heap ∧ st.heap.size ≤ t.heap.size ∧ ∀ q : Nat, q < st.heap.size → ¬ am_A g q → t.heap[q]? = st.heap[q]?
/-- the contract of a method: from the world σ with the arguments av it comes to σ' with the answer r -/
def am_C (y : MethodName) (cc : ByteArray) (maxL : Nat) (ret : Option FieldType) (fr lc : Nat) (av : List Value) (σ : am_S) (r : Option Value) (σ' : am_S) : Prop := ∀ (l : Launch) (g : am_G), Met l y (.code y cc maxL ret :: am_tb) { frames := fr, cells := σ'.1 - σ.1, slots := am_su σ'.1 - am_su σ.1, locals := lc } (am_Pc g σ av) (am_Qc g σ' r) (σ'.1 - σ.1) (am_su σ'.1 - am_su σ.1) (am_A g)
/-- the activation of a method that must answer r with the world σ' -/
def am_B (X : am_X) (ret : Option FieldType) (r : Option Value) (σ' : am_S) : Prop := match X with
  | (_, _, _, _, s, _, args, below, meth, _, Q, g, n0) => Q = MQ below (am_Qc g σ' r) args s (σ'.1 - n0) (am_su σ'.1 - am_su n0) (am_A g) ∧ meth.sig.returnType = ret
/-- its room -/
def am_RN (X : am_X) (fr lc N : Nat) : Prop := match X with
  | (_, _, _, R, _, _, _, _, _, _, _, _, n0) => fr ≤ R.frames ∧ lc ≤ R.locals ∧ N - n0 ≤ R.cells ∧ am_su N - am_su n0 ≤ R.slots
abbrev am_R (X : am_X) (fr lc : Nat) : Prop := am_RN X fr lc am_NN
def am_nm (X : am_X) (nm : String) : Prop := match X with
  | (_, _, _, _, _, _, _, _, meth, _, _, _, _) => meth.name = nm
theorem am_E.same {g : am_G} {u U : State} (hv : u.vm = U.vm) (hh : U.heap = u.heap) (h : am_E g u) : am_E g U := by
  have hA : u.vm.Alike U.vm := by rw [hv]; exact Vm.Alike.refl _
  refine ⟨va_K.moved hA h.1, fun w hw hi => ?_, fun i hi => vk_R.same hv.symm (h.2.2.1 i hi), by rw [hh]; exact am_O.moved hA h.2.2.2⟩
  have h1 := h.2.1 w hw hi
  cases w
  case methodLinkNest => exact va_Nw.same rfl hv h1
  case fieldLinkNest => exact va_Nw.same rfl hv h1
  all_goals (exact (nomatch (show false = true from hi)))
theorem am_blind {g : am_G} {σ : am_S} {av : List Value} : FrameBlind (am_Pc g σ av) := fun a U gg mk h => ⟨h.1, h.2.1, am_E.same (u := U) (U := U.calling gg mk a) rfl rfl h.2.2⟩
theorem am_args {g : am_G} (av : List Value) : ∀ i, lv_args i (av.map (am_rv g)) = am_ml g (lv_args i av) := by
  induction av with
  | nil => intro i; rfl
  | cons v t ih =>
    intro i
    show (i, am_rv g v) :: lv_args (if (am_rv g v).category = 2 then i + 2 else i + 1) (t.map (am_rv g)) = (i, am_rv g v) :: am_ml g (lv_args (if v.category = 2 then i + 2 else i + 1) t)
    rw [am_rv_cat, ih]
theorem am_slen {g : am_G} (av : List Value) : (lg_sl (av.map (am_rv g))).length = (lg_sl av).length := by
  induction av with
  | nil => rfl
  | cons v t ih =>
    have h1 : ∀ (w : Value) (r : List Value), (lg_sl (w :: r)).length = (if w.category = 2 then 2 else 1) + (lg_sl r).length := by
      intro w r
      simp only [lg_sl, List.flatMap_cons, List.length_append]
      congr 1
      split <;> rfl
    rw [List.map_cons, h1, h1, am_rv_cat, ih]
theorem am_enterN {N : Nat} {y : MethodName} {cc : ByteArray} {maxL : Nat} {ret : Option FieldType} {fr lc : Nat} {av : List Value} {σ σ' : am_S} {r : Option Value} (hy : plainName y.cls = true) (hlen : (lg_sl av).length ≤ maxL) (hR : N - σ.1 ≤ σ'.1 - σ.1 ∧ am_su N - am_su σ.1 ≤ am_su σ'.1 - am_su σ.1)
    (body : ∀ X, am_F X y.cls cc maxL → am_RN X fr lc N → am_nm X y.name → am_B X ret r σ' → am_W X maxL (0, lv_args 0 av, [], σ)) : am_C y cc maxL ret fr lc av σ r σ' := by
  intro l g
  refine Met.ofW (cc := cc) (maxL := maxL) (ret := ret) hy rfl ?_
  intro p e s m args below meth c s₁ B hml hv
  obtain ⟨rfl, hI, hE⟩ := hv
  have hts := atoms_spec B.pre
  have hown : s.vm.findClass y.cls = some m.cls := findClass_of_methodNamed B.named
  have hw := body (p, l, e, (headSpec (.code y cc maxL ret :: am_tb) { frames := fr, cells := σ'.1 - σ.1, slots := am_su σ'.1 - am_su σ.1, locals := lc }).room, s, m, (av.map (am_rv g)).toArray, below, meth, c, MQ below (am_Qc g σ' r) (av.map (am_rv g)).toArray s (σ'.1 - σ.1) (am_su σ'.1 - am_su σ.1) (am_A g), g, σ.1)
    ⟨B.exec, B.bytes, hml, hown, fun w hw => hts w (List.mem_cons_of_mem _ hw), hE, B.notSynchronized, Nat.le_trans (Nat.le_add_right _ _) hI.1.2⟩ ⟨Nat.le_refl _, Nat.le_refl _, hR.1, hR.2⟩ (name_of_methodNamed B.named B.method).1 ⟨rfl, B.returns⟩
  have hl := lv_entry (av.map (am_rv g)) (n := maxL) (by rw [am_slen]; exact hlen)
  rw [am_args] at hl
  have := hw s.heap [] _ (Nat.le_refl _) hI va_S.rf hl
  rw [lg_entry_eq]
  simp only [Nat.sub_self] at this
  exact this
theorem am_enter {y : MethodName} {cc : ByteArray} {maxL : Nat} {ret : Option FieldType} {fr lc : Nat} {av : List Value} {σ σ' : am_S} {r : Option Value} (hy : plainName y.cls = true) (hlen : (lg_sl av).length ≤ maxL) (hR : am_NN - σ.1 ≤ σ'.1 - σ.1 ∧ am_su am_NN - am_su σ.1 ≤ am_su σ'.1 - am_su σ.1)
    (body : ∀ X, am_F X y.cls cc maxL → am_R X fr lc → am_B X ret r σ' → am_W X maxL (0, lv_args 0 av, [], σ)) : am_C y cc maxL ret fr lc av σ r σ' :=
  am_enterN hy hlen hR (fun X hF hR _ hB => body X hF hR hB)
section
variable {X : am_X} {own : String} {cc : ByteArray} {nL pc : Nat} {lv : List (Nat × Value)} {st : List Value} {σ : am_S}
theorem am_ret_Q {g : am_G} {s t : State} {H : Heap} {locs : List Loc} {args : Array Value} {r : Option Value} (hI : am_I g σ H) (hS : va_S (am_A g) s.heap H locs) (ht : t.heap = H) : am_Qc g σ r args s (.returned (r.map (am_rv g))) t :=
  ⟨rfl, by rw [ht]; exact hI, by rw [ht]; exact hS.1, fun q h1 h2 => by rw [ht]; exact hS.2.1 q h1 h2⟩
theorem am_iret {x : Int32} (hd : decode cc pc = .ok (.ireturn, 1)) (hF : am_F X own cc nL) (hB : am_B X (some .int) (some (.int x)) σ) : am_W X nL (pc, lv, [.int x], σ) := by
  obtain ⟨p, l, e, R, s, m, args, below, meth, c, Q, g, n0⟩ := X
  intro H locs ls hn hI hS hl
  obtain ⟨rfl, hr⟩ := hB
  exact W.iret hF.1 hF.2.1 hr (fun t ht _ => am_ret_Q hI hS ht) hS.2.2 hd hF.2.2.2.2.2.2.1
theorem am_zret {x : Int32} {ty : FieldType} (hd : decode cc pc = .ok (.ireturn, 1)) (hn0 : narrow ty (.int x) = .int x) (hF : am_F X own cc nL) (hB : am_B X (some ty) (some (.int x)) σ) : am_W X nL (pc, lv, [.int x], σ) := by
  obtain ⟨p, l, e, R, s, m, args, below, meth, c, Q, g, n0⟩ := X
  intro H locs ls hn hI hS hl
  obtain ⟨rfl, hr⟩ := hB
  exact W.zret hF.1 hF.2.1 hr hn0 (fun t ht _ => am_ret_Q hI hS ht) hS.2.2 hd hF.2.2.2.2.2.2.1
theorem am_lret {x : Int64} (hd : decode cc pc = .ok (.lreturn, 1)) (hF : am_F X own cc nL) (hB : am_B X (some .long) (some (.long x)) σ) : am_W X nL (pc, lv, [.long x], σ) := by
  obtain ⟨p, l, e, R, s, m, args, below, meth, c, Q, g, n0⟩ := X
  intro H locs ls hn hI hS hl
  obtain ⟨rfl, hr⟩ := hB
  exact W.lret hF.1 hF.2.1 hr (fun t ht _ => am_ret_Q hI hS ht) hS.2.2 hd hF.2.2.2.2.2.2.1
theorem am_vret (hd : decode cc pc = .ok (.return_, 1)) (hF : am_F X own cc nL) (hB : am_B X none none σ) : am_W X nL (pc, lv, [], σ) := by
  obtain ⟨p, l, e, R, s, m, args, below, meth, c, Q, g, n0⟩ := X
  intro H locs ls hn hI hS hl
  obtain ⟨rfl, hr⟩ := hB
  exact W.vret hF.1 hF.2.1 hr (fun t ht _ => am_ret_Q hI hS ht) hS.2.2 hd hF.2.2.2.2.2.2.1
end
section
variable {p : Program} {l : Launch} {e : Env} {R : Room} {s : State} {m : MethodId} {args : Array Value} {below : List Frame} {meth : Method} {c : Code} {H : Heap} {locs : List Loc} {cells slots mc ms : Nat} {Q : State → Prop} {pc : Nat} {ls : Array Slot} {st0 rest : List Value} {a : Array Value}
theorem am_run {g : am_G} {σ σ' : am_S} {r : Option Value} (hr : va_Run p l e R s m args below meth c H locs cells slots mc ms (F0 m pc ls st0) rest (am_Qc g σ' r a) (am_A g)) (hS : va_S (am_A g) s.heap H locs) (hI : am_I g σ H) (hle : σ.1 ≤ σ'.1)
    (kk : ∀ (H1 : Heap) (locs1 : List Loc), am_I g σ' H1 → va_S (am_A g) s.heap H1 locs1 → W p l e R s m args below meth c H1 locs1 (cells + mc) (slots + ms) Q (F0 m (pc + 3) ls ((r.map (am_rv g)).toList ++ rest))) : W p l e R s m args below meth c H locs cells slots Q (F0 m pc ls st0) := by
  intro T hT X
  obtain ⟨v, st₀, t, T', L, h0, X', hL, e1, e2, ⟨hv, hI1, hz, hk⟩, st⟩ := hr T hT X
  have hv : v = r.map (am_rv g) := by cases hv; rfl
  subst hv
  rw [h0] at hk hz
  have hz : H.size ≤ T'.heap.size := by rw [e1]; exact hz
  obtain ⟨t2, a1, b1⟩ := kk T'.heap (locs ++ L) (by rw [e1]; exact hI1)
    ⟨Nat.le_trans hS.1 hz, fun q h1 h2 => by rw [e1, hk q (Nat.lt_of_lt_of_le h1 hS.1) h2]; exact hS.2.1 q h1 h2, fun q hq => by
      rcases List.mem_append.mp hq with h | h
      · exact hS.2.2 q h
      · exact hL q h⟩ T' rfl X'
  exact ⟨t2, st t2 a1, b1⟩
end
theorem am_su_mono {a b : Nat} (h : a ≤ b) : am_su a ≤ am_su b := by
  obtain ⟨d, rfl⟩ := Nat.exists_eq_add_of_le h
  unfold am_su
  rw [List.take_add, List.sum_append_nat]
  exact Nat.le_add_right _ _
theorem am_good {y : MethodName} {cc : ByteArray} {maxL : Nat} {ret : Option FieldType} (h : Cond.code y cc maxL ret ∈ am_tb) : GoodIn am_tb (.code y cc maxL ret :: am_tb) := by
  intro w hw
  have hm : w ∈ am_tb := by
    rcases List.mem_cons.mp hw with h1 | h1
    · rw [h1]; exact h
    · exact h1
  exact ⟨hm, good_of_word (List.mem_filter.mp hm).2⟩
/-- the words of a call that need no world -/
def am_yok (y : MethodName) (n : Nat) : Bool := decide (y.cls ≠ "java/lang/invoke/MethodHandle") && decide (y.cls ≠ "java/lang/invoke/VarHandle") && decide ((parseMethodDescriptor y.desc).map (fun d => d.parameters.length) = some n)
theorem am_yok_of {y : MethodName} {n : Nat} (h : am_yok y n = true) : y.cls ≠ "java/lang/invoke/MethodHandle" ∧ y.cls ≠ "java/lang/invoke/VarHandle" ∧ (parseMethodDescriptor y.desc).map (fun d => d.parameters.length) = some n := by
  simp only [am_yok, Bool.and_eq_true, decide_eq_true_eq] at h
  exact ⟨h.1.1, h.1.2, h.2⟩
section
variable {X : am_X} {own : String} {cc : ByteArray} {nL pc fr lc : Nat} {lv : List (Nat × Value)} {st : List Value} {σ σ' : am_S}
variable {idx n maxL fr' lc' NN : Nat} {y : MethodName} {bytes : ByteArray} {ret : Option FieldType} {As : List Value} {r : Option Value}
theorem am_stk {g : am_G} {r : Option Value} {st : List Value} : (r.map (am_rv g)).toList ++ st.map (am_rv g) = (r.toList ++ st).map (am_rv g) := by cases r <;> rfl
theorem am_cat {g : am_G} {st : List Value} : ((st.map (am_rv g)).map fun v => v.category) = st.map fun v => v.category := by
  rw [List.map_map]
  exact List.map_congr_left fun v _ => am_rv_cat g v
theorem am_callS (hF : am_F X own cc nL) (hR : am_RN X fr lc NN) (hd : decode cc pc = .ok (.invokestatic idx, 3)) (hC : am_C y bytes maxL ret fr' lc' As σ r σ') (hle : σ.1 ≤ σ'.1) (hNN : σ'.1 ≤ NN) (hl : Cond.methodLink own idx y ∈ am_tb) (hst : Cond.static y ∈ am_tb) (hini : Cond.initialized y.cls ∈ am_tb) (hcode : Cond.code y bytes maxL ret ∈ am_tb) (hy : am_yok y n = true) (hn : As.length = n) (hr : fr' + 1 ≤ fr ∧ 8 + (maxL + 11) + lc' ≤ lc) (hW : (st.map fun v => v.category).sum ≤ 8)
    (k : am_W X nL (pc + 3, lv, r.toList ++ st, σ')) : am_W X nL (pc, lv, As.reverse ++ st, σ) := by
  obtain ⟨p, l, e, R, s, m, args, below, meth, c, Q, g, n0⟩ := X
  intro H locs ls hn0 hI hS hl0
  have hts := hF.2.2.2.2.1
  obtain ⟨hR1, hR2, hR3, hR4⟩ := hR
  have hn0 : n0 ≤ σ.1 := hn0
  have m1 := am_su_mono hn0
  have m2 := am_su_mono hle
  have m3 := am_su_mono hNN
  have cw : CallB R s args own idx y bytes maxL ret (.code y bytes maxL ret :: am_tb) { frames := fr', cells := σ'.1 - σ.1, slots := am_su σ'.1 - am_su σ.1, locals := lc' } (σ'.1 - σ.1) (am_su σ'.1 - am_su σ.1) n ∧ (Cond.static y).before args s = true :=
    ⟨callB_of n hts (am_good hcode) rfl rfl rfl (hts _ hini) (hts _ hl) (am_yok_of hy) ⟨Nat.le_trans hr.1 hR1, Nat.le_trans hr.2 hR2⟩, hts _ hst⟩
  have hrun := va_runS (g := F0 m pc ls ((As.reverse ++ st).map (am_rv g))) (rest := st.map (am_rv g)) (As := As.map (am_rv g)) (locs := locs) (cells := σ.1 - n0) (slots := am_su σ.1 - am_su n0) (below := below) (e := e) (meth := meth) ⟨hF.1, hF.2.1, hF.2.2.1, hF.2.2.2.1, hts⟩ (hC l g) cw ⟨am_blind, fun U hU hW => ⟨rfl, by rw [hU]; exact hI, hF.2.2.2.2.2.1.step hW (fun q h1 h2 => by rw [hU]; exact hS.2.1 q h1 h2)⟩⟩ rfl (by rw [List.length_map]; exact hn) hl0.1 (by rw [List.map_append, List.map_reverse]) (lv_room (by rw [am_cat]; exact hW)) hd ⟨by omega, by omega⟩
  refine am_run hrun hS hI hle fun H1 locs1 hI1 hS1 => ?_
  have hk := k H1 locs1 ls (Nat.le_trans hn0 hle) hI1 hS1 hl0
  rw [am_stk]
  have e1 : σ.1 - n0 + (σ'.1 - σ.1) = σ'.1 - n0 := by omega
  have e2 : am_su σ.1 - am_su n0 + (am_su σ'.1 - am_su σ.1) = am_su σ'.1 - am_su n0 := by omega
  rw [e1, e2]
  exact hk
theorem am_callSN {host : String} (hF : am_F X own cc nL) (hR : am_RN X fr lc NN) (hd : decode cc pc = .ok (.invokestatic idx, 3)) (hC : am_C y bytes maxL ret fr' lc' As σ r σ') (hle : σ.1 ≤ σ'.1) (hNN : σ'.1 ≤ NN) (hl : Cond.methodLinkNest own idx y host ∈ tables_1) (hst : Cond.static y ∈ am_tb) (hini : Cond.initialized y.cls ∈ am_tb) (hcode : Cond.code y bytes maxL ret ∈ am_tb) (hy : am_yok y n = true) (hn : As.length = n) (hr : fr' + 1 ≤ fr ∧ 8 + (maxL + 11) + lc' ≤ lc) (hW : (st.map fun v => v.category).sum ≤ 8)
    (k : am_W X nL (pc + 3, lv, r.toList ++ st, σ')) : am_W X nL (pc, lv, As.reverse ++ st, σ) := by
  obtain ⟨p, l, e, R, s, m, args, below, meth, c, Q, g, n0⟩ := X
  intro H locs ls hn0 hI hS hl0
  have hts := hF.2.2.2.2.1
  obtain ⟨hR1, hR2, hR3, hR4⟩ := hR
  have hn0 : n0 ≤ σ.1 := hn0
  have m1 := am_su_mono hn0
  have m2 := am_su_mono hle
  have m3 := am_su_mono hNN
  have cw : va_CN R s args own idx y host bytes maxL ret (.code y bytes maxL ret :: am_tb) { frames := fr', cells := σ'.1 - σ.1, slots := am_su σ'.1 - am_su σ.1, locals := lc' } (σ'.1 - σ.1) (am_su σ'.1 - am_su σ.1) n :=
    va_cnB n hts (am_good hcode) rfl rfl rfl (hF.2.2.2.2.2.1.2.1 _ hl rfl) (hts _ hini) (am_yok_of hy) ⟨Nat.le_trans hr.1 hR1, Nat.le_trans hr.2 hR2⟩
  have hrun := va_runSN (g := F0 m pc ls ((As.reverse ++ st).map (am_rv g))) (rest := st.map (am_rv g)) (As := As.map (am_rv g)) (locs := locs) (cells := σ.1 - n0) (slots := am_su σ.1 - am_su n0) (below := below) (e := e) (meth := meth) ⟨hF.1, hF.2.1, hF.2.2.1, hF.2.2.2.1, hts⟩ (hC l g) ⟨cw, hts _ hst, trivial⟩ ⟨am_blind, fun U hU hW => ⟨rfl, by rw [hU]; exact hI, hF.2.2.2.2.2.1.step hW (fun q h1 h2 => by rw [hU]; exact hS.2.1 q h1 h2)⟩⟩ rfl (by rw [List.length_map]; exact hn) hl0.1 (by rw [List.map_append, List.map_reverse]) (lv_room (by rw [am_cat]; exact hW)) hd ⟨by omega, by omega⟩
  refine am_run hrun hS hI hle fun H1 locs1 hI1 hS1 => ?_
  have hk := k H1 locs1 ls (Nat.le_trans hn0 hle) hI1 hS1 hl0
  rw [am_stk]
  have e1 : σ.1 - n0 + (σ'.1 - σ.1) = σ'.1 - n0 := by omega
  have e2 : am_su σ.1 - am_su n0 + (am_su σ'.1 - am_su σ.1) = am_su σ'.1 - am_su n0 := by omega
  rw [e1, e2]
  exact hk
theorem am_callV {b ci N : Nat} {T : u_T} (hF : am_F X own cc nL) (hR : am_RN X fr lc NN) (hd : decode cc pc = .ok (.invokevirtual idx, 3)) (hC : am_C y bytes maxL ret fr' lc' (.ref b :: As) σ r σ') (hle : σ.1 ≤ σ'.1) (hNN : σ'.1 ≤ NN) (hl : Cond.methodLink own idx y ∈ am_tb) (hst : Cond.instanceMethod y ∈ am_tb) (hsel : Cond.selects y.cls y y ∈ am_tb) (hini : Cond.initialized y.cls ∈ am_tb) (hcode : Cond.code y bytes maxL ret ∈ am_tb) (hb : b < σ.1) (hb2 : b < 1000) (hsh : am_sh b = (0, ci)) (hc : am_cl[ci]? = some (y.cls, T, N)) (hy : am_yok y n = true) (hn : As.length = n) (hr : fr' + 1 ≤ fr ∧ 8 + (maxL + 11) + lc' ≤ lc) (hW : (st.map fun v => v.category).sum ≤ 8)
    (k : am_W X nL (pc + 3, lv, r.toList ++ st, σ')) : am_W X nL (pc, lv, As.reverse ++ .ref b :: st, σ) := by
  obtain ⟨p, l, e, R, s, m, args, below, meth, c, Q, g, n0⟩ := X
  intro H locs ls hn0 hI hS hl0
  have hts := hF.2.2.2.2.1
  obtain ⟨hR1, hR2, hR3, hR4⟩ := hR
  have hn0 : n0 ≤ σ.1 := hn0
  have m1 := am_su_mono hn0
  have m2 := am_su_mono hle
  have m3 := am_su_mono hNN
  have cw : CallW R s args own y.cls idx y bytes maxL ret (.code y bytes maxL ret :: am_tb) { frames := fr', cells := σ'.1 - σ.1, slots := am_su σ'.1 - am_su σ.1, locals := lc' } (σ'.1 - σ.1) (am_su σ'.1 - am_su σ.1) n :=
    ⟨callB_of n hts (am_good hcode) rfl rfl rfl (hts _ hini) (hts _ hl) (am_yok_of hy) ⟨Nat.le_trans hr.1 hR1, Nat.le_trans hr.2 hR2⟩, hts _ hst, hts _ hsel⟩
  have hrun := va_runV (C := y.cls) (b := am_ad g b) (g := F0 m pc ls ((As.reverse ++ .ref b :: st).map (am_rv g))) (rest := st.map (am_rv g)) (As := As.map (am_rv g)) (locs := locs) (cells := σ.1 - n0) (slots := am_su σ.1 - am_su n0) (below := below) (e := e) (meth := meth) ⟨hF.1, hF.2.1, hF.2.2.1, hF.2.2.2.1, hts⟩ (hC l g) cw ⟨am_blind, by rw [am_ad_lt hb2]; exact va_recv hF.2.2.2.2.2.1.1 hI.2.2 hc ((am_ws_at hb).trans (congrArg (fun e => some (g.1 + b, e)) (am_el_obj hsh))), fun U hU hW => ⟨rfl, by rw [hU]; exact hI, hF.2.2.2.2.2.1.step hW (fun q h1 h2 => by rw [hU]; exact hS.2.1 q h1 h2)⟩⟩ rfl (by rw [List.length_map]; exact hn) hl0.1 (by rw [List.map_append, List.map_reverse, List.map_cons]; rfl) (lv_room (by rw [am_cat]; exact hW)) hd ⟨by omega, by omega⟩
  refine am_run hrun hS hI hle fun H1 locs1 hI1 hS1 => ?_
  have hk := k H1 locs1 ls (Nat.le_trans hn0 hle) hI1 hS1 hl0
  rw [am_stk]
  have e1 : σ.1 - n0 + (σ'.1 - σ.1) = σ'.1 - n0 := by omega
  have e2 : am_su σ.1 - am_su n0 + (am_su σ'.1 - am_su σ.1) = am_su σ'.1 - am_su n0 := by omega
  rw [e1, e2]
  exact hk
end
end
section
/-! fewer locals, switches, rows of references, Math, copies, static rows -/
section
variable {X : am_X} {own : String} {cc : ByteArray} {nL pc fr lc : Nat} {lv lv' : List (Nat × Value)} {st : List Value} {σ : am_S}
theorem am_pick (ks : List Nat) (h : ks.filterMap (fun k => lv[k]?) = lv') (k : am_W X nL (pc, lv', st, σ)) : am_W X nL (pc, lv, st, σ) := by
  obtain ⟨p, l, e, R, s, m, args, below, meth, c, Q, g, n0⟩ := X
  intro H locs ls hn hI hS hl
  refine k H locs ls hn hI hS (lv_sub hl ks ?_)
  subst h
  show ks.filterMap (fun k => (am_ml g lv)[k]?) = am_ml g (ks.filterMap (fun k => lv[k]?))
  unfold am_ml
  rw [List.map_filterMap]
  congr 1
  funext k
  simp
theorem am_tswOut {d lo hi : Int} {offs : Array Int} {len : Nat} {x : Int32} {t : Nat} (hd : decode cc pc = .ok (.tableswitch d lo hi offs, len)) (h : x.toInt < lo ∨ hi < x.toInt) (ht : (pc : Int) + d = (t : Int)) (hF : am_F X own cc nL) (k : am_W X nL (t, lv, st, σ)) : am_W X nL (pc, lv, .int x :: st, σ) := by
  obtain ⟨p, l, e, R, s, m, args, below, meth, c, Q, g, n0⟩ := X
  intro H locs ls hn hI hS hl
  exact lv_tableOut hF.1 hF.2.1 hd h ht (k H locs ls hn hI hS hl)
theorem am_tswIn {d lo hi o : Int} {offs : Array Int} {len : Nat} {x y : Int32} {t : Nat} (hd : decode cc pc = .ok (.tableswitch d lo hi offs, len)) (hx : x = y) (h1 : ¬ y.toInt < lo) (h2 : ¬ hi < y.toInt) (ho : offs[(y.toInt - lo).toNat]? = some o) (ht : (pc : Int) + o = (t : Int)) (hF : am_F X own cc nL) (k : am_W X nL (t, lv, st, σ)) : am_W X nL (pc, lv, .int x :: st, σ) := by
  obtain ⟨p, l, e, R, s, m, args, below, meth, c, Q, g, n0⟩ := X
  intro H locs ls hn hI hS hl
  subst hx
  exact lv_tableIn hF.1 hF.2.1 hd h1 h2 ho ht (k H locs ls hn hI hS hl)
theorem am_lsw {d o : Int} {ps : Array (Int × Int)} {len : Nat} {x : Int32} {t : Nat} (hd : decode cc pc = .ok (.lookupswitch d ps, len)) (hp : (ps.toList.zip (ps.toList.drop 1)).all (fun (a, next) => a.1 < next.1) = true) (ho : Op.lookupswitch.offset ps.toList d x.toInt = o) (ht : (pc : Int) + o = (t : Int)) (hF : am_F X own cc nL) (k : am_W X nL (t, lv, st, σ)) : am_W X nL (pc, lv, .int x :: st, σ) := by
  obtain ⟨p, l, e, R, s, m, args, below, meth, c, Q, g, n0⟩ := X
  intro H locs ls hn hI hS hl
  exact lv_lookup hF.1 hF.2.1 hd hp ho ht (k H locs ls hn hI hS hl)
theorem am_aald {k n j q : Nat} {i : Int32} (hd : decode cc pc = .ok (.aaload, 1)) (hk : k < σ.1) (hk2 : k < 1000) (hsh : am_sh k = (4, n)) (hin : am_in i n = true) (hj : i.toNatClampNeg = j) (hq : σ.2.2 k j = some q) (hF : am_F X own cc nL) (kk : am_W X nL (pc + 1, lv, .ref q :: st, σ)) : am_W X nL (pc, lv, .int i :: .ref k :: st, σ) := by
  obtain ⟨p, l, e, R, s, m, args, below, meth, c, Q, g, n0⟩ := X
  intro H locs ls hn hI hS hl
  subst hj
  show W p l e R s m args below meth c H locs _ _ Q (F0 m pc ls (.int i :: .ref (am_ad g k) :: st.map (am_rv g)))
  rw [am_ad_lt hk2]
  refine va_aldq hF.1 hF.2.1 hF.2.2.2.2.2.1.1 hI.2.2 k 3 ((am_ws_at hk).trans (congrArg (fun e => some (g.1 + k, e)) (am_el_q hsh))) rfl (am_in_vp hin) hd ?_
  rw [hq]
  exact kk H locs ls hn hI hS hl
theorem am_rald {k n j q : Nat} {i : Int32} (hd : decode cc pc = .ok (.aaload, 1)) (hk : k < σ.1) (hk2 : k < 1000) (hsh : am_sh k = (5, n)) (hin : am_in i n = true) (hj : i.toNatClampNeg = j) (hq : σ.2.2 k j = some q) (hF : am_F X own cc nL) (kk : am_W X nL (pc + 1, lv, .ref q :: st, σ)) : am_W X nL (pc, lv, .int i :: .ref k :: st, σ) := by
  obtain ⟨p, l, e, R, s, m, args, below, meth, c, Q, g, n0⟩ := X
  intro H locs ls hn hI hS hl
  subst hj
  show W p l e R s m args below meth c H locs _ _ Q (F0 m pc ls (.int i :: .ref (am_ad g k) :: st.map (am_rv g)))
  rw [am_ad_lt hk2]
  have hv := am_in_vp hin
  have hlt : i.toNatClampNeg < n := Nat.not_le.mp fun q => hv (Or.inr q)
  have he : (am_ws g σ)[k]? = _ := (am_ws_at hk).trans (congrArg (fun e => some (g.1 + k, e)) (am_el_r hsh))
  refine W.aald (v := .ref (am_ad g q)) (ty := .array .int) hF.1 hF.2.1 (hI.2.2 k _ he) ((hF.2.2.2.2.2.1.1.2 4 _ rfl).1 n (fun j => va_rf ((σ.2.2 k j).map (am_ad g)))) rfl (fun q => by cases q) (by show ¬ (i < 0 ∨ (arrV _ _ _).slots.size ≤ _); rw [arrV_size]; exact hv) ?_ rfl rfl hd (kk H locs ls hn hI hS hl)
  show (arrV _ _ _).slots[_]? = _
  rw [arrV_read _ _ hlt]
  show some (va_rf ((σ.2.2 k i.toNatClampNeg).map (am_ad g))) = _
  rw [hq]
  rfl
theorem am_mmax {idx : Nat} {x y : Int32} (hd : decode cc pc = .ok (.invokestatic idx, 3)) (h1 : Cond.methodLink own idx Lib.Math.max.name ∈ am_tb) (h2 : Cond.static Lib.Math.max.name ∈ am_tb) (h3 : Cond.initialized "java/lang/Math" ∈ am_tb) (h4 : Cond.code Lib.Math.max.name Lib.Math.max.code 2 (some .int) ∈ am_tb) (hr : 1 ≤ fr ∧ (st.map fun v => v.category).sum + 13 ≤ lc) (hNN : σ.1 ≤ am_NN) (hF : am_F X own cc nL) (hR : am_R X fr lc) (k : am_W X nL (pc + 3, lv, .int (if x < y then y else x) :: st, σ)) : am_W X nL (pc, lv, .int y :: .int x :: st, σ) := by
  obtain ⟨p, l, e, R, s, m, args, below, meth, c, Q, g, n0⟩ := X
  intro H locs ls hn hI hS hl
  have hts := hF.2.2.2.2.1
  obtain ⟨hR1, hR2, hR3, hR4⟩ := hR
  have hn : n0 ≤ σ.1 := hn
  have m3 := am_su_mono hNN
  exact va_mmax hF.1 hF.2.1 (hF.2.2.1.trans hl.1.symm) hF.2.2.2.1 (hts _ h1) (hts _ h2) (hts _ h3) (hts _ h4) (Nat.le_trans hr.1 hR1) (by rw [am_cat]; exact Nat.le_trans hr.2 hR2) (by show σ.1 - n0 ≤ _; omega) (by show am_su σ.1 - am_su n0 ≤ _; omega) hd (k H locs ls hn hI hS hl)
theorem am_mmin {idx : Nat} {x y : Int32} (hd : decode cc pc = .ok (.invokestatic idx, 3)) (h1 : Cond.methodLink own idx Lib.Math.min.name ∈ am_tb) (h2 : Cond.static Lib.Math.min.name ∈ am_tb) (h3 : Cond.initialized "java/lang/Math" ∈ am_tb) (h4 : Cond.code Lib.Math.min.name Lib.Math.min.code 2 (some .int) ∈ am_tb) (hr : 1 ≤ fr ∧ (st.map fun v => v.category).sum + 13 ≤ lc) (hNN : σ.1 ≤ am_NN) (hF : am_F X own cc nL) (hR : am_R X fr lc) (k : am_W X nL (pc + 3, lv, .int (if y < x then y else x) :: st, σ)) : am_W X nL (pc, lv, .int y :: .int x :: st, σ) := by
  obtain ⟨p, l, e, R, s, m, args, below, meth, c, Q, g, n0⟩ := X
  intro H locs ls hn hI hS hl
  have hts := hF.2.2.2.2.1
  obtain ⟨hR1, hR2, hR3, hR4⟩ := hR
  have hn : n0 ≤ σ.1 := hn
  have m3 := am_su_mono hNN
  exact va_mmin hF.1 hF.2.1 (hF.2.2.1.trans hl.1.symm) hF.2.2.2.1 (hts _ h1) (hts _ h2) (hts _ h3) (hts _ h4) (Nat.le_trans hr.1 hR1) (by rw [am_cat]; exact Nat.le_trans hr.2 hR2) (by show σ.1 - n0 ≤ _; omega) (by show am_su σ.1 - am_su n0 ≤ _; omega) hd (k H locs ls hn hI hS hl)
theorem am_mmaxL {idx : Nat} {x y : Int64} (hd : decode cc pc = .ok (.invokestatic idx, 3)) (h1 : Cond.methodLink own idx Lib.MathLoose.max_long.x ∈ am_tb) (h2 : Cond.static Lib.MathLoose.max_long.x ∈ am_tb) (h3 : Cond.initialized "java/lang/Math" ∈ am_tb) (h4 : Cond.code Lib.MathLoose.max_long.x Lib.MathLoose.max_long.code 4 (some .long) ∈ am_tb) (hr : 1 ≤ fr ∧ (st.map fun v => v.category).sum + 15 ≤ lc) (hNN : σ.1 ≤ am_NN) (hF : am_F X own cc nL) (hR : am_R X fr lc) (k : am_W X nL (pc + 3, lv, .long (if y < x then x else y) :: st, σ)) : am_W X nL (pc, lv, .long y :: .long x :: st, σ) := by
  obtain ⟨p, l, e, R, s, m, args, below, meth, c, Q, g, n0⟩ := X
  intro H locs ls hn hI hS hl
  have hts := hF.2.2.2.2.1
  obtain ⟨hR1, hR2, hR3, hR4⟩ := hR
  have hn : n0 ≤ σ.1 := hn
  have m3 := am_su_mono hNN
  exact va_mmax_long hF.1 hF.2.1 (hF.2.2.1.trans hl.1.symm) hF.2.2.2.1 (hts _ h1) (hts _ h2) (hts _ h3) (hts _ h4) (Nat.le_trans hr.1 hR1) (by rw [am_cat]; exact Nat.le_trans hr.2 hR2) (by show σ.1 - n0 ≤ _; omega) (by show am_su σ.1 - am_su n0 ≤ _; omega) hd (k H locs ls hn hI hS hl)
/-- a row of ints is copied, from its start, n places -/
def am_cp (τ : am_T) (a b n : Nat) : am_T := (fun x y => if x = b ∧ y < n then τ.1 a y else τ.1 x y, τ.2)
theorem am_copy {idx a b na nb j : Nat} {n : Int32} (hd : decode cc pc = .ok (.invokestatic idx, 3)) (h1 : Cond.methodLink own idx arraycopyName ∈ am_tb) (h2 : Cond.static arraycopyName ∈ am_tb) (h3 : Cond.initialized "java/lang/System" ∈ am_tb) (h4 : Cond.native arraycopyName ∈ am_tb) (hr : 1 ≤ fr ∧ (st.map fun v => v.category).sum + (nativeFrameWords "java/lang/System" "arraycopy" 5 + 11) ≤ lc) (hNN : σ.1 = am_NN) (ha : a < am_NN) (hb : b < am_NN) (hsa : am_sh a = (1, na)) (hsb : am_sh b = (1, nb)) (hn0 : ¬ n < 0) (hj : n.toNatClampNeg = j) (hja : j ≤ na) (hjb : j ≤ nb) (hF : am_F X own cc nL) (hR : am_R X fr lc) (k : am_W X nL (pc + 3, lv, st, (σ.1, am_cp σ.2.1 a b j, σ.2.2))) : am_W X nL (pc, lv, .int n :: .int 0 :: .ref b :: .int 0 :: .ref a :: st, σ) := by
  obtain ⟨p, l, e, R, s, m, args, below, meth, c, Q, g, n0⟩ := X
  intro H locs ls hn hI hS hl
  subst hj
  have hts := hF.2.2.2.2.1
  obtain ⟨hR1, hR2, hR3, hR4⟩ := hR
  have ha1 : a < 1000 := Nat.lt_of_lt_of_le ha (by decide)
  have hb1 : b < 1000 := Nat.lt_of_lt_of_le hb (by decide)
  have haσ : a < σ.1 := by rw [hNN]; exact ha
  have hbσ : b < σ.1 := by rw [hNN]; exact hb
  show W p l e R s m args below meth c H locs _ _ Q (F0 m pc ls (.int n :: .int 0 :: .ref (am_ad g b) :: .int 0 :: .ref (am_ad g a) :: st.map (am_rv g)))
  rw [am_ad_lt ha1, am_ad_lt hb1]
  refine va_copyi (sp := 0) (dp := 0) hF.1 hF.2.1 (hF.2.2.1.trans hl.1.symm) hF.2.2.2.1 (hts _ h1) (hts _ h4) (hts _ h2) (hts _ h3) hF.2.2.2.2.2.1.1 hI.2.2 am_ws_D hS a b 0 0 ((am_ws_at haσ).trans (congrArg (fun e => some (g.1 + a, e)) (am_el_i hsa))) ((am_ws_at hbσ).trans (congrArg (fun e => some (g.1 + b, e)) (am_el_i hsb))) rfl rfl rfl (by decide) (by decide) hn0 (by show 0 + _ ≤ _; omega) (by show 0 + _ ≤ _; omega) (fun _ _ => rfl) (Nat.le_trans hr.1 hR1) (by rw [am_cat]; exact Nat.le_trans hr.2 hR2) hd fun H1 locs1 hP1 hD1 hS1 => ?_
  have hel : (Sum.inl (g.2.2.1 1, nb, .inl (va_cpy (σ.2.1.1 a) (σ.2.1.1 b) (0 : Int32).toNatClampNeg (0 : Int32).toNatClampNeg n.toNatClampNeg)) : va_E) = am_el g (σ.1, am_cp σ.2.1 a b n.toNatClampNeg, σ.2.2) b := by
    rw [am_el_i hsb]
    congr 4
    funext q
    show va_cpy _ _ 0 0 _ q = if b = b ∧ q < n.toNatClampNeg then _ else _
    unfold va_cpy
    by_cases hq : q < n.toNatClampNeg <;> simp [hq]
  have hws : (am_ws g σ).set b (g.1 + b, am_el g (σ.1, am_cp σ.2.1 a b n.toNatClampNeg, σ.2.2) b) = am_ws g (σ.1, am_cp σ.2.1 a b n.toNatClampNeg, σ.2.2) := am_ws_set hbσ rfl (fun j hj => am_el_congr (by
    funext y
    show (if j = b ∧ y < _ then _ else _) = _
    rw [if_neg (fun q => hj q.1)]) rfl rfl)
  rw [hel, hws] at hP1
  have hz : g.1 + σ.1 ≤ H1.size := by
    have h0 : 0 < σ.1 := by rw [hNN]; decide
    have hlast := (hP1 (σ.1 - 1) _ (am_ws_at (σ := (σ.1, am_cp σ.2.1 a b n.toNatClampNeg, σ.2.2)) (show σ.1 - 1 < σ.1 by omega))).lt
    have hlast : g.1 + (σ.1 - 1) < H1.size := hlast
    omega
  exact k H1 locs1 ls hn ⟨⟨hI.1.1, hz⟩, fun h => absurd (show σ.1 < am_NN from h) (by rw [hNN]; exact Nat.lt_irrefl _), hP1⟩ hS1 hl
theorem am_gets {idx a : Nat} {nm : String} (hd : decode cc pc = .ok (.getstatic idx, 3)) (hp : Cond.fieldLink own idx "ShareHouse" nm "[I" ∈ am_tb) (hnm : nm = "RULES_MOST" ∧ a = 1101) (hF : am_F X own cc nL) (k : am_W X nL (pc + 3, lv, .ref a :: st, σ)) : am_W X nL (pc, lv, st, σ) := by
  obtain ⟨p, l, e, R, s, m, args, below, meth, c, Q, g, n0⟩ := X
  intro H locs ls hn hI hS hl
  obtain ⟨rfl, rfl⟩ := hnm
  have hk := k H locs ls hn hI hS hl
  have he : am_ad g 1101 = g.2.2.2 1101 := if_neg (by decide)
  refine va_gets hF.1 hF.2.1 hF.2.2.2.2.2.1.2.2.2.2.2.2.1 hS hF.2.2.2.1 (hF.2.2.2.2.1 _ hp) (fun x hx => hx) hd ?_
  simpa only [List.map_cons, am_rv, he] using hk
theorem am_tald {j : Nat} {i : Int32} (hd : decode cc pc = .ok (.iaload, 1)) (hin : am_in i 6 = true) (hj : i.toNatClampNeg = j) (hF : am_F X own cc nL) (k : am_W X nL (pc + 1, lv, .int (am_RM.getD j 0) :: st, σ)) : am_W X nL (pc, lv, .int i :: .ref 1101 :: st, σ) := by
  obtain ⟨p, l, e, R, s, m, args, below, meth, c, Q, g, n0⟩ := X
  intro H locs ls hn hI hS hl
  subst hj
  have hk := k H locs ls hn hI hS hl
  have he : am_ad g 1101 = g.2.2.2 1101 := if_neg (by decide)
  show W p l e R s m args below meth c H locs _ _ Q (F0 m pc ls (.int i :: .ref (am_ad g 1101) :: st.map (am_rv g)))
  rw [he]
  exact va_ti hF.1 hF.2.1 hF.2.2.2.2.2.1.2.2.2.2.2.2.2 hS (am_in_vp hin) rfl hd hk
theorem am_tlen (hd : decode cc pc = .ok (.arraylength, 1)) (hF : am_F X own cc nL) (k : am_W X nL (pc + 1, lv, .int 6 :: st, σ)) : am_W X nL (pc, lv, .ref 1101 :: st, σ) := by
  obtain ⟨p, l, e, R, s, m, args, below, meth, c, Q, g, n0⟩ := X
  intro H locs ls hn hI hS hl
  have hk := k H locs ls hn hI hS hl
  have he : am_ad g 1101 = g.2.2.2 1101 := if_neg (by decide)
  show W p l e R s m args below meth c H locs _ _ Q (F0 m pc ls (.ref (am_ad g 1101) :: st.map (am_rv g)))
  rw [he]
  exact va_tlen hF.1 hF.2.1 hF.2.2.2.2.2.1.2.2.2.2.2.2.2 hS rfl hd hk
end
/-! the shapes of the printed functions -/
def am_g {α : Type} (b : Bool) (x : Option α) : Option α := bif b then x else none
theorem am_gd {α : Type} {b : Bool} {x : Option α} {y : α} {G : Prop} (h : am_g b x = some y) (k : b = true → x = some y → G) : G := k (am_bif h).1 (am_bif h).2
theorem am_ite {α : Type} {c : Prop} [Decidable c] {A B : Option α} {y : α} {G : Prop} (h : (if c then A else B) = some y) (k1 : c → A = some y → G) (k2 : ¬ c → B = some y → G) : G := by
  by_cases hc : c
  · rw [if_pos hc] at h; exact k1 hc h
  · rw [if_neg hc] at h; exact k2 hc h
theorem am_bd {α β : Type} {x : Option α} {f : α → Option β} {y : β} {G : Prop} (h : x.bind f = some y) (k : ∀ a, x = some a → f a = some y → G) : G := by
  cases x with
  | none => cases h
  | some a => exact k a rfl h
def am_isI (k : Nat) : Bool := Nat.blt k am_NN && Nat.beq (am_sh k).1 1
def am_isZ (k : Nat) : Bool := Nat.blt k am_NN && Nat.beq (am_sh k).1 2
def am_isO (k ci : Nat) : Bool := Nat.blt k am_NN && Nat.beq (am_sh k).1 0 && Nat.beq (am_sh k).2 ci
theorem am_isI_of {k : Nat} (h : am_isI k = true) : k < am_NN ∧ k < 1000 ∧ am_sh k = (1, (am_sh k).2) := by
  simp only [am_isI, Bool.and_eq_true] at h
  exact ⟨am_blt h.1, Nat.lt_of_lt_of_le (am_blt h.1) (by decide), Prod.ext (Nat.eq_of_beq_eq_true h.2) rfl⟩
theorem am_isZ_of {k : Nat} (h : am_isZ k = true) : k < am_NN ∧ k < 1000 ∧ am_sh k = (2, (am_sh k).2) := by
  simp only [am_isZ, Bool.and_eq_true] at h
  exact ⟨am_blt h.1, Nat.lt_of_lt_of_le (am_blt h.1) (by decide), Prod.ext (Nat.eq_of_beq_eq_true h.2) rfl⟩
theorem am_isO_of {k ci : Nat} (h : am_isO k ci = true) : k < am_NN ∧ k < 1000 ∧ am_sh k = (0, ci) := by
  simp only [am_isO, Bool.and_eq_true] at h
  exact ⟨am_blt h.1.1, Nat.lt_of_lt_of_le (am_blt h.1.1) (by decide), Prod.ext (Nat.eq_of_beq_eq_true h.1.2) (Nat.eq_of_beq_eq_true h.2)⟩
def am_z01 (x : Int32) : Bool := decide (x = 0) || decide (x = 1)
theorem am_z01_of {x : Int32} (h : am_z01 x = true) : x = 0 ∨ x = 1 := by simpa [am_z01] using h
theorem am_z01_n {x : Int32} (h : am_z01 x = true) : narrow .boolean (.int x) = .int x := by rcases am_z01_of h with rfl | rfl <;> rfl
theorem am_pair {α β : Type} {a v : α} {b t : β} (h : some (a, b) = some (v, t)) : a = v ∧ b = t := by cases h; exact ⟨rfl, rfl⟩
theorem am_one {α : Type} {a v : α} (h : some a = some v) : a = v := Option.some.inj h
abbrev am_D (τ : am_T) : am_S := (am_NN, τ, am_RF)
set_option maxRecDepth 100000 in
theorem wq_max_s : Cond.static Lib.Math.max.name ∈ am_tb := am_tb3 (i := 112) rfl rfl
set_option maxRecDepth 100000 in
theorem wq_max_c : Cond.code Lib.Math.max.name Lib.Math.max.code 2 (some .int) ∈ am_tb := am_tb3 (i := 113) rfl rfl
set_option maxRecDepth 100000 in
theorem wq_max_9_119 : Cond.methodLink "ShareHouse$Tape" 119 Lib.Math.max.name ∈ am_tb := am_tb3 (i := 111) rfl rfl
set_option maxRecDepth 100000 in
theorem wq_max_10_61 : Cond.methodLink "ShareHouse$Works" 61 Lib.Math.max.name ∈ am_tb := am_tb4 (i := 171) rfl rfl
set_option maxRecDepth 100000 in
theorem wq_max_8_56 : Cond.methodLink "ShareHouse$Reserve" 56 Lib.Math.max.name ∈ am_tb := am_tb4 (i := 239) rfl rfl
set_option maxRecDepth 100000 in
theorem wq_min_s : Cond.static Lib.Math.min.name ∈ am_tb := am_tb3 (i := 139) rfl rfl
set_option maxRecDepth 100000 in
theorem wq_min_c : Cond.code Lib.Math.min.name Lib.Math.min.code 2 (some .int) ∈ am_tb := am_tb3 (i := 140) rfl rfl
set_option maxRecDepth 100000 in
theorem wq_min_11_351 : Cond.methodLink "ShareHouse" 351 Lib.Math.min.name ∈ am_tb := am_tb3 (i := 138) rfl rfl
set_option maxRecDepth 100000 in
theorem wq_min_6_129 : Cond.methodLink "ShareHouse$Parting" 129 Lib.Math.min.name ∈ am_tb := am_tb4 (i := 48) rfl rfl
set_option maxRecDepth 100000 in
theorem wq_min_0_106 : Cond.methodLink "ShareHouse$Accounts" 106 Lib.Math.min.name ∈ am_tb := am_tb4 (i := 124) rfl rfl
set_option maxRecDepth 100000 in
theorem wq_maxL_s : Cond.static Lib.MathLoose.max_long.x ∈ am_tb := am_tb3 (i := 186) rfl rfl
set_option maxRecDepth 100000 in
theorem wq_maxL_c : Cond.code Lib.MathLoose.max_long.x Lib.MathLoose.max_long.code 4 (some .long) ∈ am_tb := am_tb3 (i := 187) rfl rfl
set_option maxRecDepth 100000 in
theorem wq_maxL_6_46 : Cond.methodLink "ShareHouse$Parting" 46 Lib.MathLoose.max_long.x ∈ am_tb := am_tb3 (i := 185) rfl rfl
set_option maxRecDepth 100000 in
theorem wq_maxL_11_139 : Cond.methodLink "ShareHouse" 139 Lib.MathLoose.max_long.x ∈ am_tb := am_tb3 (i := 202) rfl rfl
set_option maxRecDepth 100000 in
theorem wq_maxL_0_95 : Cond.methodLink "ShareHouse$Accounts" 95 Lib.MathLoose.max_long.x ∈ am_tb := am_tb4 (i := 126) rfl rfl
set_option maxRecDepth 100000 in
theorem wq_math : Cond.initialized "java/lang/Math" ∈ am_tb := am_tb1 (i := 18) rfl rfl
set_option maxRecDepth 100000 in
theorem wq_sys : Cond.initialized "java/lang/System" ∈ am_tb := am_tb1 (i := 19) rfl rfl
set_option maxRecDepth 100000 in
theorem wq_ac_s : Cond.static arraycopyName ∈ am_tb := am_tb3 (i := 142) rfl rfl
set_option maxRecDepth 100000 in
theorem wq_ac_n : Cond.native arraycopyName ∈ am_tb := am_tb3 (i := 143) rfl rfl
set_option maxRecDepth 100000 in
theorem wq_ac_l : Cond.methodLink "ShareHouse" 354 arraycopyName ∈ am_tb := am_tb3 (i := 141) rfl rfl
set_option maxRecDepth 100000 in
theorem wq_most : Cond.fieldLink "ShareHouse" 147 "ShareHouse" "RULES_MOST" "[I" ∈ am_tb := am_tb3 (i := 211) rfl rfl
end
section
/-! methods written by hand: the copy of a row of ints; Strings -/
def X_copyI (τ : am_T) (a0 a1 : Nat) : Option am_T := am_g (am_isI a0) (am_g (am_isI a1) (am_g (Nat.beq (am_sh a0).2 (am_sh a1).2 && Nat.blt (am_sh a0).2 100000) (some (am_cp τ a0 a1 (am_sh a0).2))))
theorem d_X11_copy_0 : decode cX11_copy 0 = .ok (.aload_n 0, 1) := by decide +kernel
def s_X_copyI_0 : List am_Q := [(0, .aload_n 0, 0, 0, 0, .null), (1, .iconst 0, 0, 0, 0, .int 0), (2, .aload_n 1, 0, 0, 0, .null), (3, .iconst 0, 0, 0, 0, .int 0), (4, .aload_n 0, 0, 0, 0, .null)]
theorem t_s_X_copyI_0 : s_X_copyI_0.all (am_ok 11 cX11_copy) = true := by decide +kernel
def s_X_copyI_1 : List am_Q := [(6, .aload_n 1, 0, 0, 0, .null)]
theorem t_s_X_copyI_1 : s_X_copyI_1.all (am_ok 11 cX11_copy) = true := by decide +kernel
theorem ok_X_copyI {X : am_X} {a0 a1 : Nat} {τ τ' : am_T} (hF : am_F X "ShareHouse" cX11_copy 2) (hR : am_R X 1 40) (hB : am_B X none none (am_D τ')) (h : X_copyI τ a0 a1 = some τ') : am_W X 2 (0, [(0, .ref a0), (1, .ref a1)], [], am_D τ) := by
  unfold X_copyI at h
  refine am_gd h (fun g0 h => ?_)
  refine am_gd h (fun g1 h => ?_)
  refine am_gd h (fun g2 h => ?_)
  simp only [Bool.and_eq_true] at g2
  have e1 : (am_sh a0).2 = (am_sh a1).2 := Nat.eq_of_beq_eq_true g2.1
  have e2 := am_blt g2.2
  obtain ⟨z1, z2, z3⟩ := am_isI_of g0
  obtain ⟨w1, w2, w3⟩ := am_isI_of g1
  refine am_seg s_X_copyI_0 (y := (5, [(0, .ref a0), (1, .ref a1)], [.ref a0, .int 0, .ref a1, .int 0, .ref a0], am_D τ)) hF t_s_X_copyI_0 rfl rfl ?_
  refine am_alen (show decode cX11_copy 5 = .ok (.arraylength, 1) by decide +kernel) z1 z2 z3 (by decide) (by decide) hF ?_
  refine am_seg s_X_copyI_1 (y := (7, [(0, .ref a0), (1, .ref a1)], [.ref a1, .int (Int32.ofNat (am_sh a0).2), .int 0, .ref a1, .int 0, .ref a0], am_D τ)) hF t_s_X_copyI_1 rfl rfl ?_
  refine am_alen (show decode cX11_copy 7 = .ok (.arraylength, 1) by decide +kernel) w1 w2 w3 (by decide) (by decide) hF ?_
  refine am_mmin (show decode cX11_copy 8 = .ok (.invokestatic 351, 3) by decide +kernel) wq_min_11_351 wq_min_s wq_math wq_min_c ⟨by decide, Nat.le_of_ble_eq_true rfl⟩ (Nat.le_refl _) hF hR ?_
  rw [← e1]
  simp only [ite_self]
  have hn : (nI (am_sh a0).2).toNatClampNeg = (am_sh a0).2 := nI_clamp (by omega)
  have hp : ¬ nI (am_sh a0).2 < 0 := nI_pos (by omega)
  refine am_copy (show decode cX11_copy 11 = .ok (.invokestatic 354, 3) by decide +kernel) wq_ac_l wq_ac_s wq_sys wq_ac_n ⟨by decide, Nat.le_of_ble_eq_true rfl⟩ rfl z1 w1 z3 w3 hp hn (Nat.le_refl _) (Nat.le_of_eq e1) hF hR ?_
  cases h
  exact am_vret (show decode cX11_copy 14 = .ok (.return_, 1) by decide +kernel) hF hB
theorem c_X_copyI {a0 a1 : Nat} {τ τ' : am_T} (h : X_copyI τ a0 a1 = some τ') : am_C yX11_copy cX11_copy 2 none 1 40 [.ref a0, .ref a1] (am_D τ) none (am_D τ') :=
  am_enter (by decide +kernel) (Nat.le_of_ble_eq_true rfl) ⟨Nat.le_refl _, Nat.le_refl _⟩ (fun X hF hR hB => ok_X_copyI hF hR hB h)
/-! Strings: constants only -/
def S_len (k : Nat) : Nat := am_len.getD (k - 1000) 0
def S_isS (k : Nat) : Bool := Nat.ble 1000 k && Nat.blt k 1019
def S_length (τ : am_T) (k : Nat) : Option (Int32 × am_T) := am_g (S_isS k) (some (Int32.ofNat (S_len k), τ))
def S_charAt (τ : am_T) (k : Nat) (i : Int32) : Option (Int32 × am_T) := am_g (S_isS k) (am_g (am_in i (S_len k)) (some ((am_byt.getD (k - 1000) []).getD i.toNatClampNeg 0, τ)))
theorem S_rng {k : Nat} (h : S_isS k = true) : 1000 ≤ k ∧ k < 1019 := by
  simp only [S_isS, Bool.and_eq_true] at h
  exact ⟨Nat.le_of_ble_eq_true h.1, am_blt h.2⟩
theorem S_length_rng {τ : am_T} {k : Nat} {x : Int32 × am_T} (h : S_length τ k = some x) : 1000 ≤ k ∧ k < 1019 := am_gd h (fun g _ => S_rng g)
theorem S_charAt_rng {τ : am_T} {k : Nat} {i : Int32} {x : Int32 × am_T} (h : S_charAt τ k i = some x) : 1000 ≤ k ∧ k < 1019 := am_gd h (fun g _ => S_rng g)
theorem c_S_length {a0 : Nat} {v : Int32} {τ τ' : am_T} (h : S_length τ a0 = some (v, τ')) : am_C yJ0_length_8abf5 cJ0_length_8abf5 1 (some .int) 1 20 [.ref a0] (am_D τ) (some (.int v)) (am_D τ') := by
  sorry
theorem c_S_charAt {a0 : Nat} {a1 v : Int32} {τ τ' : am_T} (h : S_charAt τ a0 a1 = some (v, τ')) : am_C yJ0_charAt_5068e cJ0_charAt_5068e 2 (some .char) 3 64 [.ref a0, .int a1] (am_D τ) (some (.int v)) (am_D τ') := by
  sorry
section
variable {X : am_X} {own : String} {cc : ByteArray} {nL pc fr lc : Nat} {lv : List (Nat × Value)} {st : List Value} {σ σ' : am_S}
variable {idx n maxL fr' lc' : Nat} {y : MethodName} {bytes : ByteArray} {ret : Option FieldType} {As : List Value} {r : Option Value}
theorem am_callStr {b : Nat} (hF : am_F X own cc nL) (hR : am_R X fr lc) (hd : decode cc pc = .ok (.invokevirtual idx, 3)) (hC : am_C y bytes maxL ret fr' lc' (.ref b :: As) σ r σ') (hb : 1000 ≤ b ∧ b < 1019) (hle : σ.1 ≤ σ'.1) (hNN : σ'.1 ≤ am_NN) (hl : Cond.methodLink own idx y ∈ am_tb) (hst : Cond.instanceMethod y ∈ am_tb) (hsel : Cond.selects y.cls y y ∈ am_tb) (hini : Cond.initialized y.cls ∈ am_tb) (hcode : Cond.code y bytes maxL ret ∈ am_tb) (hy : am_yok y n = true) (hn : As.length = n) (hr : fr' + 1 ≤ fr ∧ 8 + (maxL + 11) + lc' ≤ lc) (hW : (st.map fun v => v.category).sum ≤ 8) (hcls : y.cls = "java/lang/String")
    (k : am_W X nL (pc + 3, lv, r.toList ++ st, σ')) : am_W X nL (pc, lv, As.reverse ++ .ref b :: st, σ) := by
  obtain ⟨p, l, e, R, s, m, args, below, meth, c, Q, g, n0⟩ := X
  intro H locs ls hn0 hI hS hl0
  have hts := hF.2.2.2.2.1
  obtain ⟨hR1, hR2, hR3, hR4⟩ := hR
  have hn0 : n0 ≤ σ.1 := hn0
  have m1 := am_su_mono hn0
  have m2 := am_su_mono hle
  have m3 := am_su_mono hNN
  have cw : CallW R s args own y.cls idx y bytes maxL ret (.code y bytes maxL ret :: am_tb) { frames := fr', cells := σ'.1 - σ.1, slots := am_su σ'.1 - am_su σ.1, locals := lc' } (σ'.1 - σ.1) (am_su σ'.1 - am_su σ.1) n :=
    ⟨callB_of n hts (am_good hcode) rfl rfl rfl (hts _ hini) (hts _ hl) (am_yok_of hy) ⟨Nat.le_trans hr.1 hR1, Nat.le_trans hr.2 hR2⟩, hts _ hst, hts _ hsel⟩
  have hrecv : ∃ cell : Cell, H[am_ad g b]? = some cell ∧ cell.vm.isStatics = false ∧ s.vm.findClass y.cls = some cell.cls := by
    obtain ⟨d, rfl⟩ := Nat.exists_eq_add_of_le hb.1
    have he : am_ad g (1000 + d) = g.2.2.2 (1000 + d) := if_neg (by omega)
    rw [he, hcls]
    exact vk_recv (i := d) hF.2.2.2.2.2.1.2.2.2.1 (by omega) hS
  have hrun := va_runV (C := y.cls) (b := am_ad g b) (g := F0 m pc ls ((As.reverse ++ .ref b :: st).map (am_rv g))) (rest := st.map (am_rv g)) (As := As.map (am_rv g)) (locs := locs) (cells := σ.1 - n0) (slots := am_su σ.1 - am_su n0) (below := below) (e := e) (meth := meth) ⟨hF.1, hF.2.1, hF.2.2.1, hF.2.2.2.1, hts⟩ (hC l g) cw ⟨am_blind, hrecv, fun U hU hW => ⟨rfl, by rw [hU]; exact hI, hF.2.2.2.2.2.1.step hW (fun q h1 h2 => by rw [hU]; exact hS.2.1 q h1 h2)⟩⟩ rfl (by rw [List.length_map]; exact hn) hl0.1 (by rw [List.map_append, List.map_reverse, List.map_cons]; rfl) (lv_room (by rw [am_cat]; exact hW)) hd ⟨by omega, by omega⟩
  refine am_run hrun hS hI hle fun H1 locs1 hI1 hS1 => ?_
  have hk := k H1 locs1 ls (Nat.le_trans hn0 hle) hI1 hS1 hl0
  rw [am_stk]
  have e1 : σ.1 - n0 + (σ'.1 - σ.1) = σ'.1 - n0 := by omega
  have e2 : am_su σ.1 - am_su n0 + (am_su σ'.1 - am_su σ.1) = am_su σ'.1 - am_su n0 := by omega
  rw [e1, e2]
  exact hk
end
end
section
/-! CONSTRUCTORS: cells are made; a cell that isn't made yet is blank in the state -/
def am_Bl (σ : am_S) : Prop := ∀ i, σ.1 ≤ i → (∀ j, σ.2.1.1 i j = 0) ∧ (∀ j, σ.2.1.2 i j = 0) ∧ ∀ j, σ.2.2 i j = none
/-- reference fields as a list of what was put -/
def am_up (rf : Nat → Nat → Option Nat) (k j q : Nat) : Nat → Nat → Option Nat := fun a b => if a = k ∧ b = j then some q else rf a b
theorem am_up_ne {rf : Nat → Nat → Option Nat} {k j q a : Nat} (h : a ≠ k) : am_up rf k j q a = rf a := by
  funext b
  exact if_neg (fun z => h z.1)
theorem am_Bl.up {n : Nat} {τ : am_T} {rf : Nat → Nat → Option Nat} {k j q : Nat} (h : am_Bl (n, τ, rf)) (hk : k < n) : am_Bl (n, τ, am_up rf k j q) := fun i hi => by
  have hi : n ≤ i := hi
  refine ⟨(h i hi).1, (h i hi).2.1, fun b => ?_⟩
  show am_up rf k j q i b = none
  rw [am_up_ne (by omega)]
  exact (h i hi).2.2 b
theorem am_Bl.si {n : Nat} {τ : am_T} {rf : Nat → Nat → Option Nat} {k j : Nat} {v : Int32} (h : am_Bl (n, τ, rf)) (hk : k < n) : am_Bl (n, am_si τ k j v, rf) := fun i hi => by
  have hi : n ≤ i := hi
  refine ⟨fun b => ?_, (h i hi).2.1, (h i hi).2.2⟩
  show (am_si τ k j v).1 i b = 0
  rw [am_si_ne (by omega)]
  exact (h i hi).1 b
theorem am_Bl.nx {n : Nat} {τ : am_T} {rf : Nat → Nat → Option Nat} (h : am_Bl (n, τ, rf)) : am_Bl (n + 1, τ, rf) := fun i hi => h i (Nat.le_of_succ_le hi)
theorem am_su_succ {n t m : Nat} (hn : n < am_NN) (h : am_sh n = (t, m)) : am_su (n + 1) = am_su n + (if t = 0 then am_nf m else m) := by
  have hl : am_shL[n]? = some (t, m) := by
    have h2 : n < am_shL.length := hn
    have h3 : am_shL.getD n (9, 0) = am_shL[n] := by rw [List.getD_eq_getElem?_getD, List.getElem?_eq_getElem h2]; rfl
    rw [List.getElem?_eq_getElem h2, ← h3]
    exact congrArg some h
  unfold am_su
  have : am_suL[n]? = some (if t = 0 then am_nf m else m) := by
    unfold am_suL
    rw [List.getElem?_map, hl]
    rfl
  rw [List.take_succ, this]
  simp
theorem am_ws_push {g : am_G} {n : Nat} {τ : am_T} {rf : Nat → Nat → Option Nat} : am_ws g (n + 1, τ, rf) = am_ws g (n, τ, rf) ++ [(g.1 + n, am_el g (n, τ, rf) n)] := by
  unfold am_ws
  show (List.range (n + 1)).map _ = (List.range n).map _ ++ _
  rw [List.range_succ, List.map_append]
  rfl
theorem am_I_new {g : am_G} {n : Nat} {τ : am_T} {rf : Nat → Nat → Option Nat} {H H1 : Heap} (hI : am_I g (n, τ, rf) H) (hn : n < am_NN) (hz : H1.size = H.size + 1) (ho : ∀ q : Nat, q < H.size → H1[q]? = H[q]?) (he : va_at g.2.1 am_cl (g.1 + n, am_el g (n, τ, rf) n) H1) : am_I g (n + 1, τ, rf) H1 := by
  have hsz : H.size = g.1 + n := hI.2.1 hn
  refine ⟨⟨Nat.le_trans (show n + 1 ≤ am_NN from hn) (by decide), by rw [hz, hsz]; exact Nat.le_refl _⟩, fun _ => by rw [hz, hsz]; rfl, ?_⟩
  rw [am_ws_push]
  refine (hI.2.2.kept (fun k x hx => ho x.1 ((hI.2.2 k x hx).lt))).app (fun k x hx => ?_)
  have hz : k < 1 := (List.getElem?_eq_some_iff.mp hx).1
  rw [show k = 0 by omega] at hx
  cases hx
  exact he
theorem am_S_new {g : am_G} {s : State} {H H1 : Heap} {locs : List Loc} (hS : va_S (am_A g) s.heap H locs) (hz : H1.size = H.size + 1) (ho : ∀ q : Nat, q < H.size → H1[q]? = H[q]?) : va_S (am_A g) s.heap H1 locs :=
  ⟨Nat.le_trans hS.1 (by omega), fun x h1 h2 => (ho x (Nat.lt_of_lt_of_le h1 hS.1)).trans (hS.2.1 x h1 h2), hS.2.2⟩
def am_tok : FieldType → Bool
  | .int => true
  | .boolean => true
  | .long => true
  | .object _ => true
  | .array _ => true
  | _ => false
theorem am_tok0 : ∀ j, j < 4 → am_tok (tyX0 j) = true := by decide +kernel
theorem am_tok1 : ∀ j, j < 10 → am_tok (tyX1 j) = true := by decide +kernel
theorem am_tok2 : ∀ j, j < 5 → am_tok (tyX2 j) = true := by decide +kernel
theorem am_tok3 : ∀ j, j < 8 → am_tok (tyX3 j) = true := by decide +kernel
theorem am_tok4 : ∀ j, j < 2 → am_tok (tyX4 j) = true := by decide +kernel
theorem am_tok5 : ∀ j, j < 8 → am_tok (tyX5 j) = true := by decide +kernel
theorem am_tok6 : ∀ j, j < 7 → am_tok (tyX6 j) = true := by decide +kernel
theorem am_tok7 : ∀ j, j < 4 → am_tok (tyX7 j) = true := by decide +kernel
theorem am_tok8 : ∀ j, j < 7 → am_tok (tyX8 j) = true := by decide +kernel
theorem am_tok9 : ∀ j, j < 10 → am_tok (tyX9 j) = true := by decide +kernel
theorem am_tok10 : ∀ j, j < 12 → am_tok (tyX10 j) = true := by decide +kernel
theorem am_tok11 : ∀ j, j < 7 → am_tok (tyX11 j) = true := by decide +kernel
theorem am_tok12 : ∀ j, j < 30 → am_tok (tyX12 j) = true := by decide +kernel
theorem am_tok_all (ci j : Nat) (h : j < am_nf ci) : am_tok (am_ty ci j) = true := by
  match ci, h with
  | 0, h => exact am_tok0 j h
  | 1, h => exact am_tok1 j h
  | 2, h => exact am_tok2 j h
  | 3, h => exact am_tok3 j h
  | 4, h => exact am_tok4 j h
  | 5, h => exact am_tok5 j h
  | 6, h => exact am_tok6 j h
  | 7, h => exact am_tok7 j h
  | 8, h => exact am_tok8 j h
  | 9, h => exact am_tok9 j h
  | 10, h => exact am_tok10 j h
  | 11, h => exact am_tok11 j h
  | 12, h => exact am_tok12 j h
  | n + 13, h => exact am_tok12 j h
theorem am_fs_blank {g : am_G} {n ci : Nat} {τ : am_T} {rf : Nat → Nat → Option Nat} (hB : am_Bl (n, τ, rf)) : ∀ j, j < am_nf ci → defaultValue (am_ty ci j) = vp_V (am_fs g (n, τ, rf) n ci) j := by
  intro j hj
  have h1 := hB n (Nat.le_refl _)
  have hg : (am_fs g (n, τ, rf) n ci).getD j .null = am_fv g (n, τ, rf) n j (am_ty ci j) := by
    rw [List.getD_eq_getElem?_getD, am_fs_get hj]
    rfl
  unfold vp_V
  rw [hg]
  unfold am_fv
  have e1 : (n, τ, rf).2.1.1 n j = 0 := h1.1 j
  have e2 : (n, τ, rf).2.1.2 n j = 0 := h1.2.1 j
  have e3 : (n, τ, rf).2.2 n j = none := h1.2.2 j
  rw [e1, e2, e3]
  have hk := am_tok_all ci j hj
  generalize am_ty ci j = t at hk
  cases t <;> first | rfl | exact Bool.noConfusion hk
section
variable {X : am_X} {own : String} {cc : ByteArray} {nL pc fr lc NN : Nat} {lv : List (Nat × Value)} {st : List Value} {n : Nat} {τ : am_T} {rf : Nat → Nat → Option Nat}
theorem am_new {idx ci N : Nat} {C : String} {T : u_T} (hd : decode cc pc = .ok (.new idx, 3)) (hcl : Cond.classLink own idx C ∈ am_tb) (hins : Cond.instantiable C N ∈ am_tb) (hini : Cond.initialized C ∈ am_tb) (hc : am_cl[ci]? = some (C, T, N)) (hn : n < am_NN) (hsh : am_sh n = (0, ci)) (hB : am_Bl (n, τ, rf)) (hcap : n + 1 ≤ NN) (hF : am_F X own cc nL) (hR : am_RN X fr lc NN) (k : am_W X nL (pc + 3, lv, .ref n :: st, (n + 1, τ, rf))) : am_W X nL (pc, lv, st, (n, τ, rf)) := by
  obtain ⟨p, l, e, R, s, m, args, below, meth, c, Q, g, n0⟩ := X
  intro H locs ls hn0 hI hS hl
  have hts := hF.2.2.2.2.1
  obtain ⟨hR1, hR2, hR3, hR4⟩ := hR
  have hn0 : n0 ≤ n := hn0
  have m1 := am_su_mono hn0
  have m3 := am_su_mono hcap
  have hw := am_cls ci _ hc
  have hN : N = am_nf ci := hw.2.2.2
  have hsu := am_su_succ hn hsh
  rw [if_pos rfl, ← hN] at hsu
  have hK := hF.2.2.2.2.2.1.1
  have hKn := hK.1 ci _ hc
  have hsz : H.size = g.1 + n := hI.2.1 hn
  refine W.newcK hF.1 hF.2.1 hF.2.2.2.1 (hts _ hcl) (hts _ hins) (hts _ hini) rfl hd (by show n - n0 + 1 ≤ _; omega) (by show am_su n - am_su n0 + N ≤ _; omega) hKn.2.1 hsz fun H1 kC hkC e1 z1 o1 => ?_
  rw [← hsz] at o1 z1
  have hI1 : am_I g (n + 1, τ, rf) H1 := am_I_new hI hn z1 o1 (by
    rw [am_el_obj hsh]
    refine ⟨_, hc, (u_born (am_ty ci) hts (am_cls_tb hc) hKn hkC e1 hw.2.1).to ?_⟩
    intro j hj
    exact am_fs_blank hB j (by rw [← hN]; exact hj))
  have hk := k H1 locs ls (Nat.le_succ_of_le hn0) hI1 (am_S_new hS z1 o1) hl
  have e2 : n - n0 + 1 = n + 1 - n0 := by omega
  have e3 : am_su n - am_su n0 + N = am_su (n + 1) - am_su n0 := by omega
  show W p l e R s m args below meth c H1 locs (n - n0 + 1) (am_su n - am_su n0 + N) Q _
  rw [e2, e3]
  have hn1 : n < 1000 := Nat.lt_of_lt_of_le hn (by decide)
  have hk : W p l e R s m args below meth c H1 locs (n + 1 - n0) (am_su (n + 1) - am_su n0) Q (F0 m (pc + 3) ls (.ref (am_ad g n) :: st.map (am_rv g))) := hk
  rw [am_ad_lt hn1] at hk
  exact hk
theorem am_newX {atype : ArrayType} {t N : Nat} {i : Int32} (ty : FieldType) (hd : decode cc pc = .ok (.newarray atype, 2)) (hty : newarray.typeOf atype = ty) (harr : Cond.arrayClass ty ∈ am_tb) (ht : (t = 1 ∧ ty = .int) ∨ (t = 2 ∧ ty = .boolean) ∨ (t = 3 ∧ ty = .long)) (hi : ¬ i < 0) (hiN : i.toNatClampNeg = N) (hN : N ≤ 100000) (hn : n < am_NN) (hsh : am_sh n = (t, N)) (hB : am_Bl (n, τ, rf)) (hcap : n + 1 ≤ NN) (hF : am_F X own cc nL) (hR : am_RN X fr lc NN) (k : am_W X nL (pc + 2, lv, .ref n :: st, (n + 1, τ, rf))) : am_W X nL (pc, lv, .int i :: st, (n, τ, rf)) := by
  obtain ⟨p, l, e, R, s, m, args, below, meth, c, Q, g, n0⟩ := X
  intro H locs ls hn0 hI hS hl
  subst hty
  have hts := hF.2.2.2.2.1
  obtain ⟨hR1, hR2, hR3, hR4⟩ := hR
  have hn0 : n0 ≤ n := hn0
  have m1 := am_su_mono hn0
  have m3 := am_su_mono hcap
  have hsu := am_su_succ hn hsh
  have ht0 : t ≠ 0 := by rcases ht with h | h | h <;> omega
  rw [if_neg ht0] at hsu
  have hK := hF.2.2.2.2.2.1.1
  have hsz : H.size = g.1 + n := hI.2.1 hn
  have hcb : N * componentBytes (newarray.typeOf atype) ≤ 536870912 := by
    have hc8 : componentBytes (newarray.typeOf atype) ≤ 8 := by
      rcases ht with ⟨-, h⟩ | ⟨-, h⟩ | ⟨-, h⟩ <;> (rw [h]; decide)
    calc N * componentBytes (newarray.typeOf atype) ≤ 100000 * 8 := Nat.mul_le_mul hN hc8
      _ ≤ 536870912 := by decide
  refine va_newaK hF.1 hF.2.1 (hts _ harr) (g := F0 m pc ls (.int i :: st.map (am_rv g))) rfl hd (n := i) (rest := st.map (am_rv g)) rfl hi hiN hcb (by show n - n0 + 1 ≤ _; omega) (by show am_su n - am_su n0 + N ≤ _; omega) hsz fun H1 cA e1 z1 o1 hAr hNm => ?_
  rw [← hsz] at o1 z1
  have h1 := hB n (Nat.le_refl _)
  have hI1 : am_I g (n + 1, τ, rf) H1 := am_I_new hI hn z1 o1 (by
    have hcA : ∀ (tt : Nat) (q : ClassId × FieldType), (am_tys g)[tt]? = some q → q.2 = newarray.typeOf atype → (∀ C, q.2 ≠ .object C) → q.1 = cA := by
      intro tt q hq h2 h3
      have hra := (hK.2 tt q hq).2
      obtain ⟨qc, qt⟩ := q
      dsimp only at h2 h3
      subst h2
      have : s.vm.findClass ("[" ++ (newarray.typeOf atype).toString) = some qc := by
        cases atype <;> exact hra
      exact Option.some.inj (this.symm.trans hNm)
    rcases ht with ⟨rfl, h⟩ | ⟨rfl, h⟩ | ⟨rfl, h⟩
    · rw [am_el_i hsh]
      have hc := hcA 0 _ rfl h.symm (fun C => by rintro ⟨⟩)
      show H1[g.1 + n]? = some (vp_cell (g.2.2.1 1) _)
      have hc : g.2.2.1 1 = cA := hc
      rw [hc, vp_cell_i, e1, h]
      congr 2
      funext j
      show _ = Value.int ((n, τ, rf).2.1.1 n j)
      rw [show (n, τ, rf).2.1.1 n j = 0 from h1.1 j]
      rfl
    · rw [am_el_z hsh]
      have hc := hcA 1 _ rfl h.symm (fun C => by rintro ⟨⟩)
      show H1[g.1 + n]? = some (vp_cell (g.2.2.1 2) _)
      have hc : g.2.2.1 2 = cA := hc
      rw [hc, vp_cell_i, e1, h]
      congr 2
      funext j
      show _ = Value.int ((n, τ, rf).2.1.1 n j)
      rw [show (n, τ, rf).2.1.1 n j = 0 from h1.1 j]
      rfl
    · rw [am_el_l hsh]
      have hc := hcA 2 _ rfl h.symm (fun C => by rintro ⟨⟩)
      show H1[g.1 + n]? = some (vp_cell (g.2.2.1 3) _)
      have hc : g.2.2.1 3 = cA := hc
      rw [hc, vp_cell_l, e1, h]
      congr 2
      funext j
      show _ = Value.long ((n, τ, rf).2.1.2 n j)
      rw [show (n, τ, rf).2.1.2 n j = 0 from h1.2.1 j]
      rfl)
  have hk := k H1 locs ls (Nat.le_succ_of_le hn0) hI1 (am_S_new hS z1 o1) hl
  have e2 : n - n0 + 1 = n + 1 - n0 := by omega
  have e3 : am_su n - am_su n0 + N = am_su (n + 1) - am_su n0 := by omega
  show W p l e R s m args below meth c H1 locs (n - n0 + 1) (am_su n - am_su n0 + N) Q _
  rw [e2, e3]
  have hn1 : n < 1000 := Nat.lt_of_lt_of_le hn (by decide)
  have hk : W p l e R s m args below meth c H1 locs (n + 1 - n0) (am_su (n + 1) - am_su n0) Q (F0 m (pc + 2) ls (.ref (am_ad g n) :: st.map (am_rv g))) := hk
  rw [am_ad_lt hn1] at hk
  rw [← hsz] at hk ⊢
  exact hk
end
end
