section
-- ===== PART A: goes FIRST, ahead of the names: the tables' words, and 'selects' of the private methods out of them =====
/-- a private method of a class that the tables say can be made, by its rows of tables_1 -/
def lw_okq (q : MethodName × Nat) : Prop := (q.1.cls ≠ "java/lang/invoke/MethodHandle" ∧ q.1.cls ≠ "java/lang/invoke/VarHandle") ∧ Cond.instantiable q.1.cls q.2 ∈ tables_1 ∧ Cond.privateMethod q.1 ∈ tables_1 ∧ Cond.instanceMethod q.1 ∈ tables_1
theorem lw_p0 : lw_okq (⟨"WornDots$CommandText", "skipSpaces", "()V"⟩, 6) := ⟨⟨by decide +kernel, by decide +kernel⟩, List.mem_of_getElem? (i := 33) (by decide +kernel), List.mem_of_getElem? (i := 246) (by decide +kernel), List.mem_of_getElem? (i := 247) (by decide +kernel)⟩
theorem lw_p1 : lw_okq (⟨"WornDots$CommandText", "skipLetters", "()V"⟩, 6) := ⟨⟨by decide +kernel, by decide +kernel⟩, List.mem_of_getElem? (i := 33) (by decide +kernel), List.mem_of_getElem? (i := 250) (by decide +kernel), List.mem_of_getElem? (i := 251) (by decide +kernel)⟩
theorem lw_p2 : lw_okq (⟨"WornDots$CommandText", "wordBetween", "(II)LWornDots$Word;"⟩, 6) := ⟨⟨by decide +kernel, by decide +kernel⟩, List.mem_of_getElem? (i := 33) (by decide +kernel), List.mem_of_getElem? (i := 254) (by decide +kernel), List.mem_of_getElem? (i := 255) (by decide +kernel)⟩
theorem lw_p3 : lw_okq (⟨"WornDots$CommandText", "isBetween", "(Ljava/lang/String;II)Z"⟩, 6) := ⟨⟨by decide +kernel, by decide +kernel⟩, List.mem_of_getElem? (i := 33) (by decide +kernel), List.mem_of_getElem? (i := 260) (by decide +kernel), List.mem_of_getElem? (i := 261) (by decide +kernel)⟩
theorem lw_p4 : lw_okq (⟨"WornDots$CommandText", "readNumbers", "(I)Z"⟩, 6) := ⟨⟨by decide +kernel, by decide +kernel⟩, List.mem_of_getElem? (i := 33) (by decide +kernel), List.mem_of_getElem? (i := 312) (by decide +kernel), List.mem_of_getElem? (i := 313) (by decide +kernel)⟩
theorem lw_p5 : lw_okq (⟨"WornDots$CommandText", "readNumber", "(I)Z"⟩, 6) := ⟨⟨by decide +kernel, by decide +kernel⟩, List.mem_of_getElem? (i := 33) (by decide +kernel), List.mem_of_getElem? (i := 316) (by decide +kernel), List.mem_of_getElem? (i := 317) (by decide +kernel)⟩
theorem lw_p6 : lw_okq (⟨"WornDots$CommandText", "readSemicolon", "()Z"⟩, 6) := ⟨⟨by decide +kernel, by decide +kernel⟩, List.mem_of_getElem? (i := 33) (by decide +kernel), List.mem_of_getElem? (i := 320) (by decide +kernel), List.mem_of_getElem? (i := 321) (by decide +kernel)⟩
theorem lw_p7 : lw_okq (⟨"WornDots", "save", "()V"⟩, 4) := ⟨⟨by decide +kernel, by decide +kernel⟩, List.mem_of_getElem? (i := 25) (by decide +kernel), List.mem_of_getElem? (i := 324) (by decide +kernel), List.mem_of_getElem? (i := 325) (by decide +kernel)⟩
theorem lw_p8 : lw_okq (⟨"WornDots$State", "othersRentOneOf", "(III)Z"⟩, 8) := ⟨⟨by decide +kernel, by decide +kernel⟩, List.mem_of_getElem? (i := 94) (by decide +kernel), List.mem_of_getElem? (i := 396) (by decide +kernel), List.mem_of_getElem? (i := 397) (by decide +kernel)⟩
theorem lw_p9 : lw_okq (⟨"WornDots$Head", "burn", "(II)V"⟩, 5) := ⟨⟨by decide +kernel, by decide +kernel⟩, List.mem_of_getElem? (i := 67) (by decide +kernel), List.mem_of_getElem? (i := 454) (by decide +kernel), List.mem_of_getElem? (i := 455) (by decide +kernel)⟩
theorem lw_p10 : lw_okq (⟨"WornDots$State", "allWear", "()I"⟩, 8) := ⟨⟨by decide +kernel, by decide +kernel⟩, List.mem_of_getElem? (i := 94) (by decide +kernel), List.mem_of_getElem? (i := 501) (by decide +kernel), List.mem_of_getElem? (i := 502) (by decide +kernel)⟩
theorem lw_p11 : lw_okq (⟨"WornDots$State", "allRented", "()I"⟩, 8) := ⟨⟨by decide +kernel, by decide +kernel⟩, List.mem_of_getElem? (i := 94) (by decide +kernel), List.mem_of_getElem? (i := 533) (by decide +kernel), List.mem_of_getElem? (i := 534) (by decide +kernel)⟩
theorem lw_p12 : lw_okq (⟨"WornDots$State", "book", "(LWornDots$Customer;LWornDots$Label;IZ)V"⟩, 8) := ⟨⟨by decide +kernel, by decide +kernel⟩, List.mem_of_getElem? (i := 94) (by decide +kernel), List.mem_of_getElem? (i := 545) (by decide +kernel), List.mem_of_getElem? (i := 546) (by decide +kernel)⟩
theorem lw_p13 : lw_okq (⟨"java/lang/Throwable", "fillInStackTrace", "(I)Ljava/lang/Throwable;"⟩, 6) := ⟨⟨by decide +kernel, by decide +kernel⟩, List.mem_of_getElem? (i := 625) (by decide +kernel), List.mem_of_getElem? (i := 623) (by decide +kernel), List.mem_of_getElem? (i := 624) (by decide +kernel)⟩
theorem lw_p14 : lw_okq (⟨"WornDots$State", "allPrinted", "()I"⟩, 8) := ⟨⟨by decide +kernel, by decide +kernel⟩, List.mem_of_getElem? (i := 94) (by decide +kernel), List.mem_of_getElem? (i := 691) (by decide +kernel), List.mem_of_getElem? (i := 692) (by decide +kernel)⟩
theorem lw_p15 : lw_okq (⟨"WornDots$State", "allFailed", "()I"⟩, 8) := ⟨⟨by decide +kernel, by decide +kernel⟩, List.mem_of_getElem? (i := 94) (by decide +kernel), List.mem_of_getElem? (i := 695) (by decide +kernel), List.mem_of_getElem? (i := 696) (by decide +kernel)⟩
def lw_privs_1 : List (MethodName × Nat) := [(⟨"WornDots$CommandText", "skipSpaces", "()V"⟩, 6), (⟨"WornDots$CommandText", "skipLetters", "()V"⟩, 6), (⟨"WornDots$CommandText", "wordBetween", "(II)LWornDots$Word;"⟩, 6), (⟨"WornDots$CommandText", "isBetween", "(Ljava/lang/String;II)Z"⟩, 6), (⟨"WornDots$CommandText", "readNumbers", "(I)Z"⟩, 6), (⟨"WornDots$CommandText", "readNumber", "(I)Z"⟩, 6), (⟨"WornDots$CommandText", "readSemicolon", "()Z"⟩, 6), (⟨"WornDots", "save", "()V"⟩, 4), (⟨"WornDots$State", "othersRentOneOf", "(III)Z"⟩, 8), (⟨"WornDots$Head", "burn", "(II)V"⟩, 5), (⟨"WornDots$State", "allWear", "()I"⟩, 8), (⟨"WornDots$State", "allRented", "()I"⟩, 8), (⟨"WornDots$State", "book", "(LWornDots$Customer;LWornDots$Label;IZ)V"⟩, 8), (⟨"java/lang/Throwable", "fillInStackTrace", "(I)Ljava/lang/Throwable;"⟩, 6), (⟨"WornDots$State", "allPrinted", "()I"⟩, 8), (⟨"WornDots$State", "allFailed", "()I"⟩, 8)]
theorem lw_r1 : ∀ q ∈ lw_privs_1, lw_okq q := List.forall_mem_cons.mpr ⟨lw_p0, List.forall_mem_cons.mpr ⟨lw_p1, List.forall_mem_cons.mpr ⟨lw_p2, List.forall_mem_cons.mpr ⟨lw_p3, List.forall_mem_cons.mpr ⟨lw_p4, List.forall_mem_cons.mpr ⟨lw_p5, List.forall_mem_cons.mpr ⟨lw_p6, List.forall_mem_cons.mpr ⟨lw_p7, List.forall_mem_cons.mpr ⟨lw_p8, List.forall_mem_cons.mpr ⟨lw_p9, List.forall_mem_cons.mpr ⟨lw_p10, List.forall_mem_cons.mpr ⟨lw_p11, List.forall_mem_cons.mpr ⟨lw_p12, List.forall_mem_cons.mpr ⟨lw_p13, List.forall_mem_cons.mpr ⟨lw_p14, List.forall_mem_cons.mpr ⟨lw_p15, fun _ h => absurd h List.not_mem_nil⟩⟩⟩⟩⟩⟩⟩⟩⟩⟩⟩⟩⟩⟩⟩⟩
theorem lw_p16 : lw_okq (⟨"WornDots$State", "allEarned", "()I"⟩, 8) := ⟨⟨by decide +kernel, by decide +kernel⟩, List.mem_of_getElem? (i := 94) (by decide +kernel), List.mem_of_getElem? (i := 699) (by decide +kernel), List.mem_of_getElem? (i := 700) (by decide +kernel)⟩
theorem lw_p17 : lw_okq (⟨"WornDots", "mixDots", "(J)J"⟩, 4) := ⟨⟨by decide +kernel, by decide +kernel⟩, List.mem_of_getElem? (i := 25) (by decide +kernel), List.mem_of_getElem? (i := 703) (by decide +kernel), List.mem_of_getElem? (i := 704) (by decide +kernel)⟩
theorem lw_p18 : lw_okq (⟨"WornDots$State", "renterOf", "(I)I"⟩, 8) := ⟨⟨by decide +kernel, by decide +kernel⟩, List.mem_of_getElem? (i := 94) (by decide +kernel), List.mem_of_getElem? (i := 711) (by decide +kernel), List.mem_of_getElem? (i := 712) (by decide +kernel)⟩
theorem lw_p19 : lw_okq (⟨"WornDots", "mixLabels", "(J)J"⟩, 4) := ⟨⟨by decide +kernel, by decide +kernel⟩, List.mem_of_getElem? (i := 25) (by decide +kernel), List.mem_of_getElem? (i := 716) (by decide +kernel), List.mem_of_getElem? (i := 717) (by decide +kernel)⟩
theorem lw_p20 : lw_okq (⟨"WornDots", "mixCustomers", "(J)J"⟩, 4) := ⟨⟨by decide +kernel, by decide +kernel⟩, List.mem_of_getElem? (i := 25) (by decide +kernel), List.mem_of_getElem? (i := 730) (by decide +kernel), List.mem_of_getElem? (i := 731) (by decide +kernel)⟩
theorem lw_p21 : lw_okq (⟨"WornDotsModel", "throwsAt", "(I)Z"⟩, 11) := ⟨⟨by decide +kernel, by decide +kernel⟩, List.mem_of_getElem? (i := 958) (by decide +kernel), List.mem_of_getElem? (i := 1009) (by decide +kernel), List.mem_of_getElem? (i := 1010) (by decide +kernel)⟩
theorem lw_p22 : lw_okq (⟨"WornDotsModel", "saves", "()V"⟩, 11) := ⟨⟨by decide +kernel, by decide +kernel⟩, List.mem_of_getElem? (i := 958) (by decide +kernel), List.mem_of_getElem? (i := 1013) (by decide +kernel), List.mem_of_getElem? (i := 1014) (by decide +kernel)⟩
theorem lw_p23 : lw_okq (⟨"WornDotsModel", "sumOf", "(I)I"⟩, 11) := ⟨⟨by decide +kernel, by decide +kernel⟩, List.mem_of_getElem? (i := 958) (by decide +kernel), List.mem_of_getElem? (i := 1017) (by decide +kernel), List.mem_of_getElem? (i := 1018) (by decide +kernel)⟩
theorem lw_p24 : lw_okq (⟨"WornDotsModel", "frees", "(I)V"⟩, 11) := ⟨⟨by decide +kernel, by decide +kernel⟩, List.mem_of_getElem? (i := 958) (by decide +kernel), List.mem_of_getElem? (i := 1024) (by decide +kernel), List.mem_of_getElem? (i := 1025) (by decide +kernel)⟩
theorem lw_p25 : lw_okq (⟨"WornDotsModel", "isLabel", "(I)Z"⟩, 11) := ⟨⟨by decide +kernel, by decide +kernel⟩, List.mem_of_getElem? (i := 958) (by decide +kernel), List.mem_of_getElem? (i := 1046) (by decide +kernel), List.mem_of_getElem? (i := 1047) (by decide +kernel)⟩
theorem lw_p26 : lw_okq (⟨"WornDotsModel", "labelOf", "(II)I"⟩, 11) := ⟨⟨by decide +kernel, by decide +kernel⟩, List.mem_of_getElem? (i := 958) (by decide +kernel), List.mem_of_getElem? (i := 1050) (by decide +kernel), List.mem_of_getElem? (i := 1051) (by decide +kernel)⟩
theorem lw_p27 : lw_okq (⟨"WornDotsModel", "isDot", "(I)Z"⟩, 11) := ⟨⟨by decide +kernel, by decide +kernel⟩, List.mem_of_getElem? (i := 958) (by decide +kernel), List.mem_of_getElem? (i := 1058) (by decide +kernel), List.mem_of_getElem? (i := 1059) (by decide +kernel)⟩
theorem lw_p28 : lw_okq (⟨"WornDotsModel", "isCustomer", "(I)Z"⟩, 11) := ⟨⟨by decide +kernel, by decide +kernel⟩, List.mem_of_getElem? (i := 958) (by decide +kernel), List.mem_of_getElem? (i := 1077) (by decide +kernel), List.mem_of_getElem? (i := 1078) (by decide +kernel)⟩
theorem lw_p29 : lw_okq (⟨"WornDotsModel", "isTaken", "(III)Z"⟩, 11) := ⟨⟨by decide +kernel, by decide +kernel⟩, List.mem_of_getElem? (i := 958) (by decide +kernel), List.mem_of_getElem? (i := 1081) (by decide +kernel), List.mem_of_getElem? (i := 1082) (by decide +kernel)⟩
theorem lw_p30 : lw_okq (⟨"WornDotsModel", "renter", "(I)I"⟩, 11) := ⟨⟨by decide +kernel, by decide +kernel⟩, List.mem_of_getElem? (i := 958) (by decide +kernel), List.mem_of_getElem? (i := 1085) (by decide +kernel), List.mem_of_getElem? (i := 1086) (by decide +kernel)⟩
theorem lw_p31 : lw_okq (⟨"WornDotsModel", "customerOf", "(II)I"⟩, 11) := ⟨⟨by decide +kernel, by decide +kernel⟩, List.mem_of_getElem? (i := 958) (by decide +kernel), List.mem_of_getElem? (i := 1089) (by decide +kernel), List.mem_of_getElem? (i := 1090) (by decide +kernel)⟩
def lw_privs_2 : List (MethodName × Nat) := [(⟨"WornDots$State", "allEarned", "()I"⟩, 8), (⟨"WornDots", "mixDots", "(J)J"⟩, 4), (⟨"WornDots$State", "renterOf", "(I)I"⟩, 8), (⟨"WornDots", "mixLabels", "(J)J"⟩, 4), (⟨"WornDots", "mixCustomers", "(J)J"⟩, 4), (⟨"WornDotsModel", "throwsAt", "(I)Z"⟩, 11), (⟨"WornDotsModel", "saves", "()V"⟩, 11), (⟨"WornDotsModel", "sumOf", "(I)I"⟩, 11), (⟨"WornDotsModel", "frees", "(I)V"⟩, 11), (⟨"WornDotsModel", "isLabel", "(I)Z"⟩, 11), (⟨"WornDotsModel", "labelOf", "(II)I"⟩, 11), (⟨"WornDotsModel", "isDot", "(I)Z"⟩, 11), (⟨"WornDotsModel", "isCustomer", "(I)Z"⟩, 11), (⟨"WornDotsModel", "isTaken", "(III)Z"⟩, 11), (⟨"WornDotsModel", "renter", "(I)I"⟩, 11), (⟨"WornDotsModel", "customerOf", "(II)I"⟩, 11)]
theorem lw_r2 : ∀ q ∈ lw_privs_2, lw_okq q := List.forall_mem_cons.mpr ⟨lw_p16, List.forall_mem_cons.mpr ⟨lw_p17, List.forall_mem_cons.mpr ⟨lw_p18, List.forall_mem_cons.mpr ⟨lw_p19, List.forall_mem_cons.mpr ⟨lw_p20, List.forall_mem_cons.mpr ⟨lw_p21, List.forall_mem_cons.mpr ⟨lw_p22, List.forall_mem_cons.mpr ⟨lw_p23, List.forall_mem_cons.mpr ⟨lw_p24, List.forall_mem_cons.mpr ⟨lw_p25, List.forall_mem_cons.mpr ⟨lw_p26, List.forall_mem_cons.mpr ⟨lw_p27, List.forall_mem_cons.mpr ⟨lw_p28, List.forall_mem_cons.mpr ⟨lw_p29, List.forall_mem_cons.mpr ⟨lw_p30, List.forall_mem_cons.mpr ⟨lw_p31, fun _ h => absurd h List.not_mem_nil⟩⟩⟩⟩⟩⟩⟩⟩⟩⟩⟩⟩⟩⟩⟩⟩
theorem lw_p32 : lw_okq (⟨"WornDotsModel", "rented", "()I"⟩, 11) := ⟨⟨by decide +kernel, by decide +kernel⟩, List.mem_of_getElem? (i := 958) (by decide +kernel), List.mem_of_getElem? (i := 1093) (by decide +kernel), List.mem_of_getElem? (i := 1094) (by decide +kernel)⟩
theorem lw_p33 : lw_okq (⟨"WornDotsModel", "wrong", "(III)I"⟩, 11) := ⟨⟨by decide +kernel, by decide +kernel⟩, List.mem_of_getElem? (i := 958) (by decide +kernel), List.mem_of_getElem? (i := 1105) (by decide +kernel), List.mem_of_getElem? (i := 1106) (by decide +kernel)⟩
theorem lw_p34 : lw_okq (⟨"WornDotsModel", "whyNot", "(III)I"⟩, 11) := ⟨⟨by decide +kernel, by decide +kernel⟩, List.mem_of_getElem? (i := 958) (by decide +kernel), List.mem_of_getElem? (i := 1109) (by decide +kernel), List.mem_of_getElem? (i := 1110) (by decide +kernel)⟩
theorem lw_p35 : lw_okq (⟨"WornDotsModel", "blacks", "(I)I"⟩, 11) := ⟨⟨by decide +kernel, by decide +kernel⟩, List.mem_of_getElem? (i := 958) (by decide +kernel), List.mem_of_getElem? (i := 1113) (by decide +kernel), List.mem_of_getElem? (i := 1114) (by decide +kernel)⟩
theorem lw_p36 : lw_okq (⟨"WornDotsModel", "prints", "(III)I"⟩, 11) := ⟨⟨by decide +kernel, by decide +kernel⟩, List.mem_of_getElem? (i := 958) (by decide +kernel), List.mem_of_getElem? (i := 1120) (by decide +kernel), List.mem_of_getElem? (i := 1121) (by decide +kernel)⟩
theorem lw_p37 : lw_okq (⟨"WornDotsModel", "priceOf", "(III)I"⟩, 11) := ⟨⟨by decide +kernel, by decide +kernel⟩, List.mem_of_getElem? (i := 958) (by decide +kernel), List.mem_of_getElem? (i := 1124) (by decide +kernel), List.mem_of_getElem? (i := 1125) (by decide +kernel)⟩
theorem lw_p38 : lw_okq (⟨"WornDotsModel", "plays", "([III)I"⟩, 11) := ⟨⟨by decide +kernel, by decide +kernel⟩, List.mem_of_getElem? (i := 958) (by decide +kernel), List.mem_of_getElem? (i := 1128) (by decide +kernel), List.mem_of_getElem? (i := 1129) (by decide +kernel)⟩
theorem lw_p39 : lw_okq (⟨"WornDotsModel", "best", "(II)I"⟩, 11) := ⟨⟨by decide +kernel, by decide +kernel⟩, List.mem_of_getElem? (i := 958) (by decide +kernel), List.mem_of_getElem? (i := 1142) (by decide +kernel), List.mem_of_getElem? (i := 1143) (by decide +kernel)⟩
theorem lw_p40 : lw_okq (⟨"WornDotsModel", "badOf", "(II)I"⟩, 11) := ⟨⟨by decide +kernel, by decide +kernel⟩, List.mem_of_getElem? (i := 958) (by decide +kernel), List.mem_of_getElem? (i := 1146) (by decide +kernel), List.mem_of_getElem? (i := 1147) (by decide +kernel)⟩
theorem lw_p41 : lw_okq (⟨"WornDotsModel", "copies", "()V"⟩, 11) := ⟨⟨by decide +kernel, by decide +kernel⟩, List.mem_of_getElem? (i := 958) (by decide +kernel), List.mem_of_getElem? (i := 1150) (by decide +kernel), List.mem_of_getElem? (i := 1151) (by decide +kernel)⟩
theorem lw_p42 : lw_okq (⟨"WornDotsModel", "valueOf", "(II)I"⟩, 11) := ⟨⟨by decide +kernel, by decide +kernel⟩, List.mem_of_getElem? (i := 958) (by decide +kernel), List.mem_of_getElem? (i := 1158) (by decide +kernel), List.mem_of_getElem? (i := 1159) (by decide +kernel)⟩
theorem lw_p43 : lw_okq (⟨"WornDotsModel", "ofLabel", "(II)I"⟩, 11) := ⟨⟨by decide +kernel, by decide +kernel⟩, List.mem_of_getElem? (i := 958) (by decide +kernel), List.mem_of_getElem? (i := 1166) (by decide +kernel), List.mem_of_getElem? (i := 1167) (by decide +kernel)⟩
theorem lw_p44 : lw_okq (⟨"WornDotsModel", "empties", "(I)I"⟩, 11) := ⟨⟨by decide +kernel, by decide +kernel⟩, List.mem_of_getElem? (i := 958) (by decide +kernel), List.mem_of_getElem? (i := 1170) (by decide +kernel), List.mem_of_getElem? (i := 1171) (by decide +kernel)⟩
theorem lw_p45 : lw_okq (⟨"WornDotsModel", "wholeOf", "(I)I"⟩, 11) := ⟨⟨by decide +kernel, by decide +kernel⟩, List.mem_of_getElem? (i := 958) (by decide +kernel), List.mem_of_getElem? (i := 1186) (by decide +kernel), List.mem_of_getElem? (i := 1187) (by decide +kernel)⟩
theorem lw_p46 : lw_okq (⟨"WornDotsModel", "earned", "()I"⟩, 11) := ⟨⟨by decide +kernel, by decide +kernel⟩, List.mem_of_getElem? (i := 958) (by decide +kernel), List.mem_of_getElem? (i := 1190) (by decide +kernel), List.mem_of_getElem? (i := 1191) (by decide +kernel)⟩
theorem lw_p47 : lw_okq (⟨"WornDotsModel", "worn", "()I"⟩, 11) := ⟨⟨by decide +kernel, by decide +kernel⟩, List.mem_of_getElem? (i := 958) (by decide +kernel), List.mem_of_getElem? (i := 1218) (by decide +kernel), List.mem_of_getElem? (i := 1219) (by decide +kernel)⟩
def lw_privs_3 : List (MethodName × Nat) := [(⟨"WornDotsModel", "rented", "()I"⟩, 11), (⟨"WornDotsModel", "wrong", "(III)I"⟩, 11), (⟨"WornDotsModel", "whyNot", "(III)I"⟩, 11), (⟨"WornDotsModel", "blacks", "(I)I"⟩, 11), (⟨"WornDotsModel", "prints", "(III)I"⟩, 11), (⟨"WornDotsModel", "priceOf", "(III)I"⟩, 11), (⟨"WornDotsModel", "plays", "([III)I"⟩, 11), (⟨"WornDotsModel", "best", "(II)I"⟩, 11), (⟨"WornDotsModel", "badOf", "(II)I"⟩, 11), (⟨"WornDotsModel", "copies", "()V"⟩, 11), (⟨"WornDotsModel", "valueOf", "(II)I"⟩, 11), (⟨"WornDotsModel", "ofLabel", "(II)I"⟩, 11), (⟨"WornDotsModel", "empties", "(I)I"⟩, 11), (⟨"WornDotsModel", "wholeOf", "(I)I"⟩, 11), (⟨"WornDotsModel", "earned", "()I"⟩, 11), (⟨"WornDotsModel", "worn", "()I"⟩, 11)]
theorem lw_r3 : ∀ q ∈ lw_privs_3, lw_okq q := List.forall_mem_cons.mpr ⟨lw_p32, List.forall_mem_cons.mpr ⟨lw_p33, List.forall_mem_cons.mpr ⟨lw_p34, List.forall_mem_cons.mpr ⟨lw_p35, List.forall_mem_cons.mpr ⟨lw_p36, List.forall_mem_cons.mpr ⟨lw_p37, List.forall_mem_cons.mpr ⟨lw_p38, List.forall_mem_cons.mpr ⟨lw_p39, List.forall_mem_cons.mpr ⟨lw_p40, List.forall_mem_cons.mpr ⟨lw_p41, List.forall_mem_cons.mpr ⟨lw_p42, List.forall_mem_cons.mpr ⟨lw_p43, List.forall_mem_cons.mpr ⟨lw_p44, List.forall_mem_cons.mpr ⟨lw_p45, List.forall_mem_cons.mpr ⟨lw_p46, List.forall_mem_cons.mpr ⟨lw_p47, fun _ h => absurd h List.not_mem_nil⟩⟩⟩⟩⟩⟩⟩⟩⟩⟩⟩⟩⟩⟩⟩⟩
theorem lw_p48 : lw_okq (⟨"WornDotsModel", "fault", "()I"⟩, 11) := ⟨⟨by decide +kernel, by decide +kernel⟩, List.mem_of_getElem? (i := 958) (by decide +kernel), List.mem_of_getElem? (i := 1234) (by decide +kernel), List.mem_of_getElem? (i := 1235) (by decide +kernel)⟩
theorem lw_p49 : lw_okq (⟨"WornDotsModel", "skips", "()V"⟩, 11) := ⟨⟨by decide +kernel, by decide +kernel⟩, List.mem_of_getElem? (i := 958) (by decide +kernel), List.mem_of_getElem? (i := 1238) (by decide +kernel), List.mem_of_getElem? (i := 1239) (by decide +kernel)⟩
theorem lw_p50 : lw_okq (⟨"WornDotsModel", "isAt", "(II)Z"⟩, 11) := ⟨⟨by decide +kernel, by decide +kernel⟩, List.mem_of_getElem? (i := 958) (by decide +kernel), List.mem_of_getElem? (i := 1242) (by decide +kernel), List.mem_of_getElem? (i := 1243) (by decide +kernel)⟩
theorem lw_p51 : lw_okq (⟨"WornDotsModel", "reads", "()Z"⟩, 11) := ⟨⟨by decide +kernel, by decide +kernel⟩, List.mem_of_getElem? (i := 958) (by decide +kernel), List.mem_of_getElem? (i := 1246) (by decide +kernel), List.mem_of_getElem? (i := 1247) (by decide +kernel)⟩
theorem lw_p52 : lw_okq (⟨"WornDotsModel", "wordOf", "(II)J"⟩, 11) := ⟨⟨by decide +kernel, by decide +kernel⟩, List.mem_of_getElem? (i := 958) (by decide +kernel), List.mem_of_getElem? (i := 1250) (by decide +kernel), List.mem_of_getElem? (i := 1251) (by decide +kernel)⟩
theorem lw_p53 : lw_okq (⟨"WornDotsModel", "number", "(I)Z"⟩, 11) := ⟨⟨by decide +kernel, by decide +kernel⟩, List.mem_of_getElem? (i := 958) (by decide +kernel), List.mem_of_getElem? (i := 1265) (by decide +kernel), List.mem_of_getElem? (i := 1266) (by decide +kernel)⟩
theorem lw_p54 : lw_okq (⟨"WornDotsModel", "does", "()I"⟩, 11) := ⟨⟨by decide +kernel, by decide +kernel⟩, List.mem_of_getElem? (i := 958) (by decide +kernel), List.mem_of_getElem? (i := 1269) (by decide +kernel), List.mem_of_getElem? (i := 1270) (by decide +kernel)⟩
def lw_privs_4 : List (MethodName × Nat) := [(⟨"WornDotsModel", "fault", "()I"⟩, 11), (⟨"WornDotsModel", "skips", "()V"⟩, 11), (⟨"WornDotsModel", "isAt", "(II)Z"⟩, 11), (⟨"WornDotsModel", "reads", "()Z"⟩, 11), (⟨"WornDotsModel", "wordOf", "(II)J"⟩, 11), (⟨"WornDotsModel", "number", "(I)Z"⟩, 11), (⟨"WornDotsModel", "does", "()I"⟩, 11)]
theorem lw_r4 : ∀ q ∈ lw_privs_4, lw_okq q := List.forall_mem_cons.mpr ⟨lw_p48, List.forall_mem_cons.mpr ⟨lw_p49, List.forall_mem_cons.mpr ⟨lw_p50, List.forall_mem_cons.mpr ⟨lw_p51, List.forall_mem_cons.mpr ⟨lw_p52, List.forall_mem_cons.mpr ⟨lw_p53, List.forall_mem_cons.mpr ⟨lw_p54, fun _ h => absurd h List.not_mem_nil⟩⟩⟩⟩⟩⟩⟩
def lw_privs : List (MethodName × Nat) := lw_privs_1 ++ (lw_privs_2 ++ (lw_privs_3 ++ (lw_privs_4)))
def lw_tbl : List Cond := k2_sels lw_privs ++ tables_1
theorem lw_privs_ok : ∀ q ∈ lw_privs, lw_okq q := by
  show ∀ q ∈ lw_privs_1 ++ (lw_privs_2 ++ (lw_privs_3 ++ (lw_privs_4))), lw_okq q
  exact List.forall_mem_append.mpr ⟨lw_r1, List.forall_mem_append.mpr ⟨lw_r2, List.forall_mem_append.mpr ⟨lw_r3, lw_r4⟩⟩⟩
/-! ===== BEGIN words of one list among another's, by their places ===== -/
theorem goodIn_r {big : List Cond} (ws : List Cond) (ps : List Nat) (hp : ws = ps.filterMap (fun i => big[i]?)) (h : ws.all goodWord = true) : GoodIn big ws := by
  intro w hw
  have h1 := List.all_eq_true.mp h w hw
  rw [hp] at hw
  obtain ⟨i, -, hi⟩ := List.mem_filterMap.mp hw
  have hm : w ∈ big := by first | exact List.mem_of_getElem? hi | exact List.getElem?_mem hi
  exact ⟨hm, good_of_word h1⟩
theorem goodIn_app {big a b : List Cond} (ha : GoodIn big a) (hb : GoodIn big b) : GoodIn big (a ++ b) := fun w h => (List.mem_append.mp h).elim (ha w) (hb w)
theorem goodIn_ca {big a b : List Cond} {c : Cond} (ha : GoodIn big (c :: a)) (hb : GoodIn big b) : GoodIn big (c :: (a ++ b)) := fun w h => (List.mem_cons.mp h).elim (fun e => ha w (List.mem_cons.mpr (Or.inl e))) (fun h => (List.mem_append.mp h).elim (fun h => ha w (List.mem_cons.mpr (Or.inr h))) (hb w))
theorem goodIn_sub {big ws : List Cond} (hm : ∀ w ∈ ws, w ∈ big) (h : ws.all goodWord = true) : GoodIn big ws := fun w hw => ⟨hm w hw, good_of_word (List.all_eq_true.mp h w hw)⟩
/-! ===== END ===== -/

/-! ===== BEGIN exceptions that leave a method, and their catching by the caller (launches without stack traces) ===== -/
section VXA
/-! The laws vx_back, vx_callV, vx_callS, vx_callSW, vx_throw0, vx_throwS follow proofs of the library, with one case more: JvmDerived/Free/Laws.lean (Back.of_free), Shelf42/LK1.lean (callV, callS), Shelf/KitTraced.lean (throwNew0V, throwNewS). -/
/-- where a method has thrown q: the class by its name, the cell, what was written, the world -/
def vx_T (XC : String → State → State → Prop) (st : State) (q : Addr) (t : State) (mc ms : Nat) (free : Addr → Prop) : Prop :=
  ∃ (E : String) (ce : Cell) (L : List Loc), XC E st t ∧ t.heap[q]? = some ce ∧ ce.vm = .none ∧ st.vm.findClass E = some ce.cls ∧ st.WarmedH t.vm ∧ st.sameButNew ({ t with vm := st.vm } : State) L mc ms ∧ ∀ z ∈ L, free z.base
def vx_Q (Qc : Array Value → State → Outcome → State → Prop) (XC : String → State → State → Prop) (mc ms : Nat) (free : Addr → Prop) : Array Value → State → Outcome → State → Prop := fun a st o t =>
  (Qc a st o t ∧ ∃ L, FrameEnd st o t L mc ms ∧ ∀ q ∈ L, free q.base) ∨ ∃ q, o = .threw q ∧ vx_T XC st q t mc ms free
/-- a callee that returns or throws -/
def vx_Met (l : Launch) (y : MethodName) (ws : List Cond) (rm : Room) (Pc : Array Value → State → Prop) (Qc : Array Value → State → Outcome → State → Prop) (XC : String → State → State → Prop) (mc ms : Nat) (free : Addr → Prop) : Prop :=
  MetFree l y (headSpec ws rm) Pc (fun _ _ _ _ _ => True) (vx_Q Qc XC mc ms free)
def vx_Post (XC : String → State → State → Prop) (mc ms : Nat) (free : Addr → Prop) : Pt → Array Value → Addr → Pt → Prop := fun A a q B =>
  ∃ (g : JFrame) (mk : MethodId) (t : State) (L : List Loc) (E : String) (ce : Cell), B.U.heap = t.heap ∧ B.U.vm = t.vm ∧ XC E (A.U.calling g mk a) t ∧ t.heap[q]? = some ce ∧ ce.vm = .none ∧ A.U.vm.findClass E = some ce.cls ∧ B.locs = A.locs ++ L ∧ (∀ z ∈ L, free z.base) ∧ B.cells = A.cells + mc ∧ B.slots = A.slots + ms
def vx_Back (l : Launch) (R : Room) (p : Program) (e : Env) (below : List Frame) (s : State) (sargs : Array Value) (y : MethodName) (len W9 : Nat)
    (Pre : Pt → Array Value → Prop) (Post : Pt → Array Value → Option Value → Pt → Prop) (PostX : Pt → Array Value → Addr → Pt → Prop) : Prop :=
  ∀ (m : MethodId) (meth : Method) (c : Code) (A : Pt) (g : JFrame) (ig : Instr) (mk : MethodId) (a : Array Value),
    Stand p l e R s m sargs below meth c A.U A.locs A.cells A.slots → g.method = m → g.locals.size = c.maxLocals → decode c.code g.pc = .ok (ig, len) →
    2 * g.monitorRoom + (g.stack.map fun v => v.category).sum ≤ W9 → A.U.methodNamed? y = some mk → Pre A a →
    (∃ (v : Option Value) (B : Pt), Stand p l e R s m sargs below meth c B.U B.locs B.cells B.slots ∧ Post A a v B ∧
      Steps p.tables e below (doInvoke e (A.U.setTop g) [] mk a).1 (B.U.setTop { g with pc := g.pc + len, stack := v.toList ++ g.stack })) ∨
    (∃ (q : Addr) (B : Pt), Stand p l e R s m sargs below meth c B.U B.locs B.cells B.slots ∧ PostX A a q B ∧
      Steps p.tables e below (doInvoke e (A.U.setTop g) [] mk a).1 ((B.U.setTop g).pushFrame (.throwing q)))
section Payer
variable {l : Launch} {R : Room} {p : Program} {e : Env} {below : List Frame} {s : State} {sargs : Array Value} {y : MethodName} {len W9 : Nat}
theorem vx_back {ws : List Cond} {rm : Room} {Pc : Array Value → State → Prop} {Qc : Array Value → State → Outcome → State → Prop} {XC : String → State → State → Prop} {mc ms : Nat} {free : Addr → Prop} {bytes : ByteArray} {maxL : Nat} {ret : Option FieldType}
    (hM : vx_Met l y ws rm Pc Qc XC mc ms free) (hblind : FrameBlind Pc) (hrc : rm.cells = mc) (hrs : rm.slots = ms)
    (hframes : rm.frames + 1 ≤ R.frames) (hlocals : W9 + (maxL + 11) + rm.locals ≤ R.locals)
    (hws : ∀ w ∈ ws, ∀ a' U, s.WarmedH U.vm → w.before a' U = true) (hcode : Cond.code y bytes maxL ret ∈ ws) (hinit : ∀ a' U, s.WarmedH U.vm → (Cond.initialized y.cls).before a' U = true) :
    vx_Back l R p e below s sargs y len W9 (PreOf R mc ms Pc) (PostOf Qc mc ms free) (vx_Post XC mc ms free) := by
  intro m meth c A g ig mk a X hg hsize hdg hW hn hp
  have h1 : (headSpec ws rm).pre.before a A.U = true := atoms_intro fun w hw => hws w hw _ _ X.warmed
  have h2 : (Cond.code y bytes maxL ret).before a A.U = true := hws _ hcode _ _ X.warmed
  have h3 : (Cond.initialized y.cls).before a A.U = true := hinit _ _ X.warmed
  have h4 : A.cells + (headSpec ws rm).room.cells ≤ R.cells := by rw [show (headSpec ws rm).room.cells = mc from hrc]; exact hp.1
  have h5 : A.slots + (headSpec ws rm).room.slots ≤ R.slots := by rw [show (headSpec ws rm).room.slots = ms from hrs]; exact hp.2.1
  have hPc : Pc a (A.U.calling g mk a) := hblind _ _ _ _ hp.2.2
  obtain ⟨U, Ls, c0, s0⟩ := A
  dsimp only [Pt.U, Pt.locs, Pt.cells, Pt.slots] at h1 h2 h3 h4 h5 X hn hPc ⊢
  obtain ⟨methY, cY, hmY, hcY, -, hlY, -, -, -, -⟩ := Cond.code_spec hn h2
  obtain ⟨kY, hkY, -⟩ := className_of_methodNamed hn
  have hinitY : kY.init = .initialized := Cond.initialized_spec (findClass_of_methodNamed hn) hkY h3
  have h : At U g.method c below := by rw [hg]; exact X.here
  have hlocals9 : W9 + (maxL + 11) + (headSpec ws rm).room.locals ≤ R.locals := hlocals
  have happ : (headSpec ws rm).appliesLoose y e.platform (U.calling g mk a) = true :=
    Spec.appliesLoose_calling (g := g) h hdg hn hkY hinitY
      (X.room_calling (g := g) (R' := (headSpec ws rm).room) hsize hmY hcY hframes (by rw [hlY]; omega) h4 h5) h1
  obtain ⟨mid, hmid⟩ := h.above
  have hfr : (U.setTop g).frames = (.java g :: mid) ++ below := by rw [State.frames_setTop' g h.top, hmid]; rfl
  obtain ⟨o, s₂, hsteps, -, hend, hq⟩ := Steps.callFree hM p X.admits X.cas X.clock (acts := []) hfr happ hPc trivial
  have hq' : vx_Q Qc XC mc ms free a (U.calling g mk a) o s₂ := hq
  rw [State.frames_setTop' g h.top] at hend
  obtain ⟨g₀, hg0⟩ := Option.isSome_iff_exists.mp h.top
  obtain ⟨r, hr⟩ := State.topJava?_eq_some.mp hg0
  have hr' : (({ U with heap := s₂.heap, slotsUsed := s₂.slotsUsed } : State).setVm s₂.vm).frames = .java g₀ :: r := hr
  rcases hq' with ⟨hqc, L, hfe, hL⟩ | ⟨q, rfl, E, ce, L, hx, hce, hcv, hcl, hW₂, hsm, hL⟩
  · obtain ⟨⟨v, rfl⟩, hW₂, e2, q2, q3, q4, q5, q6⟩ := id hfe
    have e3 : s₂ = ({ (U.calling g mk a).setFrames s₂.frames with heap := s₂.heap, slotsUsed := s₂.slotsUsed } : State).setVm s₂.vm := by
      have : s₂ = ({ s₂ with vm := (U.calling g mk a).vm } : State).setVm s₂.vm := rfl
      rw [e2] at this
      exact this
    obtain ⟨c₂, i₂, len₂, hc₂, hd₂, hf₂⟩ := hend
    have hW' : U.WarmedH s₂.vm := hW₂
    have hcc : c₂ = c := by
      have h1 : s₂.code? g.method = U.code? g.method := by
        rw [State.code?_eq, State.code?_eq, hW'.alike.method?]
      exact Option.some.inj (hc₂.symm.trans (h1.trans h.code))
    subst hcc
    have hlen : len₂ = len := by rw [hdg] at hd₂; cases hd₂; rfl
    subst hlen
    have hs₂ : s₂ = (({ U with heap := s₂.heap, slotsUsed := s₂.slotsUsed } : State).setVm s₂.vm).setTop { g with pc := g.pc + len₂, stack := v.toList ++ g.stack } := by
      refine e3.trans ?_
      rw [hf₂, State.calling_eq h.top, State.setFrames_setFrames, State.setTop_of_frames _ hr', hr]
      rfl
    have hsame : U.sameButNew ({ U with heap := s₂.heap, slotsUsed := s₂.slotsUsed } : State) L mc ms := by
      refine ⟨?_, q2, q3, q4, q5, q6⟩
      obtain ⟨t, ht, -⟩ := State.frames_cons hr
      show ({ U with heap := s₂.heap, slotsUsed := s₂.slotsUsed } : State) = { U.setFrames U.frames with heap := s₂.heap, slotsUsed := s₂.slotsUsed }
      rw [State.setFrames_self ht]
    subst hg
    refine Or.inl ⟨v, ⟨(({ U with heap := s₂.heap, slotsUsed := s₂.slotsUsed } : State).setVm s₂.vm), Ls ++ L, c0 + mc, s0 + ms⟩,
      ⟨X.admits, X.cas, X.clock, X.frames, X.room, X.hears, X.method, X.code, (X.here.setHeapUsed s₂.heap s₂.slotsUsed).setVm hW'.alike, X.tail, State.WarmedH.trans X.warmed hW', X.limits, X.bytes, X.same.trans (hsame.setVm s.vm)⟩,
      ⟨g, mk, s₂, L, rfl, rfl, hqc, rfl, hL, rfl, rfl⟩, ?_⟩
    show Steps p.tables e below _ ((({ U with heap := s₂.heap, slotsUsed := s₂.slotsUsed } : State).setVm s₂.vm).setTop { g with pc := g.pc + len₂, stack := v.toList ++ g.stack })
    rw [← hs₂]
    exact hsteps
  · obtain ⟨e2, q2, q3, q4, q5, q6⟩ := id hsm
    have e3 : s₂ = ({ (U.calling g mk a).setFrames s₂.frames with heap := s₂.heap, slotsUsed := s₂.slotsUsed } : State).setVm s₂.vm := by
      have : s₂ = ({ s₂ with vm := (U.calling g mk a).vm } : State).setVm s₂.vm := rfl
      rw [e2] at this
      exact this
    have hf₂ : s₂.frames = .throwing q :: .java g :: U.frames.tail := hend
    have hW' : U.WarmedH s₂.vm := hW₂
    have hs₂ : s₂ = ((({ U with heap := s₂.heap, slotsUsed := s₂.slotsUsed } : State).setVm s₂.vm).setTop g).pushFrame (.throwing q) := by
      refine e3.trans ?_
      rw [hf₂, State.calling_eq h.top, State.setFrames_setFrames, State.pushFrame, State.frames_setTop _ hr', State.setTop_of_frames _ hr', State.setFrames_setFrames, hr]
      rfl
    have hsame : U.sameButNew ({ U with heap := s₂.heap, slotsUsed := s₂.slotsUsed } : State) L mc ms := by
      refine ⟨?_, q2, q3, q4, q5, q6⟩
      obtain ⟨t, ht, -⟩ := State.frames_cons hr
      show ({ U with heap := s₂.heap, slotsUsed := s₂.slotsUsed } : State) = { U.setFrames U.frames with heap := s₂.heap, slotsUsed := s₂.slotsUsed }
      rw [State.setFrames_self ht]
    subst hg
    refine Or.inr ⟨q, ⟨(({ U with heap := s₂.heap, slotsUsed := s₂.slotsUsed } : State).setVm s₂.vm), Ls ++ L, c0 + mc, s0 + ms⟩,
      ⟨X.admits, X.cas, X.clock, X.frames, X.room, X.hears, X.method, X.code, (X.here.setHeapUsed s₂.heap s₂.slotsUsed).setVm hW'.alike, X.tail, State.WarmedH.trans X.warmed hW', X.limits, X.bytes, X.same.trans (hsame.setVm s.vm)⟩,
      ⟨g, mk, s₂, L, E, ce, rfl, rfl, hx, hce, hcv, hcl, rfl, hL, rfl, rfl⟩, ?_⟩
    show Steps p.tables e below _ (((({ U with heap := s₂.heap, slotsUsed := s₂.slotsUsed } : State).setVm s₂.vm).setTop g).pushFrame (.throwing q))
    rw [← hs₂]
    exact hsteps
end Payer
section Calls
variable {p : Program} {l : Launch} {e : Env} {R : Room} {s : State} {m : MethodId} {args : Array Value} {below : List Frame} {meth : Method} {c : Code} {T : State} {locs : List Loc} {cells slots : Nat}
theorem vx_callV (X : Stand p l e R s m args below meth c T locs cells slots) (hexec : p.tables.exec = Jvm.exec) {own C : String} {index : Nat} {y : MethodName} {bytes : ByteArray} {maxL : Nat} {ret : Option FieldType}
    (hown : s.vm.findClass own = some m.cls) (hlink : (Cond.methodLink own index y).before args s = true) (hinst : (Cond.instanceMethod y).before args s = true) (hsel : (Cond.selects C y y).before args s = true)
    (hcode : (Cond.code y bytes maxL ret).before args s = true) (hy : y.cls ≠ "java/lang/invoke/MethodHandle" ∧ y.cls ≠ "java/lang/invoke/VarHandle")
    {W9 : Nat} {Pre : Pt → Array Value → Prop} {Post : Pt → Array Value → Option Value → Pt → Prop} {PostX : Pt → Array Value → Addr → Pt → Prop} (hK : vx_Back l R p e below s args y 3 W9 Pre Post PostX)
    {b : Addr} {cellB : Cell} (hcell : T.heap[b]? = some cellB) (hobj : cellB.vm.isStatics = false) (hcls : s.vm.findClass C = some cellB.cls)
    {g : JFrame} (hg : g.method = m) (hsize : g.locals.size = c.maxLocals) {argsL rest : List Value} (hlen : ∀ sig, parseMethodDescriptor y.desc = some sig → argsL.length = sig.parameters.length)
    (hstack : g.stack = argsL.reverse ++ .ref b :: rest) (hW : 2 * g.monitorRoom + (rest.map fun v => v.category).sum ≤ W9) (hdg : decode c.code g.pc = .ok (.invokevirtual index, 3))
    (hpre : ∀ vm₁, s.WarmedH vm₁ → Pre ⟨T.setVm vm₁, locs, cells, slots⟩ (Value.ref b :: argsL).toArray) :
    (∃ (v : Option Value) (vm₁ : Vm) (B : Pt), s.WarmedH vm₁ ∧ Stand p l e R s m args below meth c B.U B.locs B.cells B.slots ∧ Post ⟨T.setVm vm₁, locs, cells, slots⟩ (Value.ref b :: argsL).toArray v B ∧
      ∀ target, Steps p.tables e below (B.U.setTop { g with pc := g.pc + 3, stack := v.toList ++ rest }) target → Steps p.tables e below (T.setTop g) target) ∨
    (∃ (q : Addr) (vm₁ : Vm) (B : Pt), s.WarmedH vm₁ ∧ Stand p l e R s m args below meth c B.U B.locs B.cells B.slots ∧ PostX ⟨T.setVm vm₁, locs, cells, slots⟩ (Value.ref b :: argsL).toArray q B ∧
      Steps p.tables e below (T.setTop g) ((B.U.setTop { g with stack := rest }).pushFrame (.throwing q))) := by
  obtain ⟨mk, methM, hnamed, hmethM, hstM, habM⟩ := Cond.instanceMethod_spec hinst
  obtain ⟨methM', cM, hmethM', -, -, -, -, -, -, hsigM⟩ := Cond.code_spec hnamed hcode
  cases hmethM.symm.trans hmethM'
  obtain ⟨c2, r2, m2, q1, q2, q3, q4, kP, hkP, hkPi⟩ := Cond.selects_spec hsel
  cases hcls.symm.trans q1
  cases (State.methodFound?_of_named hnamed hy).symm.trans q2
  cases hnamed.symm.trans q3
  have hselP : selectMethod e.platform s.vm cellB.cls mk = .method mk := by rw [Launch.admits_selectMethod X.admits]; exact q4
  obtain ⟨vm₁, X₁, hstep₁⟩ := X.invokevirtual hexec hown hlink hnamed hmethM hstM hkP hkPi hy (a := b) (cell := cellB) hcell
    (fun z h => by rw [h] at hobj; cases hobj) hselP hmethM habM hkP hkPi (g := g) hg (argsL := argsL) (rest := rest) (hlen _ hsigM) hstack hdg
  rcases hK m meth c ⟨T.setVm vm₁, locs, cells, slots⟩ { g with stack := rest } (.invokevirtual index) mk (Value.ref b :: argsL).toArray X₁ hg hsize hdg hW (X₁.named hnamed) (hpre vm₁ X₁.warmed) with ⟨v, B, X', hpost, hsteps⟩ | ⟨q, B, X', hpost, hsteps⟩
  · exact Or.inl ⟨v, vm₁, B, X₁.warmed, X', hpost, fun target h => hstep₁ _ fun acts => by rw [doInvoke_state]; exact hsteps.trans h⟩
  · exact Or.inr ⟨q, vm₁, B, X₁.warmed, X', hpost, hstep₁ _ fun acts => by rw [doInvoke_state]; exact hsteps⟩
theorem vx_callS (X : Stand p l e R s m args below meth c T locs cells slots) (hexec : p.tables.exec = Jvm.exec) {own : String} {index : Nat} {y : MethodName} {bytes : ByteArray} {maxL : Nat} {ret : Option FieldType}
    (hown : s.vm.findClass own = some m.cls) (hlink : (Cond.methodLink own index y).before args s = true) (hstat : (Cond.static y).before args s = true) (hinit : (Cond.initialized y.cls).before args s = true)
    (hcode : (Cond.code y bytes maxL ret).before args s = true) (hy : y.cls ≠ "java/lang/invoke/MethodHandle" ∧ y.cls ≠ "java/lang/invoke/VarHandle")
    {W9 : Nat} {Pre : Pt → Array Value → Prop} {Post : Pt → Array Value → Option Value → Pt → Prop} {PostX : Pt → Array Value → Addr → Pt → Prop} (hK : vx_Back l R p e below s args y 3 W9 Pre Post PostX)
    {g : JFrame} (hg : g.method = m) (hsize : g.locals.size = c.maxLocals) {argsL rest : List Value} (hlen : ∀ sig, parseMethodDescriptor y.desc = some sig → argsL.length = sig.parameters.length)
    (hstack : g.stack = argsL.reverse ++ rest) (hW : 2 * g.monitorRoom + (rest.map fun v => v.category).sum ≤ W9) (hdg : decode c.code g.pc = .ok (.invokestatic index, 3))
    (hpre : ∀ vm₁, s.WarmedH vm₁ → Pre ⟨T.setVm vm₁, locs, cells, slots⟩ argsL.toArray) :
    (∃ (v : Option Value) (vm₁ : Vm) (B : Pt), s.WarmedH vm₁ ∧ Stand p l e R s m args below meth c B.U B.locs B.cells B.slots ∧ Post ⟨T.setVm vm₁, locs, cells, slots⟩ argsL.toArray v B ∧
      ∀ target, Steps p.tables e below (B.U.setTop { g with pc := g.pc + 3, stack := v.toList ++ rest }) target → Steps p.tables e below (T.setTop g) target) ∨
    (∃ (q : Addr) (vm₁ : Vm) (B : Pt), s.WarmedH vm₁ ∧ Stand p l e R s m args below meth c B.U B.locs B.cells B.slots ∧ PostX ⟨T.setVm vm₁, locs, cells, slots⟩ argsL.toArray q B ∧
      Steps p.tables e below (T.setTop g) ((B.U.setTop { g with stack := rest }).pushFrame (.throwing q))) := by
  obtain ⟨mk, hnamed⟩ := Cond.code_named hcode
  obtain ⟨methM, cM, hmethM, -, -, -, -, -, -, hsigM⟩ := Cond.code_spec hnamed hcode
  have hstatic : methM.isStatic = true := Cond.static_spec hnamed hmethM hstat
  obtain ⟨kP, hkP, -⟩ := className_of_methodNamed hnamed
  have hinitP : kP.init = .initialized := Cond.initialized_spec (findClass_of_methodNamed hnamed) hkP hinit
  obtain ⟨vm₁, X₁, hstep₁⟩ := X.invokestatic hexec hown hlink hnamed hmethM hstatic hkP hinitP hy (g := g) hg (argsL := argsL) (rest := rest) (hlen _ hsigM) hstack hdg
  rcases hK m meth c ⟨T.setVm vm₁, locs, cells, slots⟩ { g with stack := rest } (.invokestatic index) mk argsL.toArray X₁ hg hsize hdg hW (X₁.named hnamed) (hpre vm₁ X₁.warmed) with ⟨v, B, X', hpost, hsteps⟩ | ⟨q, B, X', hpost, hsteps⟩
  · exact Or.inl ⟨v, vm₁, B, X₁.warmed, X', hpost, fun target h => hstep₁ _ fun acts => by rw [doInvoke_state]; exact hsteps.trans h⟩
  · exact Or.inr ⟨q, vm₁, B, X₁.warmed, X', hpost, hstep₁ _ fun acts => by rw [doInvoke_state]; exact hsteps⟩
end Calls
theorem vx_cls {s : State} {T : State} {vm₁ : Vm} {E : String} {k : ClassId} (hW : s.WarmedH vm₁) (h : (T.setVm vm₁).vm.findClass E = some k) : s.vm.findClass E = some k := by
  have h1 : vm₁.findClass E = some k := h
  rw [hW.alike.findClass] at h1
  exact h1
/-- the method's frame g, with q thrown over it -/
def vx_W (p : Program) (l : Launch) (e : Env) (R : Room) (s : State) (m : MethodId) (args : Array Value) (below : List Frame) (meth : Method) (c : Code) (H : Heap) (locs : List Loc) (cells slots : Nat) (Q : State → Prop) (g : JFrame) (q : Addr) : Prop :=
  ∀ T : State, T.heap = H → Stand p l e R s m args below meth c T locs cells slots → ∃ t, Steps p.tables e below ((T.setTop g).pushFrame (.throwing q)) t ∧ Q t
def vx_Run (p : Program) (l : Launch) (e : Env) (R : Room) (s : State) (m : MethodId) (args : Array Value) (below : List Frame) (meth : Method) (c : Code) (H : Heap) (locs : List Loc) (cells slots mc ms : Nat) (g : JFrame) (rest : List Value) (Qa : State → Outcome → State → Prop) (XC : String → State → State → Prop) (free : Addr → Prop) : Prop :=
  ∀ T : State, T.heap = H → Stand p l e R s m args below meth c T locs cells slots →
    (∃ (v : Option Value) (st₀ t T' : State) (L : List Loc), st₀.heap = H ∧ Stand p l e R s m args below meth c T' (locs ++ L) (cells + mc) (slots + ms) ∧ (∀ q ∈ L, free q.base) ∧ T'.heap = t.heap ∧ T'.vm = t.vm ∧ Qa st₀ (.returned v) t ∧
      Goes p e below T g T' { g with pc := g.pc + 3, stack := v.toList ++ rest }) ∨
    (∃ (q : Addr) (st₀ t T' : State) (L : List Loc) (E : String) (ce : Cell), st₀.heap = H ∧ Stand p l e R s m args below meth c T' (locs ++ L) (cells + mc) (slots + ms) ∧ (∀ z ∈ L, free z.base) ∧ T'.heap = t.heap ∧ T'.vm = t.vm ∧ XC E st₀ t ∧ t.heap[q]? = some ce ∧ ce.vm = .none ∧ s.vm.findClass E = some ce.cls ∧
      Steps p.tables e below (T.setTop g) ((T'.setTop { g with stack := rest }).pushFrame (.throwing q)))
def vx_X {S : Type} (px : S → Prop) (B : String → S → State → Prop) (A : Nat → Prop) : String → State → State → Prop := fun E st t => ∃ u : S, px u ∧ B E u t ∧ va_F A st t
section Runs
variable {p : Program} {l : Launch} {e : Env} {R : Room} {s : State} {m : MethodId} {args : Array Value} {below : List Frame} {meth : Method} {c : Code} {H : Heap} {locs : List Loc} {cells slots : Nat}
variable {y : MethodName} {bytes cc : ByteArray} {maxL nL mc ms n index : Nat} {ret : Option FieldType} {ws : List Cond} {rm : Room} {Pc : Array Value → State → Prop} {Qc : Array Value → State → Outcome → State → Prop} {XC : String → State → State → Prop} {free : Addr → Prop} {Ts : List Cond} {own C : String} {b : Addr} {As rest : List Value} {g : JFrame}
theorem vx_callBack (cb : CallB R s args own index y bytes maxL ret ws rm mc ms n) (hM : vx_Met l y ws rm Pc Qc XC mc ms free) (hbl : FrameBlind Pc) : vx_Back l R p e below s args y 3 8 (PreOf R mc ms Pc) (PostOf Qc mc ms free) (vx_Post XC mc ms free) := by
  obtain ⟨hrc, hrs, hfr, hlo, hws, hcw, -, hini, -⟩ := cb
  exact vx_back (bytes := bytes) (maxL := maxL) (ret := ret) hM hbl hrc hrs hfr hlo hws hcw (fun a' U hW => word_at hW (Or.inl (by first | rfl | simp [Cond.onTables, Cond.keeps, Cond.steady])) hini)
theorem vx_runV (S : CallFix p m c cc nL s args Ts own) (hM : vx_Met l y ws rm Pc Qc XC mc ms free) (cw : CallW R s args own C index y bytes maxL ret ws rm mc ms n) (hp : PreV s H C b Pc As)
    (hg : g.method = m) (hn : As.length = n) (hsize : g.locals.size = nL) (hstack : g.stack = As.reverse ++ .ref b :: rest) (hW : 2 * g.monitorRoom + (rest.map fun v => v.category).sum ≤ 8) (hdg : decode cc g.pc = .ok (.invokevirtual index, 3)) (hf : cells + mc ≤ R.cells ∧ slots + ms ≤ R.slots) :
    vx_Run p l e R s m args below meth c H locs cells slots mc ms g rest (Qc (Value.ref b :: As).toArray) XC free := by
  have hK : vx_Back l R p e below s args y 3 8 (PreOf R mc ms Pc) (PostOf Qc mc ms free) (vx_Post XC mc ms free) := vx_callBack cw.1 hM hp.1
  obtain ⟨⟨-, -, -, -, -, -, hcode, -, hy, hlen, hl⟩, hin, hse⟩ := cw
  obtain ⟨hx, hb, hml, ho, -⟩ := S
  obtain ⟨-, ⟨cellB, hcB, hoB, hclB⟩, hPc⟩ := hp
  intro T hT X
  rcases vx_callV X hx (C := C) (bytes := bytes) (maxL := maxL) (ret := ret) ho hl hin hse hcode hy hK (by rw [hT]; exact hcB) hoB hclB hg (hsize.trans hml.symm) (argsL := As) (rest := rest) (fun sig h => hn.trans (hlen sig h)) hstack hW (by rw [hb]; exact hdg)
    (fun vm₁ hW₁ => ⟨hf.1, hf.2, hPc (T.setVm vm₁) hT hW₁⟩) with ⟨v, vm₁, ⟨U', l2, c2, s2⟩, hW₁, X', ⟨g', mk, t, L, e1, e2, hq, h1, hL, h2, h3⟩, st⟩ | ⟨q, vm₁, ⟨U', l2, c2, s2⟩, hW₁, X', ⟨g', mk, t, L, E, ce, e1, e2, hq, hce, hcv, hcl, h1, hL, h2, h3⟩, st⟩
  · dsimp only [Pt.U, Pt.locs, Pt.cells, Pt.slots] at X' e1 e2 h1 h2 h3 st
    subst h1; subst h2; subst h3
    exact Or.inl ⟨v, (T.setVm vm₁).calling g' mk (Value.ref b :: As).toArray, t, U', L, hT, X', hL, e1, e2, hq, st⟩
  · dsimp only [Pt.U, Pt.locs, Pt.cells, Pt.slots] at X' e1 e2 h1 h2 h3 st hcl
    subst h1; subst h2; subst h3
    exact Or.inr ⟨q, (T.setVm vm₁).calling g' mk (Value.ref b :: As).toArray, t, U', L, E, ce, hT, X', hL, e1, e2, hq, hce, hcv, vx_cls hW₁ hcl, st⟩
theorem vx_runS (S : CallFix p m c cc nL s args Ts own) (hM : vx_Met l y ws rm Pc Qc XC mc ms free) (cw : CallB R s args own index y bytes maxL ret ws rm mc ms n ∧ (Cond.static y).before args s = true) (hp : PreS s H Pc As)
    (hg : g.method = m) (hn : As.length = n) (hsize : g.locals.size = nL) (hstack : g.stack = As.reverse ++ rest) (hW : 2 * g.monitorRoom + (rest.map fun v => v.category).sum ≤ 8) (hdg : decode cc g.pc = .ok (.invokestatic index, 3)) (hf : cells + mc ≤ R.cells ∧ slots + ms ≤ R.slots) :
    vx_Run p l e R s m args below meth c H locs cells slots mc ms g rest (Qc As.toArray) XC free := by
  have hK : vx_Back l R p e below s args y 3 8 (PreOf R mc ms Pc) (PostOf Qc mc ms free) (vx_Post XC mc ms free) := vx_callBack cw.1 hM hp.1
  obtain ⟨⟨-, -, -, -, -, -, hcode, hini, hy, hlen, hl⟩, hstt⟩ := cw
  obtain ⟨hx, hb, hml, ho, -⟩ := S
  intro T hT X
  rcases vx_callS X hx (bytes := bytes) (maxL := maxL) (ret := ret) ho hl hstt hini hcode hy hK hg (hsize.trans hml.symm) (argsL := As) (rest := rest) (fun sig h => hn.trans (hlen sig h)) hstack hW (by rw [hb]; exact hdg)
    (fun vm₁ hW₁ => ⟨hf.1, hf.2, hp.2 (T.setVm vm₁) hT hW₁⟩) with ⟨v, vm₁, ⟨U', l2, c2, s2⟩, hW₁, X', ⟨g', mk, t, L, e1, e2, hq, h1, hL, h2, h3⟩, st⟩ | ⟨q, vm₁, ⟨U', l2, c2, s2⟩, hW₁, X', ⟨g', mk, t, L, E, ce, e1, e2, hq, hce, hcv, hcl, h1, hL, h2, h3⟩, st⟩
  · dsimp only [Pt.U, Pt.locs, Pt.cells, Pt.slots] at X' e1 e2 h1 h2 h3 st
    subst h1; subst h2; subst h3
    exact Or.inl ⟨v, (T.setVm vm₁).calling g' mk As.toArray, t, U', L, hT, X', hL, e1, e2, hq, st⟩
  · dsimp only [Pt.U, Pt.locs, Pt.cells, Pt.slots] at X' e1 e2 h1 h2 h3 st hcl
    subst h1; subst h2; subst h3
    exact Or.inr ⟨q, (T.setVm vm₁).calling g' mk As.toArray, t, U', L, E, ce, hT, X', hL, e1, e2, hq, hce, hcv, vx_cls hW₁ hcl, st⟩
end Runs
section Rows
variable {p : Program} {l : Launch} {e : Env} {R : Room} {s : State} {m : MethodId} {args : Array Value} {below : List Frame} {meth : Method} {c : Code} {H : Heap} {locs : List Loc} {cells slots : Nat} {Q : State → Prop}
variable {mc ms : Nat} {free : Addr → Prop} {A0 A1 : Nat → Prop} {H0 : Heap} {a : Array Value} {pc : Nat} {ls : Array Slot} {st0 rest : List Value}
theorem vx_keep {st₀ t T' : State} {L : List Loc} (h0 : st₀.heap = H) (e1 : T'.heap = t.heap) (hS : va_S A0 H0 H locs) (hA : ∀ q, q < H.size → A1 q → A0 q) (hf : ∀ q, free q → A0 q) (hL : ∀ q ∈ L, free q.base) (hF : va_F A1 st₀ t) :
    H.size ≤ T'.heap.size ∧ (∀ q : Nat, q < H.size → ¬ A1 q → T'.heap[q]? = H[q]?) ∧ va_S A0 H0 T'.heap (locs ++ L) := by
  obtain ⟨hz, hk⟩ := hF
  rw [h0] at hz hk
  exact ⟨by rw [e1]; exact hz, fun q h1 h2 => by rw [e1]; exact hk q h1 h2,
    ⟨Nat.le_trans hS.1 (by rw [e1]; exact hz), fun q h1 h2 => by rw [e1, hk q (Nat.lt_of_lt_of_le h1 hS.1) (fun z => h2 (hA q (Nat.lt_of_lt_of_le h1 hS.1) z))]; exact hS.2.1 q h1 h2, fun q hq => by
      rcases List.mem_append.mp hq with h | h
      · exact hS.2.2 q h
      · exact hf _ (hL q h)⟩⟩
theorem vx_calli {S SX : Type} {post : Int32 → S → Prop} {px : SX → Prop} {B : S → State → Prop} {BX : String → SX → State → Prop} {AX : Nat → Prop} (hr : vx_Run p l e R s m args below meth c H locs cells slots mc ms (F0 m pc ls st0) rest (va_Qi post B A1 a) (vx_X px BX AX) free) (hS : va_S A0 H0 H locs) (hA : ∀ q, q < H.size → A1 q → A0 q) (hf : ∀ q, free q → A0 q) (hAX : ∀ q, q < H.size → AX q → A0 q)
    (kx : ∀ (E : String) (ce : Cell) (q9 : Addr) (u : SX) (t : State) (H1 : Heap) (locs1 : List Loc), t.heap = H1 → s.vm.Alike t.vm → px u → BX E u t → H.size ≤ H1.size → (∀ q : Nat, q < H.size → ¬ AX q → H1[q]? = H[q]?) → va_S A0 H0 H1 locs1 → H1[q9]? = some ce → ce.vm = .none → s.vm.findClass E = some ce.cls → vx_W p l e R s m args below meth c H1 locs1 (cells + mc) (slots + ms) Q (F0 m pc ls rest) q9)
    (kk : ∀ (r : Int32) (u : S) (t : State) (H1 : Heap) (locs1 : List Loc), t.heap = H1 → s.vm.Alike t.vm → post r u → B u t → H.size ≤ H1.size → (∀ q : Nat, q < H.size → ¬ A1 q → H1[q]? = H[q]?) → va_S A0 H0 H1 locs1 → W p l e R s m args below meth c H1 locs1 (cells + mc) (slots + ms) Q (F0 m (pc + 3) ls (.int r :: rest))) : W p l e R s m args below meth c H locs cells slots Q (F0 m pc ls st0) := by
  intro T hT X
  rcases hr T hT X with ⟨v, st₀, t, T', L, h0, X', hL, e1, e2, ⟨⟨r, u, hv, hp, hb⟩, hF⟩, st⟩ | ⟨q, st₀, t, T', L, E, ce, h0, X', hL, e1, e2, ⟨u, hp, hb, hF⟩, hce, hcv, hcl, st⟩
  · cases hv
    obtain ⟨k1, k2, k3⟩ := vx_keep h0 e1 hS hA hf hL hF
    obtain ⟨t2, a1, b1⟩ := kk r u t T'.heap (locs ++ L) e1.symm (by rw [← e2]; exact X'.warmed.alike) hp hb k1 k2 k3 T' rfl X'
    exact ⟨t2, st t2 a1, b1⟩
  · obtain ⟨k1, k2, k3⟩ := vx_keep h0 e1 hS hAX hf hL hF
    obtain ⟨t2, a1, b1⟩ := kx E ce q u t T'.heap (locs ++ L) e1.symm (by rw [← e2]; exact X'.warmed.alike) hp hb k1 k2 k3 (by rw [e1]; exact hce) hcv hcl T' rfl X'
    exact ⟨t2, st.trans a1, b1⟩
theorem vx_calll {S SX : Type} {post : Int64 → S → Prop} {px : SX → Prop} {B : S → State → Prop} {BX : String → SX → State → Prop} {AX : Nat → Prop} (hr : vx_Run p l e R s m args below meth c H locs cells slots mc ms (F0 m pc ls st0) rest (va_Ql post B A1 a) (vx_X px BX AX) free) (hS : va_S A0 H0 H locs) (hA : ∀ q, q < H.size → A1 q → A0 q) (hf : ∀ q, free q → A0 q) (hAX : ∀ q, q < H.size → AX q → A0 q)
    (kx : ∀ (E : String) (ce : Cell) (q9 : Addr) (u : SX) (t : State) (H1 : Heap) (locs1 : List Loc), t.heap = H1 → s.vm.Alike t.vm → px u → BX E u t → H.size ≤ H1.size → (∀ q : Nat, q < H.size → ¬ AX q → H1[q]? = H[q]?) → va_S A0 H0 H1 locs1 → H1[q9]? = some ce → ce.vm = .none → s.vm.findClass E = some ce.cls → vx_W p l e R s m args below meth c H1 locs1 (cells + mc) (slots + ms) Q (F0 m pc ls rest) q9)
    (kk : ∀ (r : Int64) (u : S) (t : State) (H1 : Heap) (locs1 : List Loc), t.heap = H1 → s.vm.Alike t.vm → post r u → B u t → H.size ≤ H1.size → (∀ q : Nat, q < H.size → ¬ A1 q → H1[q]? = H[q]?) → va_S A0 H0 H1 locs1 → W p l e R s m args below meth c H1 locs1 (cells + mc) (slots + ms) Q (F0 m (pc + 3) ls (.long r :: rest))) : W p l e R s m args below meth c H locs cells slots Q (F0 m pc ls st0) := by
  intro T hT X
  rcases hr T hT X with ⟨v, st₀, t, T', L, h0, X', hL, e1, e2, ⟨⟨r, u, hv, hp, hb⟩, hF⟩, st⟩ | ⟨q, st₀, t, T', L, E, ce, h0, X', hL, e1, e2, ⟨u, hp, hb, hF⟩, hce, hcv, hcl, st⟩
  · cases hv
    obtain ⟨k1, k2, k3⟩ := vx_keep h0 e1 hS hA hf hL hF
    obtain ⟨t2, a1, b1⟩ := kk r u t T'.heap (locs ++ L) e1.symm (by rw [← e2]; exact X'.warmed.alike) hp hb k1 k2 k3 T' rfl X'
    exact ⟨t2, st t2 a1, b1⟩
  · obtain ⟨k1, k2, k3⟩ := vx_keep h0 e1 hS hAX hf hL hF
    obtain ⟨t2, a1, b1⟩ := kx E ce q u t T'.heap (locs ++ L) e1.symm (by rw [← e2]; exact X'.warmed.alike) hp hb k1 k2 k3 (by rw [e1]; exact hce) hcv hcl T' rfl X'
    exact ⟨t2, st.trans a1, b1⟩
theorem vx_callf {S SX : Type} {post : UInt32 → S → Prop} {px : SX → Prop} {B : S → State → Prop} {BX : String → SX → State → Prop} {AX : Nat → Prop} (hr : vx_Run p l e R s m args below meth c H locs cells slots mc ms (F0 m pc ls st0) rest (va_Qf post B A1 a) (vx_X px BX AX) free) (hS : va_S A0 H0 H locs) (hA : ∀ q, q < H.size → A1 q → A0 q) (hf : ∀ q, free q → A0 q) (hAX : ∀ q, q < H.size → AX q → A0 q)
    (kx : ∀ (E : String) (ce : Cell) (q9 : Addr) (u : SX) (t : State) (H1 : Heap) (locs1 : List Loc), t.heap = H1 → s.vm.Alike t.vm → px u → BX E u t → H.size ≤ H1.size → (∀ q : Nat, q < H.size → ¬ AX q → H1[q]? = H[q]?) → va_S A0 H0 H1 locs1 → H1[q9]? = some ce → ce.vm = .none → s.vm.findClass E = some ce.cls → vx_W p l e R s m args below meth c H1 locs1 (cells + mc) (slots + ms) Q (F0 m pc ls rest) q9)
    (kk : ∀ (r : UInt32) (u : S) (t : State) (H1 : Heap) (locs1 : List Loc), t.heap = H1 → s.vm.Alike t.vm → post r u → B u t → H.size ≤ H1.size → (∀ q : Nat, q < H.size → ¬ A1 q → H1[q]? = H[q]?) → va_S A0 H0 H1 locs1 → W p l e R s m args below meth c H1 locs1 (cells + mc) (slots + ms) Q (F0 m (pc + 3) ls (.float r :: rest))) : W p l e R s m args below meth c H locs cells slots Q (F0 m pc ls st0) := by
  intro T hT X
  rcases hr T hT X with ⟨v, st₀, t, T', L, h0, X', hL, e1, e2, ⟨⟨r, u, hv, hp, hb⟩, hF⟩, st⟩ | ⟨q, st₀, t, T', L, E, ce, h0, X', hL, e1, e2, ⟨u, hp, hb, hF⟩, hce, hcv, hcl, st⟩
  · cases hv
    obtain ⟨k1, k2, k3⟩ := vx_keep h0 e1 hS hA hf hL hF
    obtain ⟨t2, a1, b1⟩ := kk r u t T'.heap (locs ++ L) e1.symm (by rw [← e2]; exact X'.warmed.alike) hp hb k1 k2 k3 T' rfl X'
    exact ⟨t2, st t2 a1, b1⟩
  · obtain ⟨k1, k2, k3⟩ := vx_keep h0 e1 hS hAX hf hL hF
    obtain ⟨t2, a1, b1⟩ := kx E ce q u t T'.heap (locs ++ L) e1.symm (by rw [← e2]; exact X'.warmed.alike) hp hb k1 k2 k3 (by rw [e1]; exact hce) hcv hcl T' rfl X'
    exact ⟨t2, st.trans a1, b1⟩
theorem vx_calld {S SX : Type} {post : UInt64 → S → Prop} {px : SX → Prop} {B : S → State → Prop} {BX : String → SX → State → Prop} {AX : Nat → Prop} (hr : vx_Run p l e R s m args below meth c H locs cells slots mc ms (F0 m pc ls st0) rest (va_Qd post B A1 a) (vx_X px BX AX) free) (hS : va_S A0 H0 H locs) (hA : ∀ q, q < H.size → A1 q → A0 q) (hf : ∀ q, free q → A0 q) (hAX : ∀ q, q < H.size → AX q → A0 q)
    (kx : ∀ (E : String) (ce : Cell) (q9 : Addr) (u : SX) (t : State) (H1 : Heap) (locs1 : List Loc), t.heap = H1 → s.vm.Alike t.vm → px u → BX E u t → H.size ≤ H1.size → (∀ q : Nat, q < H.size → ¬ AX q → H1[q]? = H[q]?) → va_S A0 H0 H1 locs1 → H1[q9]? = some ce → ce.vm = .none → s.vm.findClass E = some ce.cls → vx_W p l e R s m args below meth c H1 locs1 (cells + mc) (slots + ms) Q (F0 m pc ls rest) q9)
    (kk : ∀ (r : UInt64) (u : S) (t : State) (H1 : Heap) (locs1 : List Loc), t.heap = H1 → s.vm.Alike t.vm → post r u → B u t → H.size ≤ H1.size → (∀ q : Nat, q < H.size → ¬ A1 q → H1[q]? = H[q]?) → va_S A0 H0 H1 locs1 → W p l e R s m args below meth c H1 locs1 (cells + mc) (slots + ms) Q (F0 m (pc + 3) ls (.double r :: rest))) : W p l e R s m args below meth c H locs cells slots Q (F0 m pc ls st0) := by
  intro T hT X
  rcases hr T hT X with ⟨v, st₀, t, T', L, h0, X', hL, e1, e2, ⟨⟨r, u, hv, hp, hb⟩, hF⟩, st⟩ | ⟨q, st₀, t, T', L, E, ce, h0, X', hL, e1, e2, ⟨u, hp, hb, hF⟩, hce, hcv, hcl, st⟩
  · cases hv
    obtain ⟨k1, k2, k3⟩ := vx_keep h0 e1 hS hA hf hL hF
    obtain ⟨t2, a1, b1⟩ := kk r u t T'.heap (locs ++ L) e1.symm (by rw [← e2]; exact X'.warmed.alike) hp hb k1 k2 k3 T' rfl X'
    exact ⟨t2, st t2 a1, b1⟩
  · obtain ⟨k1, k2, k3⟩ := vx_keep h0 e1 hS hAX hf hL hF
    obtain ⟨t2, a1, b1⟩ := kx E ce q u t T'.heap (locs ++ L) e1.symm (by rw [← e2]; exact X'.warmed.alike) hp hb k1 k2 k3 (by rw [e1]; exact hce) hcv hcl T' rfl X'
    exact ⟨t2, st.trans a1, b1⟩
theorem vx_callv {S SX : Type} {post : S → Prop} {px : SX → Prop} {B : S → State → Prop} {BX : String → SX → State → Prop} {AX : Nat → Prop} (hr : vx_Run p l e R s m args below meth c H locs cells slots mc ms (F0 m pc ls st0) rest (va_Qv post B A1 a) (vx_X px BX AX) free) (hS : va_S A0 H0 H locs) (hA : ∀ q, q < H.size → A1 q → A0 q) (hf : ∀ q, free q → A0 q) (hAX : ∀ q, q < H.size → AX q → A0 q)
    (kx : ∀ (E : String) (ce : Cell) (q9 : Addr) (u : SX) (t : State) (H1 : Heap) (locs1 : List Loc), t.heap = H1 → s.vm.Alike t.vm → px u → BX E u t → H.size ≤ H1.size → (∀ q : Nat, q < H.size → ¬ AX q → H1[q]? = H[q]?) → va_S A0 H0 H1 locs1 → H1[q9]? = some ce → ce.vm = .none → s.vm.findClass E = some ce.cls → vx_W p l e R s m args below meth c H1 locs1 (cells + mc) (slots + ms) Q (F0 m pc ls rest) q9)
    (kk : ∀ (u : S) (t : State) (H1 : Heap) (locs1 : List Loc), t.heap = H1 → s.vm.Alike t.vm → post u → B u t → H.size ≤ H1.size → (∀ q : Nat, q < H.size → ¬ A1 q → H1[q]? = H[q]?) → va_S A0 H0 H1 locs1 → W p l e R s m args below meth c H1 locs1 (cells + mc) (slots + ms) Q (F0 m (pc + 3) ls (rest))) : W p l e R s m args below meth c H locs cells slots Q (F0 m pc ls st0) := by
  intro T hT X
  rcases hr T hT X with ⟨v, st₀, t, T', L, h0, X', hL, e1, e2, ⟨⟨u, hv, hp, hb⟩, hF⟩, st⟩ | ⟨q, st₀, t, T', L, E, ce, h0, X', hL, e1, e2, ⟨u, hp, hb, hF⟩, hce, hcv, hcl, st⟩
  · cases hv
    obtain ⟨k1, k2, k3⟩ := vx_keep h0 e1 hS hA hf hL hF
    obtain ⟨t2, a1, b1⟩ := kk u t T'.heap (locs ++ L) e1.symm (by rw [← e2]; exact X'.warmed.alike) hp hb k1 k2 k3 T' rfl X'
    exact ⟨t2, st t2 a1, b1⟩
  · obtain ⟨k1, k2, k3⟩ := vx_keep h0 e1 hS hAX hf hL hF
    obtain ⟨t2, a1, b1⟩ := kx E ce q u t T'.heap (locs ++ L) e1.symm (by rw [← e2]; exact X'.warmed.alike) hp hb k1 k2 k3 (by rw [e1]; exact hce) hcv hcl T' rfl X'
    exact ⟨t2, st.trans a1, b1⟩
/-- caught by the row x of this method's table; the rows ahead don't take it -/
theorem vx_catch {own name : String} {E : String} {ce : Cell} {q : Addr} (hown : s.vm.findClass own = some m.cls) (pre : List ExceptionTableEntry) (x : ExceptionTableEntry) (suf : List ExceptionTableEntry) (hsplit : c.exceptionTable.toList = pre ++ x :: suf)
    (hpass : ∀ z ∈ pre, covers z pc = false ∨ (z.catchType ≠ 0 ∧ ∃ nm : String, (Cond.classLink own z.catchType nm).before args s = true ∧ va_Nc E nm s)) (hx : covers x pc = true) (h0 : x.catchType ≠ 0)
    (hlink : (Cond.classLink own x.catchType name).before args s = true) (hcast : (Cond.castable E name).before args s = true) (hcell : H[q]? = some ce) (hv : ce.vm = .none) (hcl : s.vm.findClass E = some ce.cls)
    (kk : W p l e R s m args below meth c H locs cells slots Q (F0 m x.handlerPc ls [.ref q])) : vx_W p l e R s m args below meth c H locs cells slots Q (F0 m pc ls rest) q := by
  intro T hT X
  have hpl : e.platform.magicAccessors = ({} : Platform).magicAccessors := by rw [X.admits.platform]
  obtain ⟨c3, c4, hc3, hc4, hasg⟩ := Cond.castable_spec hcast
  cases Option.some.inj (hc3.symm.trans hcl)
  obtain ⟨c5, hc5, hcl5⟩ := Cond.classLink_spec hown hlink e.platform hpl
  cases Option.some.inj (hc4.symm.trans hc5)
  obtain ⟨vm', X', st⟩ := X.thenCaughtThrough q (g := F0 m pc ls rest) rfl (Steps.refl _) (by rw [hT]; exact hcell) (by rw [hv]; rfl) (by obtain ⟨k9, h9, -⟩ := Vm.findClass_spec hcl; exact ⟨k9, h9⟩) pre x suf hsplit
    (fun z hz => by
      rcases hpass z hz with h | ⟨hz0, nm, hl1, hn1⟩
      · exact Or.inl h
      · obtain ⟨c6, hc6, hcl6⟩ := Cond.classLink_spec hown hl1 e.platform hpl
        obtain ⟨a8, b8, h1, h2, h3⟩ := hn1
        cases Option.some.inj (h1.symm.trans hcl)
        cases Option.some.inj (h2.symm.trans hc6)
        exact Or.inr ⟨hz0, _, hcl6, h3⟩) hx (Or.inr ⟨h0, c4, hcl5, hasg⟩)
  obtain ⟨t, a1, b1⟩ := kk (T.setVm vm') hT X'
  exact ⟨t, st.trans a1, b1⟩
end Rows
section Ends
variable {p : Program} {l : Launch} {e : Env} {R : Room} {s : State} {m : MethodId} {args : Array Value} {below : List Frame} {meth : Method} {c : Code} {H : Heap} {locs : List Loc} {cells slots : Nat} {Q : State → Prop}
variable {mc ms : Nat} {free : Addr → Prop} {A0 A1 : Nat → Prop} {H0 : Heap} {a : Array Value} {ls : Array Slot} {st0 rest : List Value}
variable {Qc : Array Value → State → Outcome → State → Prop} {XC : String → State → State → Prop}
/-- what a body that may throw owes at its end -/
def vx_MQ (below : List Frame) (Qc : Array Value → State → Outcome → State → Prop) (XC : String → State → State → Prop) (a : Array Value) (s : State) (mc ms : Nat) (free : Addr → Prop) : State → Prop := fun t =>
  ∃ o, t.status = .running ∧ Ended t below o ∧ vx_Q Qc XC mc ms free a s o t
theorem vx_ret {g : JFrame} {mc ms : Nat} (k : W p l e R s m args below meth c H locs cells slots (MQ below Qc args s mc ms free) g) : W p l e R s m args below meth c H locs cells slots (vx_MQ below Qc XC args s mc ms free) g := by
  intro T hT X
  obtain ⟨t, a1, o, b1, b2, b3, b4⟩ := k T hT X
  exact ⟨t, a1, o, b1, b2, Or.inl ⟨b3, b4⟩⟩
/-- not caught here: it goes on to the caller -/
theorem vx_widen {g : JFrame} {q : Addr} {k n : Nat} (h1 : cells ≤ k) (h2 : slots ≤ n) (kk : vx_W p l e R s m args below meth c H locs k n Q g q) : vx_W p l e R s m args below meth c H locs cells slots Q g q := fun T hT X => kk T hT (stand_widen X h1 h2)
theorem vx_out {pc : Nat} {E : String} {ce : Cell} {q : Addr} {mc ms : Nat} (hout : ∀ x ∈ c.exceptionTable.toList, covers x pc = false) (hlocks : meth.locks = false) (hcell : H[q]? = some ce) (hv : ce.vm = .none) (hcl : s.vm.findClass E = some ce.cls)
    (hx : ∀ t : State, t.heap = H → s.vm.Alike t.vm → XC E s t) (hf : ∀ z ∈ locs, free z.base) (hc : cells ≤ mc) (hs : slots ≤ ms) :
    vx_W p l e R s m args below meth c H locs cells slots (vx_MQ below Qc XC args s mc ms free) (F0 m pc ls rest) q := by
  intro T hT X
  obtain ⟨st1, hrun, hend, hW, hsm⟩ := X.leaveThrown q (g := F0 m pc ls rest) rfl rfl rfl hout hlocks
  have hcell9 : (T.setFrames (.throwing q :: below)).heap[q]? = some ce := by
    show T.heap[q]? = some ce
    rw [hT]; exact hcell
  exact ⟨_, st1, .threw q, hrun, hend, Or.inr ⟨q, rfl, E, ce, locs, hx _ hT hW.alike, hcell9, hv, hcl, hW, hsm.mono hc hs, hf⟩⟩
theorem vx_frame {U : State} {k n : Nat} (h : s.sameButNew ({ U with vm := s.vm } : State) locs k n) : s.heap.size ≤ U.heap.size ∧ ∀ q : Nat, q < s.heap.size → (∀ z ∈ locs, z.base ≠ q) → U.heap[q]? = s.heap[q]? := by
  obtain ⟨-, h2, -, -, -, h6⟩ := h
  refine ⟨h2, fun q hq hz => ?_⟩
  obtain ⟨c9, e1, e2, e3, e4⟩ := h6 q _ (Array.getElem?_eq_getElem hq)
  have hs : c9.slots = (s.heap[q]).slots := Array.ext_getElem? fun i => e4 i fun hm => hz _ hm rfl
  have h9 : c9 = s.heap[q] := by
    rw [hs] at e2
    exact e2
  have e5 : U.heap[q]? = some c9 := e1
  rw [e5, h9, Array.getElem?_eq_getElem hq]
/-- the words of a throw but the four that speak of the heap -/
def vx_no (w : Cond) : Bool := decide (w ≠ .isRef (.static Bundle.tN "UNASSIGNED_STACK" Bundle.steD)) && decide (w ≠ .isRef (.static Bundle.tN "SUPPRESSED_SENTINEL" Bundle.listD)) && decide (w ≠ .laysStatic Bundle.tN "UNASSIGNED_STACK" Bundle.steD) && decide (w ≠ .laysStatic Bundle.tN "SUPPRESSED_SENTINEL" Bundle.listD)
def vx_at0 (own : String) (ic : Nat) (X : String) (names : List String) : List Cond := (Bundle.ownAtoms0 own ic X names).filter vx_no
def vx_atS (own : String) (ic : Nat) (X : String) (names : List String) : List Cond := (Bundle.ownAtoms own ic X names).filter vx_no
/-- a word that the tables alone decide, or a good one -/
def vx_ot (w : Cond) : Bool := w.onTables || goodWord w
theorem vx_ot_at {args a' : Array Value} {s U : State} {w : Cond} (hW : s.WarmedH U.vm) (hvm : s.vm = U.vm) (hg : vx_ot w = true) (h : w.before args s = true) : w.before a' U = true := by
  simp only [vx_ot, Bool.or_eq_true] at hg
  rcases hg with hg | hg
  · exact va_tabs hg hvm h
  · exact word_at hW (good_of_word hg) h
/-- a list's words: the good ones out of the method's own list, the others by premises of their own -/
theorem vx_hat {args : Array Value} {s : State} {L B : List Cond} (h1 : ∀ w ∈ L.filter goodWord, w.before args s = true) (h2 : ∀ w ∈ L.filter (fun w => !goodWord w), w ∈ B) (h3 : ∀ w ∈ B, w.before args s = true) : ∀ w ∈ L, w.before args s = true := by
  intro w hw
  by_cases g : goodWord w = true
  · exact h1 w (List.mem_filter.mpr ⟨hw, g⟩)
  · refine h3 w (h2 w (List.mem_filter.mpr ⟨hw, ?_⟩))
    show (!goodWord w) = true
    cases hgw : goodWord w
    · rfl
    · exact absurd hgw g
theorem vx_c {args : Array Value} {s : State} {w : Cond} {B : List Cond} (h : w.before args s = true) (t : ∀ w ∈ B, w.before args s = true) : ∀ w' ∈ w :: B, w'.before args s = true := fun w' h' => (List.mem_cons.mp h').elim (fun e => by rw [e]; exact h) (t w')
theorem vx_n {args : Array Value} {s : State} : ∀ w ∈ ([] : List Cond), w.before args s = true := fun _ h => nomatch h
theorem vx_own {args : Array Value} {s : State} {L : List Cond} (h1 : ∀ w ∈ L.filter vx_no, w.before args s = true)
    (hU : (Cond.isRef (.static Bundle.tN "UNASSIGNED_STACK" Bundle.steD)).before args s = true) (hN : (Cond.isRef (.static Bundle.tN "SUPPRESSED_SENTINEL" Bundle.listD)).before args s = true)
    (lU : (Cond.laysStatic Bundle.tN "UNASSIGNED_STACK" Bundle.steD).before args s = true) (lN : (Cond.laysStatic Bundle.tN "SUPPRESSED_SENTINEL" Bundle.listD).before args s = true) : ∀ w ∈ L, w.before args s = true := by
  intro w hw
  by_cases e1 : w = .isRef (.static Bundle.tN "UNASSIGNED_STACK" Bundle.steD)
  · rw [e1]; exact hU
  · by_cases e2 : w = .isRef (.static Bundle.tN "SUPPRESSED_SENTINEL" Bundle.listD)
    · rw [e2]; exact hN
    · by_cases e3 : w = .laysStatic Bundle.tN "UNASSIGNED_STACK" Bundle.steD
      · rw [e3]; exact lU
      · by_cases e4 : w = .laysStatic Bundle.tN "SUPPRESSED_SENTINEL" Bundle.listD
        · rw [e4]; exact lN
        · exact h1 w (List.mem_filter.mpr ⟨hw, by unfold vx_no; rw [decide_eq_true e1, decide_eq_true e2, decide_eq_true e3, decide_eq_true e4]; rfl⟩)
/-- where a static field lies, its class's statics cell in H -/
def vx_L (C n d : String) (A : Nat → Prop) (U : State) (H : Heap) : Prop := ∃ (c : ClassId) (k : Class) (i : Nat) (f : Field) (a : Nat) (cell : Cell), U.vm.findClass C = some c ∧ U.fieldFound? C n d = some (c, k, i, f) ∧ f.isStatic = true ∧ k.statics = some a ∧ H[a]? = some cell ∧ cell.vm.isStatics = true ∧ cell.cls = c ∧ f.slot < cell.slots.size ∧ k.staticTypes[f.slot]? = some f.type ∧ ¬ A a
theorem vx_L.moved {C n d : String} {A : Nat → Prop} {u U : State} {H : Heap} (hvm : u.vm.Alike U.vm) (h : vx_L C n d A u H) : vx_L C n d A U H := by
  obtain ⟨c, k, i, f, a, cell, h1, h2, h3, h4, h5, h6, h7, h8, h9, h10⟩ := h
  obtain ⟨k', hi', he⟩ := State.fieldFound?_setVm hvm h2
  exact ⟨c, k', i, f, a, cell, by rw [hvm.findClass]; exact h1, hi', h3, by rw [he]; exact h4, h5, h6, h7, h8, by rw [he]; exact h9, h10⟩
theorem vx_L.kept {C n d : String} {A : Nat → Prop} {U : State} {H H1 : Heap} (h : vx_L C n d A U H) (hq : ∀ a : Nat, a < H.size → ¬ A a → H1[a]? = H[a]?) : vx_L C n d A U H1 := by
  obtain ⟨c, k, i, f, a, cell, h1, h2, h3, h4, h5, h6, h7, h8, h9, h10⟩ := h
  exact ⟨c, k, i, f, a, cell, h1, h2, h3, h4, by rw [hq a (Array.getElem?_eq_some_iff.mp h5).1 h10]; exact h5, h6, h7, h8, h9, h10⟩
theorem vx_L.narrow {C n d : String} {A B : Nat → Prop} {U : State} {H : Heap} (h : vx_L C n d A U H) (hAB : ∀ q, B q → A q) : vx_L C n d B U H := by
  obtain ⟨c, k, i, f, a, cell, h1, h2, h3, h4, h5, h6, h7, h8, h9, h10⟩ := h
  exact ⟨c, k, i, f, a, cell, h1, h2, h3, h4, h5, h6, h7, h8, h9, fun z => h10 (hAB _ z)⟩
theorem vx_L.word {C n d : String} {A : Nat → Prop} {s : State} {args : Array Value} (h : vx_L C n d A s s.heap) : (Cond.laysStatic C n d).before args s = true := by
  obtain ⟨c, k, i, f, a, cell, h1, h2, h3, h4, h5, h6, h7, h8, h9, -⟩ := h
  show (Cond.laysStatic C n d).holds args s none s [] = true
  exact Cond.laysStatic_of h1 h2 h3 h4 h5 h6 h7 h8 h9
/-- .. and what it holds: null or some reference -/
def vx_Zq (C n d : String) (A : Nat → Prop) (U : State) (H : Heap) : Prop := va_Zq C n d A U H ∧ vx_L C n d A U H
theorem vx_Zq.moved {C n d : String} {A : Nat → Prop} {u U : State} {H : Heap} (hvm : u.vm.Alike U.vm) (h : vx_Zq C n d A u H) : vx_Zq C n d A U H := ⟨va_Zq.moved hvm h.1, vx_L.moved hvm h.2⟩
theorem vx_Zq.kept {C n d : String} {A : Nat → Prop} {U : State} {H H1 : Heap} (h : vx_Zq C n d A U H) (hq : ∀ a : Nat, a < H.size → ¬ A a → H1[a]? = H[a]?) : vx_Zq C n d A U H1 := ⟨va_Zq.kept h.1 hq, vx_L.kept h.2 hq⟩
theorem vx_Zq.narrow {C n d : String} {A B : Nat → Prop} {U : State} {H : Heap} (h : vx_Zq C n d A U H) (hAB : ∀ q, B q → A q) : vx_Zq C n d B U H := ⟨va_Zq.narrow h.1 hAB, vx_L.narrow h.2 hAB⟩
theorem vx_Zqof {args : Array Value} {s : State} {C n d : String} {A : Nat → Prop} (hl : (Cond.laysStatic C n d).before args s = true) (hini : (Cond.initialized C).before args s = true) (h : (Cond.isRef (.static C n d)).before args s = true) (hA : ∀ a : Nat, a < s.heap.size → ¬ A a) : vx_Zq C n d A s s.heap := by
  refine ⟨va_Zqof hl hini h hA, ?_⟩
  obtain ⟨c, k, i, f, a, cell, h1, h2, h3, h4, h5, h6, h7, h8, h9⟩ := Cond.laysStatic_spec hl
  exact ⟨c, k, i, f, a, cell, h1, h2, h3, h4, h5, h6, h7, h8, h9, hA a (Array.getElem?_eq_some_iff.mp h5).1⟩
theorem vx_isRef {C n d : String} {v : Value} {A : Nat → Prop} {s : State} {args : Array Value} (h : va_Z C n d v A s s.heap) (hv : v.isRef = true) : (Cond.isRef (.static C n d)).before args s = true := by
  obtain ⟨cf, kf, fi, f, a, cell, h1, h2, h3, h4, h5, h6, h7, -⟩ := h
  have he : (Term.static C n d).eval args s none [] s = some v := by
    simp [Term.eval, State.fieldNamed?, h1, h2, h4, h5, h6, h7]
  simp only [Cond.before, Cond.holds, Cond.value, he]
  cases v <;> simp_all [Value.isRef]
theorem vx_isRefq {C n d : String} {A : Nat → Prop} {s : State} {args : Array Value} (h : va_Zq C n d A s s.heap) : (Cond.isRef (.static C n d)).before args s = true := by
  rcases h with h | ⟨t, h⟩
  · exact vx_isRef h rfl
  · exact vx_isRef h rfl
/-- the same frame, seen from here: as if the method were called anew in this heap -/
theorem vx_rebase {T : State} (X : Stand p l e R s m args below meth c T locs cells slots) {R' : Room} (hf : R'.frames ≤ R.frames) (hl : R'.locals ≤ R.locals) (hc : cells + R'.cells ≤ R.cells) (hs : slots + R'.slots ≤ R.slots) :
    Stand p l e R' ((T.setVm s.vm).setFrames (.invoking m args :: below)) m args below meth c T [] 0 0 := by
  have htop : (T.setVm s.vm).topJava?.isSome := X.here.top
  have hF : ((T.setVm s.vm).setFrames (.invoking m args :: below)).frames = .invoking m args :: below := State.frames_setFrames _ (State.cur_lt_of_top htop)
  obtain ⟨g₀, hg0⟩ := Option.isSome_iff_exists.mp htop
  obtain ⟨r, hr⟩ := State.topJava?_eq_some.mp hg0
  have hl9 : e.platform.stackLimits (T.setVm s.vm).me = e.platform.stackLimits s.me := X.limits
  have hb9 : (T.setVm s.vm).me.stackBytes = s.me.stackBytes := X.bytes
  refine ⟨X.admits, X.cas, X.clock, hF, ?_, X.hears, X.method, X.code, X.here, X.tail, X.warmed, ?_, ?_, ?_⟩
  · have h := X.room
    have hU : ((T.setVm s.vm).setFrames (.invoking m args :: below)).localsInUse = s.localsInUse := by
      rw [State.localsInUse_invoking hF (meth := meth) (c := c) X.method X.code, State.localsInUse_invoking X.frames X.method X.code]
    simp only [State.hasRoom, Bool.and_eq_true, decide_eq_true_eq] at h ⊢
    obtain ⟨⟨⟨⟨h1, h2, h3, h4, h5, h6⟩, h7⟩, h8⟩, h9⟩ := h
    rw [X.frames, List.length_cons] at h2 h3
    have q1 := X.heapSize
    have q2 := X.used
    simp only [hF, hU, List.length_cons, State.stackLimits_setFrames, State.stackBytes_setFrames, hl9, hb9]
    refine ⟨⟨⟨⟨by omega, by omega, by omega, by omega, by omega, h6⟩, ?_⟩, ?_⟩, X.book⟩
    · show T.heap.size + R'.cells ≤ e.platform.maxCells
      omega
    · show T.slotsUsed + R'.slots ≤ e.platform.maxSlots
      omega
  · rw [State.stackLimits_setFrames]; rfl
  · rw [State.stackBytes_setFrames]; rfl
  · refine ⟨?_, Nat.le_refl _, Nat.le_refl _, ?_, ?_, fun a c9 h9 => ⟨c9, h9, rfl, rfl, fun _ _ => rfl⟩⟩
    · obtain ⟨t, ht, -⟩ := State.frames_cons hr
      show T.setVm s.vm = { ((T.setVm s.vm).setFrames (.invoking m args :: below)).setFrames (T.setVm s.vm).frames with heap := T.heap, slotsUsed := T.slotsUsed }
      rw [State.setFrames_setFrames, State.setFrames_self ht]
      rfl
    · show T.slotsUsed = T.slotsUsed + ((T.heap.toList.drop T.heap.size).map (·.slots.size)).sum
      rw [List.drop_eq_nil_of_le (Nat.le_of_eq Array.length_toList)]
      rfl
    · show ((T.heap.toList.drop T.heap.size).map (·.slots.size)).sum ≤ 0
      rw [List.drop_eq_nil_of_le (Nat.le_of_eq Array.length_toList)]
      exact Nat.le_refl _
/-- 'throw new E()': new; dup; invokespecial; athrow -/
theorem vx_throw0 {cc : ByteArray} {pc : Nat} (hexec : p.tables.exec = Jvm.exec) (hb : c.code = cc) (hl : l.stackTraces = false) {own cls : String} {names : List String} {ik ic mc ms : Nat} {A : Nat → Prop}
    (hown : s.vm.findClass own = some m.cls) (hcls : Bundle.fit cls = true) (hnames : ∀ n ∈ names, Bundle.fit n = true)
    (hk : (Cond.classLink own ik cls).before args s = true) (hini : (Cond.initialized cls).before args s = true) (hat : ∀ w ∈ vx_at0 own ic cls names, w.before args s = true)
    (hgood : ∀ w ∈ Cond.classLink own ik cls :: Cond.initialized cls :: vx_at0 own ic cls names, vx_ot w = true)
    (hU : vx_Zq Bundle.tN "UNASSIGNED_STACK" Bundle.steD A s s.heap) (hN : vx_Zq Bundle.tN "SUPPRESSED_SENTINEL" Bundle.listD A s s.heap) (hS : va_S A s.heap H locs) (hsize : ls.size = c.maxLocals)
    (d0 : decode cc pc = .ok (.new ik, 3)) (d3 : decode cc (pc + 3) = .ok (.dup, 1)) (d4 : decode cc (pc + 4) = .ok (.invokespecial ic, 3)) (d7 : decode cc (pc + 7) = .ok (.athrow, 1))
    (hout : ∀ x ∈ c.exceptionTable.toList, covers x (pc + 7) = false)
    (hRframes : names.length + 3 < R.frames) (hRlocals : (rest.map fun v => v.category).sum + (13 * (names.length + 1) + 42) ≤ R.locals) (hRcells : cells + 1 ≤ R.cells) (hRslots : slots + 6 ≤ R.slots) (hlocks : meth.locks = false)
    (hx : ∀ t : State, s.vm.Alike t.vm → H.size ≤ t.heap.size → (∀ q : Nat, q < H.size → t.heap[q]? = H[q]?) → XC cls s t)
    (hf : ∀ z ∈ locs, free z.base) (hc : cells + 1 ≤ mc) (hs : slots + 6 ≤ ms) :
    W p l e R s m args below meth c H locs cells slots (vx_MQ below Qc XC args s mc ms free) (F0 m pc ls rest) := by
  intro T hT X
  have htr : e.platform.stackTraces = false := (show e.platform.stackTraces = l.stackTraces by rw [X.admits.platform]).trans hl
  have Y := vx_rebase X (R' := { frames := R.frames, locals := R.locals, cells := 1, slots := 6 }) (Nat.le_refl _) (Nat.le_refl _) hRcells hRslots
  obtain ⟨s', hA⟩ : ∃ z, z = (T.setVm s.vm).setFrames (.invoking m args :: below) := ⟨_, rfl⟩
  rw [← hA] at Y
  have hvm : s'.vm = s.vm := by rw [hA]; rfl
  have hhp : s'.heap = H := by rw [hA]; exact hT
  have hW0 : s.WarmedH s'.vm := by rw [hvm]; exact State.WarmedH.refl s
  have hat' : ∀ w ∈ vx_at0 own ic cls names, w.before args s' = true := fun w hw => vx_ot_at hW0 hvm.symm (hgood w (List.mem_cons_of_mem _ (List.mem_cons_of_mem _ hw))) (hat w hw)
  have hk' : (Cond.classLink own ik cls).before args s' = true := vx_ot_at hW0 hvm.symm (hgood _ List.mem_cons_self) hk
  have hini' : (Cond.initialized cls).before args s' = true := vx_ot_at hW0 hvm.symm (hgood _ (List.mem_cons_of_mem _ List.mem_cons_self)) hini
  have hU' : vx_Zq Bundle.tN "UNASSIGNED_STACK" Bundle.steD A s' s'.heap := by rw [hhp]; exact vx_Zq.moved hW0.alike (hU.kept hS.2.1)
  have hN' : vx_Zq Bundle.tN "SUPPRESSED_SENTINEL" Bundle.listD A s' s'.heap := by rw [hhp]; exact vx_Zq.moved hW0.alike (hN.kept hS.2.1)
  have h : ∀ w ∈ Bundle.ownAtoms0 own ic cls names, w.before args s' = true := vx_own hat' (vx_isRefq hU'.1) (vx_isRefq hN'.1) hU'.2.word hN'.2.word
  have hown' : s'.vm.findClass own = some m.cls := by rw [hvm]; exact hown
  have hins : (Cond.instantiable cls 6).before args s' = true := h _ (by simp [Bundle.ownAtoms0])
  obtain ⟨vm₁, cX, kX, hfX, hkX, -, -, X₁, st1⟩ := Y.newCold hexec (own := own) (C := cls) (index := ik) (n := 6) hown' hk' hins hini'
    (g := F0 m pc ls rest) rfl (by rw [hb]; exact d0) (Nat.le_refl _) (Nat.le_refl _)
  generalize hT1 : (T.setVm vm₁).pushCell { cls := cX, slots := kX.instanceTypes.map defaultValue, vm := .none } = T1 at X₁ st1
  have hcat : (Value.ref T.heap.size).category = 1 := rfl
  have hcellA : T1.heap[T.heap.size]? = some (freshCell cX kX) := by rw [← hT1]; exact State.heap_pushCell_size _ _
  have d3' : decode c.code (pc + 3) = .ok (.dup, 1) := by rw [hb]; exact d3
  obtain ⟨U, hsteps, hrun, hend, hW, hsame, ce, hce, hO⟩ := X₁.ctorThrow0 hexec htr (own := own) (cls := cls) (names := names) (ic := ic) hown' hcls hnames h (fun x hx => nomatch hx) hfX hkX hcellA (by rw [hhp, hT]; exact Nat.le_refl _)
    (g := { method := m, pc := pc + 4, locals := ls, stack := .ref T.heap.size :: .ref T.heap.size :: rest, locked := none }) rfl hsize rfl rfl (rest := rest) rfl
    (by rw [hb]; exact d4) (by rw [hb]; exact d7) hout hRframes (by simp only [List.map_cons, List.sum_cons, hcat]; omega) hlocks
  obtain ⟨f1, f2⟩ := vx_frame hsame
  rw [hhp] at f1 f2
  have hWs : s.WarmedH U.vm := State.WarmedH.trans hW0 hW
  have hcl : s.vm.findClass cls = some ce.cls := by
    have h9 := hO.cls
    rw [hvm] at h9
    exact h9
  have hall : s.sameButNew ({ U with vm := s.vm } : State) locs mc ms := by
    subst hA
    obtain ⟨e1, e2⟩ := hsame
    rw [State.setFrames_setFrames] at e1
    have h2 : (T.setVm s.vm).sameButNew ({ U with vm := s.vm } : State) [] (0 + 1) (0 + 6) := ⟨e1, e2⟩
    have h3 := X.same.trans h2
    rw [List.append_nil] at h3
    exact h3.mono hc hs
  refine ⟨U, ?_, .threw T.heap.size, hrun, hend, Or.inr ⟨T.heap.size, rfl, cls, ce, locs, hx U hWs.alike f1 (fun q hq => f2 q hq (fun z hz => nomatch hz)), hce, hO.vm, hcl, hWs, hall, hf⟩⟩
  refine st1 _ ?_
  show Steps p.tables e below (T1.setTop { method := m, pc := pc + 3, locals := ls, stack := .ref T.heap.size :: rest, locked := none }) _
  jvm_step X₁.here [X₁.here.top, hexec, d3', Value.category]
  exact hsteps
/-- 'throw new E("text")': new; dup; ldc; invokespecial; athrow -/
theorem vx_throwS {cc : ByteArray} {pc : Nat} (hexec : p.tables.exec = Jvm.exec) (hb : c.code = cc) (hl : l.stackTraces = false) {own cls text : String} {names : List String} {ik is ic mc ms sa : Nat} {A : Nat → Prop}
    (hown : s.vm.findClass own = some m.cls) (hcls : Bundle.fit cls = true) (hnames : ∀ n ∈ names, Bundle.fit n = true)
    (hk : (Cond.classLink own ik cls).before args s = true) (hini : (Cond.initialized cls).before args s = true) (hstr : vk_R own is text sa s) (hat : ∀ w ∈ vx_atS own ic cls names, w.before args s = true)
    (hgood : ∀ w ∈ Cond.classLink own ik cls :: Cond.initialized cls :: vx_atS own ic cls names, vx_ot w = true)
    (hU : vx_Zq Bundle.tN "UNASSIGNED_STACK" Bundle.steD A s s.heap) (hN : vx_Zq Bundle.tN "SUPPRESSED_SENTINEL" Bundle.listD A s s.heap) (hS : va_S A s.heap H locs) (hsize : ls.size = c.maxLocals)
    (d0 : decode cc pc = .ok (.new ik, 3)) (d3 : decode cc (pc + 3) = .ok (.dup, 1)) (d4 : decode cc (pc + 4) = .ok (.ldc is, 2)) (d6 : decode cc (pc + 6) = .ok (.invokespecial ic, 3)) (d9 : decode cc (pc + 9) = .ok (.athrow, 1))
    (hout : ∀ x ∈ c.exceptionTable.toList, covers x (pc + 9) = false)
    (hRframes : names.length + 3 < R.frames) (hRlocals : (rest.map fun v => v.category).sum + (13 * (names.length + 1) + 43) ≤ R.locals) (hRcells : cells + 1 ≤ R.cells) (hRslots : slots + 6 ≤ R.slots) (hlocks : meth.locks = false)
    (hx : ∀ t : State, s.vm.Alike t.vm → H.size ≤ t.heap.size → (∀ q : Nat, q < H.size → t.heap[q]? = H[q]?) → XC cls s t)
    (hf : ∀ z ∈ locs, free z.base) (hc : cells + 1 ≤ mc) (hs : slots + 6 ≤ ms) :
    W p l e R s m args below meth c H locs cells slots (vx_MQ below Qc XC args s mc ms free) (F0 m pc ls rest) := by
  intro T hT X
  have htr : e.platform.stackTraces = false := (show e.platform.stackTraces = l.stackTraces by rw [X.admits.platform]).trans hl
  have Y := vx_rebase X (R' := { frames := R.frames, locals := R.locals, cells := 1, slots := 6 }) (Nat.le_refl _) (Nat.le_refl _) hRcells hRslots
  obtain ⟨s', hA⟩ : ∃ z, z = (T.setVm s.vm).setFrames (.invoking m args :: below) := ⟨_, rfl⟩
  rw [← hA] at Y
  have hvm : s'.vm = s.vm := by rw [hA]; rfl
  have hhp : s'.heap = H := by rw [hA]; exact hT
  have hW0 : s.WarmedH s'.vm := by rw [hvm]; exact State.WarmedH.refl s
  have hat' : ∀ w ∈ vx_atS own ic cls names, w.before args s' = true := fun w hw => vx_ot_at hW0 hvm.symm (hgood w (List.mem_cons_of_mem _ (List.mem_cons_of_mem _ hw))) (hat w hw)
  have hk' : (Cond.classLink own ik cls).before args s' = true := vx_ot_at hW0 hvm.symm (hgood _ List.mem_cons_self) hk
  have hini' : (Cond.initialized cls).before args s' = true := vx_ot_at hW0 hvm.symm (hgood _ (List.mem_cons_of_mem _ List.mem_cons_self)) hini
  have hU' : vx_Zq Bundle.tN "UNASSIGNED_STACK" Bundle.steD A s' s'.heap := by rw [hhp]; exact vx_Zq.moved hW0.alike (hU.kept hS.2.1)
  have hN' : vx_Zq Bundle.tN "SUPPRESSED_SENTINEL" Bundle.listD A s' s'.heap := by rw [hhp]; exact vx_Zq.moved hW0.alike (hN.kept hS.2.1)
  have h : ∀ w ∈ Bundle.ownAtoms own ic cls names, w.before args s' = true := vx_own hat' (vx_isRefq hU'.1) (vx_isRefq hN'.1) hU'.2.word hN'.2.word
  have hown' : s'.vm.findClass own = some m.cls := by rw [hvm]; exact hown
  have hins : (Cond.instantiable cls 6).before args s' = true := h _ (by simp [Bundle.ownAtoms])
  obtain ⟨vm₁, cX, kX, hfX, hkX, -, -, X₁, st1⟩ := Y.newCold hexec (own := own) (C := cls) (index := ik) (n := 6) hown' hk' hins hini'
    (g := F0 m pc ls rest) rfl (by rw [hb]; exact d0) (Nat.le_refl _) (Nat.le_refl _)
  generalize hT1 : (T.setVm vm₁).pushCell { cls := cX, slots := kX.instanceTypes.map defaultValue, vm := .none } = T1 at X₁ st1
  have hcat : (Value.ref T.heap.size).category = 1 := rfl
  have hcellA : T1.heap[T.heap.size]? = some (freshCell cX kX) := by rw [← hT1]; exact State.heap_pushCell_size _ _
  have d3' : decode c.code (pc + 3) = .ok (.dup, 1) := by rw [hb]; exact d3
  have d4' : decode c.code (pc + 4) = .ok (.ldc is, 2) := by rw [hb]; exact d4
  have hstr' : vk_R own is text sa s' := vk_R.warm hW0 hstr
  obtain ⟨U, hsteps, hrun, hend, hW, hsame, ce, hce, hO⟩ := X₁.ctorThrowS hexec htr (own := own) (cls := cls) (names := names) (ic := ic) hown' hcls hnames h (fun x hx => nomatch hx) hfX hkX hcellA (by rw [hhp, hT]; exact Nat.le_refl _) (msg := .ref sa) rfl
    (g := { method := m, pc := pc + 6, locals := ls, stack := .ref sa :: .ref T.heap.size :: .ref T.heap.size :: rest, locked := none }) rfl hsize rfl rfl (rest := rest) rfl
    (by rw [hb]; exact d6) (by rw [hb]; exact d9) hout hRframes (by simp only [List.map_cons, List.sum_cons, hcat]; omega) hlocks
  obtain ⟨f1, f2⟩ := vx_frame hsame
  rw [hhp] at f1 f2
  have hWs : s.WarmedH U.vm := State.WarmedH.trans hW0 hW
  have hcl : s.vm.findClass cls = some ce.cls := by
    have h9 := hO.cls
    rw [hvm] at h9
    exact h9
  have hall : s.sameButNew ({ U with vm := s.vm } : State) locs mc ms := by
    subst hA
    obtain ⟨e1, e2⟩ := hsame
    rw [State.setFrames_setFrames] at e1
    have h2 : (T.setVm s.vm).sameButNew ({ U with vm := s.vm } : State) [] (0 + 1) (0 + 6) := ⟨e1, e2⟩
    have h3 := X.same.trans h2
    rw [List.append_nil] at h3
    exact h3.mono hc hs
  refine ⟨U, ?_, .threw T.heap.size, hrun, hend, Or.inr ⟨T.heap.size, rfl, cls, ce, locs, hx U hWs.alike f1 (fun q hq => f2 q hq (fun z hz => nomatch hz)), hce, hO.vm, hcl, hWs, hall, hf⟩⟩
  refine st1 _ ?_
  show Steps p.tables e below (T1.setTop { method := m, pc := pc + 3, locals := ls, stack := .ref T.heap.size :: rest, locked := none }) _
  jvm_step X₁.here [X₁.here.top, hexec, d3', Value.category]
  exact X₁.ldcString hexec (own := own) (text := text) (index := is) (a := sa) hown' hstr'.1 hstr'.2
    (g := { method := m, pc := pc + 4, locals := ls, stack := .ref T.heap.size :: .ref T.heap.size :: rest, locked := none }) rfl d4' _ hsteps
/-- 'throw new E("text")', the text by a wide index -/
theorem vx_throwSW {cc : ByteArray} {pc : Nat} (hexec : p.tables.exec = Jvm.exec) (hb : c.code = cc) (hl : l.stackTraces = false) {own cls text : String} {names : List String} {ik is ic mc ms sa : Nat} {A : Nat → Prop}
    (hown : s.vm.findClass own = some m.cls) (hcls : Bundle.fit cls = true) (hnames : ∀ n ∈ names, Bundle.fit n = true)
    (hk : (Cond.classLink own ik cls).before args s = true) (hini : (Cond.initialized cls).before args s = true) (hstr : vk_R own is text sa s) (hat : ∀ w ∈ vx_atS own ic cls names, w.before args s = true)
    (hgood : ∀ w ∈ Cond.classLink own ik cls :: Cond.initialized cls :: vx_atS own ic cls names, vx_ot w = true)
    (hU : vx_Zq Bundle.tN "UNASSIGNED_STACK" Bundle.steD A s s.heap) (hN : vx_Zq Bundle.tN "SUPPRESSED_SENTINEL" Bundle.listD A s s.heap) (hS : va_S A s.heap H locs) (hsize : ls.size = c.maxLocals)
    (d0 : decode cc pc = .ok (.new ik, 3)) (d3 : decode cc (pc + 3) = .ok (.dup, 1)) (d4 : decode cc (pc + 4) = .ok (.ldc_w is, 3)) (d7 : decode cc (pc + 7) = .ok (.invokespecial ic, 3)) (d10 : decode cc (pc + 10) = .ok (.athrow, 1))
    (hout : ∀ x ∈ c.exceptionTable.toList, covers x (pc + 10) = false)
    (hRframes : names.length + 3 < R.frames) (hRlocals : (rest.map fun v => v.category).sum + (13 * (names.length + 1) + 43) ≤ R.locals) (hRcells : cells + 1 ≤ R.cells) (hRslots : slots + 6 ≤ R.slots) (hlocks : meth.locks = false)
    (hx : ∀ t : State, s.vm.Alike t.vm → H.size ≤ t.heap.size → (∀ q : Nat, q < H.size → t.heap[q]? = H[q]?) → XC cls s t)
    (hf : ∀ z ∈ locs, free z.base) (hc : cells + 1 ≤ mc) (hs : slots + 6 ≤ ms) :
    W p l e R s m args below meth c H locs cells slots (vx_MQ below Qc XC args s mc ms free) (F0 m pc ls rest) := by
  intro T hT X
  have htr : e.platform.stackTraces = false := (show e.platform.stackTraces = l.stackTraces by rw [X.admits.platform]).trans hl
  have Y := vx_rebase X (R' := { frames := R.frames, locals := R.locals, cells := 1, slots := 6 }) (Nat.le_refl _) (Nat.le_refl _) hRcells hRslots
  obtain ⟨s', hA⟩ : ∃ z, z = (T.setVm s.vm).setFrames (.invoking m args :: below) := ⟨_, rfl⟩
  rw [← hA] at Y
  have hvm : s'.vm = s.vm := by rw [hA]; rfl
  have hhp : s'.heap = H := by rw [hA]; exact hT
  have hW0 : s.WarmedH s'.vm := by rw [hvm]; exact State.WarmedH.refl s
  have hat' : ∀ w ∈ vx_atS own ic cls names, w.before args s' = true := fun w hw => vx_ot_at hW0 hvm.symm (hgood w (List.mem_cons_of_mem _ (List.mem_cons_of_mem _ hw))) (hat w hw)
  have hk' : (Cond.classLink own ik cls).before args s' = true := vx_ot_at hW0 hvm.symm (hgood _ List.mem_cons_self) hk
  have hini' : (Cond.initialized cls).before args s' = true := vx_ot_at hW0 hvm.symm (hgood _ (List.mem_cons_of_mem _ List.mem_cons_self)) hini
  have hU' : vx_Zq Bundle.tN "UNASSIGNED_STACK" Bundle.steD A s' s'.heap := by rw [hhp]; exact vx_Zq.moved hW0.alike (hU.kept hS.2.1)
  have hN' : vx_Zq Bundle.tN "SUPPRESSED_SENTINEL" Bundle.listD A s' s'.heap := by rw [hhp]; exact vx_Zq.moved hW0.alike (hN.kept hS.2.1)
  have h : ∀ w ∈ Bundle.ownAtoms own ic cls names, w.before args s' = true := vx_own hat' (vx_isRefq hU'.1) (vx_isRefq hN'.1) hU'.2.word hN'.2.word
  have hown' : s'.vm.findClass own = some m.cls := by rw [hvm]; exact hown
  have hins : (Cond.instantiable cls 6).before args s' = true := h _ (by simp [Bundle.ownAtoms])
  obtain ⟨vm₁, cX, kX, hfX, hkX, -, -, X₁, st1⟩ := Y.newCold hexec (own := own) (C := cls) (index := ik) (n := 6) hown' hk' hins hini'
    (g := F0 m pc ls rest) rfl (by rw [hb]; exact d0) (Nat.le_refl _) (Nat.le_refl _)
  generalize hT1 : (T.setVm vm₁).pushCell { cls := cX, slots := kX.instanceTypes.map defaultValue, vm := .none } = T1 at X₁ st1
  have hcat : (Value.ref T.heap.size).category = 1 := rfl
  have hcellA : T1.heap[T.heap.size]? = some (freshCell cX kX) := by rw [← hT1]; exact State.heap_pushCell_size _ _
  have d3' : decode c.code (pc + 3) = .ok (.dup, 1) := by rw [hb]; exact d3
  have d4' : decode c.code (pc + 4) = .ok (.ldc_w is, 3) := by rw [hb]; exact d4
  have hstr' : vk_R own is text sa s' := vk_R.warm hW0 hstr
  obtain ⟨U, hsteps, hrun, hend, hW, hsame, ce, hce, hO⟩ := X₁.ctorThrowS hexec htr (own := own) (cls := cls) (names := names) (ic := ic) hown' hcls hnames h (fun x hx => nomatch hx) hfX hkX hcellA (by rw [hhp, hT]; exact Nat.le_refl _) (msg := .ref sa) rfl
    (g := { method := m, pc := pc + 7, locals := ls, stack := .ref sa :: .ref T.heap.size :: .ref T.heap.size :: rest, locked := none }) rfl hsize rfl rfl (rest := rest) rfl
    (by rw [hb]; exact d7) (by rw [hb]; exact d10) hout hRframes (by simp only [List.map_cons, List.sum_cons, hcat]; omega) hlocks
  obtain ⟨f1, f2⟩ := vx_frame hsame
  rw [hhp] at f1 f2
  have hWs : s.WarmedH U.vm := State.WarmedH.trans hW0 hW
  have hcl : s.vm.findClass cls = some ce.cls := by
    have h9 := hO.cls
    rw [hvm] at h9
    exact h9
  have hall : s.sameButNew ({ U with vm := s.vm } : State) locs mc ms := by
    subst hA
    obtain ⟨e1, e2⟩ := hsame
    rw [State.setFrames_setFrames] at e1
    have h2 : (T.setVm s.vm).sameButNew ({ U with vm := s.vm } : State) [] (0 + 1) (0 + 6) := ⟨e1, e2⟩
    have h3 := X.same.trans h2
    rw [List.append_nil] at h3
    exact h3.mono hc hs
  refine ⟨U, ?_, .threw T.heap.size, hrun, hend, Or.inr ⟨T.heap.size, rfl, cls, ce, locs, hx U hWs.alike f1 (fun q hq => f2 q hq (fun z hz => nomatch hz)), hce, hO.vm, hcl, hWs, hall, hf⟩⟩
  refine st1 _ ?_
  show Steps p.tables e below (T1.setTop { method := m, pc := pc + 3, locals := ls, stack := .ref T.heap.size :: rest, locked := none }) _
  jvm_step X₁.here [X₁.here.top, hexec, d3', Value.category]
  exact X₁.ldcStringW hexec (own := own) (text := text) (index := is) (a := sa) hown' hstr'.1 hstr'.2
    (g := { method := m, pc := pc + 4, locals := ls, stack := .ref T.heap.size :: .ref T.heap.size :: rest, locked := none }) rfl d4' _ hsteps
end Ends
section Bodies
variable {l : Launch}
theorem vx_ofW {y : MethodName} {ws ws' : List Cond} {rm : Room} {Pc : Array Value → State → Prop} {Qc : Array Value → State → Outcome → State → Prop} {XC : String → State → State → Prop} {mc ms : Nat} {free : Addr → Prop} {cc : ByteArray} {maxL : Nat} {ret : Option FieldType}
    (hy : plainName y.cls = true) (hw : ws = Cond.code y cc maxL ret :: ws')
    (body : ∀ p e s m args below meth c s₁, BodyLoose p l y (headSpec ws rm) cc maxL ret e s m args below meth c s₁ → c.maxLocals = maxL → (∀ x ∈ c.exceptionTable.toList, False) → Pc args s →
      W p l e (headSpec ws rm).room s m args below meth c s.heap [] 0 0 (vx_MQ below Qc XC args s mc ms free) (entryFrame m args maxL)) : vx_Met l y ws rm Pc Qc XC mc ms free := by
  refine MetFree.of_bodyS (code := cc) (maxLocals := maxL) (ret := ret) hy ?_ ?_
  · intro args s m h hn
    obtain ⟨meth, c, h1, h2, h3, h4, h5, h6, -, -⟩ := Cond.code_spec hn (atoms_spec (ws := ws) h _ (by rw [hw]; exact List.mem_cons_self))
    exact ⟨meth, c, h1, h2, h3, h4, h5, h6⟩
  · intro p e s m args below meth c s₁ B hml hP _
    have hh0 : s₁.heap = s.heap := by rw [B.state]; rfl
    have ht : ∀ x ∈ c.exceptionTable.toList, False := by
      obtain ⟨meth9, c9, h1, h2, -, -, -, -, h7, -⟩ := Cond.code_spec B.named (atoms_spec (ws := ws) B.pre _ (by rw [hw]; exact List.mem_cons_self))
      cases Option.some.inj (h1.symm.trans B.method)
      cases Option.some.inj (h2.symm.trans (Stand.of_body B).code)
      intro x hx
      rw [Array.isEmpty_iff.mp h7] at hx
      cases hx
    obtain ⟨t, a1, o, b1, b2, b3⟩ := body p e s m args below meth c s₁ B hml ht hP s₁ hh0 (Stand.of_body B)
    exact ⟨t, o, a1, b1, b2, b3⟩
/-- the table of a body with handlers -/
theorem vx_table {p : Program} {x y : MethodName} {S : Spec} {cc bytes : ByteArray} {maxL maxL' : Nat} {ret ret' : Option FieldType} {e : Env} {s s₁ : State} {m : MethodId} {args : Array Value} {below : List Frame} {meth : Method} {c : Code} {hh : List (Nat × Nat × Nat × Nat)}
    (B : BodyLoose p l y S cc maxL ret e s m args below meth c s₁) (h : (Cond.codeWith y bytes maxL' ret' hh).before args s = true) : c.exceptionTable.toList = tableOf hh := by
  obtain ⟨m9, meth9, c9, hn9, h1, h2, -, -, h6, -⟩ := Cond.codeWith_spec h
  cases Option.some.inj (hn9.symm.trans B.named)
  cases Option.some.inj (h1.symm.trans B.method)
  cases Option.some.inj (h2.symm.trans (Stand.of_body B).code)
  rw [← h6, table_eq]
end Bodies
end VXA
/-! ===== END ===== -/
/-! ===== BEGIN a static call of a method with an exception table ===== -/
section VXS
variable {p : Program} {l : Launch} {e : Env} {R : Room} {s : State} {m : MethodId} {args : Array Value} {below : List Frame} {meth : Method} {c : Code} {T : State} {H : Heap} {locs : List Loc} {cells slots : Nat}
abbrev vx_CSW (R : Room) (s : State) (args : Array Value) (own : String) (index : Nat) (y : MethodName) (bytes : ByteArray) (maxL : Nat) (ret : Option FieldType) (hh : List (Nat × Nat × Nat × Nat)) (ws : List Cond) (rm : Room) (mc ms n : Nat) : Prop :=
  (rm.cells = mc ∧ rm.slots = ms ∧ rm.frames + 1 ≤ R.frames ∧ 8 + (maxL + 11) + rm.locals ≤ R.locals ∧ (∀ w ∈ ws, ∀ (a' : Array Value) (U : State), s.WarmedH U.vm → w.before a' U = true) ∧ Cond.codeWith y bytes maxL ret hh ∈ ws) ∧
  (Cond.codeWith y bytes maxL ret hh).before args s = true ∧ (Cond.initialized y.cls).before args s = true ∧ (y.cls ≠ "java/lang/invoke/MethodHandle" ∧ y.cls ≠ "java/lang/invoke/VarHandle") ∧
  (∀ sig, parseMethodDescriptor y.desc = some sig → n = sig.parameters.length) ∧ (Cond.methodLink own index y).before args s = true ∧ (Cond.static y).before args s = true
theorem vx_cwSW {own : String} {index maxL mc ms : Nat} {y : MethodName} {bytes : ByteArray} {ret : Option FieldType} {hh : List (Nat × Nat × Nat × Nat)} {Ts ws ws' : List Cond} {rm : Room} (n : Nat) (ht : ∀ w ∈ Ts, w.before args s = true) (hT : GoodIn Ts (va_wsS own index y ws)) (hw : ws = Cond.codeWith y bytes maxL ret hh :: ws') (hrc : rm.cells = mc) (hrs : rm.slots = ms)
    (hd : y.cls ≠ "java/lang/invoke/MethodHandle" ∧ y.cls ≠ "java/lang/invoke/VarHandle" ∧ (parseMethodDescriptor y.desc).map (fun d => d.parameters.length) = some n) (hR : rm.frames + 1 ≤ R.frames ∧ 8 + (maxL + 11) + rm.locals ≤ R.locals) :
    vx_CSW R s args own index y bytes maxL ret hh ws rm mc ms n := by
  have ok : ∀ w ∈ va_wsS own index y ws, w.before args s = true := fun w h => ht w (hT w h).1
  have hG : GoodIn Ts ws := fun w h => hT w (by unfold va_wsS; exact List.mem_append_right _ h)
  have hc : Cond.codeWith y bytes maxL ret hh ∈ ws := by rw [hw]; exact List.mem_cons_self
  refine ⟨⟨hrc, hrs, hR.1, hR.2, pay_in ht hG, hc⟩, ht _ (hG _ hc).1, ok _ (by simp [va_wsS]), ⟨hd.1, hd.2.1⟩, fun sig h => ?_, ok _ (by simp [va_wsS]), ok _ (by simp [va_wsS])⟩
  have h2 := hd.2.2
  rw [h] at h2
  exact (Option.some.inj h2).symm
theorem vx_callSW (X : Stand p l e R s m args below meth c T locs cells slots) (hexec : p.tables.exec = Jvm.exec) {own : String} {index : Nat} {y : MethodName} {bytes : ByteArray} {maxL : Nat} {ret : Option FieldType} {hh : List (Nat × Nat × Nat × Nat)}
    (hown : s.vm.findClass own = some m.cls) (hlink : (Cond.methodLink own index y).before args s = true) (hstat : (Cond.static y).before args s = true) (hinit : (Cond.initialized y.cls).before args s = true)
    (hcode : (Cond.codeWith y bytes maxL ret hh).before args s = true) (hy : y.cls ≠ "java/lang/invoke/MethodHandle" ∧ y.cls ≠ "java/lang/invoke/VarHandle")
    {W9 : Nat} {Pre : Pt → Array Value → Prop} {Post : Pt → Array Value → Option Value → Pt → Prop} (hK : Back l R p e below s args y 3 W9 Pre Post)
    {g : JFrame} (hg : g.method = m) (hsize : g.locals.size = c.maxLocals) {argsL rest : List Value} (hlen : ∀ sig, parseMethodDescriptor y.desc = some sig → argsL.length = sig.parameters.length)
    (hstack : g.stack = argsL.reverse ++ rest) (hW : 2 * g.monitorRoom + (rest.map fun v => v.category).sum ≤ W9) (hdg : decode c.code g.pc = .ok (.invokestatic index, 3))
    (hpre : ∀ vm₁, s.WarmedH vm₁ → Pre ⟨T.setVm vm₁, locs, cells, slots⟩ argsL.toArray) :
    ∃ (v : Option Value) (vm₁ : Vm) (B : Pt), s.WarmedH vm₁ ∧ Stand p l e R s m args below meth c B.U B.locs B.cells B.slots ∧ Post ⟨T.setVm vm₁, locs, cells, slots⟩ argsL.toArray v B ∧
      ∀ target, Steps p.tables e below (B.U.setTop { g with pc := g.pc + 3, stack := v.toList ++ rest }) target → Steps p.tables e below (T.setTop g) target := by
  obtain ⟨mk, methM, cM, hnamed, hmethM, -, -, -, -, -, -, hsigM⟩ := Cond.codeWith_spec hcode
  have hstatic : methM.isStatic = true := Cond.static_spec hnamed hmethM hstat
  obtain ⟨kP, hkP, -⟩ := className_of_methodNamed hnamed
  have hinitP : kP.init = .initialized := Cond.initialized_spec (findClass_of_methodNamed hnamed) hkP hinit
  obtain ⟨vm₁, X₁, hstep₁⟩ := X.invokestatic hexec hown hlink hnamed hmethM hstatic hkP hinitP hy (g := g) hg (argsL := argsL) (rest := rest) (hlen _ hsigM) hstack hdg
  obtain ⟨v, B, X', hpost, hsteps⟩ := hK m meth c ⟨T.setVm vm₁, locs, cells, slots⟩ { g with stack := rest } (.invokestatic index) mk argsL.toArray X₁ hg hsize hdg hW (X₁.named hnamed) (hpre vm₁ X₁.warmed)
  exact ⟨v, vm₁, B, X₁.warmed, X', hpost, fun target h => hstep₁ _ fun acts => by rw [doInvoke_state]; exact hsteps.trans h⟩
theorem vx_runSW {y : MethodName} {bytes cc : ByteArray} {maxL nL mc ms n index : Nat} {ret : Option FieldType} {hh : List (Nat × Nat × Nat × Nat)} {ws : List Cond} {rm : Room} {Pc : Array Value → State → Prop} {Qc : Array Value → State → Outcome → State → Prop} {free : Addr → Prop} {Ts : List Cond} {own : String} {As rest : List Value} {g : JFrame}
    (S : CallFix p m c cc nL s args Ts own) (hM : Met l y ws rm Pc Qc mc ms free) (cw : vx_CSW R s args own index y bytes maxL ret hh ws rm mc ms n) (hp : PreS s H Pc As)
    (hg : g.method = m) (hn : As.length = n) (hsize : g.locals.size = nL) (hstack : g.stack = As.reverse ++ rest) (hW : 2 * g.monitorRoom + (rest.map fun v => v.category).sum ≤ 8) (hdg : decode cc g.pc = .ok (.invokestatic index, 3)) (hf : cells + mc ≤ R.cells ∧ slots + ms ≤ R.slots) :
    va_Run p l e R s m args below meth c H locs cells slots mc ms g rest (Qc As.toArray) (free) := by
  obtain ⟨⟨hrc, hrs, hfr, hlo, hws, hcw⟩, hcode, hini, hy, hlen, hl, hstt⟩ := cw
  have hK : Back l R p e below s args y 3 8 (PreOf R mc ms Pc) (PostOf Qc mc ms free) := va_backW (hh := hh) (bytes := bytes) (maxL := maxL) (ret := ret) hM hp.1 hrc hrs hfr hlo hws hcw (fun a' U hW => word_at hW (Or.inl (by first | rfl | simp [Cond.onTables, Cond.keeps, Cond.steady])) hini)
  obtain ⟨hx, hb, hml, ho, -⟩ := S
  intro T hT X
  obtain ⟨v, vm₁, ⟨U', l2, c2, s2⟩, hW₁, X', ⟨g', mk, t, L, e1, e2, hq, h1, hL, h2, h3⟩, st⟩ := vx_callSW X hx (hh := hh) (bytes := bytes) (maxL := maxL) (ret := ret) ho hl hstt hini hcode hy hK hg (hsize.trans hml.symm) (argsL := As) (rest := rest) (fun sig h => hn.trans (hlen sig h)) hstack hW (by rw [hb]; exact hdg)
    (fun vm₁ hW₁ => ⟨hf.1, hf.2, hp.2 (T.setVm vm₁) hT hW₁⟩)
  dsimp only [Pt.U, Pt.locs, Pt.cells, Pt.slots] at X' e1 e2 h1 h2 h3 st
  subst h1; subst h2; subst h3
  exact ⟨v, (T.setVm vm₁).calling g' mk As.toArray, t, U', L, hT, X', hL, e1, e2, hq, st⟩
/-- not caught here, past rows that name other classes: it goes on to the caller -/
theorem vx_outP {p : Program} {l : Launch} {e : Env} {R : Room} {s : State} {m : MethodId} {args : Array Value} {below : List Frame} {meth : Method} {c : Code} {H : Heap} {locs : List Loc} {cells slots : Nat} {free : Addr → Prop} {ls : Array Slot} {rest : List Value} {Qc : Array Value → State → Outcome → State → Prop} {XC : String → State → State → Prop}
    {pc : Nat} {own E : String} {ce : Cell} {q : Addr} {mc ms : Nat} (hown : s.vm.findClass own = some m.cls) (hlocks : meth.locks = false)
    (hpass : ∀ z ∈ c.exceptionTable.toList, covers z pc = false ∨ (z.catchType ≠ 0 ∧ ∃ nm : String, (Cond.classLink own z.catchType nm).before args s = true ∧ va_Nc E nm s)) (hcell : H[q]? = some ce) (hv : ce.vm = .none) (hcl : s.vm.findClass E = some ce.cls)
    (hx : ∀ t : State, t.heap = H → s.vm.Alike t.vm → XC E s t) (hf : ∀ z ∈ locs, free z.base) (hc : cells ≤ mc) (hs : slots ≤ ms) :
    vx_W p l e R s m args below meth c H locs cells slots (vx_MQ below Qc XC args s mc ms free) (F0 m pc ls rest) q := by
  intro T hT X
  have hpl : e.platform.magicAccessors = ({} : Platform).magicAccessors := by rw [X.admits.platform]
  obtain ⟨vm', hW', X', st⟩ := X.outThrough hlocks q (g := F0 m pc ls rest) rfl rfl rfl (cell := ce) (by rw [hT]; exact hcell) (by rw [hv]; rfl)
    (by obtain ⟨k9, h9, -⟩ := Vm.findClass_spec hcl; exact ⟨k9, h9⟩) (fun z hz => by
      rcases hpass z hz with h | ⟨hz0, nm, hl1, hn1⟩
      · exact Or.inl h
      · obtain ⟨c6, hc6, hcl6⟩ := Cond.classLink_spec hown hl1 e.platform hpl
        obtain ⟨a8, b8, h1, h2, h3⟩ := hn1
        cases Option.some.inj (h1.symm.trans hcl)
        cases Option.some.inj (h2.symm.trans hc6)
        exact Or.inr ⟨hz0, _, hcl6, h3⟩)
  obtain ⟨g₀, hfr⟩ := X'.frames_eq
  have hcell9 : ((T.setVm vm').setFrames (.throwing q :: below)).heap[q]? = some ce := by
    show T.heap[q]? = some ce
    rw [hT]; exact hcell
  have hend : Ended ((T.setVm vm').setFrames (.throwing q :: below)) below (.threw q) := State.frames_setFrames _ (State.cur_lt_of_frames hfr)
  refine ⟨(T.setVm vm').setFrames (.throwing q :: below), ?_, .threw q, X'.here.running, hend, Or.inr ⟨q, rfl, E, ce, locs, hx _ hT (X'.ends _).1.alike, hcell9, hv, hcl, (X'.ends _).1, (X'.ends _).2.mono hc hs, hf⟩⟩
  rw [X.pushThrowing_eq]
  exact st
/-- a thing of a world lies in the heap -/
theorem vx_lt {D : va_G} {cl : List vw_C} {ws : va_W} {H1 : Heap} (h : va_P D cl ws H1) {k : Nat} {q : Nat × va_E} (hk : ws[k]? = some q) : q.1 < H1.size := (h k q hk).lt
end VXS
/-! ===== END ===== -/
/-! ===== BEGIN methods with a table of their own: called by a name, returning or throwing ===== -/
section VXH
/-! vx_backW, vx_callVX, vx_callSX, vx_callVW, vx_runVW, vx_runVX, vx_runSX, vx_ofWH follow the same proofs as their sisters above (Free/Laws.lean, Shelf42/LK1.lean); vx_outP calls Shelf42/NT130.lean (outThrough). -/
section
variable {l : Launch} {R : Room} {p : Program} {e : Env} {below : List Frame} {s : State} {sargs : Array Value} {y : MethodName} {len W9 : Nat}
theorem vx_backW {ws : List Cond} {rm : Room} {Pc : Array Value → State → Prop} {Qc : Array Value → State → Outcome → State → Prop} {XC : String → State → State → Prop} {mc ms : Nat} {free : Addr → Prop} {bytes : ByteArray} {maxL : Nat} {ret : Option FieldType} {hh : List (Nat × Nat × Nat × Nat)}
    (hM : vx_Met l y ws rm Pc Qc XC mc ms free) (hblind : FrameBlind Pc) (hrc : rm.cells = mc) (hrs : rm.slots = ms)
    (hframes : rm.frames + 1 ≤ R.frames) (hlocals : W9 + (maxL + 11) + rm.locals ≤ R.locals)
    (hws : ∀ w ∈ ws, ∀ a' U, s.WarmedH U.vm → w.before a' U = true) (hcode : Cond.codeWith y bytes maxL ret hh ∈ ws) (hinit : ∀ a' U, s.WarmedH U.vm → (Cond.initialized y.cls).before a' U = true) :
    vx_Back l R p e below s sargs y len W9 (PreOf R mc ms Pc) (PostOf Qc mc ms free) (vx_Post XC mc ms free) := by
  intro m meth c A g ig mk a X hg hsize hdg hW hn hp
  have h1 : (headSpec ws rm).pre.before a A.U = true := atoms_intro fun w hw => hws w hw _ _ X.warmed
  have h2 : (Cond.codeWith y bytes maxL ret hh).before a A.U = true := hws _ hcode _ _ X.warmed
  have h3 : (Cond.initialized y.cls).before a A.U = true := hinit _ _ X.warmed
  have h4 : A.cells + (headSpec ws rm).room.cells ≤ R.cells := by rw [show (headSpec ws rm).room.cells = mc from hrc]; exact hp.1
  have h5 : A.slots + (headSpec ws rm).room.slots ≤ R.slots := by rw [show (headSpec ws rm).room.slots = ms from hrs]; exact hp.2.1
  have hPc : Pc a (A.U.calling g mk a) := hblind _ _ _ _ hp.2.2
  obtain ⟨U, Ls, c0, s0⟩ := A
  dsimp only [Pt.U, Pt.locs, Pt.cells, Pt.slots] at h1 h2 h3 h4 h5 X hn hPc ⊢
  obtain ⟨m9, methY, cY, hn9, hmY, hcY, -, hlY, -⟩ := Cond.codeWith_spec h2
  cases Option.some.inj (hn9.symm.trans hn)
  obtain ⟨kY, hkY, -⟩ := className_of_methodNamed hn
  have hinitY : kY.init = .initialized := Cond.initialized_spec (findClass_of_methodNamed hn) hkY h3
  have h : At U g.method c below := by rw [hg]; exact X.here
  have hlocals9 : W9 + (maxL + 11) + (headSpec ws rm).room.locals ≤ R.locals := hlocals
  have happ : (headSpec ws rm).appliesLoose y e.platform (U.calling g mk a) = true :=
    Spec.appliesLoose_calling (g := g) h hdg hn hkY hinitY
      (X.room_calling (g := g) (R' := (headSpec ws rm).room) hsize hmY hcY hframes (by rw [hlY]; omega) h4 h5) h1
  obtain ⟨mid, hmid⟩ := h.above
  have hfr : (U.setTop g).frames = (.java g :: mid) ++ below := by rw [State.frames_setTop' g h.top, hmid]; rfl
  obtain ⟨o, s₂, hsteps, -, hend, hq⟩ := Steps.callFree hM p X.admits X.cas X.clock (acts := []) hfr happ hPc trivial
  have hq' : vx_Q Qc XC mc ms free a (U.calling g mk a) o s₂ := hq
  rw [State.frames_setTop' g h.top] at hend
  obtain ⟨g₀, hg0⟩ := Option.isSome_iff_exists.mp h.top
  obtain ⟨r, hr⟩ := State.topJava?_eq_some.mp hg0
  have hr' : (({ U with heap := s₂.heap, slotsUsed := s₂.slotsUsed } : State).setVm s₂.vm).frames = .java g₀ :: r := hr
  rcases hq' with ⟨hqc, L, hfe, hL⟩ | ⟨q, rfl, E, ce, L, hx, hce, hcv, hcl, hW₂, hsm, hL⟩
  · obtain ⟨⟨v, rfl⟩, hW₂, e2, q2, q3, q4, q5, q6⟩ := id hfe
    have e3 : s₂ = ({ (U.calling g mk a).setFrames s₂.frames with heap := s₂.heap, slotsUsed := s₂.slotsUsed } : State).setVm s₂.vm := by
      have : s₂ = ({ s₂ with vm := (U.calling g mk a).vm } : State).setVm s₂.vm := rfl
      rw [e2] at this
      exact this
    obtain ⟨c₂, i₂, len₂, hc₂, hd₂, hf₂⟩ := hend
    have hW' : U.WarmedH s₂.vm := hW₂
    have hcc : c₂ = c := by
      have h1 : s₂.code? g.method = U.code? g.method := by
        rw [State.code?_eq, State.code?_eq, hW'.alike.method?]
      exact Option.some.inj (hc₂.symm.trans (h1.trans h.code))
    subst hcc
    have hlen : len₂ = len := by rw [hdg] at hd₂; cases hd₂; rfl
    subst hlen
    have hs₂ : s₂ = (({ U with heap := s₂.heap, slotsUsed := s₂.slotsUsed } : State).setVm s₂.vm).setTop { g with pc := g.pc + len₂, stack := v.toList ++ g.stack } := by
      refine e3.trans ?_
      rw [hf₂, State.calling_eq h.top, State.setFrames_setFrames, State.setTop_of_frames _ hr', hr]
      rfl
    have hsame : U.sameButNew ({ U with heap := s₂.heap, slotsUsed := s₂.slotsUsed } : State) L mc ms := by
      refine ⟨?_, q2, q3, q4, q5, q6⟩
      obtain ⟨t, ht, -⟩ := State.frames_cons hr
      show ({ U with heap := s₂.heap, slotsUsed := s₂.slotsUsed } : State) = { U.setFrames U.frames with heap := s₂.heap, slotsUsed := s₂.slotsUsed }
      rw [State.setFrames_self ht]
    subst hg
    refine Or.inl ⟨v, ⟨(({ U with heap := s₂.heap, slotsUsed := s₂.slotsUsed } : State).setVm s₂.vm), Ls ++ L, c0 + mc, s0 + ms⟩,
      ⟨X.admits, X.cas, X.clock, X.frames, X.room, X.hears, X.method, X.code, (X.here.setHeapUsed s₂.heap s₂.slotsUsed).setVm hW'.alike, X.tail, State.WarmedH.trans X.warmed hW', X.limits, X.bytes, X.same.trans (hsame.setVm s.vm)⟩,
      ⟨g, mk, s₂, L, rfl, rfl, hqc, rfl, hL, rfl, rfl⟩, ?_⟩
    show Steps p.tables e below _ ((({ U with heap := s₂.heap, slotsUsed := s₂.slotsUsed } : State).setVm s₂.vm).setTop { g with pc := g.pc + len₂, stack := v.toList ++ g.stack })
    rw [← hs₂]
    exact hsteps
  · obtain ⟨e2, q2, q3, q4, q5, q6⟩ := id hsm
    have e3 : s₂ = ({ (U.calling g mk a).setFrames s₂.frames with heap := s₂.heap, slotsUsed := s₂.slotsUsed } : State).setVm s₂.vm := by
      have : s₂ = ({ s₂ with vm := (U.calling g mk a).vm } : State).setVm s₂.vm := rfl
      rw [e2] at this
      exact this
    have hf₂ : s₂.frames = .throwing q :: .java g :: U.frames.tail := hend
    have hW' : U.WarmedH s₂.vm := hW₂
    have hs₂ : s₂ = ((({ U with heap := s₂.heap, slotsUsed := s₂.slotsUsed } : State).setVm s₂.vm).setTop g).pushFrame (.throwing q) := by
      refine e3.trans ?_
      rw [hf₂, State.calling_eq h.top, State.setFrames_setFrames, State.pushFrame, State.frames_setTop _ hr', State.setTop_of_frames _ hr', State.setFrames_setFrames, hr]
      rfl
    have hsame : U.sameButNew ({ U with heap := s₂.heap, slotsUsed := s₂.slotsUsed } : State) L mc ms := by
      refine ⟨?_, q2, q3, q4, q5, q6⟩
      obtain ⟨t, ht, -⟩ := State.frames_cons hr
      show ({ U with heap := s₂.heap, slotsUsed := s₂.slotsUsed } : State) = { U.setFrames U.frames with heap := s₂.heap, slotsUsed := s₂.slotsUsed }
      rw [State.setFrames_self ht]
    subst hg
    refine Or.inr ⟨q, ⟨(({ U with heap := s₂.heap, slotsUsed := s₂.slotsUsed } : State).setVm s₂.vm), Ls ++ L, c0 + mc, s0 + ms⟩,
      ⟨X.admits, X.cas, X.clock, X.frames, X.room, X.hears, X.method, X.code, (X.here.setHeapUsed s₂.heap s₂.slotsUsed).setVm hW'.alike, X.tail, State.WarmedH.trans X.warmed hW', X.limits, X.bytes, X.same.trans (hsame.setVm s.vm)⟩,
      ⟨g, mk, s₂, L, E, ce, rfl, rfl, hx, hce, hcv, hcl, rfl, hL, rfl, rfl⟩, ?_⟩
    show Steps p.tables e below _ (((({ U with heap := s₂.heap, slotsUsed := s₂.slotsUsed } : State).setVm s₂.vm).setTop g).pushFrame (.throwing q))
    rw [← hs₂]
    exact hsteps
end
variable {p : Program} {l : Launch} {e : Env} {R : Room} {s : State} {m : MethodId} {args : Array Value} {below : List Frame} {meth : Method} {c : Code} {T : State} {H : Heap} {locs : List Loc} {cells slots : Nat}
theorem vx_callVX (X : Stand p l e R s m args below meth c T locs cells slots) (hexec : p.tables.exec = Jvm.exec) {own C : String} {index : Nat} {y : MethodName} {bytes : ByteArray} {maxL : Nat} {ret : Option FieldType} {hh : List (Nat × Nat × Nat × Nat)}
    (hown : s.vm.findClass own = some m.cls) (hlink : (Cond.methodLink own index y).before args s = true) (hinst : (Cond.instanceMethod y).before args s = true) (hsel : (Cond.selects C y y).before args s = true)
    (hcode : (Cond.codeWith y bytes maxL ret hh).before args s = true) (hy : y.cls ≠ "java/lang/invoke/MethodHandle" ∧ y.cls ≠ "java/lang/invoke/VarHandle")
    {W9 : Nat} {Pre : Pt → Array Value → Prop} {Post : Pt → Array Value → Option Value → Pt → Prop} {PostX : Pt → Array Value → Addr → Pt → Prop} (hK : vx_Back l R p e below s args y 3 W9 Pre Post PostX)
    {b : Addr} {cellB : Cell} (hcell : T.heap[b]? = some cellB) (hobj : cellB.vm.isStatics = false) (hcls : s.vm.findClass C = some cellB.cls)
    {g : JFrame} (hg : g.method = m) (hsize : g.locals.size = c.maxLocals) {argsL rest : List Value} (hlen : ∀ sig, parseMethodDescriptor y.desc = some sig → argsL.length = sig.parameters.length)
    (hstack : g.stack = argsL.reverse ++ .ref b :: rest) (hW : 2 * g.monitorRoom + (rest.map fun v => v.category).sum ≤ W9) (hdg : decode c.code g.pc = .ok (.invokevirtual index, 3))
    (hpre : ∀ vm₁, s.WarmedH vm₁ → Pre ⟨T.setVm vm₁, locs, cells, slots⟩ (Value.ref b :: argsL).toArray) :
    (∃ (v : Option Value) (vm₁ : Vm) (B : Pt), s.WarmedH vm₁ ∧ Stand p l e R s m args below meth c B.U B.locs B.cells B.slots ∧ Post ⟨T.setVm vm₁, locs, cells, slots⟩ (Value.ref b :: argsL).toArray v B ∧
      ∀ target, Steps p.tables e below (B.U.setTop { g with pc := g.pc + 3, stack := v.toList ++ rest }) target → Steps p.tables e below (T.setTop g) target) ∨
    (∃ (q : Addr) (vm₁ : Vm) (B : Pt), s.WarmedH vm₁ ∧ Stand p l e R s m args below meth c B.U B.locs B.cells B.slots ∧ PostX ⟨T.setVm vm₁, locs, cells, slots⟩ (Value.ref b :: argsL).toArray q B ∧
      Steps p.tables e below (T.setTop g) ((B.U.setTop { g with stack := rest }).pushFrame (.throwing q))) := by
  obtain ⟨mk, methM, hnamed, hmethM, hstM, habM⟩ := Cond.instanceMethod_spec hinst
  obtain ⟨m8, methM', cM, hn8, hmethM', -, -, -, -, -, -, hsigM⟩ := Cond.codeWith_spec hcode
  cases Option.some.inj (hn8.symm.trans hnamed)
  cases hmethM.symm.trans hmethM'
  obtain ⟨c2, r2, m2, q1, q2, q3, q4, kP, hkP, hkPi⟩ := Cond.selects_spec hsel
  cases hcls.symm.trans q1
  cases (State.methodFound?_of_named hnamed hy).symm.trans q2
  cases hnamed.symm.trans q3
  have hselP : selectMethod e.platform s.vm cellB.cls mk = .method mk := by rw [Launch.admits_selectMethod X.admits]; exact q4
  obtain ⟨vm₁, X₁, hstep₁⟩ := X.invokevirtual hexec hown hlink hnamed hmethM hstM hkP hkPi hy (a := b) (cell := cellB) hcell
    (fun z h => by rw [h] at hobj; cases hobj) hselP hmethM habM hkP hkPi (g := g) hg (argsL := argsL) (rest := rest) (hlen _ hsigM) hstack hdg
  rcases hK m meth c ⟨T.setVm vm₁, locs, cells, slots⟩ { g with stack := rest } (.invokevirtual index) mk (Value.ref b :: argsL).toArray X₁ hg hsize hdg hW (X₁.named hnamed) (hpre vm₁ X₁.warmed) with ⟨v, B, X', hpost, hsteps⟩ | ⟨q, B, X', hpost, hsteps⟩
  · exact Or.inl ⟨v, vm₁, B, X₁.warmed, X', hpost, fun target h => hstep₁ _ fun acts => by rw [doInvoke_state]; exact hsteps.trans h⟩
  · exact Or.inr ⟨q, vm₁, B, X₁.warmed, X', hpost, hstep₁ _ fun acts => by rw [doInvoke_state]; exact hsteps⟩
theorem vx_callSX (X : Stand p l e R s m args below meth c T locs cells slots) (hexec : p.tables.exec = Jvm.exec) {own : String} {index : Nat} {y : MethodName} {bytes : ByteArray} {maxL : Nat} {ret : Option FieldType} {hh : List (Nat × Nat × Nat × Nat)}
    (hown : s.vm.findClass own = some m.cls) (hlink : (Cond.methodLink own index y).before args s = true) (hstat : (Cond.static y).before args s = true) (hinit : (Cond.initialized y.cls).before args s = true)
    (hcode : (Cond.codeWith y bytes maxL ret hh).before args s = true) (hy : y.cls ≠ "java/lang/invoke/MethodHandle" ∧ y.cls ≠ "java/lang/invoke/VarHandle")
    {W9 : Nat} {Pre : Pt → Array Value → Prop} {Post : Pt → Array Value → Option Value → Pt → Prop} {PostX : Pt → Array Value → Addr → Pt → Prop} (hK : vx_Back l R p e below s args y 3 W9 Pre Post PostX)
    {g : JFrame} (hg : g.method = m) (hsize : g.locals.size = c.maxLocals) {argsL rest : List Value} (hlen : ∀ sig, parseMethodDescriptor y.desc = some sig → argsL.length = sig.parameters.length)
    (hstack : g.stack = argsL.reverse ++ rest) (hW : 2 * g.monitorRoom + (rest.map fun v => v.category).sum ≤ W9) (hdg : decode c.code g.pc = .ok (.invokestatic index, 3))
    (hpre : ∀ vm₁, s.WarmedH vm₁ → Pre ⟨T.setVm vm₁, locs, cells, slots⟩ argsL.toArray) :
    (∃ (v : Option Value) (vm₁ : Vm) (B : Pt), s.WarmedH vm₁ ∧ Stand p l e R s m args below meth c B.U B.locs B.cells B.slots ∧ Post ⟨T.setVm vm₁, locs, cells, slots⟩ argsL.toArray v B ∧
      ∀ target, Steps p.tables e below (B.U.setTop { g with pc := g.pc + 3, stack := v.toList ++ rest }) target → Steps p.tables e below (T.setTop g) target) ∨
    (∃ (q : Addr) (vm₁ : Vm) (B : Pt), s.WarmedH vm₁ ∧ Stand p l e R s m args below meth c B.U B.locs B.cells B.slots ∧ PostX ⟨T.setVm vm₁, locs, cells, slots⟩ argsL.toArray q B ∧
      Steps p.tables e below (T.setTop g) ((B.U.setTop { g with stack := rest }).pushFrame (.throwing q))) := by
  obtain ⟨mk, methM, cM, hnamed, hmethM, -, -, -, -, -, -, hsigM⟩ := Cond.codeWith_spec hcode
  have hstatic : methM.isStatic = true := Cond.static_spec hnamed hmethM hstat
  obtain ⟨kP, hkP, -⟩ := className_of_methodNamed hnamed
  have hinitP : kP.init = .initialized := Cond.initialized_spec (findClass_of_methodNamed hnamed) hkP hinit
  obtain ⟨vm₁, X₁, hstep₁⟩ := X.invokestatic hexec hown hlink hnamed hmethM hstatic hkP hinitP hy (g := g) hg (argsL := argsL) (rest := rest) (hlen _ hsigM) hstack hdg
  rcases hK m meth c ⟨T.setVm vm₁, locs, cells, slots⟩ { g with stack := rest } (.invokestatic index) mk argsL.toArray X₁ hg hsize hdg hW (X₁.named hnamed) (hpre vm₁ X₁.warmed) with ⟨v, B, X', hpost, hsteps⟩ | ⟨q, B, X', hpost, hsteps⟩
  · exact Or.inl ⟨v, vm₁, B, X₁.warmed, X', hpost, fun target h => hstep₁ _ fun acts => by rw [doInvoke_state]; exact hsteps.trans h⟩
  · exact Or.inr ⟨q, vm₁, B, X₁.warmed, X', hpost, hstep₁ _ fun acts => by rw [doInvoke_state]; exact hsteps⟩
theorem vx_callVW (X : Stand p l e R s m args below meth c T locs cells slots) (hexec : p.tables.exec = Jvm.exec) {own C : String} {index : Nat} {y : MethodName} {bytes : ByteArray} {maxL : Nat} {ret : Option FieldType} {hh : List (Nat × Nat × Nat × Nat)}
    (hown : s.vm.findClass own = some m.cls) (hlink : (Cond.methodLink own index y).before args s = true) (hinst : (Cond.instanceMethod y).before args s = true) (hsel : (Cond.selects C y y).before args s = true)
    (hcode : (Cond.codeWith y bytes maxL ret hh).before args s = true) (hy : y.cls ≠ "java/lang/invoke/MethodHandle" ∧ y.cls ≠ "java/lang/invoke/VarHandle")
    {W9 : Nat} {Pre : Pt → Array Value → Prop} {Post : Pt → Array Value → Option Value → Pt → Prop} (hK : Back l R p e below s args y 3 W9 Pre Post)
    {b : Addr} {cellB : Cell} (hcell : T.heap[b]? = some cellB) (hobj : cellB.vm.isStatics = false) (hcls : s.vm.findClass C = some cellB.cls)
    {g : JFrame} (hg : g.method = m) (hsize : g.locals.size = c.maxLocals) {argsL rest : List Value} (hlen : ∀ sig, parseMethodDescriptor y.desc = some sig → argsL.length = sig.parameters.length)
    (hstack : g.stack = argsL.reverse ++ .ref b :: rest) (hW : 2 * g.monitorRoom + (rest.map fun v => v.category).sum ≤ W9) (hdg : decode c.code g.pc = .ok (.invokevirtual index, 3))
    (hpre : ∀ vm₁, s.WarmedH vm₁ → Pre ⟨T.setVm vm₁, locs, cells, slots⟩ (Value.ref b :: argsL).toArray) :
    ∃ (v : Option Value) (vm₁ : Vm) (B : Pt), s.WarmedH vm₁ ∧ Stand p l e R s m args below meth c B.U B.locs B.cells B.slots ∧ Post ⟨T.setVm vm₁, locs, cells, slots⟩ (Value.ref b :: argsL).toArray v B ∧
      ∀ target, Steps p.tables e below (B.U.setTop { g with pc := g.pc + 3, stack := v.toList ++ rest }) target → Steps p.tables e below (T.setTop g) target := by
  obtain ⟨mk, methM, hnamed, hmethM, hstM, habM⟩ := Cond.instanceMethod_spec hinst
  obtain ⟨m8, methM', cM, hn8, hmethM', -, -, -, -, -, -, hsigM⟩ := Cond.codeWith_spec hcode
  cases Option.some.inj (hn8.symm.trans hnamed)
  cases hmethM.symm.trans hmethM'
  obtain ⟨c2, r2, m2, q1, q2, q3, q4, kP, hkP, hkPi⟩ := Cond.selects_spec hsel
  cases hcls.symm.trans q1
  cases (State.methodFound?_of_named hnamed hy).symm.trans q2
  cases hnamed.symm.trans q3
  have hselP : selectMethod e.platform s.vm cellB.cls mk = .method mk := by rw [Launch.admits_selectMethod X.admits]; exact q4
  obtain ⟨vm₁, X₁, hstep₁⟩ := X.invokevirtual hexec hown hlink hnamed hmethM hstM hkP hkPi hy (a := b) (cell := cellB) hcell
    (fun z h => by rw [h] at hobj; cases hobj) hselP hmethM habM hkP hkPi (g := g) hg (argsL := argsL) (rest := rest) (hlen _ hsigM) hstack hdg
  obtain ⟨v, B, X', hpost, hsteps⟩ := hK m meth c ⟨T.setVm vm₁, locs, cells, slots⟩ { g with stack := rest } (.invokevirtual index) mk (Value.ref b :: argsL).toArray X₁ hg hsize hdg hW (X₁.named hnamed) (hpre vm₁ X₁.warmed)
  exact ⟨v, vm₁, B, X₁.warmed, X', hpost, fun target h => hstep₁ _ fun acts => by rw [doInvoke_state]; exact hsteps.trans h⟩
abbrev vx_CVW (R : Room) (s : State) (args : Array Value) (own C : String) (index : Nat) (y : MethodName) (bytes : ByteArray) (maxL : Nat) (ret : Option FieldType) (hh : List (Nat × Nat × Nat × Nat)) (ws : List Cond) (rm : Room) (mc ms n : Nat) : Prop :=
  (rm.cells = mc ∧ rm.slots = ms ∧ rm.frames + 1 ≤ R.frames ∧ 8 + (maxL + 11) + rm.locals ≤ R.locals ∧ (∀ w ∈ ws, ∀ (a' : Array Value) (U : State), s.WarmedH U.vm → w.before a' U = true) ∧ Cond.codeWith y bytes maxL ret hh ∈ ws) ∧
  (Cond.codeWith y bytes maxL ret hh).before args s = true ∧ (Cond.initialized y.cls).before args s = true ∧ (y.cls ≠ "java/lang/invoke/MethodHandle" ∧ y.cls ≠ "java/lang/invoke/VarHandle") ∧
  (∀ sig, parseMethodDescriptor y.desc = some sig → n = sig.parameters.length) ∧ (Cond.methodLink own index y).before args s = true ∧ (Cond.instanceMethod y).before args s = true ∧ (Cond.selects C y y).before args s = true
theorem vx_cwVW {own C : String} {index maxL mc ms : Nat} {y : MethodName} {bytes : ByteArray} {ret : Option FieldType} {hh : List (Nat × Nat × Nat × Nat)} {Ts ws ws' : List Cond} {rm : Room} (n : Nat) (ht : ∀ w ∈ Ts, w.before args s = true) (hT : GoodIn Ts (wsV own index C y ws)) (hw : ws = Cond.codeWith y bytes maxL ret hh :: ws') (hrc : rm.cells = mc) (hrs : rm.slots = ms)
    (hd : y.cls = C ∧ y.cls ≠ "java/lang/invoke/MethodHandle" ∧ y.cls ≠ "java/lang/invoke/VarHandle" ∧ (parseMethodDescriptor y.desc).map (fun d => d.parameters.length) = some n) (hR : rm.frames + 1 ≤ R.frames ∧ 8 + (maxL + 11) + rm.locals ≤ R.locals) :
    vx_CVW R s args own C index y bytes maxL ret hh ws rm mc ms n := by
  obtain ⟨hC, hd⟩ := hd
  subst hC
  have ok : ∀ w ∈ wsV own index y.cls y ws, w.before args s = true := fun w h => ht w (hT w h).1
  have hG : GoodIn Ts ws := fun w h => hT w (by unfold wsV; exact List.mem_append_right _ h)
  have hc : Cond.codeWith y bytes maxL ret hh ∈ ws := by rw [hw]; exact List.mem_cons_self
  refine ⟨⟨hrc, hrs, hR.1, hR.2, pay_in ht hG, hc⟩, ht _ (hG _ hc).1, ok _ (by simp [wsV]), ⟨hd.1, hd.2.1⟩, fun sig h => ?_, ok _ (by simp [wsV]), ok _ (by simp [wsV]), ok _ (by simp [wsV])⟩
  have h2 := hd.2.2
  rw [h] at h2
  exact (Option.some.inj h2).symm
theorem vx_runVW {y : MethodName} {bytes cc : ByteArray} {maxL nL mc ms n index : Nat} {ret : Option FieldType} {hh : List (Nat × Nat × Nat × Nat)} {ws : List Cond} {rm : Room} {Pc : Array Value → State → Prop} {Qc : Array Value → State → Outcome → State → Prop} {free : Addr → Prop} {Ts : List Cond} {own C : String} {b : Addr} {As rest : List Value} {g : JFrame}
    (S : CallFix p m c cc nL s args Ts own) (hM : Met l y ws rm Pc Qc mc ms free) (cw : vx_CVW R s args own C index y bytes maxL ret hh ws rm mc ms n) (hp : PreV s H C b Pc As)
    (hg : g.method = m) (hn : As.length = n) (hsize : g.locals.size = nL) (hstack : g.stack = As.reverse ++ .ref b :: rest) (hW : 2 * g.monitorRoom + (rest.map fun v => v.category).sum ≤ 8) (hdg : decode cc g.pc = .ok (.invokevirtual index, 3)) (hf : cells + mc ≤ R.cells ∧ slots + ms ≤ R.slots) :
    va_Run p l e R s m args below meth c H locs cells slots mc ms g rest (Qc (Value.ref b :: As).toArray) free := by
  obtain ⟨⟨hrc, hrs, hfr, hlo, hws, hcw⟩, hcode, hini, hy, hlen, hl, hin, hse⟩ := cw
  have hK : Back l R p e below s args y 3 8 (PreOf R mc ms Pc) (PostOf Qc mc ms free) := va_backW (hh := hh) (bytes := bytes) (maxL := maxL) (ret := ret) hM hp.1 hrc hrs hfr hlo hws hcw (fun a' U hW => word_at hW (Or.inl (by first | rfl | simp [Cond.onTables, Cond.keeps, Cond.steady])) hini)
  obtain ⟨hx, hb, hml, ho, -⟩ := S
  obtain ⟨-, ⟨cellB, hcB, hoB, hclB⟩, hPc⟩ := hp
  intro T hT X
  obtain ⟨v, vm₁, ⟨U', l2, c2, s2⟩, hW₁, X', ⟨g', mk, t, L, e1, e2, hq, h1, hL, h2, h3⟩, st⟩ := vx_callVW X hx (C := C) (hh := hh) (bytes := bytes) (maxL := maxL) (ret := ret) ho hl hin hse hcode hy hK (by rw [hT]; exact hcB) hoB hclB hg (hsize.trans hml.symm) (argsL := As) (rest := rest) (fun sig h => hn.trans (hlen sig h)) hstack hW (by rw [hb]; exact hdg)
    (fun vm₁ hW₁ => ⟨hf.1, hf.2, hPc (T.setVm vm₁) hT hW₁⟩)
  dsimp only [Pt.U, Pt.locs, Pt.cells, Pt.slots] at X' e1 e2 h1 h2 h3 st
  subst h1; subst h2; subst h3
  exact ⟨v, (T.setVm vm₁).calling g' mk (Value.ref b :: As).toArray, t, U', L, hT, X', hL, e1, e2, hq, st⟩
section
variable {y : MethodName} {bytes cc : ByteArray} {maxL nL mc ms n index : Nat} {ret : Option FieldType} {ws : List Cond} {rm : Room} {Pc : Array Value → State → Prop} {Qc : Array Value → State → Outcome → State → Prop} {XC : String → State → State → Prop} {free : Addr → Prop} {Ts : List Cond} {own C : String} {b : Addr} {As rest : List Value} {g : JFrame}
theorem vx_runVX {hh : List (Nat × Nat × Nat × Nat)} (S : CallFix p m c cc nL s args Ts own) (hM : vx_Met l y ws rm Pc Qc XC mc ms free) (cw : vx_CVW R s args own C index y bytes maxL ret hh ws rm mc ms n) (hp : PreV s H C b Pc As)
    (hg : g.method = m) (hn : As.length = n) (hsize : g.locals.size = nL) (hstack : g.stack = As.reverse ++ .ref b :: rest) (hW : 2 * g.monitorRoom + (rest.map fun v => v.category).sum ≤ 8) (hdg : decode cc g.pc = .ok (.invokevirtual index, 3)) (hf : cells + mc ≤ R.cells ∧ slots + ms ≤ R.slots) :
    vx_Run p l e R s m args below meth c H locs cells slots mc ms g rest (Qc (Value.ref b :: As).toArray) XC free := by
  obtain ⟨⟨hrc, hrs, hfr, hlo, hws, hcw⟩, hcode, hini, hy, hlen, hl, hin, hse⟩ := cw
  have hK : vx_Back l R p e below s args y 3 8 (PreOf R mc ms Pc) (PostOf Qc mc ms free) (vx_Post XC mc ms free) := vx_backW (hh := hh) (bytes := bytes) (maxL := maxL) (ret := ret) hM hp.1 hrc hrs hfr hlo hws hcw (fun a' U hW => word_at hW (Or.inl (by first | rfl | simp [Cond.onTables, Cond.keeps, Cond.steady])) hini)
  obtain ⟨hx, hb, hml, ho, -⟩ := S
  obtain ⟨-, ⟨cellB, hcB, hoB, hclB⟩, hPc⟩ := hp
  intro T hT X
  rcases vx_callVX X hx (C := C) (hh := hh) (bytes := bytes) (maxL := maxL) (ret := ret) ho hl hin hse hcode hy hK (by rw [hT]; exact hcB) hoB hclB hg (hsize.trans hml.symm) (argsL := As) (rest := rest) (fun sig h => hn.trans (hlen sig h)) hstack hW (by rw [hb]; exact hdg)
    (fun vm₁ hW₁ => ⟨hf.1, hf.2, hPc (T.setVm vm₁) hT hW₁⟩) with ⟨v, vm₁, ⟨U', l2, c2, s2⟩, hW₁, X', ⟨g', mk, t, L, e1, e2, hq, h1, hL, h2, h3⟩, st⟩ | ⟨q, vm₁, ⟨U', l2, c2, s2⟩, hW₁, X', ⟨g', mk, t, L, E, ce, e1, e2, hq, hce, hcv, hcl, h1, hL, h2, h3⟩, st⟩
  · dsimp only [Pt.U, Pt.locs, Pt.cells, Pt.slots] at X' e1 e2 h1 h2 h3 st
    subst h1; subst h2; subst h3
    exact Or.inl ⟨v, (T.setVm vm₁).calling g' mk (Value.ref b :: As).toArray, t, U', L, hT, X', hL, e1, e2, hq, st⟩
  · dsimp only [Pt.U, Pt.locs, Pt.cells, Pt.slots] at X' e1 e2 h1 h2 h3 st hcl
    subst h1; subst h2; subst h3
    exact Or.inr ⟨q, (T.setVm vm₁).calling g' mk (Value.ref b :: As).toArray, t, U', L, E, ce, hT, X', hL, e1, e2, hq, hce, hcv, vx_cls hW₁ hcl, st⟩
theorem vx_runSX {hh : List (Nat × Nat × Nat × Nat)} (S : CallFix p m c cc nL s args Ts own) (hM : vx_Met l y ws rm Pc Qc XC mc ms free) (cw : vx_CSW R s args own index y bytes maxL ret hh ws rm mc ms n) (hp : PreS s H Pc As)
    (hg : g.method = m) (hn : As.length = n) (hsize : g.locals.size = nL) (hstack : g.stack = As.reverse ++ rest) (hW : 2 * g.monitorRoom + (rest.map fun v => v.category).sum ≤ 8) (hdg : decode cc g.pc = .ok (.invokestatic index, 3)) (hf : cells + mc ≤ R.cells ∧ slots + ms ≤ R.slots) :
    vx_Run p l e R s m args below meth c H locs cells slots mc ms g rest (Qc As.toArray) XC free := by
  obtain ⟨⟨hrc, hrs, hfr, hlo, hws, hcw⟩, hcode, hini, hy, hlen, hl, hstt⟩ := cw
  have hK : vx_Back l R p e below s args y 3 8 (PreOf R mc ms Pc) (PostOf Qc mc ms free) (vx_Post XC mc ms free) := vx_backW (hh := hh) (bytes := bytes) (maxL := maxL) (ret := ret) hM hp.1 hrc hrs hfr hlo hws hcw (fun a' U hW => word_at hW (Or.inl (by first | rfl | simp [Cond.onTables, Cond.keeps, Cond.steady])) hini)
  obtain ⟨hx, hb, hml, ho, -⟩ := S
  intro T hT X
  rcases vx_callSX X hx (hh := hh) (bytes := bytes) (maxL := maxL) (ret := ret) ho hl hstt hini hcode hy hK hg (hsize.trans hml.symm) (argsL := As) (rest := rest) (fun sig h => hn.trans (hlen sig h)) hstack hW (by rw [hb]; exact hdg)
    (fun vm₁ hW₁ => ⟨hf.1, hf.2, hp.2 (T.setVm vm₁) hT hW₁⟩) with ⟨v, vm₁, ⟨U', l2, c2, s2⟩, hW₁, X', ⟨g', mk, t, L, e1, e2, hq, h1, hL, h2, h3⟩, st⟩ | ⟨q, vm₁, ⟨U', l2, c2, s2⟩, hW₁, X', ⟨g', mk, t, L, E, ce, e1, e2, hq, hce, hcv, hcl, h1, hL, h2, h3⟩, st⟩
  · dsimp only [Pt.U, Pt.locs, Pt.cells, Pt.slots] at X' e1 e2 h1 h2 h3 st
    subst h1; subst h2; subst h3
    exact Or.inl ⟨v, (T.setVm vm₁).calling g' mk As.toArray, t, U', L, hT, X', hL, e1, e2, hq, st⟩
  · dsimp only [Pt.U, Pt.locs, Pt.cells, Pt.slots] at X' e1 e2 h1 h2 h3 st hcl
    subst h1; subst h2; subst h3
    exact Or.inr ⟨q, (T.setVm vm₁).calling g' mk As.toArray, t, U', L, E, ce, hT, X', hL, e1, e2, hq, hce, hcv, vx_cls hW₁ hcl, st⟩
end
end VXH
theorem vx_ofWH {l : Launch} {y : MethodName} {ws ws' : List Cond} {rm : Room} {Pc : Array Value → State → Prop} {Qc : Array Value → State → Outcome → State → Prop} {XC : String → State → State → Prop} {mc ms : Nat} {free : Addr → Prop} {cc : ByteArray} {maxL : Nat} {ret : Option FieldType} {hh : List (Nat × Nat × Nat × Nat)}
    (hy : plainName y.cls = true) (hw : ws = Cond.codeWith y cc maxL ret hh :: ws')
    (body : ∀ p e s m args below meth c s₁, BodyLoose p l y (headSpec ws rm) cc maxL ret e s m args below meth c s₁ → c.maxLocals = maxL → Pc args s →
      W p l e (headSpec ws rm).room s m args below meth c s.heap [] 0 0 (vx_MQ below Qc XC args s mc ms free) (entryFrame m args maxL)) : vx_Met l y ws rm Pc Qc XC mc ms free := by
  refine MetFree.of_bodyS (code := cc) (maxLocals := maxL) (ret := ret) hy ?_ ?_
  · intro args s m h hn
    obtain ⟨m9, meth, c, hn9, h1, h2, h3, h4, -, h5, h6, -⟩ := Cond.codeWith_spec (atoms_spec (ws := ws) h _ (by rw [hw]; exact List.mem_cons_self))
    cases hn.symm.trans hn9
    exact ⟨meth, c, h1, h2, h3, h4, h5, h6⟩
  · intro p e s m args below meth c s₁ B hml hP _
    have hh0 : s₁.heap = s.heap := by rw [B.state]; rfl
    obtain ⟨t, a1, o, b1, b2, b3⟩ := body p e s m args below meth c s₁ B hml hP s₁ hh0 (Stand.of_body B)
    exact ⟨t, o, a1, b1, b2, b3⟩
/-! ===== END ===== -/

/-! ===== BEGIN printed: names, fields, word lists, decode rows ===== -/
def RX0 : String := "WornDots$1"
def TX0 : u_T := fun k => match k with
  | _ => ("", "", "", false)
def tyX0 : Nat → FieldType := fun k => match k with
  | _ => .int
abbrev wsX00 : List Cond := u_ws RX0 TX0 0
theorem nmX0 : ∀ a, a < 0 → ∀ b, b < 0 → a ≠ b → (TX0 a).2.1 ≠ (TX0 b).2.1 := by decide +kernel
theorem tyX0_ok : ∀ k, k < 0 → parseFieldDescriptor (TX0 k).2.2.1 = some (tyX0 k) := by decide +kernel
def RX1 : String := "WornDots$CommandText"
def TX1 : u_T := fun k => match k with
  | 0 => ("WornDots$CommandText", "bytes", "[C", true)
  | 1 => ("WornDots$CommandText", "length", "I", false)
  | 2 => ("WornDots$CommandText", "place", "I", false)
  | 3 => ("WornDots$CommandText", "fault", "I", false)
  | 4 => ("WornDots$CommandText", "word", "LWornDots$Word;", false)
  | _ => ("WornDots$CommandText", "numbers", "[I", true)
def tyX1 : Nat → FieldType := fun k => match k with
  | 0 => .array .char
  | 1 => .int
  | 2 => .int
  | 3 => .int
  | 4 => .object "WornDots$Word"
  | _ => .array .int
abbrev wsX10 : List Cond := u_ws RX1 TX1 6
theorem nmX1 : ∀ a, a < 6 → ∀ b, b < 6 → a ≠ b → (TX1 a).2.1 ≠ (TX1 b).2.1 := by decide +kernel
theorem tyX1_ok : ∀ k, k < 6 → parseFieldDescriptor (TX1 k).2.2.1 = some (tyX1 k) := by decide +kernel
abbrev cX1_init : ByteArray := prog_3_method_1_code
def yX1_init : MethodName := ⟨RX1, "<init>", "()V"⟩
abbrev cX1_whyNotAppend : ByteArray := prog_3_method_2_code
def yX1_whyNotAppend : MethodName := ⟨RX1, "whyNotAppend", "(I)I"⟩
abbrev cX1_append : ByteArray := prog_3_method_3_code
def yX1_append : MethodName := ⟨RX1, "append", "(I)I"⟩
abbrev cX1_empty : ByteArray := prog_3_method_4_code
def yX1_empty : MethodName := ⟨RX1, "empty", "()I"⟩
abbrev cX1_rewind : ByteArray := prog_3_method_5_code
def yX1_rewind : MethodName := ⟨RX1, "rewind", "()V"⟩
abbrev cX1_findFault : ByteArray := prog_3_method_6_code
def yX1_findFault : MethodName := ⟨RX1, "findFault", "()I"⟩
abbrev cX1_readCommand : ByteArray := prog_3_method_7_code
def yX1_readCommand : MethodName := ⟨RX1, "readCommand", "()Z"⟩
abbrev cX1_skipSpaces : ByteArray := prog_3_method_8_code
def yX1_skipSpaces : MethodName := ⟨RX1, "skipSpaces", "()V"⟩
abbrev cX1_skipLetters : ByteArray := prog_3_method_9_code
def yX1_skipLetters : MethodName := ⟨RX1, "skipLetters", "()V"⟩
abbrev cX1_wordBetween : ByteArray := prog_3_method_10_code
def yX1_wordBetween : MethodName := ⟨RX1, "wordBetween", "(II)LWornDots$Word;"⟩
abbrev cX1_isBetween : ByteArray := prog_3_method_11_code
def yX1_isBetween : MethodName := ⟨RX1, "isBetween", "(Ljava/lang/String;II)Z"⟩
abbrev cX1_readNumbers : ByteArray := prog_3_method_12_code
def yX1_readNumbers : MethodName := ⟨RX1, "readNumbers", "(I)Z"⟩
abbrev cX1_readNumber : ByteArray := prog_3_method_13_code
def yX1_readNumber : MethodName := ⟨RX1, "readNumber", "(I)Z"⟩
abbrev cX1_readSemicolon : ByteArray := prog_3_method_14_code
def yX1_readSemicolon : MethodName := ⟨RX1, "readSemicolon", "()Z"⟩
def RX2 : String := "WornDots$Customer"
def TX2 : u_T := fun k => match k with
  | 0 => ("WornDots$Customer", "first", "I", false)
  | 1 => ("WornDots$Customer", "last", "I", false)
  | 2 => ("WornDots$Customer", "paid", "I", false)
  | 3 => ("WornDots$Customer", "paidBack", "I", false)
  | 4 => ("WornDots$Customer", "printed", "I", false)
  | _ => ("WornDots$Customer", "failed", "I", false)
def tyX2 : Nat → FieldType := fun k => match k with
  | 0 => .int
  | 1 => .int
  | 2 => .int
  | 3 => .int
  | 4 => .int
  | _ => .int
abbrev wsX20 : List Cond := u_ws RX2 TX2 6
theorem nmX2 : ∀ a, a < 6 → ∀ b, b < 6 → a ≠ b → (TX2 a).2.1 ≠ (TX2 b).2.1 := by decide +kernel
theorem tyX2_ok : ∀ k, k < 6 → parseFieldDescriptor (TX2 k).2.2.1 = some (tyX2 k) := by decide +kernel
abbrev cX2_init : ByteArray := prog_4_method_1_code
def yX2_init : MethodName := ⟨RX2, "<init>", "()V"⟩
abbrev cX2_takeOver : ByteArray := prog_4_method_2_code
def yX2_takeOver : MethodName := ⟨RX2, "takeOver", "(LWornDots$Customer;)V"⟩
abbrev cX2_rentNothing : ByteArray := prog_4_method_3_code
def yX2_rentNothing : MethodName := ⟨RX2, "rentNothing", "()V"⟩
abbrev cX2_rented : ByteArray := prog_4_method_4_code
def yX2_rented : MethodName := ⟨RX2, "rented", "()I"⟩
abbrev cX2_rentsOneOf : ByteArray := prog_4_method_5_code
def yX2_rentsOneOf : MethodName := ⟨RX2, "rentsOneOf", "(II)Z"⟩
abbrev cX2_rentsAllOf : ByteArray := prog_4_method_6_code
def yX2_rentsAllOf : MethodName := ⟨RX2, "rentsAllOf", "(II)Z"⟩
abbrev cX2_value : ByteArray := prog_4_method_7_code
def yX2_value : MethodName := ⟨RX2, "value", "(I)I"⟩
def RX3 : String := "WornDots$Head"
def TX3 : u_T := fun k => match k with
  | 0 => ("WornDots$Head", "dots", "I", false)
  | 1 => ("WornDots$Head", "burntInAll", "I", false)
  | 2 => ("WornDots$Head", "heat", "[I", true)
  | 3 => ("WornDots$Head", "wear", "[I", true)
  | _ => ("WornDots$Head", "burnt", "[I", true)
def tyX3 : Nat → FieldType := fun k => match k with
  | 0 => .int
  | 1 => .int
  | 2 => .array .int
  | 3 => .array .int
  | _ => .array .int
abbrev wsX30 : List Cond := u_ws RX3 TX3 5
theorem nmX3 : ∀ a, a < 5 → ∀ b, b < 5 → a ≠ b → (TX3 a).2.1 ≠ (TX3 b).2.1 := by decide +kernel
theorem tyX3_ok : ∀ k, k < 5 → parseFieldDescriptor (TX3 k).2.2.1 = some (tyX3 k) := by decide +kernel
abbrev cX3_init : ByteArray := prog_5_method_1_code
def yX3_init : MethodName := ⟨RX3, "<init>", "()V"⟩
abbrev cX3_takeOver : ByteArray := prog_5_method_2_code
def yX3_takeOver : MethodName := ⟨RX3, "takeOver", "(LWornDots$Head;)V"⟩
abbrev cX3_takePart : ByteArray := prog_5_method_3_code
def yX3_takePart : MethodName := ⟨RX3, "takePart", "(LWornDots$Head;II)V"⟩
abbrev cX3_renewAll : ByteArray := prog_5_method_4_code
def yX3_renewAll : MethodName := ⟨RX3, "renewAll", "(I)V"⟩
abbrev cX3_renew : ByteArray := prog_5_method_5_code
def yX3_renew : MethodName := ⟨RX3, "renew", "(I)V"⟩
abbrev cX3_lose : ByteArray := prog_5_method_6_code
def yX3_lose : MethodName := ⟨RX3, "lose", "(I)V"⟩
abbrev cX3_heatSum : ByteArray := prog_5_method_7_code
def yX3_heatSum : MethodName := ⟨RX3, "heatSum", "()I"⟩
abbrev cX3_wearSum : ByteArray := prog_5_method_8_code
def yX3_wearSum : MethodName := ⟨RX3, "wearSum", "(II)I"⟩
abbrev cX3_mostWornDot : ByteArray := prog_5_method_9_code
def yX3_mostWornDot : MethodName := ⟨RX3, "mostWornDot", "()I"⟩
abbrev cX3_fadeOf : ByteArray := prog_5_method_10_code
def yX3_fadeOf : MethodName := ⟨RX3, "fadeOf", "(I[I)I"⟩
abbrev cX3_printRows : ByteArray := prog_5_method_11_code
def yX3_printRows : MethodName := ⟨RX3, "printRows", "(LWornDots$Label;I[I)I"⟩
abbrev cX3_burn : ByteArray := prog_5_method_12_code
def yX3_burn : MethodName := ⟨RX3, "burn", "(II)V"⟩
def RX4 : String := "WornDots$Label"
def TX4 : u_T := fun k => match k with
  | 0 => ("WornDots$Label", "width", "I", false)
  | 1 => ("WornDots$Label", "blackness", "I", false)
  | 2 => ("WornDots$Label", "printed", "I", false)
  | 3 => ("WornDots$Label", "failed", "I", false)
  | _ => ("WornDots$Label", "rows", "[I", true)
def tyX4 : Nat → FieldType := fun k => match k with
  | 0 => .int
  | 1 => .int
  | 2 => .int
  | 3 => .int
  | _ => .array .int
abbrev wsX40 : List Cond := u_ws RX4 TX4 5
theorem nmX4 : ∀ a, a < 5 → ∀ b, b < 5 → a ≠ b → (TX4 a).2.1 ≠ (TX4 b).2.1 := by decide +kernel
theorem tyX4_ok : ∀ k, k < 5 → parseFieldDescriptor (TX4 k).2.2.1 = some (tyX4 k) := by decide +kernel
abbrev cX4_init : ByteArray := prog_6_method_1_code
def yX4_init : MethodName := ⟨RX4, "<init>", "()V"⟩
abbrev cX4_takeOver : ByteArray := prog_6_method_2_code
def yX4_takeOver : MethodName := ⟨RX4, "takeOver", "(LWornDots$Label;)V"⟩
abbrev cX4_allColumns : ByteArray := prog_6_method_3_code
def yX4_allColumns : MethodName := ⟨RX4, "allColumns", "()I"⟩
abbrev cX4_blackCells : ByteArray := prog_6_method_4_code
def yX4_blackCells : MethodName := ⟨RX4, "blackCells", "()I"⟩
abbrev cX4_emptyColumns : ByteArray := prog_6_method_5_code
def yX4_emptyColumns : MethodName := ⟨RX4, "emptyColumns", "()I"⟩
abbrev cX4_value : ByteArray := prog_6_method_6_code
def yX4_value : MethodName := ⟨RX4, "value", "(I)I"⟩
def RX5 : String := "WornDots$State"
def TX5 : u_T := fun k => match k with
  | 0 => ("WornDots$State", "head", "LWornDots$Head;", true)
  | 1 => ("WornDots$State", "trial", "LWornDots$Head;", true)
  | 2 => ("WornDots$State", "settings", "[I", true)
  | 3 => ("WornDots$State", "labels", "[LWornDots$Label;", true)
  | 4 => ("WornDots$State", "labelCount", "I", false)
  | 5 => ("WornDots$State", "customers", "[LWornDots$Customer;", true)
  | 6 => ("WornDots$State", "customerCount", "I", false)
  | _ => ("WornDots$State", "lines", "I", false)
def tyX5 : Nat → FieldType := fun k => match k with
  | 0 => .object "WornDots$Head"
  | 1 => .object "WornDots$Head"
  | 2 => .array .int
  | 3 => .array (.object "WornDots$Label")
  | 4 => .int
  | 5 => .array (.object "WornDots$Customer")
  | 6 => .int
  | _ => .int
abbrev wsX50 : List Cond := u_ws RX5 TX5 8
theorem nmX5 : ∀ a, a < 8 → ∀ b, b < 8 → a ≠ b → (TX5 a).2.1 ≠ (TX5 b).2.1 := by decide +kernel
theorem tyX5_ok : ∀ k, k < 8 → parseFieldDescriptor (TX5 k).2.2.1 = some (tyX5 k) := by decide +kernel
abbrev cX5_init : ByteArray := prog_7_method_1_code
def yX5_init : MethodName := ⟨RX5, "<init>", "(LWornDots$Head;)V"⟩
abbrev cX5_takeOver : ByteArray := prog_7_method_2_code
def yX5_takeOver : MethodName := ⟨RX5, "takeOver", "(LWornDots$State;)V"⟩
abbrev cX5_hasDot : ByteArray := prog_7_method_3_code
def yX5_hasDot : MethodName := ⟨RX5, "hasDot", "(I)Z"⟩
abbrev cX5_hasLabel : ByteArray := prog_7_method_4_code
def yX5_hasLabel : MethodName := ⟨RX5, "hasLabel", "(I)Z"⟩
abbrev cX5_hasCustomer : ByteArray := prog_7_method_5_code
def yX5_hasCustomer : MethodName := ⟨RX5, "hasCustomer", "(I)Z"⟩
abbrev cX5_whyNotNewHead : ByteArray := prog_7_method_6_code
def yX5_whyNotNewHead : MethodName := ⟨RX5, "whyNotNewHead", "(I)I"⟩
abbrev cX5_newHead : ByteArray := prog_7_method_7_code
def yX5_newHead : MethodName := ⟨RX5, "newHead", "(I)I"⟩
abbrev cX5_whyNotChangeSetting : ByteArray := prog_7_method_8_code
def yX5_whyNotChangeSetting : MethodName := ⟨RX5, "whyNotChangeSetting", "(II)I"⟩
abbrev cX5_changeSetting : ByteArray := prog_7_method_9_code
def yX5_changeSetting : MethodName := ⟨RX5, "changeSetting", "(II)I"⟩
abbrev cX5_whyNotNewLabel : ByteArray := prog_7_method_10_code
def yX5_whyNotNewLabel : MethodName := ⟨RX5, "whyNotNewLabel", "(II)I"⟩
abbrev cX5_newLabel : ByteArray := prog_7_method_11_code
def yX5_newLabel : MethodName := ⟨RX5, "newLabel", "(II)I"⟩
abbrev cX5_whyNotChangeRow : ByteArray := prog_7_method_12_code
def yX5_whyNotChangeRow : MethodName := ⟨RX5, "whyNotChangeRow", "(III)I"⟩
abbrev cX5_changeRow : ByteArray := prog_7_method_13_code
def yX5_changeRow : MethodName := ⟨RX5, "changeRow", "(III)I"⟩
abbrev cX5_whyNotNewDot : ByteArray := prog_7_method_14_code
def yX5_whyNotNewDot : MethodName := ⟨RX5, "whyNotNewDot", "(I)I"⟩
abbrev cX5_newDot : ByteArray := prog_7_method_15_code
def yX5_newDot : MethodName := ⟨RX5, "newDot", "(I)I"⟩
abbrev cX5_whyNotPassLines : ByteArray := prog_7_method_16_code
def yX5_whyNotPassLines : MethodName := ⟨RX5, "whyNotPassLines", "(I)I"⟩
abbrev cX5_passLines : ByteArray := prog_7_method_17_code
def yX5_passLines : MethodName := ⟨RX5, "passLines", "(I)I"⟩
abbrev cX5_whyNotNewCustomer : ByteArray := prog_7_method_18_code
def yX5_whyNotNewCustomer : MethodName := ⟨RX5, "whyNotNewCustomer", "()I"⟩
abbrev cX5_newCustomer : ByteArray := prog_7_method_19_code
def yX5_newCustomer : MethodName := ⟨RX5, "newCustomer", "()I"⟩
abbrev cX5_whyNotLet : ByteArray := prog_7_method_20_code
def yX5_whyNotLet : MethodName := ⟨RX5, "whyNotLet", "(III)I"⟩
abbrev cX5_let : ByteArray := prog_7_method_21_code
def yX5_let : MethodName := ⟨RX5, "let", "(III)I"⟩
abbrev cX5_whyNotEndLet : ByteArray := prog_7_method_22_code
def yX5_whyNotEndLet : MethodName := ⟨RX5, "whyNotEndLet", "(I)I"⟩
abbrev cX5_endLet : ByteArray := prog_7_method_23_code
def yX5_endLet : MethodName := ⟨RX5, "endLet", "(I)I"⟩
abbrev cX5_whyNotPair : ByteArray := prog_7_method_24_code
def yX5_whyNotPair : MethodName := ⟨RX5, "whyNotPair", "(II)I"⟩
abbrev cX5_whyNotAskAbout : ByteArray := prog_7_method_25_code
def yX5_whyNotAskAbout : MethodName := ⟨RX5, "whyNotAskAbout", "(III)I"⟩
abbrev cX5_whyNotPrintAt : ByteArray := prog_7_method_26_code
def yX5_whyNotPrintAt : MethodName := ⟨RX5, "whyNotPrintAt", "(III)I"⟩
abbrev cX5_printAt : ByteArray := prog_7_method_27_code
def yX5_printAt : MethodName := ⟨RX5, "printAt", "(III)I"⟩
abbrev cX5_book : ByteArray := prog_7_method_28_code
def yX5_book : MethodName := ⟨RX5, "book", "(LWornDots$Customer;LWornDots$Label;IZ)V"⟩
abbrev cX5_whyNotPrintAtBest : ByteArray := prog_7_method_29_code
def yX5_whyNotPrintAtBest : MethodName := ⟨RX5, "whyNotPrintAtBest", "(II)I"⟩
abbrev cX5_printAtBest : ByteArray := prog_7_method_30_code
def yX5_printAtBest : MethodName := ⟨RX5, "printAtBest", "(II)I"⟩
abbrev cX5_whyNotDotValue : ByteArray := prog_7_method_31_code
def yX5_whyNotDotValue : MethodName := ⟨RX5, "whyNotDotValue", "(II)I"⟩
abbrev cX5_dotValue : ByteArray := prog_7_method_32_code
def yX5_dotValue : MethodName := ⟨RX5, "dotValue", "(II)I"⟩
abbrev cX5_whyNotLabelValue : ByteArray := prog_7_method_33_code
def yX5_whyNotLabelValue : MethodName := ⟨RX5, "whyNotLabelValue", "(III)I"⟩
abbrev cX5_whyNotCustomerValue : ByteArray := prog_7_method_34_code
def yX5_whyNotCustomerValue : MethodName := ⟨RX5, "whyNotCustomerValue", "(II)I"⟩
abbrev cX5_wholeValue : ByteArray := prog_7_method_35_code
def yX5_wholeValue : MethodName := ⟨RX5, "wholeValue", "(I)I"⟩
abbrev cX5_allWear : ByteArray := prog_7_method_36_code
def yX5_allWear : MethodName := ⟨RX5, "allWear", "()I"⟩
abbrev cX5_allPrinted : ByteArray := prog_7_method_37_code
def yX5_allPrinted : MethodName := ⟨RX5, "allPrinted", "()I"⟩
abbrev cX5_allFailed : ByteArray := prog_7_method_38_code
def yX5_allFailed : MethodName := ⟨RX5, "allFailed", "()I"⟩
abbrev cX5_allEarned : ByteArray := prog_7_method_39_code
def yX5_allEarned : MethodName := ⟨RX5, "allEarned", "()I"⟩
abbrev cX5_allRented : ByteArray := prog_7_method_40_code
def yX5_allRented : MethodName := ⟨RX5, "allRented", "()I"⟩
abbrev cX5_renterOf : ByteArray := prog_7_method_41_code
def yX5_renterOf : MethodName := ⟨RX5, "renterOf", "(I)I"⟩
abbrev cX5_othersRentOneOf : ByteArray := prog_7_method_42_code
def yX5_othersRentOneOf : MethodName := ⟨RX5, "othersRentOneOf", "(III)Z"⟩
abbrev cX5_reasonAt : ByteArray := prog_7_method_43_code
def yX5_reasonAt : MethodName := ⟨RX5, "reasonAt", "(III)I"⟩
abbrev cX5_priceAt : ByteArray := prog_7_method_44_code
def yX5_priceAt : MethodName := ⟨RX5, "priceAt", "(III)I"⟩
abbrev cX5_unreadableAt : ByteArray := prog_7_method_45_code
def yX5_unreadableAt : MethodName := ⟨RX5, "unreadableAt", "(II)I"⟩
abbrev cX5_readableAt : ByteArray := prog_7_method_46_code
def yX5_readableAt : MethodName := ⟨RX5, "readableAt", "(II)I"⟩
abbrev cX5_bestPlace : ByteArray := prog_7_method_47_code
def yX5_bestPlace : MethodName := ⟨RX5, "bestPlace", "(II)I"⟩
abbrev cX5_whyNotCarryOut : ByteArray := prog_7_method_48_code
def yX5_whyNotCarryOut : MethodName := ⟨RX5, "whyNotCarryOut", "(LWornDots$Word;[I)I"⟩
abbrev cX5_carryOut : ByteArray := prog_7_method_49_code
def yX5_carryOut : MethodName := ⟨RX5, "carryOut", "(LWornDots$Word;[I)I"⟩
def RX6 : String := "WornDots$Word"
def TX6 : u_T := fun k => match k with
  | _ => ("", "", "", false)
def tyX6 : Nat → FieldType := fun k => match k with
  | _ => .int
abbrev wsX60 : List Cond := u_ws RX6 TX6 0
theorem nmX6 : ∀ a, a < 0 → ∀ b, b < 0 → a ≠ b → (TX6 a).2.1 ≠ (TX6 b).2.1 := by decide +kernel
theorem tyX6_ok : ∀ k, k < 0 → parseFieldDescriptor (TX6 k).2.2.1 = some (tyX6 k) := by decide +kernel
def RX7 : String := "WornDots"
def TX7 : u_T := fun k => match k with
  | 0 => ("WornDots", "text", "LWornDots$CommandText;", true)
  | 1 => ("WornDots", "saved", "[LWornDots$State;", true)
  | 2 => ("WornDots", "savedCount", "I", false)
  | _ => ("WornDots", "now", "LWornDots$State;", true)
def tyX7 : Nat → FieldType := fun k => match k with
  | 0 => .object "WornDots$CommandText"
  | 1 => .array (.object "WornDots$State")
  | 2 => .int
  | _ => .object "WornDots$State"
abbrev wsX70 : List Cond := u_ws RX7 TX7 4
theorem nmX7 : ∀ a, a < 4 → ∀ b, b < 4 → a ≠ b → (TX7 a).2.1 ≠ (TX7 b).2.1 := by decide +kernel
theorem tyX7_ok : ∀ k, k < 4 → parseFieldDescriptor (TX7 k).2.2.1 = some (tyX7 k) := by decide +kernel
abbrev cX7_init : ByteArray := prog_1_method_1_code
def yX7_init : MethodName := ⟨RX7, "<init>", "()V"⟩
abbrev cX7_begin : ByteArray := prog_1_method_2_code
def yX7_begin : MethodName := ⟨RX7, "begin", "(I)I"⟩
abbrev cX7_set : ByteArray := prog_1_method_3_code
def yX7_set : MethodName := ⟨RX7, "set", "(II)I"⟩
abbrev cX7_addLabel : ByteArray := prog_1_method_4_code
def yX7_addLabel : MethodName := ⟨RX7, "addLabel", "(II)I"⟩
abbrev cX7_setRow : ByteArray := prog_1_method_5_code
def yX7_setRow : MethodName := ⟨RX7, "setRow", "(III)I"⟩
abbrev cX7_replace : ByteArray := prog_1_method_6_code
def yX7_replace : MethodName := ⟨RX7, "replace", "(I)I"⟩
abbrev cX7_cool : ByteArray := prog_1_method_7_code
def yX7_cool : MethodName := ⟨RX7, "cool", "(I)I"⟩
abbrev cX7_addCustomer : ByteArray := prog_1_method_8_code
def yX7_addCustomer : MethodName := ⟨RX7, "addCustomer", "()I"⟩
abbrev cX7_rent : ByteArray := prog_1_method_9_code
def yX7_rent : MethodName := ⟨RX7, "rent", "(III)I"⟩
abbrev cX7_endRent : ByteArray := prog_1_method_10_code
def yX7_endRent : MethodName := ⟨RX7, "endRent", "(I)I"⟩
abbrev cX7_print : ByteArray := prog_1_method_11_code
def yX7_print : MethodName := ⟨RX7, "print", "(III)I"⟩
abbrev cX7_printBest : ByteArray := prog_1_method_12_code
def yX7_printBest : MethodName := ⟨RX7, "printBest", "(II)I"⟩
abbrev cX7_dot : ByteArray := prog_1_method_13_code
def yX7_dot : MethodName := ⟨RX7, "dot", "(II)I"⟩
abbrev cX7_label : ByteArray := prog_1_method_14_code
def yX7_label : MethodName := ⟨RX7, "label", "(II)I"⟩
abbrev cX7_row : ByteArray := prog_1_method_15_code
def yX7_row : MethodName := ⟨RX7, "row", "(II)I"⟩
abbrev cX7_customer : ByteArray := prog_1_method_16_code
def yX7_customer : MethodName := ⟨RX7, "customer", "(II)I"⟩
abbrev cX7_whole : ByteArray := prog_1_method_17_code
def yX7_whole : MethodName := ⟨RX7, "whole", "(I)I"⟩
abbrev cX7_reason : ByteArray := prog_1_method_18_code
def yX7_reason : MethodName := ⟨RX7, "reason", "(III)I"⟩
abbrev cX7_price : ByteArray := prog_1_method_19_code
def yX7_price : MethodName := ⟨RX7, "price", "(III)I"⟩
abbrev cX7_unreadable : ByteArray := prog_1_method_20_code
def yX7_unreadable : MethodName := ⟨RX7, "unreadable", "(III)I"⟩
abbrev cX7_bestOffset : ByteArray := prog_1_method_21_code
def yX7_bestOffset : MethodName := ⟨RX7, "bestOffset", "(II)I"⟩
abbrev cX7_readableFor : ByteArray := prog_1_method_22_code
def yX7_readableFor : MethodName := ⟨RX7, "readableFor", "(III)I"⟩
abbrev cX7_mostWorn : ByteArray := prog_1_method_23_code
def yX7_mostWorn : MethodName := ⟨RX7, "mostWorn", "()I"⟩
abbrev cX7_type : ByteArray := prog_1_method_24_code
def yX7_type : MethodName := ⟨RX7, "type", "(I)I"⟩
abbrev cX7_clearCommands : ByteArray := prog_1_method_25_code
def yX7_clearCommands : MethodName := ⟨RX7, "clearCommands", "()I"⟩
abbrev cX7_runCommands : ByteArray := prog_1_method_26_code
def yX7_runCommands : MethodName := ⟨RX7, "runCommands", "()I"⟩
abbrev cX7_undo : ByteArray := prog_1_method_27_code
def yX7_undo : MethodName := ⟨RX7, "undo", "()I"⟩
abbrev cX7_digest : ByteArray := prog_1_method_28_code
def yX7_digest : MethodName := ⟨RX7, "digest", "()J"⟩
abbrev cX7_mixDots : ByteArray := prog_1_method_29_code
def yX7_mixDots : MethodName := ⟨RX7, "mixDots", "(J)J"⟩
abbrev cX7_mixLabels : ByteArray := prog_1_method_30_code
def yX7_mixLabels : MethodName := ⟨RX7, "mixLabels", "(J)J"⟩
abbrev cX7_mixCustomers : ByteArray := prog_1_method_31_code
def yX7_mixCustomers : MethodName := ⟨RX7, "mixCustomers", "(J)J"⟩
abbrev cX7_mix : ByteArray := prog_1_method_32_code
def yX7_mix : MethodName := ⟨RX7, "mix", "(JJ)J"⟩
abbrev cX7_refuse : ByteArray := prog_1_method_33_code
def yX7_refuse : MethodName := ⟨RX7, "refuse", "(I)V"⟩
abbrev cX7_save : ByteArray := prog_1_method_34_code
def yX7_save : MethodName := ⟨RX7, "save", "()V"⟩
def RX8 : String := "WornDotsModel"
def TX8 : u_T := fun k => match k with
  | 0 => ("WornDotsModel", "s", "[I", true)
  | 1 => ("WornDotsModel", "w", "[I", true)
  | 2 => ("WornDotsModel", "past", "[I", true)
  | 3 => ("WornDotsModel", "pasts", "I", false)
  | 4 => ("WornDotsModel", "runs", "Z", false)
  | 5 => ("WornDotsModel", "text", "[I", true)
  | 6 => ("WornDotsModel", "typed", "I", false)
  | 7 => ("WornDotsModel", "refused", "I", false)
  | 8 => ("WornDotsModel", "spot", "I", false)
  | 9 => ("WornDotsModel", "command", "I", false)
  | _ => ("WornDotsModel", "read", "[I", true)
def tyX8 : Nat → FieldType := fun k => match k with
  | 0 => .array .int
  | 1 => .array .int
  | 2 => .array .int
  | 3 => .int
  | 4 => .boolean
  | 5 => .array .int
  | 6 => .int
  | 7 => .int
  | 8 => .int
  | 9 => .int
  | _ => .array .int
abbrev wsX80 : List Cond := u_ws RX8 TX8 11
theorem nmX8 : ∀ a, a < 11 → ∀ b, b < 11 → a ≠ b → (TX8 a).2.1 ≠ (TX8 b).2.1 := by decide +kernel
theorem tyX8_ok : ∀ k, k < 11 → parseFieldDescriptor (TX8 k).2.2.1 = some (tyX8 k) := by decide +kernel
abbrev cX8_init : ByteArray := prog_10_method_1_code
def yX8_init : MethodName := ⟨RX8, "<init>", "()V"⟩
abbrev cX8_thrown : ByteArray := prog_10_method_2_code
def yX8_thrown : MethodName := ⟨RX8, "thrown", "()I"⟩
abbrev cX8_in : ByteArray := prog_10_method_3_code
def yX8_in : MethodName := ⟨RX8, "in", "(III)Z"⟩
abbrev cX8_throwsAt : ByteArray := prog_10_method_4_code
def yX8_throwsAt : MethodName := ⟨RX8, "throwsAt", "(I)Z"⟩
abbrev cX8_saves : ByteArray := prog_10_method_5_code
def yX8_saves : MethodName := ⟨RX8, "saves", "()V"⟩
abbrev cX8_isDot : ByteArray := prog_10_method_6_code
def yX8_isDot : MethodName := ⟨RX8, "isDot", "(I)Z"⟩
abbrev cX8_isLabel : ByteArray := prog_10_method_7_code
def yX8_isLabel : MethodName := ⟨RX8, "isLabel", "(I)Z"⟩
abbrev cX8_isCustomer : ByteArray := prog_10_method_8_code
def yX8_isCustomer : MethodName := ⟨RX8, "isCustomer", "(I)Z"⟩
abbrev cX8_dotOf : ByteArray := prog_10_method_9_code
def yX8_dotOf : MethodName := ⟨RX8, "dotOf", "([III)I"⟩
abbrev cX8_labelOf : ByteArray := prog_10_method_10_code
def yX8_labelOf : MethodName := ⟨RX8, "labelOf", "(II)I"⟩
abbrev cX8_customerOf : ByteArray := prog_10_method_11_code
def yX8_customerOf : MethodName := ⟨RX8, "customerOf", "(II)I"⟩
abbrev cX8_sumOf : ByteArray := prog_10_method_12_code
def yX8_sumOf : MethodName := ⟨RX8, "sumOf", "(I)I"⟩
abbrev cX8_frees : ByteArray := prog_10_method_13_code
def yX8_frees : MethodName := ⟨RX8, "frees", "(I)V"⟩
abbrev cX8_begin : ByteArray := prog_10_method_14_code
def yX8_begin : MethodName := ⟨RX8, "begin", "(I)I"⟩
abbrev cX8_least : ByteArray := prog_10_method_15_code
def yX8_least : MethodName := ⟨RX8, "least", "(I)I"⟩
abbrev cX8_most : ByteArray := prog_10_method_16_code
def yX8_most : MethodName := ⟨RX8, "most", "(I)I"⟩
abbrev cX8_set : ByteArray := prog_10_method_17_code
def yX8_set : MethodName := ⟨RX8, "set", "(II)I"⟩
abbrev cX8_addLabel : ByteArray := prog_10_method_18_code
def yX8_addLabel : MethodName := ⟨RX8, "addLabel", "(II)I"⟩
abbrev cX8_setRow : ByteArray := prog_10_method_19_code
def yX8_setRow : MethodName := ⟨RX8, "setRow", "(III)I"⟩
abbrev cX8_replace : ByteArray := prog_10_method_20_code
def yX8_replace : MethodName := ⟨RX8, "replace", "(I)I"⟩
abbrev cX8_cools : ByteArray := prog_10_method_21_code
def yX8_cools : MethodName := ⟨RX8, "cools", "([I)V"⟩
abbrev cX8_cool : ByteArray := prog_10_method_22_code
def yX8_cool : MethodName := ⟨RX8, "cool", "(I)I"⟩
abbrev cX8_addCustomer : ByteArray := prog_10_method_23_code
def yX8_addCustomer : MethodName := ⟨RX8, "addCustomer", "()I"⟩
abbrev cX8_renter : ByteArray := prog_10_method_24_code
def yX8_renter : MethodName := ⟨RX8, "renter", "(I)I"⟩
abbrev cX8_rented : ByteArray := prog_10_method_25_code
def yX8_rented : MethodName := ⟨RX8, "rented", "()I"⟩
abbrev cX8_isTaken : ByteArray := prog_10_method_26_code
def yX8_isTaken : MethodName := ⟨RX8, "isTaken", "(III)Z"⟩
abbrev cX8_rent : ByteArray := prog_10_method_27_code
def yX8_rent : MethodName := ⟨RX8, "rent", "(III)I"⟩
abbrev cX8_endRent : ByteArray := prog_10_method_28_code
def yX8_endRent : MethodName := ⟨RX8, "endRent", "(I)I"⟩
abbrev cX8_ones : ByteArray := prog_10_method_29_code
def yX8_ones : MethodName := ⟨RX8, "ones", "(I)I"⟩
abbrev cX8_blacks : ByteArray := prog_10_method_30_code
def yX8_blacks : MethodName := ⟨RX8, "blacks", "(I)I"⟩
abbrev cX8_whyNot : ByteArray := prog_10_method_31_code
def yX8_whyNot : MethodName := ⟨RX8, "whyNot", "(III)I"⟩
abbrev cX8_priceOf : ByteArray := prog_10_method_32_code
def yX8_priceOf : MethodName := ⟨RX8, "priceOf", "(III)I"⟩
abbrev cX8_fade : ByteArray := prog_10_method_33_code
def yX8_fade : MethodName := ⟨RX8, "fade", "([II)I"⟩
abbrev cX8_burns : ByteArray := prog_10_method_34_code
def yX8_burns : MethodName := ⟨RX8, "burns", "([III)V"⟩
abbrev cX8_plays : ByteArray := prog_10_method_35_code
def yX8_plays : MethodName := ⟨RX8, "plays", "([III)I"⟩
abbrev cX8_copies : ByteArray := prog_10_method_36_code
def yX8_copies : MethodName := ⟨RX8, "copies", "()V"⟩
abbrev cX8_badOf : ByteArray := prog_10_method_37_code
def yX8_badOf : MethodName := ⟨RX8, "badOf", "(II)I"⟩
abbrev cX8_best : ByteArray := prog_10_method_38_code
def yX8_best : MethodName := ⟨RX8, "best", "(II)I"⟩
abbrev cX8_prints : ByteArray := prog_10_method_39_code
def yX8_prints : MethodName := ⟨RX8, "prints", "(III)I"⟩
abbrev cX8_wrong : ByteArray := prog_10_method_40_code
def yX8_wrong : MethodName := ⟨RX8, "wrong", "(III)I"⟩
abbrev cX8_print : ByteArray := prog_10_method_41_code
def yX8_print : MethodName := ⟨RX8, "print", "(III)I"⟩
abbrev cX8_printBest : ByteArray := prog_10_method_42_code
def yX8_printBest : MethodName := ⟨RX8, "printBest", "(II)I"⟩
abbrev cX8_valueOf : ByteArray := prog_10_method_43_code
def yX8_valueOf : MethodName := ⟨RX8, "valueOf", "(II)I"⟩
abbrev cX8_dot : ByteArray := prog_10_method_44_code
def yX8_dot : MethodName := ⟨RX8, "dot", "(II)I"⟩
abbrev cX8_empties : ByteArray := prog_10_method_45_code
def yX8_empties : MethodName := ⟨RX8, "empties", "(I)I"⟩
abbrev cX8_ofLabel : ByteArray := prog_10_method_46_code
def yX8_ofLabel : MethodName := ⟨RX8, "ofLabel", "(II)I"⟩
abbrev cX8_label : ByteArray := prog_10_method_47_code
def yX8_label : MethodName := ⟨RX8, "label", "(II)I"⟩
abbrev cX8_row : ByteArray := prog_10_method_48_code
def yX8_row : MethodName := ⟨RX8, "row", "(II)I"⟩
abbrev cX8_customer : ByteArray := prog_10_method_49_code
def yX8_customer : MethodName := ⟨RX8, "customer", "(II)I"⟩
abbrev cX8_earned : ByteArray := prog_10_method_50_code
def yX8_earned : MethodName := ⟨RX8, "earned", "()I"⟩
abbrev cX8_wholeOf : ByteArray := prog_10_method_51_code
def yX8_wholeOf : MethodName := ⟨RX8, "wholeOf", "(I)I"⟩
abbrev cX8_whole : ByteArray := prog_10_method_52_code
def yX8_whole : MethodName := ⟨RX8, "whole", "(I)I"⟩
abbrev cX8_reason : ByteArray := prog_10_method_53_code
def yX8_reason : MethodName := ⟨RX8, "reason", "(III)I"⟩
abbrev cX8_price : ByteArray := prog_10_method_54_code
def yX8_price : MethodName := ⟨RX8, "price", "(III)I"⟩
abbrev cX8_unreadable : ByteArray := prog_10_method_55_code
def yX8_unreadable : MethodName := ⟨RX8, "unreadable", "(III)I"⟩
abbrev cX8_bestOffset : ByteArray := prog_10_method_56_code
def yX8_bestOffset : MethodName := ⟨RX8, "bestOffset", "(II)I"⟩
abbrev cX8_readableFor : ByteArray := prog_10_method_57_code
def yX8_readableFor : MethodName := ⟨RX8, "readableFor", "(III)I"⟩
abbrev cX8_worn : ByteArray := prog_10_method_58_code
def yX8_worn : MethodName := ⟨RX8, "worn", "()I"⟩
abbrev cX8_mostWorn : ByteArray := prog_10_method_59_code
def yX8_mostWorn : MethodName := ⟨RX8, "mostWorn", "()I"⟩
abbrev cX8_type : ByteArray := prog_10_method_60_code
def yX8_type : MethodName := ⟨RX8, "type", "(I)I"⟩
abbrev cX8_clearCommands : ByteArray := prog_10_method_61_code
def yX8_clearCommands : MethodName := ⟨RX8, "clearCommands", "()I"⟩
abbrev cX8_isAt : ByteArray := prog_10_method_62_code
def yX8_isAt : MethodName := ⟨RX8, "isAt", "(II)Z"⟩
abbrev cX8_skips : ByteArray := prog_10_method_63_code
def yX8_skips : MethodName := ⟨RX8, "skips", "()V"⟩
abbrev cX8_wordOf : ByteArray := prog_10_method_64_code
def yX8_wordOf : MethodName := ⟨RX8, "wordOf", "(II)J"⟩
abbrev cX8_code : ByteArray := prog_10_method_65_code
def yX8_code : MethodName := ⟨RX8, "code", "(IIIIII)J"⟩
abbrev cX8_commandOf : ByteArray := prog_10_method_66_code
def yX8_commandOf : MethodName := ⟨RX8, "commandOf", "(J)I"⟩
abbrev cX8_numbersOf : ByteArray := prog_10_method_67_code
def yX8_numbersOf : MethodName := ⟨RX8, "numbersOf", "(I)I"⟩
abbrev cX8_number : ByteArray := prog_10_method_68_code
def yX8_number : MethodName := ⟨RX8, "number", "(I)Z"⟩
abbrev cX8_reads : ByteArray := prog_10_method_69_code
def yX8_reads : MethodName := ⟨RX8, "reads", "()Z"⟩
abbrev cX8_fault : ByteArray := prog_10_method_70_code
def yX8_fault : MethodName := ⟨RX8, "fault", "()I"⟩
abbrev cX8_does : ByteArray := prog_10_method_71_code
def yX8_does : MethodName := ⟨RX8, "does", "()I"⟩
abbrev cX8_runCommands : ByteArray := prog_10_method_72_code
def yX8_runCommands : MethodName := ⟨RX8, "runCommands", "()I"⟩
abbrev cX8_undo : ByteArray := prog_10_method_73_code
def yX8_undo : MethodName := ⟨RX8, "undo", "()I"⟩
abbrev cX8_digest : ByteArray := prog_10_method_74_code
def yX8_digest : MethodName := ⟨RX8, "digest", "()J"⟩
def RJx29ce0 : String := "java/lang/Enum"
def TJx29ce0 : u_T := fun k => match k with
  | _ => ("", "", "", false)
def tyJx29ce0 : Nat → FieldType := fun k => match k with
  | _ => .int
abbrev wsJx29ce00 : List Cond := u_ws RJx29ce0 TJx29ce0 0
theorem nmJx29ce0 : ∀ a, a < 0 → ∀ b, b < 0 → a ≠ b → (TJx29ce0 a).2.1 ≠ (TJx29ce0 b).2.1 := by decide +kernel
theorem tyJx29ce0_ok : ∀ k, k < 0 → parseFieldDescriptor (TJx29ce0 k).2.2.1 = some (tyJx29ce0 k) := by decide +kernel
abbrev cJx29ce0_ordinal_8abf5 : ByteArray := prog_11_method_2_code
def yJx29ce0_ordinal_8abf5 : MethodName := ⟨RJx29ce0, "ordinal", "()I"⟩
def RJ6 : String := "java/lang/Integer"
def TJ6 : u_T := fun k => match k with
  | _ => ("", "", "", false)
def tyJ6 : Nat → FieldType := fun k => match k with
  | _ => .int
abbrev wsJ60 : List Cond := u_ws RJ6 TJ6 0
theorem nmJ6 : ∀ a, a < 0 → ∀ b, b < 0 → a ≠ b → (TJ6 a).2.1 ≠ (TJ6 b).2.1 := by decide +kernel
theorem tyJ6_ok : ∀ k, k < 0 → parseFieldDescriptor (TJ6 k).2.2.1 = some (tyJ6 k) := by decide +kernel
abbrev cJ6_bitCount_0f7a4 : ByteArray := prog_16_method_49_code
def yJ6_bitCount_0f7a4 : MethodName := ⟨RJ6, "bitCount", "(I)I"⟩
def RJ9 : String := "java/lang/Math"
def TJ9 : u_T := fun k => match k with
  | _ => ("", "", "", false)
def tyJ9 : Nat → FieldType := fun k => match k with
  | _ => .int
abbrev wsJ90 : List Cond := u_ws RJ9 TJ9 0
theorem nmJ9 : ∀ a, a < 0 → ∀ b, b < 0 → a ≠ b → (TJ9 a).2.1 ≠ (TJ9 b).2.1 := by decide +kernel
theorem tyJ9_ok : ∀ k, k < 0 → parseFieldDescriptor (TJ9 k).2.2.1 = some (tyJ9 k) := by decide +kernel
abbrev cJ9_min_7cf53 : ByteArray := prog_17_method_69_code
def yJ9_min_7cf53 : MethodName := ⟨RJ9, "min", "(II)I"⟩
def RJ0 : String := "java/lang/String"
def TJ0 : u_T := fun k => match k with
  | _ => ("", "", "", false)
def tyJ0 : Nat → FieldType := fun k => match k with
  | _ => .int
abbrev wsJ00 : List Cond := u_ws RJ0 TJ0 0
theorem nmJ0 : ∀ a, a < 0 → ∀ b, b < 0 → a ≠ b → (TJ0 a).2.1 ≠ (TJ0 b).2.1 := by decide +kernel
theorem tyJ0_ok : ∀ k, k < 0 → parseFieldDescriptor (TJ0 k).2.2.1 = some (tyJ0 k) := by decide +kernel
abbrev cJ0_length_8abf5 : ByteArray := prog_19_method_54_code
def yJ0_length_8abf5 : MethodName := ⟨RJ0, "length", "()I"⟩
abbrev cJ0_charAt_5068e : ByteArray := prog_19_method_56_code
def yJ0_charAt_5068e : MethodName := ⟨RJ0, "charAt", "(I)C"⟩
abbrev cJ0_coder_7d493 : ByteArray := prog_19_method_152_code
def yJ0_coder_7d493 : MethodName := ⟨RJ0, "coder", "()B"⟩
abbrev cJ0_isLatin1_aae02 : ByteArray := prog_19_method_154_code
def yJ0_isLatin1_aae02 : MethodName := ⟨RJ0, "isLatin1", "()Z"⟩
abbrev cJ0_checkIndex_df160 : ByteArray := prog_19_method_155_code
def yJ0_checkIndex_df160 : MethodName := ⟨RJ0, "checkIndex", "(II)V"⟩
def RJ1 : String := "java/lang/StringLatin1"
def TJ1 : u_T := fun k => match k with
  | _ => ("", "", "", false)
def tyJ1 : Nat → FieldType := fun k => match k with
  | _ => .int
abbrev wsJ10 : List Cond := u_ws RJ1 TJ1 0
theorem nmJ1 : ∀ a, a < 0 → ∀ b, b < 0 → a ≠ b → (TJ1 a).2.1 ≠ (TJ1 b).2.1 := by decide +kernel
theorem tyJ1_ok : ∀ k, k < 0 → parseFieldDescriptor (TJ1 k).2.2.1 = some (tyJ1 k) := by decide +kernel
abbrev cJ1_charAt_3b067 : ByteArray := prog_20_method_2_code
def yJ1_charAt_3b067 : MethodName := ⟨RJ1, "charAt", "([BI)C"⟩
def RJ2 : String := "java/lang/StringUTF16"
def TJ2 : u_T := fun k => match k with
  | _ => ("", "", "", false)
def tyJ2 : Nat → FieldType := fun k => match k with
  | _ => .int
abbrev wsJ20 : List Cond := u_ws RJ2 TJ2 0
theorem nmJ2 : ∀ a, a < 0 → ∀ b, b < 0 → a ≠ b → (TJ2 a).2.1 ≠ (TJ2 b).2.1 := by decide +kernel
theorem tyJ2_ok : ∀ k, k < 0 → parseFieldDescriptor (TJ2 k).2.2.1 = some (tyJ2 k) := by decide +kernel
abbrev cJ2_getChar_3b067 : ByteArray := prog_21_method_5_code
def yJ2_getChar_3b067 : MethodName := ⟨RJ2, "getChar", "([BI)C"⟩
abbrev cJ2_length_9d52b : ByteArray := prog_21_method_6_code
def yJ2_length_9d52b : MethodName := ⟨RJ2, "length", "([B)I"⟩
abbrev cJ2_charAt_3b067 : ByteArray := prog_21_method_83_code
def yJ2_charAt_3b067 : MethodName := ⟨RJ2, "charAt", "([BI)C"⟩
abbrev cJ2_checkIndex_2214a : ByteArray := prog_21_method_91_code
def yJ2_checkIndex_2214a : MethodName := ⟨RJ2, "checkIndex", "(I[B)V"⟩
def RJ10 : String := "java/lang/System"
def TJ10 : u_T := fun k => match k with
  | _ => ("", "", "", false)
def tyJ10 : Nat → FieldType := fun k => match k with
  | _ => .int
abbrev wsJ100 : List Cond := u_ws RJ10 TJ10 0
theorem nmJ10 : ∀ a, a < 0 → ∀ b, b < 0 → a ≠ b → (TJ10 a).2.1 ≠ (TJ10 b).2.1 := by decide +kernel
theorem tyJ10_ok : ∀ k, k < 0 → parseFieldDescriptor (TJ10 k).2.2.1 = some (tyJ10 k) := by decide +kernel
def RJ3 : String := "jdk/internal/util/Preconditions"
def TJ3 : u_T := fun k => match k with
  | _ => ("", "", "", false)
def tyJ3 : Nat → FieldType := fun k => match k with
  | _ => .int
abbrev wsJ30 : List Cond := u_ws RJ3 TJ3 0
theorem nmJ3 : ∀ a, a < 0 → ∀ b, b < 0 → a ≠ b → (TJ3 a).2.1 ≠ (TJ3 b).2.1 := by decide +kernel
theorem tyJ3_ok : ∀ k, k < 0 → parseFieldDescriptor (TJ3 k).2.2.1 = some (tyJ3 k) := by decide +kernel
abbrev cJ3_checkIndex_8e157 : ByteArray := prog_24_method_11_code
def yJ3_checkIndex_8e157 : MethodName := ⟨RJ3, "checkIndex", "(IILjava/util/function/BiFunction;)I"⟩
def RL : String := "WornDotsLaw"
abbrev cL_begin : ByteArray := method_3_code
def yL_begin : MethodName := ⟨RL, "begin", "(LWornDots;I[J)I"⟩
abbrev cL_set : ByteArray := method_4_code
def yL_set : MethodName := ⟨RL, "set", "(LWornDots;II[J)I"⟩
abbrev cL_addLabel : ByteArray := method_5_code
def yL_addLabel : MethodName := ⟨RL, "addLabel", "(LWornDots;II[J)I"⟩
abbrev cL_setRow : ByteArray := method_6_code
def yL_setRow : MethodName := ⟨RL, "setRow", "(LWornDots;III[J)I"⟩
abbrev cL_replace : ByteArray := method_7_code
def yL_replace : MethodName := ⟨RL, "replace", "(LWornDots;I[J)I"⟩
abbrev cL_cool : ByteArray := method_8_code
def yL_cool : MethodName := ⟨RL, "cool", "(LWornDots;I[J)I"⟩
abbrev cL_addCustomer : ByteArray := method_9_code
def yL_addCustomer : MethodName := ⟨RL, "addCustomer", "(LWornDots;[J)I"⟩
abbrev cL_rent : ByteArray := method_10_code
def yL_rent : MethodName := ⟨RL, "rent", "(LWornDots;III[J)I"⟩
abbrev cL_endRent : ByteArray := method_11_code
def yL_endRent : MethodName := ⟨RL, "endRent", "(LWornDots;I[J)I"⟩
abbrev cL_print : ByteArray := method_12_code
def yL_print : MethodName := ⟨RL, "print", "(LWornDots;III[J)I"⟩
abbrev cL_printBest : ByteArray := method_13_code
def yL_printBest : MethodName := ⟨RL, "printBest", "(LWornDots;II[J)I"⟩
abbrev cL_dot : ByteArray := method_14_code
def yL_dot : MethodName := ⟨RL, "dot", "(LWornDots;II[J)I"⟩
abbrev cL_label : ByteArray := method_15_code
def yL_label : MethodName := ⟨RL, "label", "(LWornDots;II[J)I"⟩
abbrev cL_row : ByteArray := method_16_code
def yL_row : MethodName := ⟨RL, "row", "(LWornDots;II[J)I"⟩
abbrev cL_customer : ByteArray := method_17_code
def yL_customer : MethodName := ⟨RL, "customer", "(LWornDots;II[J)I"⟩
abbrev cL_whole : ByteArray := method_18_code
def yL_whole : MethodName := ⟨RL, "whole", "(LWornDots;I[J)I"⟩
abbrev cL_reason : ByteArray := method_19_code
def yL_reason : MethodName := ⟨RL, "reason", "(LWornDots;III[J)I"⟩
abbrev cL_price : ByteArray := method_20_code
def yL_price : MethodName := ⟨RL, "price", "(LWornDots;III[J)I"⟩
abbrev cL_unreadable : ByteArray := method_21_code
def yL_unreadable : MethodName := ⟨RL, "unreadable", "(LWornDots;III[J)I"⟩
abbrev cL_bestOffset : ByteArray := method_22_code
def yL_bestOffset : MethodName := ⟨RL, "bestOffset", "(LWornDots;II[J)I"⟩
abbrev cL_readableFor : ByteArray := method_23_code
def yL_readableFor : MethodName := ⟨RL, "readableFor", "(LWornDots;III[J)I"⟩
abbrev cL_type : ByteArray := method_24_code
def yL_type : MethodName := ⟨RL, "type", "(LWornDots;I[J)I"⟩
abbrev cL_undo : ByteArray := method_25_code
def yL_undo : MethodName := ⟨RL, "undo", "(LWornDots;[J)I"⟩
abbrev cL_law : ByteArray := code
def yL_law : MethodName := ⟨RL, "law", "([I)Z"⟩
abbrev vwCl : List vw_C := [(RX1, TX1, 6), (RX2, TX2, 6), (RX3, TX3, 5), (RX4, TX4, 5), (RX5, TX5, 8), (RX7, TX7, 4), (RX8, TX8, 11)]
end
section
/-! CORE: one memory for all objects of the system (ints, references, longs by the object's number and the place in it), one world made of it, one judgement G over it -/
section CoreA
abbrev Mm : Type := (Nat → Nat → Int32) × (Nat → Nat → Option Nat) × (Nat → Nat → Int64)
def up2 {α : Type} (f : Nat → Nat → α) (k j : Nat) (v : α) : Nat → Nat → α := fun a b => if a = k then (if b = j then v else f a b) else f a b
def upR {α : Type} (f : Nat → Nat → α) (k : Nat) (g : Nat → α) : Nat → Nat → α := fun a b => if a = k then g b else f a b
def sI (μ : Mm) (k j : Nat) (v : Int32) : Mm := (up2 μ.1 k j v, μ.2)
def sR (μ : Mm) (k j : Nat) (v : Option Nat) : Mm := (μ.1, up2 μ.2.1 k j v, μ.2.2)
def sJ (μ : Mm) (k j : Nat) (v : Int64) : Mm := (μ.1, μ.2.1, up2 μ.2.2 k j v)
def sIr (μ : Mm) (k : Nat) (g : Nat → Int32) : Mm := (upR μ.1 k g, μ.2)
theorem up2_row {α : Type} (f : Nat → Nat → α) {k j a : Nat} {v : α} (h : a ≠ k) : up2 f k j v a = f a := by funext b; simp [up2, h]
theorem up2_self {α : Type} (f : Nat → Nat → α) {k j : Nat} {v : α} : up2 f k j v k = fun b => if b = j then v else f k b := by funext b; simp [up2]
theorem upR_row {α : Type} (f : Nat → Nat → α) {k a : Nat} {g : Nat → α} (h : a ≠ k) : upR f k g a = f a := by funext b; simp [upR, h]
theorem upR_self {α : Type} (f : Nat → Nat → α) {k : Nat} {g : Nat → α} : upR f k g k = g := by funext b; simp [upR]
abbrev inb (i : Int32) (n : Nat) : Prop := ¬ (i < 0 ∨ n ≤ i.toNatClampNeg)
abbrev ix (i : Int32) : Nat := i.toNatClampNeg
/-- what a copy wants -/
abbrev okc (sp dp n : Int32) (a b : Nat) : Prop := ¬ sp < 0 ∧ ¬ dp < 0 ∧ ¬ n < 0 ∧ ix sp + ix n ≤ a ∧ ix dp + ix n ≤ b
/-- the pieces of the functions that the methods are: a test, a named value, a reference of a kind -/
def gd {α : Type} (c : Prop) [Decidable c] (k : Option α) : Option α := if c then k else none
def lt1 {α β : Type} (v : α) (k : α → Option β) : Option β := k v
def bd {α β : Type} (v : Option α) (k : α → Option β) : Option β := v.bind k
def rf (K : Nat → Nat × Nat) (μ : Mm) (k j c : Nat) : Option Nat := match μ.2.1 k j with
  | some h => if (K h).1 = c then some h else none
  | none => none
theorem gd_inv {α : Type} {c : Prop} [Decidable c] {k : Option α} {r : α} (h : gd c k = some r) : c ∧ k = some r := by
  unfold gd at h
  split at h
  · exact ⟨by assumption, h⟩
  · cases h
theorem lt_inv {α β : Type} {v : α} {k : α → Option β} {r : β} (h : lt1 v k = some r) : ∃ x, x = v ∧ k x = some r := ⟨v, rfl, h⟩
theorem bd_inv {α β : Type} {v : Option α} {k : α → Option β} {r : β} (h : bd v k = some r) : ∃ x, v = some x ∧ k x = some r := by
  cases v with
  | none => cases h
  | some x => exact ⟨x, rfl, h⟩
theorem rf_inv {K : Nat → Nat × Nat} {μ : Mm} {k j c h : Nat} (e : rf K μ k j c = some h) : μ.2.1 k j = some h ∧ (K h).1 = c := by
  unfold rf at e
  split at e
  · rename_i h' e'
    split at e
    · cases e; exact ⟨e', by assumption⟩
    · cases e
  · cases e
theorem ite_t {α : Sort _} {c : Prop} [Decidable c] {a b r : α} (h : (if c then a else b) = r) (hc : c) : a = r := by rw [if_pos hc] at h; exact h
theorem ite_f {α : Sort _} {c : Prop} [Decidable c] {a b r : α} (h : (if c then a else b) = r) (hc : ¬ c) : b = r := by rw [if_neg hc] at h; exact h
end CoreA
section CoreB
/-- the world's numbers: where it begins, the address of each object, the classes' numbers and slots, the arrays' classes, what holds of the statics, the kind and length of each object, how many there are -/
abbrev ZZ : Type := Nat × (Nat → Nat) × (Nat → ClassId) × (Nat → Nat → Nat) × (Nat → ClassId) × (Nat → Nat × Nat) × Nat
def zb (Z : ZZ) : Nat := Z.1
def za (Z : ZZ) : Nat → Nat := Z.2.1
def zD (Z : ZZ) : va_G := (Z.2.2.1, Z.2.2.2.1)
def zc (Z : ZZ) : Nat → ClassId := Z.2.2.2.2.1
def zk (Z : ZZ) : Nat → Nat × Nat := Z.2.2.2.2.2.1
def zn (Z : ZZ) : Nat := Z.2.2.2.2.2.2
def zT (Z : ZZ) : List (ClassId × FieldType) := [(zc Z 0, .char), (zc Z 1, .int), (zc Z 2, .object "WornDots$Customer"), (zc Z 3, .object "WornDots$Label"), (zc Z 4, .object "WornDots$State"), (zc Z 5, .long)]
def iv (μ : Mm) (k j : Nat) : Value := .int (μ.1 k j)
def rv (Z : ZZ) (μ : Mm) (k j : Nat) : Value := va_rf ((μ.2.1 k j).map (za Z))
def flds (Z : ZZ) (c k : Nat) (μ : Mm) : List Value := match c with
  | 0 => [rv Z μ k 0, iv μ k 1, iv μ k 2, iv μ k 3, rv Z μ k 4, rv Z μ k 5]
  | 1 => [iv μ k 0, iv μ k 1, iv μ k 2, iv μ k 3, iv μ k 4, iv μ k 5]
  | 2 => [iv μ k 0, iv μ k 1, rv Z μ k 2, rv Z μ k 3, rv Z μ k 4]
  | 3 => [iv μ k 0, iv μ k 1, iv μ k 2, iv μ k 3, rv Z μ k 4]
  | 4 => [rv Z μ k 0, rv Z μ k 1, rv Z μ k 2, rv Z μ k 3, iv μ k 4, rv Z μ k 5, iv μ k 6, iv μ k 7]
  | 5 => [rv Z μ k 0, rv Z μ k 1, iv μ k 2, rv Z μ k 3]
  | 6 => [rv Z μ k 0, rv Z μ k 1, rv Z μ k 2, iv μ k 3, iv μ k 4, rv Z μ k 5, iv μ k 6, iv μ k 7, iv μ k 8, iv μ k 9, rv Z μ k 10]
  | _ => []
def ce (Z : ZZ) (μ : Mm) (k : Nat) : va_E :=
  if (zk Z k).1 < 7 then .inr ((zk Z k).1, flds Z (zk Z k).1 k μ)
  else if (zk Z k).1 < 9 then .inl (zc Z ((zk Z k).1 - 7), (zk Z k).2, .inl (μ.1 k))
  else if (zk Z k).1 < 12 then .inl (zc Z ((zk Z k).1 - 7), (zk Z k).2, .inr (.inr (.inr (.inr (fun j => (μ.2.1 k j).map (za Z))))))
  else .inl (zc Z 5, (zk Z k).2, .inr (.inl (μ.2.2 k)))
def wl (Z : ZZ) (μ : Mm) : va_W := (List.range (zn Z)).map (fun k => (za Z k, ce Z μ k))
def AA (Z : ZZ) : Nat → Prop := fun q => zb Z ≤ q
def OkZ (Z : ZZ) : Prop := zn Z ≤ 1000 ∧ (∀ i, i < 1000 → za Z i = zb Z + i) ∧ (∀ i, ¬ i < zn Z → (zk Z i).1 = 99)
/-- the objects that were there before: the words, their letters, the tables; their numbers are 2000 and on -/
def wN (i : Nat) : Int32 := ([1, 2, 3, 0, 3, 3, 2, 1, 1, 2] : List Int32).getD i 0
def wT (i : Nat) : List Int32 := ([[104, 101, 97, 100], [108, 97, 98, 101, 108], [114, 111, 119], [99, 108, 105, 101, 110, 116], [114, 101, 110, 116], [112, 114, 105, 110, 116], [98, 101, 115, 116], [99, 111, 111, 108], [110, 101, 119], [115, 101, 116]] : List (List Int32)).getD i []
def sC (k : Nat) : String := (["WornDots", "WornDots", "WornDots", "WornDots$1"] : List String).getD k ""
def sF (k : Nat) : String := (["LOWEST_SETTING", "HIGHEST_SETTING", "FIRST_SETTING", "$SwitchMap$WornDots$Word"] : List String).getD k ""
def sA (k : Nat) : List Int32 := ([[0, 10, 0, 1, 0, 0, 1], [30, 90, 9999, 100, 8, 20, 100], [8, 60, 100, 20, 1, 2, 5], [1, 2, 3, 4, 5, 6, 7, 8, 9, 10]] : List (List Int32)).getD k []
def ST (ad : Nat → Nat) (A : Nat → Prop) (U : State) (H : Heap) : Prop :=
  (∀ i, i < 10 → va_O "WornDots$Word" (ad (2000 + i)) A U H ∧ va_OF "java/lang/Enum" "ordinal" "I" (.int (nI i)) (ad (2000 + i)) A U H ∧ va_OF "WornDots$Word" "numbers" "I" (.int (wN i)) (ad (2000 + i)) A U H ∧ va_OF "WornDots$Word" "letters" "Ljava/lang/String;" (.ref (ad (2100 + i))) (ad (2000 + i)) A U H) ∧
  (∀ i, i < 10 → va_O "java/lang/String" (ad (2100 + i)) A U H ∧ va_OF "java/lang/String" "coder" "B" (.int 0) (ad (2100 + i)) A U H ∧ va_OF "java/lang/String" "value" "[B" (.ref (ad (2200 + i))) (ad (2100 + i)) A U H ∧ va_T .byte (ad (2200 + i)) (wT i).length (fun j => .int ((wT i).getD j 0)) A U H) ∧
  (∀ k, k < 4 → va_Z (sC k) (sF k) "[I" (.ref (ad (2300 + k))) A U H ∧ va_T .int (ad (2300 + k)) (sA k).length (fun j => .int ((sA k).getD j 0)) A U H) ∧
  (va_Z "WornDots" "WORDS" "[LWornDots$Word;" (.ref (ad 2304)) A U H ∧ va_T (.object "WornDots$Word") (ad 2304) 10 (fun j => .ref (ad (2000 + j))) A U H) ∧
  va_Z "WornDots$Word" "HEAD" "LWornDots$Word;" (.ref (ad 2000)) A U H ∧
  (va_Z "java/lang/String" "COMPACT_STRINGS" "Z" (.int 1) A U H ∧ va_Zq "jdk/internal/util/Preconditions" "SIOOBE_FORMATTER" "Ljava/util/function/BiFunction;" A U H) ∧
  (vx_Zq Bundle.tN "UNASSIGNED_STACK" Bundle.steD A U H ∧ vx_Zq Bundle.tN "SUPPRESSED_SENTINEL" Bundle.listD A U H)
theorem ST.moved {ad : Nat → Nat} {A : Nat → Prop} {u U : State} {H : Heap} (hvm : u.vm.Alike U.vm) (h : ST ad A u H) : ST ad A U H := by
  obtain ⟨h1, h2, h3, ⟨h4, h5⟩, h6, ⟨h7, h8⟩, h9, h10⟩ := h
  refine ⟨fun i hi => ?_, fun i hi => ?_, fun k hk => ?_, ⟨va_Z.moved hvm h4, va_T.moved hvm h5⟩, va_Z.moved hvm h6, ⟨va_Z.moved hvm h7, va_Zq.moved hvm h8⟩, vx_Zq.moved hvm h9, vx_Zq.moved hvm h10⟩
  · obtain ⟨a, b, c, d⟩ := h1 i hi
    exact ⟨va_O.moved hvm a, va_OF.moved hvm b, va_OF.moved hvm c, va_OF.moved hvm d⟩
  · obtain ⟨a, b, c, d⟩ := h2 i hi
    exact ⟨va_O.moved hvm a, va_OF.moved hvm b, va_OF.moved hvm c, va_T.moved hvm d⟩
  · obtain ⟨a, b⟩ := h3 k hk
    exact ⟨va_Z.moved hvm a, va_T.moved hvm b⟩
theorem ST.kept {ad : Nat → Nat} {A : Nat → Prop} {U : State} {H H1 : Heap} (h : ST ad A U H) (hq : ∀ a : Nat, a < H.size → ¬ A a → H1[a]? = H[a]?) : ST ad A U H1 := by
  obtain ⟨h1, h2, h3, ⟨h4, h5⟩, h6, ⟨h7, h8⟩, h9, h10⟩ := h
  refine ⟨fun i hi => ?_, fun i hi => ?_, fun k hk => ?_, ⟨h4.kept hq, h5.kept hq⟩, h6.kept hq, ⟨h7.kept hq, h8.kept hq⟩, h9.kept hq, h10.kept hq⟩
  · obtain ⟨a, b, c, d⟩ := h1 i hi
    exact ⟨a.kept hq, b.kept hq, c.kept hq, d.kept hq⟩
  · obtain ⟨a, b, c, d⟩ := h2 i hi
    exact ⟨a.kept hq, b.kept hq, c.kept hq, d.kept hq⟩
  · obtain ⟨a, b⟩ := h3 k hk
    exact ⟨a.kept hq, b.kept hq⟩
def zs (Z : ZZ) (U : State) (H : Heap) : Prop := ST (za Z) (AA Z) U H
def Wd (Z : ZZ) (μ : Mm) (U : State) (H : Heap) : Prop := va_P (zD Z) vwCl (wl Z μ) H ∧ zs Z U H
def KK (Z : ZZ) (U : State) : Prop := va_K (zD Z) vwCl (zT Z) U
theorem wl_get {Z : ZZ} {μ : Mm} {k : Nat} (h : k < zn Z) : (wl Z μ)[k]? = some (za Z k, ce Z μ k) := by
  unfold wl
  rw [List.getElem?_map, List.getElem?_range h]
  rfl
theorem wl_len {Z : ZZ} {μ : Mm} : (wl Z μ).length = zn Z := by simp [wl]
theorem wl_inv {Z : ZZ} {μ : Mm} {k : Nat} {q : Nat × va_E} (h : (wl Z μ)[k]? = some q) : k < zn Z ∧ q = (za Z k, ce Z μ k) := by
  have hl := (List.getElem?_eq_some_iff.mp h).1
  rw [wl_len] at hl
  rw [wl_get hl] at h
  exact ⟨hl, (Option.some.inj h).symm⟩
theorem wl_D {Z : ZZ} (hZ : OkZ Z) (μ : Mm) : va_D (AA Z) (wl Z μ) := by
  obtain ⟨h1, h2, -⟩ := hZ
  refine ⟨fun i j p q hp hq e => ?_, fun k q hq => ?_⟩
  · obtain ⟨hi, rfl⟩ := wl_inv hp
    obtain ⟨hj, rfl⟩ := wl_inv hq
    have e : za Z i = za Z j := e
    rw [h2 i (by omega), h2 j (by omega)] at e
    omega
  · obtain ⟨hi, rfl⟩ := wl_inv hq
    show zb Z ≤ za Z k
    rw [h2 k (by omega)]
    omega
theorem wl_set {Z : ZZ} {μ μ' : Mm} {k : Nat} {e : va_E} (h : k < zn Z) (he : e = ce Z μ' k) (ho : ∀ j, j ≠ k → ce Z μ' j = ce Z μ j) : (wl Z μ).set k (za Z k, e) = wl Z μ' := by
  subst he
  apply List.ext_getElem?
  intro i
  by_cases hi : i = k
  · subst hi
    rw [wl_get h, List.getElem?_set_self (by rw [wl_len]; exact h)]
  · rw [List.getElem?_set_ne (Ne.symm hi)]
    by_cases hl : i < zn Z
    · rw [wl_get hl, wl_get hl, ho i hi]
    · rw [List.getElem?_eq_none (by rw [wl_len]; omega), List.getElem?_eq_none (by rw [wl_len]; omega)]
theorem zk_lt {Z : ZZ} (hZ : OkZ Z) {k c : Nat} (h : (zk Z k).1 = c) (hc : c < 99) : k < zn Z := by
  rcases Nat.lt_or_ge k (zn Z) with q | q
  · exact q
  · have := hZ.2.2 k (by omega)
    omega
theorem ce_obj {Z : ZZ} {μ : Mm} {k c : Nat} (h : (zk Z k).1 = c) (hc : c < 7) : ce Z μ k = .inr (c, flds Z c k μ) := by
  unfold ce
  rw [h, if_pos hc]
theorem ce_int {Z : ZZ} {μ : Mm} {k : Nat} (h : (zk Z k).1 = 8) : ce Z μ k = .inl (zc Z 1, (zk Z k).2, .inl (μ.1 k)) := by
  unfold ce
  rw [h]
  rfl
theorem ce_chr {Z : ZZ} {μ : Mm} {k : Nat} (h : (zk Z k).1 = 7) : ce Z μ k = .inl (zc Z 0, (zk Z k).2, .inl (μ.1 k)) := by
  unfold ce
  rw [h]
  rfl
theorem ce_lng {Z : ZZ} {μ : Mm} {k : Nat} (h : (zk Z k).1 = 12) : ce Z μ k = .inl (zc Z 5, (zk Z k).2, .inr (.inl (μ.2.2 k))) := by
  unfold ce
  rw [h]
  rfl
theorem ce_ref {Z : ZZ} {μ : Mm} {k c : Nat} (h : (zk Z k).1 = c) (h1 : ¬ c < 9) (h2 : c < 12) : ce Z μ k = .inl (zc Z (c - 7), (zk Z k).2, .inr (.inr (.inr (.inr (fun j => (μ.2.1 k j).map (za Z)))))) := by
  unfold ce
  rw [h, if_neg (by omega), if_neg h1, if_pos h2]
theorem ce_cong {Z : ZZ} {μ μ' : Mm} {k : Nat} (h1 : μ'.1 k = μ.1 k) (h2 : μ'.2.1 k = μ.2.1 k) (h3 : μ'.2.2 k = μ.2.2 k) : ce Z μ' k = ce Z μ k := by
  unfold ce flds
  simp only [h1, h2, h3, iv, rv]
theorem ce_sI {Z : ZZ} {μ : Mm} {k j a : Nat} {v : Int32} (h : a ≠ k) : ce Z (sI μ k j v) a = ce Z μ a := ce_cong (up2_row _ h) rfl rfl
theorem ce_sR {Z : ZZ} {μ : Mm} {k j a : Nat} {v : Option Nat} (h : a ≠ k) : ce Z (sR μ k j v) a = ce Z μ a := ce_cong rfl (up2_row _ h) rfl
theorem ce_sJ {Z : ZZ} {μ : Mm} {k j a : Nat} {v : Int64} (h : a ≠ k) : ce Z (sJ μ k j v) a = ce Z μ a := ce_cong rfl rfl (up2_row _ h)
theorem ce_sIr {Z : ZZ} {μ : Mm} {k a : Nat} {g : Nat → Int32} (h : a ≠ k) : ce Z (sIr μ k g) a = ce Z μ a := ce_cong (upR_row _ h) rfl rfl
/-- a kind's class: its name, fields, how many -/
def kN (c : Nat) : Nat := match c with | 0 => 6 | 1 => 6 | 2 => 5 | 3 => 5 | 4 => 8 | 5 => 4 | 6 => 11 | _ => 0
def isI (c j : Nat) : Bool := match c with
  | 0 => j == 1 || j == 2 || j == 3
  | 1 => decide (j < 6)
  | 2 => decide (j < 2)
  | 3 => decide (j < 4)
  | 4 => j == 4 || j == 6 || j == 7
  | 5 => j == 2
  | 6 => j == 3 || j == 4 || (decide (6 ≤ j) && decide (j < 10))
  | _ => false
theorem fl_len {Z : ZZ} {μ : Mm} {k : Nat} : ∀ c, c < 7 → (flds Z c k μ).length = kN c
  | 0, _ => rfl | 1, _ => rfl | 2, _ => rfl | 3, _ => rfl | 4, _ => rfl | 5, _ => rfl | 6, _ => rfl
  | n + 7, h => absurd h (by omega)
end CoreB
section CoreW
/-- the tables' words that every call can hand on -/
def TB : List Cond := lw_tbl.filter goodWord
theorem TB_good {w : Cond} (h : w ∈ TB) : goodWord w = true := (List.mem_filter.mp h).2
theorem TB_in {w : Cond} (h : w ∈ TB) : w ∈ lw_tbl := (List.mem_filter.mp h).1
theorem TB_of {w : Cond} (h : w ∈ tables_1) (g : goodWord w = true) : w ∈ TB := List.mem_filter.mpr ⟨List.mem_append_right _ h, g⟩
theorem tb1 {w : Cond} (h : w ∈ tables_1_1) (g : goodWord w = true) : w ∈ TB := TB_of (List.mem_append_left _ h) g
theorem tb2 {w : Cond} (h : w ∈ tables_1_2) (g : goodWord w = true) : w ∈ TB := TB_of (List.mem_append_right _ (List.mem_append_left _ h)) g
theorem tb3 {w : Cond} (h : w ∈ tables_1_3) (g : goodWord w = true) : w ∈ TB := TB_of (List.mem_append_right _ (List.mem_append_right _ (List.mem_append_left _ h))) g
theorem tb4 {w : Cond} (h : w ∈ tables_1_4) (g : goodWord w = true) : w ∈ TB := TB_of (List.mem_append_right _ (List.mem_append_right _ (List.mem_append_right _ (List.mem_append_left _ h)))) g
theorem tb5 {w : Cond} (h : w ∈ tables_1_5) (g : goodWord w = true) : w ∈ TB := TB_of (List.mem_append_right _ (List.mem_append_right _ (List.mem_append_right _ (List.mem_append_right _ (List.mem_append_left _ h))))) g
theorem tb6 {w : Cond} (h : w ∈ tables_1_6) (g : goodWord w = true) : w ∈ TB := TB_of (List.mem_append_right _ (List.mem_append_right _ (List.mem_append_right _ (List.mem_append_right _ (List.mem_append_right _ h))))) g
theorem tbs {q : MethodName × Nat} (h : q ∈ lw_privs) : Cond.selects q.1.cls q.1 q.1 ∈ TB := List.mem_filter.mpr ⟨List.mem_append_left _ (List.mem_map.mpr ⟨q, h, rfl⟩), rfl⟩
theorem tbs1 {q : MethodName × Nat} (h : q ∈ lw_privs_1) : Cond.selects q.1.cls q.1 q.1 ∈ TB := tbs (List.mem_append_left _ h)
theorem tbs2 {q : MethodName × Nat} (h : q ∈ lw_privs_2) : Cond.selects q.1.cls q.1 q.1 ∈ TB := tbs (List.mem_append_right _ (List.mem_append_left _ h))
theorem tbs3 {q : MethodName × Nat} (h : q ∈ lw_privs_3) : Cond.selects q.1.cls q.1 q.1 ∈ TB := tbs (List.mem_append_right _ (List.mem_append_right _ (List.mem_append_left _ h)))
theorem tbs4 {q : MethodName × Nat} (h : q ∈ lw_privs_4) : Cond.selects q.1.cls q.1 q.1 ∈ TB := tbs (List.mem_append_right _ (List.mem_append_right _ (List.mem_append_right _ h)))
theorem good_TB {w : Cond} (h : w ∈ TB) : w ∈ TB ∧ ((w.onTables && w.keeps) = true ∨ ∃ ty, w = .arrayClass ty) := ⟨h, good_of_word (TB_good h)⟩
theorem goodC {y : MethodName} {bytes : ByteArray} {maxL : Nat} {rt : Option FieldType} (m5 : Cond.code y bytes maxL rt ∈ TB) : GoodIn TB (Cond.code y bytes maxL rt :: TB) := fun w h => by
  rcases List.mem_cons.mp h with rfl | h
  · exact good_TB m5
  · exact good_TB h
theorem goodV {own CN : String} {index : Nat} {y : MethodName} {bytes : ByteArray} {maxL : Nat} {rt : Option FieldType} (m1 : Cond.methodLink own index y ∈ TB) (m2 : Cond.instanceMethod y ∈ TB) (m3 : Cond.selects CN y y ∈ TB) (m4 : Cond.initialized CN ∈ TB) (m5 : Cond.code y bytes maxL rt ∈ TB) : GoodIn TB (wsV own index CN y (Cond.code y bytes maxL rt :: TB)) := fun w h => by
  unfold wsV at h
  simp only [List.cons_append, List.nil_append, List.mem_cons] at h
  rcases h with rfl | rfl | rfl | rfl | rfl | h
  · exact good_TB m1
  · exact good_TB m2
  · exact good_TB m3
  · exact good_TB m4
  · exact good_TB m5
  · exact good_TB h
theorem goodS {own : String} {index : Nat} {y : MethodName} {bytes : ByteArray} {maxL : Nat} {rt : Option FieldType} (m1 : Cond.methodLink own index y ∈ TB) (m2 : Cond.static y ∈ TB) (m4 : Cond.initialized y.cls ∈ TB) (m5 : Cond.code y bytes maxL rt ∈ TB) : GoodIn TB (va_wsS own index y (Cond.code y bytes maxL rt :: TB)) := fun w h => by
  unfold va_wsS at h
  simp only [List.cons_append, List.nil_append, List.mem_cons] at h
  rcases h with rfl | rfl | rfl | rfl | h
  · exact good_TB m1
  · exact good_TB m2
  · exact good_TB m4
  · exact good_TB m5
  · exact good_TB h
/-- the links of nest mates -/
def NF : List (String × Nat × String × String × String × String) := [("WornDots", 141, "WornDots$CommandText", "length", "I", "WornDots"), ("WornDots", 195, "WornDots$CommandText", "word", "LWornDots$Word;", "WornDots"), ("WornDots", 199, "WornDots$CommandText", "numbers", "[I", "WornDots"), ("WornDots$State", 68, "WornDots$Head", "dots", "I", "WornDots"), ("WornDots", 238, "WornDots$Head", "dots", "I", "WornDots"), ("WornDots$State", 194, "WornDots$Head", "burntInAll", "I", "WornDots"), ("WornDots$State", 180, "WornDots$Head", "heat", "[I", "WornDots"), ("WornDots$State", 107, "WornDots$Head", "wear", "[I", "WornDots"), ("WornDots$State", 187, "WornDots$Head", "burnt", "[I", "WornDots"), ("WornDots$State", 37, "WornDots", "FIRST_SETTING", "[I", "WornDots"), ("WornDots$State", 88, "WornDots$Label", "width", "I", "WornDots"), ("WornDots$Head", 38, "WornDots$Label", "width", "I", "WornDots"), ("WornDots$State", 91, "WornDots$Label", "blackness", "I", "WornDots"), ("WornDots$Head", 50, "WornDots$Label", "blackness", "I", "WornDots"), ("WornDots$State", 162, "WornDots$Label", "printed", "I", "WornDots"), ("WornDots$State", 169, "WornDots$Label", "failed", "I", "WornDots"), ("WornDots$Head", 43, "WornDots$Label", "rows", "[I", "WornDots"), ("WornDots$State", 101, "WornDots$Label", "rows", "[I", "WornDots"), ("WornDots", 127, "WornDots$Label", "rows", "[I", "WornDots"), ("WornDots$State", 126, "WornDots$Customer", "first", "I", "WornDots"), ("WornDots$State", 129, "WornDots$Customer", "last", "I", "WornDots"), ("WornDots$State", 156, "WornDots$Customer", "paid", "I", "WornDots"), ("WornDots$State", 163, "WornDots$Customer", "paidBack", "I", "WornDots"), ("WornDots$State", 159, "WornDots$Customer", "printed", "I", "WornDots"), ("WornDots$State", 166, "WornDots$Customer", "failed", "I", "WornDots"), ("WornDots", 169, "WornDots$State", "head", "LWornDots$Head;", "WornDots"), ("WornDots", 118, "WornDots$State", "labels", "[LWornDots$Label;", "WornDots"), ("WornDots", 241, "WornDots$State", "labelCount", "I", "WornDots"), ("WornDots", 134, "WornDots$State", "customers", "[LWornDots$Customer;", "WornDots"), ("WornDots", 244, "WornDots$State", "customerCount", "I", "WornDots"), ("WornDots$CommandText", 64, "WornDots", "WORDS", "[LWornDots$Word;", "WornDots"), ("WornDots$State", 82, "WornDots", "LOWEST_SETTING", "[I", "WornDots"), ("WornDots$State", 85, "WornDots", "HIGHEST_SETTING", "[I", "WornDots"), ("WornDots$CommandText", 68, "WornDots$Word", "letters", "Ljava/lang/String;", "WornDots"), ("WornDots$CommandText", 55, "WornDots$Word", "numbers", "I", "WornDots")]
def NM : List (String × Nat × MethodName × String) := [("WornDots", 9, ⟨"WornDots$CommandText", "<init>", "()V"⟩, "WornDots"), ("WornDots", 24, ⟨"WornDots$Head", "<init>", "()V"⟩, "WornDots"), ("WornDots$State", 11, ⟨"WornDots$Head", "<init>", "()V"⟩, "WornDots"), ("WornDots$State", 46, ⟨"WornDots$Label", "<init>", "()V"⟩, "WornDots"), ("WornDots$State", 47, ⟨"WornDots$Customer", "<init>", "()V"⟩, "WornDots")]
/-- what the exceptions want beside them: what can be cast, what is declared, what cannot be cast, the texts -/
def NC : List (String × String) := [("java/lang/IndexOutOfBoundsException", "java/lang/IndexOutOfBoundsException"), ("java/lang/IllegalArgumentException", "java/lang/IllegalArgumentException"), ("java/lang/IllegalStateException", "java/lang/IllegalStateException")]
def ND : List MethodName := [⟨"java/lang/RuntimeException", "<init>", "(Ljava/lang/String;)V"⟩, ⟨"java/lang/Exception", "<init>", "(Ljava/lang/String;)V"⟩, ⟨"java/lang/Throwable", "<init>", "(Ljava/lang/String;)V"⟩, ⟨"java/lang/Enum", "ordinal", "()I"⟩]
def NN : List (String × String) := [("java/lang/IllegalArgumentException", "java/lang/IndexOutOfBoundsException"), ("java/lang/IllegalStateException", "java/lang/IndexOutOfBoundsException"), ("java/lang/IllegalStateException", "java/lang/IllegalArgumentException")]
def SR : List (Nat × String) := [(251, "there is no such dot, label or customer"), (258, "an argument is out of range"), (263, "this cannot be done now")]
def NA : List String := ["WornDots$State", "WornDots$Label", "WornDots$Customer"]
def NW (U : State) : Prop := (∀ q ∈ NF, va_Nw (.fieldLinkNest q.1 q.2.1 q.2.2.1 q.2.2.2.1 q.2.2.2.2.1 q.2.2.2.2.2) U) ∧ (∀ q ∈ NM, va_Nw (.methodLinkNest q.1 q.2.1 q.2.2.1 q.2.2.2) U) ∧
  (∀ q ∈ NC, va_Nw (.castable q.1 q.2) U) ∧ (∀ q ∈ ND, va_Nw (.declares q) U) ∧ (∀ q ∈ NN, va_Nc q.1 q.2 U) ∧ (∀ q ∈ SR, ∃ a, vk_R "WornDots" q.1 q.2 a U) ∧ ∀ q ∈ NA, va_AO q U
theorem NW.warm {s U : State} (hW : s.WarmedH U.vm) (h : NW s) : NW U := ⟨fun q hq => va_Nw.warmF hW (h.1 q hq), fun q hq => va_Nw.warmM hW (h.2.1 q hq), fun q hq => va_Nw.warmC hW (h.2.2.1 q hq), fun q hq => va_Nw.warmD hW (h.2.2.2.1 q hq), fun q hq => va_Nc.moved hW.alike (h.2.2.2.2.1 q hq), fun q hq => by
  obtain ⟨a, ha⟩ := h.2.2.2.2.2.1 q hq
  exact ⟨a, vk_R.warm hW ha⟩, fun q hq => va_AO.moved hW.alike (h.2.2.2.2.2.2 q hq)⟩
theorem NW.same {u U : State} (hv : u.vm = U.vm) (h : NW u) : NW U := ⟨fun q hq => va_Nw.same rfl hv (h.1 q hq), fun q hq => va_Nw.same rfl hv (h.2.1 q hq), fun q hq => va_Nw.same rfl hv (h.2.2.1 q hq), fun q hq => va_Nw.same rfl hv (h.2.2.2.1 q hq), fun q hq => va_Nc.moved (by rw [hv]; exact Vm.Alike.refl _) (h.2.2.2.2.1 q hq), fun q hq => by
  obtain ⟨a, ha⟩ := h.2.2.2.2.2.1 q hq
  exact ⟨a, vk_R.same hv.symm ha⟩, fun q hq => va_AO.moved (by rw [hv]; exact Vm.Alike.refl _) (h.2.2.2.2.2.2 q hq)⟩
end CoreW
end
section
/-! CORE, second: the fields one by one; the context of a method; the judgement G; a row for each instruction -/
set_option maxRecDepth 100000 in
theorem inTX1 : ∀ w ∈ u_ws RX1 TX1 6, w ∈ TB := by
  intro w h
  obtain ⟨k, hk, rfl⟩ := List.mem_map.mp h
  have hk := List.mem_range.mp hk
  match k, hk with
  | 0, _ => exact tb1 (List.mem_of_getElem? (i := 49) rfl) rfl
  | 1, _ => exact tb1 (List.mem_of_getElem? (i := 51) rfl) rfl
  | 2, _ => exact tb1 (List.mem_of_getElem? (i := 53) rfl) rfl
  | 3, _ => exact tb1 (List.mem_of_getElem? (i := 55) rfl) rfl
  | 4, _ => exact tb1 (List.mem_of_getElem? (i := 57) rfl) rfl
  | 5, _ => exact tb1 (List.mem_of_getElem? (i := 59) rfl) rfl
  | q + 6, hq => exact absurd hq (by omega)
set_option maxRecDepth 100000 in
theorem inTX2 : ∀ w ∈ u_ws RX2 TX2 6, w ∈ TB := by
  intro w h
  obtain ⟨k, hk, rfl⟩ := List.mem_map.mp h
  have hk := List.mem_range.mp hk
  match k, hk with
  | 0, _ => exact tb1 (List.mem_of_getElem? (i := 157) rfl) rfl
  | 1, _ => exact tb1 (List.mem_of_getElem? (i := 159) rfl) rfl
  | 2, _ => exact tb1 (List.mem_of_getElem? (i := 161) rfl) rfl
  | 3, _ => exact tb1 (List.mem_of_getElem? (i := 163) rfl) rfl
  | 4, _ => exact tb1 (List.mem_of_getElem? (i := 165) rfl) rfl
  | 5, _ => exact tb1 (List.mem_of_getElem? (i := 167) rfl) rfl
  | q + 6, hq => exact absurd hq (by omega)
set_option maxRecDepth 100000 in
theorem inTX3 : ∀ w ∈ u_ws RX3 TX3 5, w ∈ TB := by
  intro w h
  obtain ⟨k, hk, rfl⟩ := List.mem_map.mp h
  have hk := List.mem_range.mp hk
  match k, hk with
  | 0, _ => exact tb1 (List.mem_of_getElem? (i := 83) rfl) rfl
  | 1, _ => exact tb1 (List.mem_of_getElem? (i := 85) rfl) rfl
  | 2, _ => exact tb1 (List.mem_of_getElem? (i := 87) rfl) rfl
  | 3, _ => exact tb1 (List.mem_of_getElem? (i := 89) rfl) rfl
  | 4, _ => exact tb1 (List.mem_of_getElem? (i := 91) rfl) rfl
  | q + 5, hq => exact absurd hq (by omega)
set_option maxRecDepth 100000 in
theorem inTX4 : ∀ w ∈ u_ws RX4 TX4 5, w ∈ TB := by
  intro w h
  obtain ⟨k, hk, rfl⟩ := List.mem_map.mp h
  have hk := List.mem_range.mp hk
  match k, hk with
  | 0, _ => exact tb1 (List.mem_of_getElem? (i := 129) rfl) rfl
  | 1, _ => exact tb1 (List.mem_of_getElem? (i := 131) rfl) rfl
  | 2, _ => exact tb1 (List.mem_of_getElem? (i := 133) rfl) rfl
  | 3, _ => exact tb1 (List.mem_of_getElem? (i := 135) rfl) rfl
  | 4, _ => exact tb1 (List.mem_of_getElem? (i := 137) rfl) rfl
  | q + 5, hq => exact absurd hq (by omega)
set_option maxRecDepth 100000 in
theorem inTX5 : ∀ w ∈ u_ws RX5 TX5 8, w ∈ TB := by
  intro w h
  obtain ⟨k, hk, rfl⟩ := List.mem_map.mp h
  have hk := List.mem_range.mp hk
  match k, hk with
  | 0, _ => exact tb1 (List.mem_of_getElem? (i := 183) rfl) rfl
  | 1, _ => exact tb1 (List.mem_of_getElem? (i := 185) rfl) rfl
  | 2, _ => exact tb1 (List.mem_of_getElem? (i := 187) rfl) rfl
  | 3, _ => exact tb1 (List.mem_of_getElem? (i := 189) rfl) rfl
  | 4, _ => exact tb1 (List.mem_of_getElem? (i := 191) rfl) rfl
  | 5, _ => exact tb1 (List.mem_of_getElem? (i := 193) rfl) rfl
  | 6, _ => exact tb1 (List.mem_of_getElem? (i := 195) rfl) rfl
  | 7, _ => exact tb1 (List.mem_of_getElem? (i := 197) rfl) rfl
  | q + 8, hq => exact absurd hq (by omega)
set_option maxRecDepth 100000 in
theorem inTX7 : ∀ w ∈ u_ws RX7 TX7 4, w ∈ TB := by
  intro w h
  obtain ⟨k, hk, rfl⟩ := List.mem_map.mp h
  have hk := List.mem_range.mp hk
  match k, hk with
  | 0, _ => exact tb1 (List.mem_of_getElem? (i := 204) rfl) rfl
  | 1, _ => exact tb1 (List.mem_of_getElem? (i := 206) rfl) rfl
  | 2, _ => exact tb1 (List.mem_of_getElem? (i := 208) rfl) rfl
  | 3, _ => exact tb1 (List.mem_of_getElem? (i := 210) rfl) rfl
  | q + 4, hq => exact absurd hq (by omega)
set_option maxRecDepth 100000 in
theorem inTX8 : ∀ w ∈ u_ws RX8 TX8 11, w ∈ TB := by
  intro w h
  obtain ⟨k, hk, rfl⟩ := List.mem_map.mp h
  have hk := List.mem_range.mp hk
  match k, hk with
  | 0, _ => exact tb5 (List.mem_of_getElem? (i := 14) rfl) rfl
  | 1, _ => exact tb5 (List.mem_of_getElem? (i := 16) rfl) rfl
  | 2, _ => exact tb5 (List.mem_of_getElem? (i := 18) rfl) rfl
  | 3, _ => exact tb5 (List.mem_of_getElem? (i := 20) rfl) rfl
  | 4, _ => exact tb5 (List.mem_of_getElem? (i := 22) rfl) rfl
  | 5, _ => exact tb5 (List.mem_of_getElem? (i := 24) rfl) rfl
  | 6, _ => exact tb5 (List.mem_of_getElem? (i := 26) rfl) rfl
  | 7, _ => exact tb5 (List.mem_of_getElem? (i := 28) rfl) rfl
  | 8, _ => exact tb5 (List.mem_of_getElem? (i := 30) rfl) rfl
  | 9, _ => exact tb5 (List.mem_of_getElem? (i := 32) rfl) rfl
  | 10, _ => exact tb5 (List.mem_of_getElem? (i := 34) rfl) rfl
  | q + 11, hq => exact absurd hq (by omega)
section CoreC
variable {Z : ZZ} {μ : Mm} {k h : Nat} {v : Int32}
theorem fR_0_0 : flds Z 0 k (sR μ k 0 (some h)) = (flds Z 0 k μ).set 0 (.ref (za Z h)) := by simp [flds, iv, rv, sR, up2, va_rf]
theorem fI_0_1 : flds Z 0 k (sI μ k 1 v) = (flds Z 0 k μ).set 1 (.int v) := by simp [flds, iv, rv, sI, up2]
theorem fI_0_2 : flds Z 0 k (sI μ k 2 v) = (flds Z 0 k μ).set 2 (.int v) := by simp [flds, iv, rv, sI, up2]
theorem fI_0_3 : flds Z 0 k (sI μ k 3 v) = (flds Z 0 k μ).set 3 (.int v) := by simp [flds, iv, rv, sI, up2]
theorem fR_0_4 : flds Z 0 k (sR μ k 4 (some h)) = (flds Z 0 k μ).set 4 (.ref (za Z h)) := by simp [flds, iv, rv, sR, up2, va_rf]
theorem fR_0_5 : flds Z 0 k (sR μ k 5 (some h)) = (flds Z 0 k μ).set 5 (.ref (za Z h)) := by simp [flds, iv, rv, sR, up2, va_rf]
theorem fI_1_0 : flds Z 1 k (sI μ k 0 v) = (flds Z 1 k μ).set 0 (.int v) := by simp [flds, iv, rv, sI, up2]
theorem fI_1_1 : flds Z 1 k (sI μ k 1 v) = (flds Z 1 k μ).set 1 (.int v) := by simp [flds, iv, rv, sI, up2]
theorem fI_1_2 : flds Z 1 k (sI μ k 2 v) = (flds Z 1 k μ).set 2 (.int v) := by simp [flds, iv, rv, sI, up2]
theorem fI_1_3 : flds Z 1 k (sI μ k 3 v) = (flds Z 1 k μ).set 3 (.int v) := by simp [flds, iv, rv, sI, up2]
theorem fI_1_4 : flds Z 1 k (sI μ k 4 v) = (flds Z 1 k μ).set 4 (.int v) := by simp [flds, iv, rv, sI, up2]
theorem fI_1_5 : flds Z 1 k (sI μ k 5 v) = (flds Z 1 k μ).set 5 (.int v) := by simp [flds, iv, rv, sI, up2]
theorem fI_2_0 : flds Z 2 k (sI μ k 0 v) = (flds Z 2 k μ).set 0 (.int v) := by simp [flds, iv, rv, sI, up2]
theorem fI_2_1 : flds Z 2 k (sI μ k 1 v) = (flds Z 2 k μ).set 1 (.int v) := by simp [flds, iv, rv, sI, up2]
theorem fR_2_2 : flds Z 2 k (sR μ k 2 (some h)) = (flds Z 2 k μ).set 2 (.ref (za Z h)) := by simp [flds, iv, rv, sR, up2, va_rf]
theorem fR_2_3 : flds Z 2 k (sR μ k 3 (some h)) = (flds Z 2 k μ).set 3 (.ref (za Z h)) := by simp [flds, iv, rv, sR, up2, va_rf]
theorem fR_2_4 : flds Z 2 k (sR μ k 4 (some h)) = (flds Z 2 k μ).set 4 (.ref (za Z h)) := by simp [flds, iv, rv, sR, up2, va_rf]
theorem fI_3_0 : flds Z 3 k (sI μ k 0 v) = (flds Z 3 k μ).set 0 (.int v) := by simp [flds, iv, rv, sI, up2]
theorem fI_3_1 : flds Z 3 k (sI μ k 1 v) = (flds Z 3 k μ).set 1 (.int v) := by simp [flds, iv, rv, sI, up2]
theorem fI_3_2 : flds Z 3 k (sI μ k 2 v) = (flds Z 3 k μ).set 2 (.int v) := by simp [flds, iv, rv, sI, up2]
theorem fI_3_3 : flds Z 3 k (sI μ k 3 v) = (flds Z 3 k μ).set 3 (.int v) := by simp [flds, iv, rv, sI, up2]
theorem fR_3_4 : flds Z 3 k (sR μ k 4 (some h)) = (flds Z 3 k μ).set 4 (.ref (za Z h)) := by simp [flds, iv, rv, sR, up2, va_rf]
theorem fR_4_0 : flds Z 4 k (sR μ k 0 (some h)) = (flds Z 4 k μ).set 0 (.ref (za Z h)) := by simp [flds, iv, rv, sR, up2, va_rf]
theorem fR_4_1 : flds Z 4 k (sR μ k 1 (some h)) = (flds Z 4 k μ).set 1 (.ref (za Z h)) := by simp [flds, iv, rv, sR, up2, va_rf]
theorem fR_4_2 : flds Z 4 k (sR μ k 2 (some h)) = (flds Z 4 k μ).set 2 (.ref (za Z h)) := by simp [flds, iv, rv, sR, up2, va_rf]
theorem fR_4_3 : flds Z 4 k (sR μ k 3 (some h)) = (flds Z 4 k μ).set 3 (.ref (za Z h)) := by simp [flds, iv, rv, sR, up2, va_rf]
theorem fI_4_4 : flds Z 4 k (sI μ k 4 v) = (flds Z 4 k μ).set 4 (.int v) := by simp [flds, iv, rv, sI, up2]
theorem fR_4_5 : flds Z 4 k (sR μ k 5 (some h)) = (flds Z 4 k μ).set 5 (.ref (za Z h)) := by simp [flds, iv, rv, sR, up2, va_rf]
theorem fI_4_6 : flds Z 4 k (sI μ k 6 v) = (flds Z 4 k μ).set 6 (.int v) := by simp [flds, iv, rv, sI, up2]
theorem fI_4_7 : flds Z 4 k (sI μ k 7 v) = (flds Z 4 k μ).set 7 (.int v) := by simp [flds, iv, rv, sI, up2]
theorem fR_5_0 : flds Z 5 k (sR μ k 0 (some h)) = (flds Z 5 k μ).set 0 (.ref (za Z h)) := by simp [flds, iv, rv, sR, up2, va_rf]
theorem fR_5_1 : flds Z 5 k (sR μ k 1 (some h)) = (flds Z 5 k μ).set 1 (.ref (za Z h)) := by simp [flds, iv, rv, sR, up2, va_rf]
theorem fI_5_2 : flds Z 5 k (sI μ k 2 v) = (flds Z 5 k μ).set 2 (.int v) := by simp [flds, iv, rv, sI, up2]
theorem fR_5_3 : flds Z 5 k (sR μ k 3 (some h)) = (flds Z 5 k μ).set 3 (.ref (za Z h)) := by simp [flds, iv, rv, sR, up2, va_rf]
theorem fR_6_0 : flds Z 6 k (sR μ k 0 (some h)) = (flds Z 6 k μ).set 0 (.ref (za Z h)) := by simp [flds, iv, rv, sR, up2, va_rf]
theorem fR_6_1 : flds Z 6 k (sR μ k 1 (some h)) = (flds Z 6 k μ).set 1 (.ref (za Z h)) := by simp [flds, iv, rv, sR, up2, va_rf]
theorem fR_6_2 : flds Z 6 k (sR μ k 2 (some h)) = (flds Z 6 k μ).set 2 (.ref (za Z h)) := by simp [flds, iv, rv, sR, up2, va_rf]
theorem fI_6_3 : flds Z 6 k (sI μ k 3 v) = (flds Z 6 k μ).set 3 (.int v) := by simp [flds, iv, rv, sI, up2]
theorem fI_6_4 : flds Z 6 k (sI μ k 4 v) = (flds Z 6 k μ).set 4 (.int v) := by simp [flds, iv, rv, sI, up2]
theorem fR_6_5 : flds Z 6 k (sR μ k 5 (some h)) = (flds Z 6 k μ).set 5 (.ref (za Z h)) := by simp [flds, iv, rv, sR, up2, va_rf]
theorem fI_6_6 : flds Z 6 k (sI μ k 6 v) = (flds Z 6 k μ).set 6 (.int v) := by simp [flds, iv, rv, sI, up2]
theorem fI_6_7 : flds Z 6 k (sI μ k 7 v) = (flds Z 6 k μ).set 7 (.int v) := by simp [flds, iv, rv, sI, up2]
theorem fI_6_8 : flds Z 6 k (sI μ k 8 v) = (flds Z 6 k μ).set 8 (.int v) := by simp [flds, iv, rv, sI, up2]
theorem fI_6_9 : flds Z 6 k (sI μ k 9 v) = (flds Z 6 k μ).set 9 (.int v) := by simp [flds, iv, rv, sI, up2]
theorem fR_6_10 : flds Z 6 k (sR μ k 10 (some h)) = (flds Z 6 k μ).set 10 (.ref (za Z h)) := by simp [flds, iv, rv, sR, up2, va_rf]
end CoreC

section CoreD
abbrev XX : Type := Program × Launch × Env × Room × State × MethodId × Array Value × List Frame × Method × Code × (State → Prop)
def xp (X : XX) : Program := X.1
def xl (X : XX) : Launch := X.2.1
def xe (X : XX) : Env := X.2.2.1
def xR (X : XX) : Room := X.2.2.2.1
def xs (X : XX) : State := X.2.2.2.2.1
def xm (X : XX) : MethodId := X.2.2.2.2.2.1
def xa (X : XX) : Array Value := X.2.2.2.2.2.2.1
def xb (X : XX) : List Frame := X.2.2.2.2.2.2.2.1
def xh (X : XX) : Method := X.2.2.2.2.2.2.2.2.1
def xc (X : XX) : Code := X.2.2.2.2.2.2.2.2.2.1
def xQ (X : XX) : State → Prop := X.2.2.2.2.2.2.2.2.2.2
def WX (X : XX) (H : Heap) (locs : List Loc) (cells slots : Nat) (g : JFrame) : Prop := W (xp X) (xl X) (xe X) (xR X) (xs X) (xm X) (xa X) (xb X) (xh X) (xc X) H locs cells slots (xQ X) g
/-- the judgement: with the memory μ, the locals lv and the stack st, from pc on the method comes to its end -/
def G (Z : ZZ) (X : XX) (nL cells slots pc : Nat) (lv : List (Nat × Value)) (st : List Value) (μ : Mm) : Prop :=
  ∀ (H : Heap) (locs : List Loc) (ls : Array Slot), Wd Z μ (xs X) H → va_S (AA Z) (xs X).heap H locs → lv_has ls nL lv → W (xp X) (xl X) (xe X) (xR X) (xs X) (xm X) (xa X) (xb X) (xh X) (xc X) H locs cells slots (xQ X) (F0 (xm X) pc ls st)
def rmm (d mc ms : Nat) : Room := { frames := d, cells := mc, slots := ms, locals := 37 * d }
def Qc0 (Z : ZZ) (o : Option Value) (μ' : Mm) : Array Value → State → Outcome → State → Prop := fun _ st oc t => (oc = .returned o ∧ Wd Z μ' t t.heap) ∧ va_F (AA Z) st t
def Pc0 (Z : ZZ) (ex : Bool) (μ : Mm) (U : State) : Prop := Wd Z μ U U.heap ∧ (KK Z U ∧ NW U) ∧ OkZ Z ∧ zb Z ≤ U.heap.size ∧ (ex = true → U.heap.size = zb Z + zn Z)
/-- a method's contract: from the memory μ with the arguments av it returns o and leaves the memory μ' (of the world Z') -/
def CtM (l : Launch) (Z : ZZ) (ex : Bool) (y : MethodName) (bytes : ByteArray) (maxL : Nat) (rt : Option FieldType) (d mc ms : Nat) (av : List Value) (μ : Mm) (o : Option Value) (Z' : ZZ) (μ' : Mm) : Prop :=
  Met l y (Cond.code y bytes maxL rt :: TB) (rmm d mc ms) (va_Pc av (Pc0 Z ex μ)) (Qc0 Z' o μ') mc ms (AA Z)
/-- the context of a method's body -/
def Cx (l : Launch) (Z : ZZ) (ex : Bool) (X : XX) (cc : ByteArray) (own : String) (nL : Nat) (ret : Option FieldType) : Prop :=
  ((xp X).tables.exec = Jvm.exec ∧ (xc X).code = cc ∧ (xc X).maxLocals = nL) ∧ ((xs X).vm.findClass own = some (xm X).cls ∧ (∀ w ∈ TB, w.before (xa X) (xs X) = true) ∧ NW (xs X)) ∧ ((xh X).locks = false ∧ (xh X).sig.returnType = ret) ∧
  (KK Z (xs X) ∧ OkZ Z) ∧ (xl X = l ∧ zb Z ≤ (xs X).heap.size ∧ (ex = true → (xs X).heap.size = zb Z + zn Z))
/-- the end of a method's body -/
def Ex (Z : ZZ) (X : XX) (d mc ms : Nat) (o : Option Value) (Z' : ZZ) (μ' : Mm) : Prop := xQ X = MQ (xb X) (Qc0 Z' o μ') (xa X) (xs X) mc ms (AA Z) ∧ xR X = rmm d mc ms
section CxA
variable {l : Launch} {Z : ZZ} {ex : Bool} {X : XX} {cc : ByteArray} {own : String} {nL : Nat} {ret : Option FieldType}
theorem Cx.exec (C : Cx l Z ex X cc own nL ret) : (xp X).tables.exec = Jvm.exec := C.1.1
theorem Cx.code (C : Cx l Z ex X cc own nL ret) : (xc X).code = cc := C.1.2.1
theorem Cx.ml (C : Cx l Z ex X cc own nL ret) : (xc X).maxLocals = nL := C.1.2.2
theorem Cx.ow (C : Cx l Z ex X cc own nL ret) : (xs X).vm.findClass own = some (xm X).cls := C.2.1.1
theorem Cx.ts (C : Cx l Z ex X cc own nL ret) : ∀ w ∈ TB, w.before (xa X) (xs X) = true := C.2.1.2.1
theorem Cx.w (C : Cx l Z ex X cc own nL ret) {w : Cond} (h : w ∈ TB) : w.before (xa X) (xs X) = true := C.ts w h
theorem Cx.nw (C : Cx l Z ex X cc own nL ret) : NW (xs X) := C.2.1.2.2
theorem Cx.nf (C : Cx l Z ex X cc own nL ret) (i : Nat) {q : String × Nat × String × String × String × String} (h : NF[i]? = some q) : (Cond.fieldLinkNest q.1 q.2.1 q.2.2.1 q.2.2.2.1 q.2.2.2.2.1 q.2.2.2.2.2).before (xa X) (xs X) = true := va_Nw.use rfl (C.nw.1 q (List.mem_of_getElem? h))
theorem Cx.locks (C : Cx l Z ex X cc own nL ret) : (xh X).locks = false := C.2.2.1.1
theorem Cx.rt (C : Cx l Z ex X cc own nL ret) : (xh X).sig.returnType = ret := C.2.2.1.2
theorem Cx.K (C : Cx l Z ex X cc own nL ret) : KK Z (xs X) := C.2.2.2.1.1
theorem Cx.ok (C : Cx l Z ex X cc own nL ret) : OkZ Z := C.2.2.2.1.2
theorem Cx.ln (C : Cx l Z ex X cc own nL ret) : xl X = l := C.2.2.2.2.1
theorem Cx.b (C : Cx l Z ex X cc own nL ret) : zb Z ≤ (xs X).heap.size := C.2.2.2.2.2.1
theorem Cx.fix (C : Cx l Z ex X cc own nL ret) : CallFix (xp X) (xm X) (xc X) cc nL (xs X) (xa X) TB own := ⟨C.exec, C.code, C.ml, C.ow, C.ts⟩
end CxA
theorem pc0_blind {av : List Value} {Z : ZZ} {ex : Bool} {μ : Mm} : FrameBlind (va_Pc av (Pc0 Z ex μ)) := by
  intro a U g mk h
  obtain ⟨h1, ⟨hP, hs⟩, ⟨hK, hN⟩, hZ, hb, hx⟩ := h
  exact ⟨h1, ⟨hP, ST.moved (u := U) (U := U.calling g mk a) (Vm.Alike.refl U.vm) hs⟩, ⟨va_K.moved (u := U) (U := U.calling g mk a) (Vm.Alike.refl U.vm) hK, NW.same (u := U) (U := U.calling g mk a) rfl hN⟩, hZ, hb, hx⟩
theorem ct_of {l : Launch} {Z : ZZ} {ex : Bool} {y : MethodName} {d mc ms : Nat} {av : List Value} {μ : Mm} {o : Option Value} {Z' : ZZ} {μ' : Mm} {cc : ByteArray} {nL : Nat} {ret : Option FieldType} {own : String}
    (hy : plainName y.cls = true) (ho : y.cls = own) (hlen : (lg_sl av).length ≤ nL)
    (body : ∀ X : XX, Cx l Z ex X cc own nL ret → Ex Z X d mc ms o Z' μ' → G Z X nL 0 0 0 (lv_args 0 av) [] μ) : CtM l Z ex y cc nL ret d mc ms av μ o Z' μ' := by
  refine Met.ofW (cc := cc) (maxL := nL) (ret := ret) (ws' := TB) hy rfl ?_
  intro p e s m args below meth c s₁ B hml hv
  obtain ⟨rfl, hW, ⟨hK, hN⟩, hZ, hb, hx⟩ := hv
  have hts := atoms_spec (ws := Cond.code y cc nL ret :: TB) B.pre
  have hown : s.vm.findClass own = some m.cls := by rw [← ho]; exact findClass_of_methodNamed B.named
  have hg := body (p, l, e, rmm d mc ms, s, m, av.toArray, below, meth, c, MQ below (Qc0 Z' o μ') av.toArray s mc ms (AA Z))
    ⟨⟨B.exec, B.bytes, hml⟩, ⟨hown, fun w h => hts w (List.mem_cons_of_mem _ h), hN⟩, ⟨B.notSynchronized, B.returns⟩, ⟨hK, hZ⟩, rfl, hb, hx⟩ ⟨rfl, rfl⟩
    s.heap [] _ hW va_S.rf (lv_entry av hlen)
  rw [lg_entry_eq]
  exact hg
section Rows
variable {l : Launch} {Z Z' : ZZ} {ex : Bool} {X : XX} {cc : ByteArray} {own : String} {nL : Nat} {ret : Option FieldType} {d mc ms : Nat} {o : Option Value} {μ μ' : Mm} {cells slots pc : Nat} {lv lv' : List (Nat × Value)} {rest : List Value}
theorem g_sub (ks : List Nat) (hl : lv_pick lv ks = lv') (k : G Z X nL cells slots pc lv' rest μ) : G Z X nL cells slots pc lv rest μ := fun H locs ls hW hS h => k H locs ls hW hS (lv_sub h ks hl)
theorem g_eq {μ1 : Mm} (e : μ1 = μ) (k : G Z X nL cells slots pc lv rest μ1) : G Z X nL cells slots pc lv rest μ := e ▸ k
theorem g_widen {c1 s1 : Nat} (h1 : cells ≤ c1) (h2 : slots ≤ s1) (k : G Z X nL c1 s1 pc lv rest μ) : G Z X nL cells slots pc lv rest μ := fun H locs ls hW hS h => W.widen h1 h2 (k H locs ls hW hS h)

theorem g_iconst (C : Cx l Z ex X cc own nL ret) {n : Int} {v : Int32} (hv : Int32.ofInt n = v) (hd : decode cc pc = .ok (.iconst n, 1)) (k : G Z X nL cells slots (pc + 1) lv (.int v :: rest) μ) : G Z X nL cells slots pc lv (rest) μ := fun H locs ls hW hS h => lv_iconst C.exec C.code hd hv (k H locs ls hW hS h)
theorem g_bipush (C : Cx l Z ex X cc own nL ret) {n : Int} {v : Int32} (hv : (Int8.ofInt n).toInt32 = v) (hd : decode cc pc = .ok (.bipush n, 2)) (k : G Z X nL cells slots (pc + 2) lv (.int v :: rest) μ) : G Z X nL cells slots pc lv (rest) μ := fun H locs ls hW hS h => lv_bipush C.exec C.code hd hv (k H locs ls hW hS h)
theorem g_sipush (C : Cx l Z ex X cc own nL ret) {n : Int} {v : Int32} (hv : (Int16.ofInt n).toInt32 = v) (hd : decode cc pc = .ok (.sipush n, 3)) (k : G Z X nL cells slots (pc + 3) lv (.int v :: rest) μ) : G Z X nL cells slots pc lv (rest) μ := fun H locs ls hW hS h => lv_sipush C.exec C.code hd hv (k H locs ls hW hS h)
theorem g_lconst (C : Cx l Z ex X cc own nL ret) {n : Fin 2} {v : Int64} (hv : Int64.ofNat (n : Nat) = v) (hd : decode cc pc = .ok (.lconst n, 1)) (k : G Z X nL cells slots (pc + 1) lv (.long v :: rest) μ) : G Z X nL cells slots pc lv (rest) μ := fun H locs ls hW hS h => lv_lconst C.exec C.code hd hv (k H locs ls hW hS h)
theorem g_iload_n (C : Cx l Z ex X cc own nL ret) {q : Fin 4} {i : Nat} {x : Int32} (j : Nat) (hq : (q : Nat) = i) (hk : lv[j]? = some (i, .int x)) (hd : decode cc pc = .ok (.iload_n q, 1)) (k : G Z X nL cells slots (pc + 1) lv (.int x :: rest) μ) : G Z X nL cells slots pc lv (rest) μ := fun H locs ls hW hS h => lv_iload_n C.exec C.code hd hq (lv_at h j hk) (k H locs ls hW hS h)
theorem g_iload (C : Cx l Z ex X cc own nL ret) {i : Nat} {x : Int32} (j : Nat) (hk : lv[j]? = some (i, .int x)) (hd : decode cc pc = .ok (.iload i, 2)) (k : G Z X nL cells slots (pc + 2) lv (.int x :: rest) μ) : G Z X nL cells slots pc lv (rest) μ := fun H locs ls hW hS h => lv_iload C.exec C.code hd (lv_at h j hk) (k H locs ls hW hS h)
theorem g_istore_n (C : Cx l Z ex X cc own nL ret) {q0 : Fin 4} {i : Nat} {x : Int32} (hd : decode cc pc = .ok (.istore_n q0, 1)) (hq : (q0 : Nat) = i) (hn : i < nL) (hl : (i, Value.int x) :: lv.filter (fun q => !(q.1 == i) && !(q.1 + 1 == i && q.2.category == 2)) = lv') (k : G Z X nL cells slots (pc + 1) lv' rest μ) : G Z X nL cells slots pc lv (.int x :: rest) μ := fun H locs ls hW hS h => lv_istore_n C.exec C.code hd hq h hn hl (fun ls2 h2 => k H locs ls2 hW hS h2)
theorem g_istore (C : Cx l Z ex X cc own nL ret) {i : Nat} {x : Int32} (hd : decode cc pc = .ok (.istore i, 2)) (hn : i < nL) (hl : (i, Value.int x) :: lv.filter (fun q => !(q.1 == i) && !(q.1 + 1 == i && q.2.category == 2)) = lv') (k : G Z X nL cells slots (pc + 2) lv' rest μ) : G Z X nL cells slots pc lv (.int x :: rest) μ := fun H locs ls hW hS h => lv_istore C.exec C.code hd h hn hl (fun ls2 h2 => k H locs ls2 hW hS h2)
theorem g_lload_n (C : Cx l Z ex X cc own nL ret) {q : Fin 4} {i : Nat} {x : Int64} (j : Nat) (hq : (q : Nat) = i) (hk : lv[j]? = some (i, .long x)) (hd : decode cc pc = .ok (.lload_n q, 1)) (k : G Z X nL cells slots (pc + 1) lv (.long x :: rest) μ) : G Z X nL cells slots pc lv (rest) μ := fun H locs ls hW hS h => lv_lload_n C.exec C.code hd hq (lv_at h j hk) (k H locs ls hW hS h)
theorem g_lload (C : Cx l Z ex X cc own nL ret) {i : Nat} {x : Int64} (j : Nat) (hk : lv[j]? = some (i, .long x)) (hd : decode cc pc = .ok (.lload i, 2)) (k : G Z X nL cells slots (pc + 2) lv (.long x :: rest) μ) : G Z X nL cells slots pc lv (rest) μ := fun H locs ls hW hS h => lv_lload C.exec C.code hd (lv_at h j hk) (k H locs ls hW hS h)
theorem g_lstore_n (C : Cx l Z ex X cc own nL ret) {q0 : Fin 4} {i : Nat} {x : Int64} (hd : decode cc pc = .ok (.lstore_n q0, 1)) (hq : (q0 : Nat) = i) (hn : i + 1 < nL) (hl : (i, Value.long x) :: lv.filter (fun q => !(q.1 == i) && (!(q.1 == i + 1) && !(q.1 + 1 == i && q.2.category == 2))) = lv') (k : G Z X nL cells slots (pc + 1) lv' rest μ) : G Z X nL cells slots pc lv (.long x :: rest) μ := fun H locs ls hW hS h => lv_lstore_n C.exec C.code hd hq h hn hl (fun ls2 h2 => k H locs ls2 hW hS h2)
theorem g_lstore (C : Cx l Z ex X cc own nL ret) {i : Nat} {x : Int64} (hd : decode cc pc = .ok (.lstore i, 2)) (hn : i + 1 < nL) (hl : (i, Value.long x) :: lv.filter (fun q => !(q.1 == i) && (!(q.1 == i + 1) && !(q.1 + 1 == i && q.2.category == 2))) = lv') (k : G Z X nL cells slots (pc + 2) lv' rest μ) : G Z X nL cells slots pc lv (.long x :: rest) μ := fun H locs ls hW hS h => lv_lstore C.exec C.code hd h hn hl (fun ls2 h2 => k H locs ls2 hW hS h2)
theorem g_aload_n (C : Cx l Z ex X cc own nL ret) {q : Fin 4} {i : Nat} {x : Nat} (j : Nat) (hq : (q : Nat) = i) (hk : lv[j]? = some (i, .ref x)) (hd : decode cc pc = .ok (.aload_n q, 1)) (k : G Z X nL cells slots (pc + 1) lv (.ref x :: rest) μ) : G Z X nL cells slots pc lv (rest) μ := fun H locs ls hW hS h => lv_aload_n C.exec C.code hd hq (lv_at h j hk) (k H locs ls hW hS h)
theorem g_aload (C : Cx l Z ex X cc own nL ret) {i : Nat} {x : Nat} (j : Nat) (hk : lv[j]? = some (i, .ref x)) (hd : decode cc pc = .ok (.aload i, 2)) (k : G Z X nL cells slots (pc + 2) lv (.ref x :: rest) μ) : G Z X nL cells slots pc lv (rest) μ := fun H locs ls hW hS h => lv_aload C.exec C.code hd (lv_at h j hk) (k H locs ls hW hS h)
theorem g_astore_n (C : Cx l Z ex X cc own nL ret) {q0 : Fin 4} {i : Nat} {x : Nat} (hd : decode cc pc = .ok (.astore_n q0, 1)) (hq : (q0 : Nat) = i) (hn : i < nL) (hl : (i, Value.ref x) :: lv.filter (fun q => !(q.1 == i) && !(q.1 + 1 == i && q.2.category == 2)) = lv') (k : G Z X nL cells slots (pc + 1) lv' rest μ) : G Z X nL cells slots pc lv (.ref x :: rest) μ := fun H locs ls hW hS h => lv_astore_n C.exec C.code hd hq h hn hl (fun ls2 h2 => k H locs ls2 hW hS h2)
theorem g_astore (C : Cx l Z ex X cc own nL ret) {i : Nat} {x : Nat} (hd : decode cc pc = .ok (.astore i, 2)) (hn : i < nL) (hl : (i, Value.ref x) :: lv.filter (fun q => !(q.1 == i) && !(q.1 + 1 == i && q.2.category == 2)) = lv') (k : G Z X nL cells slots (pc + 2) lv' rest μ) : G Z X nL cells slots pc lv (.ref x :: rest) μ := fun H locs ls hW hS h => lv_astore C.exec C.code hd h hn hl (fun ls2 h2 => k H locs ls2 hW hS h2)
theorem g_iinc (C : Cx l Z ex X cc own nL ret) {i : Nat} {n : Int} {x v : Int32} (j : Nat) (hd : decode cc pc = .ok (.iinc i n, 3)) (hk : lv[j]? = some (i, .int x)) (hv : x + Int32.ofInt n = v) (hn : i < nL) (hl : (i, Value.int v) :: lv.filter (fun q => !(q.1 == i) && !(q.1 + 1 == i && q.2.category == 2)) = lv') (k : G Z X nL cells slots (pc + 3) lv' rest μ) : G Z X nL cells slots pc lv rest μ := fun H locs ls hW hS h => lv_iinc C.exec C.code hd h hk hv hn hl (fun ls2 h2 => k H locs ls2 hW hS h2)
theorem g_iadd (C : Cx l Z ex X cc own nL ret) {x y : Int32} (hd : decode cc pc = .ok (.iadd, 1)) (k : G Z X nL cells slots (pc + 1) lv (.int (x + y) :: rest) μ) : G Z X nL cells slots pc lv (.int y :: .int x :: rest) μ := fun H locs ls hW hS h => lv_iadd C.exec C.code hd  (k H locs ls hW hS h)
theorem g_isub (C : Cx l Z ex X cc own nL ret) {x y : Int32} (hd : decode cc pc = .ok (.isub, 1)) (k : G Z X nL cells slots (pc + 1) lv (.int (x - y) :: rest) μ) : G Z X nL cells slots pc lv (.int y :: .int x :: rest) μ := fun H locs ls hW hS h => lv_isub C.exec C.code hd  (k H locs ls hW hS h)
theorem g_imul (C : Cx l Z ex X cc own nL ret) {x y : Int32} (hd : decode cc pc = .ok (.imul, 1)) (k : G Z X nL cells slots (pc + 1) lv (.int (x * y) :: rest) μ) : G Z X nL cells slots pc lv (.int y :: .int x :: rest) μ := fun H locs ls hW hS h => lv_imul C.exec C.code hd  (k H locs ls hW hS h)
theorem g_iand (C : Cx l Z ex X cc own nL ret) {x y : Int32} (hd : decode cc pc = .ok (.iand, 1)) (k : G Z X nL cells slots (pc + 1) lv (.int (x &&& y) :: rest) μ) : G Z X nL cells slots pc lv (.int y :: .int x :: rest) μ := fun H locs ls hW hS h => lv_iand C.exec C.code hd  (k H locs ls hW hS h)
theorem g_ior (C : Cx l Z ex X cc own nL ret) {x y : Int32} (hd : decode cc pc = .ok (.ior, 1)) (k : G Z X nL cells slots (pc + 1) lv (.int (x ||| y) :: rest) μ) : G Z X nL cells slots pc lv (.int y :: .int x :: rest) μ := fun H locs ls hW hS h => lv_ior C.exec C.code hd  (k H locs ls hW hS h)
theorem g_ixor (C : Cx l Z ex X cc own nL ret) {x y : Int32} (hd : decode cc pc = .ok (.ixor, 1)) (k : G Z X nL cells slots (pc + 1) lv (.int (x ^^^ y) :: rest) μ) : G Z X nL cells slots pc lv (.int y :: .int x :: rest) μ := fun H locs ls hW hS h => lv_ixor C.exec C.code hd  (k H locs ls hW hS h)
theorem g_ishl (C : Cx l Z ex X cc own nL ret) {x y : Int32} (hd : decode cc pc = .ok (.ishl, 1)) (k : G Z X nL cells slots (pc + 1) lv (.int (x <<< (y &&& 31)) :: rest) μ) : G Z X nL cells slots pc lv (.int y :: .int x :: rest) μ := fun H locs ls hW hS h => lv_ishl C.exec C.code hd  (k H locs ls hW hS h)
theorem g_ishr (C : Cx l Z ex X cc own nL ret) {x y : Int32} (hd : decode cc pc = .ok (.ishr, 1)) (k : G Z X nL cells slots (pc + 1) lv (.int (x >>> (y &&& 31)) :: rest) μ) : G Z X nL cells slots pc lv (.int y :: .int x :: rest) μ := fun H locs ls hW hS h => lv_ishr C.exec C.code hd  (k H locs ls hW hS h)
theorem g_iushr (C : Cx l Z ex X cc own nL ret) {x y : Int32} (hd : decode cc pc = .ok (.iushr, 1)) (k : G Z X nL cells slots (pc + 1) lv (.int ((x.toUInt32 >>> (y.toUInt32 &&& Int32.toUInt32 31)).toInt32) :: rest) μ) : G Z X nL cells slots pc lv (.int y :: .int x :: rest) μ := fun H locs ls hW hS h => lv_iushr C.exec C.code hd rfl (k H locs ls hW hS h)
theorem g_idiv (C : Cx l Z ex X cc own nL ret) {x y : Int32} (hne : ¬ y = 0) (hd : decode cc pc = .ok (.idiv, 1)) (k : G Z X nL cells slots (pc + 1) lv (.int (x / y) :: rest) μ) : G Z X nL cells slots pc lv (.int y :: .int x :: rest) μ := fun H locs ls hW hS h => lv_idiv C.exec C.code hd hne (k H locs ls hW hS h)
theorem g_irem (C : Cx l Z ex X cc own nL ret) {x y : Int32} (hne : ¬ y = 0) (hd : decode cc pc = .ok (.irem, 1)) (k : G Z X nL cells slots (pc + 1) lv (.int (x - x / y * y) :: rest) μ) : G Z X nL cells slots pc lv (.int y :: .int x :: rest) μ := fun H locs ls hW hS h => lv_irem C.exec C.code hd hne (k H locs ls hW hS h)
theorem g_ladd (C : Cx l Z ex X cc own nL ret) {x y : Int64} (hd : decode cc pc = .ok (.ladd, 1)) (k : G Z X nL cells slots (pc + 1) lv (.long (x + y) :: rest) μ) : G Z X nL cells slots pc lv (.long y :: .long x :: rest) μ := fun H locs ls hW hS h => lv_ladd C.exec C.code hd  (k H locs ls hW hS h)
theorem g_lsub (C : Cx l Z ex X cc own nL ret) {x y : Int64} (hd : decode cc pc = .ok (.lsub, 1)) (k : G Z X nL cells slots (pc + 1) lv (.long (x - y) :: rest) μ) : G Z X nL cells slots pc lv (.long y :: .long x :: rest) μ := fun H locs ls hW hS h => lv_lsub C.exec C.code hd  (k H locs ls hW hS h)
theorem g_lmul (C : Cx l Z ex X cc own nL ret) {x y : Int64} (hd : decode cc pc = .ok (.lmul, 1)) (k : G Z X nL cells slots (pc + 1) lv (.long (x * y) :: rest) μ) : G Z X nL cells slots pc lv (.long y :: .long x :: rest) μ := fun H locs ls hW hS h => lv_lmul C.exec C.code hd  (k H locs ls hW hS h)
theorem g_i2l (C : Cx l Z ex X cc own nL ret) {x : Int32} (hd : decode cc pc = .ok (.i2l, 1)) (k : G Z X nL cells slots (pc + 1) lv (.long x.toInt64 :: rest) μ) : G Z X nL cells slots pc lv (.int x :: rest) μ := fun H locs ls hW hS h => lv_i2l C.exec C.code hd rfl (k H locs ls hW hS h)
theorem g_i2c (C : Cx l Z ex X cc own nL ret) {x : Int32} (hd : decode cc pc = .ok (.i2c, 1)) (k : G Z X nL cells slots (pc + 1) lv (.int (x.toUInt32 % 65536).toInt32 :: rest) μ) : G Z X nL cells slots pc lv (.int x :: rest) μ := fun H locs ls hW hS h => lv_i2c C.exec C.code hd rfl (k H locs ls hW hS h)
theorem g_lcmp (C : Cx l Z ex X cc own nL ret) {x y : Int64} (hd : decode cc pc = .ok (.lcmp, 1)) (k : G Z X nL cells slots (pc + 1) lv (.int (lg_cmp x y) :: rest) μ) : G Z X nL cells slots pc lv (.long y :: .long x :: rest) μ := fun H locs ls hW hS h => W.lcmp C.exec C.code hd  (k H locs ls hW hS h)
theorem g_dup (C : Cx l Z ex X cc own nL ret) {v : Value} (hv : v.category = 1) (hd : decode cc pc = .ok (.dup, 1)) (k : G Z X nL cells slots (pc + 1) lv (v :: v :: rest) μ) : G Z X nL cells slots pc lv (v :: rest) μ := fun H locs ls hW hS h => lv_dup C.exec C.code hd hv (k H locs ls hW hS h)
theorem g_pop (C : Cx l Z ex X cc own nL ret) {v : Value} (hv : v.category = 1) (hd : decode cc pc = .ok (.pop, 1)) (k : G Z X nL cells slots (pc + 1) lv (rest) μ) : G Z X nL cells slots pc lv (v :: rest) μ := fun H locs ls hW hS h => lv_pop C.exec C.code hd hv (k H locs ls hW hS h)
theorem g_dup2 (C : Cx l Z ex X cc own nL ret) {v u : Value} (hv : v.category = 1) (hu : u.category = 1) (hd : decode cc pc = .ok (.dup2, 1)) (k : G Z X nL cells slots (pc + 1) lv (v :: u :: v :: u :: rest) μ) : G Z X nL cells slots pc lv (v :: u :: rest) μ := fun H locs ls hW hS h => lv_dup2_11 C.exec C.code hd hv hu (k H locs ls hW hS h)
theorem g_if_eq (C : Cx l Z ex X cc own nL ret) {x : Int32} {off : Int} {tgt : Nat} (hd : decode cc pc = .ok (.ifCond .eq off, 3)) (ht : (pc : Int) + off = (tgt : Int)) (kt : x = 0 → G Z X nL cells slots tgt lv rest μ) (kf : ¬ x = 0 → G Z X nL cells slots (pc + 3) lv rest μ) : G Z X nL cells slots pc lv (.int x :: rest) μ := fun H locs ls hW hS h => lv_if_eq C.exec C.code hd ht (fun c => kt c H locs ls hW hS h) (fun c => kf c H locs ls hW hS h)
theorem g_icmp_eq (C : Cx l Z ex X cc own nL ret) {x y : Int32} {off : Int} {tgt : Nat} (hd : decode cc pc = .ok (.if_icmp .eq off, 3)) (ht : (pc : Int) + off = (tgt : Int)) (kt : x = y → G Z X nL cells slots tgt lv rest μ) (kf : ¬ x = y → G Z X nL cells slots (pc + 3) lv rest μ) : G Z X nL cells slots pc lv (.int y :: .int x :: rest) μ := fun H locs ls hW hS h => lv_icmp_eq C.exec C.code hd ht (fun c => kt c H locs ls hW hS h) (fun c => kf c H locs ls hW hS h)
theorem g_if_ne (C : Cx l Z ex X cc own nL ret) {x : Int32} {off : Int} {tgt : Nat} (hd : decode cc pc = .ok (.ifCond .ne off, 3)) (ht : (pc : Int) + off = (tgt : Int)) (kt : ¬ x = 0 → G Z X nL cells slots tgt lv rest μ) (kf : x = 0 → G Z X nL cells slots (pc + 3) lv rest μ) : G Z X nL cells slots pc lv (.int x :: rest) μ := fun H locs ls hW hS h => lv_if_ne C.exec C.code hd ht (fun c => kt c H locs ls hW hS h) (fun c => kf c H locs ls hW hS h)
theorem g_icmp_ne (C : Cx l Z ex X cc own nL ret) {x y : Int32} {off : Int} {tgt : Nat} (hd : decode cc pc = .ok (.if_icmp .ne off, 3)) (ht : (pc : Int) + off = (tgt : Int)) (kt : ¬ x = y → G Z X nL cells slots tgt lv rest μ) (kf : x = y → G Z X nL cells slots (pc + 3) lv rest μ) : G Z X nL cells slots pc lv (.int y :: .int x :: rest) μ := fun H locs ls hW hS h => lv_icmp_ne C.exec C.code hd ht (fun c => kt c H locs ls hW hS h) (fun c => kf c H locs ls hW hS h)
theorem g_if_lt (C : Cx l Z ex X cc own nL ret) {x : Int32} {off : Int} {tgt : Nat} (hd : decode cc pc = .ok (.ifCond .lt off, 3)) (ht : (pc : Int) + off = (tgt : Int)) (kt : x < 0 → G Z X nL cells slots tgt lv rest μ) (kf : ¬ x < 0 → G Z X nL cells slots (pc + 3) lv rest μ) : G Z X nL cells slots pc lv (.int x :: rest) μ := fun H locs ls hW hS h => lv_if_lt C.exec C.code hd ht (fun c => kt c H locs ls hW hS h) (fun c => kf c H locs ls hW hS h)
theorem g_icmp_lt (C : Cx l Z ex X cc own nL ret) {x y : Int32} {off : Int} {tgt : Nat} (hd : decode cc pc = .ok (.if_icmp .lt off, 3)) (ht : (pc : Int) + off = (tgt : Int)) (kt : x < y → G Z X nL cells slots tgt lv rest μ) (kf : ¬ x < y → G Z X nL cells slots (pc + 3) lv rest μ) : G Z X nL cells slots pc lv (.int y :: .int x :: rest) μ := fun H locs ls hW hS h => lv_icmp_lt C.exec C.code hd ht (fun c => kt c H locs ls hW hS h) (fun c => kf c H locs ls hW hS h)
theorem g_if_ge (C : Cx l Z ex X cc own nL ret) {x : Int32} {off : Int} {tgt : Nat} (hd : decode cc pc = .ok (.ifCond .ge off, 3)) (ht : (pc : Int) + off = (tgt : Int)) (kt : 0 ≤ x → G Z X nL cells slots tgt lv rest μ) (kf : ¬ 0 ≤ x → G Z X nL cells slots (pc + 3) lv rest μ) : G Z X nL cells slots pc lv (.int x :: rest) μ := fun H locs ls hW hS h => lv_if_ge C.exec C.code hd ht (fun c => kt c H locs ls hW hS h) (fun c => kf c H locs ls hW hS h)
theorem g_icmp_ge (C : Cx l Z ex X cc own nL ret) {x y : Int32} {off : Int} {tgt : Nat} (hd : decode cc pc = .ok (.if_icmp .ge off, 3)) (ht : (pc : Int) + off = (tgt : Int)) (kt : y ≤ x → G Z X nL cells slots tgt lv rest μ) (kf : ¬ y ≤ x → G Z X nL cells slots (pc + 3) lv rest μ) : G Z X nL cells slots pc lv (.int y :: .int x :: rest) μ := fun H locs ls hW hS h => lv_icmp_ge C.exec C.code hd ht (fun c => kt c H locs ls hW hS h) (fun c => kf c H locs ls hW hS h)
theorem g_if_gt (C : Cx l Z ex X cc own nL ret) {x : Int32} {off : Int} {tgt : Nat} (hd : decode cc pc = .ok (.ifCond .gt off, 3)) (ht : (pc : Int) + off = (tgt : Int)) (kt : 0 < x → G Z X nL cells slots tgt lv rest μ) (kf : ¬ 0 < x → G Z X nL cells slots (pc + 3) lv rest μ) : G Z X nL cells slots pc lv (.int x :: rest) μ := fun H locs ls hW hS h => lv_if_gt C.exec C.code hd ht (fun c => kt c H locs ls hW hS h) (fun c => kf c H locs ls hW hS h)
theorem g_icmp_gt (C : Cx l Z ex X cc own nL ret) {x y : Int32} {off : Int} {tgt : Nat} (hd : decode cc pc = .ok (.if_icmp .gt off, 3)) (ht : (pc : Int) + off = (tgt : Int)) (kt : y < x → G Z X nL cells slots tgt lv rest μ) (kf : ¬ y < x → G Z X nL cells slots (pc + 3) lv rest μ) : G Z X nL cells slots pc lv (.int y :: .int x :: rest) μ := fun H locs ls hW hS h => lv_icmp_gt C.exec C.code hd ht (fun c => kt c H locs ls hW hS h) (fun c => kf c H locs ls hW hS h)
theorem g_if_le (C : Cx l Z ex X cc own nL ret) {x : Int32} {off : Int} {tgt : Nat} (hd : decode cc pc = .ok (.ifCond .le off, 3)) (ht : (pc : Int) + off = (tgt : Int)) (kt : x ≤ 0 → G Z X nL cells slots tgt lv rest μ) (kf : ¬ x ≤ 0 → G Z X nL cells slots (pc + 3) lv rest μ) : G Z X nL cells slots pc lv (.int x :: rest) μ := fun H locs ls hW hS h => lv_if_le C.exec C.code hd ht (fun c => kt c H locs ls hW hS h) (fun c => kf c H locs ls hW hS h)
theorem g_icmp_le (C : Cx l Z ex X cc own nL ret) {x y : Int32} {off : Int} {tgt : Nat} (hd : decode cc pc = .ok (.if_icmp .le off, 3)) (ht : (pc : Int) + off = (tgt : Int)) (kt : x ≤ y → G Z X nL cells slots tgt lv rest μ) (kf : ¬ x ≤ y → G Z X nL cells slots (pc + 3) lv rest μ) : G Z X nL cells slots pc lv (.int y :: .int x :: rest) μ := fun H locs ls hW hS h => lv_icmp_le C.exec C.code hd ht (fun c => kt c H locs ls hW hS h) (fun c => kf c H locs ls hW hS h)
theorem g_goto (C : Cx l Z ex X cc own nL ret) {off : Int} {tgt : Nat} (hd : decode cc pc = .ok (.goto off, 3)) (ht : (pc : Int) + off = (tgt : Int)) (k : G Z X nL cells slots tgt lv rest μ) : G Z X nL cells slots pc lv rest μ := fun H locs ls hW hS h => lv_goto C.exec C.code hd ht (k H locs ls hW hS h)
theorem g_tout (C : Cx l Z ex X cc own nL ret) {dflt lo hi : Int} {offs : Array Int} {len : Nat} {x : Int32} {tgt : Nat} (hd : decode cc pc = .ok (.tableswitch dflt lo hi offs, len)) (h9 : x.toInt < lo ∨ hi < x.toInt) (ht : (pc : Int) + dflt = (tgt : Int)) (k : G Z X nL cells slots tgt lv rest μ) : G Z X nL cells slots pc lv (.int x :: rest) μ := fun H locs ls hW hS h => lv_tableOut C.exec C.code hd h9 ht (k H locs ls hW hS h)
theorem g_tin (C : Cx l Z ex X cc own nL ret) {dflt lo hi : Int} {offs : Array Int} {len : Nat} {x : Int32} {off : Int} {tgt : Nat} (hd : decode cc pc = .ok (.tableswitch dflt lo hi offs, len)) (h1 : ¬ x.toInt < lo) (h2 : ¬ hi < x.toInt) (ho : offs[(x.toInt - lo).toNat]? = some off) (ht : (pc : Int) + off = (tgt : Int)) (k : G Z X nL cells slots tgt lv rest μ) : G Z X nL cells slots pc lv (.int x :: rest) μ := fun H locs ls hW hS h => lv_tableIn C.exec C.code hd h1 h2 ho ht (k H locs ls hW hS h)
theorem g_ldc (C : Cx l Z ex X cc own nL ret) {index : Nat} {v : Int32} (hc : (Jvm.Cond.constant own index v).before (xa X) (xs X) = true) (hd : decode cc pc = .ok (.ldc index, 2)) (k : G Z X nL cells slots (pc + 2) lv (.int v :: rest) μ) : G Z X nL cells slots pc lv rest μ := fun H locs ls hW hS h => lv_ldc C.exec C.code C.ow hc hd (k H locs ls hW hS h)
theorem g_ldcw (C : Cx l Z ex X cc own nL ret) {index : Nat} {v : Int32} (hc : (Jvm.Cond.constant own index v).before (xa X) (xs X) = true) (hd : decode cc pc = .ok (.ldc_w index, 3)) (k : G Z X nL cells slots (pc + 3) lv (.int v :: rest) μ) : G Z X nL cells slots pc lv rest μ := fun H locs ls hW hS h => lv_ldcw C.exec C.code C.ow hc hd (k H locs ls hW hS h)
theorem g_ldc2 (C : Cx l Z ex X cc own nL ret) {index : Nat} {v : Int64} (hc : (Jvm.Cond.constantLong own index v).before (xa X) (xs X) = true) (hd : decode cc pc = .ok (.ldc2_w index, 3)) (k : G Z X nL cells slots (pc + 3) lv (.long v :: rest) μ) : G Z X nL cells slots pc lv rest μ := fun H locs ls hW hS h => lv_ldc2 C.exec C.code C.ow hc hd (k H locs ls hW hS h)
theorem g_getf (C : Cx l Z ex X cc own nL ret) {CN : String} {T : u_T} {N c index b : Nat} {v : Value} (hin : ∀ w ∈ u_ws CN T N, w ∈ TB) (hc : vwCl[c]? = some (CN, T, N)) (hc7 : c < 7) (hb : (zk Z b).1 = c) (j : Nat) (hj : j < N) (hlink : (Cond.fieldLink own index (T j).1 (T j).2.1 (T j).2.2.1).before (xa X) (xs X) = true) (hv : (flds Z c b μ)[j]? = some v) (hd : decode cc pc = .ok (.getfield index, 3))
    (k : G Z X nL cells slots (pc + 3) lv (v :: rest) μ) : G Z X nL cells slots pc lv (.ref (za Z b) :: rest) μ := fun H locs ls hW hS h =>
  va_get C.exec C.code C.ts hin C.ow C.K hW.1 b (wl_get (zk_lt C.ok hb (by omega)) |>.trans (by rw [ce_obj hb hc7])) hc j hj hlink (fun _ q => q) hv hd (k H locs ls hW hS h)
theorem g_getfN (C : Cx l Z ex X cc own nL ret) {CN host : String} {T : u_T} {N c index b : Nat} {v : Value} (hin : ∀ w ∈ u_ws CN T N, w ∈ TB) (hc : vwCl[c]? = some (CN, T, N)) (hc7 : c < 7) (hb : (zk Z b).1 = c) (j : Nat) (hj : j < N) (hlink : (Cond.fieldLinkNest own index (T j).1 (T j).2.1 (T j).2.2.1 host).before (xa X) (xs X) = true) (hv : (flds Z c b μ)[j]? = some v) (hd : decode cc pc = .ok (.getfield index, 3))
    (k : G Z X nL cells slots (pc + 3) lv (v :: rest) μ) : G Z X nL cells slots pc lv (.ref (za Z b) :: rest) μ := fun H locs ls hW hS h =>
  va_getN C.exec C.code C.ts hin C.ow C.K hW.1 b (wl_get (zk_lt C.ok hb (by omega)) |>.trans (by rw [ce_obj hb hc7])) hc j hj hlink (fun _ q => q) hv hd (k H locs ls hW hS h)
theorem g_putI (C : Cx l Z ex X cc own nL ret) {CN : String} {T : u_T} {ty : Nat → FieldType} {N c index b : Nat} {v : Int32} (hin : ∀ w ∈ u_ws CN T N, w ∈ TB) (hty : ∀ k, k < N → parseFieldDescriptor (T k).2.2.1 = some (ty k)) (hnm : ∀ a, a < N → ∀ b, b < N → a ≠ b → (T a).2.1 ≠ (T b).2.1) (hc : vwCl[c]? = some (CN, T, N)) (hc7 : c < 7) (hN : kN c = N) (hb : (zk Z b).1 = c) (j : Nat) (hj : j < N) (hlink : (Cond.fieldLink own index (T j).1 (T j).2.1 (T j).2.2.1).before (xa X) (xs X) = true) (hfin : (T j).2.2.2 = false) (hn : narrow (ty j) (.int v) = .int v) (hfit : fits (ty j) (.int v) = true)
    (hf : flds Z c b (sI μ b j v) = (flds Z c b μ).set j (.int v)) (he : μ' = sI μ b j v) (hd : decode cc pc = .ok (.putfield index, 3))
    (k : G Z X nL cells slots (pc + 3) lv rest μ') : G Z X nL cells slots pc lv (.int v :: .ref (za Z b) :: rest) μ := by
  subst he
  intro H locs ls hW hS h
  have hlt := zk_lt C.ok hb (by omega)
  refine va_put C.exec C.code C.ts hin ty hty hnm C.ow C.K hW.1 (wl_D C.ok μ) hS b (wl_get hlt |>.trans (by rw [ce_obj hb hc7])) hc j hj hlink (fun _ q => q) hfin (hty j hj) hn hfit (by rw [fl_len c hc7, hN]; exact hj) hd (fun H1 locs1 hP1 hD1 hS1 => ?_)
  rw [wl_set (μ' := sI μ b j v) hlt (by rw [ce_obj hb hc7, hf]) (fun a ha => ce_sI ha)] at hP1
  exact k H1 locs1 ls ⟨hP1, ST.kept hW.2 (fun a ha hna => (hS1.2.1 a (by unfold AA at hna; have := C.b; omega) hna).trans (hS.2.1 a (by unfold AA at hna; have := C.b; omega) hna).symm)⟩ hS1 h
theorem g_putIN (C : Cx l Z ex X cc own nL ret) {CN host : String} {T : u_T} {ty : Nat → FieldType} {N c index b : Nat} {v : Int32} (hin : ∀ w ∈ u_ws CN T N, w ∈ TB) (hty : ∀ k, k < N → parseFieldDescriptor (T k).2.2.1 = some (ty k)) (hnm : ∀ a, a < N → ∀ b, b < N → a ≠ b → (T a).2.1 ≠ (T b).2.1) (hc : vwCl[c]? = some (CN, T, N)) (hc7 : c < 7) (hN : kN c = N) (hb : (zk Z b).1 = c) (j : Nat) (hj : j < N) (hlink : (Cond.fieldLinkNest own index (T j).1 (T j).2.1 (T j).2.2.1 host).before (xa X) (xs X) = true) (hfin : (T j).2.2.2 = false) (hn : narrow (ty j) (.int v) = .int v) (hfit : fits (ty j) (.int v) = true)
    (hf : flds Z c b (sI μ b j v) = (flds Z c b μ).set j (.int v)) (he : μ' = sI μ b j v) (hd : decode cc pc = .ok (.putfield index, 3))
    (k : G Z X nL cells slots (pc + 3) lv rest μ') : G Z X nL cells slots pc lv (.int v :: .ref (za Z b) :: rest) μ := by
  subst he
  intro H locs ls hW hS h
  have hlt := zk_lt C.ok hb (by omega)
  refine va_putN C.exec C.code C.ts hin ty hty hnm C.ow C.K hW.1 (wl_D C.ok μ) hS b (wl_get hlt |>.trans (by rw [ce_obj hb hc7])) hc j hj hlink (fun _ q => q) hfin (hty j hj) hn hfit (by rw [fl_len c hc7, hN]; exact hj) hd (fun H1 locs1 hP1 hD1 hS1 => ?_)
  rw [wl_set (μ' := sI μ b j v) hlt (by rw [ce_obj hb hc7, hf]) (fun a ha => ce_sI ha)] at hP1
  exact k H1 locs1 ls ⟨hP1, ST.kept hW.2 (fun a ha hna => (hS1.2.1 a (by unfold AA at hna; have := C.b; omega) hna).trans (hS.2.1 a (by unfold AA at hna; have := C.b; omega) hna).symm)⟩ hS1 h
theorem g_putR (C : Cx l Z ex X cc own nL ret) {CN : String} {T : u_T} {ty : Nat → FieldType} {N c index b r : Nat} (hin : ∀ w ∈ u_ws CN T N, w ∈ TB) (hty : ∀ k, k < N → parseFieldDescriptor (T k).2.2.1 = some (ty k)) (hnm : ∀ a, a < N → ∀ b, b < N → a ≠ b → (T a).2.1 ≠ (T b).2.1) (hc : vwCl[c]? = some (CN, T, N)) (hc7 : c < 7) (hN : kN c = N) (hb : (zk Z b).1 = c) (j : Nat) (hj : j < N) (hlink : (Cond.fieldLink own index (T j).1 (T j).2.1 (T j).2.2.1).before (xa X) (xs X) = true) (hfin : (T j).2.2.2 = false) (hn : narrow (ty j) (.ref (za Z r)) = .ref (za Z r)) (hfit : fits (ty j) (.ref (za Z r)) = true)
    (hf : flds Z c b (sR μ b j (some r)) = (flds Z c b μ).set j (.ref (za Z r))) (he : μ' = sR μ b j (some r)) (hd : decode cc pc = .ok (.putfield index, 3))
    (k : G Z X nL cells slots (pc + 3) lv rest μ') : G Z X nL cells slots pc lv (.ref (za Z r) :: .ref (za Z b) :: rest) μ := by
  subst he
  intro H locs ls hW hS h
  have hlt := zk_lt C.ok hb (by omega)
  refine va_put C.exec C.code C.ts hin ty hty hnm C.ow C.K hW.1 (wl_D C.ok μ) hS b (wl_get hlt |>.trans (by rw [ce_obj hb hc7])) hc j hj hlink (fun _ q => q) hfin (hty j hj) hn hfit (by rw [fl_len c hc7, hN]; exact hj) hd (fun H1 locs1 hP1 hD1 hS1 => ?_)
  rw [wl_set (μ' := sR μ b j (some r)) hlt (by rw [ce_obj hb hc7, hf]) (fun a ha => ce_sR ha)] at hP1
  exact k H1 locs1 ls ⟨hP1, ST.kept hW.2 (fun a ha hna => (hS1.2.1 a (by unfold AA at hna; have := C.b; omega) hna).trans (hS.2.1 a (by unfold AA at hna; have := C.b; omega) hna).symm)⟩ hS1 h
theorem g_putRF (C : Cx l Z ex X cc own nL ret) {CN : String} {T : u_T} {ty : Nat → FieldType} {N c index b r : Nat} (hin : ∀ w ∈ u_ws CN T N, w ∈ TB) (hty : ∀ k, k < N → parseFieldDescriptor (T k).2.2.1 = some (ty k)) (hnm : ∀ a, a < N → ∀ b, b < N → a ≠ b → (T a).2.1 ≠ (T b).2.1) (hc : vwCl[c]? = some (CN, T, N)) (hc7 : c < 7) (hN : kN c = N) (hb : (zk Z b).1 = c) (j : Nat) (hj : j < N) (hlink : (Cond.fieldLink own index (T j).1 (T j).2.1 (T j).2.2.1).before (xa X) (xs X) = true) (hfin : (T j).2.2.2 = true) (hini : (xh X).name = "<init>") (hdecl : (T j).1 = own) (hn : narrow (ty j) (.ref (za Z r)) = .ref (za Z r)) (hfit : fits (ty j) (.ref (za Z r)) = true)
    (hf : flds Z c b (sR μ b j (some r)) = (flds Z c b μ).set j (.ref (za Z r))) (he : μ' = sR μ b j (some r)) (hd : decode cc pc = .ok (.putfield index, 3))
    (k : G Z X nL cells slots (pc + 3) lv rest μ') : G Z X nL cells slots pc lv (.ref (za Z r) :: .ref (za Z b) :: rest) μ := by
  subst he
  intro H locs ls hW hS h
  have hlt := zk_lt C.ok hb (by omega)
  refine va_putF C.exec C.code C.ts hin ty hty hnm C.ow C.K hW.1 (wl_D C.ok μ) hS b (wl_get hlt |>.trans (by rw [ce_obj hb hc7])) hc j hj hlink (fun _ q => q) hfin hini hdecl (hty j hj) hn hfit (by rw [fl_len c hc7, hN]; exact hj) hd (fun H1 locs1 hP1 hD1 hS1 => ?_)
  rw [wl_set (μ' := sR μ b j (some r)) hlt (by rw [ce_obj hb hc7, hf]) (fun a ha => ce_sR ha)] at hP1
  exact k H1 locs1 ls ⟨hP1, ST.kept hW.2 (fun a ha hna => (hS1.2.1 a (by unfold AA at hna; have := C.b; omega) hna).trans (hS.2.1 a (by unfold AA at hna; have := C.b; omega) hna).symm)⟩ hS1 h
theorem g_iald (C : Cx l Z ex X cc own nL ret) {a : Nat} {i : Int32} (ha : (zk Z a).1 = 8) (hi : inb i (zk Z a).2) (hd : decode cc pc = .ok (.iaload, 1))
    (k : G Z X nL cells slots (pc + 1) lv (.int (μ.1 a (ix i)) :: rest) μ) : G Z X nL cells slots pc lv (.int i :: .ref (za Z a) :: rest) μ := fun H locs ls hW hS h =>
  va_iald C.exec C.code C.K hW.1 a 1 (wl_get (zk_lt C.ok ha (by omega)) |>.trans (by rw [ce_int ha])) rfl hi hd (k H locs ls hW hS h)
theorem g_cald (C : Cx l Z ex X cc own nL ret) {a : Nat} {i : Int32} (ha : (zk Z a).1 = 7) (hi : inb i (zk Z a).2) (hd : decode cc pc = .ok (.caload, 1))
    (k : G Z X nL cells slots (pc + 1) lv (.int (μ.1 a (ix i)) :: rest) μ) : G Z X nL cells slots pc lv (.int i :: .ref (za Z a) :: rest) μ := fun H locs ls hW hS h =>
  va_cald C.exec C.code C.K hW.1 a 0 (wl_get (zk_lt C.ok ha (by omega)) |>.trans (by rw [ce_chr ha])) rfl hi hd (k H locs ls hW hS h)
theorem g_lald (C : Cx l Z ex X cc own nL ret) {a : Nat} {i : Int32} (ha : (zk Z a).1 = 12) (hi : inb i (zk Z a).2) (hd : decode cc pc = .ok (.laload, 1))
    (k : G Z X nL cells slots (pc + 1) lv (.long (μ.2.2 a (ix i)) :: rest) μ) : G Z X nL cells slots pc lv (.int i :: .ref (za Z a) :: rest) μ := fun H locs ls hW hS h =>
  va_lald C.exec C.code C.K hW.1 a 5 (wl_get (zk_lt C.ok ha (by omega)) |>.trans (by rw [ce_lng ha])) rfl hi hd (k H locs ls hW hS h)
theorem g_aald (C : Cx l Z ex X cc own nL ret) {a c : Nat} {i : Int32} (CN : String) (t : Nat) (ht : (zT Z)[t]? = some (zc Z (c - 7), .object CN)) (h1 : ¬ c < 9) (h2 : c < 12) (ha : (zk Z a).1 = c) (hi : inb i (zk Z a).2) (hd : decode cc pc = .ok (.aaload, 1)) {r : Nat} (hr : μ.2.1 a (ix i) = some r)
    (k : G Z X nL cells slots (pc + 1) lv (.ref (za Z r) :: rest) μ) : G Z X nL cells slots pc lv (.int i :: .ref (za Z a) :: rest) μ := fun H locs ls hW hS h =>
  va_aldq C.exec C.code C.K hW.1 a t (wl_get (zk_lt C.ok ha (by omega)) |>.trans (by rw [ce_ref ha h1 h2])) ht hi hd (by
    show W _ _ _ _ _ _ _ _ _ _ _ _ _ _ _ (F0 _ _ _ (va_rf ((μ.2.1 a i.toNatClampNeg).map (za Z)) :: _))
    rw [hr]
    exact k H locs ls hW hS h)
theorem g_alen (C : Cx l Z ex X cc own nL ret) {a : Nat} {v : Int32} (ha : (zk Z a).1 = 8) (hv : Int32.ofNat (zk Z a).2 = v) (hd : decode cc pc = .ok (.arraylength, 1))
    (k : G Z X nL cells slots (pc + 1) lv (.int v :: rest) μ) : G Z X nL cells slots pc lv (.ref (za Z a) :: rest) μ := fun H locs ls hW hS h =>
  va_alen C.exec C.code C.K hW.1 a 1 (wl_get (zk_lt C.ok ha (by omega)) |>.trans (by rw [ce_int ha])) rfl hv hd (k H locs ls hW hS h)
theorem wd_put (C : Cx l Z ex X cc own nL ret) {H H1 : Heap} {locs locs1 : List Loc} (hW : Wd Z μ (xs X) H) (hS : va_S (AA Z) (xs X).heap H locs) (hS1 : va_S (AA Z) (xs X).heap H1 locs1) (hP1 : va_P (zD Z) vwCl (wl Z μ') H1) : Wd Z μ' (xs X) H1 :=
  ⟨hP1, ST.kept hW.2 (fun a ha hna => (hS1.2.1 a (by unfold AA at hna; have := C.b; omega) hna).trans (hS.2.1 a (by unfold AA at hna; have := C.b; omega) hna).symm)⟩
theorem g_iast (C : Cx l Z ex X cc own nL ret) {a : Nat} {i x : Int32} (ha : (zk Z a).1 = 8) (hi : inb i (zk Z a).2) (he : μ' = sI μ a (ix i) x) (hd : decode cc pc = .ok (.iastore, 1))
    (k : G Z X nL cells slots (pc + 1) lv rest μ') : G Z X nL cells slots pc lv (.int x :: .int i :: .ref (za Z a) :: rest) μ := by
  subst he
  intro H locs ls hW hS h
  have hlt := zk_lt C.ok ha (by omega)
  refine va_iast C.exec C.code C.K hW.1 (wl_D C.ok μ) hS a 1 (wl_get hlt |>.trans (by rw [ce_int ha])) rfl hi hd (fun H1 locs1 hP1 hD1 hS1 => ?_)
  rw [wl_set (μ' := sI μ a (ix i) x) hlt (by rw [ce_int ha]; show _ = Sum.inl (_, _, Sum.inl (up2 _ _ _ _ _)); rw [up2_self]; rfl) (fun b hb => ce_sI hb)] at hP1
  exact k H1 locs1 ls (wd_put C hW hS hS1 hP1) hS1 h
theorem g_cast (C : Cx l Z ex X cc own nL ret) {a : Nat} {i x : Int32} (ha : (zk Z a).1 = 7) (hi : inb i (zk Z a).2) (he : μ' = sI μ a (ix i) (vp_nar .char x)) (hd : decode cc pc = .ok (.castore, 1))
    (k : G Z X nL cells slots (pc + 1) lv rest μ') : G Z X nL cells slots pc lv (.int x :: .int i :: .ref (za Z a) :: rest) μ := by
  subst he
  intro H locs ls hW hS h
  have hlt := zk_lt C.ok ha (by omega)
  refine va_cast C.exec C.code C.K hW.1 (wl_D C.ok μ) hS a 0 (wl_get hlt |>.trans (by rw [ce_chr ha])) rfl hi hd (fun H1 locs1 hP1 hD1 hS1 => ?_)
  rw [wl_set (μ' := sI μ a (ix i) (vp_nar .char x)) hlt (by rw [ce_chr ha]; show _ = Sum.inl (_, _, Sum.inl (up2 _ _ _ _ _)); rw [up2_self]; rfl) (fun b hb => ce_sI hb)] at hP1
  exact k H1 locs1 ls (wd_put C hW hS hS1 hP1) hS1 h
theorem g_last (C : Cx l Z ex X cc own nL ret) {a : Nat} {i : Int32} {x : Int64} (ha : (zk Z a).1 = 12) (hi : inb i (zk Z a).2) (he : μ' = sJ μ a (ix i) x) (hd : decode cc pc = .ok (.lastore, 1))
    (k : G Z X nL cells slots (pc + 1) lv rest μ') : G Z X nL cells slots pc lv (.long x :: .int i :: .ref (za Z a) :: rest) μ := by
  subst he
  intro H locs ls hW hS h
  have hlt := zk_lt C.ok ha (by omega)
  refine va_last C.exec C.code C.K hW.1 (wl_D C.ok μ) hS a 5 (wl_get hlt |>.trans (by rw [ce_lng ha])) rfl hi hd (fun H1 locs1 hP1 hD1 hS1 => ?_)
  rw [wl_set (μ' := sJ μ a (ix i) x) hlt (by rw [ce_lng ha]; show _ = Sum.inl (_, _, Sum.inr (Sum.inl (up2 _ _ _ _ _))); rw [up2_self]; rfl) (fun b hb => ce_sJ hb)] at hP1
  exact k H1 locs1 ls (wd_put C hW hS hS1 hP1) hS1 h
theorem g_aast (C : Cx l Z ex X cc own nL ret) {a c r c2 N2 : Nat} {i : Int32} {CN : String} {T2 : u_T} (t : Nat) (ht : (zT Z)[t]? = some (zc Z (c - 7), .object CN)) (h1 : ¬ c < 9) (h2 : c < 12) (ha : (zk Z a).1 = c) (hi : inb i (zk Z a).2) (hr : (zk Z r).1 = c2) (hc2 : c2 < 7) (hcl : vwCl[c2]? = some (CN, T2, N2)) (he : μ' = sR μ a (ix i) (some r)) (hd : decode cc pc = .ok (.aastore, 1))
    (k : G Z X nL cells slots (pc + 1) lv rest μ') : G Z X nL cells slots pc lv (.ref (za Z r) :: .int i :: .ref (za Z a) :: rest) μ := by
  subst he
  intro H locs ls hW hS h
  have hlt := zk_lt C.ok ha (by omega)
  refine va_astq (r := (CN, T2, N2)) C.exec C.code C.K hW.1 (wl_D C.ok μ) hS a t r c2 (wl_get hlt |>.trans (by rw [ce_ref ha h1 h2])) ht (wl_get (zk_lt C.ok hr (by omega)) |>.trans (by rw [ce_obj hr hc2])) hcl hi hd (fun H1 locs1 hP1 hD1 hS1 => ?_)
  have e9 : va_up (fun j => Option.map (za Z) (μ.2.1 a j)) i.toNatClampNeg (some (za Z r)) = fun j => Option.map (za Z) ((sR μ a (ix i) (some r)).2.1 a j) := by
    funext j
    by_cases hj : j = ix i
    · simp [va_up, sR, up2, hj]
    · simp [va_up, sR, up2, hj]
  rw [e9, wl_set (μ' := sR μ a (ix i) (some r)) hlt (by rw [ce_ref ha h1 h2]) (fun b hb => ce_sR hb)] at hP1
  exact k H1 locs1 ls (wd_put C hW hS hS1 hP1) hS1 h

/-- the ends -/
theorem g_iret (C : Cx l Z ex X cc own nL ret) {x : Int32} {ty : FieldType} (E : Ex Z X d mc ms (some (.int x)) Z μ) (hrt : ret = some ty) (hn : narrow ty (.int x) = .int x) (hc : cells ≤ mc) (hs : slots ≤ ms) (hd : decode cc pc = .ok (.ireturn, 1)) : G Z X nL cells slots pc lv [.int x] μ := fun H locs ls hW hS h => by
  rw [E.1]
  exact W.widen hc hs (W.zret (ty := ty) C.exec C.code (C.rt.trans hrt) hn (fun t ht hw => ⟨⟨rfl, by rw [ht]; exact ⟨hW.1, ST.moved hw.alike hW.2⟩⟩, by unfold va_F; rw [ht]; exact ⟨hS.1, hS.2.1⟩⟩) hS.2.2 hd C.locks)
theorem g_lret (C : Cx l Z ex X cc own nL (some .long)) {x : Int64} (E : Ex Z X d mc ms (some (.long x)) Z μ) (hc : cells ≤ mc) (hs : slots ≤ ms) (hd : decode cc pc = .ok (.lreturn, 1)) : G Z X nL cells slots pc lv [.long x] μ := fun H locs ls hW hS h => by
  rw [E.1]
  exact W.widen hc hs (W.lret C.exec C.code C.rt (fun t ht hw => ⟨⟨rfl, by rw [ht]; exact ⟨hW.1, ST.moved hw.alike hW.2⟩⟩, by unfold va_F; rw [ht]; exact ⟨hS.1, hS.2.1⟩⟩) hS.2.2 hd C.locks)
theorem g_vret (C : Cx l Z ex X cc own nL none) (E : Ex Z X d mc ms none Z μ) (hc : cells ≤ mc) (hs : slots ≤ ms) (hd : decode cc pc = .ok (.return_, 1)) : G Z X nL cells slots pc lv [] μ := fun H locs ls hW hS h => by
  rw [E.1]
  exact W.widen hc hs (W.vret C.exec C.code C.rt (fun t ht hw => ⟨⟨rfl, by rw [ht]; exact ⟨hW.1, ST.moved hw.alike hW.2⟩⟩, by unfold va_F; rw [ht]; exact ⟨hS.1, hS.2.1⟩⟩) hS.2.2 hd C.locks)
theorem g_aret (C : Cx l Z ex X cc own nL ret) {v : Value} {rt : FieldType} (E : Ex Z X d mc ms (some v) Z μ) (hrt : ret = some rt) (ho : ∃ n, rt = .object n) (hv : v = .null ∨ ∃ a, v = .ref a) (hc : cells ≤ mc) (hs : slots ≤ ms) (hd : decode cc pc = .ok (.areturn, 1)) : G Z X nL cells slots pc lv [v] μ := fun H locs ls hW hS h => by
  rw [E.1]
  exact W.widen hc hs (W.aret C.exec C.code (C.rt.trans hrt) (Or.inl ho) hv (fun t ht hw => ⟨⟨rfl, by rw [ht]; exact ⟨hW.1, ST.moved hw.alike hW.2⟩⟩, by unfold va_F; rw [ht]; exact ⟨hS.1, hS.2.1⟩⟩) hS.2.2 hd C.locks)
/-- a call behind which the memory is μ' -/
theorem ga_call (C : Cx l Z ex X cc own nL ret) {H : Heap} {locs : List Loc} {ls : Array Slot} {st0 : List Value} {a : Array Value} {mc1 ms1 : Nat} (hW : Wd Z μ (xs X) H) (hS : va_S (AA Z) (xs X).heap H locs) (hl : lv_has ls nL lv)
    (hr : va_Run (xp X) (xl X) (xe X) (xR X) (xs X) (xm X) (xa X) (xb X) (xh X) (xc X) H locs cells slots mc1 ms1 (F0 (xm X) pc ls st0) rest (Qc0 Z o μ' a) (AA Z)) (k : G Z X nL (cells + mc1) (slots + ms1) (pc + 3) lv (o.toList ++ rest) μ') :
    W (xp X) (xl X) (xe X) (xR X) (xs X) (xm X) (xa X) (xb X) (xh X) (xc X) H locs cells slots (xQ X) (F0 (xm X) pc ls st0) := by
  intro T hT X1
  obtain ⟨v, st₀, t, T', L, h0, X', hL, e1, e2, ⟨⟨hv, hb⟩, hz, hk⟩, st⟩ := hr T hT X1
  cases hv
  rw [h0] at hz hk
  have hS1 : va_S (AA Z) (xs X).heap T'.heap (locs ++ L) := ⟨Nat.le_trans hS.1 (by rw [e1]; exact hz), fun q h1 h2 => by rw [e1, hk q (Nat.lt_of_lt_of_le h1 hS.1) h2]; exact hS.2.1 q h1 h2, fun q hq => by
      rcases List.mem_append.mp hq with h | h
      · exact hS.2.2 q h
      · exact hL q h⟩
  have hW1 : Wd Z μ' (xs X) T'.heap := by
    rw [e1]
    exact ⟨hb.1, ST.moved (Vm.Alike.symm (by rw [← e2]; exact X'.warmed.alike)) hb.2⟩
  obtain ⟨t2, a1, b1⟩ := k T'.heap (locs ++ L) ls hW1 hS1 hl T' rfl X'
  exact ⟨t2, st t2 a1, b1⟩
theorem pc0_at (C : Cx l Z ex X cc own nL ret) {H : Heap} {av : List Value} {locs : List Loc} (hW : Wd Z μ (xs X) H) (hS : va_S (AA Z) (xs X).heap H locs) : ∀ U : State, U.heap = H → (xs X).WarmedH U.vm → va_Pc av (Pc0 Z false μ) av.toArray U := fun U hU hw =>
  ⟨rfl, by rw [hU]; exact ⟨hW.1, ST.moved hw.alike hW.2⟩, ⟨va_K.moved hw.alike C.K, C.nw.warm hw⟩, C.ok, by rw [hU]; exact Nat.le_trans C.b hS.1, fun q => by cases q⟩
theorem g_callV (C : Cx l Z ex X cc own nL ret) (E : xR X = rmm d mc ms) {y : MethodName} {bytes : ByteArray} {maxL N d1 mc1 ms1 index b ci : Nat} {rt : Option FieldType} {CN : String} {T : u_T} {As st0 : List Value} (n : Nat) (hM : CtM l Z false y bytes maxL rt d1 mc1 ms1 (.ref (za Z b) :: As) μ o Z μ') (m1 : Cond.methodLink own index y ∈ TB) (mm : Cond.instanceMethod y ∈ TB ∧ Cond.selects CN y y ∈ TB ∧ Cond.initialized CN ∈ TB ∧ Cond.code y bytes maxL rt ∈ TB)
    (hd1 : y.cls = CN ∧ y.cls ≠ "java/lang/invoke/MethodHandle" ∧ y.cls ≠ "java/lang/invoke/VarHandle" ∧ (parseMethodDescriptor y.desc).map (fun d => d.parameters.length) = some n) (hn : As.length = n) (hR : d1 + 1 ≤ d ∧ maxL + 19 + 37 * d1 ≤ 37 * d) (hb : (zk Z b).1 = ci) (hci : ci < 7) (hcl : vwCl[ci]? = some (CN, T, N)) (hst : st0 = As.reverse ++ .ref (za Z b) :: rest)
    (hro : (rest.map fun v => v.category).sum ≤ 8) (hcs : cells + mc1 ≤ mc ∧ slots + ms1 ≤ ms) (hdg : decode cc pc = .ok (.invokevirtual index, 3)) (k : G Z X nL (cells + mc1) (slots + ms1) (pc + 3) lv (o.toList ++ rest) μ') : G Z X nL cells slots pc lv st0 μ := by
  subst hst
  intro H locs ls hW hS h
  have hM' : Met (xl X) y (Cond.code y bytes maxL rt :: TB) (rmm d1 mc1 ms1) (va_Pc (.ref (za Z b) :: As) (Pc0 Z false μ)) (Qc0 Z o μ') mc1 ms1 (AA Z) := by rw [C.ln]; exact hM
  refine ga_call (μ := μ) C hW hS h (va_runV (C := CN) (b := za Z b) (As := As) (rest := rest) C.fix hM' (cwV n C.ts (goodV m1 mm.1 mm.2.1 mm.2.2.1 mm.2.2.2) rfl rfl rfl hd1 (by rw [E]; exact ⟨hR.1, by show 8 + (maxL + 11) + 37 * d1 ≤ 37 * d; omega⟩)) ⟨pc0_blind, va_recv (q := (CN, T, N)) C.K hW.1 hcl (wl_get (zk_lt C.ok hb (by omega)) |>.trans (by rw [ce_obj hb hci])), pc0_at C hW hS⟩ rfl hn h.1 rfl (lv_room hro) hdg (by rw [E]; exact hcs)) k
theorem g_callS (C : Cx l Z ex X cc own nL ret) (E : xR X = rmm d mc ms) {y : MethodName} {bytes : ByteArray} {maxL d1 mc1 ms1 index : Nat} {rt : Option FieldType} {As st0 : List Value} (n : Nat) (hM : CtM l Z false y bytes maxL rt d1 mc1 ms1 As μ o Z μ') (m1 : Cond.methodLink own index y ∈ TB) (mm : Cond.static y ∈ TB ∧ Cond.initialized y.cls ∈ TB ∧ Cond.code y bytes maxL rt ∈ TB)
    (hd1 : y.cls ≠ "java/lang/invoke/MethodHandle" ∧ y.cls ≠ "java/lang/invoke/VarHandle" ∧ (parseMethodDescriptor y.desc).map (fun d => d.parameters.length) = some n) (hn : As.length = n) (hR : d1 + 1 ≤ d ∧ maxL + 19 + 37 * d1 ≤ 37 * d) (hst : st0 = As.reverse ++ rest)
    (hro : (rest.map fun v => v.category).sum ≤ 8) (hcs : cells + mc1 ≤ mc ∧ slots + ms1 ≤ ms) (hdg : decode cc pc = .ok (.invokestatic index, 3)) (k : G Z X nL (cells + mc1) (slots + ms1) (pc + 3) lv (o.toList ++ rest) μ') : G Z X nL cells slots pc lv st0 μ := by
  subst hst
  intro H locs ls hW hS h
  have hM' : Met (xl X) y (Cond.code y bytes maxL rt :: TB) (rmm d1 mc1 ms1) (va_Pc As (Pc0 Z false μ)) (Qc0 Z o μ') mc1 ms1 (AA Z) := by rw [C.ln]; exact hM
  refine ga_call (μ := μ) C hW hS h (va_runS (As := As) (rest := rest) C.fix hM' (va_cwS n C.ts (goodS m1 mm.1 mm.2.1 mm.2.2) rfl rfl rfl hd1 (by rw [E]; exact ⟨hR.1, by show 8 + (maxL + 11) + 37 * d1 ≤ 37 * d; omega⟩)) ⟨pc0_blind, pc0_at C hW hS⟩ rfl hn h.1 rfl (lv_room hro) hdg (by rw [E]; exact hcs)) k
theorem g_nmi {x y : Int32} (e : x = y) (k : G Z X nL cells slots pc lv (.int x :: rest) μ) : G Z X nL cells slots pc lv (.int y :: rest) μ := e ▸ k
theorem g_nml {x y : Int64} (e : x = y) (k : G Z X nL cells slots pc lv (.long x :: rest) μ) : G Z X nL cells slots pc lv (.long y :: rest) μ := e ▸ k
theorem g_copy (C : Cx l Z ex X cc own nL ret) (E : xR X = rmm d mc ms) {a0 a index : Nat} {sp dp n : Int32} (h0 : (zk Z a0).1 = 8) (h1 : (zk Z a).1 = 8) (hg : okc sp dp n (zk Z a0).2 (zk Z a).2) (hfr : 1 ≤ d) (hlo : (rest.map fun v => v.category).sum + (nativeFrameWords "java/lang/System" "arraycopy" 5 + 11) ≤ 37 * d)
    (w1 : (Cond.methodLink own index arraycopyName).before (xa X) (xs X) = true) (w2 : (Cond.native arraycopyName).before (xa X) (xs X) = true) (w3 : (Cond.static arraycopyName).before (xa X) (xs X) = true) (w4 : (Cond.initialized "java/lang/System").before (xa X) (xs X) = true)
    (he : μ' = sIr μ a (va_cpy (μ.1 a0) (μ.1 a) (ix sp) (ix dp) (ix n))) (hd : decode cc pc = .ok (.invokestatic index, 3)) (k : G Z X nL cells slots (pc + 3) lv rest μ') : G Z X nL cells slots pc lv (.int n :: .int dp :: .ref (za Z a) :: .int sp :: .ref (za Z a0) :: rest) μ := by
  subst he
  intro H locs ls hW hS h
  have hlt0 := zk_lt C.ok h0 (by omega)
  have hlt := zk_lt C.ok h1 (by omega)
  refine va_copyi C.exec C.code (C.ml.trans h.1.symm) C.ow w1 w2 w3 w4 C.K hW.1 (wl_D C.ok μ) hS a0 a 1 1 (wl_get hlt0 |>.trans (by rw [ce_int h0])) (wl_get hlt |>.trans (by rw [ce_int h1])) rfl rfl rfl hg.1 hg.2.1 hg.2.2.1 hg.2.2.2.1 hg.2.2.2.2 (fun _ _ => rfl) (by rw [E]; exact hfr) (by rw [E]; exact hlo) hd (fun H1 locs1 hP1 hD1 hS1 => ?_)
  rw [wl_set (μ' := sIr μ a (va_cpy (μ.1 a0) (μ.1 a) (ix sp) (ix dp) (ix n))) hlt (by rw [ce_int h1]; show _ = Sum.inl (_, _, Sum.inl (upR _ _ _ _)); rw [upR_self]) (fun b hb => ce_sIr hb)] at hP1
  exact k H1 locs1 ls (wd_put C hW hS hS1 hP1) hS1 h
theorem g_mmin (C : Cx l Z ex X cc own nL ret) (E : xR X = rmm d mc ms) {index : Nat} {x y : Int32} (w1 : (Cond.methodLink own index Lib.Math.min.name).before (xa X) (xs X) = true) (w2 : (Cond.static Lib.Math.min.name).before (xa X) (xs X) = true) (w3 : (Cond.initialized "java/lang/Math").before (xa X) (xs X) = true) (w4 : (Cond.code Lib.Math.min.name Lib.Math.min.code 2 (some .int)).before (xa X) (xs X) = true)
    (hfr : 1 ≤ d) (hlo : (rest.map fun v => v.category).sum + 13 ≤ 37 * d) (hc : cells ≤ mc) (hs : slots ≤ ms) (hd : decode cc pc = .ok (.invokestatic index, 3)) (k : G Z X nL cells slots (pc + 3) lv (.int (if y < x then y else x) :: rest) μ) : G Z X nL cells slots pc lv (.int y :: .int x :: rest) μ := fun H locs ls hW hS h =>
  va_mmin C.exec C.code (C.ml.trans h.1.symm) C.ow w1 w2 w3 w4 (by rw [E]; exact hfr) (by rw [E]; exact hlo) (by rw [E]; exact hc) (by rw [E]; exact hs) hd (k H locs ls hW hS h)
theorem br0 (x : Int32) (h : x = 0 ∨ x = 1) : narrow .boolean (.int x) = .int x := by rcases h with rfl | rfl <;> rfl
def FU : Nat := 5000
theorem dk {cc : ByteArray} {L : List (Nat × Instr × Nat)} (h : ∀ q ∈ L, decode cc q.1 = .ok q.2) (i : Nat) {pc : Nat} {r : Instr × Nat} (e : L[i]? = some (pc, r)) : decode cc pc = .ok r := by
  have h1 := h (pc, r) (List.mem_of_getElem? e)
  exact h1
theorem sw_out {x : Int32} {lo hi : Int} (h : ∀ k : Int, lo ≤ k → k ≤ hi → ¬ x.toInt = k) : x.toInt < lo ∨ hi < x.toInt := by
  by_cases h1 : x.toInt < lo
  · exact Or.inl h1
  · by_cases h2 : hi < x.toInt
    · exact Or.inr h2
    · exact absurd rfl (h x.toInt (by omega) (by omega))
theorem gR_0_0 (C : Cx l Z ex X cc own nL ret) {index b : Nat} {r : Nat}  (hb : (zk Z b).1 = 0) (hlink : (Cond.fieldLink own index RX1 "bytes" "[C").before (xa X) (xs X) = true) (hr : μ.2.1 b 0 = some r) (hd : decode cc pc = .ok (.getfield index, 3)) (k : G Z X nL cells slots (pc + 3) lv (.ref (za Z r) :: rest) μ) : G Z X nL cells slots pc lv (.ref (za Z b) :: rest) μ := g_getf C inTX1 (c := 0) rfl (by decide) hb 0 (by decide) hlink (v := rv Z μ b 0) rfl hd (by show G Z X nL cells slots (pc + 3) lv (va_rf ((μ.2.1 b 0).map (za Z)) :: rest) μ; rw [hr]; exact k)
theorem gRN_0_0 (C : Cx l Z ex X cc own nL ret) {index b : Nat} {r : Nat}  (hb : (zk Z b).1 = 0) (hlink : (Cond.fieldLinkNest own index RX1 "bytes" "[C" "WornDots").before (xa X) (xs X) = true) (hr : μ.2.1 b 0 = some r) (hd : decode cc pc = .ok (.getfield index, 3)) (k : G Z X nL cells slots (pc + 3) lv (.ref (za Z r) :: rest) μ) : G Z X nL cells slots pc lv (.ref (za Z b) :: rest) μ := g_getfN C inTX1 (c := 0) rfl (by decide) hb 0 (by decide) hlink (v := rv Z μ b 0) rfl hd (by show G Z X nL cells slots (pc + 3) lv (va_rf ((μ.2.1 b 0).map (za Z)) :: rest) μ; rw [hr]; exact k)
theorem pF_0_0 (C : Cx l Z ex X cc own nL ret) {index b : Nat} {r : Nat}  (hb : (zk Z b).1 = 0) (hlink : (Cond.fieldLink own index RX1 "bytes" "[C").before (xa X) (xs X) = true) (hini : (xh X).name = "<init>") (hdecl : RX1 = own) (he : μ' = sR μ b 0 (some r)) (hd : decode cc pc = .ok (.putfield index, 3)) (k : G Z X nL cells slots (pc + 3) lv rest μ') : G Z X nL cells slots pc lv (.ref (za Z r) :: .ref (za Z b) :: rest) μ := g_putRF C inTX1 tyX1_ok nmX1 (c := 0) rfl (by decide) rfl hb 0 (by decide) hlink rfl hini hdecl rfl rfl fR_0_0 he hd k
theorem gI_0_1 (C : Cx l Z ex X cc own nL ret) {index b : Nat}  (hb : (zk Z b).1 = 0) (hlink : (Cond.fieldLink own index RX1 "length" "I").before (xa X) (xs X) = true) (hd : decode cc pc = .ok (.getfield index, 3)) (k : G Z X nL cells slots (pc + 3) lv (.int (μ.1 b 1) :: rest) μ) : G Z X nL cells slots pc lv (.ref (za Z b) :: rest) μ := g_getf C inTX1 (c := 0) rfl (by decide) hb 1 (by decide) hlink (v := iv μ b 1) rfl hd k
theorem gIN_0_1 (C : Cx l Z ex X cc own nL ret) {index b : Nat}  (hb : (zk Z b).1 = 0) (hlink : (Cond.fieldLinkNest own index RX1 "length" "I" "WornDots").before (xa X) (xs X) = true) (hd : decode cc pc = .ok (.getfield index, 3)) (k : G Z X nL cells slots (pc + 3) lv (.int (μ.1 b 1) :: rest) μ) : G Z X nL cells slots pc lv (.ref (za Z b) :: rest) μ := g_getfN C inTX1 (c := 0) rfl (by decide) hb 1 (by decide) hlink (v := iv μ b 1) rfl hd k
theorem pI_0_1 (C : Cx l Z ex X cc own nL ret) {index b : Nat} {v : Int32}  (hb : (zk Z b).1 = 0) (hlink : (Cond.fieldLink own index RX1 "length" "I").before (xa X) (xs X) = true) (he : μ' = sI μ b 1 v) (hd : decode cc pc = .ok (.putfield index, 3)) (k : G Z X nL cells slots (pc + 3) lv rest μ') : G Z X nL cells slots pc lv (.int v :: .ref (za Z b) :: rest) μ := g_putI C inTX1 tyX1_ok nmX1 (c := 0) rfl (by decide) rfl hb 1 (by decide) hlink rfl rfl rfl fI_0_1 he hd k
theorem pIN_0_1 (C : Cx l Z ex X cc own nL ret) {index b : Nat} {v : Int32}  (hb : (zk Z b).1 = 0) (hlink : (Cond.fieldLinkNest own index RX1 "length" "I" "WornDots").before (xa X) (xs X) = true) (he : μ' = sI μ b 1 v) (hd : decode cc pc = .ok (.putfield index, 3)) (k : G Z X nL cells slots (pc + 3) lv rest μ') : G Z X nL cells slots pc lv (.int v :: .ref (za Z b) :: rest) μ := g_putIN C inTX1 tyX1_ok nmX1 (c := 0) rfl (by decide) rfl hb 1 (by decide) hlink rfl rfl rfl fI_0_1 he hd k
theorem gI_0_2 (C : Cx l Z ex X cc own nL ret) {index b : Nat}  (hb : (zk Z b).1 = 0) (hlink : (Cond.fieldLink own index RX1 "place" "I").before (xa X) (xs X) = true) (hd : decode cc pc = .ok (.getfield index, 3)) (k : G Z X nL cells slots (pc + 3) lv (.int (μ.1 b 2) :: rest) μ) : G Z X nL cells slots pc lv (.ref (za Z b) :: rest) μ := g_getf C inTX1 (c := 0) rfl (by decide) hb 2 (by decide) hlink (v := iv μ b 2) rfl hd k
theorem gIN_0_2 (C : Cx l Z ex X cc own nL ret) {index b : Nat}  (hb : (zk Z b).1 = 0) (hlink : (Cond.fieldLinkNest own index RX1 "place" "I" "WornDots").before (xa X) (xs X) = true) (hd : decode cc pc = .ok (.getfield index, 3)) (k : G Z X nL cells slots (pc + 3) lv (.int (μ.1 b 2) :: rest) μ) : G Z X nL cells slots pc lv (.ref (za Z b) :: rest) μ := g_getfN C inTX1 (c := 0) rfl (by decide) hb 2 (by decide) hlink (v := iv μ b 2) rfl hd k
theorem pI_0_2 (C : Cx l Z ex X cc own nL ret) {index b : Nat} {v : Int32}  (hb : (zk Z b).1 = 0) (hlink : (Cond.fieldLink own index RX1 "place" "I").before (xa X) (xs X) = true) (he : μ' = sI μ b 2 v) (hd : decode cc pc = .ok (.putfield index, 3)) (k : G Z X nL cells slots (pc + 3) lv rest μ') : G Z X nL cells slots pc lv (.int v :: .ref (za Z b) :: rest) μ := g_putI C inTX1 tyX1_ok nmX1 (c := 0) rfl (by decide) rfl hb 2 (by decide) hlink rfl rfl rfl fI_0_2 he hd k
theorem pIN_0_2 (C : Cx l Z ex X cc own nL ret) {index b : Nat} {v : Int32}  (hb : (zk Z b).1 = 0) (hlink : (Cond.fieldLinkNest own index RX1 "place" "I" "WornDots").before (xa X) (xs X) = true) (he : μ' = sI μ b 2 v) (hd : decode cc pc = .ok (.putfield index, 3)) (k : G Z X nL cells slots (pc + 3) lv rest μ') : G Z X nL cells slots pc lv (.int v :: .ref (za Z b) :: rest) μ := g_putIN C inTX1 tyX1_ok nmX1 (c := 0) rfl (by decide) rfl hb 2 (by decide) hlink rfl rfl rfl fI_0_2 he hd k
theorem gI_0_3 (C : Cx l Z ex X cc own nL ret) {index b : Nat}  (hb : (zk Z b).1 = 0) (hlink : (Cond.fieldLink own index RX1 "fault" "I").before (xa X) (xs X) = true) (hd : decode cc pc = .ok (.getfield index, 3)) (k : G Z X nL cells slots (pc + 3) lv (.int (μ.1 b 3) :: rest) μ) : G Z X nL cells slots pc lv (.ref (za Z b) :: rest) μ := g_getf C inTX1 (c := 0) rfl (by decide) hb 3 (by decide) hlink (v := iv μ b 3) rfl hd k
theorem gIN_0_3 (C : Cx l Z ex X cc own nL ret) {index b : Nat}  (hb : (zk Z b).1 = 0) (hlink : (Cond.fieldLinkNest own index RX1 "fault" "I" "WornDots").before (xa X) (xs X) = true) (hd : decode cc pc = .ok (.getfield index, 3)) (k : G Z X nL cells slots (pc + 3) lv (.int (μ.1 b 3) :: rest) μ) : G Z X nL cells slots pc lv (.ref (za Z b) :: rest) μ := g_getfN C inTX1 (c := 0) rfl (by decide) hb 3 (by decide) hlink (v := iv μ b 3) rfl hd k
theorem pI_0_3 (C : Cx l Z ex X cc own nL ret) {index b : Nat} {v : Int32}  (hb : (zk Z b).1 = 0) (hlink : (Cond.fieldLink own index RX1 "fault" "I").before (xa X) (xs X) = true) (he : μ' = sI μ b 3 v) (hd : decode cc pc = .ok (.putfield index, 3)) (k : G Z X nL cells slots (pc + 3) lv rest μ') : G Z X nL cells slots pc lv (.int v :: .ref (za Z b) :: rest) μ := g_putI C inTX1 tyX1_ok nmX1 (c := 0) rfl (by decide) rfl hb 3 (by decide) hlink rfl rfl rfl fI_0_3 he hd k
theorem pIN_0_3 (C : Cx l Z ex X cc own nL ret) {index b : Nat} {v : Int32}  (hb : (zk Z b).1 = 0) (hlink : (Cond.fieldLinkNest own index RX1 "fault" "I" "WornDots").before (xa X) (xs X) = true) (he : μ' = sI μ b 3 v) (hd : decode cc pc = .ok (.putfield index, 3)) (k : G Z X nL cells slots (pc + 3) lv rest μ') : G Z X nL cells slots pc lv (.int v :: .ref (za Z b) :: rest) μ := g_putIN C inTX1 tyX1_ok nmX1 (c := 0) rfl (by decide) rfl hb 3 (by decide) hlink rfl rfl rfl fI_0_3 he hd k
theorem gR_0_4 (C : Cx l Z ex X cc own nL ret) {index b : Nat} {r : Nat}  (hb : (zk Z b).1 = 0) (hlink : (Cond.fieldLink own index RX1 "word" "LWornDots$Word;").before (xa X) (xs X) = true) (hr : μ.2.1 b 4 = some r) (hd : decode cc pc = .ok (.getfield index, 3)) (k : G Z X nL cells slots (pc + 3) lv (.ref (za Z r) :: rest) μ) : G Z X nL cells slots pc lv (.ref (za Z b) :: rest) μ := g_getf C inTX1 (c := 0) rfl (by decide) hb 4 (by decide) hlink (v := rv Z μ b 4) rfl hd (by show G Z X nL cells slots (pc + 3) lv (va_rf ((μ.2.1 b 4).map (za Z)) :: rest) μ; rw [hr]; exact k)
theorem gRN_0_4 (C : Cx l Z ex X cc own nL ret) {index b : Nat} {r : Nat}  (hb : (zk Z b).1 = 0) (hlink : (Cond.fieldLinkNest own index RX1 "word" "LWornDots$Word;" "WornDots").before (xa X) (xs X) = true) (hr : μ.2.1 b 4 = some r) (hd : decode cc pc = .ok (.getfield index, 3)) (k : G Z X nL cells slots (pc + 3) lv (.ref (za Z r) :: rest) μ) : G Z X nL cells slots pc lv (.ref (za Z b) :: rest) μ := g_getfN C inTX1 (c := 0) rfl (by decide) hb 4 (by decide) hlink (v := rv Z μ b 4) rfl hd (by show G Z X nL cells slots (pc + 3) lv (va_rf ((μ.2.1 b 4).map (za Z)) :: rest) μ; rw [hr]; exact k)
theorem pR_0_4 (C : Cx l Z ex X cc own nL ret) {index b : Nat} {r : Nat}  (hb : (zk Z b).1 = 0) (hlink : (Cond.fieldLink own index RX1 "word" "LWornDots$Word;").before (xa X) (xs X) = true) (he : μ' = sR μ b 4 (some r)) (hd : decode cc pc = .ok (.putfield index, 3)) (k : G Z X nL cells slots (pc + 3) lv rest μ') : G Z X nL cells slots pc lv (.ref (za Z r) :: .ref (za Z b) :: rest) μ := g_putR C inTX1 tyX1_ok nmX1 (c := 0) rfl (by decide) rfl hb 4 (by decide) hlink rfl rfl rfl fR_0_4 he hd k
theorem gR_0_5 (C : Cx l Z ex X cc own nL ret) {index b : Nat} {r : Nat}  (hb : (zk Z b).1 = 0) (hlink : (Cond.fieldLink own index RX1 "numbers" "[I").before (xa X) (xs X) = true) (hr : μ.2.1 b 5 = some r) (hd : decode cc pc = .ok (.getfield index, 3)) (k : G Z X nL cells slots (pc + 3) lv (.ref (za Z r) :: rest) μ) : G Z X nL cells slots pc lv (.ref (za Z b) :: rest) μ := g_getf C inTX1 (c := 0) rfl (by decide) hb 5 (by decide) hlink (v := rv Z μ b 5) rfl hd (by show G Z X nL cells slots (pc + 3) lv (va_rf ((μ.2.1 b 5).map (za Z)) :: rest) μ; rw [hr]; exact k)
theorem gRN_0_5 (C : Cx l Z ex X cc own nL ret) {index b : Nat} {r : Nat}  (hb : (zk Z b).1 = 0) (hlink : (Cond.fieldLinkNest own index RX1 "numbers" "[I" "WornDots").before (xa X) (xs X) = true) (hr : μ.2.1 b 5 = some r) (hd : decode cc pc = .ok (.getfield index, 3)) (k : G Z X nL cells slots (pc + 3) lv (.ref (za Z r) :: rest) μ) : G Z X nL cells slots pc lv (.ref (za Z b) :: rest) μ := g_getfN C inTX1 (c := 0) rfl (by decide) hb 5 (by decide) hlink (v := rv Z μ b 5) rfl hd (by show G Z X nL cells slots (pc + 3) lv (va_rf ((μ.2.1 b 5).map (za Z)) :: rest) μ; rw [hr]; exact k)
theorem pF_0_5 (C : Cx l Z ex X cc own nL ret) {index b : Nat} {r : Nat}  (hb : (zk Z b).1 = 0) (hlink : (Cond.fieldLink own index RX1 "numbers" "[I").before (xa X) (xs X) = true) (hini : (xh X).name = "<init>") (hdecl : RX1 = own) (he : μ' = sR μ b 5 (some r)) (hd : decode cc pc = .ok (.putfield index, 3)) (k : G Z X nL cells slots (pc + 3) lv rest μ') : G Z X nL cells slots pc lv (.ref (za Z r) :: .ref (za Z b) :: rest) μ := g_putRF C inTX1 tyX1_ok nmX1 (c := 0) rfl (by decide) rfl hb 5 (by decide) hlink rfl hini hdecl rfl rfl fR_0_5 he hd k
theorem gI_1_0 (C : Cx l Z ex X cc own nL ret) {index b : Nat}  (hb : (zk Z b).1 = 1) (hlink : (Cond.fieldLink own index RX2 "first" "I").before (xa X) (xs X) = true) (hd : decode cc pc = .ok (.getfield index, 3)) (k : G Z X nL cells slots (pc + 3) lv (.int (μ.1 b 0) :: rest) μ) : G Z X nL cells slots pc lv (.ref (za Z b) :: rest) μ := g_getf C inTX2 (c := 1) rfl (by decide) hb 0 (by decide) hlink (v := iv μ b 0) rfl hd k
theorem gIN_1_0 (C : Cx l Z ex X cc own nL ret) {index b : Nat}  (hb : (zk Z b).1 = 1) (hlink : (Cond.fieldLinkNest own index RX2 "first" "I" "WornDots").before (xa X) (xs X) = true) (hd : decode cc pc = .ok (.getfield index, 3)) (k : G Z X nL cells slots (pc + 3) lv (.int (μ.1 b 0) :: rest) μ) : G Z X nL cells slots pc lv (.ref (za Z b) :: rest) μ := g_getfN C inTX2 (c := 1) rfl (by decide) hb 0 (by decide) hlink (v := iv μ b 0) rfl hd k
theorem pI_1_0 (C : Cx l Z ex X cc own nL ret) {index b : Nat} {v : Int32}  (hb : (zk Z b).1 = 1) (hlink : (Cond.fieldLink own index RX2 "first" "I").before (xa X) (xs X) = true) (he : μ' = sI μ b 0 v) (hd : decode cc pc = .ok (.putfield index, 3)) (k : G Z X nL cells slots (pc + 3) lv rest μ') : G Z X nL cells slots pc lv (.int v :: .ref (za Z b) :: rest) μ := g_putI C inTX2 tyX2_ok nmX2 (c := 1) rfl (by decide) rfl hb 0 (by decide) hlink rfl rfl rfl fI_1_0 he hd k
theorem pIN_1_0 (C : Cx l Z ex X cc own nL ret) {index b : Nat} {v : Int32}  (hb : (zk Z b).1 = 1) (hlink : (Cond.fieldLinkNest own index RX2 "first" "I" "WornDots").before (xa X) (xs X) = true) (he : μ' = sI μ b 0 v) (hd : decode cc pc = .ok (.putfield index, 3)) (k : G Z X nL cells slots (pc + 3) lv rest μ') : G Z X nL cells slots pc lv (.int v :: .ref (za Z b) :: rest) μ := g_putIN C inTX2 tyX2_ok nmX2 (c := 1) rfl (by decide) rfl hb 0 (by decide) hlink rfl rfl rfl fI_1_0 he hd k
theorem gI_1_1 (C : Cx l Z ex X cc own nL ret) {index b : Nat}  (hb : (zk Z b).1 = 1) (hlink : (Cond.fieldLink own index RX2 "last" "I").before (xa X) (xs X) = true) (hd : decode cc pc = .ok (.getfield index, 3)) (k : G Z X nL cells slots (pc + 3) lv (.int (μ.1 b 1) :: rest) μ) : G Z X nL cells slots pc lv (.ref (za Z b) :: rest) μ := g_getf C inTX2 (c := 1) rfl (by decide) hb 1 (by decide) hlink (v := iv μ b 1) rfl hd k
theorem gIN_1_1 (C : Cx l Z ex X cc own nL ret) {index b : Nat}  (hb : (zk Z b).1 = 1) (hlink : (Cond.fieldLinkNest own index RX2 "last" "I" "WornDots").before (xa X) (xs X) = true) (hd : decode cc pc = .ok (.getfield index, 3)) (k : G Z X nL cells slots (pc + 3) lv (.int (μ.1 b 1) :: rest) μ) : G Z X nL cells slots pc lv (.ref (za Z b) :: rest) μ := g_getfN C inTX2 (c := 1) rfl (by decide) hb 1 (by decide) hlink (v := iv μ b 1) rfl hd k
theorem pI_1_1 (C : Cx l Z ex X cc own nL ret) {index b : Nat} {v : Int32}  (hb : (zk Z b).1 = 1) (hlink : (Cond.fieldLink own index RX2 "last" "I").before (xa X) (xs X) = true) (he : μ' = sI μ b 1 v) (hd : decode cc pc = .ok (.putfield index, 3)) (k : G Z X nL cells slots (pc + 3) lv rest μ') : G Z X nL cells slots pc lv (.int v :: .ref (za Z b) :: rest) μ := g_putI C inTX2 tyX2_ok nmX2 (c := 1) rfl (by decide) rfl hb 1 (by decide) hlink rfl rfl rfl fI_1_1 he hd k
theorem pIN_1_1 (C : Cx l Z ex X cc own nL ret) {index b : Nat} {v : Int32}  (hb : (zk Z b).1 = 1) (hlink : (Cond.fieldLinkNest own index RX2 "last" "I" "WornDots").before (xa X) (xs X) = true) (he : μ' = sI μ b 1 v) (hd : decode cc pc = .ok (.putfield index, 3)) (k : G Z X nL cells slots (pc + 3) lv rest μ') : G Z X nL cells slots pc lv (.int v :: .ref (za Z b) :: rest) μ := g_putIN C inTX2 tyX2_ok nmX2 (c := 1) rfl (by decide) rfl hb 1 (by decide) hlink rfl rfl rfl fI_1_1 he hd k
theorem gI_1_2 (C : Cx l Z ex X cc own nL ret) {index b : Nat}  (hb : (zk Z b).1 = 1) (hlink : (Cond.fieldLink own index RX2 "paid" "I").before (xa X) (xs X) = true) (hd : decode cc pc = .ok (.getfield index, 3)) (k : G Z X nL cells slots (pc + 3) lv (.int (μ.1 b 2) :: rest) μ) : G Z X nL cells slots pc lv (.ref (za Z b) :: rest) μ := g_getf C inTX2 (c := 1) rfl (by decide) hb 2 (by decide) hlink (v := iv μ b 2) rfl hd k
theorem gIN_1_2 (C : Cx l Z ex X cc own nL ret) {index b : Nat}  (hb : (zk Z b).1 = 1) (hlink : (Cond.fieldLinkNest own index RX2 "paid" "I" "WornDots").before (xa X) (xs X) = true) (hd : decode cc pc = .ok (.getfield index, 3)) (k : G Z X nL cells slots (pc + 3) lv (.int (μ.1 b 2) :: rest) μ) : G Z X nL cells slots pc lv (.ref (za Z b) :: rest) μ := g_getfN C inTX2 (c := 1) rfl (by decide) hb 2 (by decide) hlink (v := iv μ b 2) rfl hd k
theorem pI_1_2 (C : Cx l Z ex X cc own nL ret) {index b : Nat} {v : Int32}  (hb : (zk Z b).1 = 1) (hlink : (Cond.fieldLink own index RX2 "paid" "I").before (xa X) (xs X) = true) (he : μ' = sI μ b 2 v) (hd : decode cc pc = .ok (.putfield index, 3)) (k : G Z X nL cells slots (pc + 3) lv rest μ') : G Z X nL cells slots pc lv (.int v :: .ref (za Z b) :: rest) μ := g_putI C inTX2 tyX2_ok nmX2 (c := 1) rfl (by decide) rfl hb 2 (by decide) hlink rfl rfl rfl fI_1_2 he hd k
theorem pIN_1_2 (C : Cx l Z ex X cc own nL ret) {index b : Nat} {v : Int32}  (hb : (zk Z b).1 = 1) (hlink : (Cond.fieldLinkNest own index RX2 "paid" "I" "WornDots").before (xa X) (xs X) = true) (he : μ' = sI μ b 2 v) (hd : decode cc pc = .ok (.putfield index, 3)) (k : G Z X nL cells slots (pc + 3) lv rest μ') : G Z X nL cells slots pc lv (.int v :: .ref (za Z b) :: rest) μ := g_putIN C inTX2 tyX2_ok nmX2 (c := 1) rfl (by decide) rfl hb 2 (by decide) hlink rfl rfl rfl fI_1_2 he hd k
theorem gI_1_3 (C : Cx l Z ex X cc own nL ret) {index b : Nat}  (hb : (zk Z b).1 = 1) (hlink : (Cond.fieldLink own index RX2 "paidBack" "I").before (xa X) (xs X) = true) (hd : decode cc pc = .ok (.getfield index, 3)) (k : G Z X nL cells slots (pc + 3) lv (.int (μ.1 b 3) :: rest) μ) : G Z X nL cells slots pc lv (.ref (za Z b) :: rest) μ := g_getf C inTX2 (c := 1) rfl (by decide) hb 3 (by decide) hlink (v := iv μ b 3) rfl hd k
theorem gIN_1_3 (C : Cx l Z ex X cc own nL ret) {index b : Nat}  (hb : (zk Z b).1 = 1) (hlink : (Cond.fieldLinkNest own index RX2 "paidBack" "I" "WornDots").before (xa X) (xs X) = true) (hd : decode cc pc = .ok (.getfield index, 3)) (k : G Z X nL cells slots (pc + 3) lv (.int (μ.1 b 3) :: rest) μ) : G Z X nL cells slots pc lv (.ref (za Z b) :: rest) μ := g_getfN C inTX2 (c := 1) rfl (by decide) hb 3 (by decide) hlink (v := iv μ b 3) rfl hd k
theorem pI_1_3 (C : Cx l Z ex X cc own nL ret) {index b : Nat} {v : Int32}  (hb : (zk Z b).1 = 1) (hlink : (Cond.fieldLink own index RX2 "paidBack" "I").before (xa X) (xs X) = true) (he : μ' = sI μ b 3 v) (hd : decode cc pc = .ok (.putfield index, 3)) (k : G Z X nL cells slots (pc + 3) lv rest μ') : G Z X nL cells slots pc lv (.int v :: .ref (za Z b) :: rest) μ := g_putI C inTX2 tyX2_ok nmX2 (c := 1) rfl (by decide) rfl hb 3 (by decide) hlink rfl rfl rfl fI_1_3 he hd k
theorem pIN_1_3 (C : Cx l Z ex X cc own nL ret) {index b : Nat} {v : Int32}  (hb : (zk Z b).1 = 1) (hlink : (Cond.fieldLinkNest own index RX2 "paidBack" "I" "WornDots").before (xa X) (xs X) = true) (he : μ' = sI μ b 3 v) (hd : decode cc pc = .ok (.putfield index, 3)) (k : G Z X nL cells slots (pc + 3) lv rest μ') : G Z X nL cells slots pc lv (.int v :: .ref (za Z b) :: rest) μ := g_putIN C inTX2 tyX2_ok nmX2 (c := 1) rfl (by decide) rfl hb 3 (by decide) hlink rfl rfl rfl fI_1_3 he hd k
theorem gI_1_4 (C : Cx l Z ex X cc own nL ret) {index b : Nat}  (hb : (zk Z b).1 = 1) (hlink : (Cond.fieldLink own index RX2 "printed" "I").before (xa X) (xs X) = true) (hd : decode cc pc = .ok (.getfield index, 3)) (k : G Z X nL cells slots (pc + 3) lv (.int (μ.1 b 4) :: rest) μ) : G Z X nL cells slots pc lv (.ref (za Z b) :: rest) μ := g_getf C inTX2 (c := 1) rfl (by decide) hb 4 (by decide) hlink (v := iv μ b 4) rfl hd k
theorem gIN_1_4 (C : Cx l Z ex X cc own nL ret) {index b : Nat}  (hb : (zk Z b).1 = 1) (hlink : (Cond.fieldLinkNest own index RX2 "printed" "I" "WornDots").before (xa X) (xs X) = true) (hd : decode cc pc = .ok (.getfield index, 3)) (k : G Z X nL cells slots (pc + 3) lv (.int (μ.1 b 4) :: rest) μ) : G Z X nL cells slots pc lv (.ref (za Z b) :: rest) μ := g_getfN C inTX2 (c := 1) rfl (by decide) hb 4 (by decide) hlink (v := iv μ b 4) rfl hd k
theorem pI_1_4 (C : Cx l Z ex X cc own nL ret) {index b : Nat} {v : Int32}  (hb : (zk Z b).1 = 1) (hlink : (Cond.fieldLink own index RX2 "printed" "I").before (xa X) (xs X) = true) (he : μ' = sI μ b 4 v) (hd : decode cc pc = .ok (.putfield index, 3)) (k : G Z X nL cells slots (pc + 3) lv rest μ') : G Z X nL cells slots pc lv (.int v :: .ref (za Z b) :: rest) μ := g_putI C inTX2 tyX2_ok nmX2 (c := 1) rfl (by decide) rfl hb 4 (by decide) hlink rfl rfl rfl fI_1_4 he hd k
theorem pIN_1_4 (C : Cx l Z ex X cc own nL ret) {index b : Nat} {v : Int32}  (hb : (zk Z b).1 = 1) (hlink : (Cond.fieldLinkNest own index RX2 "printed" "I" "WornDots").before (xa X) (xs X) = true) (he : μ' = sI μ b 4 v) (hd : decode cc pc = .ok (.putfield index, 3)) (k : G Z X nL cells slots (pc + 3) lv rest μ') : G Z X nL cells slots pc lv (.int v :: .ref (za Z b) :: rest) μ := g_putIN C inTX2 tyX2_ok nmX2 (c := 1) rfl (by decide) rfl hb 4 (by decide) hlink rfl rfl rfl fI_1_4 he hd k
theorem gI_1_5 (C : Cx l Z ex X cc own nL ret) {index b : Nat}  (hb : (zk Z b).1 = 1) (hlink : (Cond.fieldLink own index RX2 "failed" "I").before (xa X) (xs X) = true) (hd : decode cc pc = .ok (.getfield index, 3)) (k : G Z X nL cells slots (pc + 3) lv (.int (μ.1 b 5) :: rest) μ) : G Z X nL cells slots pc lv (.ref (za Z b) :: rest) μ := g_getf C inTX2 (c := 1) rfl (by decide) hb 5 (by decide) hlink (v := iv μ b 5) rfl hd k
theorem gIN_1_5 (C : Cx l Z ex X cc own nL ret) {index b : Nat}  (hb : (zk Z b).1 = 1) (hlink : (Cond.fieldLinkNest own index RX2 "failed" "I" "WornDots").before (xa X) (xs X) = true) (hd : decode cc pc = .ok (.getfield index, 3)) (k : G Z X nL cells slots (pc + 3) lv (.int (μ.1 b 5) :: rest) μ) : G Z X nL cells slots pc lv (.ref (za Z b) :: rest) μ := g_getfN C inTX2 (c := 1) rfl (by decide) hb 5 (by decide) hlink (v := iv μ b 5) rfl hd k
theorem pI_1_5 (C : Cx l Z ex X cc own nL ret) {index b : Nat} {v : Int32}  (hb : (zk Z b).1 = 1) (hlink : (Cond.fieldLink own index RX2 "failed" "I").before (xa X) (xs X) = true) (he : μ' = sI μ b 5 v) (hd : decode cc pc = .ok (.putfield index, 3)) (k : G Z X nL cells slots (pc + 3) lv rest μ') : G Z X nL cells slots pc lv (.int v :: .ref (za Z b) :: rest) μ := g_putI C inTX2 tyX2_ok nmX2 (c := 1) rfl (by decide) rfl hb 5 (by decide) hlink rfl rfl rfl fI_1_5 he hd k
theorem pIN_1_5 (C : Cx l Z ex X cc own nL ret) {index b : Nat} {v : Int32}  (hb : (zk Z b).1 = 1) (hlink : (Cond.fieldLinkNest own index RX2 "failed" "I" "WornDots").before (xa X) (xs X) = true) (he : μ' = sI μ b 5 v) (hd : decode cc pc = .ok (.putfield index, 3)) (k : G Z X nL cells slots (pc + 3) lv rest μ') : G Z X nL cells slots pc lv (.int v :: .ref (za Z b) :: rest) μ := g_putIN C inTX2 tyX2_ok nmX2 (c := 1) rfl (by decide) rfl hb 5 (by decide) hlink rfl rfl rfl fI_1_5 he hd k
theorem gI_2_0 (C : Cx l Z ex X cc own nL ret) {index b : Nat}  (hb : (zk Z b).1 = 2) (hlink : (Cond.fieldLink own index RX3 "dots" "I").before (xa X) (xs X) = true) (hd : decode cc pc = .ok (.getfield index, 3)) (k : G Z X nL cells slots (pc + 3) lv (.int (μ.1 b 0) :: rest) μ) : G Z X nL cells slots pc lv (.ref (za Z b) :: rest) μ := g_getf C inTX3 (c := 2) rfl (by decide) hb 0 (by decide) hlink (v := iv μ b 0) rfl hd k
theorem gIN_2_0 (C : Cx l Z ex X cc own nL ret) {index b : Nat}  (hb : (zk Z b).1 = 2) (hlink : (Cond.fieldLinkNest own index RX3 "dots" "I" "WornDots").before (xa X) (xs X) = true) (hd : decode cc pc = .ok (.getfield index, 3)) (k : G Z X nL cells slots (pc + 3) lv (.int (μ.1 b 0) :: rest) μ) : G Z X nL cells slots pc lv (.ref (za Z b) :: rest) μ := g_getfN C inTX3 (c := 2) rfl (by decide) hb 0 (by decide) hlink (v := iv μ b 0) rfl hd k
theorem pI_2_0 (C : Cx l Z ex X cc own nL ret) {index b : Nat} {v : Int32}  (hb : (zk Z b).1 = 2) (hlink : (Cond.fieldLink own index RX3 "dots" "I").before (xa X) (xs X) = true) (he : μ' = sI μ b 0 v) (hd : decode cc pc = .ok (.putfield index, 3)) (k : G Z X nL cells slots (pc + 3) lv rest μ') : G Z X nL cells slots pc lv (.int v :: .ref (za Z b) :: rest) μ := g_putI C inTX3 tyX3_ok nmX3 (c := 2) rfl (by decide) rfl hb 0 (by decide) hlink rfl rfl rfl fI_2_0 he hd k
theorem pIN_2_0 (C : Cx l Z ex X cc own nL ret) {index b : Nat} {v : Int32}  (hb : (zk Z b).1 = 2) (hlink : (Cond.fieldLinkNest own index RX3 "dots" "I" "WornDots").before (xa X) (xs X) = true) (he : μ' = sI μ b 0 v) (hd : decode cc pc = .ok (.putfield index, 3)) (k : G Z X nL cells slots (pc + 3) lv rest μ') : G Z X nL cells slots pc lv (.int v :: .ref (za Z b) :: rest) μ := g_putIN C inTX3 tyX3_ok nmX3 (c := 2) rfl (by decide) rfl hb 0 (by decide) hlink rfl rfl rfl fI_2_0 he hd k
theorem gI_2_1 (C : Cx l Z ex X cc own nL ret) {index b : Nat}  (hb : (zk Z b).1 = 2) (hlink : (Cond.fieldLink own index RX3 "burntInAll" "I").before (xa X) (xs X) = true) (hd : decode cc pc = .ok (.getfield index, 3)) (k : G Z X nL cells slots (pc + 3) lv (.int (μ.1 b 1) :: rest) μ) : G Z X nL cells slots pc lv (.ref (za Z b) :: rest) μ := g_getf C inTX3 (c := 2) rfl (by decide) hb 1 (by decide) hlink (v := iv μ b 1) rfl hd k
theorem gIN_2_1 (C : Cx l Z ex X cc own nL ret) {index b : Nat}  (hb : (zk Z b).1 = 2) (hlink : (Cond.fieldLinkNest own index RX3 "burntInAll" "I" "WornDots").before (xa X) (xs X) = true) (hd : decode cc pc = .ok (.getfield index, 3)) (k : G Z X nL cells slots (pc + 3) lv (.int (μ.1 b 1) :: rest) μ) : G Z X nL cells slots pc lv (.ref (za Z b) :: rest) μ := g_getfN C inTX3 (c := 2) rfl (by decide) hb 1 (by decide) hlink (v := iv μ b 1) rfl hd k
theorem pI_2_1 (C : Cx l Z ex X cc own nL ret) {index b : Nat} {v : Int32}  (hb : (zk Z b).1 = 2) (hlink : (Cond.fieldLink own index RX3 "burntInAll" "I").before (xa X) (xs X) = true) (he : μ' = sI μ b 1 v) (hd : decode cc pc = .ok (.putfield index, 3)) (k : G Z X nL cells slots (pc + 3) lv rest μ') : G Z X nL cells slots pc lv (.int v :: .ref (za Z b) :: rest) μ := g_putI C inTX3 tyX3_ok nmX3 (c := 2) rfl (by decide) rfl hb 1 (by decide) hlink rfl rfl rfl fI_2_1 he hd k
theorem pIN_2_1 (C : Cx l Z ex X cc own nL ret) {index b : Nat} {v : Int32}  (hb : (zk Z b).1 = 2) (hlink : (Cond.fieldLinkNest own index RX3 "burntInAll" "I" "WornDots").before (xa X) (xs X) = true) (he : μ' = sI μ b 1 v) (hd : decode cc pc = .ok (.putfield index, 3)) (k : G Z X nL cells slots (pc + 3) lv rest μ') : G Z X nL cells slots pc lv (.int v :: .ref (za Z b) :: rest) μ := g_putIN C inTX3 tyX3_ok nmX3 (c := 2) rfl (by decide) rfl hb 1 (by decide) hlink rfl rfl rfl fI_2_1 he hd k
theorem gR_2_2 (C : Cx l Z ex X cc own nL ret) {index b : Nat} {r : Nat}  (hb : (zk Z b).1 = 2) (hlink : (Cond.fieldLink own index RX3 "heat" "[I").before (xa X) (xs X) = true) (hr : μ.2.1 b 2 = some r) (hd : decode cc pc = .ok (.getfield index, 3)) (k : G Z X nL cells slots (pc + 3) lv (.ref (za Z r) :: rest) μ) : G Z X nL cells slots pc lv (.ref (za Z b) :: rest) μ := g_getf C inTX3 (c := 2) rfl (by decide) hb 2 (by decide) hlink (v := rv Z μ b 2) rfl hd (by show G Z X nL cells slots (pc + 3) lv (va_rf ((μ.2.1 b 2).map (za Z)) :: rest) μ; rw [hr]; exact k)
theorem gRN_2_2 (C : Cx l Z ex X cc own nL ret) {index b : Nat} {r : Nat}  (hb : (zk Z b).1 = 2) (hlink : (Cond.fieldLinkNest own index RX3 "heat" "[I" "WornDots").before (xa X) (xs X) = true) (hr : μ.2.1 b 2 = some r) (hd : decode cc pc = .ok (.getfield index, 3)) (k : G Z X nL cells slots (pc + 3) lv (.ref (za Z r) :: rest) μ) : G Z X nL cells slots pc lv (.ref (za Z b) :: rest) μ := g_getfN C inTX3 (c := 2) rfl (by decide) hb 2 (by decide) hlink (v := rv Z μ b 2) rfl hd (by show G Z X nL cells slots (pc + 3) lv (va_rf ((μ.2.1 b 2).map (za Z)) :: rest) μ; rw [hr]; exact k)
theorem pF_2_2 (C : Cx l Z ex X cc own nL ret) {index b : Nat} {r : Nat}  (hb : (zk Z b).1 = 2) (hlink : (Cond.fieldLink own index RX3 "heat" "[I").before (xa X) (xs X) = true) (hini : (xh X).name = "<init>") (hdecl : RX3 = own) (he : μ' = sR μ b 2 (some r)) (hd : decode cc pc = .ok (.putfield index, 3)) (k : G Z X nL cells slots (pc + 3) lv rest μ') : G Z X nL cells slots pc lv (.ref (za Z r) :: .ref (za Z b) :: rest) μ := g_putRF C inTX3 tyX3_ok nmX3 (c := 2) rfl (by decide) rfl hb 2 (by decide) hlink rfl hini hdecl rfl rfl fR_2_2 he hd k
theorem gR_2_3 (C : Cx l Z ex X cc own nL ret) {index b : Nat} {r : Nat}  (hb : (zk Z b).1 = 2) (hlink : (Cond.fieldLink own index RX3 "wear" "[I").before (xa X) (xs X) = true) (hr : μ.2.1 b 3 = some r) (hd : decode cc pc = .ok (.getfield index, 3)) (k : G Z X nL cells slots (pc + 3) lv (.ref (za Z r) :: rest) μ) : G Z X nL cells slots pc lv (.ref (za Z b) :: rest) μ := g_getf C inTX3 (c := 2) rfl (by decide) hb 3 (by decide) hlink (v := rv Z μ b 3) rfl hd (by show G Z X nL cells slots (pc + 3) lv (va_rf ((μ.2.1 b 3).map (za Z)) :: rest) μ; rw [hr]; exact k)
theorem gRN_2_3 (C : Cx l Z ex X cc own nL ret) {index b : Nat} {r : Nat}  (hb : (zk Z b).1 = 2) (hlink : (Cond.fieldLinkNest own index RX3 "wear" "[I" "WornDots").before (xa X) (xs X) = true) (hr : μ.2.1 b 3 = some r) (hd : decode cc pc = .ok (.getfield index, 3)) (k : G Z X nL cells slots (pc + 3) lv (.ref (za Z r) :: rest) μ) : G Z X nL cells slots pc lv (.ref (za Z b) :: rest) μ := g_getfN C inTX3 (c := 2) rfl (by decide) hb 3 (by decide) hlink (v := rv Z μ b 3) rfl hd (by show G Z X nL cells slots (pc + 3) lv (va_rf ((μ.2.1 b 3).map (za Z)) :: rest) μ; rw [hr]; exact k)
theorem pF_2_3 (C : Cx l Z ex X cc own nL ret) {index b : Nat} {r : Nat}  (hb : (zk Z b).1 = 2) (hlink : (Cond.fieldLink own index RX3 "wear" "[I").before (xa X) (xs X) = true) (hini : (xh X).name = "<init>") (hdecl : RX3 = own) (he : μ' = sR μ b 3 (some r)) (hd : decode cc pc = .ok (.putfield index, 3)) (k : G Z X nL cells slots (pc + 3) lv rest μ') : G Z X nL cells slots pc lv (.ref (za Z r) :: .ref (za Z b) :: rest) μ := g_putRF C inTX3 tyX3_ok nmX3 (c := 2) rfl (by decide) rfl hb 3 (by decide) hlink rfl hini hdecl rfl rfl fR_2_3 he hd k
theorem gR_2_4 (C : Cx l Z ex X cc own nL ret) {index b : Nat} {r : Nat}  (hb : (zk Z b).1 = 2) (hlink : (Cond.fieldLink own index RX3 "burnt" "[I").before (xa X) (xs X) = true) (hr : μ.2.1 b 4 = some r) (hd : decode cc pc = .ok (.getfield index, 3)) (k : G Z X nL cells slots (pc + 3) lv (.ref (za Z r) :: rest) μ) : G Z X nL cells slots pc lv (.ref (za Z b) :: rest) μ := g_getf C inTX3 (c := 2) rfl (by decide) hb 4 (by decide) hlink (v := rv Z μ b 4) rfl hd (by show G Z X nL cells slots (pc + 3) lv (va_rf ((μ.2.1 b 4).map (za Z)) :: rest) μ; rw [hr]; exact k)
theorem gRN_2_4 (C : Cx l Z ex X cc own nL ret) {index b : Nat} {r : Nat}  (hb : (zk Z b).1 = 2) (hlink : (Cond.fieldLinkNest own index RX3 "burnt" "[I" "WornDots").before (xa X) (xs X) = true) (hr : μ.2.1 b 4 = some r) (hd : decode cc pc = .ok (.getfield index, 3)) (k : G Z X nL cells slots (pc + 3) lv (.ref (za Z r) :: rest) μ) : G Z X nL cells slots pc lv (.ref (za Z b) :: rest) μ := g_getfN C inTX3 (c := 2) rfl (by decide) hb 4 (by decide) hlink (v := rv Z μ b 4) rfl hd (by show G Z X nL cells slots (pc + 3) lv (va_rf ((μ.2.1 b 4).map (za Z)) :: rest) μ; rw [hr]; exact k)
theorem pF_2_4 (C : Cx l Z ex X cc own nL ret) {index b : Nat} {r : Nat}  (hb : (zk Z b).1 = 2) (hlink : (Cond.fieldLink own index RX3 "burnt" "[I").before (xa X) (xs X) = true) (hini : (xh X).name = "<init>") (hdecl : RX3 = own) (he : μ' = sR μ b 4 (some r)) (hd : decode cc pc = .ok (.putfield index, 3)) (k : G Z X nL cells slots (pc + 3) lv rest μ') : G Z X nL cells slots pc lv (.ref (za Z r) :: .ref (za Z b) :: rest) μ := g_putRF C inTX3 tyX3_ok nmX3 (c := 2) rfl (by decide) rfl hb 4 (by decide) hlink rfl hini hdecl rfl rfl fR_2_4 he hd k
theorem gI_3_0 (C : Cx l Z ex X cc own nL ret) {index b : Nat}  (hb : (zk Z b).1 = 3) (hlink : (Cond.fieldLink own index RX4 "width" "I").before (xa X) (xs X) = true) (hd : decode cc pc = .ok (.getfield index, 3)) (k : G Z X nL cells slots (pc + 3) lv (.int (μ.1 b 0) :: rest) μ) : G Z X nL cells slots pc lv (.ref (za Z b) :: rest) μ := g_getf C inTX4 (c := 3) rfl (by decide) hb 0 (by decide) hlink (v := iv μ b 0) rfl hd k
theorem gIN_3_0 (C : Cx l Z ex X cc own nL ret) {index b : Nat}  (hb : (zk Z b).1 = 3) (hlink : (Cond.fieldLinkNest own index RX4 "width" "I" "WornDots").before (xa X) (xs X) = true) (hd : decode cc pc = .ok (.getfield index, 3)) (k : G Z X nL cells slots (pc + 3) lv (.int (μ.1 b 0) :: rest) μ) : G Z X nL cells slots pc lv (.ref (za Z b) :: rest) μ := g_getfN C inTX4 (c := 3) rfl (by decide) hb 0 (by decide) hlink (v := iv μ b 0) rfl hd k
theorem pI_3_0 (C : Cx l Z ex X cc own nL ret) {index b : Nat} {v : Int32}  (hb : (zk Z b).1 = 3) (hlink : (Cond.fieldLink own index RX4 "width" "I").before (xa X) (xs X) = true) (he : μ' = sI μ b 0 v) (hd : decode cc pc = .ok (.putfield index, 3)) (k : G Z X nL cells slots (pc + 3) lv rest μ') : G Z X nL cells slots pc lv (.int v :: .ref (za Z b) :: rest) μ := g_putI C inTX4 tyX4_ok nmX4 (c := 3) rfl (by decide) rfl hb 0 (by decide) hlink rfl rfl rfl fI_3_0 he hd k
theorem pIN_3_0 (C : Cx l Z ex X cc own nL ret) {index b : Nat} {v : Int32}  (hb : (zk Z b).1 = 3) (hlink : (Cond.fieldLinkNest own index RX4 "width" "I" "WornDots").before (xa X) (xs X) = true) (he : μ' = sI μ b 0 v) (hd : decode cc pc = .ok (.putfield index, 3)) (k : G Z X nL cells slots (pc + 3) lv rest μ') : G Z X nL cells slots pc lv (.int v :: .ref (za Z b) :: rest) μ := g_putIN C inTX4 tyX4_ok nmX4 (c := 3) rfl (by decide) rfl hb 0 (by decide) hlink rfl rfl rfl fI_3_0 he hd k
theorem gI_3_1 (C : Cx l Z ex X cc own nL ret) {index b : Nat}  (hb : (zk Z b).1 = 3) (hlink : (Cond.fieldLink own index RX4 "blackness" "I").before (xa X) (xs X) = true) (hd : decode cc pc = .ok (.getfield index, 3)) (k : G Z X nL cells slots (pc + 3) lv (.int (μ.1 b 1) :: rest) μ) : G Z X nL cells slots pc lv (.ref (za Z b) :: rest) μ := g_getf C inTX4 (c := 3) rfl (by decide) hb 1 (by decide) hlink (v := iv μ b 1) rfl hd k
theorem gIN_3_1 (C : Cx l Z ex X cc own nL ret) {index b : Nat}  (hb : (zk Z b).1 = 3) (hlink : (Cond.fieldLinkNest own index RX4 "blackness" "I" "WornDots").before (xa X) (xs X) = true) (hd : decode cc pc = .ok (.getfield index, 3)) (k : G Z X nL cells slots (pc + 3) lv (.int (μ.1 b 1) :: rest) μ) : G Z X nL cells slots pc lv (.ref (za Z b) :: rest) μ := g_getfN C inTX4 (c := 3) rfl (by decide) hb 1 (by decide) hlink (v := iv μ b 1) rfl hd k
theorem pI_3_1 (C : Cx l Z ex X cc own nL ret) {index b : Nat} {v : Int32}  (hb : (zk Z b).1 = 3) (hlink : (Cond.fieldLink own index RX4 "blackness" "I").before (xa X) (xs X) = true) (he : μ' = sI μ b 1 v) (hd : decode cc pc = .ok (.putfield index, 3)) (k : G Z X nL cells slots (pc + 3) lv rest μ') : G Z X nL cells slots pc lv (.int v :: .ref (za Z b) :: rest) μ := g_putI C inTX4 tyX4_ok nmX4 (c := 3) rfl (by decide) rfl hb 1 (by decide) hlink rfl rfl rfl fI_3_1 he hd k
theorem pIN_3_1 (C : Cx l Z ex X cc own nL ret) {index b : Nat} {v : Int32}  (hb : (zk Z b).1 = 3) (hlink : (Cond.fieldLinkNest own index RX4 "blackness" "I" "WornDots").before (xa X) (xs X) = true) (he : μ' = sI μ b 1 v) (hd : decode cc pc = .ok (.putfield index, 3)) (k : G Z X nL cells slots (pc + 3) lv rest μ') : G Z X nL cells slots pc lv (.int v :: .ref (za Z b) :: rest) μ := g_putIN C inTX4 tyX4_ok nmX4 (c := 3) rfl (by decide) rfl hb 1 (by decide) hlink rfl rfl rfl fI_3_1 he hd k
theorem gI_3_2 (C : Cx l Z ex X cc own nL ret) {index b : Nat}  (hb : (zk Z b).1 = 3) (hlink : (Cond.fieldLink own index RX4 "printed" "I").before (xa X) (xs X) = true) (hd : decode cc pc = .ok (.getfield index, 3)) (k : G Z X nL cells slots (pc + 3) lv (.int (μ.1 b 2) :: rest) μ) : G Z X nL cells slots pc lv (.ref (za Z b) :: rest) μ := g_getf C inTX4 (c := 3) rfl (by decide) hb 2 (by decide) hlink (v := iv μ b 2) rfl hd k
theorem gIN_3_2 (C : Cx l Z ex X cc own nL ret) {index b : Nat}  (hb : (zk Z b).1 = 3) (hlink : (Cond.fieldLinkNest own index RX4 "printed" "I" "WornDots").before (xa X) (xs X) = true) (hd : decode cc pc = .ok (.getfield index, 3)) (k : G Z X nL cells slots (pc + 3) lv (.int (μ.1 b 2) :: rest) μ) : G Z X nL cells slots pc lv (.ref (za Z b) :: rest) μ := g_getfN C inTX4 (c := 3) rfl (by decide) hb 2 (by decide) hlink (v := iv μ b 2) rfl hd k
theorem pI_3_2 (C : Cx l Z ex X cc own nL ret) {index b : Nat} {v : Int32}  (hb : (zk Z b).1 = 3) (hlink : (Cond.fieldLink own index RX4 "printed" "I").before (xa X) (xs X) = true) (he : μ' = sI μ b 2 v) (hd : decode cc pc = .ok (.putfield index, 3)) (k : G Z X nL cells slots (pc + 3) lv rest μ') : G Z X nL cells slots pc lv (.int v :: .ref (za Z b) :: rest) μ := g_putI C inTX4 tyX4_ok nmX4 (c := 3) rfl (by decide) rfl hb 2 (by decide) hlink rfl rfl rfl fI_3_2 he hd k
theorem pIN_3_2 (C : Cx l Z ex X cc own nL ret) {index b : Nat} {v : Int32}  (hb : (zk Z b).1 = 3) (hlink : (Cond.fieldLinkNest own index RX4 "printed" "I" "WornDots").before (xa X) (xs X) = true) (he : μ' = sI μ b 2 v) (hd : decode cc pc = .ok (.putfield index, 3)) (k : G Z X nL cells slots (pc + 3) lv rest μ') : G Z X nL cells slots pc lv (.int v :: .ref (za Z b) :: rest) μ := g_putIN C inTX4 tyX4_ok nmX4 (c := 3) rfl (by decide) rfl hb 2 (by decide) hlink rfl rfl rfl fI_3_2 he hd k
theorem gI_3_3 (C : Cx l Z ex X cc own nL ret) {index b : Nat}  (hb : (zk Z b).1 = 3) (hlink : (Cond.fieldLink own index RX4 "failed" "I").before (xa X) (xs X) = true) (hd : decode cc pc = .ok (.getfield index, 3)) (k : G Z X nL cells slots (pc + 3) lv (.int (μ.1 b 3) :: rest) μ) : G Z X nL cells slots pc lv (.ref (za Z b) :: rest) μ := g_getf C inTX4 (c := 3) rfl (by decide) hb 3 (by decide) hlink (v := iv μ b 3) rfl hd k
theorem gIN_3_3 (C : Cx l Z ex X cc own nL ret) {index b : Nat}  (hb : (zk Z b).1 = 3) (hlink : (Cond.fieldLinkNest own index RX4 "failed" "I" "WornDots").before (xa X) (xs X) = true) (hd : decode cc pc = .ok (.getfield index, 3)) (k : G Z X nL cells slots (pc + 3) lv (.int (μ.1 b 3) :: rest) μ) : G Z X nL cells slots pc lv (.ref (za Z b) :: rest) μ := g_getfN C inTX4 (c := 3) rfl (by decide) hb 3 (by decide) hlink (v := iv μ b 3) rfl hd k
theorem pI_3_3 (C : Cx l Z ex X cc own nL ret) {index b : Nat} {v : Int32}  (hb : (zk Z b).1 = 3) (hlink : (Cond.fieldLink own index RX4 "failed" "I").before (xa X) (xs X) = true) (he : μ' = sI μ b 3 v) (hd : decode cc pc = .ok (.putfield index, 3)) (k : G Z X nL cells slots (pc + 3) lv rest μ') : G Z X nL cells slots pc lv (.int v :: .ref (za Z b) :: rest) μ := g_putI C inTX4 tyX4_ok nmX4 (c := 3) rfl (by decide) rfl hb 3 (by decide) hlink rfl rfl rfl fI_3_3 he hd k
theorem pIN_3_3 (C : Cx l Z ex X cc own nL ret) {index b : Nat} {v : Int32}  (hb : (zk Z b).1 = 3) (hlink : (Cond.fieldLinkNest own index RX4 "failed" "I" "WornDots").before (xa X) (xs X) = true) (he : μ' = sI μ b 3 v) (hd : decode cc pc = .ok (.putfield index, 3)) (k : G Z X nL cells slots (pc + 3) lv rest μ') : G Z X nL cells slots pc lv (.int v :: .ref (za Z b) :: rest) μ := g_putIN C inTX4 tyX4_ok nmX4 (c := 3) rfl (by decide) rfl hb 3 (by decide) hlink rfl rfl rfl fI_3_3 he hd k
theorem gR_3_4 (C : Cx l Z ex X cc own nL ret) {index b : Nat} {r : Nat}  (hb : (zk Z b).1 = 3) (hlink : (Cond.fieldLink own index RX4 "rows" "[I").before (xa X) (xs X) = true) (hr : μ.2.1 b 4 = some r) (hd : decode cc pc = .ok (.getfield index, 3)) (k : G Z X nL cells slots (pc + 3) lv (.ref (za Z r) :: rest) μ) : G Z X nL cells slots pc lv (.ref (za Z b) :: rest) μ := g_getf C inTX4 (c := 3) rfl (by decide) hb 4 (by decide) hlink (v := rv Z μ b 4) rfl hd (by show G Z X nL cells slots (pc + 3) lv (va_rf ((μ.2.1 b 4).map (za Z)) :: rest) μ; rw [hr]; exact k)
theorem gRN_3_4 (C : Cx l Z ex X cc own nL ret) {index b : Nat} {r : Nat}  (hb : (zk Z b).1 = 3) (hlink : (Cond.fieldLinkNest own index RX4 "rows" "[I" "WornDots").before (xa X) (xs X) = true) (hr : μ.2.1 b 4 = some r) (hd : decode cc pc = .ok (.getfield index, 3)) (k : G Z X nL cells slots (pc + 3) lv (.ref (za Z r) :: rest) μ) : G Z X nL cells slots pc lv (.ref (za Z b) :: rest) μ := g_getfN C inTX4 (c := 3) rfl (by decide) hb 4 (by decide) hlink (v := rv Z μ b 4) rfl hd (by show G Z X nL cells slots (pc + 3) lv (va_rf ((μ.2.1 b 4).map (za Z)) :: rest) μ; rw [hr]; exact k)
theorem pF_3_4 (C : Cx l Z ex X cc own nL ret) {index b : Nat} {r : Nat}  (hb : (zk Z b).1 = 3) (hlink : (Cond.fieldLink own index RX4 "rows" "[I").before (xa X) (xs X) = true) (hini : (xh X).name = "<init>") (hdecl : RX4 = own) (he : μ' = sR μ b 4 (some r)) (hd : decode cc pc = .ok (.putfield index, 3)) (k : G Z X nL cells slots (pc + 3) lv rest μ') : G Z X nL cells slots pc lv (.ref (za Z r) :: .ref (za Z b) :: rest) μ := g_putRF C inTX4 tyX4_ok nmX4 (c := 3) rfl (by decide) rfl hb 4 (by decide) hlink rfl hini hdecl rfl rfl fR_3_4 he hd k
theorem gR_4_0 (C : Cx l Z ex X cc own nL ret) {index b : Nat} {r : Nat}  (hb : (zk Z b).1 = 4) (hlink : (Cond.fieldLink own index RX5 "head" "LWornDots$Head;").before (xa X) (xs X) = true) (hr : μ.2.1 b 0 = some r) (hd : decode cc pc = .ok (.getfield index, 3)) (k : G Z X nL cells slots (pc + 3) lv (.ref (za Z r) :: rest) μ) : G Z X nL cells slots pc lv (.ref (za Z b) :: rest) μ := g_getf C inTX5 (c := 4) rfl (by decide) hb 0 (by decide) hlink (v := rv Z μ b 0) rfl hd (by show G Z X nL cells slots (pc + 3) lv (va_rf ((μ.2.1 b 0).map (za Z)) :: rest) μ; rw [hr]; exact k)
theorem gRN_4_0 (C : Cx l Z ex X cc own nL ret) {index b : Nat} {r : Nat}  (hb : (zk Z b).1 = 4) (hlink : (Cond.fieldLinkNest own index RX5 "head" "LWornDots$Head;" "WornDots").before (xa X) (xs X) = true) (hr : μ.2.1 b 0 = some r) (hd : decode cc pc = .ok (.getfield index, 3)) (k : G Z X nL cells slots (pc + 3) lv (.ref (za Z r) :: rest) μ) : G Z X nL cells slots pc lv (.ref (za Z b) :: rest) μ := g_getfN C inTX5 (c := 4) rfl (by decide) hb 0 (by decide) hlink (v := rv Z μ b 0) rfl hd (by show G Z X nL cells slots (pc + 3) lv (va_rf ((μ.2.1 b 0).map (za Z)) :: rest) μ; rw [hr]; exact k)
theorem pF_4_0 (C : Cx l Z ex X cc own nL ret) {index b : Nat} {r : Nat}  (hb : (zk Z b).1 = 4) (hlink : (Cond.fieldLink own index RX5 "head" "LWornDots$Head;").before (xa X) (xs X) = true) (hini : (xh X).name = "<init>") (hdecl : RX5 = own) (he : μ' = sR μ b 0 (some r)) (hd : decode cc pc = .ok (.putfield index, 3)) (k : G Z X nL cells slots (pc + 3) lv rest μ') : G Z X nL cells slots pc lv (.ref (za Z r) :: .ref (za Z b) :: rest) μ := g_putRF C inTX5 tyX5_ok nmX5 (c := 4) rfl (by decide) rfl hb 0 (by decide) hlink rfl hini hdecl rfl rfl fR_4_0 he hd k
theorem gR_4_1 (C : Cx l Z ex X cc own nL ret) {index b : Nat} {r : Nat}  (hb : (zk Z b).1 = 4) (hlink : (Cond.fieldLink own index RX5 "trial" "LWornDots$Head;").before (xa X) (xs X) = true) (hr : μ.2.1 b 1 = some r) (hd : decode cc pc = .ok (.getfield index, 3)) (k : G Z X nL cells slots (pc + 3) lv (.ref (za Z r) :: rest) μ) : G Z X nL cells slots pc lv (.ref (za Z b) :: rest) μ := g_getf C inTX5 (c := 4) rfl (by decide) hb 1 (by decide) hlink (v := rv Z μ b 1) rfl hd (by show G Z X nL cells slots (pc + 3) lv (va_rf ((μ.2.1 b 1).map (za Z)) :: rest) μ; rw [hr]; exact k)
theorem gRN_4_1 (C : Cx l Z ex X cc own nL ret) {index b : Nat} {r : Nat}  (hb : (zk Z b).1 = 4) (hlink : (Cond.fieldLinkNest own index RX5 "trial" "LWornDots$Head;" "WornDots").before (xa X) (xs X) = true) (hr : μ.2.1 b 1 = some r) (hd : decode cc pc = .ok (.getfield index, 3)) (k : G Z X nL cells slots (pc + 3) lv (.ref (za Z r) :: rest) μ) : G Z X nL cells slots pc lv (.ref (za Z b) :: rest) μ := g_getfN C inTX5 (c := 4) rfl (by decide) hb 1 (by decide) hlink (v := rv Z μ b 1) rfl hd (by show G Z X nL cells slots (pc + 3) lv (va_rf ((μ.2.1 b 1).map (za Z)) :: rest) μ; rw [hr]; exact k)
theorem pF_4_1 (C : Cx l Z ex X cc own nL ret) {index b : Nat} {r : Nat}  (hb : (zk Z b).1 = 4) (hlink : (Cond.fieldLink own index RX5 "trial" "LWornDots$Head;").before (xa X) (xs X) = true) (hini : (xh X).name = "<init>") (hdecl : RX5 = own) (he : μ' = sR μ b 1 (some r)) (hd : decode cc pc = .ok (.putfield index, 3)) (k : G Z X nL cells slots (pc + 3) lv rest μ') : G Z X nL cells slots pc lv (.ref (za Z r) :: .ref (za Z b) :: rest) μ := g_putRF C inTX5 tyX5_ok nmX5 (c := 4) rfl (by decide) rfl hb 1 (by decide) hlink rfl hini hdecl rfl rfl fR_4_1 he hd k
theorem gR_4_2 (C : Cx l Z ex X cc own nL ret) {index b : Nat} {r : Nat}  (hb : (zk Z b).1 = 4) (hlink : (Cond.fieldLink own index RX5 "settings" "[I").before (xa X) (xs X) = true) (hr : μ.2.1 b 2 = some r) (hd : decode cc pc = .ok (.getfield index, 3)) (k : G Z X nL cells slots (pc + 3) lv (.ref (za Z r) :: rest) μ) : G Z X nL cells slots pc lv (.ref (za Z b) :: rest) μ := g_getf C inTX5 (c := 4) rfl (by decide) hb 2 (by decide) hlink (v := rv Z μ b 2) rfl hd (by show G Z X nL cells slots (pc + 3) lv (va_rf ((μ.2.1 b 2).map (za Z)) :: rest) μ; rw [hr]; exact k)
theorem gRN_4_2 (C : Cx l Z ex X cc own nL ret) {index b : Nat} {r : Nat}  (hb : (zk Z b).1 = 4) (hlink : (Cond.fieldLinkNest own index RX5 "settings" "[I" "WornDots").before (xa X) (xs X) = true) (hr : μ.2.1 b 2 = some r) (hd : decode cc pc = .ok (.getfield index, 3)) (k : G Z X nL cells slots (pc + 3) lv (.ref (za Z r) :: rest) μ) : G Z X nL cells slots pc lv (.ref (za Z b) :: rest) μ := g_getfN C inTX5 (c := 4) rfl (by decide) hb 2 (by decide) hlink (v := rv Z μ b 2) rfl hd (by show G Z X nL cells slots (pc + 3) lv (va_rf ((μ.2.1 b 2).map (za Z)) :: rest) μ; rw [hr]; exact k)
theorem pF_4_2 (C : Cx l Z ex X cc own nL ret) {index b : Nat} {r : Nat}  (hb : (zk Z b).1 = 4) (hlink : (Cond.fieldLink own index RX5 "settings" "[I").before (xa X) (xs X) = true) (hini : (xh X).name = "<init>") (hdecl : RX5 = own) (he : μ' = sR μ b 2 (some r)) (hd : decode cc pc = .ok (.putfield index, 3)) (k : G Z X nL cells slots (pc + 3) lv rest μ') : G Z X nL cells slots pc lv (.ref (za Z r) :: .ref (za Z b) :: rest) μ := g_putRF C inTX5 tyX5_ok nmX5 (c := 4) rfl (by decide) rfl hb 2 (by decide) hlink rfl hini hdecl rfl rfl fR_4_2 he hd k
theorem gR_4_3 (C : Cx l Z ex X cc own nL ret) {index b : Nat} {r : Nat}  (hb : (zk Z b).1 = 4) (hlink : (Cond.fieldLink own index RX5 "labels" "[LWornDots$Label;").before (xa X) (xs X) = true) (hr : μ.2.1 b 3 = some r) (hd : decode cc pc = .ok (.getfield index, 3)) (k : G Z X nL cells slots (pc + 3) lv (.ref (za Z r) :: rest) μ) : G Z X nL cells slots pc lv (.ref (za Z b) :: rest) μ := g_getf C inTX5 (c := 4) rfl (by decide) hb 3 (by decide) hlink (v := rv Z μ b 3) rfl hd (by show G Z X nL cells slots (pc + 3) lv (va_rf ((μ.2.1 b 3).map (za Z)) :: rest) μ; rw [hr]; exact k)
theorem gRN_4_3 (C : Cx l Z ex X cc own nL ret) {index b : Nat} {r : Nat}  (hb : (zk Z b).1 = 4) (hlink : (Cond.fieldLinkNest own index RX5 "labels" "[LWornDots$Label;" "WornDots").before (xa X) (xs X) = true) (hr : μ.2.1 b 3 = some r) (hd : decode cc pc = .ok (.getfield index, 3)) (k : G Z X nL cells slots (pc + 3) lv (.ref (za Z r) :: rest) μ) : G Z X nL cells slots pc lv (.ref (za Z b) :: rest) μ := g_getfN C inTX5 (c := 4) rfl (by decide) hb 3 (by decide) hlink (v := rv Z μ b 3) rfl hd (by show G Z X nL cells slots (pc + 3) lv (va_rf ((μ.2.1 b 3).map (za Z)) :: rest) μ; rw [hr]; exact k)
theorem pF_4_3 (C : Cx l Z ex X cc own nL ret) {index b : Nat} {r : Nat}  (hb : (zk Z b).1 = 4) (hlink : (Cond.fieldLink own index RX5 "labels" "[LWornDots$Label;").before (xa X) (xs X) = true) (hini : (xh X).name = "<init>") (hdecl : RX5 = own) (he : μ' = sR μ b 3 (some r)) (hd : decode cc pc = .ok (.putfield index, 3)) (k : G Z X nL cells slots (pc + 3) lv rest μ') : G Z X nL cells slots pc lv (.ref (za Z r) :: .ref (za Z b) :: rest) μ := g_putRF C inTX5 tyX5_ok nmX5 (c := 4) rfl (by decide) rfl hb 3 (by decide) hlink rfl hini hdecl rfl rfl fR_4_3 he hd k
theorem gI_4_4 (C : Cx l Z ex X cc own nL ret) {index b : Nat}  (hb : (zk Z b).1 = 4) (hlink : (Cond.fieldLink own index RX5 "labelCount" "I").before (xa X) (xs X) = true) (hd : decode cc pc = .ok (.getfield index, 3)) (k : G Z X nL cells slots (pc + 3) lv (.int (μ.1 b 4) :: rest) μ) : G Z X nL cells slots pc lv (.ref (za Z b) :: rest) μ := g_getf C inTX5 (c := 4) rfl (by decide) hb 4 (by decide) hlink (v := iv μ b 4) rfl hd k
theorem gIN_4_4 (C : Cx l Z ex X cc own nL ret) {index b : Nat}  (hb : (zk Z b).1 = 4) (hlink : (Cond.fieldLinkNest own index RX5 "labelCount" "I" "WornDots").before (xa X) (xs X) = true) (hd : decode cc pc = .ok (.getfield index, 3)) (k : G Z X nL cells slots (pc + 3) lv (.int (μ.1 b 4) :: rest) μ) : G Z X nL cells slots pc lv (.ref (za Z b) :: rest) μ := g_getfN C inTX5 (c := 4) rfl (by decide) hb 4 (by decide) hlink (v := iv μ b 4) rfl hd k
theorem pI_4_4 (C : Cx l Z ex X cc own nL ret) {index b : Nat} {v : Int32}  (hb : (zk Z b).1 = 4) (hlink : (Cond.fieldLink own index RX5 "labelCount" "I").before (xa X) (xs X) = true) (he : μ' = sI μ b 4 v) (hd : decode cc pc = .ok (.putfield index, 3)) (k : G Z X nL cells slots (pc + 3) lv rest μ') : G Z X nL cells slots pc lv (.int v :: .ref (za Z b) :: rest) μ := g_putI C inTX5 tyX5_ok nmX5 (c := 4) rfl (by decide) rfl hb 4 (by decide) hlink rfl rfl rfl fI_4_4 he hd k
theorem pIN_4_4 (C : Cx l Z ex X cc own nL ret) {index b : Nat} {v : Int32}  (hb : (zk Z b).1 = 4) (hlink : (Cond.fieldLinkNest own index RX5 "labelCount" "I" "WornDots").before (xa X) (xs X) = true) (he : μ' = sI μ b 4 v) (hd : decode cc pc = .ok (.putfield index, 3)) (k : G Z X nL cells slots (pc + 3) lv rest μ') : G Z X nL cells slots pc lv (.int v :: .ref (za Z b) :: rest) μ := g_putIN C inTX5 tyX5_ok nmX5 (c := 4) rfl (by decide) rfl hb 4 (by decide) hlink rfl rfl rfl fI_4_4 he hd k
theorem gR_4_5 (C : Cx l Z ex X cc own nL ret) {index b : Nat} {r : Nat}  (hb : (zk Z b).1 = 4) (hlink : (Cond.fieldLink own index RX5 "customers" "[LWornDots$Customer;").before (xa X) (xs X) = true) (hr : μ.2.1 b 5 = some r) (hd : decode cc pc = .ok (.getfield index, 3)) (k : G Z X nL cells slots (pc + 3) lv (.ref (za Z r) :: rest) μ) : G Z X nL cells slots pc lv (.ref (za Z b) :: rest) μ := g_getf C inTX5 (c := 4) rfl (by decide) hb 5 (by decide) hlink (v := rv Z μ b 5) rfl hd (by show G Z X nL cells slots (pc + 3) lv (va_rf ((μ.2.1 b 5).map (za Z)) :: rest) μ; rw [hr]; exact k)
theorem gRN_4_5 (C : Cx l Z ex X cc own nL ret) {index b : Nat} {r : Nat}  (hb : (zk Z b).1 = 4) (hlink : (Cond.fieldLinkNest own index RX5 "customers" "[LWornDots$Customer;" "WornDots").before (xa X) (xs X) = true) (hr : μ.2.1 b 5 = some r) (hd : decode cc pc = .ok (.getfield index, 3)) (k : G Z X nL cells slots (pc + 3) lv (.ref (za Z r) :: rest) μ) : G Z X nL cells slots pc lv (.ref (za Z b) :: rest) μ := g_getfN C inTX5 (c := 4) rfl (by decide) hb 5 (by decide) hlink (v := rv Z μ b 5) rfl hd (by show G Z X nL cells slots (pc + 3) lv (va_rf ((μ.2.1 b 5).map (za Z)) :: rest) μ; rw [hr]; exact k)
theorem pF_4_5 (C : Cx l Z ex X cc own nL ret) {index b : Nat} {r : Nat}  (hb : (zk Z b).1 = 4) (hlink : (Cond.fieldLink own index RX5 "customers" "[LWornDots$Customer;").before (xa X) (xs X) = true) (hini : (xh X).name = "<init>") (hdecl : RX5 = own) (he : μ' = sR μ b 5 (some r)) (hd : decode cc pc = .ok (.putfield index, 3)) (k : G Z X nL cells slots (pc + 3) lv rest μ') : G Z X nL cells slots pc lv (.ref (za Z r) :: .ref (za Z b) :: rest) μ := g_putRF C inTX5 tyX5_ok nmX5 (c := 4) rfl (by decide) rfl hb 5 (by decide) hlink rfl hini hdecl rfl rfl fR_4_5 he hd k
theorem gI_4_6 (C : Cx l Z ex X cc own nL ret) {index b : Nat}  (hb : (zk Z b).1 = 4) (hlink : (Cond.fieldLink own index RX5 "customerCount" "I").before (xa X) (xs X) = true) (hd : decode cc pc = .ok (.getfield index, 3)) (k : G Z X nL cells slots (pc + 3) lv (.int (μ.1 b 6) :: rest) μ) : G Z X nL cells slots pc lv (.ref (za Z b) :: rest) μ := g_getf C inTX5 (c := 4) rfl (by decide) hb 6 (by decide) hlink (v := iv μ b 6) rfl hd k
theorem gIN_4_6 (C : Cx l Z ex X cc own nL ret) {index b : Nat}  (hb : (zk Z b).1 = 4) (hlink : (Cond.fieldLinkNest own index RX5 "customerCount" "I" "WornDots").before (xa X) (xs X) = true) (hd : decode cc pc = .ok (.getfield index, 3)) (k : G Z X nL cells slots (pc + 3) lv (.int (μ.1 b 6) :: rest) μ) : G Z X nL cells slots pc lv (.ref (za Z b) :: rest) μ := g_getfN C inTX5 (c := 4) rfl (by decide) hb 6 (by decide) hlink (v := iv μ b 6) rfl hd k
theorem pI_4_6 (C : Cx l Z ex X cc own nL ret) {index b : Nat} {v : Int32}  (hb : (zk Z b).1 = 4) (hlink : (Cond.fieldLink own index RX5 "customerCount" "I").before (xa X) (xs X) = true) (he : μ' = sI μ b 6 v) (hd : decode cc pc = .ok (.putfield index, 3)) (k : G Z X nL cells slots (pc + 3) lv rest μ') : G Z X nL cells slots pc lv (.int v :: .ref (za Z b) :: rest) μ := g_putI C inTX5 tyX5_ok nmX5 (c := 4) rfl (by decide) rfl hb 6 (by decide) hlink rfl rfl rfl fI_4_6 he hd k
theorem pIN_4_6 (C : Cx l Z ex X cc own nL ret) {index b : Nat} {v : Int32}  (hb : (zk Z b).1 = 4) (hlink : (Cond.fieldLinkNest own index RX5 "customerCount" "I" "WornDots").before (xa X) (xs X) = true) (he : μ' = sI μ b 6 v) (hd : decode cc pc = .ok (.putfield index, 3)) (k : G Z X nL cells slots (pc + 3) lv rest μ') : G Z X nL cells slots pc lv (.int v :: .ref (za Z b) :: rest) μ := g_putIN C inTX5 tyX5_ok nmX5 (c := 4) rfl (by decide) rfl hb 6 (by decide) hlink rfl rfl rfl fI_4_6 he hd k
theorem gI_4_7 (C : Cx l Z ex X cc own nL ret) {index b : Nat}  (hb : (zk Z b).1 = 4) (hlink : (Cond.fieldLink own index RX5 "lines" "I").before (xa X) (xs X) = true) (hd : decode cc pc = .ok (.getfield index, 3)) (k : G Z X nL cells slots (pc + 3) lv (.int (μ.1 b 7) :: rest) μ) : G Z X nL cells slots pc lv (.ref (za Z b) :: rest) μ := g_getf C inTX5 (c := 4) rfl (by decide) hb 7 (by decide) hlink (v := iv μ b 7) rfl hd k
theorem gIN_4_7 (C : Cx l Z ex X cc own nL ret) {index b : Nat}  (hb : (zk Z b).1 = 4) (hlink : (Cond.fieldLinkNest own index RX5 "lines" "I" "WornDots").before (xa X) (xs X) = true) (hd : decode cc pc = .ok (.getfield index, 3)) (k : G Z X nL cells slots (pc + 3) lv (.int (μ.1 b 7) :: rest) μ) : G Z X nL cells slots pc lv (.ref (za Z b) :: rest) μ := g_getfN C inTX5 (c := 4) rfl (by decide) hb 7 (by decide) hlink (v := iv μ b 7) rfl hd k
theorem pI_4_7 (C : Cx l Z ex X cc own nL ret) {index b : Nat} {v : Int32}  (hb : (zk Z b).1 = 4) (hlink : (Cond.fieldLink own index RX5 "lines" "I").before (xa X) (xs X) = true) (he : μ' = sI μ b 7 v) (hd : decode cc pc = .ok (.putfield index, 3)) (k : G Z X nL cells slots (pc + 3) lv rest μ') : G Z X nL cells slots pc lv (.int v :: .ref (za Z b) :: rest) μ := g_putI C inTX5 tyX5_ok nmX5 (c := 4) rfl (by decide) rfl hb 7 (by decide) hlink rfl rfl rfl fI_4_7 he hd k
theorem pIN_4_7 (C : Cx l Z ex X cc own nL ret) {index b : Nat} {v : Int32}  (hb : (zk Z b).1 = 4) (hlink : (Cond.fieldLinkNest own index RX5 "lines" "I" "WornDots").before (xa X) (xs X) = true) (he : μ' = sI μ b 7 v) (hd : decode cc pc = .ok (.putfield index, 3)) (k : G Z X nL cells slots (pc + 3) lv rest μ') : G Z X nL cells slots pc lv (.int v :: .ref (za Z b) :: rest) μ := g_putIN C inTX5 tyX5_ok nmX5 (c := 4) rfl (by decide) rfl hb 7 (by decide) hlink rfl rfl rfl fI_4_7 he hd k
theorem gR_5_0 (C : Cx l Z ex X cc own nL ret) {index b : Nat} {r : Nat}  (hb : (zk Z b).1 = 5) (hlink : (Cond.fieldLink own index RX7 "text" "LWornDots$CommandText;").before (xa X) (xs X) = true) (hr : μ.2.1 b 0 = some r) (hd : decode cc pc = .ok (.getfield index, 3)) (k : G Z X nL cells slots (pc + 3) lv (.ref (za Z r) :: rest) μ) : G Z X nL cells slots pc lv (.ref (za Z b) :: rest) μ := g_getf C inTX7 (c := 5) rfl (by decide) hb 0 (by decide) hlink (v := rv Z μ b 0) rfl hd (by show G Z X nL cells slots (pc + 3) lv (va_rf ((μ.2.1 b 0).map (za Z)) :: rest) μ; rw [hr]; exact k)
theorem gRN_5_0 (C : Cx l Z ex X cc own nL ret) {index b : Nat} {r : Nat}  (hb : (zk Z b).1 = 5) (hlink : (Cond.fieldLinkNest own index RX7 "text" "LWornDots$CommandText;" "WornDots").before (xa X) (xs X) = true) (hr : μ.2.1 b 0 = some r) (hd : decode cc pc = .ok (.getfield index, 3)) (k : G Z X nL cells slots (pc + 3) lv (.ref (za Z r) :: rest) μ) : G Z X nL cells slots pc lv (.ref (za Z b) :: rest) μ := g_getfN C inTX7 (c := 5) rfl (by decide) hb 0 (by decide) hlink (v := rv Z μ b 0) rfl hd (by show G Z X nL cells slots (pc + 3) lv (va_rf ((μ.2.1 b 0).map (za Z)) :: rest) μ; rw [hr]; exact k)
theorem pF_5_0 (C : Cx l Z ex X cc own nL ret) {index b : Nat} {r : Nat}  (hb : (zk Z b).1 = 5) (hlink : (Cond.fieldLink own index RX7 "text" "LWornDots$CommandText;").before (xa X) (xs X) = true) (hini : (xh X).name = "<init>") (hdecl : RX7 = own) (he : μ' = sR μ b 0 (some r)) (hd : decode cc pc = .ok (.putfield index, 3)) (k : G Z X nL cells slots (pc + 3) lv rest μ') : G Z X nL cells slots pc lv (.ref (za Z r) :: .ref (za Z b) :: rest) μ := g_putRF C inTX7 tyX7_ok nmX7 (c := 5) rfl (by decide) rfl hb 0 (by decide) hlink rfl hini hdecl rfl rfl fR_5_0 he hd k
theorem gR_5_1 (C : Cx l Z ex X cc own nL ret) {index b : Nat} {r : Nat}  (hb : (zk Z b).1 = 5) (hlink : (Cond.fieldLink own index RX7 "saved" "[LWornDots$State;").before (xa X) (xs X) = true) (hr : μ.2.1 b 1 = some r) (hd : decode cc pc = .ok (.getfield index, 3)) (k : G Z X nL cells slots (pc + 3) lv (.ref (za Z r) :: rest) μ) : G Z X nL cells slots pc lv (.ref (za Z b) :: rest) μ := g_getf C inTX7 (c := 5) rfl (by decide) hb 1 (by decide) hlink (v := rv Z μ b 1) rfl hd (by show G Z X nL cells slots (pc + 3) lv (va_rf ((μ.2.1 b 1).map (za Z)) :: rest) μ; rw [hr]; exact k)
theorem gRN_5_1 (C : Cx l Z ex X cc own nL ret) {index b : Nat} {r : Nat}  (hb : (zk Z b).1 = 5) (hlink : (Cond.fieldLinkNest own index RX7 "saved" "[LWornDots$State;" "WornDots").before (xa X) (xs X) = true) (hr : μ.2.1 b 1 = some r) (hd : decode cc pc = .ok (.getfield index, 3)) (k : G Z X nL cells slots (pc + 3) lv (.ref (za Z r) :: rest) μ) : G Z X nL cells slots pc lv (.ref (za Z b) :: rest) μ := g_getfN C inTX7 (c := 5) rfl (by decide) hb 1 (by decide) hlink (v := rv Z μ b 1) rfl hd (by show G Z X nL cells slots (pc + 3) lv (va_rf ((μ.2.1 b 1).map (za Z)) :: rest) μ; rw [hr]; exact k)
theorem pF_5_1 (C : Cx l Z ex X cc own nL ret) {index b : Nat} {r : Nat}  (hb : (zk Z b).1 = 5) (hlink : (Cond.fieldLink own index RX7 "saved" "[LWornDots$State;").before (xa X) (xs X) = true) (hini : (xh X).name = "<init>") (hdecl : RX7 = own) (he : μ' = sR μ b 1 (some r)) (hd : decode cc pc = .ok (.putfield index, 3)) (k : G Z X nL cells slots (pc + 3) lv rest μ') : G Z X nL cells slots pc lv (.ref (za Z r) :: .ref (za Z b) :: rest) μ := g_putRF C inTX7 tyX7_ok nmX7 (c := 5) rfl (by decide) rfl hb 1 (by decide) hlink rfl hini hdecl rfl rfl fR_5_1 he hd k
theorem gI_5_2 (C : Cx l Z ex X cc own nL ret) {index b : Nat}  (hb : (zk Z b).1 = 5) (hlink : (Cond.fieldLink own index RX7 "savedCount" "I").before (xa X) (xs X) = true) (hd : decode cc pc = .ok (.getfield index, 3)) (k : G Z X nL cells slots (pc + 3) lv (.int (μ.1 b 2) :: rest) μ) : G Z X nL cells slots pc lv (.ref (za Z b) :: rest) μ := g_getf C inTX7 (c := 5) rfl (by decide) hb 2 (by decide) hlink (v := iv μ b 2) rfl hd k
theorem gIN_5_2 (C : Cx l Z ex X cc own nL ret) {index b : Nat}  (hb : (zk Z b).1 = 5) (hlink : (Cond.fieldLinkNest own index RX7 "savedCount" "I" "WornDots").before (xa X) (xs X) = true) (hd : decode cc pc = .ok (.getfield index, 3)) (k : G Z X nL cells slots (pc + 3) lv (.int (μ.1 b 2) :: rest) μ) : G Z X nL cells slots pc lv (.ref (za Z b) :: rest) μ := g_getfN C inTX7 (c := 5) rfl (by decide) hb 2 (by decide) hlink (v := iv μ b 2) rfl hd k
theorem pI_5_2 (C : Cx l Z ex X cc own nL ret) {index b : Nat} {v : Int32}  (hb : (zk Z b).1 = 5) (hlink : (Cond.fieldLink own index RX7 "savedCount" "I").before (xa X) (xs X) = true) (he : μ' = sI μ b 2 v) (hd : decode cc pc = .ok (.putfield index, 3)) (k : G Z X nL cells slots (pc + 3) lv rest μ') : G Z X nL cells slots pc lv (.int v :: .ref (za Z b) :: rest) μ := g_putI C inTX7 tyX7_ok nmX7 (c := 5) rfl (by decide) rfl hb 2 (by decide) hlink rfl rfl rfl fI_5_2 he hd k
theorem pIN_5_2 (C : Cx l Z ex X cc own nL ret) {index b : Nat} {v : Int32}  (hb : (zk Z b).1 = 5) (hlink : (Cond.fieldLinkNest own index RX7 "savedCount" "I" "WornDots").before (xa X) (xs X) = true) (he : μ' = sI μ b 2 v) (hd : decode cc pc = .ok (.putfield index, 3)) (k : G Z X nL cells slots (pc + 3) lv rest μ') : G Z X nL cells slots pc lv (.int v :: .ref (za Z b) :: rest) μ := g_putIN C inTX7 tyX7_ok nmX7 (c := 5) rfl (by decide) rfl hb 2 (by decide) hlink rfl rfl rfl fI_5_2 he hd k
theorem gR_5_3 (C : Cx l Z ex X cc own nL ret) {index b : Nat} {r : Nat}  (hb : (zk Z b).1 = 5) (hlink : (Cond.fieldLink own index RX7 "now" "LWornDots$State;").before (xa X) (xs X) = true) (hr : μ.2.1 b 3 = some r) (hd : decode cc pc = .ok (.getfield index, 3)) (k : G Z X nL cells slots (pc + 3) lv (.ref (za Z r) :: rest) μ) : G Z X nL cells slots pc lv (.ref (za Z b) :: rest) μ := g_getf C inTX7 (c := 5) rfl (by decide) hb 3 (by decide) hlink (v := rv Z μ b 3) rfl hd (by show G Z X nL cells slots (pc + 3) lv (va_rf ((μ.2.1 b 3).map (za Z)) :: rest) μ; rw [hr]; exact k)
theorem gRN_5_3 (C : Cx l Z ex X cc own nL ret) {index b : Nat} {r : Nat}  (hb : (zk Z b).1 = 5) (hlink : (Cond.fieldLinkNest own index RX7 "now" "LWornDots$State;" "WornDots").before (xa X) (xs X) = true) (hr : μ.2.1 b 3 = some r) (hd : decode cc pc = .ok (.getfield index, 3)) (k : G Z X nL cells slots (pc + 3) lv (.ref (za Z r) :: rest) μ) : G Z X nL cells slots pc lv (.ref (za Z b) :: rest) μ := g_getfN C inTX7 (c := 5) rfl (by decide) hb 3 (by decide) hlink (v := rv Z μ b 3) rfl hd (by show G Z X nL cells slots (pc + 3) lv (va_rf ((μ.2.1 b 3).map (za Z)) :: rest) μ; rw [hr]; exact k)
theorem pF_5_3 (C : Cx l Z ex X cc own nL ret) {index b : Nat} {r : Nat}  (hb : (zk Z b).1 = 5) (hlink : (Cond.fieldLink own index RX7 "now" "LWornDots$State;").before (xa X) (xs X) = true) (hini : (xh X).name = "<init>") (hdecl : RX7 = own) (he : μ' = sR μ b 3 (some r)) (hd : decode cc pc = .ok (.putfield index, 3)) (k : G Z X nL cells slots (pc + 3) lv rest μ') : G Z X nL cells slots pc lv (.ref (za Z r) :: .ref (za Z b) :: rest) μ := g_putRF C inTX7 tyX7_ok nmX7 (c := 5) rfl (by decide) rfl hb 3 (by decide) hlink rfl hini hdecl rfl rfl fR_5_3 he hd k
theorem gR_6_0 (C : Cx l Z ex X cc own nL ret) {index b : Nat} {r : Nat}  (hb : (zk Z b).1 = 6) (hlink : (Cond.fieldLink own index RX8 "s" "[I").before (xa X) (xs X) = true) (hr : μ.2.1 b 0 = some r) (hd : decode cc pc = .ok (.getfield index, 3)) (k : G Z X nL cells slots (pc + 3) lv (.ref (za Z r) :: rest) μ) : G Z X nL cells slots pc lv (.ref (za Z b) :: rest) μ := g_getf C inTX8 (c := 6) rfl (by decide) hb 0 (by decide) hlink (v := rv Z μ b 0) rfl hd (by show G Z X nL cells slots (pc + 3) lv (va_rf ((μ.2.1 b 0).map (za Z)) :: rest) μ; rw [hr]; exact k)
theorem pF_6_0 (C : Cx l Z ex X cc own nL ret) {index b : Nat} {r : Nat}  (hb : (zk Z b).1 = 6) (hlink : (Cond.fieldLink own index RX8 "s" "[I").before (xa X) (xs X) = true) (hini : (xh X).name = "<init>") (hdecl : RX8 = own) (he : μ' = sR μ b 0 (some r)) (hd : decode cc pc = .ok (.putfield index, 3)) (k : G Z X nL cells slots (pc + 3) lv rest μ') : G Z X nL cells slots pc lv (.ref (za Z r) :: .ref (za Z b) :: rest) μ := g_putRF C inTX8 tyX8_ok nmX8 (c := 6) rfl (by decide) rfl hb 0 (by decide) hlink rfl hini hdecl rfl rfl fR_6_0 he hd k
theorem gR_6_1 (C : Cx l Z ex X cc own nL ret) {index b : Nat} {r : Nat}  (hb : (zk Z b).1 = 6) (hlink : (Cond.fieldLink own index RX8 "w" "[I").before (xa X) (xs X) = true) (hr : μ.2.1 b 1 = some r) (hd : decode cc pc = .ok (.getfield index, 3)) (k : G Z X nL cells slots (pc + 3) lv (.ref (za Z r) :: rest) μ) : G Z X nL cells slots pc lv (.ref (za Z b) :: rest) μ := g_getf C inTX8 (c := 6) rfl (by decide) hb 1 (by decide) hlink (v := rv Z μ b 1) rfl hd (by show G Z X nL cells slots (pc + 3) lv (va_rf ((μ.2.1 b 1).map (za Z)) :: rest) μ; rw [hr]; exact k)
theorem pF_6_1 (C : Cx l Z ex X cc own nL ret) {index b : Nat} {r : Nat}  (hb : (zk Z b).1 = 6) (hlink : (Cond.fieldLink own index RX8 "w" "[I").before (xa X) (xs X) = true) (hini : (xh X).name = "<init>") (hdecl : RX8 = own) (he : μ' = sR μ b 1 (some r)) (hd : decode cc pc = .ok (.putfield index, 3)) (k : G Z X nL cells slots (pc + 3) lv rest μ') : G Z X nL cells slots pc lv (.ref (za Z r) :: .ref (za Z b) :: rest) μ := g_putRF C inTX8 tyX8_ok nmX8 (c := 6) rfl (by decide) rfl hb 1 (by decide) hlink rfl hini hdecl rfl rfl fR_6_1 he hd k
theorem gR_6_2 (C : Cx l Z ex X cc own nL ret) {index b : Nat} {r : Nat}  (hb : (zk Z b).1 = 6) (hlink : (Cond.fieldLink own index RX8 "past" "[I").before (xa X) (xs X) = true) (hr : μ.2.1 b 2 = some r) (hd : decode cc pc = .ok (.getfield index, 3)) (k : G Z X nL cells slots (pc + 3) lv (.ref (za Z r) :: rest) μ) : G Z X nL cells slots pc lv (.ref (za Z b) :: rest) μ := g_getf C inTX8 (c := 6) rfl (by decide) hb 2 (by decide) hlink (v := rv Z μ b 2) rfl hd (by show G Z X nL cells slots (pc + 3) lv (va_rf ((μ.2.1 b 2).map (za Z)) :: rest) μ; rw [hr]; exact k)
theorem pF_6_2 (C : Cx l Z ex X cc own nL ret) {index b : Nat} {r : Nat}  (hb : (zk Z b).1 = 6) (hlink : (Cond.fieldLink own index RX8 "past" "[I").before (xa X) (xs X) = true) (hini : (xh X).name = "<init>") (hdecl : RX8 = own) (he : μ' = sR μ b 2 (some r)) (hd : decode cc pc = .ok (.putfield index, 3)) (k : G Z X nL cells slots (pc + 3) lv rest μ') : G Z X nL cells slots pc lv (.ref (za Z r) :: .ref (za Z b) :: rest) μ := g_putRF C inTX8 tyX8_ok nmX8 (c := 6) rfl (by decide) rfl hb 2 (by decide) hlink rfl hini hdecl rfl rfl fR_6_2 he hd k
theorem gI_6_3 (C : Cx l Z ex X cc own nL ret) {index b : Nat}  (hb : (zk Z b).1 = 6) (hlink : (Cond.fieldLink own index RX8 "pasts" "I").before (xa X) (xs X) = true) (hd : decode cc pc = .ok (.getfield index, 3)) (k : G Z X nL cells slots (pc + 3) lv (.int (μ.1 b 3) :: rest) μ) : G Z X nL cells slots pc lv (.ref (za Z b) :: rest) μ := g_getf C inTX8 (c := 6) rfl (by decide) hb 3 (by decide) hlink (v := iv μ b 3) rfl hd k
theorem pI_6_3 (C : Cx l Z ex X cc own nL ret) {index b : Nat} {v : Int32}  (hb : (zk Z b).1 = 6) (hlink : (Cond.fieldLink own index RX8 "pasts" "I").before (xa X) (xs X) = true) (he : μ' = sI μ b 3 v) (hd : decode cc pc = .ok (.putfield index, 3)) (k : G Z X nL cells slots (pc + 3) lv rest μ') : G Z X nL cells slots pc lv (.int v :: .ref (za Z b) :: rest) μ := g_putI C inTX8 tyX8_ok nmX8 (c := 6) rfl (by decide) rfl hb 3 (by decide) hlink rfl rfl rfl fI_6_3 he hd k
theorem gI_6_4 (C : Cx l Z ex X cc own nL ret) {index b : Nat}  (hb : (zk Z b).1 = 6) (hlink : (Cond.fieldLink own index RX8 "runs" "Z").before (xa X) (xs X) = true) (hd : decode cc pc = .ok (.getfield index, 3)) (k : G Z X nL cells slots (pc + 3) lv (.int (μ.1 b 4) :: rest) μ) : G Z X nL cells slots pc lv (.ref (za Z b) :: rest) μ := g_getf C inTX8 (c := 6) rfl (by decide) hb 4 (by decide) hlink (v := iv μ b 4) rfl hd k
theorem pI_6_4 (C : Cx l Z ex X cc own nL ret) {index b : Nat} {v : Int32}  (hb : (zk Z b).1 = 6) (hz : v = 0 ∨ v = 1) (hlink : (Cond.fieldLink own index RX8 "runs" "Z").before (xa X) (xs X) = true) (he : μ' = sI μ b 4 v) (hd : decode cc pc = .ok (.putfield index, 3)) (k : G Z X nL cells slots (pc + 3) lv rest μ') : G Z X nL cells slots pc lv (.int v :: .ref (za Z b) :: rest) μ := g_putI C inTX8 tyX8_ok nmX8 (c := 6) rfl (by decide) rfl hb 4 (by decide) hlink rfl (by rcases hz with rfl | rfl <;> rfl) (by rcases hz with rfl | rfl <;> rfl) fI_6_4 he hd k
theorem gR_6_5 (C : Cx l Z ex X cc own nL ret) {index b : Nat} {r : Nat}  (hb : (zk Z b).1 = 6) (hlink : (Cond.fieldLink own index RX8 "text" "[I").before (xa X) (xs X) = true) (hr : μ.2.1 b 5 = some r) (hd : decode cc pc = .ok (.getfield index, 3)) (k : G Z X nL cells slots (pc + 3) lv (.ref (za Z r) :: rest) μ) : G Z X nL cells slots pc lv (.ref (za Z b) :: rest) μ := g_getf C inTX8 (c := 6) rfl (by decide) hb 5 (by decide) hlink (v := rv Z μ b 5) rfl hd (by show G Z X nL cells slots (pc + 3) lv (va_rf ((μ.2.1 b 5).map (za Z)) :: rest) μ; rw [hr]; exact k)
theorem pF_6_5 (C : Cx l Z ex X cc own nL ret) {index b : Nat} {r : Nat}  (hb : (zk Z b).1 = 6) (hlink : (Cond.fieldLink own index RX8 "text" "[I").before (xa X) (xs X) = true) (hini : (xh X).name = "<init>") (hdecl : RX8 = own) (he : μ' = sR μ b 5 (some r)) (hd : decode cc pc = .ok (.putfield index, 3)) (k : G Z X nL cells slots (pc + 3) lv rest μ') : G Z X nL cells slots pc lv (.ref (za Z r) :: .ref (za Z b) :: rest) μ := g_putRF C inTX8 tyX8_ok nmX8 (c := 6) rfl (by decide) rfl hb 5 (by decide) hlink rfl hini hdecl rfl rfl fR_6_5 he hd k
theorem gI_6_6 (C : Cx l Z ex X cc own nL ret) {index b : Nat}  (hb : (zk Z b).1 = 6) (hlink : (Cond.fieldLink own index RX8 "typed" "I").before (xa X) (xs X) = true) (hd : decode cc pc = .ok (.getfield index, 3)) (k : G Z X nL cells slots (pc + 3) lv (.int (μ.1 b 6) :: rest) μ) : G Z X nL cells slots pc lv (.ref (za Z b) :: rest) μ := g_getf C inTX8 (c := 6) rfl (by decide) hb 6 (by decide) hlink (v := iv μ b 6) rfl hd k
theorem pI_6_6 (C : Cx l Z ex X cc own nL ret) {index b : Nat} {v : Int32}  (hb : (zk Z b).1 = 6) (hlink : (Cond.fieldLink own index RX8 "typed" "I").before (xa X) (xs X) = true) (he : μ' = sI μ b 6 v) (hd : decode cc pc = .ok (.putfield index, 3)) (k : G Z X nL cells slots (pc + 3) lv rest μ') : G Z X nL cells slots pc lv (.int v :: .ref (za Z b) :: rest) μ := g_putI C inTX8 tyX8_ok nmX8 (c := 6) rfl (by decide) rfl hb 6 (by decide) hlink rfl rfl rfl fI_6_6 he hd k
theorem gI_6_7 (C : Cx l Z ex X cc own nL ret) {index b : Nat}  (hb : (zk Z b).1 = 6) (hlink : (Cond.fieldLink own index RX8 "refused" "I").before (xa X) (xs X) = true) (hd : decode cc pc = .ok (.getfield index, 3)) (k : G Z X nL cells slots (pc + 3) lv (.int (μ.1 b 7) :: rest) μ) : G Z X nL cells slots pc lv (.ref (za Z b) :: rest) μ := g_getf C inTX8 (c := 6) rfl (by decide) hb 7 (by decide) hlink (v := iv μ b 7) rfl hd k
theorem pI_6_7 (C : Cx l Z ex X cc own nL ret) {index b : Nat} {v : Int32}  (hb : (zk Z b).1 = 6) (hlink : (Cond.fieldLink own index RX8 "refused" "I").before (xa X) (xs X) = true) (he : μ' = sI μ b 7 v) (hd : decode cc pc = .ok (.putfield index, 3)) (k : G Z X nL cells slots (pc + 3) lv rest μ') : G Z X nL cells slots pc lv (.int v :: .ref (za Z b) :: rest) μ := g_putI C inTX8 tyX8_ok nmX8 (c := 6) rfl (by decide) rfl hb 7 (by decide) hlink rfl rfl rfl fI_6_7 he hd k
theorem gI_6_8 (C : Cx l Z ex X cc own nL ret) {index b : Nat}  (hb : (zk Z b).1 = 6) (hlink : (Cond.fieldLink own index RX8 "spot" "I").before (xa X) (xs X) = true) (hd : decode cc pc = .ok (.getfield index, 3)) (k : G Z X nL cells slots (pc + 3) lv (.int (μ.1 b 8) :: rest) μ) : G Z X nL cells slots pc lv (.ref (za Z b) :: rest) μ := g_getf C inTX8 (c := 6) rfl (by decide) hb 8 (by decide) hlink (v := iv μ b 8) rfl hd k
theorem pI_6_8 (C : Cx l Z ex X cc own nL ret) {index b : Nat} {v : Int32}  (hb : (zk Z b).1 = 6) (hlink : (Cond.fieldLink own index RX8 "spot" "I").before (xa X) (xs X) = true) (he : μ' = sI μ b 8 v) (hd : decode cc pc = .ok (.putfield index, 3)) (k : G Z X nL cells slots (pc + 3) lv rest μ') : G Z X nL cells slots pc lv (.int v :: .ref (za Z b) :: rest) μ := g_putI C inTX8 tyX8_ok nmX8 (c := 6) rfl (by decide) rfl hb 8 (by decide) hlink rfl rfl rfl fI_6_8 he hd k
theorem gI_6_9 (C : Cx l Z ex X cc own nL ret) {index b : Nat}  (hb : (zk Z b).1 = 6) (hlink : (Cond.fieldLink own index RX8 "command" "I").before (xa X) (xs X) = true) (hd : decode cc pc = .ok (.getfield index, 3)) (k : G Z X nL cells slots (pc + 3) lv (.int (μ.1 b 9) :: rest) μ) : G Z X nL cells slots pc lv (.ref (za Z b) :: rest) μ := g_getf C inTX8 (c := 6) rfl (by decide) hb 9 (by decide) hlink (v := iv μ b 9) rfl hd k
theorem pI_6_9 (C : Cx l Z ex X cc own nL ret) {index b : Nat} {v : Int32}  (hb : (zk Z b).1 = 6) (hlink : (Cond.fieldLink own index RX8 "command" "I").before (xa X) (xs X) = true) (he : μ' = sI μ b 9 v) (hd : decode cc pc = .ok (.putfield index, 3)) (k : G Z X nL cells slots (pc + 3) lv rest μ') : G Z X nL cells slots pc lv (.int v :: .ref (za Z b) :: rest) μ := g_putI C inTX8 tyX8_ok nmX8 (c := 6) rfl (by decide) rfl hb 9 (by decide) hlink rfl rfl rfl fI_6_9 he hd k
theorem gR_6_10 (C : Cx l Z ex X cc own nL ret) {index b : Nat} {r : Nat}  (hb : (zk Z b).1 = 6) (hlink : (Cond.fieldLink own index RX8 "read" "[I").before (xa X) (xs X) = true) (hr : μ.2.1 b 10 = some r) (hd : decode cc pc = .ok (.getfield index, 3)) (k : G Z X nL cells slots (pc + 3) lv (.ref (za Z r) :: rest) μ) : G Z X nL cells slots pc lv (.ref (za Z b) :: rest) μ := g_getf C inTX8 (c := 6) rfl (by decide) hb 10 (by decide) hlink (v := rv Z μ b 10) rfl hd (by show G Z X nL cells slots (pc + 3) lv (va_rf ((μ.2.1 b 10).map (za Z)) :: rest) μ; rw [hr]; exact k)
theorem pF_6_10 (C : Cx l Z ex X cc own nL ret) {index b : Nat} {r : Nat}  (hb : (zk Z b).1 = 6) (hlink : (Cond.fieldLink own index RX8 "read" "[I").before (xa X) (xs X) = true) (hini : (xh X).name = "<init>") (hdecl : RX8 = own) (he : μ' = sR μ b 10 (some r)) (hd : decode cc pc = .ok (.putfield index, 3)) (k : G Z X nL cells slots (pc + 3) lv rest μ') : G Z X nL cells slots pc lv (.ref (za Z r) :: .ref (za Z b) :: rest) μ := g_putRF C inTX8 tyX8_ok nmX8 (c := 6) rfl (by decide) rfl hb 10 (by decide) hlink rfl hini hdecl rfl rfl fR_6_10 he hd k
theorem gA_9 (C : Cx l Z ex X cc own nL ret) {a r : Nat} {i : Int32} (ha : (zk Z a).1 = 9) (hi : inb i (zk Z a).2) (hr : μ.2.1 a (ix i) = some r) (hd : decode cc pc = .ok (.aaload, 1)) (k : G Z X nL cells slots (pc + 1) lv (.ref (za Z r) :: rest) μ) : G Z X nL cells slots pc lv (.int i :: .ref (za Z a) :: rest) μ := g_aald (c := 9) C "WornDots$Customer" 2 rfl (by decide) (by decide) ha hi hd hr k
theorem pA_9 (C : Cx l Z ex X cc own nL ret) {a r : Nat} {i : Int32} (ha : (zk Z a).1 = 9) (hi : inb i (zk Z a).2) (hr : (zk Z r).1 = 1) (he : μ' = sR μ a (ix i) (some r)) (hd : decode cc pc = .ok (.aastore, 1)) (k : G Z X nL cells slots (pc + 1) lv rest μ') : G Z X nL cells slots pc lv (.ref (za Z r) :: .int i :: .ref (za Z a) :: rest) μ := g_aast (c := 9) (c2 := 1) C 2 rfl (by decide) (by decide) ha hi hr (by decide) rfl he hd k
theorem gA_10 (C : Cx l Z ex X cc own nL ret) {a r : Nat} {i : Int32} (ha : (zk Z a).1 = 10) (hi : inb i (zk Z a).2) (hr : μ.2.1 a (ix i) = some r) (hd : decode cc pc = .ok (.aaload, 1)) (k : G Z X nL cells slots (pc + 1) lv (.ref (za Z r) :: rest) μ) : G Z X nL cells slots pc lv (.int i :: .ref (za Z a) :: rest) μ := g_aald (c := 10) C "WornDots$Label" 3 rfl (by decide) (by decide) ha hi hd hr k
theorem pA_10 (C : Cx l Z ex X cc own nL ret) {a r : Nat} {i : Int32} (ha : (zk Z a).1 = 10) (hi : inb i (zk Z a).2) (hr : (zk Z r).1 = 3) (he : μ' = sR μ a (ix i) (some r)) (hd : decode cc pc = .ok (.aastore, 1)) (k : G Z X nL cells slots (pc + 1) lv rest μ') : G Z X nL cells slots pc lv (.ref (za Z r) :: .int i :: .ref (za Z a) :: rest) μ := g_aast (c := 10) (c2 := 3) C 3 rfl (by decide) (by decide) ha hi hr (by decide) rfl he hd k
theorem gA_11 (C : Cx l Z ex X cc own nL ret) {a r : Nat} {i : Int32} (ha : (zk Z a).1 = 11) (hi : inb i (zk Z a).2) (hr : μ.2.1 a (ix i) = some r) (hd : decode cc pc = .ok (.aaload, 1)) (k : G Z X nL cells slots (pc + 1) lv (.ref (za Z r) :: rest) μ) : G Z X nL cells slots pc lv (.int i :: .ref (za Z a) :: rest) μ := g_aald (c := 11) C "WornDots$State" 4 rfl (by decide) (by decide) ha hi hd hr k
theorem pA_11 (C : Cx l Z ex X cc own nL ret) {a r : Nat} {i : Int32} (ha : (zk Z a).1 = 11) (hi : inb i (zk Z a).2) (hr : (zk Z r).1 = 4) (he : μ' = sR μ a (ix i) (some r)) (hd : decode cc pc = .ok (.aastore, 1)) (k : G Z X nL cells slots (pc + 1) lv rest μ') : G Z X nL cells slots pc lv (.ref (za Z r) :: .int i :: .ref (za Z a) :: rest) μ := g_aast (c := 11) (c2 := 4) C 4 rfl (by decide) (by decide) ha hi hr (by decide) rfl he hd k
end Rows
end CoreD
end
section
/-! the words of the tables that the rows use, each by its place -/
theorem nf_0 {l : Launch} {Z : ZZ} {ex : Bool} {X : XX} {cc : ByteArray} {nL : Nat} {ret : Option FieldType} (C : Cx l Z ex X cc RX7 nL ret) : (Cond.fieldLinkNest RX7 141 RX1 "length" "I" "WornDots").before (xa X) (xs X) = true := va_Nw.use rfl (C.nw.1 ("WornDots", 141, "WornDots$CommandText", "length", "I", "WornDots") (List.mem_of_getElem? (i := 0) rfl))
theorem nf_1 {l : Launch} {Z : ZZ} {ex : Bool} {X : XX} {cc : ByteArray} {nL : Nat} {ret : Option FieldType} (C : Cx l Z ex X cc RX7 nL ret) : (Cond.fieldLinkNest RX7 195 RX1 "word" "LWornDots$Word;" "WornDots").before (xa X) (xs X) = true := va_Nw.use rfl (C.nw.1 ("WornDots", 195, "WornDots$CommandText", "word", "LWornDots$Word;", "WornDots") (List.mem_of_getElem? (i := 1) rfl))
theorem nf_2 {l : Launch} {Z : ZZ} {ex : Bool} {X : XX} {cc : ByteArray} {nL : Nat} {ret : Option FieldType} (C : Cx l Z ex X cc RX7 nL ret) : (Cond.fieldLinkNest RX7 199 RX1 "numbers" "[I" "WornDots").before (xa X) (xs X) = true := va_Nw.use rfl (C.nw.1 ("WornDots", 199, "WornDots$CommandText", "numbers", "[I", "WornDots") (List.mem_of_getElem? (i := 2) rfl))
theorem nf_3 {l : Launch} {Z : ZZ} {ex : Bool} {X : XX} {cc : ByteArray} {nL : Nat} {ret : Option FieldType} (C : Cx l Z ex X cc RX5 nL ret) : (Cond.fieldLinkNest RX5 68 RX3 "dots" "I" "WornDots").before (xa X) (xs X) = true := va_Nw.use rfl (C.nw.1 ("WornDots$State", 68, "WornDots$Head", "dots", "I", "WornDots") (List.mem_of_getElem? (i := 3) rfl))
theorem nf_4 {l : Launch} {Z : ZZ} {ex : Bool} {X : XX} {cc : ByteArray} {nL : Nat} {ret : Option FieldType} (C : Cx l Z ex X cc RX7 nL ret) : (Cond.fieldLinkNest RX7 238 RX3 "dots" "I" "WornDots").before (xa X) (xs X) = true := va_Nw.use rfl (C.nw.1 ("WornDots", 238, "WornDots$Head", "dots", "I", "WornDots") (List.mem_of_getElem? (i := 4) rfl))
theorem nf_5 {l : Launch} {Z : ZZ} {ex : Bool} {X : XX} {cc : ByteArray} {nL : Nat} {ret : Option FieldType} (C : Cx l Z ex X cc RX5 nL ret) : (Cond.fieldLinkNest RX5 194 RX3 "burntInAll" "I" "WornDots").before (xa X) (xs X) = true := va_Nw.use rfl (C.nw.1 ("WornDots$State", 194, "WornDots$Head", "burntInAll", "I", "WornDots") (List.mem_of_getElem? (i := 5) rfl))
theorem nf_6 {l : Launch} {Z : ZZ} {ex : Bool} {X : XX} {cc : ByteArray} {nL : Nat} {ret : Option FieldType} (C : Cx l Z ex X cc RX5 nL ret) : (Cond.fieldLinkNest RX5 180 RX3 "heat" "[I" "WornDots").before (xa X) (xs X) = true := va_Nw.use rfl (C.nw.1 ("WornDots$State", 180, "WornDots$Head", "heat", "[I", "WornDots") (List.mem_of_getElem? (i := 6) rfl))
theorem nf_7 {l : Launch} {Z : ZZ} {ex : Bool} {X : XX} {cc : ByteArray} {nL : Nat} {ret : Option FieldType} (C : Cx l Z ex X cc RX5 nL ret) : (Cond.fieldLinkNest RX5 107 RX3 "wear" "[I" "WornDots").before (xa X) (xs X) = true := va_Nw.use rfl (C.nw.1 ("WornDots$State", 107, "WornDots$Head", "wear", "[I", "WornDots") (List.mem_of_getElem? (i := 7) rfl))
theorem nf_8 {l : Launch} {Z : ZZ} {ex : Bool} {X : XX} {cc : ByteArray} {nL : Nat} {ret : Option FieldType} (C : Cx l Z ex X cc RX5 nL ret) : (Cond.fieldLinkNest RX5 187 RX3 "burnt" "[I" "WornDots").before (xa X) (xs X) = true := va_Nw.use rfl (C.nw.1 ("WornDots$State", 187, "WornDots$Head", "burnt", "[I", "WornDots") (List.mem_of_getElem? (i := 8) rfl))
theorem nf_9 {l : Launch} {Z : ZZ} {ex : Bool} {X : XX} {cc : ByteArray} {nL : Nat} {ret : Option FieldType} (C : Cx l Z ex X cc RX5 nL ret) : (Cond.fieldLinkNest RX5 37 "WornDots" "FIRST_SETTING" "[I" "WornDots").before (xa X) (xs X) = true := va_Nw.use rfl (C.nw.1 ("WornDots$State", 37, "WornDots", "FIRST_SETTING", "[I", "WornDots") (List.mem_of_getElem? (i := 9) rfl))
theorem nf_10 {l : Launch} {Z : ZZ} {ex : Bool} {X : XX} {cc : ByteArray} {nL : Nat} {ret : Option FieldType} (C : Cx l Z ex X cc RX5 nL ret) : (Cond.fieldLinkNest RX5 88 RX4 "width" "I" "WornDots").before (xa X) (xs X) = true := va_Nw.use rfl (C.nw.1 ("WornDots$State", 88, "WornDots$Label", "width", "I", "WornDots") (List.mem_of_getElem? (i := 10) rfl))
theorem nf_11 {l : Launch} {Z : ZZ} {ex : Bool} {X : XX} {cc : ByteArray} {nL : Nat} {ret : Option FieldType} (C : Cx l Z ex X cc RX3 nL ret) : (Cond.fieldLinkNest RX3 38 RX4 "width" "I" "WornDots").before (xa X) (xs X) = true := va_Nw.use rfl (C.nw.1 ("WornDots$Head", 38, "WornDots$Label", "width", "I", "WornDots") (List.mem_of_getElem? (i := 11) rfl))
theorem nf_12 {l : Launch} {Z : ZZ} {ex : Bool} {X : XX} {cc : ByteArray} {nL : Nat} {ret : Option FieldType} (C : Cx l Z ex X cc RX5 nL ret) : (Cond.fieldLinkNest RX5 91 RX4 "blackness" "I" "WornDots").before (xa X) (xs X) = true := va_Nw.use rfl (C.nw.1 ("WornDots$State", 91, "WornDots$Label", "blackness", "I", "WornDots") (List.mem_of_getElem? (i := 12) rfl))
theorem nf_13 {l : Launch} {Z : ZZ} {ex : Bool} {X : XX} {cc : ByteArray} {nL : Nat} {ret : Option FieldType} (C : Cx l Z ex X cc RX3 nL ret) : (Cond.fieldLinkNest RX3 50 RX4 "blackness" "I" "WornDots").before (xa X) (xs X) = true := va_Nw.use rfl (C.nw.1 ("WornDots$Head", 50, "WornDots$Label", "blackness", "I", "WornDots") (List.mem_of_getElem? (i := 13) rfl))
theorem nf_14 {l : Launch} {Z : ZZ} {ex : Bool} {X : XX} {cc : ByteArray} {nL : Nat} {ret : Option FieldType} (C : Cx l Z ex X cc RX5 nL ret) : (Cond.fieldLinkNest RX5 162 RX4 "printed" "I" "WornDots").before (xa X) (xs X) = true := va_Nw.use rfl (C.nw.1 ("WornDots$State", 162, "WornDots$Label", "printed", "I", "WornDots") (List.mem_of_getElem? (i := 14) rfl))
theorem nf_15 {l : Launch} {Z : ZZ} {ex : Bool} {X : XX} {cc : ByteArray} {nL : Nat} {ret : Option FieldType} (C : Cx l Z ex X cc RX5 nL ret) : (Cond.fieldLinkNest RX5 169 RX4 "failed" "I" "WornDots").before (xa X) (xs X) = true := va_Nw.use rfl (C.nw.1 ("WornDots$State", 169, "WornDots$Label", "failed", "I", "WornDots") (List.mem_of_getElem? (i := 15) rfl))
theorem nf_16 {l : Launch} {Z : ZZ} {ex : Bool} {X : XX} {cc : ByteArray} {nL : Nat} {ret : Option FieldType} (C : Cx l Z ex X cc RX3 nL ret) : (Cond.fieldLinkNest RX3 43 RX4 "rows" "[I" "WornDots").before (xa X) (xs X) = true := va_Nw.use rfl (C.nw.1 ("WornDots$Head", 43, "WornDots$Label", "rows", "[I", "WornDots") (List.mem_of_getElem? (i := 16) rfl))
theorem nf_17 {l : Launch} {Z : ZZ} {ex : Bool} {X : XX} {cc : ByteArray} {nL : Nat} {ret : Option FieldType} (C : Cx l Z ex X cc RX5 nL ret) : (Cond.fieldLinkNest RX5 101 RX4 "rows" "[I" "WornDots").before (xa X) (xs X) = true := va_Nw.use rfl (C.nw.1 ("WornDots$State", 101, "WornDots$Label", "rows", "[I", "WornDots") (List.mem_of_getElem? (i := 17) rfl))
theorem nf_18 {l : Launch} {Z : ZZ} {ex : Bool} {X : XX} {cc : ByteArray} {nL : Nat} {ret : Option FieldType} (C : Cx l Z ex X cc RX7 nL ret) : (Cond.fieldLinkNest RX7 127 RX4 "rows" "[I" "WornDots").before (xa X) (xs X) = true := va_Nw.use rfl (C.nw.1 ("WornDots", 127, "WornDots$Label", "rows", "[I", "WornDots") (List.mem_of_getElem? (i := 18) rfl))
theorem nf_19 {l : Launch} {Z : ZZ} {ex : Bool} {X : XX} {cc : ByteArray} {nL : Nat} {ret : Option FieldType} (C : Cx l Z ex X cc RX5 nL ret) : (Cond.fieldLinkNest RX5 126 RX2 "first" "I" "WornDots").before (xa X) (xs X) = true := va_Nw.use rfl (C.nw.1 ("WornDots$State", 126, "WornDots$Customer", "first", "I", "WornDots") (List.mem_of_getElem? (i := 19) rfl))
theorem nf_20 {l : Launch} {Z : ZZ} {ex : Bool} {X : XX} {cc : ByteArray} {nL : Nat} {ret : Option FieldType} (C : Cx l Z ex X cc RX5 nL ret) : (Cond.fieldLinkNest RX5 129 RX2 "last" "I" "WornDots").before (xa X) (xs X) = true := va_Nw.use rfl (C.nw.1 ("WornDots$State", 129, "WornDots$Customer", "last", "I", "WornDots") (List.mem_of_getElem? (i := 20) rfl))
theorem nf_21 {l : Launch} {Z : ZZ} {ex : Bool} {X : XX} {cc : ByteArray} {nL : Nat} {ret : Option FieldType} (C : Cx l Z ex X cc RX5 nL ret) : (Cond.fieldLinkNest RX5 156 RX2 "paid" "I" "WornDots").before (xa X) (xs X) = true := va_Nw.use rfl (C.nw.1 ("WornDots$State", 156, "WornDots$Customer", "paid", "I", "WornDots") (List.mem_of_getElem? (i := 21) rfl))
theorem nf_22 {l : Launch} {Z : ZZ} {ex : Bool} {X : XX} {cc : ByteArray} {nL : Nat} {ret : Option FieldType} (C : Cx l Z ex X cc RX5 nL ret) : (Cond.fieldLinkNest RX5 163 RX2 "paidBack" "I" "WornDots").before (xa X) (xs X) = true := va_Nw.use rfl (C.nw.1 ("WornDots$State", 163, "WornDots$Customer", "paidBack", "I", "WornDots") (List.mem_of_getElem? (i := 22) rfl))
theorem nf_23 {l : Launch} {Z : ZZ} {ex : Bool} {X : XX} {cc : ByteArray} {nL : Nat} {ret : Option FieldType} (C : Cx l Z ex X cc RX5 nL ret) : (Cond.fieldLinkNest RX5 159 RX2 "printed" "I" "WornDots").before (xa X) (xs X) = true := va_Nw.use rfl (C.nw.1 ("WornDots$State", 159, "WornDots$Customer", "printed", "I", "WornDots") (List.mem_of_getElem? (i := 23) rfl))
theorem nf_24 {l : Launch} {Z : ZZ} {ex : Bool} {X : XX} {cc : ByteArray} {nL : Nat} {ret : Option FieldType} (C : Cx l Z ex X cc RX5 nL ret) : (Cond.fieldLinkNest RX5 166 RX2 "failed" "I" "WornDots").before (xa X) (xs X) = true := va_Nw.use rfl (C.nw.1 ("WornDots$State", 166, "WornDots$Customer", "failed", "I", "WornDots") (List.mem_of_getElem? (i := 24) rfl))
theorem nf_25 {l : Launch} {Z : ZZ} {ex : Bool} {X : XX} {cc : ByteArray} {nL : Nat} {ret : Option FieldType} (C : Cx l Z ex X cc RX7 nL ret) : (Cond.fieldLinkNest RX7 169 RX5 "head" "LWornDots$Head;" "WornDots").before (xa X) (xs X) = true := va_Nw.use rfl (C.nw.1 ("WornDots", 169, "WornDots$State", "head", "LWornDots$Head;", "WornDots") (List.mem_of_getElem? (i := 25) rfl))
theorem nf_26 {l : Launch} {Z : ZZ} {ex : Bool} {X : XX} {cc : ByteArray} {nL : Nat} {ret : Option FieldType} (C : Cx l Z ex X cc RX7 nL ret) : (Cond.fieldLinkNest RX7 118 RX5 "labels" "[LWornDots$Label;" "WornDots").before (xa X) (xs X) = true := va_Nw.use rfl (C.nw.1 ("WornDots", 118, "WornDots$State", "labels", "[LWornDots$Label;", "WornDots") (List.mem_of_getElem? (i := 26) rfl))
theorem nf_27 {l : Launch} {Z : ZZ} {ex : Bool} {X : XX} {cc : ByteArray} {nL : Nat} {ret : Option FieldType} (C : Cx l Z ex X cc RX7 nL ret) : (Cond.fieldLinkNest RX7 241 RX5 "labelCount" "I" "WornDots").before (xa X) (xs X) = true := va_Nw.use rfl (C.nw.1 ("WornDots", 241, "WornDots$State", "labelCount", "I", "WornDots") (List.mem_of_getElem? (i := 27) rfl))
theorem nf_28 {l : Launch} {Z : ZZ} {ex : Bool} {X : XX} {cc : ByteArray} {nL : Nat} {ret : Option FieldType} (C : Cx l Z ex X cc RX7 nL ret) : (Cond.fieldLinkNest RX7 134 RX5 "customers" "[LWornDots$Customer;" "WornDots").before (xa X) (xs X) = true := va_Nw.use rfl (C.nw.1 ("WornDots", 134, "WornDots$State", "customers", "[LWornDots$Customer;", "WornDots") (List.mem_of_getElem? (i := 28) rfl))
theorem nf_29 {l : Launch} {Z : ZZ} {ex : Bool} {X : XX} {cc : ByteArray} {nL : Nat} {ret : Option FieldType} (C : Cx l Z ex X cc RX7 nL ret) : (Cond.fieldLinkNest RX7 244 RX5 "customerCount" "I" "WornDots").before (xa X) (xs X) = true := va_Nw.use rfl (C.nw.1 ("WornDots", 244, "WornDots$State", "customerCount", "I", "WornDots") (List.mem_of_getElem? (i := 29) rfl))
theorem nf_30 {l : Launch} {Z : ZZ} {ex : Bool} {X : XX} {cc : ByteArray} {nL : Nat} {ret : Option FieldType} (C : Cx l Z ex X cc RX1 nL ret) : (Cond.fieldLinkNest RX1 64 "WornDots" "WORDS" "[LWornDots$Word;" "WornDots").before (xa X) (xs X) = true := va_Nw.use rfl (C.nw.1 ("WornDots$CommandText", 64, "WornDots", "WORDS", "[LWornDots$Word;", "WornDots") (List.mem_of_getElem? (i := 30) rfl))
theorem nf_31 {l : Launch} {Z : ZZ} {ex : Bool} {X : XX} {cc : ByteArray} {nL : Nat} {ret : Option FieldType} (C : Cx l Z ex X cc RX5 nL ret) : (Cond.fieldLinkNest RX5 82 "WornDots" "LOWEST_SETTING" "[I" "WornDots").before (xa X) (xs X) = true := va_Nw.use rfl (C.nw.1 ("WornDots$State", 82, "WornDots", "LOWEST_SETTING", "[I", "WornDots") (List.mem_of_getElem? (i := 31) rfl))
theorem nf_32 {l : Launch} {Z : ZZ} {ex : Bool} {X : XX} {cc : ByteArray} {nL : Nat} {ret : Option FieldType} (C : Cx l Z ex X cc RX5 nL ret) : (Cond.fieldLinkNest RX5 85 "WornDots" "HIGHEST_SETTING" "[I" "WornDots").before (xa X) (xs X) = true := va_Nw.use rfl (C.nw.1 ("WornDots$State", 85, "WornDots", "HIGHEST_SETTING", "[I", "WornDots") (List.mem_of_getElem? (i := 32) rfl))
theorem nf_33 {l : Launch} {Z : ZZ} {ex : Bool} {X : XX} {cc : ByteArray} {nL : Nat} {ret : Option FieldType} (C : Cx l Z ex X cc RX1 nL ret) : (Cond.fieldLinkNest RX1 68 "WornDots$Word" "letters" "Ljava/lang/String;" "WornDots").before (xa X) (xs X) = true := va_Nw.use rfl (C.nw.1 ("WornDots$CommandText", 68, "WornDots$Word", "letters", "Ljava/lang/String;", "WornDots") (List.mem_of_getElem? (i := 33) rfl))
theorem nf_34 {l : Launch} {Z : ZZ} {ex : Bool} {X : XX} {cc : ByteArray} {nL : Nat} {ret : Option FieldType} (C : Cx l Z ex X cc RX1 nL ret) : (Cond.fieldLinkNest RX1 55 "WornDots$Word" "numbers" "I" "WornDots").before (xa X) (xs X) = true := va_Nw.use rfl (C.nw.1 ("WornDots$CommandText", 55, "WornDots$Word", "numbers", "I", "WornDots") (List.mem_of_getElem? (i := 34) rfl))
set_option maxRecDepth 100000 in
theorem wd_1_1 : Cond.initialized RX7 ∈ TB := tb1 (List.mem_of_getElem? (i := 1) rfl) rfl
set_option maxRecDepth 100000 in
theorem wd_1_2 : Cond.initialized RX1 ∈ TB := tb1 (List.mem_of_getElem? (i := 2) rfl) rfl
set_option maxRecDepth 100000 in
theorem wd_1_3 : Cond.initialized RJx29ce0 ∈ TB := tb1 (List.mem_of_getElem? (i := 3) rfl) rfl
set_option maxRecDepth 100000 in
theorem wd_1_5 : Cond.initialized RX3 ∈ TB := tb1 (List.mem_of_getElem? (i := 5) rfl) rfl
set_option maxRecDepth 100000 in
theorem wd_1_6 : Cond.initialized RX5 ∈ TB := tb1 (List.mem_of_getElem? (i := 6) rfl) rfl
set_option maxRecDepth 100000 in
theorem wd_1_7 : Cond.initialized "java/lang/System" ∈ TB := tb1 (List.mem_of_getElem? (i := 7) rfl) rfl
set_option maxRecDepth 100000 in
theorem wd_1_8 : Cond.initialized RX4 ∈ TB := tb1 (List.mem_of_getElem? (i := 8) rfl) rfl
set_option maxRecDepth 100000 in
theorem wd_1_9 : Cond.initialized RX2 ∈ TB := tb1 (List.mem_of_getElem? (i := 9) rfl) rfl
set_option maxRecDepth 100000 in
theorem wd_1_10 : Cond.initialized RX8 ∈ TB := tb1 (List.mem_of_getElem? (i := 10) rfl) rfl
set_option maxRecDepth 100000 in
theorem wd_1_17 : Cond.initialized RJ6 ∈ TB := tb1 (List.mem_of_getElem? (i := 17) rfl) rfl
set_option maxRecDepth 100000 in
theorem wd_1_18 : Cond.initialized "java/lang/Math" ∈ TB := tb1 (List.mem_of_getElem? (i := 18) rfl) rfl
set_option maxRecDepth 100000 in
theorem wd_1_19 : Cond.initialized RJ0 ∈ TB := tb1 (List.mem_of_getElem? (i := 19) rfl) rfl
set_option maxRecDepth 100000 in
theorem wd_1_20 : Cond.initialized RJ1 ∈ TB := tb1 (List.mem_of_getElem? (i := 20) rfl) rfl
set_option maxRecDepth 100000 in
theorem wd_1_21 : Cond.initialized RJ3 ∈ TB := tb1 (List.mem_of_getElem? (i := 21) rfl) rfl
set_option maxRecDepth 100000 in
theorem wd_1_22 : Cond.initialized RJ2 ∈ TB := tb1 (List.mem_of_getElem? (i := 22) rfl) rfl
set_option maxRecDepth 100000 in
theorem wd_1_29 : Cond.methodLink RX7 1 Lib.objectInit ∈ TB := tb1 (List.mem_of_getElem? (i := 29) rfl) rfl
set_option maxRecDepth 100000 in
theorem wd_1_30 : Cond.instanceMethod Lib.objectInit ∈ TB := tb1 (List.mem_of_getElem? (i := 30) rfl) rfl
set_option maxRecDepth 100000 in
theorem wd_1_31 : Cond.code Lib.objectInit ⟨#[0xb1]⟩ 1 none ∈ TB := tb1 (List.mem_of_getElem? (i := 31) rfl) rfl
set_option maxRecDepth 100000 in
theorem wd_1_32 : Cond.classLink RX7 7 RX1 ∈ TB := tb1 (List.mem_of_getElem? (i := 32) rfl) rfl
set_option maxRecDepth 100000 in
theorem wd_1_33 : Cond.instantiable RX1 6 ∈ TB := tb1 (List.mem_of_getElem? (i := 33) rfl) rfl
set_option maxRecDepth 100000 in
theorem wd_1_35 : Cond.instanceMethod yX1_init ∈ TB := tb1 (List.mem_of_getElem? (i := 35) rfl) rfl
set_option maxRecDepth 100000 in
theorem wd_1_36 : Cond.code yX1_init cX1_init 1 none ∈ TB := tb1 (List.mem_of_getElem? (i := 36) rfl) rfl
set_option maxRecDepth 100000 in
theorem wd_1_37 : Cond.methodLink RX1 3 Lib.objectInit ∈ TB := tb1 (List.mem_of_getElem? (i := 37) rfl) rfl
set_option maxRecDepth 100000 in
theorem wd_1_38 : Cond.fieldLink RX1 19 "WornDots$Word" "HEAD" "LWornDots$Word;" ∈ TB := tb1 (List.mem_of_getElem? (i := 38) rfl) rfl
set_option maxRecDepth 100000 in
theorem wd_1_40 : Cond.fieldLink RX1 9 RX1 "bytes" "[C" ∈ TB := tb1 (List.mem_of_getElem? (i := 40) rfl) rfl
set_option maxRecDepth 100000 in
theorem wd_1_41 : Cond.fieldLink RX1 32 RX1 "length" "I" ∈ TB := tb1 (List.mem_of_getElem? (i := 41) rfl) rfl
set_option maxRecDepth 100000 in
theorem wd_1_43 : Cond.fieldLink RX1 35 RX1 "place" "I" ∈ TB := tb1 (List.mem_of_getElem? (i := 43) rfl) rfl
set_option maxRecDepth 100000 in
theorem wd_1_44 : Cond.fieldLink RX1 15 RX1 "fault" "I" ∈ TB := tb1 (List.mem_of_getElem? (i := 44) rfl) rfl
set_option maxRecDepth 100000 in
theorem wd_1_45 : Cond.fieldLink RX1 25 RX1 "word" "LWornDots$Word;" ∈ TB := tb1 (List.mem_of_getElem? (i := 45) rfl) rfl
set_option maxRecDepth 100000 in
theorem wd_1_47 : Cond.fieldLink RX1 28 RX1 "numbers" "[I" ∈ TB := tb1 (List.mem_of_getElem? (i := 47) rfl) rfl
set_option maxRecDepth 100000 in
theorem wd_1_62 : Cond.arrayClass .char ∈ TB := tb1 (List.mem_of_getElem? (i := 62) rfl) rfl
set_option maxRecDepth 100000 in
theorem wd_1_63 : Cond.arrayClass .int ∈ TB := tb1 (List.mem_of_getElem? (i := 63) rfl) rfl
set_option maxRecDepth 100000 in
theorem wd_1_64 : Cond.classLink RX7 16 RX5 ∈ TB := tb1 (List.mem_of_getElem? (i := 64) rfl) rfl
set_option maxRecDepth 100000 in
theorem wd_1_66 : Cond.classLink RX7 22 RX3 ∈ TB := tb1 (List.mem_of_getElem? (i := 66) rfl) rfl
set_option maxRecDepth 100000 in
theorem wd_1_67 : Cond.instantiable RX3 5 ∈ TB := tb1 (List.mem_of_getElem? (i := 67) rfl) rfl
set_option maxRecDepth 100000 in
theorem wd_1_69 : Cond.instanceMethod yX3_init ∈ TB := tb1 (List.mem_of_getElem? (i := 69) rfl) rfl
set_option maxRecDepth 100000 in
theorem wd_1_70 : Cond.code yX3_init cX3_init 1 none ∈ TB := tb1 (List.mem_of_getElem? (i := 70) rfl) rfl
set_option maxRecDepth 100000 in
theorem wd_1_71 : Cond.methodLink RX3 3 Lib.objectInit ∈ TB := tb1 (List.mem_of_getElem? (i := 71) rfl) rfl
set_option maxRecDepth 100000 in
theorem wd_1_72 : Cond.fieldLink RX3 9 RX3 "dots" "I" ∈ TB := tb1 (List.mem_of_getElem? (i := 72) rfl) rfl
set_option maxRecDepth 100000 in
theorem wd_1_75 : Cond.fieldLink RX3 25 RX3 "burntInAll" "I" ∈ TB := tb1 (List.mem_of_getElem? (i := 75) rfl) rfl
set_option maxRecDepth 100000 in
theorem wd_1_77 : Cond.fieldLink RX3 15 RX3 "heat" "[I" ∈ TB := tb1 (List.mem_of_getElem? (i := 77) rfl) rfl
set_option maxRecDepth 100000 in
theorem wd_1_79 : Cond.fieldLink RX3 19 RX3 "wear" "[I" ∈ TB := tb1 (List.mem_of_getElem? (i := 79) rfl) rfl
set_option maxRecDepth 100000 in
theorem wd_1_81 : Cond.fieldLink RX3 22 RX3 "burnt" "[I" ∈ TB := tb1 (List.mem_of_getElem? (i := 81) rfl) rfl
set_option maxRecDepth 100000 in
theorem wd_1_94 : Cond.instantiable RX5 8 ∈ TB := tb1 (List.mem_of_getElem? (i := 94) rfl) rfl
set_option maxRecDepth 100000 in
theorem wd_1_95 : Cond.methodLink RX7 25 yX5_init ∈ TB := tb1 (List.mem_of_getElem? (i := 95) rfl) rfl
set_option maxRecDepth 100000 in
theorem wd_1_96 : Cond.instanceMethod yX5_init ∈ TB := tb1 (List.mem_of_getElem? (i := 96) rfl) rfl
set_option maxRecDepth 100000 in
theorem wd_1_97 : Cond.code yX5_init cX5_init 3 none ∈ TB := tb1 (List.mem_of_getElem? (i := 97) rfl) rfl
set_option maxRecDepth 100000 in
theorem wd_1_98 : Cond.methodLink RX5 3 Lib.objectInit ∈ TB := tb1 (List.mem_of_getElem? (i := 98) rfl) rfl
set_option maxRecDepth 100000 in
theorem wd_1_99 : Cond.classLink RX5 9 RX3 ∈ TB := tb1 (List.mem_of_getElem? (i := 99) rfl) rfl
set_option maxRecDepth 100000 in
theorem wd_1_101 : Cond.classLink RX5 22 RX4 ∈ TB := tb1 (List.mem_of_getElem? (i := 101) rfl) rfl
set_option maxRecDepth 100000 in
theorem wd_1_103 : Cond.classLink RX5 28 RX2 ∈ TB := tb1 (List.mem_of_getElem? (i := 103) rfl) rfl
set_option maxRecDepth 100000 in
theorem wd_1_107 : Cond.methodLink RX5 40 arraycopyName ∈ TB := tb1 (List.mem_of_getElem? (i := 107) rfl) rfl
set_option maxRecDepth 100000 in
theorem wd_1_108 : Cond.static arraycopyName ∈ TB := tb1 (List.mem_of_getElem? (i := 108) rfl) rfl
set_option maxRecDepth 100000 in
theorem wd_1_109 : Cond.native arraycopyName ∈ TB := tb1 (List.mem_of_getElem? (i := 109) rfl) rfl
set_option maxRecDepth 100000 in
theorem wd_1_110 : Cond.instantiable RX4 5 ∈ TB := tb1 (List.mem_of_getElem? (i := 110) rfl) rfl
set_option maxRecDepth 100000 in
theorem wd_1_112 : Cond.instanceMethod yX4_init ∈ TB := tb1 (List.mem_of_getElem? (i := 112) rfl) rfl
set_option maxRecDepth 100000 in
theorem wd_1_113 : Cond.code yX4_init cX4_init 1 none ∈ TB := tb1 (List.mem_of_getElem? (i := 113) rfl) rfl
set_option maxRecDepth 100000 in
theorem wd_1_114 : Cond.methodLink RX4 3 Lib.objectInit ∈ TB := tb1 (List.mem_of_getElem? (i := 114) rfl) rfl
set_option maxRecDepth 100000 in
theorem wd_1_115 : Cond.fieldLink RX4 9 RX4 "width" "I" ∈ TB := tb1 (List.mem_of_getElem? (i := 115) rfl) rfl
set_option maxRecDepth 100000 in
theorem wd_1_118 : Cond.fieldLink RX4 15 RX4 "blackness" "I" ∈ TB := tb1 (List.mem_of_getElem? (i := 118) rfl) rfl
set_option maxRecDepth 100000 in
theorem wd_1_121 : Cond.fieldLink RX4 22 RX4 "printed" "I" ∈ TB := tb1 (List.mem_of_getElem? (i := 121) rfl) rfl
set_option maxRecDepth 100000 in
theorem wd_1_123 : Cond.fieldLink RX4 25 RX4 "failed" "I" ∈ TB := tb1 (List.mem_of_getElem? (i := 123) rfl) rfl
set_option maxRecDepth 100000 in
theorem wd_1_125 : Cond.fieldLink RX4 18 RX4 "rows" "[I" ∈ TB := tb1 (List.mem_of_getElem? (i := 125) rfl) rfl
set_option maxRecDepth 100000 in
theorem wd_1_140 : Cond.instantiable RX2 6 ∈ TB := tb1 (List.mem_of_getElem? (i := 140) rfl) rfl
set_option maxRecDepth 100000 in
theorem wd_1_142 : Cond.instanceMethod yX2_init ∈ TB := tb1 (List.mem_of_getElem? (i := 142) rfl) rfl
set_option maxRecDepth 100000 in
theorem wd_1_143 : Cond.code yX2_init cX2_init 1 none ∈ TB := tb1 (List.mem_of_getElem? (i := 143) rfl) rfl
set_option maxRecDepth 100000 in
theorem wd_1_144 : Cond.methodLink RX2 3 Lib.objectInit ∈ TB := tb1 (List.mem_of_getElem? (i := 144) rfl) rfl
set_option maxRecDepth 100000 in
theorem wd_1_145 : Cond.fieldLink RX2 9 RX2 "first" "I" ∈ TB := tb1 (List.mem_of_getElem? (i := 145) rfl) rfl
set_option maxRecDepth 100000 in
theorem wd_1_147 : Cond.fieldLink RX2 15 RX2 "last" "I" ∈ TB := tb1 (List.mem_of_getElem? (i := 147) rfl) rfl
set_option maxRecDepth 100000 in
theorem wd_1_149 : Cond.fieldLink RX2 18 RX2 "paid" "I" ∈ TB := tb1 (List.mem_of_getElem? (i := 149) rfl) rfl
set_option maxRecDepth 100000 in
theorem wd_1_151 : Cond.fieldLink RX2 21 RX2 "paidBack" "I" ∈ TB := tb1 (List.mem_of_getElem? (i := 151) rfl) rfl
set_option maxRecDepth 100000 in
theorem wd_1_153 : Cond.fieldLink RX2 24 RX2 "printed" "I" ∈ TB := tb1 (List.mem_of_getElem? (i := 153) rfl) rfl
set_option maxRecDepth 100000 in
theorem wd_1_155 : Cond.fieldLink RX2 27 RX2 "failed" "I" ∈ TB := tb1 (List.mem_of_getElem? (i := 155) rfl) rfl
set_option maxRecDepth 100000 in
theorem wd_1_170 : Cond.fieldLink RX5 12 RX5 "head" "LWornDots$Head;" ∈ TB := tb1 (List.mem_of_getElem? (i := 170) rfl) rfl
set_option maxRecDepth 100000 in
theorem wd_1_172 : Cond.fieldLink RX5 34 RX5 "trial" "LWornDots$Head;" ∈ TB := tb1 (List.mem_of_getElem? (i := 172) rfl) rfl
set_option maxRecDepth 100000 in
theorem wd_1_173 : Cond.fieldLink RX5 18 RX5 "settings" "[I" ∈ TB := tb1 (List.mem_of_getElem? (i := 173) rfl) rfl
set_option maxRecDepth 100000 in
theorem wd_1_174 : Cond.fieldLink RX5 24 RX5 "labels" "[LWornDots$Label;" ∈ TB := tb1 (List.mem_of_getElem? (i := 174) rfl) rfl
set_option maxRecDepth 100000 in
theorem wd_1_176 : Cond.fieldLink RX5 55 RX5 "labelCount" "I" ∈ TB := tb1 (List.mem_of_getElem? (i := 176) rfl) rfl
set_option maxRecDepth 100000 in
theorem wd_1_178 : Cond.fieldLink RX5 30 RX5 "customers" "[LWornDots$Customer;" ∈ TB := tb1 (List.mem_of_getElem? (i := 178) rfl) rfl
set_option maxRecDepth 100000 in
theorem wd_1_180 : Cond.fieldLink RX5 62 RX5 "customerCount" "I" ∈ TB := tb1 (List.mem_of_getElem? (i := 180) rfl) rfl
set_option maxRecDepth 100000 in
theorem wd_1_182 : Cond.fieldLink RX5 65 RX5 "lines" "I" ∈ TB := tb1 (List.mem_of_getElem? (i := 182) rfl) rfl
set_option maxRecDepth 100000 in
theorem wd_1_200 : Cond.fieldLink RX7 10 RX7 "text" "LWornDots$CommandText;" ∈ TB := tb1 (List.mem_of_getElem? (i := 200) rfl) rfl
set_option maxRecDepth 100000 in
theorem wd_1_201 : Cond.fieldLink RX7 18 RX7 "saved" "[LWornDots$State;" ∈ TB := tb1 (List.mem_of_getElem? (i := 201) rfl) rfl
set_option maxRecDepth 100000 in
theorem wd_1_202 : Cond.fieldLink RX7 209 RX7 "savedCount" "I" ∈ TB := tb1 (List.mem_of_getElem? (i := 202) rfl) rfl
set_option maxRecDepth 100000 in
theorem wd_1_203 : Cond.fieldLink RX7 28 RX7 "now" "LWornDots$State;" ∈ TB := tb1 (List.mem_of_getElem? (i := 203) rfl) rfl
set_option maxRecDepth 100000 in
theorem wd_1_214 : Cond.instanceMethod yX7_mostWorn ∈ TB := tb1 (List.mem_of_getElem? (i := 214) rfl) rfl
set_option maxRecDepth 100000 in
theorem wd_1_215 : Cond.selects RX7 yX7_mostWorn yX7_mostWorn ∈ TB := tb1 (List.mem_of_getElem? (i := 215) rfl) rfl
set_option maxRecDepth 100000 in
theorem wd_1_216 : Cond.code yX7_mostWorn cX7_mostWorn 1 (some .int) ∈ TB := tb1 (List.mem_of_getElem? (i := 216) rfl) rfl
set_option maxRecDepth 100000 in
theorem wd_1_217 : Cond.methodLink RX7 173 yX3_mostWornDot ∈ TB := tb1 (List.mem_of_getElem? (i := 217) rfl) rfl
set_option maxRecDepth 100000 in
theorem wd_1_218 : Cond.instanceMethod yX3_mostWornDot ∈ TB := tb1 (List.mem_of_getElem? (i := 218) rfl) rfl
set_option maxRecDepth 100000 in
theorem wd_1_219 : Cond.selects RX3 yX3_mostWornDot yX3_mostWornDot ∈ TB := tb1 (List.mem_of_getElem? (i := 219) rfl) rfl
set_option maxRecDepth 100000 in
theorem wd_1_220 : Cond.code yX3_mostWornDot cX3_mostWornDot 3 (some .int) ∈ TB := tb1 (List.mem_of_getElem? (i := 220) rfl) rfl
set_option maxRecDepth 100000 in
theorem wd_1_225 : Cond.methodLink RX7 182 yX1_empty ∈ TB := tb1 (List.mem_of_getElem? (i := 225) rfl) rfl
set_option maxRecDepth 100000 in
theorem wd_1_226 : Cond.instanceMethod yX1_empty ∈ TB := tb1 (List.mem_of_getElem? (i := 226) rfl) rfl
set_option maxRecDepth 100000 in
theorem wd_1_227 : Cond.selects RX1 yX1_empty yX1_empty ∈ TB := tb1 (List.mem_of_getElem? (i := 227) rfl) rfl
set_option maxRecDepth 100000 in
theorem wd_1_228 : Cond.code yX1_empty cX1_empty 2 (some .int) ∈ TB := tb1 (List.mem_of_getElem? (i := 228) rfl) rfl
set_option maxRecDepth 100000 in
theorem wd_1_233 : Cond.methodLink RX7 185 yX1_findFault ∈ TB := tb1 (List.mem_of_getElem? (i := 233) rfl) rfl
set_option maxRecDepth 100000 in
theorem wd_1_234 : Cond.instanceMethod yX1_findFault ∈ TB := tb1 (List.mem_of_getElem? (i := 234) rfl) rfl
set_option maxRecDepth 100000 in
theorem wd_1_235 : Cond.selects RX1 yX1_findFault yX1_findFault ∈ TB := tb1 (List.mem_of_getElem? (i := 235) rfl) rfl
set_option maxRecDepth 100000 in
theorem wd_1_236 : Cond.code yX1_findFault cX1_findFault 3 (some .int) ∈ TB := tb1 (List.mem_of_getElem? (i := 236) rfl) rfl
set_option maxRecDepth 100000 in
theorem wd_1_237 : Cond.methodLink RX1 38 yX1_rewind ∈ TB := tb1 (List.mem_of_getElem? (i := 237) rfl) rfl
set_option maxRecDepth 100000 in
theorem wd_1_238 : Cond.instanceMethod yX1_rewind ∈ TB := tb1 (List.mem_of_getElem? (i := 238) rfl) rfl
set_option maxRecDepth 100000 in
theorem wd_1_239 : Cond.selects RX1 yX1_rewind yX1_rewind ∈ TB := tb1 (List.mem_of_getElem? (i := 239) rfl) rfl
set_option maxRecDepth 100000 in
theorem wd_2_0 : Cond.code yX1_rewind cX1_rewind 1 none ∈ TB := tb2 (List.mem_of_getElem? (i := 0) rfl) rfl
set_option maxRecDepth 100000 in
theorem wd_2_1 : Cond.methodLink RX1 41 yX1_readCommand ∈ TB := tb2 (List.mem_of_getElem? (i := 1) rfl) rfl
set_option maxRecDepth 100000 in
theorem wd_2_2 : Cond.instanceMethod yX1_readCommand ∈ TB := tb2 (List.mem_of_getElem? (i := 2) rfl) rfl
set_option maxRecDepth 100000 in
theorem wd_2_3 : Cond.selects RX1 yX1_readCommand yX1_readCommand ∈ TB := tb2 (List.mem_of_getElem? (i := 3) rfl) rfl
set_option maxRecDepth 100000 in
theorem wd_2_4 : Cond.code yX1_readCommand cX1_readCommand 3 (some .boolean) ∈ TB := tb2 (List.mem_of_getElem? (i := 4) rfl) rfl
set_option maxRecDepth 100000 in
theorem wd_2_5 : Cond.methodLink RX1 45 yX1_skipSpaces ∈ TB := tb2 (List.mem_of_getElem? (i := 5) rfl) rfl
set_option maxRecDepth 100000 in
theorem wd_2_7 : Cond.instanceMethod yX1_skipSpaces ∈ TB := tb2 (List.mem_of_getElem? (i := 7) rfl) rfl
set_option maxRecDepth 100000 in
theorem wd_2_8 : Cond.code yX1_skipSpaces cX1_skipSpaces 1 none ∈ TB := tb2 (List.mem_of_getElem? (i := 8) rfl) rfl
set_option maxRecDepth 100000 in
theorem wd_2_9 : Cond.methodLink RX1 48 yX1_skipLetters ∈ TB := tb2 (List.mem_of_getElem? (i := 9) rfl) rfl
set_option maxRecDepth 100000 in
theorem wd_2_11 : Cond.instanceMethod yX1_skipLetters ∈ TB := tb2 (List.mem_of_getElem? (i := 11) rfl) rfl
set_option maxRecDepth 100000 in
theorem wd_2_12 : Cond.code yX1_skipLetters cX1_skipLetters 1 none ∈ TB := tb2 (List.mem_of_getElem? (i := 12) rfl) rfl
set_option maxRecDepth 100000 in
theorem wd_2_13 : Cond.methodLink RX1 51 yX1_wordBetween ∈ TB := tb2 (List.mem_of_getElem? (i := 13) rfl) rfl
set_option maxRecDepth 100000 in
theorem wd_2_15 : Cond.instanceMethod yX1_wordBetween ∈ TB := tb2 (List.mem_of_getElem? (i := 15) rfl) rfl
set_option maxRecDepth 100000 in
theorem wd_2_16 : Cond.code yX1_wordBetween cX1_wordBetween 7 (some (.object "WornDots$Word")) ∈ TB := tb2 (List.mem_of_getElem? (i := 16) rfl) rfl
set_option maxRecDepth 100000 in
theorem wd_2_19 : Cond.methodLink RX1 72 yX1_isBetween ∈ TB := tb2 (List.mem_of_getElem? (i := 19) rfl) rfl
set_option maxRecDepth 100000 in
theorem wd_2_21 : Cond.instanceMethod yX1_isBetween ∈ TB := tb2 (List.mem_of_getElem? (i := 21) rfl) rfl
set_option maxRecDepth 100000 in
theorem wd_2_22 : Cond.code yX1_isBetween cX1_isBetween 5 (some .boolean) ∈ TB := tb2 (List.mem_of_getElem? (i := 22) rfl) rfl
set_option maxRecDepth 100000 in
theorem wd_2_23 : Cond.methodLink RX1 76 yJ0_length_8abf5 ∈ TB := tb2 (List.mem_of_getElem? (i := 23) rfl) rfl
set_option maxRecDepth 100000 in
theorem wd_2_24 : Cond.instanceMethod yJ0_length_8abf5 ∈ TB := tb2 (List.mem_of_getElem? (i := 24) rfl) rfl
set_option maxRecDepth 100000 in
theorem wd_2_25 : Cond.selects RJ0 yJ0_length_8abf5 yJ0_length_8abf5 ∈ TB := tb2 (List.mem_of_getElem? (i := 25) rfl) rfl
set_option maxRecDepth 100000 in
theorem wd_2_26 : Cond.code yJ0_length_8abf5 cJ0_length_8abf5 1 (some .int) ∈ TB := tb2 (List.mem_of_getElem? (i := 26) rfl) rfl
set_option maxRecDepth 100000 in
theorem wd_2_27 : Cond.methodLink RJ0 335 yJ0_coder_7d493 ∈ TB := tb2 (List.mem_of_getElem? (i := 27) rfl) rfl
set_option maxRecDepth 100000 in
theorem wd_2_28 : Cond.instanceMethod yJ0_coder_7d493 ∈ TB := tb2 (List.mem_of_getElem? (i := 28) rfl) rfl
set_option maxRecDepth 100000 in
theorem wd_2_29 : Cond.selects RJ0 yJ0_coder_7d493 yJ0_coder_7d493 ∈ TB := tb2 (List.mem_of_getElem? (i := 29) rfl) rfl
set_option maxRecDepth 100000 in
theorem wd_2_30 : Cond.code yJ0_coder_7d493 cJ0_coder_7d493 1 (some .byte) ∈ TB := tb2 (List.mem_of_getElem? (i := 30) rfl) rfl
set_option maxRecDepth 100000 in
theorem wd_2_31 : Cond.fieldLink RJ0 38 "java/lang/String" "COMPACT_STRINGS" "Z" ∈ TB := tb2 (List.mem_of_getElem? (i := 31) rfl) rfl
set_option maxRecDepth 100000 in
theorem wd_2_33 : Cond.methodLink RX1 81 yJ0_charAt_5068e ∈ TB := tb2 (List.mem_of_getElem? (i := 33) rfl) rfl
set_option maxRecDepth 100000 in
theorem wd_2_34 : Cond.instanceMethod yJ0_charAt_5068e ∈ TB := tb2 (List.mem_of_getElem? (i := 34) rfl) rfl
set_option maxRecDepth 100000 in
theorem wd_2_35 : Cond.selects RJ0 yJ0_charAt_5068e yJ0_charAt_5068e ∈ TB := tb2 (List.mem_of_getElem? (i := 35) rfl) rfl
set_option maxRecDepth 100000 in
theorem wd_2_36 : Cond.code yJ0_charAt_5068e cJ0_charAt_5068e 2 (some .char) ∈ TB := tb2 (List.mem_of_getElem? (i := 36) rfl) rfl
set_option maxRecDepth 100000 in
theorem wd_2_37 : Cond.methodLink RJ0 492 yJ0_isLatin1_aae02 ∈ TB := tb2 (List.mem_of_getElem? (i := 37) rfl) rfl
set_option maxRecDepth 100000 in
theorem wd_2_38 : Cond.instanceMethod yJ0_isLatin1_aae02 ∈ TB := tb2 (List.mem_of_getElem? (i := 38) rfl) rfl
set_option maxRecDepth 100000 in
theorem wd_2_39 : Cond.selects RJ0 yJ0_isLatin1_aae02 yJ0_isLatin1_aae02 ∈ TB := tb2 (List.mem_of_getElem? (i := 39) rfl) rfl
set_option maxRecDepth 100000 in
theorem wd_2_40 : Cond.code yJ0_isLatin1_aae02 cJ0_isLatin1_aae02 1 (some .boolean) ∈ TB := tb2 (List.mem_of_getElem? (i := 40) rfl) rfl
set_option maxRecDepth 100000 in
theorem wd_2_41 : Cond.methodLink RJ0 495 yJ1_charAt_3b067 ∈ TB := tb2 (List.mem_of_getElem? (i := 41) rfl) rfl
set_option maxRecDepth 100000 in
theorem wd_2_42 : Cond.static yJ1_charAt_3b067 ∈ TB := tb2 (List.mem_of_getElem? (i := 42) rfl) rfl
set_option maxRecDepth 100000 in
theorem wd_2_43 : Cond.code yJ1_charAt_3b067 cJ1_charAt_3b067 2 (some .char) ∈ TB := tb2 (List.mem_of_getElem? (i := 43) rfl) rfl
set_option maxRecDepth 100000 in
theorem wd_2_44 : Cond.methodLink RJ1 9 yJ0_checkIndex_df160 ∈ TB := tb2 (List.mem_of_getElem? (i := 44) rfl) rfl
set_option maxRecDepth 100000 in
theorem wd_2_45 : Cond.static yJ0_checkIndex_df160 ∈ TB := tb2 (List.mem_of_getElem? (i := 45) rfl) rfl
set_option maxRecDepth 100000 in
theorem wd_2_46 : Cond.code yJ0_checkIndex_df160 cJ0_checkIndex_df160 2 none ∈ TB := tb2 (List.mem_of_getElem? (i := 46) rfl) rfl
set_option maxRecDepth 100000 in
theorem wd_2_47 : Cond.fieldLink RJ0 1053 "jdk/internal/util/Preconditions" "SIOOBE_FORMATTER" "Ljava/util/function/BiFunction;" ∈ TB := tb2 (List.mem_of_getElem? (i := 47) rfl) rfl
set_option maxRecDepth 100000 in
theorem wd_2_49 : Cond.methodLink RJ0 1059 yJ3_checkIndex_8e157 ∈ TB := tb2 (List.mem_of_getElem? (i := 49) rfl) rfl
set_option maxRecDepth 100000 in
theorem wd_2_50 : Cond.static yJ3_checkIndex_8e157 ∈ TB := tb2 (List.mem_of_getElem? (i := 50) rfl) rfl
set_option maxRecDepth 100000 in
theorem wd_2_51 : Cond.code yJ3_checkIndex_8e157 cJ3_checkIndex_8e157 3 (some .int) ∈ TB := tb2 (List.mem_of_getElem? (i := 51) rfl) rfl
set_option maxRecDepth 100000 in
theorem wd_2_55 : Cond.methodLink RJ2 67 yJ2_checkIndex_2214a ∈ TB := tb2 (List.mem_of_getElem? (i := 55) rfl) rfl
set_option maxRecDepth 100000 in
theorem wd_2_56 : Cond.static yJ2_checkIndex_2214a ∈ TB := tb2 (List.mem_of_getElem? (i := 56) rfl) rfl
set_option maxRecDepth 100000 in
theorem wd_2_57 : Cond.code yJ2_checkIndex_2214a cJ2_checkIndex_2214a 2 none ∈ TB := tb2 (List.mem_of_getElem? (i := 57) rfl) rfl
set_option maxRecDepth 100000 in
theorem wd_2_58 : Cond.methodLink RJ2 48 yJ2_length_9d52b ∈ TB := tb2 (List.mem_of_getElem? (i := 58) rfl) rfl
set_option maxRecDepth 100000 in
theorem wd_2_59 : Cond.static yJ2_length_9d52b ∈ TB := tb2 (List.mem_of_getElem? (i := 59) rfl) rfl
set_option maxRecDepth 100000 in
theorem wd_2_60 : Cond.code yJ2_length_9d52b cJ2_length_9d52b 1 (some .int) ∈ TB := tb2 (List.mem_of_getElem? (i := 60) rfl) rfl
set_option maxRecDepth 100000 in
theorem wd_2_61 : Cond.methodLink RJ2 414 yJ0_checkIndex_df160 ∈ TB := tb2 (List.mem_of_getElem? (i := 61) rfl) rfl
set_option maxRecDepth 100000 in
theorem wd_2_65 : Cond.fieldLink RJ2 44 "java/lang/StringUTF16" "$assertionsDisabled" "Z" ∈ TB := tb2 (List.mem_of_getElem? (i := 65) rfl) rfl
set_option maxRecDepth 100000 in
theorem wd_2_71 : Cond.methodLink RX1 57 yX1_readNumbers ∈ TB := tb2 (List.mem_of_getElem? (i := 71) rfl) rfl
set_option maxRecDepth 100000 in
theorem wd_2_73 : Cond.instanceMethod yX1_readNumbers ∈ TB := tb2 (List.mem_of_getElem? (i := 73) rfl) rfl
set_option maxRecDepth 100000 in
theorem wd_2_74 : Cond.code yX1_readNumbers cX1_readNumbers 3 (some .boolean) ∈ TB := tb2 (List.mem_of_getElem? (i := 74) rfl) rfl
set_option maxRecDepth 100000 in
theorem wd_2_75 : Cond.methodLink RX1 85 yX1_readNumber ∈ TB := tb2 (List.mem_of_getElem? (i := 75) rfl) rfl
set_option maxRecDepth 100000 in
theorem wd_2_77 : Cond.instanceMethod yX1_readNumber ∈ TB := tb2 (List.mem_of_getElem? (i := 77) rfl) rfl
set_option maxRecDepth 100000 in
theorem wd_2_78 : Cond.code yX1_readNumber cX1_readNumber 5 (some .boolean) ∈ TB := tb2 (List.mem_of_getElem? (i := 78) rfl) rfl
set_option maxRecDepth 100000 in
theorem wd_2_79 : Cond.methodLink RX1 61 yX1_readSemicolon ∈ TB := tb2 (List.mem_of_getElem? (i := 79) rfl) rfl
set_option maxRecDepth 100000 in
theorem wd_2_81 : Cond.instanceMethod yX1_readSemicolon ∈ TB := tb2 (List.mem_of_getElem? (i := 81) rfl) rfl
set_option maxRecDepth 100000 in
theorem wd_2_82 : Cond.code yX1_readSemicolon cX1_readSemicolon 1 (some .boolean) ∈ TB := tb2 (List.mem_of_getElem? (i := 82) rfl) rfl
set_option maxRecDepth 100000 in
theorem wd_2_83 : Cond.methodLink RX7 40 yX7_save ∈ TB := tb2 (List.mem_of_getElem? (i := 83) rfl) rfl
set_option maxRecDepth 100000 in
theorem wd_2_85 : Cond.instanceMethod yX7_save ∈ TB := tb2 (List.mem_of_getElem? (i := 85) rfl) rfl
set_option maxRecDepth 100000 in
theorem wd_2_86 : Cond.code yX7_save cX7_save 3 none ∈ TB := tb2 (List.mem_of_getElem? (i := 86) rfl) rfl
set_option maxRecDepth 100000 in
theorem wd_2_87 : Cond.methodLink RX7 212 yX5_takeOver ∈ TB := tb2 (List.mem_of_getElem? (i := 87) rfl) rfl
set_option maxRecDepth 100000 in
theorem wd_2_88 : Cond.instanceMethod yX5_takeOver ∈ TB := tb2 (List.mem_of_getElem? (i := 88) rfl) rfl
set_option maxRecDepth 100000 in
theorem wd_2_89 : Cond.selects RX5 yX5_takeOver yX5_takeOver ∈ TB := tb2 (List.mem_of_getElem? (i := 89) rfl) rfl
set_option maxRecDepth 100000 in
theorem wd_2_90 : Cond.code yX5_takeOver cX5_takeOver 3 none ∈ TB := tb2 (List.mem_of_getElem? (i := 90) rfl) rfl
set_option maxRecDepth 100000 in
theorem wd_2_91 : Cond.methodLink RX5 48 yX3_takeOver ∈ TB := tb2 (List.mem_of_getElem? (i := 91) rfl) rfl
set_option maxRecDepth 100000 in
theorem wd_2_92 : Cond.instanceMethod yX3_takeOver ∈ TB := tb2 (List.mem_of_getElem? (i := 92) rfl) rfl
set_option maxRecDepth 100000 in
theorem wd_2_93 : Cond.selects RX3 yX3_takeOver yX3_takeOver ∈ TB := tb2 (List.mem_of_getElem? (i := 93) rfl) rfl
set_option maxRecDepth 100000 in
theorem wd_2_94 : Cond.code yX3_takeOver cX3_takeOver 2 none ∈ TB := tb2 (List.mem_of_getElem? (i := 94) rfl) rfl
set_option maxRecDepth 100000 in
theorem wd_2_95 : Cond.methodLink RX3 28 arraycopyName ∈ TB := tb2 (List.mem_of_getElem? (i := 95) rfl) rfl
set_option maxRecDepth 100000 in
theorem wd_2_96 : Cond.methodLink RX5 52 yX4_takeOver ∈ TB := tb2 (List.mem_of_getElem? (i := 96) rfl) rfl
set_option maxRecDepth 100000 in
theorem wd_2_97 : Cond.instanceMethod yX4_takeOver ∈ TB := tb2 (List.mem_of_getElem? (i := 97) rfl) rfl
set_option maxRecDepth 100000 in
theorem wd_2_98 : Cond.selects RX4 yX4_takeOver yX4_takeOver ∈ TB := tb2 (List.mem_of_getElem? (i := 98) rfl) rfl
set_option maxRecDepth 100000 in
theorem wd_2_99 : Cond.code yX4_takeOver cX4_takeOver 2 none ∈ TB := tb2 (List.mem_of_getElem? (i := 99) rfl) rfl
set_option maxRecDepth 100000 in
theorem wd_2_100 : Cond.methodLink RX4 28 arraycopyName ∈ TB := tb2 (List.mem_of_getElem? (i := 100) rfl) rfl
set_option maxRecDepth 100000 in
theorem wd_2_101 : Cond.methodLink RX5 59 yX2_takeOver ∈ TB := tb2 (List.mem_of_getElem? (i := 101) rfl) rfl
set_option maxRecDepth 100000 in
theorem wd_2_102 : Cond.instanceMethod yX2_takeOver ∈ TB := tb2 (List.mem_of_getElem? (i := 102) rfl) rfl
set_option maxRecDepth 100000 in
theorem wd_2_103 : Cond.selects RX2 yX2_takeOver yX2_takeOver ∈ TB := tb2 (List.mem_of_getElem? (i := 103) rfl) rfl
set_option maxRecDepth 100000 in
theorem wd_2_104 : Cond.code yX2_takeOver cX2_takeOver 2 none ∈ TB := tb2 (List.mem_of_getElem? (i := 104) rfl) rfl
set_option maxRecDepth 100000 in
theorem wd_2_105 : Cond.methodLink RX7 188 yX1_rewind ∈ TB := tb2 (List.mem_of_getElem? (i := 105) rfl) rfl
set_option maxRecDepth 100000 in
theorem wd_2_106 : Cond.methodLink RX7 191 yX1_readCommand ∈ TB := tb2 (List.mem_of_getElem? (i := 106) rfl) rfl
set_option maxRecDepth 100000 in
theorem wd_2_107 : Cond.methodLink RX7 202 yX5_whyNotCarryOut ∈ TB := tb2 (List.mem_of_getElem? (i := 107) rfl) rfl
set_option maxRecDepth 100000 in
theorem wd_2_108 : Cond.instanceMethod yX5_whyNotCarryOut ∈ TB := tb2 (List.mem_of_getElem? (i := 108) rfl) rfl
set_option maxRecDepth 100000 in
theorem wd_2_109 : Cond.selects RX5 yX5_whyNotCarryOut yX5_whyNotCarryOut ∈ TB := tb2 (List.mem_of_getElem? (i := 109) rfl) rfl
set_option maxRecDepth 100000 in
theorem wd_2_110 : Cond.code yX5_whyNotCarryOut cX5_whyNotCarryOut 3 (some .int) ∈ TB := tb2 (List.mem_of_getElem? (i := 110) rfl) rfl
set_option maxRecDepth 100000 in
theorem wd_2_111 : Cond.fieldLink RX5 231 "WornDots$1" "$SwitchMap$WornDots$Word" "[I" ∈ TB := tb2 (List.mem_of_getElem? (i := 111) rfl) rfl
set_option maxRecDepth 100000 in
theorem wd_2_113 : Cond.methodLink RX5 236 ⟨"WornDots$Word", "ordinal", "()I"⟩ ∈ TB := tb2 (List.mem_of_getElem? (i := 113) rfl) rfl
set_option maxRecDepth 100000 in
theorem wd_2_114 : Cond.sameMethod "WornDots$Word" "java/lang/Enum" "ordinal" "()I" ∈ TB := tb2 (List.mem_of_getElem? (i := 114) rfl) rfl
set_option maxRecDepth 100000 in
theorem wd_2_116 : Cond.selects "WornDots$Word" ⟨"WornDots$Word", "ordinal", "()I"⟩ yJx29ce0_ordinal_8abf5 ∈ TB := tb2 (List.mem_of_getElem? (i := 116) rfl) rfl
set_option maxRecDepth 100000 in
theorem wd_2_117 : Cond.instanceMethod yJx29ce0_ordinal_8abf5 ∈ TB := tb2 (List.mem_of_getElem? (i := 117) rfl) rfl
set_option maxRecDepth 100000 in
theorem wd_2_118 : Cond.code yJx29ce0_ordinal_8abf5 cJx29ce0_ordinal_8abf5 1 (some .int) ∈ TB := tb2 (List.mem_of_getElem? (i := 118) rfl) rfl
set_option maxRecDepth 100000 in
theorem wd_2_119 : Cond.methodLink RX5 241 yX5_whyNotNewHead ∈ TB := tb2 (List.mem_of_getElem? (i := 119) rfl) rfl
set_option maxRecDepth 100000 in
theorem wd_2_120 : Cond.instanceMethod yX5_whyNotNewHead ∈ TB := tb2 (List.mem_of_getElem? (i := 120) rfl) rfl
set_option maxRecDepth 100000 in
theorem wd_2_121 : Cond.selects RX5 yX5_whyNotNewHead yX5_whyNotNewHead ∈ TB := tb2 (List.mem_of_getElem? (i := 121) rfl) rfl
set_option maxRecDepth 100000 in
theorem wd_2_122 : Cond.code yX5_whyNotNewHead cX5_whyNotNewHead 2 (some .int) ∈ TB := tb2 (List.mem_of_getElem? (i := 122) rfl) rfl
set_option maxRecDepth 100000 in
theorem wd_2_123 : Cond.methodLink RX5 244 yX5_whyNotNewLabel ∈ TB := tb2 (List.mem_of_getElem? (i := 123) rfl) rfl
set_option maxRecDepth 100000 in
theorem wd_2_124 : Cond.instanceMethod yX5_whyNotNewLabel ∈ TB := tb2 (List.mem_of_getElem? (i := 124) rfl) rfl
set_option maxRecDepth 100000 in
theorem wd_2_125 : Cond.selects RX5 yX5_whyNotNewLabel yX5_whyNotNewLabel ∈ TB := tb2 (List.mem_of_getElem? (i := 125) rfl) rfl
set_option maxRecDepth 100000 in
theorem wd_2_126 : Cond.code yX5_whyNotNewLabel cX5_whyNotNewLabel 3 (some .int) ∈ TB := tb2 (List.mem_of_getElem? (i := 126) rfl) rfl
set_option maxRecDepth 100000 in
theorem wd_2_127 : Cond.methodLink RX5 247 yX5_whyNotChangeRow ∈ TB := tb2 (List.mem_of_getElem? (i := 127) rfl) rfl
set_option maxRecDepth 100000 in
theorem wd_2_128 : Cond.instanceMethod yX5_whyNotChangeRow ∈ TB := tb2 (List.mem_of_getElem? (i := 128) rfl) rfl
set_option maxRecDepth 100000 in
theorem wd_2_129 : Cond.selects RX5 yX5_whyNotChangeRow yX5_whyNotChangeRow ∈ TB := tb2 (List.mem_of_getElem? (i := 129) rfl) rfl
set_option maxRecDepth 100000 in
theorem wd_2_130 : Cond.code yX5_whyNotChangeRow cX5_whyNotChangeRow 5 (some .int) ∈ TB := tb2 (List.mem_of_getElem? (i := 130) rfl) rfl
set_option maxRecDepth 100000 in
theorem wd_2_131 : Cond.methodLink RX5 94 yX5_hasLabel ∈ TB := tb2 (List.mem_of_getElem? (i := 131) rfl) rfl
set_option maxRecDepth 100000 in
theorem wd_2_132 : Cond.instanceMethod yX5_hasLabel ∈ TB := tb2 (List.mem_of_getElem? (i := 132) rfl) rfl
set_option maxRecDepth 100000 in
theorem wd_2_133 : Cond.selects RX5 yX5_hasLabel yX5_hasLabel ∈ TB := tb2 (List.mem_of_getElem? (i := 133) rfl) rfl
set_option maxRecDepth 100000 in
theorem wd_2_134 : Cond.code yX5_hasLabel cX5_hasLabel 2 (some .boolean) ∈ TB := tb2 (List.mem_of_getElem? (i := 134) rfl) rfl
set_option maxRecDepth 100000 in
theorem wd_2_135 : Cond.methodLink RX5 98 yX4_allColumns ∈ TB := tb2 (List.mem_of_getElem? (i := 135) rfl) rfl
set_option maxRecDepth 100000 in
theorem wd_2_136 : Cond.instanceMethod yX4_allColumns ∈ TB := tb2 (List.mem_of_getElem? (i := 136) rfl) rfl
set_option maxRecDepth 100000 in
theorem wd_2_137 : Cond.selects RX4 yX4_allColumns yX4_allColumns ∈ TB := tb2 (List.mem_of_getElem? (i := 137) rfl) rfl
set_option maxRecDepth 100000 in
theorem wd_2_138 : Cond.code yX4_allColumns cX4_allColumns 1 (some .int) ∈ TB := tb2 (List.mem_of_getElem? (i := 138) rfl) rfl
set_option maxRecDepth 100000 in
theorem wd_2_139 : Cond.methodLink RX5 250 yX5_whyNotNewCustomer ∈ TB := tb2 (List.mem_of_getElem? (i := 139) rfl) rfl
set_option maxRecDepth 100000 in
theorem wd_2_140 : Cond.instanceMethod yX5_whyNotNewCustomer ∈ TB := tb2 (List.mem_of_getElem? (i := 140) rfl) rfl
set_option maxRecDepth 100000 in
theorem wd_2_141 : Cond.selects RX5 yX5_whyNotNewCustomer yX5_whyNotNewCustomer ∈ TB := tb2 (List.mem_of_getElem? (i := 141) rfl) rfl
set_option maxRecDepth 100000 in
theorem wd_2_142 : Cond.code yX5_whyNotNewCustomer cX5_whyNotNewCustomer 1 (some .int) ∈ TB := tb2 (List.mem_of_getElem? (i := 142) rfl) rfl
set_option maxRecDepth 100000 in
theorem wd_2_143 : Cond.methodLink RX5 253 yX5_whyNotLet ∈ TB := tb2 (List.mem_of_getElem? (i := 143) rfl) rfl
set_option maxRecDepth 100000 in
theorem wd_2_144 : Cond.instanceMethod yX5_whyNotLet ∈ TB := tb2 (List.mem_of_getElem? (i := 144) rfl) rfl
set_option maxRecDepth 100000 in
theorem wd_2_145 : Cond.selects RX5 yX5_whyNotLet yX5_whyNotLet ∈ TB := tb2 (List.mem_of_getElem? (i := 145) rfl) rfl
set_option maxRecDepth 100000 in
theorem wd_2_146 : Cond.code yX5_whyNotLet cX5_whyNotLet 4 (some .int) ∈ TB := tb2 (List.mem_of_getElem? (i := 146) rfl) rfl
set_option maxRecDepth 100000 in
theorem wd_2_147 : Cond.methodLink RX5 119 yX5_hasCustomer ∈ TB := tb2 (List.mem_of_getElem? (i := 147) rfl) rfl
set_option maxRecDepth 100000 in
theorem wd_2_148 : Cond.instanceMethod yX5_hasCustomer ∈ TB := tb2 (List.mem_of_getElem? (i := 148) rfl) rfl
set_option maxRecDepth 100000 in
theorem wd_2_149 : Cond.selects RX5 yX5_hasCustomer yX5_hasCustomer ∈ TB := tb2 (List.mem_of_getElem? (i := 149) rfl) rfl
set_option maxRecDepth 100000 in
theorem wd_2_150 : Cond.code yX5_hasCustomer cX5_hasCustomer 2 (some .boolean) ∈ TB := tb2 (List.mem_of_getElem? (i := 150) rfl) rfl
set_option maxRecDepth 100000 in
theorem wd_2_151 : Cond.methodLink RX5 104 yX5_hasDot ∈ TB := tb2 (List.mem_of_getElem? (i := 151) rfl) rfl
set_option maxRecDepth 100000 in
theorem wd_2_152 : Cond.instanceMethod yX5_hasDot ∈ TB := tb2 (List.mem_of_getElem? (i := 152) rfl) rfl
set_option maxRecDepth 100000 in
theorem wd_2_153 : Cond.selects RX5 yX5_hasDot yX5_hasDot ∈ TB := tb2 (List.mem_of_getElem? (i := 153) rfl) rfl
set_option maxRecDepth 100000 in
theorem wd_2_154 : Cond.code yX5_hasDot cX5_hasDot 2 (some .boolean) ∈ TB := tb2 (List.mem_of_getElem? (i := 154) rfl) rfl
set_option maxRecDepth 100000 in
theorem wd_2_155 : Cond.methodLink RX5 122 yX5_othersRentOneOf ∈ TB := tb2 (List.mem_of_getElem? (i := 155) rfl) rfl
set_option maxRecDepth 100000 in
theorem wd_2_157 : Cond.instanceMethod yX5_othersRentOneOf ∈ TB := tb2 (List.mem_of_getElem? (i := 157) rfl) rfl
set_option maxRecDepth 100000 in
theorem wd_2_158 : Cond.code yX5_othersRentOneOf cX5_othersRentOneOf 5 (some .boolean) ∈ TB := tb2 (List.mem_of_getElem? (i := 158) rfl) rfl
set_option maxRecDepth 100000 in
theorem wd_2_159 : Cond.methodLink RX5 209 yX2_rentsOneOf ∈ TB := tb2 (List.mem_of_getElem? (i := 159) rfl) rfl
set_option maxRecDepth 100000 in
theorem wd_2_160 : Cond.instanceMethod yX2_rentsOneOf ∈ TB := tb2 (List.mem_of_getElem? (i := 160) rfl) rfl
set_option maxRecDepth 100000 in
theorem wd_2_161 : Cond.selects RX2 yX2_rentsOneOf yX2_rentsOneOf ∈ TB := tb2 (List.mem_of_getElem? (i := 161) rfl) rfl
set_option maxRecDepth 100000 in
theorem wd_2_162 : Cond.code yX2_rentsOneOf cX2_rentsOneOf 3 (some .boolean) ∈ TB := tb2 (List.mem_of_getElem? (i := 162) rfl) rfl
set_option maxRecDepth 100000 in
theorem wd_2_163 : Cond.methodLink RX5 256 yX5_whyNotPrintAt ∈ TB := tb2 (List.mem_of_getElem? (i := 163) rfl) rfl
set_option maxRecDepth 100000 in
theorem wd_2_164 : Cond.instanceMethod yX5_whyNotPrintAt ∈ TB := tb2 (List.mem_of_getElem? (i := 164) rfl) rfl
set_option maxRecDepth 100000 in
theorem wd_2_165 : Cond.selects RX5 yX5_whyNotPrintAt yX5_whyNotPrintAt ∈ TB := tb2 (List.mem_of_getElem? (i := 165) rfl) rfl
set_option maxRecDepth 100000 in
theorem wd_2_166 : Cond.code yX5_whyNotPrintAt cX5_whyNotPrintAt 5 (some .int) ∈ TB := tb2 (List.mem_of_getElem? (i := 166) rfl) rfl
set_option maxRecDepth 100000 in
theorem wd_2_167 : Cond.methodLink RX5 138 yX5_whyNotAskAbout ∈ TB := tb2 (List.mem_of_getElem? (i := 167) rfl) rfl
set_option maxRecDepth 100000 in
theorem wd_2_168 : Cond.instanceMethod yX5_whyNotAskAbout ∈ TB := tb2 (List.mem_of_getElem? (i := 168) rfl) rfl
set_option maxRecDepth 100000 in
theorem wd_2_169 : Cond.selects RX5 yX5_whyNotAskAbout yX5_whyNotAskAbout ∈ TB := tb2 (List.mem_of_getElem? (i := 169) rfl) rfl
set_option maxRecDepth 100000 in
theorem wd_2_170 : Cond.code yX5_whyNotAskAbout cX5_whyNotAskAbout 4 (some .int) ∈ TB := tb2 (List.mem_of_getElem? (i := 170) rfl) rfl
set_option maxRecDepth 100000 in
theorem wd_2_171 : Cond.methodLink RX5 142 yX5_reasonAt ∈ TB := tb2 (List.mem_of_getElem? (i := 171) rfl) rfl
set_option maxRecDepth 100000 in
theorem wd_2_172 : Cond.instanceMethod yX5_reasonAt ∈ TB := tb2 (List.mem_of_getElem? (i := 172) rfl) rfl
set_option maxRecDepth 100000 in
theorem wd_2_173 : Cond.selects RX5 yX5_reasonAt yX5_reasonAt ∈ TB := tb2 (List.mem_of_getElem? (i := 173) rfl) rfl
set_option maxRecDepth 100000 in
theorem wd_2_174 : Cond.code yX5_reasonAt cX5_reasonAt 5 (some .int) ∈ TB := tb2 (List.mem_of_getElem? (i := 174) rfl) rfl
set_option maxRecDepth 100000 in
theorem wd_2_175 : Cond.methodLink RX5 213 yX4_blackCells ∈ TB := tb2 (List.mem_of_getElem? (i := 175) rfl) rfl
set_option maxRecDepth 100000 in
theorem wd_2_176 : Cond.instanceMethod yX4_blackCells ∈ TB := tb2 (List.mem_of_getElem? (i := 176) rfl) rfl
set_option maxRecDepth 100000 in
theorem wd_2_177 : Cond.selects RX4 yX4_blackCells yX4_blackCells ∈ TB := tb2 (List.mem_of_getElem? (i := 177) rfl) rfl
set_option maxRecDepth 100000 in
theorem wd_2_178 : Cond.code yX4_blackCells cX4_blackCells 3 (some .int) ∈ TB := tb2 (List.mem_of_getElem? (i := 178) rfl) rfl
set_option maxRecDepth 100000 in
theorem wd_2_179 : Cond.methodLink RX4 34 yJ6_bitCount_0f7a4 ∈ TB := tb2 (List.mem_of_getElem? (i := 179) rfl) rfl
set_option maxRecDepth 100000 in
theorem wd_2_180 : Cond.static yJ6_bitCount_0f7a4 ∈ TB := tb2 (List.mem_of_getElem? (i := 180) rfl) rfl
set_option maxRecDepth 100000 in
theorem wd_2_181 : Cond.code yJ6_bitCount_0f7a4 cJ6_bitCount_0f7a4 1 (some .int) ∈ TB := tb2 (List.mem_of_getElem? (i := 181) rfl) rfl
set_option maxRecDepth 100000 in
theorem wd_2_182 : Cond.constant RJ6 265 (1431655765) ∈ TB := tb2 (List.mem_of_getElem? (i := 182) rfl) rfl
set_option maxRecDepth 100000 in
theorem wd_2_183 : Cond.constant RJ6 266 (858993459) ∈ TB := tb2 (List.mem_of_getElem? (i := 183) rfl) rfl
set_option maxRecDepth 100000 in
theorem wd_2_184 : Cond.constant RJ6 267 (252645135) ∈ TB := tb2 (List.mem_of_getElem? (i := 184) rfl) rfl
set_option maxRecDepth 100000 in
theorem wd_2_185 : Cond.methodLink RX5 259 yX5_whyNotPrintAtBest ∈ TB := tb2 (List.mem_of_getElem? (i := 185) rfl) rfl
set_option maxRecDepth 100000 in
theorem wd_2_186 : Cond.instanceMethod yX5_whyNotPrintAtBest ∈ TB := tb2 (List.mem_of_getElem? (i := 186) rfl) rfl
set_option maxRecDepth 100000 in
theorem wd_2_187 : Cond.selects RX5 yX5_whyNotPrintAtBest yX5_whyNotPrintAtBest ∈ TB := tb2 (List.mem_of_getElem? (i := 187) rfl) rfl
set_option maxRecDepth 100000 in
theorem wd_2_188 : Cond.code yX5_whyNotPrintAtBest cX5_whyNotPrintAtBest 3 (some .int) ∈ TB := tb2 (List.mem_of_getElem? (i := 188) rfl) rfl
set_option maxRecDepth 100000 in
theorem wd_2_189 : Cond.methodLink RX5 170 yX5_whyNotPair ∈ TB := tb2 (List.mem_of_getElem? (i := 189) rfl) rfl
set_option maxRecDepth 100000 in
theorem wd_2_190 : Cond.instanceMethod yX5_whyNotPair ∈ TB := tb2 (List.mem_of_getElem? (i := 190) rfl) rfl
set_option maxRecDepth 100000 in
theorem wd_2_191 : Cond.selects RX5 yX5_whyNotPair yX5_whyNotPair ∈ TB := tb2 (List.mem_of_getElem? (i := 191) rfl) rfl
set_option maxRecDepth 100000 in
theorem wd_2_192 : Cond.code yX5_whyNotPair cX5_whyNotPair 3 (some .int) ∈ TB := tb2 (List.mem_of_getElem? (i := 192) rfl) rfl
set_option maxRecDepth 100000 in
theorem wd_2_193 : Cond.methodLink RX5 174 yX5_bestPlace ∈ TB := tb2 (List.mem_of_getElem? (i := 193) rfl) rfl
set_option maxRecDepth 100000 in
theorem wd_2_194 : Cond.instanceMethod yX5_bestPlace ∈ TB := tb2 (List.mem_of_getElem? (i := 194) rfl) rfl
set_option maxRecDepth 100000 in
theorem wd_2_195 : Cond.selects RX5 yX5_bestPlace yX5_bestPlace ∈ TB := tb2 (List.mem_of_getElem? (i := 195) rfl) rfl
set_option maxRecDepth 100000 in
theorem wd_2_196 : Cond.code yX5_bestPlace cX5_bestPlace 9 (some .int) ∈ TB := tb2 (List.mem_of_getElem? (i := 196) rfl) rfl
set_option maxRecDepth 100000 in
theorem wd_2_197 : Cond.methodLink RX5 228 yX5_unreadableAt ∈ TB := tb2 (List.mem_of_getElem? (i := 197) rfl) rfl
set_option maxRecDepth 100000 in
theorem wd_2_198 : Cond.instanceMethod yX5_unreadableAt ∈ TB := tb2 (List.mem_of_getElem? (i := 198) rfl) rfl
set_option maxRecDepth 100000 in
theorem wd_2_199 : Cond.selects RX5 yX5_unreadableAt yX5_unreadableAt ∈ TB := tb2 (List.mem_of_getElem? (i := 199) rfl) rfl
set_option maxRecDepth 100000 in
theorem wd_2_200 : Cond.code yX5_unreadableAt cX5_unreadableAt 3 (some .int) ∈ TB := tb2 (List.mem_of_getElem? (i := 200) rfl) rfl
set_option maxRecDepth 100000 in
theorem wd_2_201 : Cond.methodLink RX5 224 yX3_takePart ∈ TB := tb2 (List.mem_of_getElem? (i := 201) rfl) rfl
set_option maxRecDepth 100000 in
theorem wd_2_202 : Cond.instanceMethod yX3_takePart ∈ TB := tb2 (List.mem_of_getElem? (i := 202) rfl) rfl
set_option maxRecDepth 100000 in
theorem wd_2_203 : Cond.selects RX3 yX3_takePart yX3_takePart ∈ TB := tb2 (List.mem_of_getElem? (i := 203) rfl) rfl
set_option maxRecDepth 100000 in
theorem wd_2_204 : Cond.code yX3_takePart cX3_takePart 4 none ∈ TB := tb2 (List.mem_of_getElem? (i := 204) rfl) rfl
set_option maxRecDepth 100000 in
theorem wd_2_205 : Cond.methodLink RX5 148 yX3_printRows ∈ TB := tb2 (List.mem_of_getElem? (i := 205) rfl) rfl
set_option maxRecDepth 100000 in
theorem wd_2_206 : Cond.instanceMethod yX3_printRows ∈ TB := tb2 (List.mem_of_getElem? (i := 206) rfl) rfl
set_option maxRecDepth 100000 in
theorem wd_2_207 : Cond.selects RX3 yX3_printRows yX3_printRows ∈ TB := tb2 (List.mem_of_getElem? (i := 207) rfl) rfl
set_option maxRecDepth 100000 in
theorem wd_2_208 : Cond.code yX3_printRows cX3_printRows 9 (some .int) ∈ TB := tb2 (List.mem_of_getElem? (i := 208) rfl) rfl
set_option maxRecDepth 100000 in
theorem wd_2_209 : Cond.methodLink RX3 46 yX3_fadeOf ∈ TB := tb2 (List.mem_of_getElem? (i := 209) rfl) rfl
set_option maxRecDepth 100000 in
theorem wd_2_210 : Cond.instanceMethod yX3_fadeOf ∈ TB := tb2 (List.mem_of_getElem? (i := 210) rfl) rfl
set_option maxRecDepth 100000 in
theorem wd_2_211 : Cond.selects RX3 yX3_fadeOf yX3_fadeOf ∈ TB := tb2 (List.mem_of_getElem? (i := 211) rfl) rfl
set_option maxRecDepth 100000 in
theorem wd_2_212 : Cond.code yX3_fadeOf cX3_fadeOf 5 (some .int) ∈ TB := tb2 (List.mem_of_getElem? (i := 212) rfl) rfl
set_option maxRecDepth 100000 in
theorem wd_2_213 : Cond.methodLink RX3 53 yX3_burn ∈ TB := tb2 (List.mem_of_getElem? (i := 213) rfl) rfl
set_option maxRecDepth 100000 in
theorem wd_2_215 : Cond.instanceMethod yX3_burn ∈ TB := tb2 (List.mem_of_getElem? (i := 215) rfl) rfl
set_option maxRecDepth 100000 in
theorem wd_2_216 : Cond.code yX3_burn cX3_burn 4 none ∈ TB := tb2 (List.mem_of_getElem? (i := 216) rfl) rfl
set_option maxRecDepth 100000 in
theorem wd_2_217 : Cond.methodLink RX3 57 yX3_lose ∈ TB := tb2 (List.mem_of_getElem? (i := 217) rfl) rfl
set_option maxRecDepth 100000 in
theorem wd_2_218 : Cond.instanceMethod yX3_lose ∈ TB := tb2 (List.mem_of_getElem? (i := 218) rfl) rfl
set_option maxRecDepth 100000 in
theorem wd_2_219 : Cond.selects RX3 yX3_lose yX3_lose ∈ TB := tb2 (List.mem_of_getElem? (i := 219) rfl) rfl
set_option maxRecDepth 100000 in
theorem wd_2_220 : Cond.code yX3_lose cX3_lose 3 none ∈ TB := tb2 (List.mem_of_getElem? (i := 220) rfl) rfl
set_option maxRecDepth 100000 in
theorem wd_2_221 : Cond.methodLink RX5 145 yX5_priceAt ∈ TB := tb2 (List.mem_of_getElem? (i := 221) rfl) rfl
set_option maxRecDepth 100000 in
theorem wd_2_222 : Cond.instanceMethod yX5_priceAt ∈ TB := tb2 (List.mem_of_getElem? (i := 222) rfl) rfl
set_option maxRecDepth 100000 in
theorem wd_2_223 : Cond.selects RX5 yX5_priceAt yX5_priceAt ∈ TB := tb2 (List.mem_of_getElem? (i := 223) rfl) rfl
set_option maxRecDepth 100000 in
theorem wd_2_224 : Cond.code yX5_priceAt cX5_priceAt 8 (some .int) ∈ TB := tb2 (List.mem_of_getElem? (i := 224) rfl) rfl
set_option maxRecDepth 100000 in
theorem wd_2_225 : Cond.methodLink RX5 216 yX2_rentsAllOf ∈ TB := tb2 (List.mem_of_getElem? (i := 225) rfl) rfl
set_option maxRecDepth 100000 in
theorem wd_2_226 : Cond.instanceMethod yX2_rentsAllOf ∈ TB := tb2 (List.mem_of_getElem? (i := 226) rfl) rfl
set_option maxRecDepth 100000 in
theorem wd_2_227 : Cond.selects RX2 yX2_rentsAllOf yX2_rentsAllOf ∈ TB := tb2 (List.mem_of_getElem? (i := 227) rfl) rfl
set_option maxRecDepth 100000 in
theorem wd_2_228 : Cond.code yX2_rentsAllOf cX2_rentsAllOf 3 (some .boolean) ∈ TB := tb2 (List.mem_of_getElem? (i := 228) rfl) rfl
set_option maxRecDepth 100000 in
theorem wd_2_229 : Cond.methodLink RX5 206 yX3_wearSum ∈ TB := tb2 (List.mem_of_getElem? (i := 229) rfl) rfl
set_option maxRecDepth 100000 in
theorem wd_2_230 : Cond.instanceMethod yX3_wearSum ∈ TB := tb2 (List.mem_of_getElem? (i := 230) rfl) rfl
set_option maxRecDepth 100000 in
theorem wd_2_231 : Cond.selects RX3 yX3_wearSum yX3_wearSum ∈ TB := tb2 (List.mem_of_getElem? (i := 231) rfl) rfl
set_option maxRecDepth 100000 in
theorem wd_2_232 : Cond.code yX3_wearSum cX3_wearSum 5 (some .int) ∈ TB := tb2 (List.mem_of_getElem? (i := 232) rfl) rfl
set_option maxRecDepth 100000 in
theorem wd_2_233 : Cond.methodLink RX5 219 Lib.Math.min.name ∈ TB := tb2 (List.mem_of_getElem? (i := 233) rfl) rfl
set_option maxRecDepth 100000 in
theorem wd_2_234 : Cond.static Lib.Math.min.name ∈ TB := tb2 (List.mem_of_getElem? (i := 234) rfl) rfl
set_option maxRecDepth 100000 in
theorem wd_2_235 : Cond.code Lib.Math.min.name Lib.Math.min.code 2 (some .int) ∈ TB := tb2 (List.mem_of_getElem? (i := 235) rfl) rfl
set_option maxRecDepth 100000 in
theorem wd_2_236 : Cond.methodLink RX5 262 yX5_whyNotPassLines ∈ TB := tb2 (List.mem_of_getElem? (i := 236) rfl) rfl
set_option maxRecDepth 100000 in
theorem wd_2_237 : Cond.instanceMethod yX5_whyNotPassLines ∈ TB := tb2 (List.mem_of_getElem? (i := 237) rfl) rfl
set_option maxRecDepth 100000 in
theorem wd_2_238 : Cond.selects RX5 yX5_whyNotPassLines yX5_whyNotPassLines ∈ TB := tb2 (List.mem_of_getElem? (i := 238) rfl) rfl
set_option maxRecDepth 100000 in
theorem wd_2_239 : Cond.code yX5_whyNotPassLines cX5_whyNotPassLines 2 (some .int) ∈ TB := tb2 (List.mem_of_getElem? (i := 239) rfl) rfl
set_option maxRecDepth 100000 in
theorem wd_3_0 : Cond.methodLink RX5 265 yX5_whyNotNewDot ∈ TB := tb3 (List.mem_of_getElem? (i := 0) rfl) rfl
set_option maxRecDepth 100000 in
theorem wd_3_1 : Cond.instanceMethod yX5_whyNotNewDot ∈ TB := tb3 (List.mem_of_getElem? (i := 1) rfl) rfl
set_option maxRecDepth 100000 in
theorem wd_3_2 : Cond.selects RX5 yX5_whyNotNewDot yX5_whyNotNewDot ∈ TB := tb3 (List.mem_of_getElem? (i := 2) rfl) rfl
set_option maxRecDepth 100000 in
theorem wd_3_3 : Cond.code yX5_whyNotNewDot cX5_whyNotNewDot 2 (some .int) ∈ TB := tb3 (List.mem_of_getElem? (i := 3) rfl) rfl
set_option maxRecDepth 100000 in
theorem wd_3_4 : Cond.methodLink RX5 268 yX5_whyNotChangeSetting ∈ TB := tb3 (List.mem_of_getElem? (i := 4) rfl) rfl
set_option maxRecDepth 100000 in
theorem wd_3_5 : Cond.instanceMethod yX5_whyNotChangeSetting ∈ TB := tb3 (List.mem_of_getElem? (i := 5) rfl) rfl
set_option maxRecDepth 100000 in
theorem wd_3_6 : Cond.selects RX5 yX5_whyNotChangeSetting yX5_whyNotChangeSetting ∈ TB := tb3 (List.mem_of_getElem? (i := 6) rfl) rfl
set_option maxRecDepth 100000 in
theorem wd_3_7 : Cond.code yX5_whyNotChangeSetting cX5_whyNotChangeSetting 3 (some .int) ∈ TB := tb3 (List.mem_of_getElem? (i := 7) rfl) rfl
set_option maxRecDepth 100000 in
theorem wd_3_12 : Cond.methodLink RX7 206 yX5_carryOut ∈ TB := tb3 (List.mem_of_getElem? (i := 12) rfl) rfl
set_option maxRecDepth 100000 in
theorem wd_3_13 : Cond.instanceMethod yX5_carryOut ∈ TB := tb3 (List.mem_of_getElem? (i := 13) rfl) rfl
set_option maxRecDepth 100000 in
theorem wd_3_14 : Cond.selects RX5 yX5_carryOut yX5_carryOut ∈ TB := tb3 (List.mem_of_getElem? (i := 14) rfl) rfl
set_option maxRecDepth 100000 in
theorem wd_3_15 : Cond.code yX5_carryOut cX5_carryOut 3 (some .int) ∈ TB := tb3 (List.mem_of_getElem? (i := 15) rfl) rfl
set_option maxRecDepth 100000 in
theorem wd_3_16 : Cond.methodLink RX5 271 yX5_newHead ∈ TB := tb3 (List.mem_of_getElem? (i := 16) rfl) rfl
set_option maxRecDepth 100000 in
theorem wd_3_17 : Cond.instanceMethod yX5_newHead ∈ TB := tb3 (List.mem_of_getElem? (i := 17) rfl) rfl
set_option maxRecDepth 100000 in
theorem wd_3_18 : Cond.selects RX5 yX5_newHead yX5_newHead ∈ TB := tb3 (List.mem_of_getElem? (i := 18) rfl) rfl
set_option maxRecDepth 100000 in
theorem wd_3_19 : Cond.code yX5_newHead cX5_newHead 4 (some .int) ∈ TB := tb3 (List.mem_of_getElem? (i := 19) rfl) rfl
set_option maxRecDepth 100000 in
theorem wd_3_20 : Cond.methodLink RX5 71 yX5_allWear ∈ TB := tb3 (List.mem_of_getElem? (i := 20) rfl) rfl
set_option maxRecDepth 100000 in
theorem wd_3_22 : Cond.instanceMethod yX5_allWear ∈ TB := tb3 (List.mem_of_getElem? (i := 22) rfl) rfl
set_option maxRecDepth 100000 in
theorem wd_3_23 : Cond.code yX5_allWear cX5_allWear 1 (some .int) ∈ TB := tb3 (List.mem_of_getElem? (i := 23) rfl) rfl
set_option maxRecDepth 100000 in
theorem wd_3_24 : Cond.methodLink RX5 75 yX3_renewAll ∈ TB := tb3 (List.mem_of_getElem? (i := 24) rfl) rfl
set_option maxRecDepth 100000 in
theorem wd_3_25 : Cond.instanceMethod yX3_renewAll ∈ TB := tb3 (List.mem_of_getElem? (i := 25) rfl) rfl
set_option maxRecDepth 100000 in
theorem wd_3_26 : Cond.selects RX3 yX3_renewAll yX3_renewAll ∈ TB := tb3 (List.mem_of_getElem? (i := 26) rfl) rfl
set_option maxRecDepth 100000 in
theorem wd_3_27 : Cond.code yX3_renewAll cX3_renewAll 3 none ∈ TB := tb3 (List.mem_of_getElem? (i := 27) rfl) rfl
set_option maxRecDepth 100000 in
theorem wd_3_28 : Cond.methodLink RX3 34 yX3_renew ∈ TB := tb3 (List.mem_of_getElem? (i := 28) rfl) rfl
set_option maxRecDepth 100000 in
theorem wd_3_29 : Cond.instanceMethod yX3_renew ∈ TB := tb3 (List.mem_of_getElem? (i := 29) rfl) rfl
set_option maxRecDepth 100000 in
theorem wd_3_30 : Cond.selects RX3 yX3_renew yX3_renew ∈ TB := tb3 (List.mem_of_getElem? (i := 30) rfl) rfl
set_option maxRecDepth 100000 in
theorem wd_3_31 : Cond.code yX3_renew cX3_renew 2 none ∈ TB := tb3 (List.mem_of_getElem? (i := 31) rfl) rfl
set_option maxRecDepth 100000 in
theorem wd_3_32 : Cond.methodLink RX5 79 yX2_rentNothing ∈ TB := tb3 (List.mem_of_getElem? (i := 32) rfl) rfl
set_option maxRecDepth 100000 in
theorem wd_3_33 : Cond.instanceMethod yX2_rentNothing ∈ TB := tb3 (List.mem_of_getElem? (i := 33) rfl) rfl
set_option maxRecDepth 100000 in
theorem wd_3_34 : Cond.selects RX2 yX2_rentNothing yX2_rentNothing ∈ TB := tb3 (List.mem_of_getElem? (i := 34) rfl) rfl
set_option maxRecDepth 100000 in
theorem wd_3_35 : Cond.code yX2_rentNothing cX2_rentNothing 1 none ∈ TB := tb3 (List.mem_of_getElem? (i := 35) rfl) rfl
set_option maxRecDepth 100000 in
theorem wd_3_36 : Cond.methodLink RX5 274 yX5_newLabel ∈ TB := tb3 (List.mem_of_getElem? (i := 36) rfl) rfl
set_option maxRecDepth 100000 in
theorem wd_3_37 : Cond.instanceMethod yX5_newLabel ∈ TB := tb3 (List.mem_of_getElem? (i := 37) rfl) rfl
set_option maxRecDepth 100000 in
theorem wd_3_38 : Cond.selects RX5 yX5_newLabel yX5_newLabel ∈ TB := tb3 (List.mem_of_getElem? (i := 38) rfl) rfl
set_option maxRecDepth 100000 in
theorem wd_3_39 : Cond.code yX5_newLabel cX5_newLabel 3 (some .int) ∈ TB := tb3 (List.mem_of_getElem? (i := 39) rfl) rfl
set_option maxRecDepth 100000 in
theorem wd_3_40 : Cond.methodLink RX5 277 yX5_changeRow ∈ TB := tb3 (List.mem_of_getElem? (i := 40) rfl) rfl
set_option maxRecDepth 100000 in
theorem wd_3_41 : Cond.instanceMethod yX5_changeRow ∈ TB := tb3 (List.mem_of_getElem? (i := 41) rfl) rfl
set_option maxRecDepth 100000 in
theorem wd_3_42 : Cond.selects RX5 yX5_changeRow yX5_changeRow ∈ TB := tb3 (List.mem_of_getElem? (i := 42) rfl) rfl
set_option maxRecDepth 100000 in
theorem wd_3_43 : Cond.code yX5_changeRow cX5_changeRow 5 (some .int) ∈ TB := tb3 (List.mem_of_getElem? (i := 43) rfl) rfl
set_option maxRecDepth 100000 in
theorem wd_3_44 : Cond.methodLink RX5 280 yX5_newCustomer ∈ TB := tb3 (List.mem_of_getElem? (i := 44) rfl) rfl
set_option maxRecDepth 100000 in
theorem wd_3_45 : Cond.instanceMethod yX5_newCustomer ∈ TB := tb3 (List.mem_of_getElem? (i := 45) rfl) rfl
set_option maxRecDepth 100000 in
theorem wd_3_46 : Cond.selects RX5 yX5_newCustomer yX5_newCustomer ∈ TB := tb3 (List.mem_of_getElem? (i := 46) rfl) rfl
set_option maxRecDepth 100000 in
theorem wd_3_47 : Cond.code yX5_newCustomer cX5_newCustomer 1 (some .int) ∈ TB := tb3 (List.mem_of_getElem? (i := 47) rfl) rfl
set_option maxRecDepth 100000 in
theorem wd_3_48 : Cond.methodLink RX5 283 yX5_let ∈ TB := tb3 (List.mem_of_getElem? (i := 48) rfl) rfl
set_option maxRecDepth 100000 in
theorem wd_3_49 : Cond.instanceMethod yX5_let ∈ TB := tb3 (List.mem_of_getElem? (i := 49) rfl) rfl
set_option maxRecDepth 100000 in
theorem wd_3_50 : Cond.selects RX5 yX5_let yX5_let ∈ TB := tb3 (List.mem_of_getElem? (i := 50) rfl) rfl
set_option maxRecDepth 100000 in
theorem wd_3_51 : Cond.code yX5_let cX5_let 4 (some .int) ∈ TB := tb3 (List.mem_of_getElem? (i := 51) rfl) rfl
set_option maxRecDepth 100000 in
theorem wd_3_52 : Cond.methodLink RX5 132 yX5_allRented ∈ TB := tb3 (List.mem_of_getElem? (i := 52) rfl) rfl
set_option maxRecDepth 100000 in
theorem wd_3_54 : Cond.instanceMethod yX5_allRented ∈ TB := tb3 (List.mem_of_getElem? (i := 54) rfl) rfl
set_option maxRecDepth 100000 in
theorem wd_3_55 : Cond.code yX5_allRented cX5_allRented 3 (some .int) ∈ TB := tb3 (List.mem_of_getElem? (i := 55) rfl) rfl
set_option maxRecDepth 100000 in
theorem wd_3_56 : Cond.methodLink RX5 135 yX2_rented ∈ TB := tb3 (List.mem_of_getElem? (i := 56) rfl) rfl
set_option maxRecDepth 100000 in
theorem wd_3_57 : Cond.instanceMethod yX2_rented ∈ TB := tb3 (List.mem_of_getElem? (i := 57) rfl) rfl
set_option maxRecDepth 100000 in
theorem wd_3_58 : Cond.selects RX2 yX2_rented yX2_rented ∈ TB := tb3 (List.mem_of_getElem? (i := 58) rfl) rfl
set_option maxRecDepth 100000 in
theorem wd_3_59 : Cond.code yX2_rented cX2_rented 1 (some .int) ∈ TB := tb3 (List.mem_of_getElem? (i := 59) rfl) rfl
set_option maxRecDepth 100000 in
theorem wd_3_60 : Cond.methodLink RX5 177 yX5_printAt ∈ TB := tb3 (List.mem_of_getElem? (i := 60) rfl) rfl
set_option maxRecDepth 100000 in
theorem wd_3_61 : Cond.instanceMethod yX5_printAt ∈ TB := tb3 (List.mem_of_getElem? (i := 61) rfl) rfl
set_option maxRecDepth 100000 in
theorem wd_3_62 : Cond.selects RX5 yX5_printAt yX5_printAt ∈ TB := tb3 (List.mem_of_getElem? (i := 62) rfl) rfl
set_option maxRecDepth 100000 in
theorem wd_3_63 : Cond.code yX5_printAt cX5_printAt 6 (some .int) ∈ TB := tb3 (List.mem_of_getElem? (i := 63) rfl) rfl
set_option maxRecDepth 100000 in
theorem wd_3_64 : Cond.methodLink RX5 152 yX5_book ∈ TB := tb3 (List.mem_of_getElem? (i := 64) rfl) rfl
set_option maxRecDepth 100000 in
theorem wd_3_66 : Cond.instanceMethod yX5_book ∈ TB := tb3 (List.mem_of_getElem? (i := 66) rfl) rfl
set_option maxRecDepth 100000 in
theorem wd_3_67 : Cond.code yX5_book cX5_book 5 none ∈ TB := tb3 (List.mem_of_getElem? (i := 67) rfl) rfl
set_option maxRecDepth 100000 in
theorem wd_3_68 : Cond.methodLink RX5 286 yX5_printAtBest ∈ TB := tb3 (List.mem_of_getElem? (i := 68) rfl) rfl
set_option maxRecDepth 100000 in
theorem wd_3_69 : Cond.instanceMethod yX5_printAtBest ∈ TB := tb3 (List.mem_of_getElem? (i := 69) rfl) rfl
set_option maxRecDepth 100000 in
theorem wd_3_70 : Cond.selects RX5 yX5_printAtBest yX5_printAtBest ∈ TB := tb3 (List.mem_of_getElem? (i := 70) rfl) rfl
set_option maxRecDepth 100000 in
theorem wd_3_71 : Cond.code yX5_printAtBest cX5_printAtBest 4 (some .int) ∈ TB := tb3 (List.mem_of_getElem? (i := 71) rfl) rfl
set_option maxRecDepth 100000 in
theorem wd_3_72 : Cond.methodLink RX5 289 yX5_passLines ∈ TB := tb3 (List.mem_of_getElem? (i := 72) rfl) rfl
set_option maxRecDepth 100000 in
theorem wd_3_73 : Cond.instanceMethod yX5_passLines ∈ TB := tb3 (List.mem_of_getElem? (i := 73) rfl) rfl
set_option maxRecDepth 100000 in
theorem wd_3_74 : Cond.selects RX5 yX5_passLines yX5_passLines ∈ TB := tb3 (List.mem_of_getElem? (i := 74) rfl) rfl
set_option maxRecDepth 100000 in
theorem wd_3_75 : Cond.code yX5_passLines cX5_passLines 2 (some .int) ∈ TB := tb3 (List.mem_of_getElem? (i := 75) rfl) rfl
set_option maxRecDepth 100000 in
theorem wd_3_76 : Cond.methodLink RX5 113 yX3_lose ∈ TB := tb3 (List.mem_of_getElem? (i := 76) rfl) rfl
set_option maxRecDepth 100000 in
theorem wd_3_77 : Cond.methodLink RX5 116 yX3_heatSum ∈ TB := tb3 (List.mem_of_getElem? (i := 77) rfl) rfl
set_option maxRecDepth 100000 in
theorem wd_3_78 : Cond.instanceMethod yX3_heatSum ∈ TB := tb3 (List.mem_of_getElem? (i := 78) rfl) rfl
set_option maxRecDepth 100000 in
theorem wd_3_79 : Cond.selects RX3 yX3_heatSum yX3_heatSum ∈ TB := tb3 (List.mem_of_getElem? (i := 79) rfl) rfl
set_option maxRecDepth 100000 in
theorem wd_3_80 : Cond.code yX3_heatSum cX3_heatSum 3 (some .int) ∈ TB := tb3 (List.mem_of_getElem? (i := 80) rfl) rfl
set_option maxRecDepth 100000 in
theorem wd_3_81 : Cond.methodLink RX5 292 yX5_newDot ∈ TB := tb3 (List.mem_of_getElem? (i := 81) rfl) rfl
set_option maxRecDepth 100000 in
theorem wd_3_82 : Cond.instanceMethod yX5_newDot ∈ TB := tb3 (List.mem_of_getElem? (i := 82) rfl) rfl
set_option maxRecDepth 100000 in
theorem wd_3_83 : Cond.selects RX5 yX5_newDot yX5_newDot ∈ TB := tb3 (List.mem_of_getElem? (i := 83) rfl) rfl
set_option maxRecDepth 100000 in
theorem wd_3_84 : Cond.code yX5_newDot cX5_newDot 3 (some .int) ∈ TB := tb3 (List.mem_of_getElem? (i := 84) rfl) rfl
set_option maxRecDepth 100000 in
theorem wd_3_85 : Cond.methodLink RX5 110 yX3_renew ∈ TB := tb3 (List.mem_of_getElem? (i := 85) rfl) rfl
set_option maxRecDepth 100000 in
theorem wd_3_86 : Cond.methodLink RX5 295 yX5_changeSetting ∈ TB := tb3 (List.mem_of_getElem? (i := 86) rfl) rfl
set_option maxRecDepth 100000 in
theorem wd_3_87 : Cond.instanceMethod yX5_changeSetting ∈ TB := tb3 (List.mem_of_getElem? (i := 87) rfl) rfl
set_option maxRecDepth 100000 in
theorem wd_3_88 : Cond.selects RX5 yX5_changeSetting yX5_changeSetting ∈ TB := tb3 (List.mem_of_getElem? (i := 88) rfl) rfl
set_option maxRecDepth 100000 in
theorem wd_3_89 : Cond.code yX5_changeSetting cX5_changeSetting 4 (some .int) ∈ TB := tb3 (List.mem_of_getElem? (i := 89) rfl) rfl
set_option maxRecDepth 100000 in
theorem wd_3_94 : Cond.constantLong RX7 216 (43448) ∈ TB := tb3 (List.mem_of_getElem? (i := 94) rfl) rfl
set_option maxRecDepth 100000 in
theorem wd_3_95 : Cond.methodLink RX7 218 yX7_mix ∈ TB := tb3 (List.mem_of_getElem? (i := 95) rfl) rfl
set_option maxRecDepth 100000 in
theorem wd_3_96 : Cond.static yX7_mix ∈ TB := tb3 (List.mem_of_getElem? (i := 96) rfl) rfl
set_option maxRecDepth 100000 in
theorem wd_3_97 : Cond.code yX7_mix cX7_mix 4 (some .long) ∈ TB := tb3 (List.mem_of_getElem? (i := 97) rfl) rfl
set_option maxRecDepth 100000 in
theorem wd_3_98 : Cond.constantLong RX7 247 (31) ∈ TB := tb3 (List.mem_of_getElem? (i := 98) rfl) rfl
set_option maxRecDepth 100000 in
theorem wd_3_99 : Cond.methodLink RX7 222 yX7_whole ∈ TB := tb3 (List.mem_of_getElem? (i := 99) rfl) rfl
set_option maxRecDepth 100000 in
theorem wd_3_100 : Cond.instanceMethod yX7_whole ∈ TB := tb3 (List.mem_of_getElem? (i := 100) rfl) rfl
set_option maxRecDepth 100000 in
theorem wd_3_101 : Cond.selects RX7 yX7_whole yX7_whole ∈ TB := tb3 (List.mem_of_getElem? (i := 101) rfl) rfl
set_option maxRecDepth 100000 in
theorem wd_3_102 : Cond.code yX7_whole cX7_whole 2 (some .int) ∈ TB := tb3 (List.mem_of_getElem? (i := 102) rfl) rfl
set_option maxRecDepth 100000 in
theorem wd_3_103 : Cond.methodLink RX7 36 yX7_refuse ∈ TB := tb3 (List.mem_of_getElem? (i := 103) rfl) rfl
set_option maxRecDepth 100000 in
theorem wd_3_104 : Cond.static yX7_refuse ∈ TB := tb3 (List.mem_of_getElem? (i := 104) rfl) rfl
set_option maxRecDepth 100000 in
theorem wd_3_105 : Cond.code yX7_refuse cX7_refuse 1 none ∈ TB := tb3 (List.mem_of_getElem? (i := 105) rfl) rfl
set_option maxRecDepth 100000 in
theorem wd_3_206 : Cond.methodLink RX7 145 yX5_wholeValue ∈ TB := tb3 (List.mem_of_getElem? (i := 206) rfl) rfl
set_option maxRecDepth 100000 in
theorem wd_3_207 : Cond.instanceMethod yX5_wholeValue ∈ TB := tb3 (List.mem_of_getElem? (i := 207) rfl) rfl
set_option maxRecDepth 100000 in
theorem wd_3_208 : Cond.selects RX5 yX5_wholeValue yX5_wholeValue ∈ TB := tb3 (List.mem_of_getElem? (i := 208) rfl) rfl
set_option maxRecDepth 100000 in
theorem wd_3_209 : Cond.code yX5_wholeValue cX5_wholeValue 2 (some .int) ∈ TB := tb3 (List.mem_of_getElem? (i := 209) rfl) rfl
set_option maxRecDepth 100000 in
theorem wd_3_210 : Cond.methodLink RX5 197 yX5_allPrinted ∈ TB := tb3 (List.mem_of_getElem? (i := 210) rfl) rfl
set_option maxRecDepth 100000 in
theorem wd_3_212 : Cond.instanceMethod yX5_allPrinted ∈ TB := tb3 (List.mem_of_getElem? (i := 212) rfl) rfl
set_option maxRecDepth 100000 in
theorem wd_3_213 : Cond.code yX5_allPrinted cX5_allPrinted 3 (some .int) ∈ TB := tb3 (List.mem_of_getElem? (i := 213) rfl) rfl
set_option maxRecDepth 100000 in
theorem wd_3_214 : Cond.methodLink RX5 200 yX5_allFailed ∈ TB := tb3 (List.mem_of_getElem? (i := 214) rfl) rfl
set_option maxRecDepth 100000 in
theorem wd_3_216 : Cond.instanceMethod yX5_allFailed ∈ TB := tb3 (List.mem_of_getElem? (i := 216) rfl) rfl
set_option maxRecDepth 100000 in
theorem wd_3_217 : Cond.code yX5_allFailed cX5_allFailed 3 (some .int) ∈ TB := tb3 (List.mem_of_getElem? (i := 217) rfl) rfl
set_option maxRecDepth 100000 in
theorem wd_3_218 : Cond.methodLink RX5 203 yX5_allEarned ∈ TB := tb3 (List.mem_of_getElem? (i := 218) rfl) rfl
set_option maxRecDepth 100000 in
theorem wd_3_220 : Cond.instanceMethod yX5_allEarned ∈ TB := tb3 (List.mem_of_getElem? (i := 220) rfl) rfl
set_option maxRecDepth 100000 in
theorem wd_3_221 : Cond.code yX5_allEarned cX5_allEarned 3 (some .int) ∈ TB := tb3 (List.mem_of_getElem? (i := 221) rfl) rfl
set_option maxRecDepth 100000 in
theorem wd_3_222 : Cond.methodLink RX7 225 yX7_mixDots ∈ TB := tb3 (List.mem_of_getElem? (i := 222) rfl) rfl
set_option maxRecDepth 100000 in
theorem wd_3_224 : Cond.instanceMethod yX7_mixDots ∈ TB := tb3 (List.mem_of_getElem? (i := 224) rfl) rfl
set_option maxRecDepth 100000 in
theorem wd_3_225 : Cond.code yX7_mixDots cX7_mixDots 7 (some .long) ∈ TB := tb3 (List.mem_of_getElem? (i := 225) rfl) rfl
set_option maxRecDepth 100000 in
theorem wd_3_226 : Cond.methodLink RX7 112 yX5_dotValue ∈ TB := tb3 (List.mem_of_getElem? (i := 226) rfl) rfl
set_option maxRecDepth 100000 in
theorem wd_3_227 : Cond.instanceMethod yX5_dotValue ∈ TB := tb3 (List.mem_of_getElem? (i := 227) rfl) rfl
set_option maxRecDepth 100000 in
theorem wd_3_228 : Cond.selects RX5 yX5_dotValue yX5_dotValue ∈ TB := tb3 (List.mem_of_getElem? (i := 228) rfl) rfl
set_option maxRecDepth 100000 in
theorem wd_3_229 : Cond.code yX5_dotValue cX5_dotValue 3 (some .int) ∈ TB := tb3 (List.mem_of_getElem? (i := 229) rfl) rfl
set_option maxRecDepth 100000 in
theorem wd_3_230 : Cond.methodLink RX5 183 yX5_renterOf ∈ TB := tb3 (List.mem_of_getElem? (i := 230) rfl) rfl
set_option maxRecDepth 100000 in
theorem wd_3_232 : Cond.instanceMethod yX5_renterOf ∈ TB := tb3 (List.mem_of_getElem? (i := 232) rfl) rfl
set_option maxRecDepth 100000 in
theorem wd_3_233 : Cond.code yX5_renterOf cX5_renterOf 3 (some .int) ∈ TB := tb3 (List.mem_of_getElem? (i := 233) rfl) rfl
set_option maxRecDepth 100000 in
theorem wd_3_234 : Cond.methodLink RX5 190 yX3_fadeOf ∈ TB := tb3 (List.mem_of_getElem? (i := 234) rfl) rfl
set_option maxRecDepth 100000 in
theorem wd_3_235 : Cond.methodLink RX7 229 yX7_mixLabels ∈ TB := tb3 (List.mem_of_getElem? (i := 235) rfl) rfl
set_option maxRecDepth 100000 in
theorem wd_3_237 : Cond.instanceMethod yX7_mixLabels ∈ TB := tb3 (List.mem_of_getElem? (i := 237) rfl) rfl
set_option maxRecDepth 100000 in
theorem wd_3_238 : Cond.code yX7_mixLabels cX7_mixLabels 8 (some .long) ∈ TB := tb3 (List.mem_of_getElem? (i := 238) rfl) rfl
set_option maxRecDepth 100000 in
theorem wd_3_239 : Cond.methodLink RX7 122 yX4_value ∈ TB := tb3 (List.mem_of_getElem? (i := 239) rfl) rfl
set_option maxRecDepth 100000 in
theorem wd_4_0 : Cond.instanceMethod yX4_value ∈ TB := tb4 (List.mem_of_getElem? (i := 0) rfl) rfl
set_option maxRecDepth 100000 in
theorem wd_4_1 : Cond.selects RX4 yX4_value yX4_value ∈ TB := tb4 (List.mem_of_getElem? (i := 1) rfl) rfl
set_option maxRecDepth 100000 in
theorem wd_4_2 : Cond.code yX4_value cX4_value 2 (some .int) ∈ TB := tb4 (List.mem_of_getElem? (i := 2) rfl) rfl
set_option maxRecDepth 100000 in
theorem wd_4_3 : Cond.methodLink RX4 44 yX4_blackCells ∈ TB := tb4 (List.mem_of_getElem? (i := 3) rfl) rfl
set_option maxRecDepth 100000 in
theorem wd_4_4 : Cond.methodLink RX4 47 yX4_emptyColumns ∈ TB := tb4 (List.mem_of_getElem? (i := 4) rfl) rfl
set_option maxRecDepth 100000 in
theorem wd_4_5 : Cond.instanceMethod yX4_emptyColumns ∈ TB := tb4 (List.mem_of_getElem? (i := 5) rfl) rfl
set_option maxRecDepth 100000 in
theorem wd_4_6 : Cond.selects RX4 yX4_emptyColumns yX4_emptyColumns ∈ TB := tb4 (List.mem_of_getElem? (i := 6) rfl) rfl
set_option maxRecDepth 100000 in
theorem wd_4_7 : Cond.code yX4_emptyColumns cX4_emptyColumns 3 (some .int) ∈ TB := tb4 (List.mem_of_getElem? (i := 7) rfl) rfl
set_option maxRecDepth 100000 in
theorem wd_4_8 : Cond.methodLink RX4 40 yX4_allColumns ∈ TB := tb4 (List.mem_of_getElem? (i := 8) rfl) rfl
set_option maxRecDepth 100000 in
theorem wd_4_9 : Cond.methodLink RX7 232 yX7_mixCustomers ∈ TB := tb4 (List.mem_of_getElem? (i := 9) rfl) rfl
set_option maxRecDepth 100000 in
theorem wd_4_11 : Cond.instanceMethod yX7_mixCustomers ∈ TB := tb4 (List.mem_of_getElem? (i := 11) rfl) rfl
set_option maxRecDepth 100000 in
theorem wd_4_12 : Cond.code yX7_mixCustomers cX7_mixCustomers 7 (some .long) ∈ TB := tb4 (List.mem_of_getElem? (i := 12) rfl) rfl
set_option maxRecDepth 100000 in
theorem wd_4_13 : Cond.methodLink RX7 138 yX2_value ∈ TB := tb4 (List.mem_of_getElem? (i := 13) rfl) rfl
set_option maxRecDepth 100000 in
theorem wd_4_14 : Cond.instanceMethod yX2_value ∈ TB := tb4 (List.mem_of_getElem? (i := 14) rfl) rfl
set_option maxRecDepth 100000 in
theorem wd_4_15 : Cond.selects RX2 yX2_value yX2_value ∈ TB := tb4 (List.mem_of_getElem? (i := 15) rfl) rfl
set_option maxRecDepth 100000 in
theorem wd_4_16 : Cond.code yX2_value cX2_value 2 (some .int) ∈ TB := tb4 (List.mem_of_getElem? (i := 16) rfl) rfl
set_option maxRecDepth 100000 in
theorem wd_4_17 : Cond.methodLink RX7 163 yX5_bestPlace ∈ TB := tb4 (List.mem_of_getElem? (i := 17) rfl) rfl
set_option maxRecDepth 100000 in
theorem wd_4_18 : Cond.methodLink RX7 235 yX7_mostWorn ∈ TB := tb4 (List.mem_of_getElem? (i := 18) rfl) rfl
set_option maxRecDepth 100000 in
theorem wd_4_27 : Cond.methodLink RX7 32 yX5_whyNotNewHead ∈ TB := tb4 (List.mem_of_getElem? (i := 27) rfl) rfl
set_option maxRecDepth 100000 in
theorem wd_4_28 : Cond.methodLink RX7 43 yX5_newHead ∈ TB := tb4 (List.mem_of_getElem? (i := 28) rfl) rfl
set_option maxRecDepth 100000 in
theorem wd_4_36 : Cond.methodLink RX7 46 yX5_whyNotChangeSetting ∈ TB := tb4 (List.mem_of_getElem? (i := 36) rfl) rfl
set_option maxRecDepth 100000 in
theorem wd_4_37 : Cond.methodLink RX7 50 yX5_changeSetting ∈ TB := tb4 (List.mem_of_getElem? (i := 37) rfl) rfl
set_option maxRecDepth 100000 in
theorem wd_4_46 : Cond.methodLink RX7 53 yX5_whyNotNewLabel ∈ TB := tb4 (List.mem_of_getElem? (i := 46) rfl) rfl
set_option maxRecDepth 100000 in
theorem wd_4_47 : Cond.methodLink RX7 56 yX5_newLabel ∈ TB := tb4 (List.mem_of_getElem? (i := 47) rfl) rfl
set_option maxRecDepth 100000 in
theorem wd_4_56 : Cond.methodLink RX7 59 yX5_whyNotChangeRow ∈ TB := tb4 (List.mem_of_getElem? (i := 56) rfl) rfl
set_option maxRecDepth 100000 in
theorem wd_4_57 : Cond.methodLink RX7 63 yX5_changeRow ∈ TB := tb4 (List.mem_of_getElem? (i := 57) rfl) rfl
set_option maxRecDepth 100000 in
theorem wd_4_65 : Cond.methodLink RX7 66 yX5_whyNotNewDot ∈ TB := tb4 (List.mem_of_getElem? (i := 65) rfl) rfl
set_option maxRecDepth 100000 in
theorem wd_4_66 : Cond.methodLink RX7 69 yX5_newDot ∈ TB := tb4 (List.mem_of_getElem? (i := 66) rfl) rfl
set_option maxRecDepth 100000 in
theorem wd_4_74 : Cond.methodLink RX7 72 yX5_whyNotPassLines ∈ TB := tb4 (List.mem_of_getElem? (i := 74) rfl) rfl
set_option maxRecDepth 100000 in
theorem wd_4_75 : Cond.methodLink RX7 75 yX5_passLines ∈ TB := tb4 (List.mem_of_getElem? (i := 75) rfl) rfl
set_option maxRecDepth 100000 in
theorem wd_4_83 : Cond.methodLink RX7 78 yX5_whyNotNewCustomer ∈ TB := tb4 (List.mem_of_getElem? (i := 83) rfl) rfl
set_option maxRecDepth 100000 in
theorem wd_4_84 : Cond.methodLink RX7 82 yX5_newCustomer ∈ TB := tb4 (List.mem_of_getElem? (i := 84) rfl) rfl
set_option maxRecDepth 100000 in
theorem wd_4_92 : Cond.methodLink RX7 85 yX5_whyNotLet ∈ TB := tb4 (List.mem_of_getElem? (i := 92) rfl) rfl
set_option maxRecDepth 100000 in
theorem wd_4_93 : Cond.methodLink RX7 88 yX5_let ∈ TB := tb4 (List.mem_of_getElem? (i := 93) rfl) rfl
set_option maxRecDepth 100000 in
theorem wd_4_101 : Cond.methodLink RX7 91 yX5_whyNotEndLet ∈ TB := tb4 (List.mem_of_getElem? (i := 101) rfl) rfl
set_option maxRecDepth 100000 in
theorem wd_4_102 : Cond.instanceMethod yX5_whyNotEndLet ∈ TB := tb4 (List.mem_of_getElem? (i := 102) rfl) rfl
set_option maxRecDepth 100000 in
theorem wd_4_103 : Cond.selects RX5 yX5_whyNotEndLet yX5_whyNotEndLet ∈ TB := tb4 (List.mem_of_getElem? (i := 103) rfl) rfl
set_option maxRecDepth 100000 in
theorem wd_4_104 : Cond.code yX5_whyNotEndLet cX5_whyNotEndLet 2 (some .int) ∈ TB := tb4 (List.mem_of_getElem? (i := 104) rfl) rfl
set_option maxRecDepth 100000 in
theorem wd_4_105 : Cond.methodLink RX7 94 yX5_endLet ∈ TB := tb4 (List.mem_of_getElem? (i := 105) rfl) rfl
set_option maxRecDepth 100000 in
theorem wd_4_106 : Cond.instanceMethod yX5_endLet ∈ TB := tb4 (List.mem_of_getElem? (i := 106) rfl) rfl
set_option maxRecDepth 100000 in
theorem wd_4_107 : Cond.selects RX5 yX5_endLet yX5_endLet ∈ TB := tb4 (List.mem_of_getElem? (i := 107) rfl) rfl
set_option maxRecDepth 100000 in
theorem wd_4_108 : Cond.code yX5_endLet cX5_endLet 3 (some .int) ∈ TB := tb4 (List.mem_of_getElem? (i := 108) rfl) rfl
set_option maxRecDepth 100000 in
theorem wd_4_116 : Cond.methodLink RX7 97 yX5_whyNotPrintAt ∈ TB := tb4 (List.mem_of_getElem? (i := 116) rfl) rfl
set_option maxRecDepth 100000 in
theorem wd_4_117 : Cond.methodLink RX7 100 yX5_printAt ∈ TB := tb4 (List.mem_of_getElem? (i := 117) rfl) rfl
set_option maxRecDepth 100000 in
theorem wd_4_125 : Cond.methodLink RX7 103 yX5_whyNotPrintAtBest ∈ TB := tb4 (List.mem_of_getElem? (i := 125) rfl) rfl
set_option maxRecDepth 100000 in
theorem wd_4_126 : Cond.methodLink RX7 106 yX5_printAtBest ∈ TB := tb4 (List.mem_of_getElem? (i := 126) rfl) rfl
set_option maxRecDepth 100000 in
theorem wd_4_134 : Cond.methodLink RX7 109 yX5_whyNotDotValue ∈ TB := tb4 (List.mem_of_getElem? (i := 134) rfl) rfl
set_option maxRecDepth 100000 in
theorem wd_4_135 : Cond.instanceMethod yX5_whyNotDotValue ∈ TB := tb4 (List.mem_of_getElem? (i := 135) rfl) rfl
set_option maxRecDepth 100000 in
theorem wd_4_136 : Cond.selects RX5 yX5_whyNotDotValue yX5_whyNotDotValue ∈ TB := tb4 (List.mem_of_getElem? (i := 136) rfl) rfl
set_option maxRecDepth 100000 in
theorem wd_4_137 : Cond.code yX5_whyNotDotValue cX5_whyNotDotValue 3 (some .int) ∈ TB := tb4 (List.mem_of_getElem? (i := 137) rfl) rfl
set_option maxRecDepth 100000 in
theorem wd_4_145 : Cond.methodLink RX7 115 yX5_whyNotLabelValue ∈ TB := tb4 (List.mem_of_getElem? (i := 145) rfl) rfl
set_option maxRecDepth 100000 in
theorem wd_4_146 : Cond.instanceMethod yX5_whyNotLabelValue ∈ TB := tb4 (List.mem_of_getElem? (i := 146) rfl) rfl
set_option maxRecDepth 100000 in
theorem wd_4_147 : Cond.selects RX5 yX5_whyNotLabelValue yX5_whyNotLabelValue ∈ TB := tb4 (List.mem_of_getElem? (i := 147) rfl) rfl
set_option maxRecDepth 100000 in
theorem wd_4_148 : Cond.code yX5_whyNotLabelValue cX5_whyNotLabelValue 4 (some .int) ∈ TB := tb4 (List.mem_of_getElem? (i := 148) rfl) rfl
set_option maxRecDepth 100000 in
theorem wd_4_163 : Cond.methodLink RX7 131 yX5_whyNotCustomerValue ∈ TB := tb4 (List.mem_of_getElem? (i := 163) rfl) rfl
set_option maxRecDepth 100000 in
theorem wd_4_164 : Cond.instanceMethod yX5_whyNotCustomerValue ∈ TB := tb4 (List.mem_of_getElem? (i := 164) rfl) rfl
set_option maxRecDepth 100000 in
theorem wd_4_165 : Cond.selects RX5 yX5_whyNotCustomerValue yX5_whyNotCustomerValue ∈ TB := tb4 (List.mem_of_getElem? (i := 165) rfl) rfl
set_option maxRecDepth 100000 in
theorem wd_4_166 : Cond.code yX5_whyNotCustomerValue cX5_whyNotCustomerValue 3 (some .int) ∈ TB := tb4 (List.mem_of_getElem? (i := 166) rfl) rfl
set_option maxRecDepth 100000 in
theorem wd_4_178 : Cond.methodLink RX7 148 yX5_whyNotAskAbout ∈ TB := tb4 (List.mem_of_getElem? (i := 178) rfl) rfl
set_option maxRecDepth 100000 in
theorem wd_4_179 : Cond.methodLink RX7 151 yX5_reasonAt ∈ TB := tb4 (List.mem_of_getElem? (i := 179) rfl) rfl
set_option maxRecDepth 100000 in
theorem wd_4_187 : Cond.methodLink RX7 154 yX5_priceAt ∈ TB := tb4 (List.mem_of_getElem? (i := 187) rfl) rfl
set_option maxRecDepth 100000 in
theorem wd_4_195 : Cond.methodLink RX7 157 yX5_unreadableAt ∈ TB := tb4 (List.mem_of_getElem? (i := 195) rfl) rfl
set_option maxRecDepth 100000 in
theorem wd_4_203 : Cond.methodLink RX7 160 yX5_whyNotPair ∈ TB := tb4 (List.mem_of_getElem? (i := 203) rfl) rfl
set_option maxRecDepth 100000 in
theorem wd_4_211 : Cond.methodLink RX7 166 yX5_readableAt ∈ TB := tb4 (List.mem_of_getElem? (i := 211) rfl) rfl
set_option maxRecDepth 100000 in
theorem wd_4_212 : Cond.instanceMethod yX5_readableAt ∈ TB := tb4 (List.mem_of_getElem? (i := 212) rfl) rfl
set_option maxRecDepth 100000 in
theorem wd_4_213 : Cond.selects RX5 yX5_readableAt yX5_readableAt ∈ TB := tb4 (List.mem_of_getElem? (i := 213) rfl) rfl
set_option maxRecDepth 100000 in
theorem wd_4_214 : Cond.code yX5_readableAt cX5_readableAt 4 (some .int) ∈ TB := tb4 (List.mem_of_getElem? (i := 214) rfl) rfl
set_option maxRecDepth 100000 in
theorem wd_4_222 : Cond.methodLink RX7 176 yX1_whyNotAppend ∈ TB := tb4 (List.mem_of_getElem? (i := 222) rfl) rfl
set_option maxRecDepth 100000 in
theorem wd_4_223 : Cond.instanceMethod yX1_whyNotAppend ∈ TB := tb4 (List.mem_of_getElem? (i := 223) rfl) rfl
set_option maxRecDepth 100000 in
theorem wd_4_224 : Cond.selects RX1 yX1_whyNotAppend yX1_whyNotAppend ∈ TB := tb4 (List.mem_of_getElem? (i := 224) rfl) rfl
set_option maxRecDepth 100000 in
theorem wd_4_225 : Cond.code yX1_whyNotAppend cX1_whyNotAppend 2 (some .int) ∈ TB := tb4 (List.mem_of_getElem? (i := 225) rfl) rfl
set_option maxRecDepth 100000 in
theorem wd_4_226 : Cond.methodLink RX7 179 yX1_append ∈ TB := tb4 (List.mem_of_getElem? (i := 226) rfl) rfl
set_option maxRecDepth 100000 in
theorem wd_4_227 : Cond.instanceMethod yX1_append ∈ TB := tb4 (List.mem_of_getElem? (i := 227) rfl) rfl
set_option maxRecDepth 100000 in
theorem wd_4_228 : Cond.selects RX1 yX1_append yX1_append ∈ TB := tb4 (List.mem_of_getElem? (i := 228) rfl) rfl
set_option maxRecDepth 100000 in
theorem wd_4_229 : Cond.code yX1_append cX1_append 2 (some .int) ∈ TB := tb4 (List.mem_of_getElem? (i := 229) rfl) rfl
set_option maxRecDepth 100000 in
theorem wd_5_2 : Cond.methodLink RX8 1 Lib.objectInit ∈ TB := tb5 (List.mem_of_getElem? (i := 2) rfl) rfl
set_option maxRecDepth 100000 in
theorem wd_5_3 : Cond.fieldLink RX8 7 RX8 "s" "[I" ∈ TB := tb5 (List.mem_of_getElem? (i := 3) rfl) rfl
set_option maxRecDepth 100000 in
theorem wd_5_4 : Cond.fieldLink RX8 13 RX8 "w" "[I" ∈ TB := tb5 (List.mem_of_getElem? (i := 4) rfl) rfl
set_option maxRecDepth 100000 in
theorem wd_5_5 : Cond.fieldLink RX8 16 RX8 "past" "[I" ∈ TB := tb5 (List.mem_of_getElem? (i := 5) rfl) rfl
set_option maxRecDepth 100000 in
theorem wd_5_6 : Cond.fieldLink RX8 33 RX8 "pasts" "I" ∈ TB := tb5 (List.mem_of_getElem? (i := 6) rfl) rfl
set_option maxRecDepth 100000 in
theorem wd_5_7 : Cond.fieldLink RX8 29 RX8 "runs" "Z" ∈ TB := tb5 (List.mem_of_getElem? (i := 7) rfl) rfl
set_option maxRecDepth 100000 in
theorem wd_5_8 : Cond.fieldLink RX8 19 RX8 "text" "[I" ∈ TB := tb5 (List.mem_of_getElem? (i := 8) rfl) rfl
set_option maxRecDepth 100000 in
theorem wd_5_9 : Cond.fieldLink RX8 146 RX8 "typed" "I" ∈ TB := tb5 (List.mem_of_getElem? (i := 9) rfl) rfl
set_option maxRecDepth 100000 in
theorem wd_5_10 : Cond.fieldLink RX8 25 RX8 "refused" "I" ∈ TB := tb5 (List.mem_of_getElem? (i := 10) rfl) rfl
set_option maxRecDepth 100000 in
theorem wd_5_11 : Cond.fieldLink RX8 155 RX8 "spot" "I" ∈ TB := tb5 (List.mem_of_getElem? (i := 11) rfl) rfl
set_option maxRecDepth 100000 in
theorem wd_5_12 : Cond.fieldLink RX8 181 RX8 "command" "I" ∈ TB := tb5 (List.mem_of_getElem? (i := 12) rfl) rfl
set_option maxRecDepth 100000 in
theorem wd_5_13 : Cond.fieldLink RX8 22 RX8 "read" "[I" ∈ TB := tb5 (List.mem_of_getElem? (i := 13) rfl) rfl
set_option maxRecDepth 100000 in
theorem wd_5_42 : Cond.instanceMethod yX8_begin ∈ TB := tb5 (List.mem_of_getElem? (i := 42) rfl) rfl
set_option maxRecDepth 100000 in
theorem wd_5_43 : Cond.selects RX8 yX8_begin yX8_begin ∈ TB := tb5 (List.mem_of_getElem? (i := 43) rfl) rfl
set_option maxRecDepth 100000 in
theorem wd_5_44 : Cond.code yX8_begin cX8_begin 4 (some .int) ∈ TB := tb5 (List.mem_of_getElem? (i := 44) rfl) rfl
set_option maxRecDepth 100000 in
theorem wd_5_45 : Cond.methodLink RX8 36 yX8_in ∈ TB := tb5 (List.mem_of_getElem? (i := 45) rfl) rfl
set_option maxRecDepth 100000 in
theorem wd_5_46 : Cond.static yX8_in ∈ TB := tb5 (List.mem_of_getElem? (i := 46) rfl) rfl
set_option maxRecDepth 100000 in
theorem wd_5_47 : Cond.code yX8_in cX8_in 3 (some .boolean) ∈ TB := tb5 (List.mem_of_getElem? (i := 47) rfl) rfl
set_option maxRecDepth 100000 in
theorem wd_5_48 : Cond.methodLink RX8 44 yX8_throwsAt ∈ TB := tb5 (List.mem_of_getElem? (i := 48) rfl) rfl
set_option maxRecDepth 100000 in
theorem wd_5_50 : Cond.instanceMethod yX8_throwsAt ∈ TB := tb5 (List.mem_of_getElem? (i := 50) rfl) rfl
set_option maxRecDepth 100000 in
theorem wd_5_51 : Cond.code yX8_throwsAt cX8_throwsAt 2 (some .boolean) ∈ TB := tb5 (List.mem_of_getElem? (i := 51) rfl) rfl
set_option maxRecDepth 100000 in
theorem wd_5_52 : Cond.methodLink RX8 48 yX8_saves ∈ TB := tb5 (List.mem_of_getElem? (i := 52) rfl) rfl
set_option maxRecDepth 100000 in
theorem wd_5_54 : Cond.instanceMethod yX8_saves ∈ TB := tb5 (List.mem_of_getElem? (i := 54) rfl) rfl
set_option maxRecDepth 100000 in
theorem wd_5_55 : Cond.code yX8_saves cX8_saves 2 none ∈ TB := tb5 (List.mem_of_getElem? (i := 55) rfl) rfl
set_option maxRecDepth 100000 in
theorem wd_5_56 : Cond.methodLink RX8 51 yX8_sumOf ∈ TB := tb5 (List.mem_of_getElem? (i := 56) rfl) rfl
set_option maxRecDepth 100000 in
theorem wd_5_58 : Cond.instanceMethod yX8_sumOf ∈ TB := tb5 (List.mem_of_getElem? (i := 58) rfl) rfl
set_option maxRecDepth 100000 in
theorem wd_5_59 : Cond.code yX8_sumOf cX8_sumOf 4 (some .int) ∈ TB := tb5 (List.mem_of_getElem? (i := 59) rfl) rfl
set_option maxRecDepth 100000 in
theorem wd_5_60 : Cond.methodLink RX8 40 yX8_dotOf ∈ TB := tb5 (List.mem_of_getElem? (i := 60) rfl) rfl
set_option maxRecDepth 100000 in
theorem wd_5_61 : Cond.static yX8_dotOf ∈ TB := tb5 (List.mem_of_getElem? (i := 61) rfl) rfl
set_option maxRecDepth 100000 in
theorem wd_5_62 : Cond.code yX8_dotOf cX8_dotOf 3 (some .int) ∈ TB := tb5 (List.mem_of_getElem? (i := 62) rfl) rfl
set_option maxRecDepth 100000 in
theorem wd_5_63 : Cond.methodLink RX8 55 yX8_frees ∈ TB := tb5 (List.mem_of_getElem? (i := 63) rfl) rfl
set_option maxRecDepth 100000 in
theorem wd_5_65 : Cond.instanceMethod yX8_frees ∈ TB := tb5 (List.mem_of_getElem? (i := 65) rfl) rfl
set_option maxRecDepth 100000 in
theorem wd_5_66 : Cond.code yX8_frees cX8_frees 2 none ∈ TB := tb5 (List.mem_of_getElem? (i := 66) rfl) rfl
set_option maxRecDepth 100000 in
theorem wd_5_68 : Cond.instanceMethod yX8_set ∈ TB := tb5 (List.mem_of_getElem? (i := 68) rfl) rfl
set_option maxRecDepth 100000 in
theorem wd_5_69 : Cond.selects RX8 yX8_set yX8_set ∈ TB := tb5 (List.mem_of_getElem? (i := 69) rfl) rfl
set_option maxRecDepth 100000 in
theorem wd_5_70 : Cond.code yX8_set cX8_set 4 (some .int) ∈ TB := tb5 (List.mem_of_getElem? (i := 70) rfl) rfl
set_option maxRecDepth 100000 in
theorem wd_5_71 : Cond.methodLink RX8 59 yX8_least ∈ TB := tb5 (List.mem_of_getElem? (i := 71) rfl) rfl
set_option maxRecDepth 100000 in
theorem wd_5_72 : Cond.static yX8_least ∈ TB := tb5 (List.mem_of_getElem? (i := 72) rfl) rfl
set_option maxRecDepth 100000 in
theorem wd_5_73 : Cond.code yX8_least cX8_least 1 (some .int) ∈ TB := tb5 (List.mem_of_getElem? (i := 73) rfl) rfl
set_option maxRecDepth 100000 in
theorem wd_5_74 : Cond.methodLink RX8 62 yX8_most ∈ TB := tb5 (List.mem_of_getElem? (i := 74) rfl) rfl
set_option maxRecDepth 100000 in
theorem wd_5_75 : Cond.static yX8_most ∈ TB := tb5 (List.mem_of_getElem? (i := 75) rfl) rfl
set_option maxRecDepth 100000 in
theorem wd_5_76 : Cond.code yX8_most cX8_most 1 (some .int) ∈ TB := tb5 (List.mem_of_getElem? (i := 76) rfl) rfl
set_option maxRecDepth 100000 in
theorem wd_5_78 : Cond.instanceMethod yX8_addLabel ∈ TB := tb5 (List.mem_of_getElem? (i := 78) rfl) rfl
set_option maxRecDepth 100000 in
theorem wd_5_79 : Cond.selects RX8 yX8_addLabel yX8_addLabel ∈ TB := tb5 (List.mem_of_getElem? (i := 79) rfl) rfl
set_option maxRecDepth 100000 in
theorem wd_5_80 : Cond.code yX8_addLabel cX8_addLabel 5 (some .int) ∈ TB := tb5 (List.mem_of_getElem? (i := 80) rfl) rfl
set_option maxRecDepth 100000 in
theorem wd_5_82 : Cond.instanceMethod yX8_setRow ∈ TB := tb5 (List.mem_of_getElem? (i := 82) rfl) rfl
set_option maxRecDepth 100000 in
theorem wd_5_83 : Cond.selects RX8 yX8_setRow yX8_setRow ∈ TB := tb5 (List.mem_of_getElem? (i := 83) rfl) rfl
set_option maxRecDepth 100000 in
theorem wd_5_84 : Cond.code yX8_setRow cX8_setRow 5 (some .int) ∈ TB := tb5 (List.mem_of_getElem? (i := 84) rfl) rfl
set_option maxRecDepth 100000 in
theorem wd_5_85 : Cond.methodLink RX8 65 yX8_isLabel ∈ TB := tb5 (List.mem_of_getElem? (i := 85) rfl) rfl
set_option maxRecDepth 100000 in
theorem wd_5_87 : Cond.instanceMethod yX8_isLabel ∈ TB := tb5 (List.mem_of_getElem? (i := 87) rfl) rfl
set_option maxRecDepth 100000 in
theorem wd_5_88 : Cond.code yX8_isLabel cX8_isLabel 2 (some .boolean) ∈ TB := tb5 (List.mem_of_getElem? (i := 88) rfl) rfl
set_option maxRecDepth 100000 in
theorem wd_5_89 : Cond.methodLink RX8 68 yX8_labelOf ∈ TB := tb5 (List.mem_of_getElem? (i := 89) rfl) rfl
set_option maxRecDepth 100000 in
theorem wd_5_91 : Cond.instanceMethod yX8_labelOf ∈ TB := tb5 (List.mem_of_getElem? (i := 91) rfl) rfl
set_option maxRecDepth 100000 in
theorem wd_5_92 : Cond.code yX8_labelOf cX8_labelOf 3 (some .int) ∈ TB := tb5 (List.mem_of_getElem? (i := 92) rfl) rfl
set_option maxRecDepth 100000 in
theorem wd_5_94 : Cond.instanceMethod yX8_replace ∈ TB := tb5 (List.mem_of_getElem? (i := 94) rfl) rfl
set_option maxRecDepth 100000 in
theorem wd_5_95 : Cond.selects RX8 yX8_replace yX8_replace ∈ TB := tb5 (List.mem_of_getElem? (i := 95) rfl) rfl
set_option maxRecDepth 100000 in
theorem wd_5_96 : Cond.code yX8_replace cX8_replace 4 (some .int) ∈ TB := tb5 (List.mem_of_getElem? (i := 96) rfl) rfl
set_option maxRecDepth 100000 in
theorem wd_5_97 : Cond.methodLink RX8 72 yX8_isDot ∈ TB := tb5 (List.mem_of_getElem? (i := 97) rfl) rfl
set_option maxRecDepth 100000 in
theorem wd_5_99 : Cond.instanceMethod yX8_isDot ∈ TB := tb5 (List.mem_of_getElem? (i := 99) rfl) rfl
set_option maxRecDepth 100000 in
theorem wd_5_100 : Cond.code yX8_isDot cX8_isDot 2 (some .boolean) ∈ TB := tb5 (List.mem_of_getElem? (i := 100) rfl) rfl
set_option maxRecDepth 100000 in
theorem wd_5_102 : Cond.instanceMethod yX8_cool ∈ TB := tb5 (List.mem_of_getElem? (i := 102) rfl) rfl
set_option maxRecDepth 100000 in
theorem wd_5_103 : Cond.selects RX8 yX8_cool yX8_cool ∈ TB := tb5 (List.mem_of_getElem? (i := 103) rfl) rfl
set_option maxRecDepth 100000 in
theorem wd_5_104 : Cond.code yX8_cool cX8_cool 3 (some .int) ∈ TB := tb5 (List.mem_of_getElem? (i := 104) rfl) rfl
set_option maxRecDepth 100000 in
theorem wd_5_105 : Cond.methodLink RX8 75 yX8_cools ∈ TB := tb5 (List.mem_of_getElem? (i := 105) rfl) rfl
set_option maxRecDepth 100000 in
theorem wd_5_106 : Cond.static yX8_cools ∈ TB := tb5 (List.mem_of_getElem? (i := 106) rfl) rfl
set_option maxRecDepth 100000 in
theorem wd_5_107 : Cond.code yX8_cools cX8_cools 3 none ∈ TB := tb5 (List.mem_of_getElem? (i := 107) rfl) rfl
set_option maxRecDepth 100000 in
theorem wd_5_109 : Cond.instanceMethod yX8_addCustomer ∈ TB := tb5 (List.mem_of_getElem? (i := 109) rfl) rfl
set_option maxRecDepth 100000 in
theorem wd_5_110 : Cond.selects RX8 yX8_addCustomer yX8_addCustomer ∈ TB := tb5 (List.mem_of_getElem? (i := 110) rfl) rfl
set_option maxRecDepth 100000 in
theorem wd_5_111 : Cond.code yX8_addCustomer cX8_addCustomer 3 (some .int) ∈ TB := tb5 (List.mem_of_getElem? (i := 111) rfl) rfl
set_option maxRecDepth 100000 in
theorem wd_5_113 : Cond.instanceMethod yX8_rent ∈ TB := tb5 (List.mem_of_getElem? (i := 113) rfl) rfl
set_option maxRecDepth 100000 in
theorem wd_5_114 : Cond.selects RX8 yX8_rent yX8_rent ∈ TB := tb5 (List.mem_of_getElem? (i := 114) rfl) rfl
set_option maxRecDepth 100000 in
theorem wd_5_115 : Cond.code yX8_rent cX8_rent 4 (some .int) ∈ TB := tb5 (List.mem_of_getElem? (i := 115) rfl) rfl
set_option maxRecDepth 100000 in
theorem wd_5_116 : Cond.methodLink RX8 85 yX8_isCustomer ∈ TB := tb5 (List.mem_of_getElem? (i := 116) rfl) rfl
set_option maxRecDepth 100000 in
theorem wd_5_118 : Cond.instanceMethod yX8_isCustomer ∈ TB := tb5 (List.mem_of_getElem? (i := 118) rfl) rfl
set_option maxRecDepth 100000 in
theorem wd_5_119 : Cond.code yX8_isCustomer cX8_isCustomer 2 (some .boolean) ∈ TB := tb5 (List.mem_of_getElem? (i := 119) rfl) rfl
set_option maxRecDepth 100000 in
theorem wd_5_120 : Cond.methodLink RX8 88 yX8_isTaken ∈ TB := tb5 (List.mem_of_getElem? (i := 120) rfl) rfl
set_option maxRecDepth 100000 in
theorem wd_5_122 : Cond.instanceMethod yX8_isTaken ∈ TB := tb5 (List.mem_of_getElem? (i := 122) rfl) rfl
set_option maxRecDepth 100000 in
theorem wd_5_123 : Cond.code yX8_isTaken cX8_isTaken 6 (some .boolean) ∈ TB := tb5 (List.mem_of_getElem? (i := 123) rfl) rfl
set_option maxRecDepth 100000 in
theorem wd_5_124 : Cond.methodLink RX8 82 yX8_renter ∈ TB := tb5 (List.mem_of_getElem? (i := 124) rfl) rfl
set_option maxRecDepth 100000 in
theorem wd_5_126 : Cond.instanceMethod yX8_renter ∈ TB := tb5 (List.mem_of_getElem? (i := 126) rfl) rfl
set_option maxRecDepth 100000 in
theorem wd_5_127 : Cond.code yX8_renter cX8_renter 4 (some .int) ∈ TB := tb5 (List.mem_of_getElem? (i := 127) rfl) rfl
set_option maxRecDepth 100000 in
theorem wd_5_128 : Cond.methodLink RX8 79 yX8_customerOf ∈ TB := tb5 (List.mem_of_getElem? (i := 128) rfl) rfl
set_option maxRecDepth 100000 in
theorem wd_5_130 : Cond.instanceMethod yX8_customerOf ∈ TB := tb5 (List.mem_of_getElem? (i := 130) rfl) rfl
set_option maxRecDepth 100000 in
theorem wd_5_131 : Cond.code yX8_customerOf cX8_customerOf 3 (some .int) ∈ TB := tb5 (List.mem_of_getElem? (i := 131) rfl) rfl
set_option maxRecDepth 100000 in
theorem wd_5_132 : Cond.methodLink RX8 91 yX8_rented ∈ TB := tb5 (List.mem_of_getElem? (i := 132) rfl) rfl
set_option maxRecDepth 100000 in
theorem wd_5_134 : Cond.instanceMethod yX8_rented ∈ TB := tb5 (List.mem_of_getElem? (i := 134) rfl) rfl
set_option maxRecDepth 100000 in
theorem wd_5_135 : Cond.code yX8_rented cX8_rented 3 (some .int) ∈ TB := tb5 (List.mem_of_getElem? (i := 135) rfl) rfl
set_option maxRecDepth 100000 in
theorem wd_5_141 : Cond.instanceMethod yX8_print ∈ TB := tb5 (List.mem_of_getElem? (i := 141) rfl) rfl
set_option maxRecDepth 100000 in
theorem wd_5_142 : Cond.selects RX8 yX8_print yX8_print ∈ TB := tb5 (List.mem_of_getElem? (i := 142) rfl) rfl
set_option maxRecDepth 100000 in
theorem wd_5_143 : Cond.code yX8_print cX8_print 5 (some .int) ∈ TB := tb5 (List.mem_of_getElem? (i := 143) rfl) rfl
set_option maxRecDepth 100000 in
theorem wd_5_144 : Cond.methodLink RX8 125 yX8_wrong ∈ TB := tb5 (List.mem_of_getElem? (i := 144) rfl) rfl
set_option maxRecDepth 100000 in
theorem wd_5_146 : Cond.instanceMethod yX8_wrong ∈ TB := tb5 (List.mem_of_getElem? (i := 146) rfl) rfl
set_option maxRecDepth 100000 in
theorem wd_5_147 : Cond.code yX8_wrong cX8_wrong 4 (some .int) ∈ TB := tb5 (List.mem_of_getElem? (i := 147) rfl) rfl
set_option maxRecDepth 100000 in
theorem wd_5_148 : Cond.methodLink RX8 115 yX8_whyNot ∈ TB := tb5 (List.mem_of_getElem? (i := 148) rfl) rfl
set_option maxRecDepth 100000 in
theorem wd_5_150 : Cond.instanceMethod yX8_whyNot ∈ TB := tb5 (List.mem_of_getElem? (i := 150) rfl) rfl
set_option maxRecDepth 100000 in
theorem wd_5_151 : Cond.code yX8_whyNot cX8_whyNot 5 (some .int) ∈ TB := tb5 (List.mem_of_getElem? (i := 151) rfl) rfl
set_option maxRecDepth 100000 in
theorem wd_5_152 : Cond.methodLink RX8 98 yX8_blacks ∈ TB := tb5 (List.mem_of_getElem? (i := 152) rfl) rfl
set_option maxRecDepth 100000 in
theorem wd_5_154 : Cond.instanceMethod yX8_blacks ∈ TB := tb5 (List.mem_of_getElem? (i := 154) rfl) rfl
set_option maxRecDepth 100000 in
theorem wd_5_155 : Cond.code yX8_blacks cX8_blacks 4 (some .int) ∈ TB := tb5 (List.mem_of_getElem? (i := 155) rfl) rfl
set_option maxRecDepth 100000 in
theorem wd_5_156 : Cond.methodLink RX8 95 yX8_ones ∈ TB := tb5 (List.mem_of_getElem? (i := 156) rfl) rfl
set_option maxRecDepth 100000 in
theorem wd_5_157 : Cond.static yX8_ones ∈ TB := tb5 (List.mem_of_getElem? (i := 157) rfl) rfl
set_option maxRecDepth 100000 in
theorem wd_5_158 : Cond.code yX8_ones cX8_ones 3 (some .int) ∈ TB := tb5 (List.mem_of_getElem? (i := 158) rfl) rfl
set_option maxRecDepth 100000 in
theorem wd_5_159 : Cond.methodLink RX8 128 yX8_prints ∈ TB := tb5 (List.mem_of_getElem? (i := 159) rfl) rfl
set_option maxRecDepth 100000 in
theorem wd_5_161 : Cond.instanceMethod yX8_prints ∈ TB := tb5 (List.mem_of_getElem? (i := 161) rfl) rfl
set_option maxRecDepth 100000 in
theorem wd_5_162 : Cond.code yX8_prints cX8_prints 8 (some .int) ∈ TB := tb5 (List.mem_of_getElem? (i := 162) rfl) rfl
set_option maxRecDepth 100000 in
theorem wd_5_163 : Cond.methodLink RX8 122 yX8_priceOf ∈ TB := tb5 (List.mem_of_getElem? (i := 163) rfl) rfl
set_option maxRecDepth 100000 in
theorem wd_5_165 : Cond.instanceMethod yX8_priceOf ∈ TB := tb5 (List.mem_of_getElem? (i := 165) rfl) rfl
set_option maxRecDepth 100000 in
theorem wd_5_166 : Cond.code yX8_priceOf cX8_priceOf 8 (some .int) ∈ TB := tb5 (List.mem_of_getElem? (i := 166) rfl) rfl
set_option maxRecDepth 100000 in
theorem wd_5_167 : Cond.methodLink RX8 112 yX8_plays ∈ TB := tb5 (List.mem_of_getElem? (i := 167) rfl) rfl
set_option maxRecDepth 100000 in
theorem wd_5_169 : Cond.instanceMethod yX8_plays ∈ TB := tb5 (List.mem_of_getElem? (i := 169) rfl) rfl
set_option maxRecDepth 100000 in
theorem wd_5_170 : Cond.code yX8_plays cX8_plays 7 (some .int) ∈ TB := tb5 (List.mem_of_getElem? (i := 170) rfl) rfl
set_option maxRecDepth 100000 in
theorem wd_5_171 : Cond.methodLink RX8 101 yX8_fade ∈ TB := tb5 (List.mem_of_getElem? (i := 171) rfl) rfl
set_option maxRecDepth 100000 in
theorem wd_5_172 : Cond.static yX8_fade ∈ TB := tb5 (List.mem_of_getElem? (i := 172) rfl) rfl
set_option maxRecDepth 100000 in
theorem wd_5_173 : Cond.code yX8_fade cX8_fade 3 (some .int) ∈ TB := tb5 (List.mem_of_getElem? (i := 173) rfl) rfl
set_option maxRecDepth 100000 in
theorem wd_5_174 : Cond.methodLink RX8 105 yX8_burns ∈ TB := tb5 (List.mem_of_getElem? (i := 174) rfl) rfl
set_option maxRecDepth 100000 in
theorem wd_5_175 : Cond.static yX8_burns ∈ TB := tb5 (List.mem_of_getElem? (i := 175) rfl) rfl
set_option maxRecDepth 100000 in
theorem wd_5_176 : Cond.code yX8_burns cX8_burns 7 none ∈ TB := tb5 (List.mem_of_getElem? (i := 176) rfl) rfl
set_option maxRecDepth 100000 in
theorem wd_5_178 : Cond.instanceMethod yX8_printBest ∈ TB := tb5 (List.mem_of_getElem? (i := 178) rfl) rfl
set_option maxRecDepth 100000 in
theorem wd_5_179 : Cond.selects RX8 yX8_printBest yX8_printBest ∈ TB := tb5 (List.mem_of_getElem? (i := 179) rfl) rfl
set_option maxRecDepth 100000 in
theorem wd_5_180 : Cond.code yX8_printBest cX8_printBest 6 (some .int) ∈ TB := tb5 (List.mem_of_getElem? (i := 180) rfl) rfl
set_option maxRecDepth 100000 in
theorem wd_5_181 : Cond.methodLink RX8 131 yX8_best ∈ TB := tb5 (List.mem_of_getElem? (i := 181) rfl) rfl
set_option maxRecDepth 100000 in
theorem wd_5_183 : Cond.instanceMethod yX8_best ∈ TB := tb5 (List.mem_of_getElem? (i := 183) rfl) rfl
set_option maxRecDepth 100000 in
theorem wd_5_184 : Cond.code yX8_best cX8_best 10 (some .int) ∈ TB := tb5 (List.mem_of_getElem? (i := 184) rfl) rfl
set_option maxRecDepth 100000 in
theorem wd_5_185 : Cond.methodLink RX8 119 yX8_badOf ∈ TB := tb5 (List.mem_of_getElem? (i := 185) rfl) rfl
set_option maxRecDepth 100000 in
theorem wd_5_187 : Cond.instanceMethod yX8_badOf ∈ TB := tb5 (List.mem_of_getElem? (i := 187) rfl) rfl
set_option maxRecDepth 100000 in
theorem wd_5_188 : Cond.code yX8_badOf cX8_badOf 3 (some .int) ∈ TB := tb5 (List.mem_of_getElem? (i := 188) rfl) rfl
set_option maxRecDepth 100000 in
theorem wd_5_189 : Cond.methodLink RX8 109 yX8_copies ∈ TB := tb5 (List.mem_of_getElem? (i := 189) rfl) rfl
set_option maxRecDepth 100000 in
theorem wd_5_191 : Cond.instanceMethod yX8_copies ∈ TB := tb5 (List.mem_of_getElem? (i := 191) rfl) rfl
set_option maxRecDepth 100000 in
theorem wd_5_192 : Cond.code yX8_copies cX8_copies 2 none ∈ TB := tb5 (List.mem_of_getElem? (i := 192) rfl) rfl
set_option maxRecDepth 100000 in
theorem wd_5_197 : Cond.methodLink RX8 134 yX8_valueOf ∈ TB := tb5 (List.mem_of_getElem? (i := 197) rfl) rfl
set_option maxRecDepth 100000 in
theorem wd_5_199 : Cond.instanceMethod yX8_valueOf ∈ TB := tb5 (List.mem_of_getElem? (i := 199) rfl) rfl
set_option maxRecDepth 100000 in
theorem wd_5_200 : Cond.code yX8_valueOf cX8_valueOf 3 (some .int) ∈ TB := tb5 (List.mem_of_getElem? (i := 200) rfl) rfl
set_option maxRecDepth 100000 in
theorem wd_5_205 : Cond.methodLink RX8 140 yX8_ofLabel ∈ TB := tb5 (List.mem_of_getElem? (i := 205) rfl) rfl
set_option maxRecDepth 100000 in
theorem wd_5_207 : Cond.instanceMethod yX8_ofLabel ∈ TB := tb5 (List.mem_of_getElem? (i := 207) rfl) rfl
set_option maxRecDepth 100000 in
theorem wd_5_208 : Cond.code yX8_ofLabel cX8_ofLabel 3 (some .int) ∈ TB := tb5 (List.mem_of_getElem? (i := 208) rfl) rfl
set_option maxRecDepth 100000 in
theorem wd_5_209 : Cond.methodLink RX8 137 yX8_empties ∈ TB := tb5 (List.mem_of_getElem? (i := 209) rfl) rfl
set_option maxRecDepth 100000 in
theorem wd_5_211 : Cond.instanceMethod yX8_empties ∈ TB := tb5 (List.mem_of_getElem? (i := 211) rfl) rfl
set_option maxRecDepth 100000 in
theorem wd_5_212 : Cond.code yX8_empties cX8_empties 4 (some .int) ∈ TB := tb5 (List.mem_of_getElem? (i := 212) rfl) rfl
set_option maxRecDepth 100000 in
theorem wd_5_225 : Cond.methodLink RX8 149 yX8_wholeOf ∈ TB := tb5 (List.mem_of_getElem? (i := 225) rfl) rfl
set_option maxRecDepth 100000 in
theorem wd_5_227 : Cond.instanceMethod yX8_wholeOf ∈ TB := tb5 (List.mem_of_getElem? (i := 227) rfl) rfl
set_option maxRecDepth 100000 in
theorem wd_5_228 : Cond.code yX8_wholeOf cX8_wholeOf 2 (some .int) ∈ TB := tb5 (List.mem_of_getElem? (i := 228) rfl) rfl
set_option maxRecDepth 100000 in
theorem wd_5_229 : Cond.methodLink RX8 143 yX8_earned ∈ TB := tb5 (List.mem_of_getElem? (i := 229) rfl) rfl
set_option maxRecDepth 100000 in
theorem wd_5_231 : Cond.instanceMethod yX8_earned ∈ TB := tb5 (List.mem_of_getElem? (i := 231) rfl) rfl
set_option maxRecDepth 100000 in
theorem wd_5_232 : Cond.code yX8_earned cX8_earned 3 (some .int) ∈ TB := tb5 (List.mem_of_getElem? (i := 232) rfl) rfl
set_option maxRecDepth 100000 in
theorem wd_6_17 : Cond.methodLink RX8 152 yX8_worn ∈ TB := tb6 (List.mem_of_getElem? (i := 17) rfl) rfl
set_option maxRecDepth 100000 in
theorem wd_6_19 : Cond.instanceMethod yX8_worn ∈ TB := tb6 (List.mem_of_getElem? (i := 19) rfl) rfl
set_option maxRecDepth 100000 in
theorem wd_6_20 : Cond.code yX8_worn cX8_worn 3 (some .int) ∈ TB := tb6 (List.mem_of_getElem? (i := 20) rfl) rfl
set_option maxRecDepth 100000 in
theorem wd_6_33 : Cond.methodLink RX8 224 yX8_fault ∈ TB := tb6 (List.mem_of_getElem? (i := 33) rfl) rfl
set_option maxRecDepth 100000 in
theorem wd_6_35 : Cond.instanceMethod yX8_fault ∈ TB := tb6 (List.mem_of_getElem? (i := 35) rfl) rfl
set_option maxRecDepth 100000 in
theorem wd_6_36 : Cond.code yX8_fault cX8_fault 2 (some .int) ∈ TB := tb6 (List.mem_of_getElem? (i := 36) rfl) rfl
set_option maxRecDepth 100000 in
theorem wd_6_37 : Cond.methodLink RX8 170 yX8_skips ∈ TB := tb6 (List.mem_of_getElem? (i := 37) rfl) rfl
set_option maxRecDepth 100000 in
theorem wd_6_39 : Cond.instanceMethod yX8_skips ∈ TB := tb6 (List.mem_of_getElem? (i := 39) rfl) rfl
set_option maxRecDepth 100000 in
theorem wd_6_40 : Cond.code yX8_skips cX8_skips 1 none ∈ TB := tb6 (List.mem_of_getElem? (i := 40) rfl) rfl
set_option maxRecDepth 100000 in
theorem wd_6_41 : Cond.methodLink RX8 158 yX8_isAt ∈ TB := tb6 (List.mem_of_getElem? (i := 41) rfl) rfl
set_option maxRecDepth 100000 in
theorem wd_6_43 : Cond.instanceMethod yX8_isAt ∈ TB := tb6 (List.mem_of_getElem? (i := 43) rfl) rfl
set_option maxRecDepth 100000 in
theorem wd_6_44 : Cond.code yX8_isAt cX8_isAt 3 (some .boolean) ∈ TB := tb6 (List.mem_of_getElem? (i := 44) rfl) rfl
set_option maxRecDepth 100000 in
theorem wd_6_45 : Cond.methodLink RX8 190 yX8_reads ∈ TB := tb6 (List.mem_of_getElem? (i := 45) rfl) rfl
set_option maxRecDepth 100000 in
theorem wd_6_47 : Cond.instanceMethod yX8_reads ∈ TB := tb6 (List.mem_of_getElem? (i := 47) rfl) rfl
set_option maxRecDepth 100000 in
theorem wd_6_48 : Cond.code yX8_reads cX8_reads 3 (some .boolean) ∈ TB := tb6 (List.mem_of_getElem? (i := 48) rfl) rfl
set_option maxRecDepth 100000 in
theorem wd_6_49 : Cond.methodLink RX8 173 yX8_wordOf ∈ TB := tb6 (List.mem_of_getElem? (i := 49) rfl) rfl
set_option maxRecDepth 100000 in
theorem wd_6_51 : Cond.instanceMethod yX8_wordOf ∈ TB := tb6 (List.mem_of_getElem? (i := 51) rfl) rfl
set_option maxRecDepth 100000 in
theorem wd_6_52 : Cond.code yX8_wordOf cX8_wordOf 6 (some .long) ∈ TB := tb6 (List.mem_of_getElem? (i := 52) rfl) rfl
set_option maxRecDepth 100000 in
theorem wd_6_53 : Cond.constantLong RX8 162 (27) ∈ TB := tb6 (List.mem_of_getElem? (i := 53) rfl) rfl
set_option maxRecDepth 100000 in
theorem wd_6_54 : Cond.constantLong RX8 164 (97) ∈ TB := tb6 (List.mem_of_getElem? (i := 54) rfl) rfl
set_option maxRecDepth 100000 in
theorem wd_6_55 : Cond.methodLink RX8 177 yX8_commandOf ∈ TB := tb6 (List.mem_of_getElem? (i := 55) rfl) rfl
set_option maxRecDepth 100000 in
theorem wd_6_56 : Cond.static yX8_commandOf ∈ TB := tb6 (List.mem_of_getElem? (i := 56) rfl) rfl
set_option maxRecDepth 100000 in
theorem wd_6_57 : Cond.code yX8_commandOf cX8_commandOf 2 (some .int) ∈ TB := tb6 (List.mem_of_getElem? (i := 57) rfl) rfl
set_option maxRecDepth 100000 in
theorem wd_6_58 : Cond.methodLink RX8 166 yX8_code ∈ TB := tb6 (List.mem_of_getElem? (i := 58) rfl) rfl
set_option maxRecDepth 100000 in
theorem wd_6_59 : Cond.static yX8_code ∈ TB := tb6 (List.mem_of_getElem? (i := 59) rfl) rfl
set_option maxRecDepth 100000 in
theorem wd_6_60 : Cond.code yX8_code cX8_code 10 (some .long) ∈ TB := tb6 (List.mem_of_getElem? (i := 60) rfl) rfl
set_option maxRecDepth 100000 in
theorem wd_6_61 : Cond.methodLink RX8 184 yX8_numbersOf ∈ TB := tb6 (List.mem_of_getElem? (i := 61) rfl) rfl
set_option maxRecDepth 100000 in
theorem wd_6_62 : Cond.static yX8_numbersOf ∈ TB := tb6 (List.mem_of_getElem? (i := 62) rfl) rfl
set_option maxRecDepth 100000 in
theorem wd_6_63 : Cond.code yX8_numbersOf cX8_numbersOf 1 (some .int) ∈ TB := tb6 (List.mem_of_getElem? (i := 63) rfl) rfl
set_option maxRecDepth 100000 in
theorem wd_6_64 : Cond.methodLink RX8 187 yX8_number ∈ TB := tb6 (List.mem_of_getElem? (i := 64) rfl) rfl
set_option maxRecDepth 100000 in
theorem wd_6_66 : Cond.instanceMethod yX8_number ∈ TB := tb6 (List.mem_of_getElem? (i := 66) rfl) rfl
set_option maxRecDepth 100000 in
theorem wd_6_67 : Cond.code yX8_number cX8_number 3 (some .boolean) ∈ TB := tb6 (List.mem_of_getElem? (i := 67) rfl) rfl
set_option maxRecDepth 100000 in
theorem wd_6_68 : Cond.methodLink RX8 227 yX8_does ∈ TB := tb6 (List.mem_of_getElem? (i := 68) rfl) rfl
set_option maxRecDepth 100000 in
theorem wd_6_70 : Cond.instanceMethod yX8_does ∈ TB := tb6 (List.mem_of_getElem? (i := 70) rfl) rfl
set_option maxRecDepth 100000 in
theorem wd_6_71 : Cond.code yX8_does cX8_does 1 (some .int) ∈ TB := tb6 (List.mem_of_getElem? (i := 71) rfl) rfl
set_option maxRecDepth 100000 in
theorem wd_6_72 : Cond.methodLink RX8 194 yX8_begin ∈ TB := tb6 (List.mem_of_getElem? (i := 72) rfl) rfl
set_option maxRecDepth 100000 in
theorem wd_6_73 : Cond.methodLink RX8 197 yX8_addLabel ∈ TB := tb6 (List.mem_of_getElem? (i := 73) rfl) rfl
set_option maxRecDepth 100000 in
theorem wd_6_74 : Cond.methodLink RX8 200 yX8_setRow ∈ TB := tb6 (List.mem_of_getElem? (i := 74) rfl) rfl
set_option maxRecDepth 100000 in
theorem wd_6_75 : Cond.methodLink RX8 203 yX8_addCustomer ∈ TB := tb6 (List.mem_of_getElem? (i := 75) rfl) rfl
set_option maxRecDepth 100000 in
theorem wd_6_76 : Cond.methodLink RX8 206 yX8_rent ∈ TB := tb6 (List.mem_of_getElem? (i := 76) rfl) rfl
set_option maxRecDepth 100000 in
theorem wd_6_77 : Cond.methodLink RX8 209 yX8_print ∈ TB := tb6 (List.mem_of_getElem? (i := 77) rfl) rfl
set_option maxRecDepth 100000 in
theorem wd_6_78 : Cond.methodLink RX8 212 yX8_printBest ∈ TB := tb6 (List.mem_of_getElem? (i := 78) rfl) rfl
set_option maxRecDepth 100000 in
theorem wd_6_79 : Cond.methodLink RX8 215 yX8_cool ∈ TB := tb6 (List.mem_of_getElem? (i := 79) rfl) rfl
set_option maxRecDepth 100000 in
theorem wd_6_80 : Cond.methodLink RX8 218 yX8_replace ∈ TB := tb6 (List.mem_of_getElem? (i := 80) rfl) rfl
set_option maxRecDepth 100000 in
theorem wd_6_81 : Cond.methodLink RX8 221 yX8_set ∈ TB := tb6 (List.mem_of_getElem? (i := 81) rfl) rfl
set_option maxRecDepth 100000 in
theorem wd_6_90 : Cond.constantLong RX8 230 (1346888) ∈ TB := tb6 (List.mem_of_getElem? (i := 90) rfl) rfl
set_option maxRecDepth 100000 in
theorem wd_6_91 : Cond.constantLong RX8 232 (31) ∈ TB := tb6 (List.mem_of_getElem? (i := 91) rfl) rfl
set_option maxRecDepth 100000 in
theorem wd_6_95 : Cond.fieldLink RJ0 9 "java/lang/String" "value" "[B" ∈ TB := tb6 (List.mem_of_getElem? (i := 95) rfl) rfl
set_option maxRecDepth 100000 in
theorem wd_6_96 : Cond.fieldLink RJ0 15 "java/lang/String" "coder" "B" ∈ TB := tb6 (List.mem_of_getElem? (i := 96) rfl) rfl
set_option maxRecDepth 100000 in
theorem wd_6_98 : Cond.fieldLink RJx29ce0 7 "java/lang/Enum" "ordinal" "I" ∈ TB := tb6 (List.mem_of_getElem? (i := 98) rfl) rfl
set_option maxRecDepth 100000 in
theorem wp_1_0 : Cond.selects RX1 yX1_skipSpaces yX1_skipSpaces ∈ TB := tbs1 (q := (yX1_skipSpaces, 6)) (List.mem_of_getElem? (i := 0) rfl)
set_option maxRecDepth 100000 in
theorem wp_1_1 : Cond.selects RX1 yX1_skipLetters yX1_skipLetters ∈ TB := tbs1 (q := (yX1_skipLetters, 6)) (List.mem_of_getElem? (i := 1) rfl)
set_option maxRecDepth 100000 in
theorem wp_1_2 : Cond.selects RX1 yX1_wordBetween yX1_wordBetween ∈ TB := tbs1 (q := (yX1_wordBetween, 6)) (List.mem_of_getElem? (i := 2) rfl)
set_option maxRecDepth 100000 in
theorem wp_1_3 : Cond.selects RX1 yX1_isBetween yX1_isBetween ∈ TB := tbs1 (q := (yX1_isBetween, 6)) (List.mem_of_getElem? (i := 3) rfl)
set_option maxRecDepth 100000 in
theorem wp_1_4 : Cond.selects RX1 yX1_readNumbers yX1_readNumbers ∈ TB := tbs1 (q := (yX1_readNumbers, 6)) (List.mem_of_getElem? (i := 4) rfl)
set_option maxRecDepth 100000 in
theorem wp_1_5 : Cond.selects RX1 yX1_readNumber yX1_readNumber ∈ TB := tbs1 (q := (yX1_readNumber, 6)) (List.mem_of_getElem? (i := 5) rfl)
set_option maxRecDepth 100000 in
theorem wp_1_6 : Cond.selects RX1 yX1_readSemicolon yX1_readSemicolon ∈ TB := tbs1 (q := (yX1_readSemicolon, 6)) (List.mem_of_getElem? (i := 6) rfl)
set_option maxRecDepth 100000 in
theorem wp_1_7 : Cond.selects RX7 yX7_save yX7_save ∈ TB := tbs1 (q := (yX7_save, 4)) (List.mem_of_getElem? (i := 7) rfl)
set_option maxRecDepth 100000 in
theorem wp_1_8 : Cond.selects RX5 yX5_othersRentOneOf yX5_othersRentOneOf ∈ TB := tbs1 (q := (yX5_othersRentOneOf, 8)) (List.mem_of_getElem? (i := 8) rfl)
set_option maxRecDepth 100000 in
theorem wp_1_9 : Cond.selects RX3 yX3_burn yX3_burn ∈ TB := tbs1 (q := (yX3_burn, 5)) (List.mem_of_getElem? (i := 9) rfl)
set_option maxRecDepth 100000 in
theorem wp_1_10 : Cond.selects RX5 yX5_allWear yX5_allWear ∈ TB := tbs1 (q := (yX5_allWear, 8)) (List.mem_of_getElem? (i := 10) rfl)
set_option maxRecDepth 100000 in
theorem wp_1_11 : Cond.selects RX5 yX5_allRented yX5_allRented ∈ TB := tbs1 (q := (yX5_allRented, 8)) (List.mem_of_getElem? (i := 11) rfl)
set_option maxRecDepth 100000 in
theorem wp_1_12 : Cond.selects RX5 yX5_book yX5_book ∈ TB := tbs1 (q := (yX5_book, 8)) (List.mem_of_getElem? (i := 12) rfl)
set_option maxRecDepth 100000 in
theorem wp_1_14 : Cond.selects RX5 yX5_allPrinted yX5_allPrinted ∈ TB := tbs1 (q := (yX5_allPrinted, 8)) (List.mem_of_getElem? (i := 14) rfl)
set_option maxRecDepth 100000 in
theorem wp_1_15 : Cond.selects RX5 yX5_allFailed yX5_allFailed ∈ TB := tbs1 (q := (yX5_allFailed, 8)) (List.mem_of_getElem? (i := 15) rfl)
set_option maxRecDepth 100000 in
theorem wp_2_0 : Cond.selects RX5 yX5_allEarned yX5_allEarned ∈ TB := tbs2 (q := (yX5_allEarned, 8)) (List.mem_of_getElem? (i := 0) rfl)
set_option maxRecDepth 100000 in
theorem wp_2_1 : Cond.selects RX7 yX7_mixDots yX7_mixDots ∈ TB := tbs2 (q := (yX7_mixDots, 4)) (List.mem_of_getElem? (i := 1) rfl)
set_option maxRecDepth 100000 in
theorem wp_2_2 : Cond.selects RX5 yX5_renterOf yX5_renterOf ∈ TB := tbs2 (q := (yX5_renterOf, 8)) (List.mem_of_getElem? (i := 2) rfl)
set_option maxRecDepth 100000 in
theorem wp_2_3 : Cond.selects RX7 yX7_mixLabels yX7_mixLabels ∈ TB := tbs2 (q := (yX7_mixLabels, 4)) (List.mem_of_getElem? (i := 3) rfl)
set_option maxRecDepth 100000 in
theorem wp_2_4 : Cond.selects RX7 yX7_mixCustomers yX7_mixCustomers ∈ TB := tbs2 (q := (yX7_mixCustomers, 4)) (List.mem_of_getElem? (i := 4) rfl)
set_option maxRecDepth 100000 in
theorem wp_2_5 : Cond.selects RX8 yX8_throwsAt yX8_throwsAt ∈ TB := tbs2 (q := (yX8_throwsAt, 11)) (List.mem_of_getElem? (i := 5) rfl)
set_option maxRecDepth 100000 in
theorem wp_2_6 : Cond.selects RX8 yX8_saves yX8_saves ∈ TB := tbs2 (q := (yX8_saves, 11)) (List.mem_of_getElem? (i := 6) rfl)
set_option maxRecDepth 100000 in
theorem wp_2_7 : Cond.selects RX8 yX8_sumOf yX8_sumOf ∈ TB := tbs2 (q := (yX8_sumOf, 11)) (List.mem_of_getElem? (i := 7) rfl)
set_option maxRecDepth 100000 in
theorem wp_2_8 : Cond.selects RX8 yX8_frees yX8_frees ∈ TB := tbs2 (q := (yX8_frees, 11)) (List.mem_of_getElem? (i := 8) rfl)
set_option maxRecDepth 100000 in
theorem wp_2_9 : Cond.selects RX8 yX8_isLabel yX8_isLabel ∈ TB := tbs2 (q := (yX8_isLabel, 11)) (List.mem_of_getElem? (i := 9) rfl)
set_option maxRecDepth 100000 in
theorem wp_2_10 : Cond.selects RX8 yX8_labelOf yX8_labelOf ∈ TB := tbs2 (q := (yX8_labelOf, 11)) (List.mem_of_getElem? (i := 10) rfl)
set_option maxRecDepth 100000 in
theorem wp_2_11 : Cond.selects RX8 yX8_isDot yX8_isDot ∈ TB := tbs2 (q := (yX8_isDot, 11)) (List.mem_of_getElem? (i := 11) rfl)
set_option maxRecDepth 100000 in
theorem wp_2_12 : Cond.selects RX8 yX8_isCustomer yX8_isCustomer ∈ TB := tbs2 (q := (yX8_isCustomer, 11)) (List.mem_of_getElem? (i := 12) rfl)
set_option maxRecDepth 100000 in
theorem wp_2_13 : Cond.selects RX8 yX8_isTaken yX8_isTaken ∈ TB := tbs2 (q := (yX8_isTaken, 11)) (List.mem_of_getElem? (i := 13) rfl)
set_option maxRecDepth 100000 in
theorem wp_2_14 : Cond.selects RX8 yX8_renter yX8_renter ∈ TB := tbs2 (q := (yX8_renter, 11)) (List.mem_of_getElem? (i := 14) rfl)
set_option maxRecDepth 100000 in
theorem wp_2_15 : Cond.selects RX8 yX8_customerOf yX8_customerOf ∈ TB := tbs2 (q := (yX8_customerOf, 11)) (List.mem_of_getElem? (i := 15) rfl)
set_option maxRecDepth 100000 in
theorem wp_3_0 : Cond.selects RX8 yX8_rented yX8_rented ∈ TB := tbs3 (q := (yX8_rented, 11)) (List.mem_of_getElem? (i := 0) rfl)
set_option maxRecDepth 100000 in
theorem wp_3_1 : Cond.selects RX8 yX8_wrong yX8_wrong ∈ TB := tbs3 (q := (yX8_wrong, 11)) (List.mem_of_getElem? (i := 1) rfl)
set_option maxRecDepth 100000 in
theorem wp_3_2 : Cond.selects RX8 yX8_whyNot yX8_whyNot ∈ TB := tbs3 (q := (yX8_whyNot, 11)) (List.mem_of_getElem? (i := 2) rfl)
set_option maxRecDepth 100000 in
theorem wp_3_3 : Cond.selects RX8 yX8_blacks yX8_blacks ∈ TB := tbs3 (q := (yX8_blacks, 11)) (List.mem_of_getElem? (i := 3) rfl)
set_option maxRecDepth 100000 in
theorem wp_3_4 : Cond.selects RX8 yX8_prints yX8_prints ∈ TB := tbs3 (q := (yX8_prints, 11)) (List.mem_of_getElem? (i := 4) rfl)
set_option maxRecDepth 100000 in
theorem wp_3_5 : Cond.selects RX8 yX8_priceOf yX8_priceOf ∈ TB := tbs3 (q := (yX8_priceOf, 11)) (List.mem_of_getElem? (i := 5) rfl)
set_option maxRecDepth 100000 in
theorem wp_3_6 : Cond.selects RX8 yX8_plays yX8_plays ∈ TB := tbs3 (q := (yX8_plays, 11)) (List.mem_of_getElem? (i := 6) rfl)
set_option maxRecDepth 100000 in
theorem wp_3_7 : Cond.selects RX8 yX8_best yX8_best ∈ TB := tbs3 (q := (yX8_best, 11)) (List.mem_of_getElem? (i := 7) rfl)
set_option maxRecDepth 100000 in
theorem wp_3_8 : Cond.selects RX8 yX8_badOf yX8_badOf ∈ TB := tbs3 (q := (yX8_badOf, 11)) (List.mem_of_getElem? (i := 8) rfl)
set_option maxRecDepth 100000 in
theorem wp_3_9 : Cond.selects RX8 yX8_copies yX8_copies ∈ TB := tbs3 (q := (yX8_copies, 11)) (List.mem_of_getElem? (i := 9) rfl)
set_option maxRecDepth 100000 in
theorem wp_3_10 : Cond.selects RX8 yX8_valueOf yX8_valueOf ∈ TB := tbs3 (q := (yX8_valueOf, 11)) (List.mem_of_getElem? (i := 10) rfl)
set_option maxRecDepth 100000 in
theorem wp_3_11 : Cond.selects RX8 yX8_ofLabel yX8_ofLabel ∈ TB := tbs3 (q := (yX8_ofLabel, 11)) (List.mem_of_getElem? (i := 11) rfl)
set_option maxRecDepth 100000 in
theorem wp_3_12 : Cond.selects RX8 yX8_empties yX8_empties ∈ TB := tbs3 (q := (yX8_empties, 11)) (List.mem_of_getElem? (i := 12) rfl)
set_option maxRecDepth 100000 in
theorem wp_3_13 : Cond.selects RX8 yX8_wholeOf yX8_wholeOf ∈ TB := tbs3 (q := (yX8_wholeOf, 11)) (List.mem_of_getElem? (i := 13) rfl)
set_option maxRecDepth 100000 in
theorem wp_3_14 : Cond.selects RX8 yX8_earned yX8_earned ∈ TB := tbs3 (q := (yX8_earned, 11)) (List.mem_of_getElem? (i := 14) rfl)
set_option maxRecDepth 100000 in
theorem wp_3_15 : Cond.selects RX8 yX8_worn yX8_worn ∈ TB := tbs3 (q := (yX8_worn, 11)) (List.mem_of_getElem? (i := 15) rfl)
set_option maxRecDepth 100000 in
theorem wp_4_0 : Cond.selects RX8 yX8_fault yX8_fault ∈ TB := tbs4 (q := (yX8_fault, 11)) (List.mem_of_getElem? (i := 0) rfl)
set_option maxRecDepth 100000 in
theorem wp_4_1 : Cond.selects RX8 yX8_skips yX8_skips ∈ TB := tbs4 (q := (yX8_skips, 11)) (List.mem_of_getElem? (i := 1) rfl)
set_option maxRecDepth 100000 in
theorem wp_4_2 : Cond.selects RX8 yX8_isAt yX8_isAt ∈ TB := tbs4 (q := (yX8_isAt, 11)) (List.mem_of_getElem? (i := 2) rfl)
set_option maxRecDepth 100000 in
theorem wp_4_3 : Cond.selects RX8 yX8_reads yX8_reads ∈ TB := tbs4 (q := (yX8_reads, 11)) (List.mem_of_getElem? (i := 3) rfl)
set_option maxRecDepth 100000 in
theorem wp_4_4 : Cond.selects RX8 yX8_wordOf yX8_wordOf ∈ TB := tbs4 (q := (yX8_wordOf, 11)) (List.mem_of_getElem? (i := 4) rfl)
set_option maxRecDepth 100000 in
theorem wp_4_5 : Cond.selects RX8 yX8_number yX8_number ∈ TB := tbs4 (q := (yX8_number, 11)) (List.mem_of_getElem? (i := 5) rfl)
set_option maxRecDepth 100000 in
theorem wp_4_6 : Cond.selects RX8 yX8_does yX8_does ∈ TB := tbs4 (q := (yX8_does, 11)) (List.mem_of_getElem? (i := 6) rfl)
theorem mm_J0_charAt_5068e : Cond.instanceMethod yJ0_charAt_5068e ∈ TB ∧ Cond.selects RJ0 yJ0_charAt_5068e yJ0_charAt_5068e ∈ TB ∧ Cond.initialized RJ0 ∈ TB ∧ Cond.code yJ0_charAt_5068e cJ0_charAt_5068e 2 (some .char) ∈ TB := ⟨wd_2_34, wd_2_35, wd_1_19, wd_2_36⟩
theorem mm_J0_checkIndex_df160 : Cond.static yJ0_checkIndex_df160 ∈ TB ∧ Cond.initialized yJ0_checkIndex_df160.cls ∈ TB ∧ Cond.code yJ0_checkIndex_df160 cJ0_checkIndex_df160 2 none ∈ TB := ⟨wd_2_45, wd_1_19, wd_2_46⟩
theorem mm_J0_coder_7d493 : Cond.instanceMethod yJ0_coder_7d493 ∈ TB ∧ Cond.selects RJ0 yJ0_coder_7d493 yJ0_coder_7d493 ∈ TB ∧ Cond.initialized RJ0 ∈ TB ∧ Cond.code yJ0_coder_7d493 cJ0_coder_7d493 1 (some .byte) ∈ TB := ⟨wd_2_28, wd_2_29, wd_1_19, wd_2_30⟩
theorem mm_J0_isLatin1_aae02 : Cond.instanceMethod yJ0_isLatin1_aae02 ∈ TB ∧ Cond.selects RJ0 yJ0_isLatin1_aae02 yJ0_isLatin1_aae02 ∈ TB ∧ Cond.initialized RJ0 ∈ TB ∧ Cond.code yJ0_isLatin1_aae02 cJ0_isLatin1_aae02 1 (some .boolean) ∈ TB := ⟨wd_2_38, wd_2_39, wd_1_19, wd_2_40⟩
theorem mm_J0_length_8abf5 : Cond.instanceMethod yJ0_length_8abf5 ∈ TB ∧ Cond.selects RJ0 yJ0_length_8abf5 yJ0_length_8abf5 ∈ TB ∧ Cond.initialized RJ0 ∈ TB ∧ Cond.code yJ0_length_8abf5 cJ0_length_8abf5 1 (some .int) ∈ TB := ⟨wd_2_24, wd_2_25, wd_1_19, wd_2_26⟩
theorem mm_J1_charAt_3b067 : Cond.static yJ1_charAt_3b067 ∈ TB ∧ Cond.initialized yJ1_charAt_3b067.cls ∈ TB ∧ Cond.code yJ1_charAt_3b067 cJ1_charAt_3b067 2 (some .char) ∈ TB := ⟨wd_2_42, wd_1_20, wd_2_43⟩
theorem mm_J2_checkIndex_2214a : Cond.static yJ2_checkIndex_2214a ∈ TB ∧ Cond.initialized yJ2_checkIndex_2214a.cls ∈ TB ∧ Cond.code yJ2_checkIndex_2214a cJ2_checkIndex_2214a 2 none ∈ TB := ⟨wd_2_56, wd_1_22, wd_2_57⟩
theorem mm_J2_length_9d52b : Cond.static yJ2_length_9d52b ∈ TB ∧ Cond.initialized yJ2_length_9d52b.cls ∈ TB ∧ Cond.code yJ2_length_9d52b cJ2_length_9d52b 1 (some .int) ∈ TB := ⟨wd_2_59, wd_1_22, wd_2_60⟩
theorem mm_J3_checkIndex_8e157 : Cond.static yJ3_checkIndex_8e157 ∈ TB ∧ Cond.initialized yJ3_checkIndex_8e157.cls ∈ TB ∧ Cond.code yJ3_checkIndex_8e157 cJ3_checkIndex_8e157 3 (some .int) ∈ TB := ⟨wd_2_50, wd_1_21, wd_2_51⟩
theorem mm_J6_bitCount_0f7a4 : Cond.static yJ6_bitCount_0f7a4 ∈ TB ∧ Cond.initialized yJ6_bitCount_0f7a4.cls ∈ TB ∧ Cond.code yJ6_bitCount_0f7a4 cJ6_bitCount_0f7a4 1 (some .int) ∈ TB := ⟨wd_2_180, wd_1_17, wd_2_181⟩
theorem mm_X1_append : Cond.instanceMethod yX1_append ∈ TB ∧ Cond.selects RX1 yX1_append yX1_append ∈ TB ∧ Cond.initialized RX1 ∈ TB ∧ Cond.code yX1_append cX1_append 2 (some .int) ∈ TB := ⟨wd_4_227, wd_4_228, wd_1_2, wd_4_229⟩
theorem mm_X1_empty : Cond.instanceMethod yX1_empty ∈ TB ∧ Cond.selects RX1 yX1_empty yX1_empty ∈ TB ∧ Cond.initialized RX1 ∈ TB ∧ Cond.code yX1_empty cX1_empty 2 (some .int) ∈ TB := ⟨wd_1_226, wd_1_227, wd_1_2, wd_1_228⟩
theorem mm_X1_findFault : Cond.instanceMethod yX1_findFault ∈ TB ∧ Cond.selects RX1 yX1_findFault yX1_findFault ∈ TB ∧ Cond.initialized RX1 ∈ TB ∧ Cond.code yX1_findFault cX1_findFault 3 (some .int) ∈ TB := ⟨wd_1_234, wd_1_235, wd_1_2, wd_1_236⟩
theorem mm_X1_isBetween : Cond.instanceMethod yX1_isBetween ∈ TB ∧ Cond.selects RX1 yX1_isBetween yX1_isBetween ∈ TB ∧ Cond.initialized RX1 ∈ TB ∧ Cond.code yX1_isBetween cX1_isBetween 5 (some .boolean) ∈ TB := ⟨wd_2_21, wp_1_3, wd_1_2, wd_2_22⟩
theorem mm_X1_readCommand : Cond.instanceMethod yX1_readCommand ∈ TB ∧ Cond.selects RX1 yX1_readCommand yX1_readCommand ∈ TB ∧ Cond.initialized RX1 ∈ TB ∧ Cond.code yX1_readCommand cX1_readCommand 3 (some .boolean) ∈ TB := ⟨wd_2_2, wd_2_3, wd_1_2, wd_2_4⟩
theorem mm_X1_readNumber : Cond.instanceMethod yX1_readNumber ∈ TB ∧ Cond.selects RX1 yX1_readNumber yX1_readNumber ∈ TB ∧ Cond.initialized RX1 ∈ TB ∧ Cond.code yX1_readNumber cX1_readNumber 5 (some .boolean) ∈ TB := ⟨wd_2_77, wp_1_5, wd_1_2, wd_2_78⟩
theorem mm_X1_readNumbers : Cond.instanceMethod yX1_readNumbers ∈ TB ∧ Cond.selects RX1 yX1_readNumbers yX1_readNumbers ∈ TB ∧ Cond.initialized RX1 ∈ TB ∧ Cond.code yX1_readNumbers cX1_readNumbers 3 (some .boolean) ∈ TB := ⟨wd_2_73, wp_1_4, wd_1_2, wd_2_74⟩
theorem mm_X1_readSemicolon : Cond.instanceMethod yX1_readSemicolon ∈ TB ∧ Cond.selects RX1 yX1_readSemicolon yX1_readSemicolon ∈ TB ∧ Cond.initialized RX1 ∈ TB ∧ Cond.code yX1_readSemicolon cX1_readSemicolon 1 (some .boolean) ∈ TB := ⟨wd_2_81, wp_1_6, wd_1_2, wd_2_82⟩
theorem mm_X1_rewind : Cond.instanceMethod yX1_rewind ∈ TB ∧ Cond.selects RX1 yX1_rewind yX1_rewind ∈ TB ∧ Cond.initialized RX1 ∈ TB ∧ Cond.code yX1_rewind cX1_rewind 1 none ∈ TB := ⟨wd_1_238, wd_1_239, wd_1_2, wd_2_0⟩
theorem mm_X1_skipLetters : Cond.instanceMethod yX1_skipLetters ∈ TB ∧ Cond.selects RX1 yX1_skipLetters yX1_skipLetters ∈ TB ∧ Cond.initialized RX1 ∈ TB ∧ Cond.code yX1_skipLetters cX1_skipLetters 1 none ∈ TB := ⟨wd_2_11, wp_1_1, wd_1_2, wd_2_12⟩
theorem mm_X1_skipSpaces : Cond.instanceMethod yX1_skipSpaces ∈ TB ∧ Cond.selects RX1 yX1_skipSpaces yX1_skipSpaces ∈ TB ∧ Cond.initialized RX1 ∈ TB ∧ Cond.code yX1_skipSpaces cX1_skipSpaces 1 none ∈ TB := ⟨wd_2_7, wp_1_0, wd_1_2, wd_2_8⟩
theorem mm_X1_whyNotAppend : Cond.instanceMethod yX1_whyNotAppend ∈ TB ∧ Cond.selects RX1 yX1_whyNotAppend yX1_whyNotAppend ∈ TB ∧ Cond.initialized RX1 ∈ TB ∧ Cond.code yX1_whyNotAppend cX1_whyNotAppend 2 (some .int) ∈ TB := ⟨wd_4_223, wd_4_224, wd_1_2, wd_4_225⟩
theorem mm_X1_wordBetween : Cond.instanceMethod yX1_wordBetween ∈ TB ∧ Cond.selects RX1 yX1_wordBetween yX1_wordBetween ∈ TB ∧ Cond.initialized RX1 ∈ TB ∧ Cond.code yX1_wordBetween cX1_wordBetween 7 (some (.object "WornDots$Word")) ∈ TB := ⟨wd_2_15, wp_1_2, wd_1_2, wd_2_16⟩
theorem mm_X2_rentNothing : Cond.instanceMethod yX2_rentNothing ∈ TB ∧ Cond.selects RX2 yX2_rentNothing yX2_rentNothing ∈ TB ∧ Cond.initialized RX2 ∈ TB ∧ Cond.code yX2_rentNothing cX2_rentNothing 1 none ∈ TB := ⟨wd_3_33, wd_3_34, wd_1_9, wd_3_35⟩
theorem mm_X2_rented : Cond.instanceMethod yX2_rented ∈ TB ∧ Cond.selects RX2 yX2_rented yX2_rented ∈ TB ∧ Cond.initialized RX2 ∈ TB ∧ Cond.code yX2_rented cX2_rented 1 (some .int) ∈ TB := ⟨wd_3_57, wd_3_58, wd_1_9, wd_3_59⟩
theorem mm_X2_rentsAllOf : Cond.instanceMethod yX2_rentsAllOf ∈ TB ∧ Cond.selects RX2 yX2_rentsAllOf yX2_rentsAllOf ∈ TB ∧ Cond.initialized RX2 ∈ TB ∧ Cond.code yX2_rentsAllOf cX2_rentsAllOf 3 (some .boolean) ∈ TB := ⟨wd_2_226, wd_2_227, wd_1_9, wd_2_228⟩
theorem mm_X2_rentsOneOf : Cond.instanceMethod yX2_rentsOneOf ∈ TB ∧ Cond.selects RX2 yX2_rentsOneOf yX2_rentsOneOf ∈ TB ∧ Cond.initialized RX2 ∈ TB ∧ Cond.code yX2_rentsOneOf cX2_rentsOneOf 3 (some .boolean) ∈ TB := ⟨wd_2_160, wd_2_161, wd_1_9, wd_2_162⟩
theorem mm_X2_takeOver : Cond.instanceMethod yX2_takeOver ∈ TB ∧ Cond.selects RX2 yX2_takeOver yX2_takeOver ∈ TB ∧ Cond.initialized RX2 ∈ TB ∧ Cond.code yX2_takeOver cX2_takeOver 2 none ∈ TB := ⟨wd_2_102, wd_2_103, wd_1_9, wd_2_104⟩
theorem mm_X2_value : Cond.instanceMethod yX2_value ∈ TB ∧ Cond.selects RX2 yX2_value yX2_value ∈ TB ∧ Cond.initialized RX2 ∈ TB ∧ Cond.code yX2_value cX2_value 2 (some .int) ∈ TB := ⟨wd_4_14, wd_4_15, wd_1_9, wd_4_16⟩
theorem mm_X3_burn : Cond.instanceMethod yX3_burn ∈ TB ∧ Cond.selects RX3 yX3_burn yX3_burn ∈ TB ∧ Cond.initialized RX3 ∈ TB ∧ Cond.code yX3_burn cX3_burn 4 none ∈ TB := ⟨wd_2_215, wp_1_9, wd_1_5, wd_2_216⟩
theorem mm_X3_fadeOf : Cond.instanceMethod yX3_fadeOf ∈ TB ∧ Cond.selects RX3 yX3_fadeOf yX3_fadeOf ∈ TB ∧ Cond.initialized RX3 ∈ TB ∧ Cond.code yX3_fadeOf cX3_fadeOf 5 (some .int) ∈ TB := ⟨wd_2_210, wd_2_211, wd_1_5, wd_2_212⟩
theorem mm_X3_heatSum : Cond.instanceMethod yX3_heatSum ∈ TB ∧ Cond.selects RX3 yX3_heatSum yX3_heatSum ∈ TB ∧ Cond.initialized RX3 ∈ TB ∧ Cond.code yX3_heatSum cX3_heatSum 3 (some .int) ∈ TB := ⟨wd_3_78, wd_3_79, wd_1_5, wd_3_80⟩
theorem mm_X3_lose : Cond.instanceMethod yX3_lose ∈ TB ∧ Cond.selects RX3 yX3_lose yX3_lose ∈ TB ∧ Cond.initialized RX3 ∈ TB ∧ Cond.code yX3_lose cX3_lose 3 none ∈ TB := ⟨wd_2_218, wd_2_219, wd_1_5, wd_2_220⟩
theorem mm_X3_mostWornDot : Cond.instanceMethod yX3_mostWornDot ∈ TB ∧ Cond.selects RX3 yX3_mostWornDot yX3_mostWornDot ∈ TB ∧ Cond.initialized RX3 ∈ TB ∧ Cond.code yX3_mostWornDot cX3_mostWornDot 3 (some .int) ∈ TB := ⟨wd_1_218, wd_1_219, wd_1_5, wd_1_220⟩
theorem mm_X3_printRows : Cond.instanceMethod yX3_printRows ∈ TB ∧ Cond.selects RX3 yX3_printRows yX3_printRows ∈ TB ∧ Cond.initialized RX3 ∈ TB ∧ Cond.code yX3_printRows cX3_printRows 9 (some .int) ∈ TB := ⟨wd_2_206, wd_2_207, wd_1_5, wd_2_208⟩
theorem mm_X3_renew : Cond.instanceMethod yX3_renew ∈ TB ∧ Cond.selects RX3 yX3_renew yX3_renew ∈ TB ∧ Cond.initialized RX3 ∈ TB ∧ Cond.code yX3_renew cX3_renew 2 none ∈ TB := ⟨wd_3_29, wd_3_30, wd_1_5, wd_3_31⟩
theorem mm_X3_renewAll : Cond.instanceMethod yX3_renewAll ∈ TB ∧ Cond.selects RX3 yX3_renewAll yX3_renewAll ∈ TB ∧ Cond.initialized RX3 ∈ TB ∧ Cond.code yX3_renewAll cX3_renewAll 3 none ∈ TB := ⟨wd_3_25, wd_3_26, wd_1_5, wd_3_27⟩
theorem mm_X3_takeOver : Cond.instanceMethod yX3_takeOver ∈ TB ∧ Cond.selects RX3 yX3_takeOver yX3_takeOver ∈ TB ∧ Cond.initialized RX3 ∈ TB ∧ Cond.code yX3_takeOver cX3_takeOver 2 none ∈ TB := ⟨wd_2_92, wd_2_93, wd_1_5, wd_2_94⟩
theorem mm_X3_takePart : Cond.instanceMethod yX3_takePart ∈ TB ∧ Cond.selects RX3 yX3_takePart yX3_takePart ∈ TB ∧ Cond.initialized RX3 ∈ TB ∧ Cond.code yX3_takePart cX3_takePart 4 none ∈ TB := ⟨wd_2_202, wd_2_203, wd_1_5, wd_2_204⟩
theorem mm_X3_wearSum : Cond.instanceMethod yX3_wearSum ∈ TB ∧ Cond.selects RX3 yX3_wearSum yX3_wearSum ∈ TB ∧ Cond.initialized RX3 ∈ TB ∧ Cond.code yX3_wearSum cX3_wearSum 5 (some .int) ∈ TB := ⟨wd_2_230, wd_2_231, wd_1_5, wd_2_232⟩
theorem mm_X4_allColumns : Cond.instanceMethod yX4_allColumns ∈ TB ∧ Cond.selects RX4 yX4_allColumns yX4_allColumns ∈ TB ∧ Cond.initialized RX4 ∈ TB ∧ Cond.code yX4_allColumns cX4_allColumns 1 (some .int) ∈ TB := ⟨wd_2_136, wd_2_137, wd_1_8, wd_2_138⟩
theorem mm_X4_blackCells : Cond.instanceMethod yX4_blackCells ∈ TB ∧ Cond.selects RX4 yX4_blackCells yX4_blackCells ∈ TB ∧ Cond.initialized RX4 ∈ TB ∧ Cond.code yX4_blackCells cX4_blackCells 3 (some .int) ∈ TB := ⟨wd_2_176, wd_2_177, wd_1_8, wd_2_178⟩
theorem mm_X4_emptyColumns : Cond.instanceMethod yX4_emptyColumns ∈ TB ∧ Cond.selects RX4 yX4_emptyColumns yX4_emptyColumns ∈ TB ∧ Cond.initialized RX4 ∈ TB ∧ Cond.code yX4_emptyColumns cX4_emptyColumns 3 (some .int) ∈ TB := ⟨wd_4_5, wd_4_6, wd_1_8, wd_4_7⟩
theorem mm_X4_takeOver : Cond.instanceMethod yX4_takeOver ∈ TB ∧ Cond.selects RX4 yX4_takeOver yX4_takeOver ∈ TB ∧ Cond.initialized RX4 ∈ TB ∧ Cond.code yX4_takeOver cX4_takeOver 2 none ∈ TB := ⟨wd_2_97, wd_2_98, wd_1_8, wd_2_99⟩
theorem mm_X4_value : Cond.instanceMethod yX4_value ∈ TB ∧ Cond.selects RX4 yX4_value yX4_value ∈ TB ∧ Cond.initialized RX4 ∈ TB ∧ Cond.code yX4_value cX4_value 2 (some .int) ∈ TB := ⟨wd_4_0, wd_4_1, wd_1_8, wd_4_2⟩
theorem mm_X5_allEarned : Cond.instanceMethod yX5_allEarned ∈ TB ∧ Cond.selects RX5 yX5_allEarned yX5_allEarned ∈ TB ∧ Cond.initialized RX5 ∈ TB ∧ Cond.code yX5_allEarned cX5_allEarned 3 (some .int) ∈ TB := ⟨wd_3_220, wp_2_0, wd_1_6, wd_3_221⟩
theorem mm_X5_allFailed : Cond.instanceMethod yX5_allFailed ∈ TB ∧ Cond.selects RX5 yX5_allFailed yX5_allFailed ∈ TB ∧ Cond.initialized RX5 ∈ TB ∧ Cond.code yX5_allFailed cX5_allFailed 3 (some .int) ∈ TB := ⟨wd_3_216, wp_1_15, wd_1_6, wd_3_217⟩
theorem mm_X5_allPrinted : Cond.instanceMethod yX5_allPrinted ∈ TB ∧ Cond.selects RX5 yX5_allPrinted yX5_allPrinted ∈ TB ∧ Cond.initialized RX5 ∈ TB ∧ Cond.code yX5_allPrinted cX5_allPrinted 3 (some .int) ∈ TB := ⟨wd_3_212, wp_1_14, wd_1_6, wd_3_213⟩
theorem mm_X5_allRented : Cond.instanceMethod yX5_allRented ∈ TB ∧ Cond.selects RX5 yX5_allRented yX5_allRented ∈ TB ∧ Cond.initialized RX5 ∈ TB ∧ Cond.code yX5_allRented cX5_allRented 3 (some .int) ∈ TB := ⟨wd_3_54, wp_1_11, wd_1_6, wd_3_55⟩
theorem mm_X5_allWear : Cond.instanceMethod yX5_allWear ∈ TB ∧ Cond.selects RX5 yX5_allWear yX5_allWear ∈ TB ∧ Cond.initialized RX5 ∈ TB ∧ Cond.code yX5_allWear cX5_allWear 1 (some .int) ∈ TB := ⟨wd_3_22, wp_1_10, wd_1_6, wd_3_23⟩
theorem mm_X5_bestPlace : Cond.instanceMethod yX5_bestPlace ∈ TB ∧ Cond.selects RX5 yX5_bestPlace yX5_bestPlace ∈ TB ∧ Cond.initialized RX5 ∈ TB ∧ Cond.code yX5_bestPlace cX5_bestPlace 9 (some .int) ∈ TB := ⟨wd_2_194, wd_2_195, wd_1_6, wd_2_196⟩
theorem mm_X5_book : Cond.instanceMethod yX5_book ∈ TB ∧ Cond.selects RX5 yX5_book yX5_book ∈ TB ∧ Cond.initialized RX5 ∈ TB ∧ Cond.code yX5_book cX5_book 5 none ∈ TB := ⟨wd_3_66, wp_1_12, wd_1_6, wd_3_67⟩
theorem mm_X5_carryOut : Cond.instanceMethod yX5_carryOut ∈ TB ∧ Cond.selects RX5 yX5_carryOut yX5_carryOut ∈ TB ∧ Cond.initialized RX5 ∈ TB ∧ Cond.code yX5_carryOut cX5_carryOut 3 (some .int) ∈ TB := ⟨wd_3_13, wd_3_14, wd_1_6, wd_3_15⟩
theorem mm_X5_changeRow : Cond.instanceMethod yX5_changeRow ∈ TB ∧ Cond.selects RX5 yX5_changeRow yX5_changeRow ∈ TB ∧ Cond.initialized RX5 ∈ TB ∧ Cond.code yX5_changeRow cX5_changeRow 5 (some .int) ∈ TB := ⟨wd_3_41, wd_3_42, wd_1_6, wd_3_43⟩
theorem mm_X5_changeSetting : Cond.instanceMethod yX5_changeSetting ∈ TB ∧ Cond.selects RX5 yX5_changeSetting yX5_changeSetting ∈ TB ∧ Cond.initialized RX5 ∈ TB ∧ Cond.code yX5_changeSetting cX5_changeSetting 4 (some .int) ∈ TB := ⟨wd_3_87, wd_3_88, wd_1_6, wd_3_89⟩
theorem mm_X5_dotValue : Cond.instanceMethod yX5_dotValue ∈ TB ∧ Cond.selects RX5 yX5_dotValue yX5_dotValue ∈ TB ∧ Cond.initialized RX5 ∈ TB ∧ Cond.code yX5_dotValue cX5_dotValue 3 (some .int) ∈ TB := ⟨wd_3_227, wd_3_228, wd_1_6, wd_3_229⟩
theorem mm_X5_endLet : Cond.instanceMethod yX5_endLet ∈ TB ∧ Cond.selects RX5 yX5_endLet yX5_endLet ∈ TB ∧ Cond.initialized RX5 ∈ TB ∧ Cond.code yX5_endLet cX5_endLet 3 (some .int) ∈ TB := ⟨wd_4_106, wd_4_107, wd_1_6, wd_4_108⟩
theorem mm_X5_hasCustomer : Cond.instanceMethod yX5_hasCustomer ∈ TB ∧ Cond.selects RX5 yX5_hasCustomer yX5_hasCustomer ∈ TB ∧ Cond.initialized RX5 ∈ TB ∧ Cond.code yX5_hasCustomer cX5_hasCustomer 2 (some .boolean) ∈ TB := ⟨wd_2_148, wd_2_149, wd_1_6, wd_2_150⟩
theorem mm_X5_hasDot : Cond.instanceMethod yX5_hasDot ∈ TB ∧ Cond.selects RX5 yX5_hasDot yX5_hasDot ∈ TB ∧ Cond.initialized RX5 ∈ TB ∧ Cond.code yX5_hasDot cX5_hasDot 2 (some .boolean) ∈ TB := ⟨wd_2_152, wd_2_153, wd_1_6, wd_2_154⟩
theorem mm_X5_hasLabel : Cond.instanceMethod yX5_hasLabel ∈ TB ∧ Cond.selects RX5 yX5_hasLabel yX5_hasLabel ∈ TB ∧ Cond.initialized RX5 ∈ TB ∧ Cond.code yX5_hasLabel cX5_hasLabel 2 (some .boolean) ∈ TB := ⟨wd_2_132, wd_2_133, wd_1_6, wd_2_134⟩
theorem mm_X5_let : Cond.instanceMethod yX5_let ∈ TB ∧ Cond.selects RX5 yX5_let yX5_let ∈ TB ∧ Cond.initialized RX5 ∈ TB ∧ Cond.code yX5_let cX5_let 4 (some .int) ∈ TB := ⟨wd_3_49, wd_3_50, wd_1_6, wd_3_51⟩
theorem mm_X5_newCustomer : Cond.instanceMethod yX5_newCustomer ∈ TB ∧ Cond.selects RX5 yX5_newCustomer yX5_newCustomer ∈ TB ∧ Cond.initialized RX5 ∈ TB ∧ Cond.code yX5_newCustomer cX5_newCustomer 1 (some .int) ∈ TB := ⟨wd_3_45, wd_3_46, wd_1_6, wd_3_47⟩
theorem mm_X5_newDot : Cond.instanceMethod yX5_newDot ∈ TB ∧ Cond.selects RX5 yX5_newDot yX5_newDot ∈ TB ∧ Cond.initialized RX5 ∈ TB ∧ Cond.code yX5_newDot cX5_newDot 3 (some .int) ∈ TB := ⟨wd_3_82, wd_3_83, wd_1_6, wd_3_84⟩
theorem mm_X5_newHead : Cond.instanceMethod yX5_newHead ∈ TB ∧ Cond.selects RX5 yX5_newHead yX5_newHead ∈ TB ∧ Cond.initialized RX5 ∈ TB ∧ Cond.code yX5_newHead cX5_newHead 4 (some .int) ∈ TB := ⟨wd_3_17, wd_3_18, wd_1_6, wd_3_19⟩
theorem mm_X5_newLabel : Cond.instanceMethod yX5_newLabel ∈ TB ∧ Cond.selects RX5 yX5_newLabel yX5_newLabel ∈ TB ∧ Cond.initialized RX5 ∈ TB ∧ Cond.code yX5_newLabel cX5_newLabel 3 (some .int) ∈ TB := ⟨wd_3_37, wd_3_38, wd_1_6, wd_3_39⟩
theorem mm_X5_othersRentOneOf : Cond.instanceMethod yX5_othersRentOneOf ∈ TB ∧ Cond.selects RX5 yX5_othersRentOneOf yX5_othersRentOneOf ∈ TB ∧ Cond.initialized RX5 ∈ TB ∧ Cond.code yX5_othersRentOneOf cX5_othersRentOneOf 5 (some .boolean) ∈ TB := ⟨wd_2_157, wp_1_8, wd_1_6, wd_2_158⟩
theorem mm_X5_passLines : Cond.instanceMethod yX5_passLines ∈ TB ∧ Cond.selects RX5 yX5_passLines yX5_passLines ∈ TB ∧ Cond.initialized RX5 ∈ TB ∧ Cond.code yX5_passLines cX5_passLines 2 (some .int) ∈ TB := ⟨wd_3_73, wd_3_74, wd_1_6, wd_3_75⟩
theorem mm_X5_priceAt : Cond.instanceMethod yX5_priceAt ∈ TB ∧ Cond.selects RX5 yX5_priceAt yX5_priceAt ∈ TB ∧ Cond.initialized RX5 ∈ TB ∧ Cond.code yX5_priceAt cX5_priceAt 8 (some .int) ∈ TB := ⟨wd_2_222, wd_2_223, wd_1_6, wd_2_224⟩
theorem mm_X5_printAt : Cond.instanceMethod yX5_printAt ∈ TB ∧ Cond.selects RX5 yX5_printAt yX5_printAt ∈ TB ∧ Cond.initialized RX5 ∈ TB ∧ Cond.code yX5_printAt cX5_printAt 6 (some .int) ∈ TB := ⟨wd_3_61, wd_3_62, wd_1_6, wd_3_63⟩
theorem mm_X5_printAtBest : Cond.instanceMethod yX5_printAtBest ∈ TB ∧ Cond.selects RX5 yX5_printAtBest yX5_printAtBest ∈ TB ∧ Cond.initialized RX5 ∈ TB ∧ Cond.code yX5_printAtBest cX5_printAtBest 4 (some .int) ∈ TB := ⟨wd_3_69, wd_3_70, wd_1_6, wd_3_71⟩
theorem mm_X5_readableAt : Cond.instanceMethod yX5_readableAt ∈ TB ∧ Cond.selects RX5 yX5_readableAt yX5_readableAt ∈ TB ∧ Cond.initialized RX5 ∈ TB ∧ Cond.code yX5_readableAt cX5_readableAt 4 (some .int) ∈ TB := ⟨wd_4_212, wd_4_213, wd_1_6, wd_4_214⟩
theorem mm_X5_reasonAt : Cond.instanceMethod yX5_reasonAt ∈ TB ∧ Cond.selects RX5 yX5_reasonAt yX5_reasonAt ∈ TB ∧ Cond.initialized RX5 ∈ TB ∧ Cond.code yX5_reasonAt cX5_reasonAt 5 (some .int) ∈ TB := ⟨wd_2_172, wd_2_173, wd_1_6, wd_2_174⟩
theorem mm_X5_renterOf : Cond.instanceMethod yX5_renterOf ∈ TB ∧ Cond.selects RX5 yX5_renterOf yX5_renterOf ∈ TB ∧ Cond.initialized RX5 ∈ TB ∧ Cond.code yX5_renterOf cX5_renterOf 3 (some .int) ∈ TB := ⟨wd_3_232, wp_2_2, wd_1_6, wd_3_233⟩
theorem mm_X5_takeOver : Cond.instanceMethod yX5_takeOver ∈ TB ∧ Cond.selects RX5 yX5_takeOver yX5_takeOver ∈ TB ∧ Cond.initialized RX5 ∈ TB ∧ Cond.code yX5_takeOver cX5_takeOver 3 none ∈ TB := ⟨wd_2_88, wd_2_89, wd_1_6, wd_2_90⟩
theorem mm_X5_unreadableAt : Cond.instanceMethod yX5_unreadableAt ∈ TB ∧ Cond.selects RX5 yX5_unreadableAt yX5_unreadableAt ∈ TB ∧ Cond.initialized RX5 ∈ TB ∧ Cond.code yX5_unreadableAt cX5_unreadableAt 3 (some .int) ∈ TB := ⟨wd_2_198, wd_2_199, wd_1_6, wd_2_200⟩
theorem mm_X5_wholeValue : Cond.instanceMethod yX5_wholeValue ∈ TB ∧ Cond.selects RX5 yX5_wholeValue yX5_wholeValue ∈ TB ∧ Cond.initialized RX5 ∈ TB ∧ Cond.code yX5_wholeValue cX5_wholeValue 2 (some .int) ∈ TB := ⟨wd_3_207, wd_3_208, wd_1_6, wd_3_209⟩
theorem mm_X5_whyNotAskAbout : Cond.instanceMethod yX5_whyNotAskAbout ∈ TB ∧ Cond.selects RX5 yX5_whyNotAskAbout yX5_whyNotAskAbout ∈ TB ∧ Cond.initialized RX5 ∈ TB ∧ Cond.code yX5_whyNotAskAbout cX5_whyNotAskAbout 4 (some .int) ∈ TB := ⟨wd_2_168, wd_2_169, wd_1_6, wd_2_170⟩
theorem mm_X5_whyNotCarryOut : Cond.instanceMethod yX5_whyNotCarryOut ∈ TB ∧ Cond.selects RX5 yX5_whyNotCarryOut yX5_whyNotCarryOut ∈ TB ∧ Cond.initialized RX5 ∈ TB ∧ Cond.code yX5_whyNotCarryOut cX5_whyNotCarryOut 3 (some .int) ∈ TB := ⟨wd_2_108, wd_2_109, wd_1_6, wd_2_110⟩
theorem mm_X5_whyNotChangeRow : Cond.instanceMethod yX5_whyNotChangeRow ∈ TB ∧ Cond.selects RX5 yX5_whyNotChangeRow yX5_whyNotChangeRow ∈ TB ∧ Cond.initialized RX5 ∈ TB ∧ Cond.code yX5_whyNotChangeRow cX5_whyNotChangeRow 5 (some .int) ∈ TB := ⟨wd_2_128, wd_2_129, wd_1_6, wd_2_130⟩
theorem mm_X5_whyNotChangeSetting : Cond.instanceMethod yX5_whyNotChangeSetting ∈ TB ∧ Cond.selects RX5 yX5_whyNotChangeSetting yX5_whyNotChangeSetting ∈ TB ∧ Cond.initialized RX5 ∈ TB ∧ Cond.code yX5_whyNotChangeSetting cX5_whyNotChangeSetting 3 (some .int) ∈ TB := ⟨wd_3_5, wd_3_6, wd_1_6, wd_3_7⟩
theorem mm_X5_whyNotCustomerValue : Cond.instanceMethod yX5_whyNotCustomerValue ∈ TB ∧ Cond.selects RX5 yX5_whyNotCustomerValue yX5_whyNotCustomerValue ∈ TB ∧ Cond.initialized RX5 ∈ TB ∧ Cond.code yX5_whyNotCustomerValue cX5_whyNotCustomerValue 3 (some .int) ∈ TB := ⟨wd_4_164, wd_4_165, wd_1_6, wd_4_166⟩
theorem mm_X5_whyNotDotValue : Cond.instanceMethod yX5_whyNotDotValue ∈ TB ∧ Cond.selects RX5 yX5_whyNotDotValue yX5_whyNotDotValue ∈ TB ∧ Cond.initialized RX5 ∈ TB ∧ Cond.code yX5_whyNotDotValue cX5_whyNotDotValue 3 (some .int) ∈ TB := ⟨wd_4_135, wd_4_136, wd_1_6, wd_4_137⟩
theorem mm_X5_whyNotEndLet : Cond.instanceMethod yX5_whyNotEndLet ∈ TB ∧ Cond.selects RX5 yX5_whyNotEndLet yX5_whyNotEndLet ∈ TB ∧ Cond.initialized RX5 ∈ TB ∧ Cond.code yX5_whyNotEndLet cX5_whyNotEndLet 2 (some .int) ∈ TB := ⟨wd_4_102, wd_4_103, wd_1_6, wd_4_104⟩
theorem mm_X5_whyNotLabelValue : Cond.instanceMethod yX5_whyNotLabelValue ∈ TB ∧ Cond.selects RX5 yX5_whyNotLabelValue yX5_whyNotLabelValue ∈ TB ∧ Cond.initialized RX5 ∈ TB ∧ Cond.code yX5_whyNotLabelValue cX5_whyNotLabelValue 4 (some .int) ∈ TB := ⟨wd_4_146, wd_4_147, wd_1_6, wd_4_148⟩
theorem mm_X5_whyNotLet : Cond.instanceMethod yX5_whyNotLet ∈ TB ∧ Cond.selects RX5 yX5_whyNotLet yX5_whyNotLet ∈ TB ∧ Cond.initialized RX5 ∈ TB ∧ Cond.code yX5_whyNotLet cX5_whyNotLet 4 (some .int) ∈ TB := ⟨wd_2_144, wd_2_145, wd_1_6, wd_2_146⟩
theorem mm_X5_whyNotNewCustomer : Cond.instanceMethod yX5_whyNotNewCustomer ∈ TB ∧ Cond.selects RX5 yX5_whyNotNewCustomer yX5_whyNotNewCustomer ∈ TB ∧ Cond.initialized RX5 ∈ TB ∧ Cond.code yX5_whyNotNewCustomer cX5_whyNotNewCustomer 1 (some .int) ∈ TB := ⟨wd_2_140, wd_2_141, wd_1_6, wd_2_142⟩
theorem mm_X5_whyNotNewDot : Cond.instanceMethod yX5_whyNotNewDot ∈ TB ∧ Cond.selects RX5 yX5_whyNotNewDot yX5_whyNotNewDot ∈ TB ∧ Cond.initialized RX5 ∈ TB ∧ Cond.code yX5_whyNotNewDot cX5_whyNotNewDot 2 (some .int) ∈ TB := ⟨wd_3_1, wd_3_2, wd_1_6, wd_3_3⟩
theorem mm_X5_whyNotNewHead : Cond.instanceMethod yX5_whyNotNewHead ∈ TB ∧ Cond.selects RX5 yX5_whyNotNewHead yX5_whyNotNewHead ∈ TB ∧ Cond.initialized RX5 ∈ TB ∧ Cond.code yX5_whyNotNewHead cX5_whyNotNewHead 2 (some .int) ∈ TB := ⟨wd_2_120, wd_2_121, wd_1_6, wd_2_122⟩
theorem mm_X5_whyNotNewLabel : Cond.instanceMethod yX5_whyNotNewLabel ∈ TB ∧ Cond.selects RX5 yX5_whyNotNewLabel yX5_whyNotNewLabel ∈ TB ∧ Cond.initialized RX5 ∈ TB ∧ Cond.code yX5_whyNotNewLabel cX5_whyNotNewLabel 3 (some .int) ∈ TB := ⟨wd_2_124, wd_2_125, wd_1_6, wd_2_126⟩
theorem mm_X5_whyNotPair : Cond.instanceMethod yX5_whyNotPair ∈ TB ∧ Cond.selects RX5 yX5_whyNotPair yX5_whyNotPair ∈ TB ∧ Cond.initialized RX5 ∈ TB ∧ Cond.code yX5_whyNotPair cX5_whyNotPair 3 (some .int) ∈ TB := ⟨wd_2_190, wd_2_191, wd_1_6, wd_2_192⟩
theorem mm_X5_whyNotPassLines : Cond.instanceMethod yX5_whyNotPassLines ∈ TB ∧ Cond.selects RX5 yX5_whyNotPassLines yX5_whyNotPassLines ∈ TB ∧ Cond.initialized RX5 ∈ TB ∧ Cond.code yX5_whyNotPassLines cX5_whyNotPassLines 2 (some .int) ∈ TB := ⟨wd_2_237, wd_2_238, wd_1_6, wd_2_239⟩
theorem mm_X5_whyNotPrintAt : Cond.instanceMethod yX5_whyNotPrintAt ∈ TB ∧ Cond.selects RX5 yX5_whyNotPrintAt yX5_whyNotPrintAt ∈ TB ∧ Cond.initialized RX5 ∈ TB ∧ Cond.code yX5_whyNotPrintAt cX5_whyNotPrintAt 5 (some .int) ∈ TB := ⟨wd_2_164, wd_2_165, wd_1_6, wd_2_166⟩
theorem mm_X5_whyNotPrintAtBest : Cond.instanceMethod yX5_whyNotPrintAtBest ∈ TB ∧ Cond.selects RX5 yX5_whyNotPrintAtBest yX5_whyNotPrintAtBest ∈ TB ∧ Cond.initialized RX5 ∈ TB ∧ Cond.code yX5_whyNotPrintAtBest cX5_whyNotPrintAtBest 3 (some .int) ∈ TB := ⟨wd_2_186, wd_2_187, wd_1_6, wd_2_188⟩
theorem mm_X7_mix : Cond.static yX7_mix ∈ TB ∧ Cond.initialized yX7_mix.cls ∈ TB ∧ Cond.code yX7_mix cX7_mix 4 (some .long) ∈ TB := ⟨wd_3_96, wd_1_1, wd_3_97⟩
theorem mm_X7_mixCustomers : Cond.instanceMethod yX7_mixCustomers ∈ TB ∧ Cond.selects RX7 yX7_mixCustomers yX7_mixCustomers ∈ TB ∧ Cond.initialized RX7 ∈ TB ∧ Cond.code yX7_mixCustomers cX7_mixCustomers 7 (some .long) ∈ TB := ⟨wd_4_11, wp_2_4, wd_1_1, wd_4_12⟩
theorem mm_X7_mixDots : Cond.instanceMethod yX7_mixDots ∈ TB ∧ Cond.selects RX7 yX7_mixDots yX7_mixDots ∈ TB ∧ Cond.initialized RX7 ∈ TB ∧ Cond.code yX7_mixDots cX7_mixDots 7 (some .long) ∈ TB := ⟨wd_3_224, wp_2_1, wd_1_1, wd_3_225⟩
theorem mm_X7_mixLabels : Cond.instanceMethod yX7_mixLabels ∈ TB ∧ Cond.selects RX7 yX7_mixLabels yX7_mixLabels ∈ TB ∧ Cond.initialized RX7 ∈ TB ∧ Cond.code yX7_mixLabels cX7_mixLabels 8 (some .long) ∈ TB := ⟨wd_3_237, wp_2_3, wd_1_1, wd_3_238⟩
theorem mm_X7_mostWorn : Cond.instanceMethod yX7_mostWorn ∈ TB ∧ Cond.selects RX7 yX7_mostWorn yX7_mostWorn ∈ TB ∧ Cond.initialized RX7 ∈ TB ∧ Cond.code yX7_mostWorn cX7_mostWorn 1 (some .int) ∈ TB := ⟨wd_1_214, wd_1_215, wd_1_1, wd_1_216⟩
theorem mm_X7_refuse : Cond.static yX7_refuse ∈ TB ∧ Cond.initialized yX7_refuse.cls ∈ TB ∧ Cond.code yX7_refuse cX7_refuse 1 none ∈ TB := ⟨wd_3_104, wd_1_1, wd_3_105⟩
theorem mm_X7_save : Cond.instanceMethod yX7_save ∈ TB ∧ Cond.selects RX7 yX7_save yX7_save ∈ TB ∧ Cond.initialized RX7 ∈ TB ∧ Cond.code yX7_save cX7_save 3 none ∈ TB := ⟨wd_2_85, wp_1_7, wd_1_1, wd_2_86⟩
theorem mm_X7_whole : Cond.instanceMethod yX7_whole ∈ TB ∧ Cond.selects RX7 yX7_whole yX7_whole ∈ TB ∧ Cond.initialized RX7 ∈ TB ∧ Cond.code yX7_whole cX7_whole 2 (some .int) ∈ TB := ⟨wd_3_100, wd_3_101, wd_1_1, wd_3_102⟩
theorem mm_X8_addCustomer : Cond.instanceMethod yX8_addCustomer ∈ TB ∧ Cond.selects RX8 yX8_addCustomer yX8_addCustomer ∈ TB ∧ Cond.initialized RX8 ∈ TB ∧ Cond.code yX8_addCustomer cX8_addCustomer 3 (some .int) ∈ TB := ⟨wd_5_109, wd_5_110, wd_1_10, wd_5_111⟩
theorem mm_X8_addLabel : Cond.instanceMethod yX8_addLabel ∈ TB ∧ Cond.selects RX8 yX8_addLabel yX8_addLabel ∈ TB ∧ Cond.initialized RX8 ∈ TB ∧ Cond.code yX8_addLabel cX8_addLabel 5 (some .int) ∈ TB := ⟨wd_5_78, wd_5_79, wd_1_10, wd_5_80⟩
theorem mm_X8_badOf : Cond.instanceMethod yX8_badOf ∈ TB ∧ Cond.selects RX8 yX8_badOf yX8_badOf ∈ TB ∧ Cond.initialized RX8 ∈ TB ∧ Cond.code yX8_badOf cX8_badOf 3 (some .int) ∈ TB := ⟨wd_5_187, wp_3_8, wd_1_10, wd_5_188⟩
theorem mm_X8_begin : Cond.instanceMethod yX8_begin ∈ TB ∧ Cond.selects RX8 yX8_begin yX8_begin ∈ TB ∧ Cond.initialized RX8 ∈ TB ∧ Cond.code yX8_begin cX8_begin 4 (some .int) ∈ TB := ⟨wd_5_42, wd_5_43, wd_1_10, wd_5_44⟩
theorem mm_X8_best : Cond.instanceMethod yX8_best ∈ TB ∧ Cond.selects RX8 yX8_best yX8_best ∈ TB ∧ Cond.initialized RX8 ∈ TB ∧ Cond.code yX8_best cX8_best 10 (some .int) ∈ TB := ⟨wd_5_183, wp_3_7, wd_1_10, wd_5_184⟩
theorem mm_X8_blacks : Cond.instanceMethod yX8_blacks ∈ TB ∧ Cond.selects RX8 yX8_blacks yX8_blacks ∈ TB ∧ Cond.initialized RX8 ∈ TB ∧ Cond.code yX8_blacks cX8_blacks 4 (some .int) ∈ TB := ⟨wd_5_154, wp_3_3, wd_1_10, wd_5_155⟩
theorem mm_X8_burns : Cond.static yX8_burns ∈ TB ∧ Cond.initialized yX8_burns.cls ∈ TB ∧ Cond.code yX8_burns cX8_burns 7 none ∈ TB := ⟨wd_5_175, wd_1_10, wd_5_176⟩
theorem mm_X8_code : Cond.static yX8_code ∈ TB ∧ Cond.initialized yX8_code.cls ∈ TB ∧ Cond.code yX8_code cX8_code 10 (some .long) ∈ TB := ⟨wd_6_59, wd_1_10, wd_6_60⟩
theorem mm_X8_commandOf : Cond.static yX8_commandOf ∈ TB ∧ Cond.initialized yX8_commandOf.cls ∈ TB ∧ Cond.code yX8_commandOf cX8_commandOf 2 (some .int) ∈ TB := ⟨wd_6_56, wd_1_10, wd_6_57⟩
theorem mm_X8_cool : Cond.instanceMethod yX8_cool ∈ TB ∧ Cond.selects RX8 yX8_cool yX8_cool ∈ TB ∧ Cond.initialized RX8 ∈ TB ∧ Cond.code yX8_cool cX8_cool 3 (some .int) ∈ TB := ⟨wd_5_102, wd_5_103, wd_1_10, wd_5_104⟩
theorem mm_X8_cools : Cond.static yX8_cools ∈ TB ∧ Cond.initialized yX8_cools.cls ∈ TB ∧ Cond.code yX8_cools cX8_cools 3 none ∈ TB := ⟨wd_5_106, wd_1_10, wd_5_107⟩
theorem mm_X8_copies : Cond.instanceMethod yX8_copies ∈ TB ∧ Cond.selects RX8 yX8_copies yX8_copies ∈ TB ∧ Cond.initialized RX8 ∈ TB ∧ Cond.code yX8_copies cX8_copies 2 none ∈ TB := ⟨wd_5_191, wp_3_9, wd_1_10, wd_5_192⟩
theorem mm_X8_customerOf : Cond.instanceMethod yX8_customerOf ∈ TB ∧ Cond.selects RX8 yX8_customerOf yX8_customerOf ∈ TB ∧ Cond.initialized RX8 ∈ TB ∧ Cond.code yX8_customerOf cX8_customerOf 3 (some .int) ∈ TB := ⟨wd_5_130, wp_2_15, wd_1_10, wd_5_131⟩
theorem mm_X8_does : Cond.instanceMethod yX8_does ∈ TB ∧ Cond.selects RX8 yX8_does yX8_does ∈ TB ∧ Cond.initialized RX8 ∈ TB ∧ Cond.code yX8_does cX8_does 1 (some .int) ∈ TB := ⟨wd_6_70, wp_4_6, wd_1_10, wd_6_71⟩
theorem mm_X8_dotOf : Cond.static yX8_dotOf ∈ TB ∧ Cond.initialized yX8_dotOf.cls ∈ TB ∧ Cond.code yX8_dotOf cX8_dotOf 3 (some .int) ∈ TB := ⟨wd_5_61, wd_1_10, wd_5_62⟩
theorem mm_X8_earned : Cond.instanceMethod yX8_earned ∈ TB ∧ Cond.selects RX8 yX8_earned yX8_earned ∈ TB ∧ Cond.initialized RX8 ∈ TB ∧ Cond.code yX8_earned cX8_earned 3 (some .int) ∈ TB := ⟨wd_5_231, wp_3_14, wd_1_10, wd_5_232⟩
theorem mm_X8_empties : Cond.instanceMethod yX8_empties ∈ TB ∧ Cond.selects RX8 yX8_empties yX8_empties ∈ TB ∧ Cond.initialized RX8 ∈ TB ∧ Cond.code yX8_empties cX8_empties 4 (some .int) ∈ TB := ⟨wd_5_211, wp_3_12, wd_1_10, wd_5_212⟩
theorem mm_X8_fade : Cond.static yX8_fade ∈ TB ∧ Cond.initialized yX8_fade.cls ∈ TB ∧ Cond.code yX8_fade cX8_fade 3 (some .int) ∈ TB := ⟨wd_5_172, wd_1_10, wd_5_173⟩
theorem mm_X8_fault : Cond.instanceMethod yX8_fault ∈ TB ∧ Cond.selects RX8 yX8_fault yX8_fault ∈ TB ∧ Cond.initialized RX8 ∈ TB ∧ Cond.code yX8_fault cX8_fault 2 (some .int) ∈ TB := ⟨wd_6_35, wp_4_0, wd_1_10, wd_6_36⟩
theorem mm_X8_frees : Cond.instanceMethod yX8_frees ∈ TB ∧ Cond.selects RX8 yX8_frees yX8_frees ∈ TB ∧ Cond.initialized RX8 ∈ TB ∧ Cond.code yX8_frees cX8_frees 2 none ∈ TB := ⟨wd_5_65, wp_2_8, wd_1_10, wd_5_66⟩
theorem mm_X8_in : Cond.static yX8_in ∈ TB ∧ Cond.initialized yX8_in.cls ∈ TB ∧ Cond.code yX8_in cX8_in 3 (some .boolean) ∈ TB := ⟨wd_5_46, wd_1_10, wd_5_47⟩
theorem mm_X8_isAt : Cond.instanceMethod yX8_isAt ∈ TB ∧ Cond.selects RX8 yX8_isAt yX8_isAt ∈ TB ∧ Cond.initialized RX8 ∈ TB ∧ Cond.code yX8_isAt cX8_isAt 3 (some .boolean) ∈ TB := ⟨wd_6_43, wp_4_2, wd_1_10, wd_6_44⟩
theorem mm_X8_isCustomer : Cond.instanceMethod yX8_isCustomer ∈ TB ∧ Cond.selects RX8 yX8_isCustomer yX8_isCustomer ∈ TB ∧ Cond.initialized RX8 ∈ TB ∧ Cond.code yX8_isCustomer cX8_isCustomer 2 (some .boolean) ∈ TB := ⟨wd_5_118, wp_2_12, wd_1_10, wd_5_119⟩
theorem mm_X8_isDot : Cond.instanceMethod yX8_isDot ∈ TB ∧ Cond.selects RX8 yX8_isDot yX8_isDot ∈ TB ∧ Cond.initialized RX8 ∈ TB ∧ Cond.code yX8_isDot cX8_isDot 2 (some .boolean) ∈ TB := ⟨wd_5_99, wp_2_11, wd_1_10, wd_5_100⟩
theorem mm_X8_isLabel : Cond.instanceMethod yX8_isLabel ∈ TB ∧ Cond.selects RX8 yX8_isLabel yX8_isLabel ∈ TB ∧ Cond.initialized RX8 ∈ TB ∧ Cond.code yX8_isLabel cX8_isLabel 2 (some .boolean) ∈ TB := ⟨wd_5_87, wp_2_9, wd_1_10, wd_5_88⟩
theorem mm_X8_isTaken : Cond.instanceMethod yX8_isTaken ∈ TB ∧ Cond.selects RX8 yX8_isTaken yX8_isTaken ∈ TB ∧ Cond.initialized RX8 ∈ TB ∧ Cond.code yX8_isTaken cX8_isTaken 6 (some .boolean) ∈ TB := ⟨wd_5_122, wp_2_13, wd_1_10, wd_5_123⟩
theorem mm_X8_labelOf : Cond.instanceMethod yX8_labelOf ∈ TB ∧ Cond.selects RX8 yX8_labelOf yX8_labelOf ∈ TB ∧ Cond.initialized RX8 ∈ TB ∧ Cond.code yX8_labelOf cX8_labelOf 3 (some .int) ∈ TB := ⟨wd_5_91, wp_2_10, wd_1_10, wd_5_92⟩
theorem mm_X8_least : Cond.static yX8_least ∈ TB ∧ Cond.initialized yX8_least.cls ∈ TB ∧ Cond.code yX8_least cX8_least 1 (some .int) ∈ TB := ⟨wd_5_72, wd_1_10, wd_5_73⟩
theorem mm_X8_most : Cond.static yX8_most ∈ TB ∧ Cond.initialized yX8_most.cls ∈ TB ∧ Cond.code yX8_most cX8_most 1 (some .int) ∈ TB := ⟨wd_5_75, wd_1_10, wd_5_76⟩
theorem mm_X8_number : Cond.instanceMethod yX8_number ∈ TB ∧ Cond.selects RX8 yX8_number yX8_number ∈ TB ∧ Cond.initialized RX8 ∈ TB ∧ Cond.code yX8_number cX8_number 3 (some .boolean) ∈ TB := ⟨wd_6_66, wp_4_5, wd_1_10, wd_6_67⟩
theorem mm_X8_numbersOf : Cond.static yX8_numbersOf ∈ TB ∧ Cond.initialized yX8_numbersOf.cls ∈ TB ∧ Cond.code yX8_numbersOf cX8_numbersOf 1 (some .int) ∈ TB := ⟨wd_6_62, wd_1_10, wd_6_63⟩
theorem mm_X8_ofLabel : Cond.instanceMethod yX8_ofLabel ∈ TB ∧ Cond.selects RX8 yX8_ofLabel yX8_ofLabel ∈ TB ∧ Cond.initialized RX8 ∈ TB ∧ Cond.code yX8_ofLabel cX8_ofLabel 3 (some .int) ∈ TB := ⟨wd_5_207, wp_3_11, wd_1_10, wd_5_208⟩
theorem mm_X8_ones : Cond.static yX8_ones ∈ TB ∧ Cond.initialized yX8_ones.cls ∈ TB ∧ Cond.code yX8_ones cX8_ones 3 (some .int) ∈ TB := ⟨wd_5_157, wd_1_10, wd_5_158⟩
theorem mm_X8_plays : Cond.instanceMethod yX8_plays ∈ TB ∧ Cond.selects RX8 yX8_plays yX8_plays ∈ TB ∧ Cond.initialized RX8 ∈ TB ∧ Cond.code yX8_plays cX8_plays 7 (some .int) ∈ TB := ⟨wd_5_169, wp_3_6, wd_1_10, wd_5_170⟩
theorem mm_X8_priceOf : Cond.instanceMethod yX8_priceOf ∈ TB ∧ Cond.selects RX8 yX8_priceOf yX8_priceOf ∈ TB ∧ Cond.initialized RX8 ∈ TB ∧ Cond.code yX8_priceOf cX8_priceOf 8 (some .int) ∈ TB := ⟨wd_5_165, wp_3_5, wd_1_10, wd_5_166⟩
theorem mm_X8_print : Cond.instanceMethod yX8_print ∈ TB ∧ Cond.selects RX8 yX8_print yX8_print ∈ TB ∧ Cond.initialized RX8 ∈ TB ∧ Cond.code yX8_print cX8_print 5 (some .int) ∈ TB := ⟨wd_5_141, wd_5_142, wd_1_10, wd_5_143⟩
theorem mm_X8_printBest : Cond.instanceMethod yX8_printBest ∈ TB ∧ Cond.selects RX8 yX8_printBest yX8_printBest ∈ TB ∧ Cond.initialized RX8 ∈ TB ∧ Cond.code yX8_printBest cX8_printBest 6 (some .int) ∈ TB := ⟨wd_5_178, wd_5_179, wd_1_10, wd_5_180⟩
theorem mm_X8_prints : Cond.instanceMethod yX8_prints ∈ TB ∧ Cond.selects RX8 yX8_prints yX8_prints ∈ TB ∧ Cond.initialized RX8 ∈ TB ∧ Cond.code yX8_prints cX8_prints 8 (some .int) ∈ TB := ⟨wd_5_161, wp_3_4, wd_1_10, wd_5_162⟩
theorem mm_X8_reads : Cond.instanceMethod yX8_reads ∈ TB ∧ Cond.selects RX8 yX8_reads yX8_reads ∈ TB ∧ Cond.initialized RX8 ∈ TB ∧ Cond.code yX8_reads cX8_reads 3 (some .boolean) ∈ TB := ⟨wd_6_47, wp_4_3, wd_1_10, wd_6_48⟩
theorem mm_X8_rent : Cond.instanceMethod yX8_rent ∈ TB ∧ Cond.selects RX8 yX8_rent yX8_rent ∈ TB ∧ Cond.initialized RX8 ∈ TB ∧ Cond.code yX8_rent cX8_rent 4 (some .int) ∈ TB := ⟨wd_5_113, wd_5_114, wd_1_10, wd_5_115⟩
theorem mm_X8_rented : Cond.instanceMethod yX8_rented ∈ TB ∧ Cond.selects RX8 yX8_rented yX8_rented ∈ TB ∧ Cond.initialized RX8 ∈ TB ∧ Cond.code yX8_rented cX8_rented 3 (some .int) ∈ TB := ⟨wd_5_134, wp_3_0, wd_1_10, wd_5_135⟩
theorem mm_X8_renter : Cond.instanceMethod yX8_renter ∈ TB ∧ Cond.selects RX8 yX8_renter yX8_renter ∈ TB ∧ Cond.initialized RX8 ∈ TB ∧ Cond.code yX8_renter cX8_renter 4 (some .int) ∈ TB := ⟨wd_5_126, wp_2_14, wd_1_10, wd_5_127⟩
theorem mm_X8_replace : Cond.instanceMethod yX8_replace ∈ TB ∧ Cond.selects RX8 yX8_replace yX8_replace ∈ TB ∧ Cond.initialized RX8 ∈ TB ∧ Cond.code yX8_replace cX8_replace 4 (some .int) ∈ TB := ⟨wd_5_94, wd_5_95, wd_1_10, wd_5_96⟩
theorem mm_X8_saves : Cond.instanceMethod yX8_saves ∈ TB ∧ Cond.selects RX8 yX8_saves yX8_saves ∈ TB ∧ Cond.initialized RX8 ∈ TB ∧ Cond.code yX8_saves cX8_saves 2 none ∈ TB := ⟨wd_5_54, wp_2_6, wd_1_10, wd_5_55⟩
theorem mm_X8_set : Cond.instanceMethod yX8_set ∈ TB ∧ Cond.selects RX8 yX8_set yX8_set ∈ TB ∧ Cond.initialized RX8 ∈ TB ∧ Cond.code yX8_set cX8_set 4 (some .int) ∈ TB := ⟨wd_5_68, wd_5_69, wd_1_10, wd_5_70⟩
theorem mm_X8_setRow : Cond.instanceMethod yX8_setRow ∈ TB ∧ Cond.selects RX8 yX8_setRow yX8_setRow ∈ TB ∧ Cond.initialized RX8 ∈ TB ∧ Cond.code yX8_setRow cX8_setRow 5 (some .int) ∈ TB := ⟨wd_5_82, wd_5_83, wd_1_10, wd_5_84⟩
theorem mm_X8_skips : Cond.instanceMethod yX8_skips ∈ TB ∧ Cond.selects RX8 yX8_skips yX8_skips ∈ TB ∧ Cond.initialized RX8 ∈ TB ∧ Cond.code yX8_skips cX8_skips 1 none ∈ TB := ⟨wd_6_39, wp_4_1, wd_1_10, wd_6_40⟩
theorem mm_X8_sumOf : Cond.instanceMethod yX8_sumOf ∈ TB ∧ Cond.selects RX8 yX8_sumOf yX8_sumOf ∈ TB ∧ Cond.initialized RX8 ∈ TB ∧ Cond.code yX8_sumOf cX8_sumOf 4 (some .int) ∈ TB := ⟨wd_5_58, wp_2_7, wd_1_10, wd_5_59⟩
theorem mm_X8_throwsAt : Cond.instanceMethod yX8_throwsAt ∈ TB ∧ Cond.selects RX8 yX8_throwsAt yX8_throwsAt ∈ TB ∧ Cond.initialized RX8 ∈ TB ∧ Cond.code yX8_throwsAt cX8_throwsAt 2 (some .boolean) ∈ TB := ⟨wd_5_50, wp_2_5, wd_1_10, wd_5_51⟩
theorem mm_X8_valueOf : Cond.instanceMethod yX8_valueOf ∈ TB ∧ Cond.selects RX8 yX8_valueOf yX8_valueOf ∈ TB ∧ Cond.initialized RX8 ∈ TB ∧ Cond.code yX8_valueOf cX8_valueOf 3 (some .int) ∈ TB := ⟨wd_5_199, wp_3_10, wd_1_10, wd_5_200⟩
theorem mm_X8_wholeOf : Cond.instanceMethod yX8_wholeOf ∈ TB ∧ Cond.selects RX8 yX8_wholeOf yX8_wholeOf ∈ TB ∧ Cond.initialized RX8 ∈ TB ∧ Cond.code yX8_wholeOf cX8_wholeOf 2 (some .int) ∈ TB := ⟨wd_5_227, wp_3_13, wd_1_10, wd_5_228⟩
theorem mm_X8_whyNot : Cond.instanceMethod yX8_whyNot ∈ TB ∧ Cond.selects RX8 yX8_whyNot yX8_whyNot ∈ TB ∧ Cond.initialized RX8 ∈ TB ∧ Cond.code yX8_whyNot cX8_whyNot 5 (some .int) ∈ TB := ⟨wd_5_150, wp_3_2, wd_1_10, wd_5_151⟩
theorem mm_X8_wordOf : Cond.instanceMethod yX8_wordOf ∈ TB ∧ Cond.selects RX8 yX8_wordOf yX8_wordOf ∈ TB ∧ Cond.initialized RX8 ∈ TB ∧ Cond.code yX8_wordOf cX8_wordOf 6 (some .long) ∈ TB := ⟨wd_6_51, wp_4_4, wd_1_10, wd_6_52⟩
theorem mm_X8_worn : Cond.instanceMethod yX8_worn ∈ TB ∧ Cond.selects RX8 yX8_worn yX8_worn ∈ TB ∧ Cond.initialized RX8 ∈ TB ∧ Cond.code yX8_worn cX8_worn 3 (some .int) ∈ TB := ⟨wd_6_19, wp_3_15, wd_1_10, wd_6_20⟩
theorem mm_X8_wrong : Cond.instanceMethod yX8_wrong ∈ TB ∧ Cond.selects RX8 yX8_wrong yX8_wrong ∈ TB ∧ Cond.initialized RX8 ∈ TB ∧ Cond.code yX8_wrong cX8_wrong 4 (some .int) ∈ TB := ⟨wd_5_146, wp_3_1, wd_1_10, wd_5_147⟩
end
section
/-! STATICS: rows over the words, their letters and the tables -/
section Stat
variable {l : Launch} {Z Z' : ZZ} {ex : Bool} {X : XX} {cc : ByteArray} {own : String} {nL : Nat} {ret : Option FieldType} {d mc ms : Nat} {o : Option Value} {μ μ' : Mm} {cells slots pc : Nat} {lv lv' : List (Nat × Value)} {rest : List Value}
theorem st0 (C : Cx l Z ex X cc own nL ret) {H : Heap} {locs : List Loc} (hW : Wd Z μ (xs X) H) (hS : va_S (AA Z) (xs X).heap H locs) : ST (za Z) (AA Z) (xs X) (xs X).heap :=
  ST.kept hW.2 (fun a ha hna => by
    have hb : a < (xs X).heap.size := by
      have := C.b
      unfold AA at hna
      omega
    exact (hS.2.1 a hb hna).symm)
def rfW (μ : Mm) (k j : Nat) : Option Nat := match μ.2.1 k j with
  | some h => if 2000 ≤ h ∧ h < 2010 then some (h - 2000) else none
  | none => none
theorem rfW_inv {μ : Mm} {k j x : Nat} (e : rfW μ k j = some x) : μ.2.1 k j = some (2000 + x) ∧ x < 10 := by
  unfold rfW at e
  split at e
  · rename_i h' e'
    split at e
    · rename_i hh
      have e9 := Option.some.inj e
      have e8 : h' = 2000 + x := by omega
      exact ⟨by rw [e', e8], by omega⟩
    · cases e
  · cases e
def wv (Z : ZZ) (r : Option Nat) : Value := va_rf (r.map (fun i => za Z (2000 + i)))
theorem g_gsA (C : Cx l Z ex X cc own nL ret) {index : Nat} (k : Nat) (hk : k < 4) (hlink : (Cond.fieldLink own index (sC k) (sF k) "[I").before (xa X) (xs X) = true) (hd : decode cc pc = .ok (.getstatic index, 3)) (kk : G Z X nL cells slots (pc + 3) lv (.ref (za Z (2300 + k)) :: rest) μ) : G Z X nL cells slots pc lv rest μ := fun H locs ls hW hS h =>
  va_gets C.exec C.code ((st0 C hW hS).2.2.1 k hk).1 hS C.ow hlink (fun _ q => q) hd (kk H locs ls hW hS h)
theorem g_gsAN (C : Cx l Z ex X cc own nL ret) {index : Nat} (k : Nat) (hk : k < 4) (hlink : (Cond.fieldLinkNest own index (sC k) (sF k) "[I" "WornDots").before (xa X) (xs X) = true) (hd : decode cc pc = .ok (.getstatic index, 3)) (kk : G Z X nL cells slots (pc + 3) lv (.ref (za Z (2300 + k)) :: rest) μ) : G Z X nL cells slots pc lv rest μ := fun H locs ls hW hS h =>
  va_getsN C.exec C.code ((st0 C hW hS).2.2.1 k hk).1 hS C.ow hlink (fun _ q => q) hd (kk H locs ls hW hS h)
theorem g_gsWN (C : Cx l Z ex X cc own nL ret) {index : Nat} (hlink : (Cond.fieldLinkNest own index "WornDots" "WORDS" "[LWornDots$Word;" "WornDots").before (xa X) (xs X) = true) (hd : decode cc pc = .ok (.getstatic index, 3)) (kk : G Z X nL cells slots (pc + 3) lv (.ref (za Z 2304) :: rest) μ) : G Z X nL cells slots pc lv rest μ := fun H locs ls hW hS h =>
  va_getsN C.exec C.code (st0 C hW hS).2.2.2.1.1 hS C.ow hlink (fun _ q => q) hd (kk H locs ls hW hS h)
theorem g_gsH (C : Cx l Z ex X cc own nL ret) {index : Nat} (hlink : (Cond.fieldLink own index "WornDots$Word" "HEAD" "LWornDots$Word;").before (xa X) (xs X) = true) (hd : decode cc pc = .ok (.getstatic index, 3)) (kk : G Z X nL cells slots (pc + 3) lv (.ref (za Z 2000) :: rest) μ) : G Z X nL cells slots pc lv rest μ := fun H locs ls hW hS h =>
  va_gets C.exec C.code (st0 C hW hS).2.2.2.2.1 hS C.ow hlink (fun _ q => q) hd (kk H locs ls hW hS h)
theorem g_gsC (C : Cx l Z ex X cc own nL ret) {index : Nat} (hlink : (Cond.fieldLink own index "java/lang/String" "COMPACT_STRINGS" "Z").before (xa X) (xs X) = true) (hd : decode cc pc = .ok (.getstatic index, 3)) (kk : G Z X nL cells slots (pc + 3) lv (.int 1 :: rest) μ) : G Z X nL cells slots pc lv rest μ := fun H locs ls hW hS h =>
  va_gets C.exec C.code (st0 C hW hS).2.2.2.2.2.1.1 hS C.ow hlink (fun _ q => q) hd (kk H locs ls hW hS h)
theorem g_gsO (C : Cx l Z ex X cc own nL ret) {index : Nat} (hlink : (Cond.fieldLink own index "jdk/internal/util/Preconditions" "SIOOBE_FORMATTER" "Ljava/util/function/BiFunction;").before (xa X) (xs X) = true) (hd : decode cc pc = .ok (.getstatic index, 3)) (kk : ∀ v : Value, v.category = 1 → G Z X nL cells slots (pc + 3) lv (v :: rest) μ) : G Z X nL cells slots pc lv rest μ := fun H locs ls hW hS h => by
  rcases (st0 C hW hS).2.2.2.2.2.1.2 with hZ | ⟨t, hZ⟩
  · exact va_gets C.exec C.code hZ hS C.ow hlink (fun _ q => q) hd (kk .null rfl H locs ls hW hS h)
  · exact va_gets C.exec C.code hZ hS C.ow hlink (fun _ q => q) hd (kk (.ref t) rfl H locs ls hW hS h)
theorem g_sial (C : Cx l Z ex X cc own nL ret) {i : Int32} (k : Nat) (hk : k < 4) (hi : inb i (sA k).length) (hd : decode cc pc = .ok (.iaload, 1)) (kk : G Z X nL cells slots (pc + 1) lv (.int ((sA k).getD (ix i) 0) :: rest) μ) : G Z X nL cells slots pc lv (.int i :: .ref (za Z (2300 + k)) :: rest) μ := fun H locs ls hW hS h =>
  va_ti C.exec C.code ((st0 C hW hS).2.2.1 k hk).2 hS hi rfl hd (kk H locs ls hW hS h)
theorem in_lt {i : Int32} {n : Nat} (h : inb i n) : ix i < n := Nat.not_le.mp (fun q => h (Or.inr q))
abbrev isC (x : Int32) : Prop := x = (x.toUInt32 % 65536).toInt32
theorem brC {x : Int32} (h : isC x) : narrow .char (.int x) = .int x := by
  have e := pk_nc x
  rw [← h] at e
  exact e
theorem g_swal (C : Cx l Z ex X cc own nL ret) {i : Int32} {x : Nat} (hx : x = ix i) (hi : inb i 10) (hd : decode cc pc = .ok (.aaload, 1)) (kk : G Z X nL cells slots (pc + 1) lv (.ref (za Z (2000 + x)) :: rest) μ) : G Z X nL cells slots pc lv (.int i :: .ref (za Z 2304) :: rest) μ := by
  subst hx
  exact fun H locs ls hW hS h => vb_tq C.exec C.code (st0 C hW hS).2.2.2.1.2 hS hi rfl hd (kk H locs ls hW hS h)
theorem g_swlen (C : Cx l Z ex X cc own nL ret) (hd : decode cc pc = .ok (.arraylength, 1)) (kk : G Z X nL cells slots (pc + 1) lv (.int 10 :: rest) μ) : G Z X nL cells slots pc lv (.ref (za Z 2304) :: rest) μ := fun H locs ls hW hS h =>
  va_tlen C.exec C.code (st0 C hW hS).2.2.2.1.2 hS rfl hd (kk H locs ls hW hS h)
theorem g_sblen (C : Cx l Z ex X cc own nL ret) {i : Nat} (hi : i < 10) (hd : decode cc pc = .ok (.arraylength, 1)) (kk : G Z X nL cells slots (pc + 1) lv (.int (Int32.ofNat (wT i).length) :: rest) μ) : G Z X nL cells slots pc lv (.ref (za Z (2200 + i)) :: rest) μ := fun H locs ls hW hS h =>
  va_tlen C.exec C.code ((st0 C hW hS).2.1 i hi).2.2.2 hS rfl hd (kk H locs ls hW hS h)
theorem g_sbal (C : Cx l Z ex X cc own nL ret) {i : Nat} {j : Int32} (hi : i < 10) (hj : inb j (wT i).length) (hd : decode cc pc = .ok (.baload, 1)) (kk : G Z X nL cells slots (pc + 1) lv (.int ((wT i).getD (ix j) 0) :: rest) μ) : G Z X nL cells slots pc lv (.int j :: .ref (za Z (2200 + i)) :: rest) μ := fun H locs ls hW hS h =>
  va_tb C.exec C.code ((st0 C hW hS).2.1 i hi).2.2.2 hS hj rfl hd (kk H locs ls hW hS h)
theorem vk_getfN {p : Program} {l : Launch} {e : Env} {R : Room} {s : State} {m : MethodId} {args : Array Value} {below : List Frame} {meth : Method} {c : Code} {H : Heap} {locs : List Loc} {cells slots : Nat} {Q : State → Prop} {pc : Nat} {ls : Array Slot} {rest : List Value} {A : Nat → Prop} {cc : ByteArray} (hexec : p.tables.exec = Jvm.exec) (hb : c.code = cc) {o n d own ref host : String} {index q : Nat} {v : Value} (hE : va_OF o n d v q A s s.heap) (hS : va_S A s.heap H locs) (hown : s.vm.findClass own = some m.cls) (hlink : (Cond.fieldLinkNest own index ref n d host).before args s = true) (hsame : ∀ x, s.fieldFound? o n d = some x → s.fieldFound? ref n d = some x) (hdg : decode cc pc = .ok (.getfield index, 3))
    (kk : W p l e R s m args below meth c H locs cells slots Q (F0 m (pc + 3) ls (v :: rest))) : W p l e R s m args below meth c H locs cells slots Q (F0 m pc ls (.ref q :: rest)) := by
  obtain ⟨cf, k, fi, f, cell, h1, h2, h3, h4, h5, h6⟩ := hE.kept hS.2.1
  exact va_Wgetf hexec hb hown hlink (hsame _ h1) h2 h3 h4 (v := v) h5 rfl rfl hdg kk
theorem g_wnum (C : Cx l Z ex X cc own nL ret) {index i : Nat} (hi : i < 10) (hlink : (Cond.fieldLinkNest own index "WornDots$Word" "numbers" "I" "WornDots").before (xa X) (xs X) = true) (hd : decode cc pc = .ok (.getfield index, 3)) (kk : G Z X nL cells slots (pc + 3) lv (.int (wN i) :: rest) μ) : G Z X nL cells slots pc lv (.ref (za Z (2000 + i)) :: rest) μ := fun H locs ls hW hS h =>
  vk_getfN C.exec C.code ((st0 C hW hS).1 i hi).2.2.1 hS C.ow hlink (fun _ q => q) hd (kk H locs ls hW hS h)
theorem g_wlet (C : Cx l Z ex X cc own nL ret) {index i : Nat} (hi : i < 10) (hlink : (Cond.fieldLinkNest own index "WornDots$Word" "letters" "Ljava/lang/String;" "WornDots").before (xa X) (xs X) = true) (hd : decode cc pc = .ok (.getfield index, 3)) (kk : G Z X nL cells slots (pc + 3) lv (.ref (za Z (2100 + i)) :: rest) μ) : G Z X nL cells slots pc lv (.ref (za Z (2000 + i)) :: rest) μ := fun H locs ls hW hS h =>
  vk_getfN C.exec C.code ((st0 C hW hS).1 i hi).2.2.2 hS C.ow hlink (fun _ q => q) hd (kk H locs ls hW hS h)
theorem g_word (C : Cx l Z ex X cc own nL ret) {index i : Nat} (hi : i < 10) (hlink : (Cond.fieldLink own index "java/lang/Enum" "ordinal" "I").before (xa X) (xs X) = true) (hd : decode cc pc = .ok (.getfield index, 3)) (kk : G Z X nL cells slots (pc + 3) lv (.int (nI i) :: rest) μ) : G Z X nL cells slots pc lv (.ref (za Z (2000 + i)) :: rest) μ := fun H locs ls hW hS h =>
  vk_getf C.exec C.code ((st0 C hW hS).1 i hi).2.1 hS C.ow hlink (fun _ q => q) hd (kk H locs ls hW hS h)
theorem g_scod (C : Cx l Z ex X cc own nL ret) {index i : Nat} (hi : i < 10) (hlink : (Cond.fieldLink own index "java/lang/String" "coder" "B").before (xa X) (xs X) = true) (hd : decode cc pc = .ok (.getfield index, 3)) (kk : G Z X nL cells slots (pc + 3) lv (.int 0 :: rest) μ) : G Z X nL cells slots pc lv (.ref (za Z (2100 + i)) :: rest) μ := fun H locs ls hW hS h =>
  vk_getf C.exec C.code ((st0 C hW hS).2.1 i hi).2.1 hS C.ow hlink (fun _ q => q) hd (kk H locs ls hW hS h)
theorem g_sval (C : Cx l Z ex X cc own nL ret) {index i : Nat} (hi : i < 10) (hlink : (Cond.fieldLink own index "java/lang/String" "value" "[B").before (xa X) (xs X) = true) (hd : decode cc pc = .ok (.getfield index, 3)) (kk : G Z X nL cells slots (pc + 3) lv (.ref (za Z (2200 + i)) :: rest) μ) : G Z X nL cells slots pc lv (.ref (za Z (2100 + i)) :: rest) μ := fun H locs ls hW hS h =>
  vk_getf C.exec C.code ((st0 C hW hS).2.1 i hi).2.2.1 hS C.ow hlink (fun _ q => q) hd (kk H locs ls hW hS h)
theorem g_ifnn (C : Cx l Z ex X cc own nL ret) {x : Nat} {off : Int} {tgt : Nat} (hd : decode cc pc = .ok (.ifnonnull off, 3)) (ht : (pc : Int) + off = (tgt : Int)) (k : G Z X nL cells slots tgt lv rest μ) : G Z X nL cells slots pc lv (.ref x :: rest) μ := fun H locs ls hW hS h => lv_ifnonnull C.exec C.code hd ht (k H locs ls hW hS h)
theorem g_ifnnN (C : Cx l Z ex X cc own nL ret) {off : Int} (hd : decode cc pc = .ok (.ifnonnull off, 3)) (k : G Z X nL cells slots (pc + 3) lv rest μ) : G Z X nL cells slots pc lv (.null :: rest) μ := fun H locs ls hW hS h => lv_ifnonnullN C.exec C.code hd (k H locs ls hW hS h)
theorem g_anull (C : Cx l Z ex X cc own nL ret) (hd : decode cc pc = .ok (.aconst_null, 1)) (k : G Z X nL cells slots (pc + 1) lv (.null :: rest) μ) : G Z X nL cells slots pc lv rest μ := fun H locs ls hW hS h => lv_null C.exec C.code hd (k H locs ls hW hS h)
theorem g_aload_nN (C : Cx l Z ex X cc own nL ret) {q : Fin 4} {i : Nat} (j : Nat) (hq : (q : Nat) = i) (hk : lv[j]? = some (i, .null)) (hd : decode cc pc = .ok (.aload_n q, 1)) (k : G Z X nL cells slots (pc + 1) lv (.null :: rest) μ) : G Z X nL cells slots pc lv rest μ := fun H locs ls hW hS h => lv_aload_nN C.exec C.code hd hq (lv_at h j hk) (k H locs ls hW hS h)
theorem g_astore_nN (C : Cx l Z ex X cc own nL ret) {q0 : Fin 4} {i : Nat} (hd : decode cc pc = .ok (.astore_n q0, 1)) (hq : (q0 : Nat) = i) (hn : i < nL) (hl : (i, Value.null) :: lv.filter (fun q => !(q.1 == i) && !(q.1 + 1 == i && q.2.category == 2)) = lv') (k : G Z X nL cells slots (pc + 1) lv' rest μ) : G Z X nL cells slots pc lv (.null :: rest) μ := fun H locs ls hW hS h => lv_astore_nN C.exec C.code hd hq h hn hl (fun ls2 h2 => k H locs ls2 hW hS h2)
/-- a call upon a constant object (a word, a text) -/
theorem g_callK (C : Cx l Z ex X cc own nL ret) (E : xR X = rmm d mc ms) {y : MethodName} {bytes : ByteArray} {maxL d1 mc1 ms1 index b : Nat} {rt : Option FieldType} {CN : String} {As st0 : List Value} (n : Nat) (hM : CtM l Z false y bytes maxL rt d1 mc1 ms1 (.ref b :: As) μ o Z μ') (m1 : Cond.methodLink own index y ∈ TB) (mm : Cond.instanceMethod y ∈ TB ∧ Cond.selects CN y y ∈ TB ∧ Cond.initialized CN ∈ TB ∧ Cond.code y bytes maxL rt ∈ TB)
    (hd1 : y.cls = CN ∧ y.cls ≠ "java/lang/invoke/MethodHandle" ∧ y.cls ≠ "java/lang/invoke/VarHandle" ∧ (parseMethodDescriptor y.desc).map (fun d => d.parameters.length) = some n) (hn : As.length = n) (hR : d1 + 1 ≤ d ∧ maxL + 19 + 37 * d1 ≤ 37 * d) (hb : ∀ (A : Nat → Prop) (H : Heap), ST (za Z) A (xs X) H → va_O CN b A (xs X) H) (hst : st0 = As.reverse ++ .ref b :: rest)
    (hro : (rest.map fun v => v.category).sum ≤ 8) (hcs : cells + mc1 ≤ mc ∧ slots + ms1 ≤ ms) (hdg : decode cc pc = .ok (.invokevirtual index, 3)) (k : G Z X nL (cells + mc1) (slots + ms1) (pc + 3) lv (o.toList ++ rest) μ') : G Z X nL cells slots pc lv st0 μ := by
  subst hst
  intro H locs ls hW hS h
  have hM' : Met (xl X) y (Cond.code y bytes maxL rt :: TB) (rmm d1 mc1 ms1) (va_Pc (.ref b :: As) (Pc0 Z false μ)) (Qc0 Z o μ') mc1 ms1 (AA Z) := by rw [C.ln]; exact hM
  refine ga_call (μ := μ) C hW hS h (va_runV (C := CN) (b := b) (As := As) (rest := rest) C.fix hM' (cwV n C.ts (goodV m1 mm.1 mm.2.1 mm.2.2.1 mm.2.2.2) rfl rfl rfl hd1 (by rw [E]; exact ⟨hR.1, by show 8 + (maxL + 11) + 37 * d1 ≤ 37 * d; omega⟩)) ⟨pc0_blind, va_Orecv (hb _ _ (st0 C hW hS)) hS, pc0_at C hW hS⟩ rfl hn h.1 rfl (lv_room hro) hdg (by rw [E]; exact hcs)) k
theorem goodU {own CN owner : String} {index : Nat} {x y : MethodName} {bytes : ByteArray} {maxL : Nat} {rt : Option FieldType} (m1 : Cond.methodLink own index x ∈ TB) (m0 : Cond.sameMethod x.cls owner x.name x.desc ∈ TB) (m3 : Cond.selects CN x y ∈ TB) (m2 : Cond.instanceMethod y ∈ TB) (m4 : Cond.initialized y.cls ∈ TB) (m5 : Cond.code y bytes maxL rt ∈ TB) : GoodIn TB (va_wsU own index CN owner x y (Cond.code y bytes maxL rt :: TB)) := fun w h => by
  unfold va_wsU at h
  simp only [List.cons_append, List.nil_append, List.mem_cons] at h
  rcases h with rfl | rfl | rfl | rfl | rfl | rfl | h
  · exact good_TB m1
  · exact good_TB m0
  · exact good_TB m3
  · exact good_TB m2
  · exact good_TB m4
  · exact good_TB m5
  · exact good_TB h
/-- the same, of an inherited method -/
theorem g_callU (C : Cx l Z ex X cc own nL ret) (E : xR X = rmm d mc ms) {x y : MethodName} {bytes : ByteArray} {maxL d1 mc1 ms1 index b : Nat} {rt : Option FieldType} {CN owner : String} {As st0 : List Value} (n : Nat) (hM : CtM l Z false y bytes maxL rt d1 mc1 ms1 (.ref b :: As) μ o Z μ') (m1 : Cond.methodLink own index x ∈ TB) (m0 : Cond.sameMethod x.cls owner x.name x.desc ∈ TB) (m3 : Cond.selects CN x y ∈ TB) (m2 : Cond.instanceMethod y ∈ TB) (m4 : Cond.initialized y.cls ∈ TB) (m5 : Cond.code y bytes maxL rt ∈ TB)
    (hyx : y = ⟨owner, x.name, x.desc⟩) (hd1 : owner ≠ "java/lang/invoke/MethodHandle" ∧ owner ≠ "java/lang/invoke/VarHandle" ∧ (parseMethodDescriptor x.desc).map (fun d => d.parameters.length) = some n) (hn : As.length = n) (hR : d1 + 1 ≤ d ∧ maxL + 19 + 37 * d1 ≤ 37 * d) (hb : ∀ (A : Nat → Prop) (H : Heap), ST (za Z) A (xs X) H → va_O CN b A (xs X) H) (hst : st0 = As.reverse ++ .ref b :: rest)
    (hro : (rest.map fun v => v.category).sum ≤ 8) (hcs : cells + mc1 ≤ mc ∧ slots + ms1 ≤ ms) (hdg : decode cc pc = .ok (.invokevirtual index, 3)) (k : G Z X nL (cells + mc1) (slots + ms1) (pc + 3) lv (o.toList ++ rest) μ') : G Z X nL cells slots pc lv st0 μ := by
  subst hst
  intro H locs ls hW hS h
  have hM' : Met (xl X) y (Cond.code y bytes maxL rt :: TB) (rmm d1 mc1 ms1) (va_Pc (.ref b :: As) (Pc0 Z false μ)) (Qc0 Z o μ') mc1 ms1 (AA Z) := by rw [C.ln]; exact hM
  refine ga_call (μ := μ) C hW hS h (va_runU (C := CN) (b := b) (As := As) (rest := rest) C.fix hM' (va_cwU n C.ts (goodU m1 m0 m3 m2 m4 m5) rfl rfl rfl hyx hd1 (by rw [E]; exact ⟨hR.1, by show 8 + (maxL + 11) + 37 * d1 ≤ 37 * d; omega⟩)) ⟨pc0_blind, va_Orecv (hb _ _ (st0 C hW hS)) hS, pc0_at C hW hS⟩ rfl hn h.1 rfl (lv_room hro) hdg (by rw [E]; exact hcs)) k
theorem st_word {ad : Nat → Nat} {U : State} {i : Nat} (hi : i < 10) : ∀ (A : Nat → Prop) (H : Heap), ST ad A U H → va_O "WornDots$Word" (ad (2000 + i)) A U H := fun _ _ h => (h.1 i hi).1
theorem st_text {ad : Nat → Nat} {U : State} {i : Nat} (hi : i < 10) : ∀ (A : Nat → Prop) (H : Heap), ST ad A U H → va_O "java/lang/String" (ad (2100 + i)) A U H := fun _ _ h => (h.2.1 i hi).1
theorem g_wret (C : Cx l Z ex X cc own nL (some (.object "WornDots$Word"))) (r : Option Nat) {v : Value} (hv : v = wv Z r) (E : Ex Z X d mc ms (some (wv Z r)) Z μ) (hc : cells ≤ mc) (hs : slots ≤ ms) (hd : decode cc pc = .ok (.areturn, 1)) : G Z X nL cells slots pc lv [v] μ := by
  subst hv
  exact g_aret C E rfl ⟨_, rfl⟩ (by cases r with | none => exact Or.inl rfl | some i => exact Or.inr ⟨_, rfl⟩) hc hs hd
end Stat
end
section
/-! MAKING: the world with more objects; rows for new, for arrays, for constructors -/
section CopyI
variable {p : Program} {l : Launch} {e : Env} {R : Room} {s : State} {m : MethodId} {args : Array Value} {below : List Frame} {meth : Method} {c : Code} {H : Heap} {locs : List Loc} {cells slots : Nat} {Q : State → Prop}
variable {cc : ByteArray} {pc : Nat} {ls : Array Slot} {rest : List Value} {D : va_G} {cl : List vw_C} {A : Nat → Prop} {a : Nat} {tys : List (ClassId × FieldType)} {ws : va_W} {H0 : Heap}
variable {cc : ByteArray}
theorem vi_copyt (hexec : p.tables.exec = Jvm.exec) (hb : c.code = cc) (hml : c.maxLocals = ls.size) {own : String} {index : Nat} (hown : s.vm.findClass own = some m.cls) (hlink : (Cond.methodLink own index arraycopyName).before args s = true) (hnat : (Cond.native arraycopyName).before args s = true) (hstat : (Cond.static arraycopyName).before args s = true) (hini : (Cond.initialized "java/lang/System").before args s = true)
    (hK : va_K D cl tys s) (hP : va_P D cl ws H) (hD : va_D A ws) (hS : va_S A s.heap H locs) {b0 n0 : Nat} {f : Nat → Int32} (hX : va_T .int b0 n0 (fun j => .int (f j)) A s s.heap) (q1 t1 : Nat) {c1 : ClassId} {n1 : Nat} {g : Nat → Int32} (ha1 : ws[q1]? = some (a, .inl (c1, n1, .inl g))) (ht1 : tys[t1]? = some (c1, .int))
    {sp dp n : Int32} (h1 : ¬ sp < 0) (h2 : ¬ dp < 0) (h3 : ¬ n < 0) (h4 : sp.toNatClampNeg + n.toNatClampNeg ≤ n0) (h5 : dp.toNatClampNeg + n.toNatClampNeg ≤ n1) (hfit : ∀ i : Nat, i < n.toNatClampNeg → fits .int (.int (f (sp.toNatClampNeg + i))) = true)
    (hframes : 1 ≤ R.frames) (hlocals : (rest.map fun v => v.category).sum + (nativeFrameWords "java/lang/System" "arraycopy" 5 + 11) ≤ R.locals) (hdg : decode cc pc = .ok (.invokestatic index, 3))
    (kk : ∀ (H1 : Heap) (locs1 : List Loc), va_P D cl (ws.set q1 (a, .inl (c1, n1, .inl (va_cpy f g sp.toNatClampNeg dp.toNatClampNeg n.toNatClampNeg)))) H1 → va_D A (ws.set q1 (a, .inl (c1, n1, .inl (va_cpy f g sp.toNatClampNeg dp.toNatClampNeg n.toNatClampNeg)))) → va_S A s.heap H1 locs1 → W p l e R s m args below meth c H1 locs1 cells slots Q (F0 m (pc + 3) ls rest)) : W p l e R s m args below meth c H locs cells slots Q (F0 m pc ls (.int n :: .int dp :: .ref a :: .int sp :: .ref b0 :: rest)) := by
  have nn : ∀ z : Int32, ¬ z < 0 → z.toInt = (z.toNatClampNeg : Int) := by
    intro z hz
    have hz0 : (0 : Int) ≤ z.toInt := by
      have := Int32.not_lt.mp hz
      simpa using Int32.le_iff_toInt_le.mp this
    show z.toInt = ((z.toInt.toNat : Nat) : Int)
    omega
  intro T hT X
  obtain ⟨scr, hs1, hs2, hs3, hs4, -, hs5, hs7⟩ := hX
  have hc0 : H[b0]? = some scr := by rw [hS.2.1 b0 (Array.getElem?_eq_some_iff.mp hs1).1 hs7]; exact hs1
  have hc1 : H[a]? = some (vp_cell c1 (n1, .inl g)) := hP q1 _ ha1
  obtain ⟨hs6, k0, hk0, cm0, hkk0⟩ := hs2
  obtain ⟨-, k1, hk1, cm1, hkk1⟩ := (hK.2 t1 _ ht1).1 n1 (fun j => .int (g j))
  obtain ⟨vm', X', step⟩ := X.arraycopy hexec hown hlink hnat hstat hini (src := b0) (dst := a) (cs := scr) (cd := vp_cell c1 (n1, .inl g)) (srcPos := sp) (destPos := dp) (n := n) (by rw [hT]; exact hc0) (by rw [hT]; exact hc1)
    hs6 (fun _ h => by cases h) hs3 (fun h => by cases h) hk0 hk1 hkk0 hkk1 (by simp [refKind]) h1 h2 h3
    (by rw [nn sp h1, nn n h3]; omega)
    (by rw [nn dp h2, nn n h3]; show ¬ _ > ((arrV c1 n1 (fun j => .int (g j))).slots.size : Int); rw [arrV_size]; omega)
    (fun vm₁ _ i hi => by
      have e : scr.slots.getD (sp.toNatClampNeg + i) .null = .int (f (sp.toNatClampNeg + i)) := by
        rw [Array.getD_eq_getD_getElem?, hs5 _ (by omega)]
        rfl
      refine ⟨?_, ?_⟩
      · rw [e]
        exact hfit i hi
      · rw [e]
        exact trivial)
    (g := F0 m pc ls (.int n :: .int dp :: .ref a :: .int sp :: .ref b0 :: rest)) rfl (by rw [hml]) (rest := rest) rfl (by rw [hb]; exact hdg) hframes (by show 2 * 0 + _ + _ ≤ _; omega)
  have e1 : copied scr (vp_cell c1 (n1, .inl g)) sp dp n = vp_cell c1 (n1, .inl (va_cpy f g sp.toNatClampNeg dp.toNatClampNeg n.toNatClampNeg)) := va_copiedX (fun z => .int z) scr c1 f g hs5 h4
  rw [e1] at X' step
  have hl : a < H.size := (Array.getElem?_eq_some_iff.mp hc1).1
  have hheap : ((T.setVm vm').setCell a (vp_cell c1 (n1, .inl (va_cpy f g sp.toNatClampNeg dp.toNatClampNeg n.toNatClampNeg)))).heap = H.setIfInBounds a (vp_cell c1 (n1, .inl (va_cpy f g sp.toNatClampNeg dp.toNatClampNeg n.toNatClampNeg))) := by rw [← hT]; rfl
  have oq : ∀ q : Nat, q ≠ a → (H.setIfInBounds a (vp_cell c1 (n1, .inl (va_cpy f g sp.toNatClampNeg dp.toNatClampNeg n.toNatClampNeg))))[q]? = H[q]? := fun q hq => by simp [Array.getElem?_setIfInBounds, Ne.symm hq]
  obtain ⟨t, a1, b1⟩ := kk _ _ (hP.set hD ha1 (show (H.setIfInBounds a _)[a]? = some _ by simp [Array.getElem?_setIfInBounds, hl]) oq) (hD.set ha1) ⟨by simp; exact hS.1, fun q g1 g2 => by
      rw [oq q (fun e => g2 (by rw [e]; exact hD.2 q1 _ ha1))]
      exact hS.2.1 q g1 g2, fun q hq => by
      rcases List.mem_append.mp hq with h | h
      · exact hS.2.2 q h
      · obtain ⟨z, -, hz⟩ := List.mem_map.mp h
        rw [← hz]
        exact hD.2 q1 _ ha1⟩ _ hheap X'
  exact ⟨t, step t a1, b1⟩
end CopyI
section Ctor
def zx (Z : ZZ) (L : List (Nat × Nat)) : ZZ := (zb Z, za Z, Z.2.2.1, Z.2.2.2.1, zc Z, fun i => if i < zn Z then zk Z i else L.getD (i - zn Z) (99, 0), zn Z + L.length)
def nwM (μ : Mm) (k : Nat) : Mm := (upR μ.1 k (fun _ => 0), upR μ.2.1 k (fun _ => none), upR μ.2.2 k (fun _ => 0))
theorem zx_k {Z : ZZ} {L : List (Nat × Nat)} (i : Nat) {c n : Nat} (h : L[i]? = some (c, n)) : zk (zx Z L) (zn Z + i) = (c, n) := by
  show (if zn Z + i < zn Z then zk Z (zn Z + i) else L.getD (zn Z + i - zn Z) (99, 0)) = (c, n)
  rw [if_neg (by omega), show zn Z + i - zn Z = i by omega, List.getD_eq_getElem?_getD, h]
  rfl
theorem zx_k1 {Z : ZZ} {L : List (Nat × Nat)} (i : Nat) {c n : Nat} (h : L[i]? = some (c, n)) : (zk (zx Z L) (zn Z + i)).1 = c := by rw [zx_k i h]
theorem zx_o {Z : ZZ} {L : List (Nat × Nat)} {b : Nat} (h : b < zn Z) : zk (zx Z L) b = zk Z b := if_pos h
theorem zx_o1 {Z : ZZ} {L : List (Nat × Nat)} {b c : Nat} (hZ : OkZ Z) (h : (zk Z b).1 = c) (hc : c < 99) : (zk (zx Z L) b).1 = c := by rw [zx_o (zk_lt hZ h hc)]; exact h
theorem zx_zx {Z : ZZ} {L M : List (Nat × Nat)} : zx (zx Z L) M = zx Z (L ++ M) := by
  have e : (fun i => if i < zn Z + L.length then (if i < zn Z then zk Z i else L.getD (i - zn Z) (99, 0)) else M.getD (i - (zn Z + L.length)) (99, 0)) = (fun i => if i < zn Z then zk Z i else (L ++ M).getD (i - zn Z) (99, 0)) := by
    funext i
    by_cases h1 : i < zn Z
    · rw [if_pos (by omega), if_pos h1, if_pos h1]
    · rw [if_neg h1]
      by_cases h2 : i < zn Z + L.length
      · rw [if_pos h2, if_neg h1, List.getD_eq_getElem?_getD, List.getD_eq_getElem?_getD, List.getElem?_append_left (by omega)]
      · rw [if_neg h2, List.getD_eq_getElem?_getD, List.getD_eq_getElem?_getD, List.getElem?_append_right (by omega), show i - zn Z - L.length = i - (zn Z + L.length) by omega, if_neg h1]
  show (zb Z, za Z, Z.2.2.1, Z.2.2.2.1, zc Z, (fun i => if i < zn Z + L.length then (if i < zn Z then zk Z i else L.getD (i - zn Z) (99, 0)) else M.getD (i - (zn Z + L.length)) (99, 0)), zn Z + L.length + M.length) = _
  rw [e, Nat.add_assoc, ← List.length_append]
  rfl
theorem zx_nil {Z : ZZ} (hZ : OkZ Z) : Wd (zx Z []) = Wd Z := by
  have e : wl (zx Z []) = wl Z := by
    funext μ
    show (List.range (zn Z + 0)).map _ = (List.range (zn Z)).map _
    rw [Nat.add_zero]
    apply List.map_congr_left
    intro k hk
    have hk := List.mem_range.mp hk
    show (za Z k, ce (zx Z []) μ k) = (za Z k, ce Z μ k)
    unfold ce
    rw [zx_o hk]
    rfl
  funext μ U H
  unfold Wd
  rw [e]
  rfl
theorem ok_zx {Z : ZZ} {L : List (Nat × Nat)} (hZ : OkZ Z) (h : zn Z + L.length ≤ 1000) : OkZ (zx Z L) := by
  refine ⟨h, hZ.2.1, fun i hi => ?_⟩
  have hi : ¬ i < zn Z + L.length := hi
  show (if i < zn Z then zk Z i else L.getD (i - zn Z) (99, 0)).1 = 99
  rw [if_neg (by omega), List.getD_eq_getElem?_getD, List.getElem?_eq_none (by omega)]
  rfl
theorem ce_zx {Z : ZZ} {L : List (Nat × Nat)} {μ : Mm} {k n : Nat} (hk : k < zn Z) (hn : k ≠ n) : ce (zx Z L) (nwM μ n) k = ce Z μ k := by
  rw [ce_cong (μ := μ) (μ' := nwM μ n) (upR_row _ hn) (upR_row _ hn) (upR_row _ hn)]
  unfold ce
  rw [zx_o hk]
  rfl
theorem wl_push {Z : ZZ} {c n : Nat} {μ : Mm} : wl (zx Z [(c, n)]) (nwM μ (zn Z)) = wl Z μ ++ [(za Z (zn Z), ce (zx Z [(c, n)]) (nwM μ (zn Z)) (zn Z))] := by
  show (List.range (zn Z + 1)).map _ = _
  rw [List.range_succ, List.map_append]
  congr 1
  apply List.map_congr_left
  intro k hk
  have hk := List.mem_range.mp hk
  show (za Z k, ce (zx Z [(c, n)]) (nwM μ (zn Z)) k) = (za Z k, ce Z μ k)
  rw [ce_zx hk (by omega)]
variable {l : Launch} {Z Z' : ZZ} {ex : Bool} {X : XX} {cc : ByteArray} {own : String} {nL : Nat} {ret : Option FieldType} {d mc ms : Nat} {o : Option Value} {μ μ' : Mm} {cells slots pc : Nat} {lv lv' : List (Nat × Value)} {rest : List Value}
theorem cx_zx {L : List (Nat × Nat)} (C : Cx l Z ex X cc own nL ret) (h : zn Z + L.length ≤ 1000) : Cx l (zx Z L) false X cc own nL ret :=
  ⟨C.1, C.2.1, C.2.2.1, ⟨C.K, ok_zx C.ok h⟩, C.ln, C.b, fun q => by cases q⟩
/-- how large the heap is -/
theorem hsize (C : Cx l Z ex X cc own nL ret) {H : Heap} {locs : List Loc} {T : State} (hsz : (xs X).heap.size + cells = zb Z + zn Z) (hW : Wd Z μ (xs X) H) (hS : va_S (AA Z) (xs X).heap H locs) (hT : T.heap = H) (X0 : Stand (xp X) (xl X) (xe X) (xR X) (xs X) (xm X) (xa X) (xb X) (xh X) (xc X) T locs cells slots) : H.size = zb Z + zn Z := by
  have h1 := X0.heapSize
  rw [hT] at h1
  have h2 : zb Z + zn Z ≤ H.size := by
    by_cases h : zn Z = 0
    · have := C.b
      have := hS.1
      omega
    · have hk : zn Z - 1 < zn Z := by omega
      have := (hW.1 _ _ (wl_get (μ := μ) hk)).lt
      have e : za Z (zn Z - 1) = zb Z + (zn Z - 1) := C.ok.2.1 _ (by have := C.ok.1; omega)
      have h3 : za Z (zn Z - 1) < H.size := this
      omega
  omega
theorem g_viaH (C : Cx l Z ex X cc own nL ret) (hsz : (xs X).heap.size + cells = zb Z + zn Z) (k : ∀ (H : Heap) (locs : List Loc) (ls : Array Slot), Wd Z μ (xs X) H → va_S (AA Z) (xs X).heap H locs → lv_has ls nL lv → H.size = zb Z + zn Z → W (xp X) (xl X) (xe X) (xR X) (xs X) (xm X) (xa X) (xb X) (xh X) (xc X) H locs cells slots (xQ X) (F0 (xm X) pc ls rest)) : G Z X nL cells slots pc lv rest μ := by
  intro H locs ls hW hS h T hT X0
  exact k H locs ls hW hS h (hsize C hsz hW hS hT X0) T hT X0
theorem wd_push (C : Cx l Z ex X cc own nL ret) {H H1 : Heap} {locs : List Loc} {c n : Nat} (hW : Wd Z μ (xs X) H) (hS : va_S (AA Z) (xs X).heap H locs) (hH : H.size = zb Z + zn Z) (z1 : H1.size = H.size + 1) (o1 : ∀ q, q < H.size → H1[q]? = H[q]?)
    (e1 : va_at (zD Z) vwCl (za Z (zn Z), ce (zx Z [(c, n)]) (nwM μ (zn Z)) (zn Z)) H1) : Wd (zx Z [(c, n)]) (nwM μ (zn Z)) (xs X) H1 ∧ va_S (AA Z) (xs X).heap H1 locs := by
  have hk : ∀ (k : Nat) (x : Nat × va_E), (wl Z μ)[k]? = some x → H1[x.1]? = H[x.1]? := fun k x hx => o1 x.1 ((hW.1 k x hx).lt)
  refine ⟨⟨?_, ST.kept hW.2 (fun a ha _ => o1 a ha)⟩, ⟨Nat.le_trans hS.1 (by omega), fun x h1 h2 => (o1 x (Nat.lt_of_lt_of_le h1 hS.1)).trans (hS.2.1 x h1 h2), hS.2.2⟩⟩
  rw [wl_push]
  refine (va_P.kept hW.1 hk).app (fun k x hx => ?_)
  have hz : k < 1 := (List.getElem?_eq_some_iff.mp hx).1
  rw [show k = 0 by omega] at hx
  cases hx
  exact e1
theorem g_new (C : Cx l Z ex X cc own nL ret) (E : xR X = rmm d mc ms) (hsz : (xs X).heap.size + cells = zb Z + zn Z) (h1000 : zn Z < 1000) {CN : String} {T : u_T} {ty : Nat → FieldType} {N c index : Nat} (hin : ∀ w ∈ u_ws CN T N, w ∈ TB) (hty : ∀ k, k < N → parseFieldDescriptor (T k).2.2.1 = some (ty k)) (hc : vwCl[c]? = some (CN, T, N)) (hc7 : c < 7)
    (w1 : Cond.classLink own index CN ∈ TB) (w2 : Cond.instantiable CN N ∈ TB) (w3 : Cond.initialized CN ∈ TB) (hfs : ∀ k : Nat, ∀ μ : Mm, (∀ j, μ.1 k j = 0) → (∀ j, μ.2.1 k j = none) → ∀ j, j < N → defaultValue (ty j) = vp_V (flds (zx Z [(c, 0)]) c k μ) j) (hcs : cells + 1 ≤ mc ∧ slots + N ≤ ms) (hd : decode cc pc = .ok (.new index, 3))
    (k : G (zx Z [(c, 0)]) X nL (cells + 1) (slots + N) (pc + 3) lv (.ref (za Z (zn Z)) :: rest) (nwM μ (zn Z))) : G Z X nL cells slots pc lv rest μ := by
  refine g_viaH C hsz (fun H locs ls hW hS h hH => ?_)
  have ez : za Z (zn Z) = zb Z + zn Z := C.ok.2.1 _ h1000
  have hKn := C.K.1 c _ hc
  refine W.newcK C.exec C.code C.ow (C.w w1) (C.w w2) (C.w w3) rfl hd (by rw [E]; exact hcs.1) (by rw [E]; exact hcs.2) hKn.2.1 (h := za Z (zn Z)) (by rw [ez]; exact hH) (fun H1 kC hkC e1 z1 o1 => ?_)
  have e0 : (zk (zx Z [(c, 0)]) (zn Z)).1 = c := by rw [show zn Z = zn Z + 0 from rfl, zx_k1 (L := [(c, 0)]) 0 rfl]
  obtain ⟨hW1, hS1⟩ := wd_push (c := c) (n := 0) C hW hS hH (by rw [z1, ez, hH]) (fun q hq => o1 q (by rw [ez, ← hH]; exact hq)) (by
    show va_at _ _ (_, ce _ _ _) _
    rw [ce_obj e0 hc7]
    exact ⟨_, hc, (u_born ty C.ts hin hKn hkC e1 hty).to (hfs _ _ (fun j => by simp [nwM, upR]) (fun j => by simp [nwM, upR]))⟩)
  exact k H1 locs ls hW1 hS1 h
theorem g_newa (C : Cx l Z ex X cc own nL ret) (E : xR X = rmm d mc ms) (hsz : (xs X).heap.size + cells = zb Z + zn Z) (h1000 : zn Z < 1000) {atype : ArrayType} {ty : FieldType} (hty : newarray.typeOf atype = ty) (t c N : Nat) {n : Int32} (w1 : Cond.arrayClass ty ∈ TB) (ht : (zT Z)[t]? = some (zc Z t, ty)) (hRA : ∀ cA, va_RA (xs X) (zc Z t) ty → (xs X).vm.findClass ("[" ++ ty.toString) = some cA → cA = zc Z t)
    (a9 : vp_A) (hce : ce (zx Z [(c, N)]) (nwM μ (zn Z)) (zn Z) = .inl (zc Z t, a9)) (hcell : vp_cell (zc Z t) a9 = arrV (zc Z t) N (fun _ => defaultValue ty)) (hn : ¬ n < 0) (hN : n.toNatClampNeg = N) (hbytes : N * componentBytes ty ≤ 536870912) (hcs : cells + 1 ≤ mc ∧ slots + N ≤ ms) (hd : decode cc pc = .ok (.newarray atype, 2))
    (k : G (zx Z [(c, N)]) X nL (cells + 1) (slots + N) (pc + 2) lv (.ref (za Z (zn Z)) :: rest) (nwM μ (zn Z))) : G Z X nL cells slots pc lv (.int n :: rest) μ := by
  subst hty
  refine g_viaH C hsz (fun H locs ls hW hS h hH => ?_)
  have ez : za Z (zn Z) = zb Z + zn Z := C.ok.2.1 _ h1000
  refine va_newaK C.exec C.code (C.w w1) rfl hd rfl hn hN hbytes (by rw [E]; exact hcs.1) (by rw [E]; exact hcs.2) (h := za Z (zn Z)) (by rw [ez]; exact hH) (fun H1 cA e1 z1 o1 hAr hNm => ?_)
  have hcA := hRA cA (C.K.2 t _ ht).2 hNm
  subst hcA
  obtain ⟨hW1, hS1⟩ := wd_push (c := c) (n := N) C hW hS hH (by rw [z1, ez, hH]) (fun q hq => o1 q (by rw [ez, ← hH]; exact hq)) (by
    rw [hce]
    show H1[za Z (zn Z)]? = some (vp_cell _ _)
    rw [hcell]
    exact e1)
  exact k H1 locs ls hW1 hS1 h
theorem ce_new8 {N : Nat} : ce (zx Z [(8, N)]) (nwM μ (zn Z)) (zn Z) = .inl (zc Z 1, N, .inl (fun _ => 0)) := by
  have e0 : zk (zx Z [(8, N)]) (zn Z) = (8, N) := by rw [show zn Z = zn Z + 0 from rfl, zx_k (L := [(8, N)]) 0 rfl]
  rw [ce_int (by rw [e0]), e0]
  show Sum.inl (_, _, Sum.inl (upR _ _ _ _)) = _
  rw [upR_self]
  rfl
theorem ce_new7 {N : Nat} : ce (zx Z [(7, N)]) (nwM μ (zn Z)) (zn Z) = .inl (zc Z 0, N, .inl (fun _ => 0)) := by
  have e0 : zk (zx Z [(7, N)]) (zn Z) = (7, N) := by rw [show zn Z = zn Z + 0 from rfl, zx_k (L := [(7, N)]) 0 rfl]
  rw [ce_chr (by rw [e0]), e0]
  show Sum.inl (_, _, Sum.inl (upR _ _ _ _)) = _
  rw [upR_self]
  rfl
theorem ce_new12 {N : Nat} : ce (zx Z [(12, N)]) (nwM μ (zn Z)) (zn Z) = .inl (zc Z 5, N, .inr (.inl (fun _ => 0))) := by
  have e0 : zk (zx Z [(12, N)]) (zn Z) = (12, N) := by rw [show zn Z = zn Z + 0 from rfl, zx_k (L := [(12, N)]) 0 rfl]
  rw [ce_lng (by rw [e0]), e0]
  show Sum.inl (_, _, Sum.inr (Sum.inl (upR _ _ _ _))) = _
  rw [upR_self]
  rfl
theorem g_newI (C : Cx l Z ex X cc own nL ret) (E : xR X = rmm d mc ms) (hsz : (xs X).heap.size + cells = zb Z + zn Z) (h1000 : zn Z < 1000) (N : Nat) {n : Int32} (w1 : Cond.arrayClass .int ∈ TB) (hn : ¬ n < 0) (hN : n.toNatClampNeg = N) (hbytes : N * componentBytes .int ≤ 536870912) (hcs : cells + 1 ≤ mc ∧ slots + N ≤ ms) (hd : decode cc pc = .ok (.newarray .int, 2))
    (k : G (zx Z [(8, N)]) X nL (cells + 1) (slots + N) (pc + 2) lv (.ref (za Z (zn Z)) :: rest) (nwM μ (zn Z))) : G Z X nL cells slots pc lv (.int n :: rest) μ :=
  g_newa C E hsz h1000 (atype := .int) (ty := .int) rfl 1 8 N w1 rfl (fun cA h1 h2 => Option.some.inj (h2.symm.trans h1)) _ ce_new8 rfl hn hN hbytes hcs hd k
theorem g_newC (C : Cx l Z ex X cc own nL ret) (E : xR X = rmm d mc ms) (hsz : (xs X).heap.size + cells = zb Z + zn Z) (h1000 : zn Z < 1000) (N : Nat) {n : Int32} (w1 : Cond.arrayClass .char ∈ TB) (hn : ¬ n < 0) (hN : n.toNatClampNeg = N) (hbytes : N * componentBytes .char ≤ 536870912) (hcs : cells + 1 ≤ mc ∧ slots + N ≤ ms) (hd : decode cc pc = .ok (.newarray .char, 2))
    (k : G (zx Z [(7, N)]) X nL (cells + 1) (slots + N) (pc + 2) lv (.ref (za Z (zn Z)) :: rest) (nwM μ (zn Z))) : G Z X nL cells slots pc lv (.int n :: rest) μ :=
  g_newa C E hsz h1000 (atype := .char) (ty := .char) rfl 0 7 N w1 rfl (fun cA h1 h2 => Option.some.inj (h2.symm.trans h1)) _ ce_new7 rfl hn hN hbytes hcs hd k
theorem g_newJ (C : Cx l Z ex X cc own nL ret) (E : xR X = rmm d mc ms) (hsz : (xs X).heap.size + cells = zb Z + zn Z) (h1000 : zn Z < 1000) (N : Nat) {n : Int32} (w1 : Cond.arrayClass .long ∈ TB) (hn : ¬ n < 0) (hN : n.toNatClampNeg = N) (hbytes : N * componentBytes .long ≤ 536870912) (hcs : cells + 1 ≤ mc ∧ slots + N ≤ ms) (hd : decode cc pc = .ok (.newarray .long, 2))
    (k : G (zx Z [(12, N)]) X nL (cells + 1) (slots + N) (pc + 2) lv (.ref (za Z (zn Z)) :: rest) (nwM μ (zn Z))) : G Z X nL cells slots pc lv (.int n :: rest) μ :=
  g_newa C E hsz h1000 (atype := .long) (ty := .long) rfl 5 12 N w1 rfl (fun cA h1 h2 => Option.some.inj (h2.symm.trans h1)) _ ce_new12 rfl hn hN hbytes hcs hd k
theorem g_newR (C : Cx l Z ex X cc own nL ret) (E : xR X = rmm d mc ms) (hsz : (xs X).heap.size + cells = zb Z + zn Z) (h1000 : zn Z < 1000) (N : Nat) {n : Int32} {CN : String} {index : Nat} (c t : Nat) (hct : t = c - 7) (h1 : ¬ c < 9) (h2 : c < 12) (ht : (zT Z)[t]? = some (zc Z (c - 7), .object CN)) (w1 : Cond.classLink own index CN ∈ TB) (w2 : va_AO CN (xs X)) (hn : ¬ n < 0) (hN : n.toNatClampNeg = N) (hbytes : N * 4 ≤ 536870912) (hcs : cells + 1 ≤ mc ∧ slots + N ≤ ms) (hd : decode cc pc = .ok (.anewarray index, 3))
    (k : G (zx Z [(c, N)]) X nL (cells + 1) (slots + N) (pc + 3) lv (.ref (za Z (zn Z)) :: rest) (nwM μ (zn Z))) : G Z X nL cells slots pc lv (.int n :: rest) μ := by
  subst hN
  refine g_viaH C hsz (fun H locs ls hW hS h hH => ?_)
  have ez : za Z (zn Z) = zb Z + zn Z := C.ok.2.1 _ h1000
  refine W.anew C.exec C.code C.ow (C.w w1) (va_AO.use w2) rfl hd rfl hn hbytes (by rw [E]; exact hcs.1) (by rw [E]; exact hcs.2) (fun cA kA comp f1 f2 f3 f4 => ?_)
  have hcA : cA = zc Z (c - 7) := by
    obtain ⟨kA2, comp2, g1, g2, g3, g4⟩ := (C.K.2 t _ ht).2
    exact Option.some.inj (f1.symm.trans g4)
  subst hcA
  generalize hH1 : H.push ({ cls := zc Z (c - 7), slots := Array.replicate n.toNatClampNeg .null, vm := .none } : Cell) = H1
  have z1 : H1.size = H.size + 1 := by rw [← hH1, Array.size_push]
  have e1 : H1[H.size]? = some (arrV (zc Z (c - 7)) n.toNatClampNeg (fun _ => .null)) := by rw [← hH1, Array.getElem?_push_size, ← arrV_new]
  have o1 : ∀ q : Nat, q < H.size → H1[q]? = H[q]? := fun q hq => by rw [← hH1, Array.getElem?_push, if_neg (Nat.ne_of_lt hq)]
  have e0 : zk (zx Z [(c, n.toNatClampNeg)]) (zn Z) = (c, n.toNatClampNeg) := by rw [show zn Z = zn Z + 0 from rfl, zx_k (L := [(c, n.toNatClampNeg)]) 0 rfl]
  obtain ⟨hW1, hS1⟩ := wd_push (c := c) (n := n.toNatClampNeg) C hW hS hH z1 o1 (by
    rw [ce_ref (c := c) (by rw [e0]) h1 h2, e0]
    show H1[za Z (zn Z)]? = some (vp_cell _ _)
    rw [ez, ← hH, e1]
    show _ = some (arrV (zc Z (c - 7)) n.toNatClampNeg (fun j => va_rf ((upR μ.2.1 (zn Z) (fun _ => none) (zn Z) j).map _)))
    rw [upR_self]
    rfl)
  have hz : (.ref H.size : Value) = .ref (za Z (zn Z)) := by rw [ez, hH]
  have kk := k H1 locs ls hW1 hS1 h
  rw [← hz] at kk
  exact kk
theorem g_objI (C : Cx l Z ex X cc own nL ret) (E : xR X = rmm d mc ms) {idx : Nat} {a : Nat} (w1 : Cond.methodLink own idx Lib.objectInit ∈ TB) (w2 : Cond.instanceMethod Lib.objectInit ∈ TB) (w3 : Cond.code Lib.objectInit ⟨#[0xb1]⟩ 1 none ∈ TB) (hfr : 1 ≤ d) (hro : (rest.map fun v => v.category).sum + 12 ≤ 37 * d) (hd : decode cc pc = .ok (.invokespecial idx, 3)) (k : G Z X nL cells slots (pc + 3) lv rest μ) : G Z X nL cells slots pc lv (.ref a :: rest) μ := fun H locs ls hW hS h =>
  W.objInit C.exec C.code C.ow (C.w w1) (C.w w2) (C.w w3) rfl (h.1.trans C.ml.symm) rfl hd (by rw [E]; exact hfr) (by
    rw [E]
    show 2 * (F0 (xm X) pc ls (.ref a :: rest)).monitorRoom + _ + 12 ≤ 37 * d
    have : 2 * (F0 (xm X) pc ls (.ref a :: rest)).monitorRoom = 0 := rfl
    omega) (k H locs ls hW hS h)
/-- a call that makes objects: behind it the world is Z' -/
theorem ga_callZ (C : Cx l Z ex X cc own nL ret) {H : Heap} {locs : List Loc} {ls : Array Slot} {st0 : List Value} {a : Array Value} {mc1 ms1 : Nat} {L : List (Nat × Nat)} (hW : Wd Z μ (xs X) H) (hS : va_S (AA Z) (xs X).heap H locs) (hl : lv_has ls nL lv)
    (hr : va_Run (xp X) (xl X) (xe X) (xR X) (xs X) (xm X) (xa X) (xb X) (xh X) (xc X) H locs cells slots mc1 ms1 (F0 (xm X) pc ls st0) rest (Qc0 (zx Z L) o μ' a) (AA Z)) (k : G (zx Z L) X nL (cells + mc1) (slots + ms1) (pc + 3) lv (o.toList ++ rest) μ') :
    W (xp X) (xl X) (xe X) (xR X) (xs X) (xm X) (xa X) (xb X) (xh X) (xc X) H locs cells slots (xQ X) (F0 (xm X) pc ls st0) := by
  intro T hT X1
  obtain ⟨v, st₀, t, T', L1, h0, X', hL, e1, e2, ⟨⟨hv, hb⟩, hz, hk⟩, st⟩ := hr T hT X1
  cases hv
  rw [h0] at hz hk
  have hS1 : va_S (AA Z) (xs X).heap T'.heap (locs ++ L1) := ⟨Nat.le_trans hS.1 (by rw [e1]; exact hz), fun q h1 h2 => by rw [e1, hk q (Nat.lt_of_lt_of_le h1 hS.1) h2]; exact hS.2.1 q h1 h2, fun q hq => by
      rcases List.mem_append.mp hq with h | h
      · exact hS.2.2 q h
      · exact hL q h⟩
  have hW1 : Wd (zx Z L) μ' (xs X) T'.heap := by
    rw [e1]
    exact ⟨hb.1, ST.moved (Vm.Alike.symm (by rw [← e2]; exact X'.warmed.alike)) hb.2⟩
  obtain ⟨t2, a1, b1⟩ := k T'.heap (locs ++ L1) ls hW1 hS1 hl T' rfl X'
  exact ⟨t2, st t2 a1, b1⟩
theorem pc0_atT (C : Cx l Z ex X cc own nL ret) {H : Heap} {av : List Value} {locs : List Loc} (hW : Wd Z μ (xs X) H) (hS : va_S (AA Z) (xs X).heap H locs) (hH : H.size = zb Z + zn Z) : ∀ U : State, U.heap = H → (xs X).WarmedH U.vm → va_Pc av (Pc0 Z true μ) av.toArray U := fun U hU hw =>
  ⟨rfl, by rw [hU]; exact ⟨hW.1, ST.moved hw.alike hW.2⟩, ⟨va_K.moved hw.alike C.K, C.nw.warm hw⟩, C.ok, by rw [hU]; exact Nat.le_trans C.b hS.1, fun _ => by rw [hU]; exact hH⟩
theorem g_callI (C : Cx l Z ex X cc own nL ret) (E : xR X = rmm d mc ms) (hsz : (xs X).heap.size + cells = zb Z + zn Z) {y : MethodName} {bytes : ByteArray} {maxL d1 mc1 ms1 index b : Nat} {As st0 : List Value} {L : List (Nat × Nat)} (n : Nat) (hM : CtM l Z true y bytes maxL none d1 mc1 ms1 (.ref b :: As) μ none (zx Z L) μ') (m1 : Cond.methodLink own index y ∈ TB) (m2 : Cond.instanceMethod y ∈ TB) (m3 : Cond.initialized y.cls ∈ TB) (m4 : Cond.code y bytes maxL none ∈ TB)
    (hy1 : y.name = "<init>") (hd1 : y.cls ≠ "java/lang/invoke/MethodHandle" ∧ y.cls ≠ "java/lang/invoke/VarHandle" ∧ (parseMethodDescriptor y.desc).map (fun d => d.parameters.length) = some n) (hn : As.length = n) (hR : d1 + 1 ≤ d ∧ maxL + 19 + 37 * d1 ≤ 37 * d) (hst : st0 = As.reverse ++ .ref b :: rest)
    (hro : (rest.map fun v => v.category).sum ≤ 8) (hcs : cells + mc1 ≤ mc ∧ slots + ms1 ≤ ms) (hdg : decode cc pc = .ok (.invokespecial index, 3)) (k : G (zx Z L) X nL (cells + mc1) (slots + ms1) (pc + 3) lv rest μ') : G Z X nL cells slots pc lv st0 μ := by
  subst hst
  refine g_viaH C hsz (fun H locs ls hW hS h hH => ?_)
  have hM' : Met (xl X) y (Cond.code y bytes maxL none :: TB) (rmm d1 mc1 ms1) (va_Pc (.ref b :: As) (Pc0 Z true μ)) (Qc0 (zx Z L) none μ') mc1 ms1 (AA Z) := by rw [C.ln]; exact hM
  exact ga_callZ (μ := μ) C hW hS h (va_runI (b := b) (As := As) (rest := rest) C.fix hM' (cwI n C.ts (goodC m4) rfl rfl rfl (C.w m3) (C.w m1) (C.w m2) hy1 hd1 (by rw [E]; exact ⟨hR.1, by show 8 + (maxL + 11) + 37 * d1 ≤ 37 * d; omega⟩)) ⟨pc0_blind, pc0_atT C hW hS hH⟩ rfl hn h.1 rfl (lv_room hro) hdg (by rw [E]; exact hcs)) k
theorem g_callIN (C : Cx l Z ex X cc own nL ret) (E : xR X = rmm d mc ms) (hsz : (xs X).heap.size + cells = zb Z + zn Z) {y : MethodName} {bytes : ByteArray} {maxL d1 mc1 ms1 index b : Nat} {host : String} {As st0 : List Value} {L : List (Nat × Nat)} (n : Nat) (hM : CtM l Z true y bytes maxL none d1 mc1 ms1 (.ref b :: As) μ none (zx Z L) μ') (m1 : va_Nw (.methodLinkNest own index y host) (xs X)) (m2 : Cond.instanceMethod y ∈ TB) (m3 : Cond.initialized y.cls ∈ TB) (m4 : Cond.code y bytes maxL none ∈ TB)
    (hy1 : y.name = "<init>") (hd1 : y.cls ≠ "java/lang/invoke/MethodHandle" ∧ y.cls ≠ "java/lang/invoke/VarHandle" ∧ (parseMethodDescriptor y.desc).map (fun d => d.parameters.length) = some n) (hn : As.length = n) (hR : d1 + 1 ≤ d ∧ maxL + 19 + 37 * d1 ≤ 37 * d) (hst : st0 = As.reverse ++ .ref b :: rest)
    (hro : (rest.map fun v => v.category).sum ≤ 8) (hcs : cells + mc1 ≤ mc ∧ slots + ms1 ≤ ms) (hdg : decode cc pc = .ok (.invokespecial index, 3)) (k : G (zx Z L) X nL (cells + mc1) (slots + ms1) (pc + 3) lv rest μ') : G Z X nL cells slots pc lv st0 μ := by
  subst hst
  refine g_viaH C hsz (fun H locs ls hW hS h hH => ?_)
  have hM' : Met (xl X) y (Cond.code y bytes maxL none :: TB) (rmm d1 mc1 ms1) (va_Pc (.ref b :: As) (Pc0 Z true μ)) (Qc0 (zx Z L) none μ') mc1 ms1 (AA Z) := by rw [C.ln]; exact hM
  exact ga_callZ (μ := μ) C hW hS h (va_runIN (b := b) (As := As) (rest := rest) C.fix hM' ⟨va_cnB n C.ts (goodC m4) rfl rfl rfl m1 (C.w m3) hd1 (by rw [E]; exact ⟨hR.1, by show 8 + (maxL + 11) + 37 * d1 ≤ 37 * d; omega⟩), hy1, C.w m2⟩ ⟨pc0_blind, pc0_atT C hW hS hH⟩ rfl hn h.1 rfl (lv_room hro) hdg (by rw [E]; exact hcs)) k
theorem ct_ofI {y : MethodName} {av : List Value} {Z' : ZZ} (hy : plainName y.cls = true) (ho : y.cls = own) (hlen : (lg_sl av).length ≤ nL)
    (body : ∀ X : XX, Cx l Z true X cc own nL ret → Ex Z X d mc ms o Z' μ' → (xh X).name = y.name → G Z X nL 0 0 0 (lv_args 0 av) [] μ) : CtM l Z true y cc nL ret d mc ms av μ o Z' μ' := by
  refine Met.ofW (cc := cc) (maxL := nL) (ret := ret) (ws' := TB) hy rfl ?_
  intro p e s m args below meth c s₁ B hml hv
  obtain ⟨rfl, hW, ⟨hK, hN⟩, hZ, hb, hx⟩ := hv
  have hts := atoms_spec (ws := Cond.code y cc nL ret :: TB) B.pre
  have hown : s.vm.findClass own = some m.cls := by rw [← ho]; exact findClass_of_methodNamed B.named
  have hg := body (p, l, e, rmm d mc ms, s, m, av.toArray, below, meth, c, MQ below (Qc0 Z' o μ') av.toArray s mc ms (AA Z))
    ⟨⟨B.exec, B.bytes, hml⟩, ⟨hown, fun w h => hts w (List.mem_cons_of_mem _ h), hN⟩, ⟨B.notSynchronized, B.returns⟩, ⟨hK, hZ⟩, rfl, hb, hx⟩ ⟨rfl, rfl⟩ (name_of_methodNamed B.named B.method).1
    s.heap [] _ hW va_S.rf (lv_entry av hlen)
  rw [lg_entry_eq]
  exact hg
theorem g_vretZ {L : List (Nat × Nat)} (C : Cx l Z ex X cc own nL none) (E : Ex Z X d mc ms none (zx Z L) μ) (hc : cells ≤ mc) (hs : slots ≤ ms) (hd : decode cc pc = .ok (.return_, 1)) : G (zx Z L) X nL cells slots pc lv [] μ := fun H locs ls hW hS h => by
  rw [E.1]
  exact W.widen hc hs (W.vret C.exec C.code C.rt (fun t ht hw => ⟨⟨rfl, by rw [ht]; exact ⟨hW.1, ST.moved hw.alike hW.2⟩⟩, by unfold va_F; rw [ht]; exact ⟨hS.1, hS.2.1⟩⟩) hS.2.2 hd C.locks)
theorem g_zeq {Z1 Z2 : ZZ} (e : Z1 = Z2) (k : G Z2 X nL cells slots pc lv rest μ) : G Z1 X nL cells slots pc lv rest μ := e ▸ k
theorem g_zin (hZ : OkZ Z) (k : G (zx Z []) X nL cells slots pc lv rest μ) : G Z X nL cells slots pc lv rest μ := fun H locs ls hW hS h => k H locs ls (by rw [zx_nil hZ]; exact hW) hS h
theorem ob_0 {Z : ZZ} : ∀ k : Nat, ∀ μ : Mm, (∀ j, μ.1 k j = 0) → (∀ j, μ.2.1 k j = none) → ∀ j, j < 6 → defaultValue (tyX1 j) = vp_V (flds (zx Z [(0, 0)]) 0 k μ) j := by
  intro k μ h1 h2 j hj
  match j, hj with
  | 0, _ => simp [vp_V, flds, iv, rv, h1, h2, tyX1, defaultValue, va_rf]
  | 1, _ => simp [vp_V, flds, iv, rv, h1, h2, tyX1, defaultValue, va_rf]
  | 2, _ => simp [vp_V, flds, iv, rv, h1, h2, tyX1, defaultValue, va_rf]
  | 3, _ => simp [vp_V, flds, iv, rv, h1, h2, tyX1, defaultValue, va_rf]
  | 4, _ => simp [vp_V, flds, iv, rv, h1, h2, tyX1, defaultValue, va_rf]
  | 5, _ => simp [vp_V, flds, iv, rv, h1, h2, tyX1, defaultValue, va_rf]
  | q + 6, hq => exact absurd hq (by omega)
theorem ob_1 {Z : ZZ} : ∀ k : Nat, ∀ μ : Mm, (∀ j, μ.1 k j = 0) → (∀ j, μ.2.1 k j = none) → ∀ j, j < 6 → defaultValue (tyX2 j) = vp_V (flds (zx Z [(1, 0)]) 1 k μ) j := by
  intro k μ h1 h2 j hj
  match j, hj with
  | 0, _ => simp [vp_V, flds, iv, rv, h1, h2, tyX2, defaultValue, va_rf]
  | 1, _ => simp [vp_V, flds, iv, rv, h1, h2, tyX2, defaultValue, va_rf]
  | 2, _ => simp [vp_V, flds, iv, rv, h1, h2, tyX2, defaultValue, va_rf]
  | 3, _ => simp [vp_V, flds, iv, rv, h1, h2, tyX2, defaultValue, va_rf]
  | 4, _ => simp [vp_V, flds, iv, rv, h1, h2, tyX2, defaultValue, va_rf]
  | 5, _ => simp [vp_V, flds, iv, rv, h1, h2, tyX2, defaultValue, va_rf]
  | q + 6, hq => exact absurd hq (by omega)
theorem ob_2 {Z : ZZ} : ∀ k : Nat, ∀ μ : Mm, (∀ j, μ.1 k j = 0) → (∀ j, μ.2.1 k j = none) → ∀ j, j < 5 → defaultValue (tyX3 j) = vp_V (flds (zx Z [(2, 0)]) 2 k μ) j := by
  intro k μ h1 h2 j hj
  match j, hj with
  | 0, _ => simp [vp_V, flds, iv, rv, h1, h2, tyX3, defaultValue, va_rf]
  | 1, _ => simp [vp_V, flds, iv, rv, h1, h2, tyX3, defaultValue, va_rf]
  | 2, _ => simp [vp_V, flds, iv, rv, h1, h2, tyX3, defaultValue, va_rf]
  | 3, _ => simp [vp_V, flds, iv, rv, h1, h2, tyX3, defaultValue, va_rf]
  | 4, _ => simp [vp_V, flds, iv, rv, h1, h2, tyX3, defaultValue, va_rf]
  | q + 5, hq => exact absurd hq (by omega)
theorem ob_3 {Z : ZZ} : ∀ k : Nat, ∀ μ : Mm, (∀ j, μ.1 k j = 0) → (∀ j, μ.2.1 k j = none) → ∀ j, j < 5 → defaultValue (tyX4 j) = vp_V (flds (zx Z [(3, 0)]) 3 k μ) j := by
  intro k μ h1 h2 j hj
  match j, hj with
  | 0, _ => simp [vp_V, flds, iv, rv, h1, h2, tyX4, defaultValue, va_rf]
  | 1, _ => simp [vp_V, flds, iv, rv, h1, h2, tyX4, defaultValue, va_rf]
  | 2, _ => simp [vp_V, flds, iv, rv, h1, h2, tyX4, defaultValue, va_rf]
  | 3, _ => simp [vp_V, flds, iv, rv, h1, h2, tyX4, defaultValue, va_rf]
  | 4, _ => simp [vp_V, flds, iv, rv, h1, h2, tyX4, defaultValue, va_rf]
  | q + 5, hq => exact absurd hq (by omega)
theorem ob_4 {Z : ZZ} : ∀ k : Nat, ∀ μ : Mm, (∀ j, μ.1 k j = 0) → (∀ j, μ.2.1 k j = none) → ∀ j, j < 8 → defaultValue (tyX5 j) = vp_V (flds (zx Z [(4, 0)]) 4 k μ) j := by
  intro k μ h1 h2 j hj
  match j, hj with
  | 0, _ => simp [vp_V, flds, iv, rv, h1, h2, tyX5, defaultValue, va_rf]
  | 1, _ => simp [vp_V, flds, iv, rv, h1, h2, tyX5, defaultValue, va_rf]
  | 2, _ => simp [vp_V, flds, iv, rv, h1, h2, tyX5, defaultValue, va_rf]
  | 3, _ => simp [vp_V, flds, iv, rv, h1, h2, tyX5, defaultValue, va_rf]
  | 4, _ => simp [vp_V, flds, iv, rv, h1, h2, tyX5, defaultValue, va_rf]
  | 5, _ => simp [vp_V, flds, iv, rv, h1, h2, tyX5, defaultValue, va_rf]
  | 6, _ => simp [vp_V, flds, iv, rv, h1, h2, tyX5, defaultValue, va_rf]
  | 7, _ => simp [vp_V, flds, iv, rv, h1, h2, tyX5, defaultValue, va_rf]
  | q + 8, hq => exact absurd hq (by omega)
theorem ob_5 {Z : ZZ} : ∀ k : Nat, ∀ μ : Mm, (∀ j, μ.1 k j = 0) → (∀ j, μ.2.1 k j = none) → ∀ j, j < 4 → defaultValue (tyX7 j) = vp_V (flds (zx Z [(5, 0)]) 5 k μ) j := by
  intro k μ h1 h2 j hj
  match j, hj with
  | 0, _ => simp [vp_V, flds, iv, rv, h1, h2, tyX7, defaultValue, va_rf]
  | 1, _ => simp [vp_V, flds, iv, rv, h1, h2, tyX7, defaultValue, va_rf]
  | 2, _ => simp [vp_V, flds, iv, rv, h1, h2, tyX7, defaultValue, va_rf]
  | 3, _ => simp [vp_V, flds, iv, rv, h1, h2, tyX7, defaultValue, va_rf]
  | q + 4, hq => exact absurd hq (by omega)
theorem ob_6 {Z : ZZ} : ∀ k : Nat, ∀ μ : Mm, (∀ j, μ.1 k j = 0) → (∀ j, μ.2.1 k j = none) → ∀ j, j < 11 → defaultValue (tyX8 j) = vp_V (flds (zx Z [(6, 0)]) 6 k μ) j := by
  intro k μ h1 h2 j hj
  match j, hj with
  | 0, _ => simp [vp_V, flds, iv, rv, h1, h2, tyX8, defaultValue, va_rf]
  | 1, _ => simp [vp_V, flds, iv, rv, h1, h2, tyX8, defaultValue, va_rf]
  | 2, _ => simp [vp_V, flds, iv, rv, h1, h2, tyX8, defaultValue, va_rf]
  | 3, _ => simp [vp_V, flds, iv, rv, h1, h2, tyX8, defaultValue, va_rf]
  | 4, _ => simp [vp_V, flds, iv, rv, h1, h2, tyX8, defaultValue, va_rf]
  | 5, _ => simp [vp_V, flds, iv, rv, h1, h2, tyX8, defaultValue, va_rf]
  | 6, _ => simp [vp_V, flds, iv, rv, h1, h2, tyX8, defaultValue, va_rf]
  | 7, _ => simp [vp_V, flds, iv, rv, h1, h2, tyX8, defaultValue, va_rf]
  | 8, _ => simp [vp_V, flds, iv, rv, h1, h2, tyX8, defaultValue, va_rf]
  | 9, _ => simp [vp_V, flds, iv, rv, h1, h2, tyX8, defaultValue, va_rf]
  | 10, _ => simp [vp_V, flds, iv, rv, h1, h2, tyX8, defaultValue, va_rf]
  | q + 11, hq => exact absurd hq (by omega)
/-- a copy out of a table -/
theorem g_copyS (C : Cx l Z ex X cc own nL ret) (E : xR X = rmm d mc ms) (k0 : Nat) (hk0 : k0 < 4) {a index : Nat} {sp dp n : Int32} (h1 : (zk Z a).1 = 8) (hg : okc sp dp n (sA k0).length (zk Z a).2) (hfr : 1 ≤ d) (hlo : (rest.map fun v => v.category).sum + (nativeFrameWords "java/lang/System" "arraycopy" 5 + 11) ≤ 37 * d)
    (w1 : (Cond.methodLink own index arraycopyName).before (xa X) (xs X) = true) (w2 : (Cond.native arraycopyName).before (xa X) (xs X) = true) (w3 : (Cond.static arraycopyName).before (xa X) (xs X) = true) (w4 : (Cond.initialized "java/lang/System").before (xa X) (xs X) = true)
    (he : μ' = sIr μ a (va_cpy (fun j => (sA k0).getD j 0) (μ.1 a) (ix sp) (ix dp) (ix n))) (hd : decode cc pc = .ok (.invokestatic index, 3)) (k : G Z X nL cells slots (pc + 3) lv rest μ') : G Z X nL cells slots pc lv (.int n :: .int dp :: .ref (za Z a) :: .int sp :: .ref (za Z (2300 + k0)) :: rest) μ := by
  subst he
  intro H locs ls hW hS h
  have hlt := zk_lt C.ok h1 (by omega)
  refine vi_copyt C.exec C.code (C.ml.trans h.1.symm) C.ow w1 w2 w3 w4 C.K hW.1 (wl_D C.ok μ) hS ((st0 C hW hS).2.2.1 k0 hk0).2 a 1 (wl_get hlt |>.trans (by rw [ce_int h1])) rfl hg.1 hg.2.1 hg.2.2.1 hg.2.2.2.1 hg.2.2.2.2 (fun _ _ => rfl) (by rw [E]; exact hfr) (by rw [E]; exact hlo) hd (fun H1 locs1 hP1 hD1 hS1 => ?_)
  rw [wl_set (μ' := sIr μ a (va_cpy (fun j => (sA k0).getD j 0) (μ.1 a) (ix sp) (ix dp) (ix n))) hlt (by rw [ce_int h1]; show _ = Sum.inl (_, _, Sum.inl (upR _ _ _ _)); rw [upR_self]) (fun b hb => ce_sIr hb)] at hP1
  exact k H1 locs1 ls (wd_put C hW hS hS1 hP1) hS1 h
end Ctor
end
section
def qX2_init : List (Nat × Instr × Nat) := [(0, .aload_n 0, 1), (1, .invokespecial 3, 3), (4, .aload_n 0, 1), (5, .iconst (-1), 1), (6, .putfield 9, 3), (9, .aload_n 0, 1), (10, .iconst (-1), 1), (11, .putfield 15, 3), (14, .return_, 1)]
theorem kX2_init : ∀ q ∈ qX2_init, decode cX2_init q.1 = .ok q.2 := by decide +kernel
def i_X2_init (n : Nat) (μ : Mm) (a0 : Nat) : Mm :=
  let μ1 : Mm := sI μ a0 0 (-1)
  let μ2 : Mm := sI μ1 a0 1 (-1)
  μ2
set_option maxRecDepth 100000 in
set_option maxHeartbeats 8000000 in
theorem ct_X2_init {l : Launch} {Z : ZZ} {μ : Mm} {a0 : Nat} (k0 : (zk Z a0).1 = 1) (h1000 : zn Z + 0 ≤ 1000) : CtM l Z true yX2_init cX2_init 1 none 1 0 0 [.ref (za Z a0)] μ none (zx Z []) (i_X2_init (zn Z) μ a0) := by
  refine ct_ofI rfl rfl (Nat.le_of_ble_eq_true rfl) (fun X C E hini => ?_)
  have hs0 := C.2.2.2.2.2.2 rfl
  have hlt0 : a0 < zn Z := zk_lt C.ok k0 (by decide)
  have hn0 : ∀ i, a0 ≠ zn Z + i := fun i => by omega
  have hn1 : a0 ≠ zn Z := by omega
  have hn4 : ∀ i, a0 < zn Z + i := fun i => by omega
  have hn2 : ∀ i, zn Z + i ≠ a0 := fun i => by omega
  have hn3 : zn Z ≠ a0 := by omega
  have C0 := cx_zx (L := []) C (by show zn Z + 0 ≤ 1000; omega)
  have E2 := E.2
  show G Z X 1 0 0 0 [(0, .ref (za Z a0))] [] μ
  refine g_zin C.ok ?_
  refine g_aload_n C0 (i := 0) 0 rfl rfl (dk kX2_init 0 rfl) ?_
  refine g_objI C0 E2 wd_1_144 wd_1_30 wd_1_31 (by decide) (Nat.le_of_ble_eq_true rfl) (dk kX2_init 1 rfl) ?_
  refine g_aload_n C0 (i := 0) 0 rfl rfl (dk kX2_init 2 rfl) ?_
  refine g_iconst C0 (v := (-1)) (by decide) (dk kX2_init 3 rfl) ?_
  obtain ⟨μ1, eμ1⟩ : ∃ x : Mm, x = sI μ a0 0 (-1) := ⟨_, rfl⟩
  refine pI_1_0 C0 (zx_o1 C.ok k0 (by decide)) (C0.w wd_1_145) eμ1 (dk kX2_init 4 rfl) ?_
  refine g_aload_n C0 (i := 0) 0 rfl rfl (dk kX2_init 5 rfl) ?_
  refine g_iconst C0 (v := (-1)) (by decide) (dk kX2_init 6 rfl) ?_
  obtain ⟨μ2, eμ2⟩ : ∃ x : Mm, x = sI μ1 a0 1 (-1) := ⟨_, rfl⟩
  refine pI_1_1 C0 (zx_o1 C.ok k0 (by decide)) (C0.w wd_1_147) eμ2 (dk kX2_init 7 rfl) ?_
  subst_vars
  exact g_vretZ C E (Nat.le_of_ble_eq_true rfl) (Nat.le_of_ble_eq_true rfl) (dk kX2_init 8 rfl)

theorem fr_X2_init {n b : Nat} {μ : Mm} {k : Nat} (h1 : k ≠ b) (h2 : k < n) : (i_X2_init n μ b).2.1 k = μ.2.1 k := by
  have h3 : ∀ i, k ≠ n + i := fun i => by omega
  have h4 : k ≠ n := by omega
  have h5 : ∀ i, k < n + i := fun i => by omega
  funext j
  simp [i_X2_init, sR, sI, sIr, nwM, up2, upR, h1, h2, h3, h4, h5]

def qX3_init : List (Nat × Instr × Nat) := [(0, .aload_n 0, 1), (1, .invokespecial 3, 3), (4, .aload_n 0, 1), (5, .bipush 12, 2), (7, .putfield 9, 3), (10, .aload_n 0, 1), (11, .bipush 24, 2), (13, .newarray .int, 2), (15, .putfield 15, 3), (18, .aload_n 0, 1), (19, .bipush 24, 2), (21, .newarray .int, 2), (23, .putfield 19, 3), (26, .aload_n 0, 1), (27, .bipush 24, 2), (29, .newarray .int, 2), (31, .putfield 22, 3), (34, .return_, 1)]
theorem kX3_init : ∀ q ∈ qX3_init, decode cX3_init q.1 = .ok q.2 := by decide +kernel
def i_X3_init (n : Nat) (μ : Mm) (a0 : Nat) : Mm :=
  let μ1 : Mm := sI μ a0 0 12
  let μ2 : Mm := nwM μ1 (n + 0)
  let μ3 : Mm := sR μ2 a0 2 (some (n + 0))
  let μ4 : Mm := nwM μ3 (n + 1)
  let μ5 : Mm := sR μ4 a0 3 (some (n + 1))
  let μ6 : Mm := nwM μ5 (n + 2)
  let μ7 : Mm := sR μ6 a0 4 (some (n + 2))
  μ7
set_option maxRecDepth 100000 in
set_option maxHeartbeats 8000000 in
theorem ct_X3_init {l : Launch} {Z : ZZ} {μ : Mm} {a0 : Nat} (k0 : (zk Z a0).1 = 2) (h1000 : zn Z + 3 ≤ 1000) : CtM l Z true yX3_init cX3_init 1 none 1 3 72 [.ref (za Z a0)] μ none (zx Z [(8, 24), (8, 24), (8, 24)]) (i_X3_init (zn Z) μ a0) := by
  refine ct_ofI rfl rfl (Nat.le_of_ble_eq_true rfl) (fun X C E hini => ?_)
  have hs0 := C.2.2.2.2.2.2 rfl
  have hlt0 : a0 < zn Z := zk_lt C.ok k0 (by decide)
  have hn0 : ∀ i, a0 ≠ zn Z + i := fun i => by omega
  have hn1 : a0 ≠ zn Z := by omega
  have hn4 : ∀ i, a0 < zn Z + i := fun i => by omega
  have hn2 : ∀ i, zn Z + i ≠ a0 := fun i => by omega
  have hn3 : zn Z ≠ a0 := by omega
  have C0 := cx_zx (L := []) C (by show zn Z + 0 ≤ 1000; omega)
  have E2 := E.2
  show G Z X 1 0 0 0 [(0, .ref (za Z a0))] [] μ
  refine g_zin C.ok ?_
  refine g_aload_n C0 (i := 0) 0 rfl rfl (dk kX3_init 0 rfl) ?_
  refine g_objI C0 E2 wd_1_71 wd_1_30 wd_1_31 (by decide) (Nat.le_of_ble_eq_true rfl) (dk kX3_init 1 rfl) ?_
  refine g_aload_n C0 (i := 0) 0 rfl rfl (dk kX3_init 2 rfl) ?_
  refine g_bipush C0 (v := 12) (by decide) (dk kX3_init 3 rfl) ?_
  obtain ⟨μ1, eμ1⟩ : ∃ x : Mm, x = sI μ a0 0 12 := ⟨_, rfl⟩
  refine pI_2_0 C0 (zx_o1 C.ok k0 (by decide)) (C0.w wd_1_72) eμ1 (dk kX3_init 4 rfl) ?_
  refine g_aload_n C0 (i := 0) 0 rfl rfl (dk kX3_init 5 rfl) ?_
  refine g_bipush C0 (v := 24) (by decide) (dk kX3_init 6 rfl) ?_
  refine g_newI C0 E2 (by show (xs X).heap.size + _ = zb Z + (zn Z + 0); omega) (by show zn Z + 0 < 1000; omega) 24 wd_1_63 (by decide) (by decide) (by decide) ⟨Nat.le_of_ble_eq_true rfl, Nat.le_of_ble_eq_true rfl⟩ (dk kX3_init 7 rfl) ?_
  obtain ⟨μ2, eμ2⟩ : ∃ x : Mm, x = nwM μ1 (zn Z + 0) := ⟨_, rfl⟩
  refine g_eq eμ2 ?_
  refine g_zeq (show _ = zx Z [(8, 24)] from zx_zx) ?_
  have C1 := cx_zx (L := [(8, 24)]) C (by show zn Z + 1 ≤ 1000; omega)
  obtain ⟨μ3, eμ3⟩ : ∃ x : Mm, x = sR μ2 a0 2 (some (zn Z + 0)) := ⟨_, rfl⟩
  refine pF_2_2 C1 (zx_o1 C.ok k0 (by decide)) (C1.w wd_1_77) hini rfl eμ3 (dk kX3_init 8 rfl) ?_
  refine g_aload_n C1 (i := 0) 0 rfl rfl (dk kX3_init 9 rfl) ?_
  refine g_bipush C1 (v := 24) (by decide) (dk kX3_init 10 rfl) ?_
  refine g_newI C1 E2 (by show (xs X).heap.size + _ = zb Z + (zn Z + 1); omega) (by show zn Z + 1 < 1000; omega) 24 wd_1_63 (by decide) (by decide) (by decide) ⟨Nat.le_of_ble_eq_true rfl, Nat.le_of_ble_eq_true rfl⟩ (dk kX3_init 11 rfl) ?_
  obtain ⟨μ4, eμ4⟩ : ∃ x : Mm, x = nwM μ3 (zn Z + 1) := ⟨_, rfl⟩
  refine g_eq eμ4 ?_
  refine g_zeq (show _ = zx Z [(8, 24), (8, 24)] from zx_zx) ?_
  have C2 := cx_zx (L := [(8, 24), (8, 24)]) C (by show zn Z + 2 ≤ 1000; omega)
  obtain ⟨μ5, eμ5⟩ : ∃ x : Mm, x = sR μ4 a0 3 (some (zn Z + 1)) := ⟨_, rfl⟩
  refine pF_2_3 C2 (zx_o1 C.ok k0 (by decide)) (C2.w wd_1_79) hini rfl eμ5 (dk kX3_init 12 rfl) ?_
  refine g_aload_n C2 (i := 0) 0 rfl rfl (dk kX3_init 13 rfl) ?_
  refine g_bipush C2 (v := 24) (by decide) (dk kX3_init 14 rfl) ?_
  refine g_newI C2 E2 (by show (xs X).heap.size + _ = zb Z + (zn Z + 2); omega) (by show zn Z + 2 < 1000; omega) 24 wd_1_63 (by decide) (by decide) (by decide) ⟨Nat.le_of_ble_eq_true rfl, Nat.le_of_ble_eq_true rfl⟩ (dk kX3_init 15 rfl) ?_
  obtain ⟨μ6, eμ6⟩ : ∃ x : Mm, x = nwM μ5 (zn Z + 2) := ⟨_, rfl⟩
  refine g_eq eμ6 ?_
  refine g_zeq (show _ = zx Z [(8, 24), (8, 24), (8, 24)] from zx_zx) ?_
  have C3 := cx_zx (L := [(8, 24), (8, 24), (8, 24)]) C (by show zn Z + 3 ≤ 1000; omega)
  obtain ⟨μ7, eμ7⟩ : ∃ x : Mm, x = sR μ6 a0 4 (some (zn Z + 2)) := ⟨_, rfl⟩
  refine pF_2_4 C3 (zx_o1 C.ok k0 (by decide)) (C3.w wd_1_81) hini rfl eμ7 (dk kX3_init 16 rfl) ?_
  subst_vars
  exact g_vretZ C E (Nat.le_of_ble_eq_true rfl) (Nat.le_of_ble_eq_true rfl) (dk kX3_init 17 rfl)

theorem fr_X3_init {n b : Nat} {μ : Mm} {k : Nat} (h1 : k ≠ b) (h2 : k < n) : (i_X3_init n μ b).2.1 k = μ.2.1 k := by
  have h3 : ∀ i, k ≠ n + i := fun i => by omega
  have h4 : k ≠ n := by omega
  have h5 : ∀ i, k < n + i := fun i => by omega
  funext j
  simp [i_X3_init, sR, sI, sIr, nwM, up2, upR, h1, h2, h3, h4, h5, fr_X2_init]

def qX4_init : List (Nat × Instr × Nat) := [(0, .aload_n 0, 1), (1, .invokespecial 3, 3), (4, .aload_n 0, 1), (5, .iconst 1, 1), (6, .putfield 9, 3), (9, .aload_n 0, 1), (10, .iconst 1, 1), (11, .putfield 15, 3), (14, .aload_n 0, 1), (15, .bipush 6, 2), (17, .newarray .int, 2), (19, .putfield 18, 3), (22, .return_, 1)]
theorem kX4_init : ∀ q ∈ qX4_init, decode cX4_init q.1 = .ok q.2 := by decide +kernel
def i_X4_init (n : Nat) (μ : Mm) (a0 : Nat) : Mm :=
  let μ1 : Mm := sI μ a0 0 1
  let μ2 : Mm := sI μ1 a0 1 1
  let μ3 : Mm := nwM μ2 (n + 0)
  let μ4 : Mm := sR μ3 a0 4 (some (n + 0))
  μ4
set_option maxRecDepth 100000 in
set_option maxHeartbeats 8000000 in
theorem ct_X4_init {l : Launch} {Z : ZZ} {μ : Mm} {a0 : Nat} (k0 : (zk Z a0).1 = 3) (h1000 : zn Z + 1 ≤ 1000) : CtM l Z true yX4_init cX4_init 1 none 1 1 6 [.ref (za Z a0)] μ none (zx Z [(8, 6)]) (i_X4_init (zn Z) μ a0) := by
  refine ct_ofI rfl rfl (Nat.le_of_ble_eq_true rfl) (fun X C E hini => ?_)
  have hs0 := C.2.2.2.2.2.2 rfl
  have hlt0 : a0 < zn Z := zk_lt C.ok k0 (by decide)
  have hn0 : ∀ i, a0 ≠ zn Z + i := fun i => by omega
  have hn1 : a0 ≠ zn Z := by omega
  have hn4 : ∀ i, a0 < zn Z + i := fun i => by omega
  have hn2 : ∀ i, zn Z + i ≠ a0 := fun i => by omega
  have hn3 : zn Z ≠ a0 := by omega
  have C0 := cx_zx (L := []) C (by show zn Z + 0 ≤ 1000; omega)
  have E2 := E.2
  show G Z X 1 0 0 0 [(0, .ref (za Z a0))] [] μ
  refine g_zin C.ok ?_
  refine g_aload_n C0 (i := 0) 0 rfl rfl (dk kX4_init 0 rfl) ?_
  refine g_objI C0 E2 wd_1_114 wd_1_30 wd_1_31 (by decide) (Nat.le_of_ble_eq_true rfl) (dk kX4_init 1 rfl) ?_
  refine g_aload_n C0 (i := 0) 0 rfl rfl (dk kX4_init 2 rfl) ?_
  refine g_iconst C0 (v := 1) (by decide) (dk kX4_init 3 rfl) ?_
  obtain ⟨μ1, eμ1⟩ : ∃ x : Mm, x = sI μ a0 0 1 := ⟨_, rfl⟩
  refine pI_3_0 C0 (zx_o1 C.ok k0 (by decide)) (C0.w wd_1_115) eμ1 (dk kX4_init 4 rfl) ?_
  refine g_aload_n C0 (i := 0) 0 rfl rfl (dk kX4_init 5 rfl) ?_
  refine g_iconst C0 (v := 1) (by decide) (dk kX4_init 6 rfl) ?_
  obtain ⟨μ2, eμ2⟩ : ∃ x : Mm, x = sI μ1 a0 1 1 := ⟨_, rfl⟩
  refine pI_3_1 C0 (zx_o1 C.ok k0 (by decide)) (C0.w wd_1_118) eμ2 (dk kX4_init 7 rfl) ?_
  refine g_aload_n C0 (i := 0) 0 rfl rfl (dk kX4_init 8 rfl) ?_
  refine g_bipush C0 (v := 6) (by decide) (dk kX4_init 9 rfl) ?_
  refine g_newI C0 E2 (by show (xs X).heap.size + _ = zb Z + (zn Z + 0); omega) (by show zn Z + 0 < 1000; omega) 6 wd_1_63 (by decide) (by decide) (by decide) ⟨Nat.le_of_ble_eq_true rfl, Nat.le_of_ble_eq_true rfl⟩ (dk kX4_init 10 rfl) ?_
  obtain ⟨μ3, eμ3⟩ : ∃ x : Mm, x = nwM μ2 (zn Z + 0) := ⟨_, rfl⟩
  refine g_eq eμ3 ?_
  refine g_zeq (show _ = zx Z [(8, 6)] from zx_zx) ?_
  have C1 := cx_zx (L := [(8, 6)]) C (by show zn Z + 1 ≤ 1000; omega)
  obtain ⟨μ4, eμ4⟩ : ∃ x : Mm, x = sR μ3 a0 4 (some (zn Z + 0)) := ⟨_, rfl⟩
  refine pF_3_4 C1 (zx_o1 C.ok k0 (by decide)) (C1.w wd_1_125) hini rfl eμ4 (dk kX4_init 11 rfl) ?_
  subst_vars
  exact g_vretZ C E (Nat.le_of_ble_eq_true rfl) (Nat.le_of_ble_eq_true rfl) (dk kX4_init 12 rfl)

theorem fr_X4_init {n b : Nat} {μ : Mm} {k : Nat} (h1 : k ≠ b) (h2 : k < n) : (i_X4_init n μ b).2.1 k = μ.2.1 k := by
  have h3 : ∀ i, k ≠ n + i := fun i => by omega
  have h4 : k ≠ n := by omega
  have h5 : ∀ i, k < n + i := fun i => by omega
  funext j
  simp [i_X4_init, sR, sI, sIr, nwM, up2, upR, h1, h2, h3, h4, h5, fr_X2_init, fr_X3_init]

def qX1_init : List (Nat × Instr × Nat) := [(0, .aload_n 0, 1), (1, .invokespecial 3, 3), (4, .aload_n 0, 1), (5, .sipush 150, 3), (8, .newarray .char, 2), (10, .putfield 9, 3), (13, .aload_n 0, 1), (14, .iconst (-1), 1), (15, .putfield 15, 3), (18, .aload_n 0, 1), (19, .getstatic 19, 3), (22, .putfield 25, 3), (25, .aload_n 0, 1), (26, .iconst 3, 1), (27, .newarray .int, 2), (29, .putfield 28, 3), (32, .return_, 1)]
theorem kX1_init : ∀ q ∈ qX1_init, decode cX1_init q.1 = .ok q.2 := by decide +kernel
def i_X1_init (n : Nat) (μ : Mm) (a0 : Nat) : Mm :=
  let μ1 : Mm := nwM μ (n + 0)
  let μ2 : Mm := sR μ1 a0 0 (some (n + 0))
  let μ3 : Mm := sI μ2 a0 3 (-1)
  let μ4 : Mm := sR μ3 a0 4 (some 2000)
  let μ5 : Mm := nwM μ4 (n + 1)
  let μ6 : Mm := sR μ5 a0 5 (some (n + 1))
  μ6
set_option maxRecDepth 100000 in
set_option maxHeartbeats 8000000 in
theorem ct_X1_init {l : Launch} {Z : ZZ} {μ : Mm} {a0 : Nat} (k0 : (zk Z a0).1 = 0) (h1000 : zn Z + 2 ≤ 1000) : CtM l Z true yX1_init cX1_init 1 none 1 2 153 [.ref (za Z a0)] μ none (zx Z [(7, 150), (8, 3)]) (i_X1_init (zn Z) μ a0) := by
  refine ct_ofI rfl rfl (Nat.le_of_ble_eq_true rfl) (fun X C E hini => ?_)
  have hs0 := C.2.2.2.2.2.2 rfl
  have hlt0 : a0 < zn Z := zk_lt C.ok k0 (by decide)
  have hn0 : ∀ i, a0 ≠ zn Z + i := fun i => by omega
  have hn1 : a0 ≠ zn Z := by omega
  have hn4 : ∀ i, a0 < zn Z + i := fun i => by omega
  have hn2 : ∀ i, zn Z + i ≠ a0 := fun i => by omega
  have hn3 : zn Z ≠ a0 := by omega
  have C0 := cx_zx (L := []) C (by show zn Z + 0 ≤ 1000; omega)
  have E2 := E.2
  show G Z X 1 0 0 0 [(0, .ref (za Z a0))] [] μ
  refine g_zin C.ok ?_
  refine g_aload_n C0 (i := 0) 0 rfl rfl (dk kX1_init 0 rfl) ?_
  refine g_objI C0 E2 wd_1_37 wd_1_30 wd_1_31 (by decide) (Nat.le_of_ble_eq_true rfl) (dk kX1_init 1 rfl) ?_
  refine g_aload_n C0 (i := 0) 0 rfl rfl (dk kX1_init 2 rfl) ?_
  refine g_sipush C0 (v := 150) (by decide) (dk kX1_init 3 rfl) ?_
  refine g_newC C0 E2 (by show (xs X).heap.size + _ = zb Z + (zn Z + 0); omega) (by show zn Z + 0 < 1000; omega) 150 wd_1_62 (by decide) (by decide) (by decide) ⟨Nat.le_of_ble_eq_true rfl, Nat.le_of_ble_eq_true rfl⟩ (dk kX1_init 4 rfl) ?_
  obtain ⟨μ1, eμ1⟩ : ∃ x : Mm, x = nwM μ (zn Z + 0) := ⟨_, rfl⟩
  refine g_eq eμ1 ?_
  refine g_zeq (show _ = zx Z [(7, 150)] from zx_zx) ?_
  have C1 := cx_zx (L := [(7, 150)]) C (by show zn Z + 1 ≤ 1000; omega)
  obtain ⟨μ2, eμ2⟩ : ∃ x : Mm, x = sR μ1 a0 0 (some (zn Z + 0)) := ⟨_, rfl⟩
  refine pF_0_0 C1 (zx_o1 C.ok k0 (by decide)) (C1.w wd_1_40) hini rfl eμ2 (dk kX1_init 5 rfl) ?_
  refine g_aload_n C1 (i := 0) 0 rfl rfl (dk kX1_init 6 rfl) ?_
  refine g_iconst C1 (v := (-1)) (by decide) (dk kX1_init 7 rfl) ?_
  obtain ⟨μ3, eμ3⟩ : ∃ x : Mm, x = sI μ2 a0 3 (-1) := ⟨_, rfl⟩
  refine pI_0_3 C1 (zx_o1 C.ok k0 (by decide)) (C1.w wd_1_44) eμ3 (dk kX1_init 8 rfl) ?_
  refine g_aload_n C1 (i := 0) 0 rfl rfl (dk kX1_init 9 rfl) ?_
  refine g_gsH C1 (C1.w wd_1_38) (dk kX1_init 10 rfl) ?_
  obtain ⟨μ4, eμ4⟩ : ∃ x : Mm, x = sR μ3 a0 4 (some 2000) := ⟨_, rfl⟩
  refine pR_0_4 C1 (zx_o1 C.ok k0 (by decide)) (C1.w wd_1_45) eμ4 (dk kX1_init 11 rfl) ?_
  refine g_aload_n C1 (i := 0) 0 rfl rfl (dk kX1_init 12 rfl) ?_
  refine g_iconst C1 (v := 3) (by decide) (dk kX1_init 13 rfl) ?_
  refine g_newI C1 E2 (by show (xs X).heap.size + _ = zb Z + (zn Z + 1); omega) (by show zn Z + 1 < 1000; omega) 3 wd_1_63 (by decide) (by decide) (by decide) ⟨Nat.le_of_ble_eq_true rfl, Nat.le_of_ble_eq_true rfl⟩ (dk kX1_init 14 rfl) ?_
  obtain ⟨μ5, eμ5⟩ : ∃ x : Mm, x = nwM μ4 (zn Z + 1) := ⟨_, rfl⟩
  refine g_eq eμ5 ?_
  refine g_zeq (show _ = zx Z [(7, 150), (8, 3)] from zx_zx) ?_
  have C2 := cx_zx (L := [(7, 150), (8, 3)]) C (by show zn Z + 2 ≤ 1000; omega)
  obtain ⟨μ6, eμ6⟩ : ∃ x : Mm, x = sR μ5 a0 5 (some (zn Z + 1)) := ⟨_, rfl⟩
  refine pF_0_5 C2 (zx_o1 C.ok k0 (by decide)) (C2.w wd_1_47) hini rfl eμ6 (dk kX1_init 15 rfl) ?_
  subst_vars
  exact g_vretZ C E (Nat.le_of_ble_eq_true rfl) (Nat.le_of_ble_eq_true rfl) (dk kX1_init 16 rfl)

theorem fr_X1_init {n b : Nat} {μ : Mm} {k : Nat} (h1 : k ≠ b) (h2 : k < n) : (i_X1_init n μ b).2.1 k = μ.2.1 k := by
  have h3 : ∀ i, k ≠ n + i := fun i => by omega
  have h4 : k ≠ n := by omega
  have h5 : ∀ i, k < n + i := fun i => by omega
  funext j
  simp [i_X1_init, sR, sI, sIr, nwM, up2, upR, h1, h2, h3, h4, h5, fr_X2_init, fr_X3_init, fr_X4_init]

def qX5_init : List (Nat × Instr × Nat) := [(0, .aload_n 0, 1), (1, .invokespecial 3, 3), (4, .aload_n 0, 1), (5, .new 9, 3), (8, .dup, 1), (9, .invokespecial 11, 3), (12, .putfield 12, 3), (15, .aload_n 0, 1), (16, .bipush 7, 2), (18, .newarray .int, 2), (20, .putfield 18, 3), (23, .aload_n 0, 1), (24, .bipush 6, 2), (26, .anewarray 22, 3), (29, .putfield 24, 3), (32, .aload_n 0, 1), (33, .bipush 6, 2), (35, .anewarray 28, 3), (38, .putfield 30, 3), (41, .aload_n 0, 1), (42, .aload_n 1, 1), (43, .putfield 34, 3), (46, .getstatic 37, 3), (49, .iconst 0, 1), (50, .aload_n 0, 1), (51, .getfield 18, 3), (54, .iconst 0, 1), (55, .bipush 7, 2), (57, .invokestatic 40, 3), (60, .iconst 0, 1), (61, .istore_n 2, 1), (62, .iload_n 2, 1), (63, .bipush 6, 2), (65, .if_icmp .ge 22, 3), (68, .aload_n 0, 1), (69, .getfield 24, 3), (72, .iload_n 2, 1), (73, .new 22, 3), (76, .dup, 1), (77, .invokespecial 46, 3), (80, .aastore, 1), (81, .iinc 2 1, 3), (84, .goto (-22), 3), (87, .iconst 0, 1), (88, .istore_n 2, 1), (89, .iload_n 2, 1), (90, .bipush 6, 2), (92, .if_icmp .ge 22, 3), (95, .aload_n 0, 1), (96, .getfield 30, 3), (99, .iload_n 2, 1), (100, .new 28, 3), (103, .dup, 1), (104, .invokespecial 47, 3), (107, .aastore, 1), (108, .iinc 2 1, 3), (111, .goto (-22), 3), (114, .return_, 1)]
theorem kX5_init : ∀ q ∈ qX5_init, decode cX5_init q.1 = .ok q.2 := by decide +kernel
def i_X5_init (n : Nat) (μ : Mm) (a0 : Nat) (a1 : Nat) : Mm :=
  let μ1 : Mm := nwM μ (n + 0)
  let μ2 : Mm := i_X3_init (n + 1) μ1 (n + 0)
  let μ3 : Mm := sR μ2 a0 0 (some (n + 0))
  let μ4 : Mm := nwM μ3 (n + 4)
  let μ5 : Mm := sR μ4 a0 2 (some (n + 4))
  let μ6 : Mm := nwM μ5 (n + 5)
  let μ7 : Mm := sR μ6 a0 3 (some (n + 5))
  let μ8 : Mm := nwM μ7 (n + 6)
  let μ9 : Mm := sR μ8 a0 5 (some (n + 6))
  let μ10 : Mm := sR μ9 a0 1 (some a1)
  let μ11 : Mm := sIr μ10 (n + 4) (va_cpy (fun j => (sA 2).getD j 0) (μ10.1 (n + 4)) (ix 0) (ix 0) (ix 7))
  let μ12 : Mm := nwM μ11 (n + 7)
  let μ13 : Mm := i_X4_init (n + 8) μ12 (n + 7)
  let μ14 : Mm := sR μ13 (n + 5) (ix 0) (some (n + 7))
  let μ15 : Mm := nwM μ14 (n + 9)
  let μ16 : Mm := i_X4_init (n + 10) μ15 (n + 9)
  let μ17 : Mm := sR μ16 (n + 5) (ix 1) (some (n + 9))
  let μ18 : Mm := nwM μ17 (n + 11)
  let μ19 : Mm := i_X4_init (n + 12) μ18 (n + 11)
  let μ20 : Mm := sR μ19 (n + 5) (ix 2) (some (n + 11))
  let μ21 : Mm := nwM μ20 (n + 13)
  let μ22 : Mm := i_X4_init (n + 14) μ21 (n + 13)
  let μ23 : Mm := sR μ22 (n + 5) (ix 3) (some (n + 13))
  let μ24 : Mm := nwM μ23 (n + 15)
  let μ25 : Mm := i_X4_init (n + 16) μ24 (n + 15)
  let μ26 : Mm := sR μ25 (n + 5) (ix 4) (some (n + 15))
  let μ27 : Mm := nwM μ26 (n + 17)
  let μ28 : Mm := i_X4_init (n + 18) μ27 (n + 17)
  let μ29 : Mm := sR μ28 (n + 5) (ix 5) (some (n + 17))
  let μ30 : Mm := nwM μ29 (n + 19)
  let μ31 : Mm := i_X2_init (n + 20) μ30 (n + 19)
  let μ32 : Mm := sR μ31 (n + 6) (ix 0) (some (n + 19))
  let μ33 : Mm := nwM μ32 (n + 20)
  let μ34 : Mm := i_X2_init (n + 21) μ33 (n + 20)
  let μ35 : Mm := sR μ34 (n + 6) (ix 1) (some (n + 20))
  let μ36 : Mm := nwM μ35 (n + 21)
  let μ37 : Mm := i_X2_init (n + 22) μ36 (n + 21)
  let μ38 : Mm := sR μ37 (n + 6) (ix 2) (some (n + 21))
  let μ39 : Mm := nwM μ38 (n + 22)
  let μ40 : Mm := i_X2_init (n + 23) μ39 (n + 22)
  let μ41 : Mm := sR μ40 (n + 6) (ix 3) (some (n + 22))
  let μ42 : Mm := nwM μ41 (n + 23)
  let μ43 : Mm := i_X2_init (n + 24) μ42 (n + 23)
  let μ44 : Mm := sR μ43 (n + 6) (ix 4) (some (n + 23))
  let μ45 : Mm := nwM μ44 (n + 24)
  let μ46 : Mm := i_X2_init (n + 25) μ45 (n + 24)
  let μ47 : Mm := sR μ46 (n + 6) (ix 5) (some (n + 24))
  μ47
set_option maxRecDepth 100000 in
set_option maxHeartbeats 8000000 in
theorem ct_X5_init {l : Launch} {Z : ZZ} {μ : Mm} {a0 : Nat} {a1 : Nat} (k0 : (zk Z a0).1 = 4) (k1 : (zk Z a1).1 = 2) (h1000 : zn Z + 25 ≤ 1000) : CtM l Z true yX5_init cX5_init 3 none 2 25 198 [.ref (za Z a0), .ref (za Z a1)] μ none (zx Z [(2, 0), (8, 24), (8, 24), (8, 24), (8, 7), (10, 6), (9, 6), (3, 0), (8, 6), (3, 0), (8, 6), (3, 0), (8, 6), (3, 0), (8, 6), (3, 0), (8, 6), (3, 0), (8, 6), (1, 0), (1, 0), (1, 0), (1, 0), (1, 0), (1, 0)]) (i_X5_init (zn Z) μ a0 a1) := by
  refine ct_ofI rfl rfl (Nat.le_of_ble_eq_true rfl) (fun X C E hini => ?_)
  have hs0 := C.2.2.2.2.2.2 rfl
  have hlt0 : a0 < zn Z := zk_lt C.ok k0 (by decide)
  have hn0 : ∀ i, a0 ≠ zn Z + i := fun i => by omega
  have hn1 : a0 ≠ zn Z := by omega
  have hn4 : ∀ i, a0 < zn Z + i := fun i => by omega
  have hn2 : ∀ i, zn Z + i ≠ a0 := fun i => by omega
  have hn3 : zn Z ≠ a0 := by omega
  have C0 := cx_zx (L := []) C (by show zn Z + 0 ≤ 1000; omega)
  have E2 := E.2
  show G Z X 3 0 0 0 [(0, .ref (za Z a0)), (1, .ref (za Z a1))] [] μ
  refine g_zin C.ok ?_
  refine g_aload_n C0 (i := 0) 0 rfl rfl (dk kX5_init 0 rfl) ?_
  refine g_objI C0 E2 wd_1_98 wd_1_30 wd_1_31 (by decide) (Nat.le_of_ble_eq_true rfl) (dk kX5_init 1 rfl) ?_
  refine g_aload_n C0 (i := 0) 0 rfl rfl (dk kX5_init 2 rfl) ?_
  refine g_new C0 E2 (by show (xs X).heap.size + _ = zb Z + (zn Z + 0); omega) (by show zn Z + 0 < 1000; omega) (c := 2) inTX3 tyX3_ok rfl (by decide) wd_1_99 wd_1_67 wd_1_5 ob_2 ⟨Nat.le_of_ble_eq_true rfl, Nat.le_of_ble_eq_true rfl⟩ (dk kX5_init 3 rfl) ?_
  obtain ⟨μ1, eμ1⟩ : ∃ x : Mm, x = nwM μ (zn Z + 0) := ⟨_, rfl⟩
  refine g_eq eμ1 ?_
  refine g_zeq (show _ = zx Z [(2, 0)] from zx_zx) ?_
  have C1 := cx_zx (L := [(2, 0)]) C (by show zn Z + 1 ≤ 1000; omega)
  refine g_dup C1 rfl (dk kX5_init 4 rfl) ?_
  refine g_callIN C1 E2 (by show (xs X).heap.size + _ = zb Z + (zn Z + 1); omega) (rest := [.ref (za Z (zn Z + 0)), .ref (za Z a0)]) (host := "WornDots") 0 (ct_X3_init (zx_k1 (L := [(2, 0)]) 0 rfl) (by show zn Z + 1 + 3 ≤ 1000; omega)) (C1.nw.2.1 ("WornDots$State", 11, yX3_init, "WornDots") (List.mem_of_getElem? (i := 2) rfl)) wd_1_69 wd_1_5 wd_1_70 rfl ⟨by decide, by decide, by decide⟩ rfl (by decide) rfl (Nat.le_of_ble_eq_true rfl) ⟨Nat.le_of_ble_eq_true rfl, Nat.le_of_ble_eq_true rfl⟩ (dk kX5_init 5 rfl) ?_
  obtain ⟨μ2, eμ2⟩ : ∃ x : Mm, x = i_X3_init (zn Z + 1) μ1 (zn Z + 0) := ⟨_, rfl⟩
  refine g_eq eμ2 ?_
  refine g_zeq (show _ = zx Z [(2, 0), (8, 24), (8, 24), (8, 24)] from zx_zx) ?_
  have C4 := cx_zx (L := [(2, 0), (8, 24), (8, 24), (8, 24)]) C (by show zn Z + 4 ≤ 1000; omega)
  obtain ⟨μ3, eμ3⟩ : ∃ x : Mm, x = sR μ2 a0 0 (some (zn Z + 0)) := ⟨_, rfl⟩
  refine pF_4_0 C4 (zx_o1 C.ok k0 (by decide)) (C4.w wd_1_170) hini rfl eμ3 (dk kX5_init 6 rfl) ?_
  refine g_aload_n C4 (i := 0) 0 rfl rfl (dk kX5_init 7 rfl) ?_
  refine g_bipush C4 (v := 7) (by decide) (dk kX5_init 8 rfl) ?_
  refine g_newI C4 E2 (by show (xs X).heap.size + _ = zb Z + (zn Z + 4); omega) (by show zn Z + 4 < 1000; omega) 7 wd_1_63 (by decide) (by decide) (by decide) ⟨Nat.le_of_ble_eq_true rfl, Nat.le_of_ble_eq_true rfl⟩ (dk kX5_init 9 rfl) ?_
  obtain ⟨μ4, eμ4⟩ : ∃ x : Mm, x = nwM μ3 (zn Z + 4) := ⟨_, rfl⟩
  refine g_eq eμ4 ?_
  refine g_zeq (show _ = zx Z [(2, 0), (8, 24), (8, 24), (8, 24), (8, 7)] from zx_zx) ?_
  have C5 := cx_zx (L := [(2, 0), (8, 24), (8, 24), (8, 24), (8, 7)]) C (by show zn Z + 5 ≤ 1000; omega)
  obtain ⟨μ5, eμ5⟩ : ∃ x : Mm, x = sR μ4 a0 2 (some (zn Z + 4)) := ⟨_, rfl⟩
  refine pF_4_2 C5 (zx_o1 C.ok k0 (by decide)) (C5.w wd_1_173) hini rfl eμ5 (dk kX5_init 10 rfl) ?_
  refine g_aload_n C5 (i := 0) 0 rfl rfl (dk kX5_init 11 rfl) ?_
  refine g_bipush C5 (v := 6) (by decide) (dk kX5_init 12 rfl) ?_
  refine g_newR C5 E2 (by show (xs X).heap.size + _ = zb Z + (zn Z + 5); omega) (by show zn Z + 5 < 1000; omega) 6 (CN := "WornDots$Label") 10 3 rfl (by decide) (by decide) rfl wd_1_101 (C5.nw.2.2.2.2.2.2 "WornDots$Label" (List.mem_of_getElem? (i := 1) rfl)) (by decide) (by decide) (by decide) ⟨Nat.le_of_ble_eq_true rfl, Nat.le_of_ble_eq_true rfl⟩ (dk kX5_init 13 rfl) ?_
  obtain ⟨μ6, eμ6⟩ : ∃ x : Mm, x = nwM μ5 (zn Z + 5) := ⟨_, rfl⟩
  refine g_eq eμ6 ?_
  refine g_zeq (show _ = zx Z [(2, 0), (8, 24), (8, 24), (8, 24), (8, 7), (10, 6)] from zx_zx) ?_
  have C6 := cx_zx (L := [(2, 0), (8, 24), (8, 24), (8, 24), (8, 7), (10, 6)]) C (by show zn Z + 6 ≤ 1000; omega)
  obtain ⟨μ7, eμ7⟩ : ∃ x : Mm, x = sR μ6 a0 3 (some (zn Z + 5)) := ⟨_, rfl⟩
  refine pF_4_3 C6 (zx_o1 C.ok k0 (by decide)) (C6.w wd_1_174) hini rfl eμ7 (dk kX5_init 14 rfl) ?_
  refine g_aload_n C6 (i := 0) 0 rfl rfl (dk kX5_init 15 rfl) ?_
  refine g_bipush C6 (v := 6) (by decide) (dk kX5_init 16 rfl) ?_
  refine g_newR C6 E2 (by show (xs X).heap.size + _ = zb Z + (zn Z + 6); omega) (by show zn Z + 6 < 1000; omega) 6 (CN := "WornDots$Customer") 9 2 rfl (by decide) (by decide) rfl wd_1_103 (C6.nw.2.2.2.2.2.2 "WornDots$Customer" (List.mem_of_getElem? (i := 2) rfl)) (by decide) (by decide) (by decide) ⟨Nat.le_of_ble_eq_true rfl, Nat.le_of_ble_eq_true rfl⟩ (dk kX5_init 17 rfl) ?_
  obtain ⟨μ8, eμ8⟩ : ∃ x : Mm, x = nwM μ7 (zn Z + 6) := ⟨_, rfl⟩
  refine g_eq eμ8 ?_
  refine g_zeq (show _ = zx Z [(2, 0), (8, 24), (8, 24), (8, 24), (8, 7), (10, 6), (9, 6)] from zx_zx) ?_
  have C7 := cx_zx (L := [(2, 0), (8, 24), (8, 24), (8, 24), (8, 7), (10, 6), (9, 6)]) C (by show zn Z + 7 ≤ 1000; omega)
  obtain ⟨μ9, eμ9⟩ : ∃ x : Mm, x = sR μ8 a0 5 (some (zn Z + 6)) := ⟨_, rfl⟩
  refine pF_4_5 C7 (zx_o1 C.ok k0 (by decide)) (C7.w wd_1_178) hini rfl eμ9 (dk kX5_init 18 rfl) ?_
  refine g_aload_n C7 (i := 0) 0 rfl rfl (dk kX5_init 19 rfl) ?_
  refine g_aload_n C7 (i := 1) 1 rfl rfl (dk kX5_init 20 rfl) ?_
  obtain ⟨μ10, eμ10⟩ : ∃ x : Mm, x = sR μ9 a0 1 (some a1) := ⟨_, rfl⟩
  refine pF_4_1 C7 (zx_o1 C.ok k0 (by decide)) (C7.w wd_1_172) hini rfl eμ10 (dk kX5_init 21 rfl) ?_
  refine g_gsAN C7 2 (by decide) (nf_9 C7) (dk kX5_init 22 rfl) ?_
  refine g_iconst C7 (v := 0) (by decide) (dk kX5_init 23 rfl) ?_
  refine g_aload_n C7 (i := 0) 0 rfl rfl (dk kX5_init 24 rfl) ?_
  refine gR_4_2 C7 (zx_o1 C.ok k0 (by decide)) (C7.w wd_1_173) (r := (zn Z + 4)) (by simp [eμ10, eμ9, eμ8, eμ7, eμ6, eμ5, eμ4, eμ3, eμ2, eμ1, sR, sI, sIr, nwM, up2, upR, hn0, hn1, hn2, hn3, hn4, hlt0, fr_X2_init, fr_X3_init, fr_X4_init, fr_X1_init]) (dk kX5_init 25 rfl) ?_
  refine g_iconst C7 (v := 0) (by decide) (dk kX5_init 26 rfl) ?_
  refine g_bipush C7 (v := 7) (by decide) (dk kX5_init 27 rfl) ?_
  obtain ⟨μ11, eμ11⟩ : ∃ x : Mm, x = sIr μ10 (zn Z + 4) (va_cpy (fun j => (sA 2).getD j 0) (μ10.1 (zn Z + 4)) (ix 0) (ix 0) (ix 7)) := ⟨_, rfl⟩
  refine g_copyS C7 E2 2 (by decide) (zx_k1 (L := [(2, 0), (8, 24), (8, 24), (8, 24), (8, 7), (10, 6), (9, 6)]) 4 rfl) (by rw [(zx_k (L := [(2, 0), (8, 24), (8, 24), (8, 24), (8, 7), (10, 6), (9, 6)]) 4 rfl)]; decide) (by decide) (Nat.le_of_ble_eq_true rfl) (C7.w wd_1_107) (C7.w wd_1_109) (C7.w wd_1_108) (C7.w wd_1_7) eμ11 (dk kX5_init 28 rfl) ?_
  refine g_iconst C7 (v := 0) (by decide) (dk kX5_init 29 rfl) ?_
  refine g_istore_n C7 (i := 2) (lv' := [(2, .int 0), (0, .ref (za Z a0)), (1, .ref (za Z a1))]) (dk kX5_init 30 rfl) rfl (by decide) rfl ?_
  refine g_iload_n C7 (i := 2) 0 rfl rfl (dk kX5_init 31 rfl) ?_
  refine g_bipush C7 (v := 6) (by decide) (dk kX5_init 32 rfl) ?_
  refine g_icmp_ge C7 (tgt := 87) (dk kX5_init 33 rfl) (by decide) (fun c => absurd c (by decide)) (fun _ => ?_)
  refine g_aload_n C7 (i := 0) 1 rfl rfl (dk kX5_init 34 rfl) ?_
  refine gR_4_3 C7 (zx_o1 C.ok k0 (by decide)) (C7.w wd_1_174) (r := (zn Z + 5)) (by simp [eμ11, eμ10, eμ9, eμ8, eμ7, eμ6, eμ5, eμ4, eμ3, eμ2, eμ1, sR, sI, sIr, nwM, up2, upR, hn0, hn1, hn2, hn3, hn4, hlt0, fr_X2_init, fr_X3_init, fr_X4_init, fr_X1_init]) (dk kX5_init 35 rfl) ?_
  refine g_iload_n C7 (i := 2) 0 rfl rfl (dk kX5_init 36 rfl) ?_
  refine g_new C7 E2 (by show (xs X).heap.size + _ = zb Z + (zn Z + 7); omega) (by show zn Z + 7 < 1000; omega) (c := 3) inTX4 tyX4_ok rfl (by decide) wd_1_101 wd_1_110 wd_1_8 ob_3 ⟨Nat.le_of_ble_eq_true rfl, Nat.le_of_ble_eq_true rfl⟩ (dk kX5_init 37 rfl) ?_
  obtain ⟨μ12, eμ12⟩ : ∃ x : Mm, x = nwM μ11 (zn Z + 7) := ⟨_, rfl⟩
  refine g_eq eμ12 ?_
  refine g_zeq (show _ = zx Z [(2, 0), (8, 24), (8, 24), (8, 24), (8, 7), (10, 6), (9, 6), (3, 0)] from zx_zx) ?_
  have C8 := cx_zx (L := [(2, 0), (8, 24), (8, 24), (8, 24), (8, 7), (10, 6), (9, 6), (3, 0)]) C (by show zn Z + 8 ≤ 1000; omega)
  refine g_dup C8 rfl (dk kX5_init 38 rfl) ?_
  refine g_callIN C8 E2 (by show (xs X).heap.size + _ = zb Z + (zn Z + 8); omega) (rest := [.ref (za Z (zn Z + 7)), .int 0, .ref (za Z (zn Z + 5))]) (host := "WornDots") 0 (ct_X4_init (zx_k1 (L := [(2, 0), (8, 24), (8, 24), (8, 24), (8, 7), (10, 6), (9, 6), (3, 0)]) 7 rfl) (by show zn Z + 8 + 1 ≤ 1000; omega)) (C8.nw.2.1 ("WornDots$State", 46, yX4_init, "WornDots") (List.mem_of_getElem? (i := 3) rfl)) wd_1_112 wd_1_8 wd_1_113 rfl ⟨by decide, by decide, by decide⟩ rfl (by decide) rfl (Nat.le_of_ble_eq_true rfl) ⟨Nat.le_of_ble_eq_true rfl, Nat.le_of_ble_eq_true rfl⟩ (dk kX5_init 39 rfl) ?_
  obtain ⟨μ13, eμ13⟩ : ∃ x : Mm, x = i_X4_init (zn Z + 8) μ12 (zn Z + 7) := ⟨_, rfl⟩
  refine g_eq eμ13 ?_
  refine g_zeq (show _ = zx Z [(2, 0), (8, 24), (8, 24), (8, 24), (8, 7), (10, 6), (9, 6), (3, 0), (8, 6)] from zx_zx) ?_
  have C9 := cx_zx (L := [(2, 0), (8, 24), (8, 24), (8, 24), (8, 7), (10, 6), (9, 6), (3, 0), (8, 6)]) C (by show zn Z + 9 ≤ 1000; omega)
  obtain ⟨μ14, eμ14⟩ : ∃ x : Mm, x = sR μ13 (zn Z + 5) (ix 0) (some (zn Z + 7)) := ⟨_, rfl⟩
  refine pA_10 C9 (zx_k1 (L := [(2, 0), (8, 24), (8, 24), (8, 24), (8, 7), (10, 6), (9, 6), (3, 0), (8, 6)]) 5 rfl) (by rw [(zx_k (L := [(2, 0), (8, 24), (8, 24), (8, 24), (8, 7), (10, 6), (9, 6), (3, 0), (8, 6)]) 5 rfl)]; decide) (zx_k1 (L := [(2, 0), (8, 24), (8, 24), (8, 24), (8, 7), (10, 6), (9, 6), (3, 0), (8, 6)]) 7 rfl) eμ14 (dk kX5_init 40 rfl) ?_
  refine g_iinc C9 (i := 2) (v := 1) (lv' := [(2, .int 1), (0, .ref (za Z a0)), (1, .ref (za Z a1))]) 0 (dk kX5_init 41 rfl) rfl (by decide) (by decide) rfl ?_
  refine g_goto C9 (tgt := 62) (dk kX5_init 42 rfl) (by decide) ?_
  refine g_iload_n C9 (i := 2) 0 rfl rfl (dk kX5_init 31 rfl) ?_
  refine g_bipush C9 (v := 6) (by decide) (dk kX5_init 32 rfl) ?_
  refine g_icmp_ge C9 (tgt := 87) (dk kX5_init 33 rfl) (by decide) (fun c => absurd c (by decide)) (fun _ => ?_)
  refine g_aload_n C9 (i := 0) 1 rfl rfl (dk kX5_init 34 rfl) ?_
  refine gR_4_3 C9 (zx_o1 C.ok k0 (by decide)) (C9.w wd_1_174) (r := (zn Z + 5)) (by simp [eμ14, eμ13, eμ12, eμ11, eμ10, eμ9, eμ8, eμ7, eμ6, eμ5, eμ4, eμ3, eμ2, eμ1, sR, sI, sIr, nwM, up2, upR, hn0, hn1, hn2, hn3, hn4, hlt0, fr_X2_init, fr_X3_init, fr_X4_init, fr_X1_init]) (dk kX5_init 35 rfl) ?_
  refine g_iload_n C9 (i := 2) 0 rfl rfl (dk kX5_init 36 rfl) ?_
  refine g_new C9 E2 (by show (xs X).heap.size + _ = zb Z + (zn Z + 9); omega) (by show zn Z + 9 < 1000; omega) (c := 3) inTX4 tyX4_ok rfl (by decide) wd_1_101 wd_1_110 wd_1_8 ob_3 ⟨Nat.le_of_ble_eq_true rfl, Nat.le_of_ble_eq_true rfl⟩ (dk kX5_init 37 rfl) ?_
  obtain ⟨μ15, eμ15⟩ : ∃ x : Mm, x = nwM μ14 (zn Z + 9) := ⟨_, rfl⟩
  refine g_eq eμ15 ?_
  refine g_zeq (show _ = zx Z [(2, 0), (8, 24), (8, 24), (8, 24), (8, 7), (10, 6), (9, 6), (3, 0), (8, 6), (3, 0)] from zx_zx) ?_
  have C10 := cx_zx (L := [(2, 0), (8, 24), (8, 24), (8, 24), (8, 7), (10, 6), (9, 6), (3, 0), (8, 6), (3, 0)]) C (by show zn Z + 10 ≤ 1000; omega)
  refine g_dup C10 rfl (dk kX5_init 38 rfl) ?_
  refine g_callIN C10 E2 (by show (xs X).heap.size + _ = zb Z + (zn Z + 10); omega) (rest := [.ref (za Z (zn Z + 9)), .int 1, .ref (za Z (zn Z + 5))]) (host := "WornDots") 0 (ct_X4_init (zx_k1 (L := [(2, 0), (8, 24), (8, 24), (8, 24), (8, 7), (10, 6), (9, 6), (3, 0), (8, 6), (3, 0)]) 9 rfl) (by show zn Z + 10 + 1 ≤ 1000; omega)) (C10.nw.2.1 ("WornDots$State", 46, yX4_init, "WornDots") (List.mem_of_getElem? (i := 3) rfl)) wd_1_112 wd_1_8 wd_1_113 rfl ⟨by decide, by decide, by decide⟩ rfl (by decide) rfl (Nat.le_of_ble_eq_true rfl) ⟨Nat.le_of_ble_eq_true rfl, Nat.le_of_ble_eq_true rfl⟩ (dk kX5_init 39 rfl) ?_
  obtain ⟨μ16, eμ16⟩ : ∃ x : Mm, x = i_X4_init (zn Z + 10) μ15 (zn Z + 9) := ⟨_, rfl⟩
  refine g_eq eμ16 ?_
  refine g_zeq (show _ = zx Z [(2, 0), (8, 24), (8, 24), (8, 24), (8, 7), (10, 6), (9, 6), (3, 0), (8, 6), (3, 0), (8, 6)] from zx_zx) ?_
  have C11 := cx_zx (L := [(2, 0), (8, 24), (8, 24), (8, 24), (8, 7), (10, 6), (9, 6), (3, 0), (8, 6), (3, 0), (8, 6)]) C (by show zn Z + 11 ≤ 1000; omega)
  obtain ⟨μ17, eμ17⟩ : ∃ x : Mm, x = sR μ16 (zn Z + 5) (ix 1) (some (zn Z + 9)) := ⟨_, rfl⟩
  refine pA_10 C11 (zx_k1 (L := [(2, 0), (8, 24), (8, 24), (8, 24), (8, 7), (10, 6), (9, 6), (3, 0), (8, 6), (3, 0), (8, 6)]) 5 rfl) (by rw [(zx_k (L := [(2, 0), (8, 24), (8, 24), (8, 24), (8, 7), (10, 6), (9, 6), (3, 0), (8, 6), (3, 0), (8, 6)]) 5 rfl)]; decide) (zx_k1 (L := [(2, 0), (8, 24), (8, 24), (8, 24), (8, 7), (10, 6), (9, 6), (3, 0), (8, 6), (3, 0), (8, 6)]) 9 rfl) eμ17 (dk kX5_init 40 rfl) ?_
  refine g_iinc C11 (i := 2) (v := 2) (lv' := [(2, .int 2), (0, .ref (za Z a0)), (1, .ref (za Z a1))]) 0 (dk kX5_init 41 rfl) rfl (by decide) (by decide) rfl ?_
  refine g_goto C11 (tgt := 62) (dk kX5_init 42 rfl) (by decide) ?_
  refine g_iload_n C11 (i := 2) 0 rfl rfl (dk kX5_init 31 rfl) ?_
  refine g_bipush C11 (v := 6) (by decide) (dk kX5_init 32 rfl) ?_
  refine g_icmp_ge C11 (tgt := 87) (dk kX5_init 33 rfl) (by decide) (fun c => absurd c (by decide)) (fun _ => ?_)
  refine g_aload_n C11 (i := 0) 1 rfl rfl (dk kX5_init 34 rfl) ?_
  refine gR_4_3 C11 (zx_o1 C.ok k0 (by decide)) (C11.w wd_1_174) (r := (zn Z + 5)) (by simp [eμ17, eμ16, eμ15, eμ14, eμ13, eμ12, eμ11, eμ10, eμ9, eμ8, eμ7, eμ6, eμ5, eμ4, eμ3, eμ2, eμ1, sR, sI, sIr, nwM, up2, upR, hn0, hn1, hn2, hn3, hn4, hlt0, fr_X2_init, fr_X3_init, fr_X4_init, fr_X1_init]) (dk kX5_init 35 rfl) ?_
  refine g_iload_n C11 (i := 2) 0 rfl rfl (dk kX5_init 36 rfl) ?_
  refine g_new C11 E2 (by show (xs X).heap.size + _ = zb Z + (zn Z + 11); omega) (by show zn Z + 11 < 1000; omega) (c := 3) inTX4 tyX4_ok rfl (by decide) wd_1_101 wd_1_110 wd_1_8 ob_3 ⟨Nat.le_of_ble_eq_true rfl, Nat.le_of_ble_eq_true rfl⟩ (dk kX5_init 37 rfl) ?_
  obtain ⟨μ18, eμ18⟩ : ∃ x : Mm, x = nwM μ17 (zn Z + 11) := ⟨_, rfl⟩
  refine g_eq eμ18 ?_
  refine g_zeq (show _ = zx Z [(2, 0), (8, 24), (8, 24), (8, 24), (8, 7), (10, 6), (9, 6), (3, 0), (8, 6), (3, 0), (8, 6), (3, 0)] from zx_zx) ?_
  have C12 := cx_zx (L := [(2, 0), (8, 24), (8, 24), (8, 24), (8, 7), (10, 6), (9, 6), (3, 0), (8, 6), (3, 0), (8, 6), (3, 0)]) C (by show zn Z + 12 ≤ 1000; omega)
  refine g_dup C12 rfl (dk kX5_init 38 rfl) ?_
  refine g_callIN C12 E2 (by show (xs X).heap.size + _ = zb Z + (zn Z + 12); omega) (rest := [.ref (za Z (zn Z + 11)), .int 2, .ref (za Z (zn Z + 5))]) (host := "WornDots") 0 (ct_X4_init (zx_k1 (L := [(2, 0), (8, 24), (8, 24), (8, 24), (8, 7), (10, 6), (9, 6), (3, 0), (8, 6), (3, 0), (8, 6), (3, 0)]) 11 rfl) (by show zn Z + 12 + 1 ≤ 1000; omega)) (C12.nw.2.1 ("WornDots$State", 46, yX4_init, "WornDots") (List.mem_of_getElem? (i := 3) rfl)) wd_1_112 wd_1_8 wd_1_113 rfl ⟨by decide, by decide, by decide⟩ rfl (by decide) rfl (Nat.le_of_ble_eq_true rfl) ⟨Nat.le_of_ble_eq_true rfl, Nat.le_of_ble_eq_true rfl⟩ (dk kX5_init 39 rfl) ?_
  obtain ⟨μ19, eμ19⟩ : ∃ x : Mm, x = i_X4_init (zn Z + 12) μ18 (zn Z + 11) := ⟨_, rfl⟩
  refine g_eq eμ19 ?_
  refine g_zeq (show _ = zx Z [(2, 0), (8, 24), (8, 24), (8, 24), (8, 7), (10, 6), (9, 6), (3, 0), (8, 6), (3, 0), (8, 6), (3, 0), (8, 6)] from zx_zx) ?_
  have C13 := cx_zx (L := [(2, 0), (8, 24), (8, 24), (8, 24), (8, 7), (10, 6), (9, 6), (3, 0), (8, 6), (3, 0), (8, 6), (3, 0), (8, 6)]) C (by show zn Z + 13 ≤ 1000; omega)
  obtain ⟨μ20, eμ20⟩ : ∃ x : Mm, x = sR μ19 (zn Z + 5) (ix 2) (some (zn Z + 11)) := ⟨_, rfl⟩
  refine pA_10 C13 (zx_k1 (L := [(2, 0), (8, 24), (8, 24), (8, 24), (8, 7), (10, 6), (9, 6), (3, 0), (8, 6), (3, 0), (8, 6), (3, 0), (8, 6)]) 5 rfl) (by rw [(zx_k (L := [(2, 0), (8, 24), (8, 24), (8, 24), (8, 7), (10, 6), (9, 6), (3, 0), (8, 6), (3, 0), (8, 6), (3, 0), (8, 6)]) 5 rfl)]; decide) (zx_k1 (L := [(2, 0), (8, 24), (8, 24), (8, 24), (8, 7), (10, 6), (9, 6), (3, 0), (8, 6), (3, 0), (8, 6), (3, 0), (8, 6)]) 11 rfl) eμ20 (dk kX5_init 40 rfl) ?_
  refine g_iinc C13 (i := 2) (v := 3) (lv' := [(2, .int 3), (0, .ref (za Z a0)), (1, .ref (za Z a1))]) 0 (dk kX5_init 41 rfl) rfl (by decide) (by decide) rfl ?_
  refine g_goto C13 (tgt := 62) (dk kX5_init 42 rfl) (by decide) ?_
  refine g_iload_n C13 (i := 2) 0 rfl rfl (dk kX5_init 31 rfl) ?_
  refine g_bipush C13 (v := 6) (by decide) (dk kX5_init 32 rfl) ?_
  refine g_icmp_ge C13 (tgt := 87) (dk kX5_init 33 rfl) (by decide) (fun c => absurd c (by decide)) (fun _ => ?_)
  refine g_aload_n C13 (i := 0) 1 rfl rfl (dk kX5_init 34 rfl) ?_
  refine gR_4_3 C13 (zx_o1 C.ok k0 (by decide)) (C13.w wd_1_174) (r := (zn Z + 5)) (by simp [eμ20, eμ19, eμ18, eμ17, eμ16, eμ15, eμ14, eμ13, eμ12, eμ11, eμ10, eμ9, eμ8, eμ7, eμ6, eμ5, eμ4, eμ3, eμ2, eμ1, sR, sI, sIr, nwM, up2, upR, hn0, hn1, hn2, hn3, hn4, hlt0, fr_X2_init, fr_X3_init, fr_X4_init, fr_X1_init]) (dk kX5_init 35 rfl) ?_
  refine g_iload_n C13 (i := 2) 0 rfl rfl (dk kX5_init 36 rfl) ?_
  refine g_new C13 E2 (by show (xs X).heap.size + _ = zb Z + (zn Z + 13); omega) (by show zn Z + 13 < 1000; omega) (c := 3) inTX4 tyX4_ok rfl (by decide) wd_1_101 wd_1_110 wd_1_8 ob_3 ⟨Nat.le_of_ble_eq_true rfl, Nat.le_of_ble_eq_true rfl⟩ (dk kX5_init 37 rfl) ?_
  obtain ⟨μ21, eμ21⟩ : ∃ x : Mm, x = nwM μ20 (zn Z + 13) := ⟨_, rfl⟩
  refine g_eq eμ21 ?_
  refine g_zeq (show _ = zx Z [(2, 0), (8, 24), (8, 24), (8, 24), (8, 7), (10, 6), (9, 6), (3, 0), (8, 6), (3, 0), (8, 6), (3, 0), (8, 6), (3, 0)] from zx_zx) ?_
  have C14 := cx_zx (L := [(2, 0), (8, 24), (8, 24), (8, 24), (8, 7), (10, 6), (9, 6), (3, 0), (8, 6), (3, 0), (8, 6), (3, 0), (8, 6), (3, 0)]) C (by show zn Z + 14 ≤ 1000; omega)
  refine g_dup C14 rfl (dk kX5_init 38 rfl) ?_
  refine g_callIN C14 E2 (by show (xs X).heap.size + _ = zb Z + (zn Z + 14); omega) (rest := [.ref (za Z (zn Z + 13)), .int 3, .ref (za Z (zn Z + 5))]) (host := "WornDots") 0 (ct_X4_init (zx_k1 (L := [(2, 0), (8, 24), (8, 24), (8, 24), (8, 7), (10, 6), (9, 6), (3, 0), (8, 6), (3, 0), (8, 6), (3, 0), (8, 6), (3, 0)]) 13 rfl) (by show zn Z + 14 + 1 ≤ 1000; omega)) (C14.nw.2.1 ("WornDots$State", 46, yX4_init, "WornDots") (List.mem_of_getElem? (i := 3) rfl)) wd_1_112 wd_1_8 wd_1_113 rfl ⟨by decide, by decide, by decide⟩ rfl (by decide) rfl (Nat.le_of_ble_eq_true rfl) ⟨Nat.le_of_ble_eq_true rfl, Nat.le_of_ble_eq_true rfl⟩ (dk kX5_init 39 rfl) ?_
  obtain ⟨μ22, eμ22⟩ : ∃ x : Mm, x = i_X4_init (zn Z + 14) μ21 (zn Z + 13) := ⟨_, rfl⟩
  refine g_eq eμ22 ?_
  refine g_zeq (show _ = zx Z [(2, 0), (8, 24), (8, 24), (8, 24), (8, 7), (10, 6), (9, 6), (3, 0), (8, 6), (3, 0), (8, 6), (3, 0), (8, 6), (3, 0), (8, 6)] from zx_zx) ?_
  have C15 := cx_zx (L := [(2, 0), (8, 24), (8, 24), (8, 24), (8, 7), (10, 6), (9, 6), (3, 0), (8, 6), (3, 0), (8, 6), (3, 0), (8, 6), (3, 0), (8, 6)]) C (by show zn Z + 15 ≤ 1000; omega)
  obtain ⟨μ23, eμ23⟩ : ∃ x : Mm, x = sR μ22 (zn Z + 5) (ix 3) (some (zn Z + 13)) := ⟨_, rfl⟩
  refine pA_10 C15 (zx_k1 (L := [(2, 0), (8, 24), (8, 24), (8, 24), (8, 7), (10, 6), (9, 6), (3, 0), (8, 6), (3, 0), (8, 6), (3, 0), (8, 6), (3, 0), (8, 6)]) 5 rfl) (by rw [(zx_k (L := [(2, 0), (8, 24), (8, 24), (8, 24), (8, 7), (10, 6), (9, 6), (3, 0), (8, 6), (3, 0), (8, 6), (3, 0), (8, 6), (3, 0), (8, 6)]) 5 rfl)]; decide) (zx_k1 (L := [(2, 0), (8, 24), (8, 24), (8, 24), (8, 7), (10, 6), (9, 6), (3, 0), (8, 6), (3, 0), (8, 6), (3, 0), (8, 6), (3, 0), (8, 6)]) 13 rfl) eμ23 (dk kX5_init 40 rfl) ?_
  refine g_iinc C15 (i := 2) (v := 4) (lv' := [(2, .int 4), (0, .ref (za Z a0)), (1, .ref (za Z a1))]) 0 (dk kX5_init 41 rfl) rfl (by decide) (by decide) rfl ?_
  refine g_goto C15 (tgt := 62) (dk kX5_init 42 rfl) (by decide) ?_
  refine g_iload_n C15 (i := 2) 0 rfl rfl (dk kX5_init 31 rfl) ?_
  refine g_bipush C15 (v := 6) (by decide) (dk kX5_init 32 rfl) ?_
  refine g_icmp_ge C15 (tgt := 87) (dk kX5_init 33 rfl) (by decide) (fun c => absurd c (by decide)) (fun _ => ?_)
  refine g_aload_n C15 (i := 0) 1 rfl rfl (dk kX5_init 34 rfl) ?_
  refine gR_4_3 C15 (zx_o1 C.ok k0 (by decide)) (C15.w wd_1_174) (r := (zn Z + 5)) (by simp [eμ23, eμ22, eμ21, eμ20, eμ19, eμ18, eμ17, eμ16, eμ15, eμ14, eμ13, eμ12, eμ11, eμ10, eμ9, eμ8, eμ7, eμ6, eμ5, eμ4, eμ3, eμ2, eμ1, sR, sI, sIr, nwM, up2, upR, hn0, hn1, hn2, hn3, hn4, hlt0, fr_X2_init, fr_X3_init, fr_X4_init, fr_X1_init]) (dk kX5_init 35 rfl) ?_
  refine g_iload_n C15 (i := 2) 0 rfl rfl (dk kX5_init 36 rfl) ?_
  refine g_new C15 E2 (by show (xs X).heap.size + _ = zb Z + (zn Z + 15); omega) (by show zn Z + 15 < 1000; omega) (c := 3) inTX4 tyX4_ok rfl (by decide) wd_1_101 wd_1_110 wd_1_8 ob_3 ⟨Nat.le_of_ble_eq_true rfl, Nat.le_of_ble_eq_true rfl⟩ (dk kX5_init 37 rfl) ?_
  obtain ⟨μ24, eμ24⟩ : ∃ x : Mm, x = nwM μ23 (zn Z + 15) := ⟨_, rfl⟩
  refine g_eq eμ24 ?_
  refine g_zeq (show _ = zx Z [(2, 0), (8, 24), (8, 24), (8, 24), (8, 7), (10, 6), (9, 6), (3, 0), (8, 6), (3, 0), (8, 6), (3, 0), (8, 6), (3, 0), (8, 6), (3, 0)] from zx_zx) ?_
  have C16 := cx_zx (L := [(2, 0), (8, 24), (8, 24), (8, 24), (8, 7), (10, 6), (9, 6), (3, 0), (8, 6), (3, 0), (8, 6), (3, 0), (8, 6), (3, 0), (8, 6), (3, 0)]) C (by show zn Z + 16 ≤ 1000; omega)
  refine g_dup C16 rfl (dk kX5_init 38 rfl) ?_
  refine g_callIN C16 E2 (by show (xs X).heap.size + _ = zb Z + (zn Z + 16); omega) (rest := [.ref (za Z (zn Z + 15)), .int 4, .ref (za Z (zn Z + 5))]) (host := "WornDots") 0 (ct_X4_init (zx_k1 (L := [(2, 0), (8, 24), (8, 24), (8, 24), (8, 7), (10, 6), (9, 6), (3, 0), (8, 6), (3, 0), (8, 6), (3, 0), (8, 6), (3, 0), (8, 6), (3, 0)]) 15 rfl) (by show zn Z + 16 + 1 ≤ 1000; omega)) (C16.nw.2.1 ("WornDots$State", 46, yX4_init, "WornDots") (List.mem_of_getElem? (i := 3) rfl)) wd_1_112 wd_1_8 wd_1_113 rfl ⟨by decide, by decide, by decide⟩ rfl (by decide) rfl (Nat.le_of_ble_eq_true rfl) ⟨Nat.le_of_ble_eq_true rfl, Nat.le_of_ble_eq_true rfl⟩ (dk kX5_init 39 rfl) ?_
  obtain ⟨μ25, eμ25⟩ : ∃ x : Mm, x = i_X4_init (zn Z + 16) μ24 (zn Z + 15) := ⟨_, rfl⟩
  refine g_eq eμ25 ?_
  refine g_zeq (show _ = zx Z [(2, 0), (8, 24), (8, 24), (8, 24), (8, 7), (10, 6), (9, 6), (3, 0), (8, 6), (3, 0), (8, 6), (3, 0), (8, 6), (3, 0), (8, 6), (3, 0), (8, 6)] from zx_zx) ?_
  have C17 := cx_zx (L := [(2, 0), (8, 24), (8, 24), (8, 24), (8, 7), (10, 6), (9, 6), (3, 0), (8, 6), (3, 0), (8, 6), (3, 0), (8, 6), (3, 0), (8, 6), (3, 0), (8, 6)]) C (by show zn Z + 17 ≤ 1000; omega)
  obtain ⟨μ26, eμ26⟩ : ∃ x : Mm, x = sR μ25 (zn Z + 5) (ix 4) (some (zn Z + 15)) := ⟨_, rfl⟩
  refine pA_10 C17 (zx_k1 (L := [(2, 0), (8, 24), (8, 24), (8, 24), (8, 7), (10, 6), (9, 6), (3, 0), (8, 6), (3, 0), (8, 6), (3, 0), (8, 6), (3, 0), (8, 6), (3, 0), (8, 6)]) 5 rfl) (by rw [(zx_k (L := [(2, 0), (8, 24), (8, 24), (8, 24), (8, 7), (10, 6), (9, 6), (3, 0), (8, 6), (3, 0), (8, 6), (3, 0), (8, 6), (3, 0), (8, 6), (3, 0), (8, 6)]) 5 rfl)]; decide) (zx_k1 (L := [(2, 0), (8, 24), (8, 24), (8, 24), (8, 7), (10, 6), (9, 6), (3, 0), (8, 6), (3, 0), (8, 6), (3, 0), (8, 6), (3, 0), (8, 6), (3, 0), (8, 6)]) 15 rfl) eμ26 (dk kX5_init 40 rfl) ?_
  refine g_iinc C17 (i := 2) (v := 5) (lv' := [(2, .int 5), (0, .ref (za Z a0)), (1, .ref (za Z a1))]) 0 (dk kX5_init 41 rfl) rfl (by decide) (by decide) rfl ?_
  refine g_goto C17 (tgt := 62) (dk kX5_init 42 rfl) (by decide) ?_
  refine g_iload_n C17 (i := 2) 0 rfl rfl (dk kX5_init 31 rfl) ?_
  refine g_bipush C17 (v := 6) (by decide) (dk kX5_init 32 rfl) ?_
  refine g_icmp_ge C17 (tgt := 87) (dk kX5_init 33 rfl) (by decide) (fun c => absurd c (by decide)) (fun _ => ?_)
  refine g_aload_n C17 (i := 0) 1 rfl rfl (dk kX5_init 34 rfl) ?_
  refine gR_4_3 C17 (zx_o1 C.ok k0 (by decide)) (C17.w wd_1_174) (r := (zn Z + 5)) (by simp [eμ26, eμ25, eμ24, eμ23, eμ22, eμ21, eμ20, eμ19, eμ18, eμ17, eμ16, eμ15, eμ14, eμ13, eμ12, eμ11, eμ10, eμ9, eμ8, eμ7, eμ6, eμ5, eμ4, eμ3, eμ2, eμ1, sR, sI, sIr, nwM, up2, upR, hn0, hn1, hn2, hn3, hn4, hlt0, fr_X2_init, fr_X3_init, fr_X4_init, fr_X1_init]) (dk kX5_init 35 rfl) ?_
  refine g_iload_n C17 (i := 2) 0 rfl rfl (dk kX5_init 36 rfl) ?_
  refine g_new C17 E2 (by show (xs X).heap.size + _ = zb Z + (zn Z + 17); omega) (by show zn Z + 17 < 1000; omega) (c := 3) inTX4 tyX4_ok rfl (by decide) wd_1_101 wd_1_110 wd_1_8 ob_3 ⟨Nat.le_of_ble_eq_true rfl, Nat.le_of_ble_eq_true rfl⟩ (dk kX5_init 37 rfl) ?_
  obtain ⟨μ27, eμ27⟩ : ∃ x : Mm, x = nwM μ26 (zn Z + 17) := ⟨_, rfl⟩
  refine g_eq eμ27 ?_
  refine g_zeq (show _ = zx Z [(2, 0), (8, 24), (8, 24), (8, 24), (8, 7), (10, 6), (9, 6), (3, 0), (8, 6), (3, 0), (8, 6), (3, 0), (8, 6), (3, 0), (8, 6), (3, 0), (8, 6), (3, 0)] from zx_zx) ?_
  have C18 := cx_zx (L := [(2, 0), (8, 24), (8, 24), (8, 24), (8, 7), (10, 6), (9, 6), (3, 0), (8, 6), (3, 0), (8, 6), (3, 0), (8, 6), (3, 0), (8, 6), (3, 0), (8, 6), (3, 0)]) C (by show zn Z + 18 ≤ 1000; omega)
  refine g_dup C18 rfl (dk kX5_init 38 rfl) ?_
  refine g_callIN C18 E2 (by show (xs X).heap.size + _ = zb Z + (zn Z + 18); omega) (rest := [.ref (za Z (zn Z + 17)), .int 5, .ref (za Z (zn Z + 5))]) (host := "WornDots") 0 (ct_X4_init (zx_k1 (L := [(2, 0), (8, 24), (8, 24), (8, 24), (8, 7), (10, 6), (9, 6), (3, 0), (8, 6), (3, 0), (8, 6), (3, 0), (8, 6), (3, 0), (8, 6), (3, 0), (8, 6), (3, 0)]) 17 rfl) (by show zn Z + 18 + 1 ≤ 1000; omega)) (C18.nw.2.1 ("WornDots$State", 46, yX4_init, "WornDots") (List.mem_of_getElem? (i := 3) rfl)) wd_1_112 wd_1_8 wd_1_113 rfl ⟨by decide, by decide, by decide⟩ rfl (by decide) rfl (Nat.le_of_ble_eq_true rfl) ⟨Nat.le_of_ble_eq_true rfl, Nat.le_of_ble_eq_true rfl⟩ (dk kX5_init 39 rfl) ?_
  obtain ⟨μ28, eμ28⟩ : ∃ x : Mm, x = i_X4_init (zn Z + 18) μ27 (zn Z + 17) := ⟨_, rfl⟩
  refine g_eq eμ28 ?_
  refine g_zeq (show _ = zx Z [(2, 0), (8, 24), (8, 24), (8, 24), (8, 7), (10, 6), (9, 6), (3, 0), (8, 6), (3, 0), (8, 6), (3, 0), (8, 6), (3, 0), (8, 6), (3, 0), (8, 6), (3, 0), (8, 6)] from zx_zx) ?_
  have C19 := cx_zx (L := [(2, 0), (8, 24), (8, 24), (8, 24), (8, 7), (10, 6), (9, 6), (3, 0), (8, 6), (3, 0), (8, 6), (3, 0), (8, 6), (3, 0), (8, 6), (3, 0), (8, 6), (3, 0), (8, 6)]) C (by show zn Z + 19 ≤ 1000; omega)
  obtain ⟨μ29, eμ29⟩ : ∃ x : Mm, x = sR μ28 (zn Z + 5) (ix 5) (some (zn Z + 17)) := ⟨_, rfl⟩
  refine pA_10 C19 (zx_k1 (L := [(2, 0), (8, 24), (8, 24), (8, 24), (8, 7), (10, 6), (9, 6), (3, 0), (8, 6), (3, 0), (8, 6), (3, 0), (8, 6), (3, 0), (8, 6), (3, 0), (8, 6), (3, 0), (8, 6)]) 5 rfl) (by rw [(zx_k (L := [(2, 0), (8, 24), (8, 24), (8, 24), (8, 7), (10, 6), (9, 6), (3, 0), (8, 6), (3, 0), (8, 6), (3, 0), (8, 6), (3, 0), (8, 6), (3, 0), (8, 6), (3, 0), (8, 6)]) 5 rfl)]; decide) (zx_k1 (L := [(2, 0), (8, 24), (8, 24), (8, 24), (8, 7), (10, 6), (9, 6), (3, 0), (8, 6), (3, 0), (8, 6), (3, 0), (8, 6), (3, 0), (8, 6), (3, 0), (8, 6), (3, 0), (8, 6)]) 17 rfl) eμ29 (dk kX5_init 40 rfl) ?_
  refine g_iinc C19 (i := 2) (v := 6) (lv' := [(2, .int 6), (0, .ref (za Z a0)), (1, .ref (za Z a1))]) 0 (dk kX5_init 41 rfl) rfl (by decide) (by decide) rfl ?_
  refine g_goto C19 (tgt := 62) (dk kX5_init 42 rfl) (by decide) ?_
  refine g_iload_n C19 (i := 2) 0 rfl rfl (dk kX5_init 31 rfl) ?_
  refine g_bipush C19 (v := 6) (by decide) (dk kX5_init 32 rfl) ?_
  refine g_icmp_ge C19 (tgt := 87) (dk kX5_init 33 rfl) (by decide) (fun _ => ?_) (fun c => absurd (by decide) c)
  refine g_iconst C19 (v := 0) (by decide) (dk kX5_init 43 rfl) ?_
  refine g_istore_n C19 (i := 2) (lv' := [(2, .int 0), (0, .ref (za Z a0)), (1, .ref (za Z a1))]) (dk kX5_init 44 rfl) rfl (by decide) rfl ?_
  refine g_iload_n C19 (i := 2) 0 rfl rfl (dk kX5_init 45 rfl) ?_
  refine g_bipush C19 (v := 6) (by decide) (dk kX5_init 46 rfl) ?_
  refine g_icmp_ge C19 (tgt := 114) (dk kX5_init 47 rfl) (by decide) (fun c => absurd c (by decide)) (fun _ => ?_)
  refine g_aload_n C19 (i := 0) 1 rfl rfl (dk kX5_init 48 rfl) ?_
  refine gR_4_5 C19 (zx_o1 C.ok k0 (by decide)) (C19.w wd_1_178) (r := (zn Z + 6)) (by simp [eμ29, eμ28, eμ27, eμ26, eμ25, eμ24, eμ23, eμ22, eμ21, eμ20, eμ19, eμ18, eμ17, eμ16, eμ15, eμ14, eμ13, eμ12, eμ11, eμ10, eμ9, eμ8, eμ7, eμ6, eμ5, eμ4, eμ3, eμ2, eμ1, sR, sI, sIr, nwM, up2, upR, hn0, hn1, hn2, hn3, hn4, hlt0, fr_X2_init, fr_X3_init, fr_X4_init, fr_X1_init]) (dk kX5_init 49 rfl) ?_
  refine g_iload_n C19 (i := 2) 0 rfl rfl (dk kX5_init 50 rfl) ?_
  refine g_new C19 E2 (by show (xs X).heap.size + _ = zb Z + (zn Z + 19); omega) (by show zn Z + 19 < 1000; omega) (c := 1) inTX2 tyX2_ok rfl (by decide) wd_1_103 wd_1_140 wd_1_9 ob_1 ⟨Nat.le_of_ble_eq_true rfl, Nat.le_of_ble_eq_true rfl⟩ (dk kX5_init 51 rfl) ?_
  obtain ⟨μ30, eμ30⟩ : ∃ x : Mm, x = nwM μ29 (zn Z + 19) := ⟨_, rfl⟩
  refine g_eq eμ30 ?_
  refine g_zeq (show _ = zx Z [(2, 0), (8, 24), (8, 24), (8, 24), (8, 7), (10, 6), (9, 6), (3, 0), (8, 6), (3, 0), (8, 6), (3, 0), (8, 6), (3, 0), (8, 6), (3, 0), (8, 6), (3, 0), (8, 6), (1, 0)] from zx_zx) ?_
  have C20 := cx_zx (L := [(2, 0), (8, 24), (8, 24), (8, 24), (8, 7), (10, 6), (9, 6), (3, 0), (8, 6), (3, 0), (8, 6), (3, 0), (8, 6), (3, 0), (8, 6), (3, 0), (8, 6), (3, 0), (8, 6), (1, 0)]) C (by show zn Z + 20 ≤ 1000; omega)
  refine g_dup C20 rfl (dk kX5_init 52 rfl) ?_
  refine g_callIN C20 E2 (by show (xs X).heap.size + _ = zb Z + (zn Z + 20); omega) (rest := [.ref (za Z (zn Z + 19)), .int 0, .ref (za Z (zn Z + 6))]) (host := "WornDots") 0 (ct_X2_init (zx_k1 (L := [(2, 0), (8, 24), (8, 24), (8, 24), (8, 7), (10, 6), (9, 6), (3, 0), (8, 6), (3, 0), (8, 6), (3, 0), (8, 6), (3, 0), (8, 6), (3, 0), (8, 6), (3, 0), (8, 6), (1, 0)]) 19 rfl) (by show zn Z + 20 + 0 ≤ 1000; omega)) (C20.nw.2.1 ("WornDots$State", 47, yX2_init, "WornDots") (List.mem_of_getElem? (i := 4) rfl)) wd_1_142 wd_1_9 wd_1_143 rfl ⟨by decide, by decide, by decide⟩ rfl (by decide) rfl (Nat.le_of_ble_eq_true rfl) ⟨Nat.le_of_ble_eq_true rfl, Nat.le_of_ble_eq_true rfl⟩ (dk kX5_init 53 rfl) ?_
  obtain ⟨μ31, eμ31⟩ : ∃ x : Mm, x = i_X2_init (zn Z + 20) μ30 (zn Z + 19) := ⟨_, rfl⟩
  refine g_eq eμ31 ?_
  refine g_zeq (show _ = zx Z [(2, 0), (8, 24), (8, 24), (8, 24), (8, 7), (10, 6), (9, 6), (3, 0), (8, 6), (3, 0), (8, 6), (3, 0), (8, 6), (3, 0), (8, 6), (3, 0), (8, 6), (3, 0), (8, 6), (1, 0)] from zx_zx) ?_
  have C20 := cx_zx (L := [(2, 0), (8, 24), (8, 24), (8, 24), (8, 7), (10, 6), (9, 6), (3, 0), (8, 6), (3, 0), (8, 6), (3, 0), (8, 6), (3, 0), (8, 6), (3, 0), (8, 6), (3, 0), (8, 6), (1, 0)]) C (by show zn Z + 20 ≤ 1000; omega)
  obtain ⟨μ32, eμ32⟩ : ∃ x : Mm, x = sR μ31 (zn Z + 6) (ix 0) (some (zn Z + 19)) := ⟨_, rfl⟩
  refine pA_9 C20 (zx_k1 (L := [(2, 0), (8, 24), (8, 24), (8, 24), (8, 7), (10, 6), (9, 6), (3, 0), (8, 6), (3, 0), (8, 6), (3, 0), (8, 6), (3, 0), (8, 6), (3, 0), (8, 6), (3, 0), (8, 6), (1, 0)]) 6 rfl) (by rw [(zx_k (L := [(2, 0), (8, 24), (8, 24), (8, 24), (8, 7), (10, 6), (9, 6), (3, 0), (8, 6), (3, 0), (8, 6), (3, 0), (8, 6), (3, 0), (8, 6), (3, 0), (8, 6), (3, 0), (8, 6), (1, 0)]) 6 rfl)]; decide) (zx_k1 (L := [(2, 0), (8, 24), (8, 24), (8, 24), (8, 7), (10, 6), (9, 6), (3, 0), (8, 6), (3, 0), (8, 6), (3, 0), (8, 6), (3, 0), (8, 6), (3, 0), (8, 6), (3, 0), (8, 6), (1, 0)]) 19 rfl) eμ32 (dk kX5_init 54 rfl) ?_
  refine g_iinc C20 (i := 2) (v := 1) (lv' := [(2, .int 1), (0, .ref (za Z a0)), (1, .ref (za Z a1))]) 0 (dk kX5_init 55 rfl) rfl (by decide) (by decide) rfl ?_
  refine g_goto C20 (tgt := 89) (dk kX5_init 56 rfl) (by decide) ?_
  refine g_iload_n C20 (i := 2) 0 rfl rfl (dk kX5_init 45 rfl) ?_
  refine g_bipush C20 (v := 6) (by decide) (dk kX5_init 46 rfl) ?_
  refine g_icmp_ge C20 (tgt := 114) (dk kX5_init 47 rfl) (by decide) (fun c => absurd c (by decide)) (fun _ => ?_)
  refine g_aload_n C20 (i := 0) 1 rfl rfl (dk kX5_init 48 rfl) ?_
  refine gR_4_5 C20 (zx_o1 C.ok k0 (by decide)) (C20.w wd_1_178) (r := (zn Z + 6)) (by simp [eμ32, eμ31, eμ30, eμ29, eμ28, eμ27, eμ26, eμ25, eμ24, eμ23, eμ22, eμ21, eμ20, eμ19, eμ18, eμ17, eμ16, eμ15, eμ14, eμ13, eμ12, eμ11, eμ10, eμ9, eμ8, eμ7, eμ6, eμ5, eμ4, eμ3, eμ2, eμ1, sR, sI, sIr, nwM, up2, upR, hn0, hn1, hn2, hn3, hn4, hlt0, fr_X2_init, fr_X3_init, fr_X4_init, fr_X1_init]) (dk kX5_init 49 rfl) ?_
  refine g_iload_n C20 (i := 2) 0 rfl rfl (dk kX5_init 50 rfl) ?_
  refine g_new C20 E2 (by show (xs X).heap.size + _ = zb Z + (zn Z + 20); omega) (by show zn Z + 20 < 1000; omega) (c := 1) inTX2 tyX2_ok rfl (by decide) wd_1_103 wd_1_140 wd_1_9 ob_1 ⟨Nat.le_of_ble_eq_true rfl, Nat.le_of_ble_eq_true rfl⟩ (dk kX5_init 51 rfl) ?_
  obtain ⟨μ33, eμ33⟩ : ∃ x : Mm, x = nwM μ32 (zn Z + 20) := ⟨_, rfl⟩
  refine g_eq eμ33 ?_
  refine g_zeq (show _ = zx Z [(2, 0), (8, 24), (8, 24), (8, 24), (8, 7), (10, 6), (9, 6), (3, 0), (8, 6), (3, 0), (8, 6), (3, 0), (8, 6), (3, 0), (8, 6), (3, 0), (8, 6), (3, 0), (8, 6), (1, 0), (1, 0)] from zx_zx) ?_
  have C21 := cx_zx (L := [(2, 0), (8, 24), (8, 24), (8, 24), (8, 7), (10, 6), (9, 6), (3, 0), (8, 6), (3, 0), (8, 6), (3, 0), (8, 6), (3, 0), (8, 6), (3, 0), (8, 6), (3, 0), (8, 6), (1, 0), (1, 0)]) C (by show zn Z + 21 ≤ 1000; omega)
  refine g_dup C21 rfl (dk kX5_init 52 rfl) ?_
  refine g_callIN C21 E2 (by show (xs X).heap.size + _ = zb Z + (zn Z + 21); omega) (rest := [.ref (za Z (zn Z + 20)), .int 1, .ref (za Z (zn Z + 6))]) (host := "WornDots") 0 (ct_X2_init (zx_k1 (L := [(2, 0), (8, 24), (8, 24), (8, 24), (8, 7), (10, 6), (9, 6), (3, 0), (8, 6), (3, 0), (8, 6), (3, 0), (8, 6), (3, 0), (8, 6), (3, 0), (8, 6), (3, 0), (8, 6), (1, 0), (1, 0)]) 20 rfl) (by show zn Z + 21 + 0 ≤ 1000; omega)) (C21.nw.2.1 ("WornDots$State", 47, yX2_init, "WornDots") (List.mem_of_getElem? (i := 4) rfl)) wd_1_142 wd_1_9 wd_1_143 rfl ⟨by decide, by decide, by decide⟩ rfl (by decide) rfl (Nat.le_of_ble_eq_true rfl) ⟨Nat.le_of_ble_eq_true rfl, Nat.le_of_ble_eq_true rfl⟩ (dk kX5_init 53 rfl) ?_
  obtain ⟨μ34, eμ34⟩ : ∃ x : Mm, x = i_X2_init (zn Z + 21) μ33 (zn Z + 20) := ⟨_, rfl⟩
  refine g_eq eμ34 ?_
  refine g_zeq (show _ = zx Z [(2, 0), (8, 24), (8, 24), (8, 24), (8, 7), (10, 6), (9, 6), (3, 0), (8, 6), (3, 0), (8, 6), (3, 0), (8, 6), (3, 0), (8, 6), (3, 0), (8, 6), (3, 0), (8, 6), (1, 0), (1, 0)] from zx_zx) ?_
  have C21 := cx_zx (L := [(2, 0), (8, 24), (8, 24), (8, 24), (8, 7), (10, 6), (9, 6), (3, 0), (8, 6), (3, 0), (8, 6), (3, 0), (8, 6), (3, 0), (8, 6), (3, 0), (8, 6), (3, 0), (8, 6), (1, 0), (1, 0)]) C (by show zn Z + 21 ≤ 1000; omega)
  obtain ⟨μ35, eμ35⟩ : ∃ x : Mm, x = sR μ34 (zn Z + 6) (ix 1) (some (zn Z + 20)) := ⟨_, rfl⟩
  refine pA_9 C21 (zx_k1 (L := [(2, 0), (8, 24), (8, 24), (8, 24), (8, 7), (10, 6), (9, 6), (3, 0), (8, 6), (3, 0), (8, 6), (3, 0), (8, 6), (3, 0), (8, 6), (3, 0), (8, 6), (3, 0), (8, 6), (1, 0), (1, 0)]) 6 rfl) (by rw [(zx_k (L := [(2, 0), (8, 24), (8, 24), (8, 24), (8, 7), (10, 6), (9, 6), (3, 0), (8, 6), (3, 0), (8, 6), (3, 0), (8, 6), (3, 0), (8, 6), (3, 0), (8, 6), (3, 0), (8, 6), (1, 0), (1, 0)]) 6 rfl)]; decide) (zx_k1 (L := [(2, 0), (8, 24), (8, 24), (8, 24), (8, 7), (10, 6), (9, 6), (3, 0), (8, 6), (3, 0), (8, 6), (3, 0), (8, 6), (3, 0), (8, 6), (3, 0), (8, 6), (3, 0), (8, 6), (1, 0), (1, 0)]) 20 rfl) eμ35 (dk kX5_init 54 rfl) ?_
  refine g_iinc C21 (i := 2) (v := 2) (lv' := [(2, .int 2), (0, .ref (za Z a0)), (1, .ref (za Z a1))]) 0 (dk kX5_init 55 rfl) rfl (by decide) (by decide) rfl ?_
  refine g_goto C21 (tgt := 89) (dk kX5_init 56 rfl) (by decide) ?_
  refine g_iload_n C21 (i := 2) 0 rfl rfl (dk kX5_init 45 rfl) ?_
  refine g_bipush C21 (v := 6) (by decide) (dk kX5_init 46 rfl) ?_
  refine g_icmp_ge C21 (tgt := 114) (dk kX5_init 47 rfl) (by decide) (fun c => absurd c (by decide)) (fun _ => ?_)
  refine g_aload_n C21 (i := 0) 1 rfl rfl (dk kX5_init 48 rfl) ?_
  refine gR_4_5 C21 (zx_o1 C.ok k0 (by decide)) (C21.w wd_1_178) (r := (zn Z + 6)) (by simp [eμ35, eμ34, eμ33, eμ32, eμ31, eμ30, eμ29, eμ28, eμ27, eμ26, eμ25, eμ24, eμ23, eμ22, eμ21, eμ20, eμ19, eμ18, eμ17, eμ16, eμ15, eμ14, eμ13, eμ12, eμ11, eμ10, eμ9, eμ8, eμ7, eμ6, eμ5, eμ4, eμ3, eμ2, eμ1, sR, sI, sIr, nwM, up2, upR, hn0, hn1, hn2, hn3, hn4, hlt0, fr_X2_init, fr_X3_init, fr_X4_init, fr_X1_init]) (dk kX5_init 49 rfl) ?_
  refine g_iload_n C21 (i := 2) 0 rfl rfl (dk kX5_init 50 rfl) ?_
  refine g_new C21 E2 (by show (xs X).heap.size + _ = zb Z + (zn Z + 21); omega) (by show zn Z + 21 < 1000; omega) (c := 1) inTX2 tyX2_ok rfl (by decide) wd_1_103 wd_1_140 wd_1_9 ob_1 ⟨Nat.le_of_ble_eq_true rfl, Nat.le_of_ble_eq_true rfl⟩ (dk kX5_init 51 rfl) ?_
  obtain ⟨μ36, eμ36⟩ : ∃ x : Mm, x = nwM μ35 (zn Z + 21) := ⟨_, rfl⟩
  refine g_eq eμ36 ?_
  refine g_zeq (show _ = zx Z [(2, 0), (8, 24), (8, 24), (8, 24), (8, 7), (10, 6), (9, 6), (3, 0), (8, 6), (3, 0), (8, 6), (3, 0), (8, 6), (3, 0), (8, 6), (3, 0), (8, 6), (3, 0), (8, 6), (1, 0), (1, 0), (1, 0)] from zx_zx) ?_
  have C22 := cx_zx (L := [(2, 0), (8, 24), (8, 24), (8, 24), (8, 7), (10, 6), (9, 6), (3, 0), (8, 6), (3, 0), (8, 6), (3, 0), (8, 6), (3, 0), (8, 6), (3, 0), (8, 6), (3, 0), (8, 6), (1, 0), (1, 0), (1, 0)]) C (by show zn Z + 22 ≤ 1000; omega)
  refine g_dup C22 rfl (dk kX5_init 52 rfl) ?_
  refine g_callIN C22 E2 (by show (xs X).heap.size + _ = zb Z + (zn Z + 22); omega) (rest := [.ref (za Z (zn Z + 21)), .int 2, .ref (za Z (zn Z + 6))]) (host := "WornDots") 0 (ct_X2_init (zx_k1 (L := [(2, 0), (8, 24), (8, 24), (8, 24), (8, 7), (10, 6), (9, 6), (3, 0), (8, 6), (3, 0), (8, 6), (3, 0), (8, 6), (3, 0), (8, 6), (3, 0), (8, 6), (3, 0), (8, 6), (1, 0), (1, 0), (1, 0)]) 21 rfl) (by show zn Z + 22 + 0 ≤ 1000; omega)) (C22.nw.2.1 ("WornDots$State", 47, yX2_init, "WornDots") (List.mem_of_getElem? (i := 4) rfl)) wd_1_142 wd_1_9 wd_1_143 rfl ⟨by decide, by decide, by decide⟩ rfl (by decide) rfl (Nat.le_of_ble_eq_true rfl) ⟨Nat.le_of_ble_eq_true rfl, Nat.le_of_ble_eq_true rfl⟩ (dk kX5_init 53 rfl) ?_
  obtain ⟨μ37, eμ37⟩ : ∃ x : Mm, x = i_X2_init (zn Z + 22) μ36 (zn Z + 21) := ⟨_, rfl⟩
  refine g_eq eμ37 ?_
  refine g_zeq (show _ = zx Z [(2, 0), (8, 24), (8, 24), (8, 24), (8, 7), (10, 6), (9, 6), (3, 0), (8, 6), (3, 0), (8, 6), (3, 0), (8, 6), (3, 0), (8, 6), (3, 0), (8, 6), (3, 0), (8, 6), (1, 0), (1, 0), (1, 0)] from zx_zx) ?_
  have C22 := cx_zx (L := [(2, 0), (8, 24), (8, 24), (8, 24), (8, 7), (10, 6), (9, 6), (3, 0), (8, 6), (3, 0), (8, 6), (3, 0), (8, 6), (3, 0), (8, 6), (3, 0), (8, 6), (3, 0), (8, 6), (1, 0), (1, 0), (1, 0)]) C (by show zn Z + 22 ≤ 1000; omega)
  obtain ⟨μ38, eμ38⟩ : ∃ x : Mm, x = sR μ37 (zn Z + 6) (ix 2) (some (zn Z + 21)) := ⟨_, rfl⟩
  refine pA_9 C22 (zx_k1 (L := [(2, 0), (8, 24), (8, 24), (8, 24), (8, 7), (10, 6), (9, 6), (3, 0), (8, 6), (3, 0), (8, 6), (3, 0), (8, 6), (3, 0), (8, 6), (3, 0), (8, 6), (3, 0), (8, 6), (1, 0), (1, 0), (1, 0)]) 6 rfl) (by rw [(zx_k (L := [(2, 0), (8, 24), (8, 24), (8, 24), (8, 7), (10, 6), (9, 6), (3, 0), (8, 6), (3, 0), (8, 6), (3, 0), (8, 6), (3, 0), (8, 6), (3, 0), (8, 6), (3, 0), (8, 6), (1, 0), (1, 0), (1, 0)]) 6 rfl)]; decide) (zx_k1 (L := [(2, 0), (8, 24), (8, 24), (8, 24), (8, 7), (10, 6), (9, 6), (3, 0), (8, 6), (3, 0), (8, 6), (3, 0), (8, 6), (3, 0), (8, 6), (3, 0), (8, 6), (3, 0), (8, 6), (1, 0), (1, 0), (1, 0)]) 21 rfl) eμ38 (dk kX5_init 54 rfl) ?_
  refine g_iinc C22 (i := 2) (v := 3) (lv' := [(2, .int 3), (0, .ref (za Z a0)), (1, .ref (za Z a1))]) 0 (dk kX5_init 55 rfl) rfl (by decide) (by decide) rfl ?_
  refine g_goto C22 (tgt := 89) (dk kX5_init 56 rfl) (by decide) ?_
  refine g_iload_n C22 (i := 2) 0 rfl rfl (dk kX5_init 45 rfl) ?_
  refine g_bipush C22 (v := 6) (by decide) (dk kX5_init 46 rfl) ?_
  refine g_icmp_ge C22 (tgt := 114) (dk kX5_init 47 rfl) (by decide) (fun c => absurd c (by decide)) (fun _ => ?_)
  refine g_aload_n C22 (i := 0) 1 rfl rfl (dk kX5_init 48 rfl) ?_
  refine gR_4_5 C22 (zx_o1 C.ok k0 (by decide)) (C22.w wd_1_178) (r := (zn Z + 6)) (by simp [eμ38, eμ37, eμ36, eμ35, eμ34, eμ33, eμ32, eμ31, eμ30, eμ29, eμ28, eμ27, eμ26, eμ25, eμ24, eμ23, eμ22, eμ21, eμ20, eμ19, eμ18, eμ17, eμ16, eμ15, eμ14, eμ13, eμ12, eμ11, eμ10, eμ9, eμ8, eμ7, eμ6, eμ5, eμ4, eμ3, eμ2, eμ1, sR, sI, sIr, nwM, up2, upR, hn0, hn1, hn2, hn3, hn4, hlt0, fr_X2_init, fr_X3_init, fr_X4_init, fr_X1_init]) (dk kX5_init 49 rfl) ?_
  refine g_iload_n C22 (i := 2) 0 rfl rfl (dk kX5_init 50 rfl) ?_
  refine g_new C22 E2 (by show (xs X).heap.size + _ = zb Z + (zn Z + 22); omega) (by show zn Z + 22 < 1000; omega) (c := 1) inTX2 tyX2_ok rfl (by decide) wd_1_103 wd_1_140 wd_1_9 ob_1 ⟨Nat.le_of_ble_eq_true rfl, Nat.le_of_ble_eq_true rfl⟩ (dk kX5_init 51 rfl) ?_
  obtain ⟨μ39, eμ39⟩ : ∃ x : Mm, x = nwM μ38 (zn Z + 22) := ⟨_, rfl⟩
  refine g_eq eμ39 ?_
  refine g_zeq (show _ = zx Z [(2, 0), (8, 24), (8, 24), (8, 24), (8, 7), (10, 6), (9, 6), (3, 0), (8, 6), (3, 0), (8, 6), (3, 0), (8, 6), (3, 0), (8, 6), (3, 0), (8, 6), (3, 0), (8, 6), (1, 0), (1, 0), (1, 0), (1, 0)] from zx_zx) ?_
  have C23 := cx_zx (L := [(2, 0), (8, 24), (8, 24), (8, 24), (8, 7), (10, 6), (9, 6), (3, 0), (8, 6), (3, 0), (8, 6), (3, 0), (8, 6), (3, 0), (8, 6), (3, 0), (8, 6), (3, 0), (8, 6), (1, 0), (1, 0), (1, 0), (1, 0)]) C (by show zn Z + 23 ≤ 1000; omega)
  refine g_dup C23 rfl (dk kX5_init 52 rfl) ?_
  refine g_callIN C23 E2 (by show (xs X).heap.size + _ = zb Z + (zn Z + 23); omega) (rest := [.ref (za Z (zn Z + 22)), .int 3, .ref (za Z (zn Z + 6))]) (host := "WornDots") 0 (ct_X2_init (zx_k1 (L := [(2, 0), (8, 24), (8, 24), (8, 24), (8, 7), (10, 6), (9, 6), (3, 0), (8, 6), (3, 0), (8, 6), (3, 0), (8, 6), (3, 0), (8, 6), (3, 0), (8, 6), (3, 0), (8, 6), (1, 0), (1, 0), (1, 0), (1, 0)]) 22 rfl) (by show zn Z + 23 + 0 ≤ 1000; omega)) (C23.nw.2.1 ("WornDots$State", 47, yX2_init, "WornDots") (List.mem_of_getElem? (i := 4) rfl)) wd_1_142 wd_1_9 wd_1_143 rfl ⟨by decide, by decide, by decide⟩ rfl (by decide) rfl (Nat.le_of_ble_eq_true rfl) ⟨Nat.le_of_ble_eq_true rfl, Nat.le_of_ble_eq_true rfl⟩ (dk kX5_init 53 rfl) ?_
  obtain ⟨μ40, eμ40⟩ : ∃ x : Mm, x = i_X2_init (zn Z + 23) μ39 (zn Z + 22) := ⟨_, rfl⟩
  refine g_eq eμ40 ?_
  refine g_zeq (show _ = zx Z [(2, 0), (8, 24), (8, 24), (8, 24), (8, 7), (10, 6), (9, 6), (3, 0), (8, 6), (3, 0), (8, 6), (3, 0), (8, 6), (3, 0), (8, 6), (3, 0), (8, 6), (3, 0), (8, 6), (1, 0), (1, 0), (1, 0), (1, 0)] from zx_zx) ?_
  have C23 := cx_zx (L := [(2, 0), (8, 24), (8, 24), (8, 24), (8, 7), (10, 6), (9, 6), (3, 0), (8, 6), (3, 0), (8, 6), (3, 0), (8, 6), (3, 0), (8, 6), (3, 0), (8, 6), (3, 0), (8, 6), (1, 0), (1, 0), (1, 0), (1, 0)]) C (by show zn Z + 23 ≤ 1000; omega)
  obtain ⟨μ41, eμ41⟩ : ∃ x : Mm, x = sR μ40 (zn Z + 6) (ix 3) (some (zn Z + 22)) := ⟨_, rfl⟩
  refine pA_9 C23 (zx_k1 (L := [(2, 0), (8, 24), (8, 24), (8, 24), (8, 7), (10, 6), (9, 6), (3, 0), (8, 6), (3, 0), (8, 6), (3, 0), (8, 6), (3, 0), (8, 6), (3, 0), (8, 6), (3, 0), (8, 6), (1, 0), (1, 0), (1, 0), (1, 0)]) 6 rfl) (by rw [(zx_k (L := [(2, 0), (8, 24), (8, 24), (8, 24), (8, 7), (10, 6), (9, 6), (3, 0), (8, 6), (3, 0), (8, 6), (3, 0), (8, 6), (3, 0), (8, 6), (3, 0), (8, 6), (3, 0), (8, 6), (1, 0), (1, 0), (1, 0), (1, 0)]) 6 rfl)]; decide) (zx_k1 (L := [(2, 0), (8, 24), (8, 24), (8, 24), (8, 7), (10, 6), (9, 6), (3, 0), (8, 6), (3, 0), (8, 6), (3, 0), (8, 6), (3, 0), (8, 6), (3, 0), (8, 6), (3, 0), (8, 6), (1, 0), (1, 0), (1, 0), (1, 0)]) 22 rfl) eμ41 (dk kX5_init 54 rfl) ?_
  refine g_iinc C23 (i := 2) (v := 4) (lv' := [(2, .int 4), (0, .ref (za Z a0)), (1, .ref (za Z a1))]) 0 (dk kX5_init 55 rfl) rfl (by decide) (by decide) rfl ?_
  refine g_goto C23 (tgt := 89) (dk kX5_init 56 rfl) (by decide) ?_
  refine g_iload_n C23 (i := 2) 0 rfl rfl (dk kX5_init 45 rfl) ?_
  refine g_bipush C23 (v := 6) (by decide) (dk kX5_init 46 rfl) ?_
  refine g_icmp_ge C23 (tgt := 114) (dk kX5_init 47 rfl) (by decide) (fun c => absurd c (by decide)) (fun _ => ?_)
  refine g_aload_n C23 (i := 0) 1 rfl rfl (dk kX5_init 48 rfl) ?_
  refine gR_4_5 C23 (zx_o1 C.ok k0 (by decide)) (C23.w wd_1_178) (r := (zn Z + 6)) (by simp [eμ41, eμ40, eμ39, eμ38, eμ37, eμ36, eμ35, eμ34, eμ33, eμ32, eμ31, eμ30, eμ29, eμ28, eμ27, eμ26, eμ25, eμ24, eμ23, eμ22, eμ21, eμ20, eμ19, eμ18, eμ17, eμ16, eμ15, eμ14, eμ13, eμ12, eμ11, eμ10, eμ9, eμ8, eμ7, eμ6, eμ5, eμ4, eμ3, eμ2, eμ1, sR, sI, sIr, nwM, up2, upR, hn0, hn1, hn2, hn3, hn4, hlt0, fr_X2_init, fr_X3_init, fr_X4_init, fr_X1_init]) (dk kX5_init 49 rfl) ?_
  refine g_iload_n C23 (i := 2) 0 rfl rfl (dk kX5_init 50 rfl) ?_
  refine g_new C23 E2 (by show (xs X).heap.size + _ = zb Z + (zn Z + 23); omega) (by show zn Z + 23 < 1000; omega) (c := 1) inTX2 tyX2_ok rfl (by decide) wd_1_103 wd_1_140 wd_1_9 ob_1 ⟨Nat.le_of_ble_eq_true rfl, Nat.le_of_ble_eq_true rfl⟩ (dk kX5_init 51 rfl) ?_
  obtain ⟨μ42, eμ42⟩ : ∃ x : Mm, x = nwM μ41 (zn Z + 23) := ⟨_, rfl⟩
  refine g_eq eμ42 ?_
  refine g_zeq (show _ = zx Z [(2, 0), (8, 24), (8, 24), (8, 24), (8, 7), (10, 6), (9, 6), (3, 0), (8, 6), (3, 0), (8, 6), (3, 0), (8, 6), (3, 0), (8, 6), (3, 0), (8, 6), (3, 0), (8, 6), (1, 0), (1, 0), (1, 0), (1, 0), (1, 0)] from zx_zx) ?_
  have C24 := cx_zx (L := [(2, 0), (8, 24), (8, 24), (8, 24), (8, 7), (10, 6), (9, 6), (3, 0), (8, 6), (3, 0), (8, 6), (3, 0), (8, 6), (3, 0), (8, 6), (3, 0), (8, 6), (3, 0), (8, 6), (1, 0), (1, 0), (1, 0), (1, 0), (1, 0)]) C (by show zn Z + 24 ≤ 1000; omega)
  refine g_dup C24 rfl (dk kX5_init 52 rfl) ?_
  refine g_callIN C24 E2 (by show (xs X).heap.size + _ = zb Z + (zn Z + 24); omega) (rest := [.ref (za Z (zn Z + 23)), .int 4, .ref (za Z (zn Z + 6))]) (host := "WornDots") 0 (ct_X2_init (zx_k1 (L := [(2, 0), (8, 24), (8, 24), (8, 24), (8, 7), (10, 6), (9, 6), (3, 0), (8, 6), (3, 0), (8, 6), (3, 0), (8, 6), (3, 0), (8, 6), (3, 0), (8, 6), (3, 0), (8, 6), (1, 0), (1, 0), (1, 0), (1, 0), (1, 0)]) 23 rfl) (by show zn Z + 24 + 0 ≤ 1000; omega)) (C24.nw.2.1 ("WornDots$State", 47, yX2_init, "WornDots") (List.mem_of_getElem? (i := 4) rfl)) wd_1_142 wd_1_9 wd_1_143 rfl ⟨by decide, by decide, by decide⟩ rfl (by decide) rfl (Nat.le_of_ble_eq_true rfl) ⟨Nat.le_of_ble_eq_true rfl, Nat.le_of_ble_eq_true rfl⟩ (dk kX5_init 53 rfl) ?_
  obtain ⟨μ43, eμ43⟩ : ∃ x : Mm, x = i_X2_init (zn Z + 24) μ42 (zn Z + 23) := ⟨_, rfl⟩
  refine g_eq eμ43 ?_
  refine g_zeq (show _ = zx Z [(2, 0), (8, 24), (8, 24), (8, 24), (8, 7), (10, 6), (9, 6), (3, 0), (8, 6), (3, 0), (8, 6), (3, 0), (8, 6), (3, 0), (8, 6), (3, 0), (8, 6), (3, 0), (8, 6), (1, 0), (1, 0), (1, 0), (1, 0), (1, 0)] from zx_zx) ?_
  have C24 := cx_zx (L := [(2, 0), (8, 24), (8, 24), (8, 24), (8, 7), (10, 6), (9, 6), (3, 0), (8, 6), (3, 0), (8, 6), (3, 0), (8, 6), (3, 0), (8, 6), (3, 0), (8, 6), (3, 0), (8, 6), (1, 0), (1, 0), (1, 0), (1, 0), (1, 0)]) C (by show zn Z + 24 ≤ 1000; omega)
  obtain ⟨μ44, eμ44⟩ : ∃ x : Mm, x = sR μ43 (zn Z + 6) (ix 4) (some (zn Z + 23)) := ⟨_, rfl⟩
  refine pA_9 C24 (zx_k1 (L := [(2, 0), (8, 24), (8, 24), (8, 24), (8, 7), (10, 6), (9, 6), (3, 0), (8, 6), (3, 0), (8, 6), (3, 0), (8, 6), (3, 0), (8, 6), (3, 0), (8, 6), (3, 0), (8, 6), (1, 0), (1, 0), (1, 0), (1, 0), (1, 0)]) 6 rfl) (by rw [(zx_k (L := [(2, 0), (8, 24), (8, 24), (8, 24), (8, 7), (10, 6), (9, 6), (3, 0), (8, 6), (3, 0), (8, 6), (3, 0), (8, 6), (3, 0), (8, 6), (3, 0), (8, 6), (3, 0), (8, 6), (1, 0), (1, 0), (1, 0), (1, 0), (1, 0)]) 6 rfl)]; decide) (zx_k1 (L := [(2, 0), (8, 24), (8, 24), (8, 24), (8, 7), (10, 6), (9, 6), (3, 0), (8, 6), (3, 0), (8, 6), (3, 0), (8, 6), (3, 0), (8, 6), (3, 0), (8, 6), (3, 0), (8, 6), (1, 0), (1, 0), (1, 0), (1, 0), (1, 0)]) 23 rfl) eμ44 (dk kX5_init 54 rfl) ?_
  refine g_iinc C24 (i := 2) (v := 5) (lv' := [(2, .int 5), (0, .ref (za Z a0)), (1, .ref (za Z a1))]) 0 (dk kX5_init 55 rfl) rfl (by decide) (by decide) rfl ?_
  refine g_goto C24 (tgt := 89) (dk kX5_init 56 rfl) (by decide) ?_
  refine g_iload_n C24 (i := 2) 0 rfl rfl (dk kX5_init 45 rfl) ?_
  refine g_bipush C24 (v := 6) (by decide) (dk kX5_init 46 rfl) ?_
  refine g_icmp_ge C24 (tgt := 114) (dk kX5_init 47 rfl) (by decide) (fun c => absurd c (by decide)) (fun _ => ?_)
  refine g_aload_n C24 (i := 0) 1 rfl rfl (dk kX5_init 48 rfl) ?_
  refine gR_4_5 C24 (zx_o1 C.ok k0 (by decide)) (C24.w wd_1_178) (r := (zn Z + 6)) (by simp [eμ44, eμ43, eμ42, eμ41, eμ40, eμ39, eμ38, eμ37, eμ36, eμ35, eμ34, eμ33, eμ32, eμ31, eμ30, eμ29, eμ28, eμ27, eμ26, eμ25, eμ24, eμ23, eμ22, eμ21, eμ20, eμ19, eμ18, eμ17, eμ16, eμ15, eμ14, eμ13, eμ12, eμ11, eμ10, eμ9, eμ8, eμ7, eμ6, eμ5, eμ4, eμ3, eμ2, eμ1, sR, sI, sIr, nwM, up2, upR, hn0, hn1, hn2, hn3, hn4, hlt0, fr_X2_init, fr_X3_init, fr_X4_init, fr_X1_init]) (dk kX5_init 49 rfl) ?_
  refine g_iload_n C24 (i := 2) 0 rfl rfl (dk kX5_init 50 rfl) ?_
  refine g_new C24 E2 (by show (xs X).heap.size + _ = zb Z + (zn Z + 24); omega) (by show zn Z + 24 < 1000; omega) (c := 1) inTX2 tyX2_ok rfl (by decide) wd_1_103 wd_1_140 wd_1_9 ob_1 ⟨Nat.le_of_ble_eq_true rfl, Nat.le_of_ble_eq_true rfl⟩ (dk kX5_init 51 rfl) ?_
  obtain ⟨μ45, eμ45⟩ : ∃ x : Mm, x = nwM μ44 (zn Z + 24) := ⟨_, rfl⟩
  refine g_eq eμ45 ?_
  refine g_zeq (show _ = zx Z [(2, 0), (8, 24), (8, 24), (8, 24), (8, 7), (10, 6), (9, 6), (3, 0), (8, 6), (3, 0), (8, 6), (3, 0), (8, 6), (3, 0), (8, 6), (3, 0), (8, 6), (3, 0), (8, 6), (1, 0), (1, 0), (1, 0), (1, 0), (1, 0), (1, 0)] from zx_zx) ?_
  have C25 := cx_zx (L := [(2, 0), (8, 24), (8, 24), (8, 24), (8, 7), (10, 6), (9, 6), (3, 0), (8, 6), (3, 0), (8, 6), (3, 0), (8, 6), (3, 0), (8, 6), (3, 0), (8, 6), (3, 0), (8, 6), (1, 0), (1, 0), (1, 0), (1, 0), (1, 0), (1, 0)]) C (by show zn Z + 25 ≤ 1000; omega)
  refine g_dup C25 rfl (dk kX5_init 52 rfl) ?_
  refine g_callIN C25 E2 (by show (xs X).heap.size + _ = zb Z + (zn Z + 25); omega) (rest := [.ref (za Z (zn Z + 24)), .int 5, .ref (za Z (zn Z + 6))]) (host := "WornDots") 0 (ct_X2_init (zx_k1 (L := [(2, 0), (8, 24), (8, 24), (8, 24), (8, 7), (10, 6), (9, 6), (3, 0), (8, 6), (3, 0), (8, 6), (3, 0), (8, 6), (3, 0), (8, 6), (3, 0), (8, 6), (3, 0), (8, 6), (1, 0), (1, 0), (1, 0), (1, 0), (1, 0), (1, 0)]) 24 rfl) (by show zn Z + 25 + 0 ≤ 1000; omega)) (C25.nw.2.1 ("WornDots$State", 47, yX2_init, "WornDots") (List.mem_of_getElem? (i := 4) rfl)) wd_1_142 wd_1_9 wd_1_143 rfl ⟨by decide, by decide, by decide⟩ rfl (by decide) rfl (Nat.le_of_ble_eq_true rfl) ⟨Nat.le_of_ble_eq_true rfl, Nat.le_of_ble_eq_true rfl⟩ (dk kX5_init 53 rfl) ?_
  obtain ⟨μ46, eμ46⟩ : ∃ x : Mm, x = i_X2_init (zn Z + 25) μ45 (zn Z + 24) := ⟨_, rfl⟩
  refine g_eq eμ46 ?_
  refine g_zeq (show _ = zx Z [(2, 0), (8, 24), (8, 24), (8, 24), (8, 7), (10, 6), (9, 6), (3, 0), (8, 6), (3, 0), (8, 6), (3, 0), (8, 6), (3, 0), (8, 6), (3, 0), (8, 6), (3, 0), (8, 6), (1, 0), (1, 0), (1, 0), (1, 0), (1, 0), (1, 0)] from zx_zx) ?_
  have C25 := cx_zx (L := [(2, 0), (8, 24), (8, 24), (8, 24), (8, 7), (10, 6), (9, 6), (3, 0), (8, 6), (3, 0), (8, 6), (3, 0), (8, 6), (3, 0), (8, 6), (3, 0), (8, 6), (3, 0), (8, 6), (1, 0), (1, 0), (1, 0), (1, 0), (1, 0), (1, 0)]) C (by show zn Z + 25 ≤ 1000; omega)
  obtain ⟨μ47, eμ47⟩ : ∃ x : Mm, x = sR μ46 (zn Z + 6) (ix 5) (some (zn Z + 24)) := ⟨_, rfl⟩
  refine pA_9 C25 (zx_k1 (L := [(2, 0), (8, 24), (8, 24), (8, 24), (8, 7), (10, 6), (9, 6), (3, 0), (8, 6), (3, 0), (8, 6), (3, 0), (8, 6), (3, 0), (8, 6), (3, 0), (8, 6), (3, 0), (8, 6), (1, 0), (1, 0), (1, 0), (1, 0), (1, 0), (1, 0)]) 6 rfl) (by rw [(zx_k (L := [(2, 0), (8, 24), (8, 24), (8, 24), (8, 7), (10, 6), (9, 6), (3, 0), (8, 6), (3, 0), (8, 6), (3, 0), (8, 6), (3, 0), (8, 6), (3, 0), (8, 6), (3, 0), (8, 6), (1, 0), (1, 0), (1, 0), (1, 0), (1, 0), (1, 0)]) 6 rfl)]; decide) (zx_k1 (L := [(2, 0), (8, 24), (8, 24), (8, 24), (8, 7), (10, 6), (9, 6), (3, 0), (8, 6), (3, 0), (8, 6), (3, 0), (8, 6), (3, 0), (8, 6), (3, 0), (8, 6), (3, 0), (8, 6), (1, 0), (1, 0), (1, 0), (1, 0), (1, 0), (1, 0)]) 24 rfl) eμ47 (dk kX5_init 54 rfl) ?_
  refine g_iinc C25 (i := 2) (v := 6) (lv' := [(2, .int 6), (0, .ref (za Z a0)), (1, .ref (za Z a1))]) 0 (dk kX5_init 55 rfl) rfl (by decide) (by decide) rfl ?_
  refine g_goto C25 (tgt := 89) (dk kX5_init 56 rfl) (by decide) ?_
  refine g_iload_n C25 (i := 2) 0 rfl rfl (dk kX5_init 45 rfl) ?_
  refine g_bipush C25 (v := 6) (by decide) (dk kX5_init 46 rfl) ?_
  refine g_icmp_ge C25 (tgt := 114) (dk kX5_init 47 rfl) (by decide) (fun _ => ?_) (fun c => absurd (by decide) c)
  subst_vars
  exact g_vretZ C E (Nat.le_of_ble_eq_true rfl) (Nat.le_of_ble_eq_true rfl) (dk kX5_init 57 rfl)

theorem fr_X5_init {n b a1 : Nat} {μ : Mm} {k : Nat} (h1 : k ≠ b) (h2 : k < n) : (i_X5_init n μ b a1).2.1 k = μ.2.1 k := by
  have h3 : ∀ i, k ≠ n + i := fun i => by omega
  have h4 : k ≠ n := by omega
  have h5 : ∀ i, k < n + i := fun i => by omega
  funext j
  simp [i_X5_init, sR, sI, sIr, nwM, up2, upR, h1, h2, h3, h4, h5, fr_X2_init, fr_X3_init, fr_X4_init, fr_X1_init]

def qX7_init : List (Nat × Instr × Nat) := [(0, .aload_n 0, 1), (1, .invokespecial 1, 3), (4, .aload_n 0, 1), (5, .new 7, 3), (8, .dup, 1), (9, .invokespecial 9, 3), (12, .putfield 10, 3), (15, .aload_n 0, 1), (16, .iconst 4, 1), (17, .anewarray 16, 3), (20, .putfield 18, 3), (23, .new 22, 3), (26, .dup, 1), (27, .invokespecial 24, 3), (30, .astore_n 1, 1), (31, .aload_n 0, 1), (32, .new 16, 3), (35, .dup, 1), (36, .aload_n 1, 1), (37, .invokespecial 25, 3), (40, .putfield 28, 3), (43, .iconst 0, 1), (44, .istore_n 2, 1), (45, .iload_n 2, 1), (46, .iconst 4, 1), (47, .if_icmp .ge 23, 3), (50, .aload_n 0, 1), (51, .getfield 18, 3), (54, .iload_n 2, 1), (55, .new 16, 3), (58, .dup, 1), (59, .aload_n 1, 1), (60, .invokespecial 25, 3), (63, .aastore, 1), (64, .iinc 2 1, 3), (67, .goto (-22), 3), (70, .return_, 1)]
theorem kX7_init : ∀ q ∈ qX7_init, decode cX7_init q.1 = .ok q.2 := by decide +kernel
def i_X7_init (n : Nat) (μ : Mm) (a0 : Nat) : Mm :=
  let μ1 : Mm := nwM μ (n + 0)
  let μ2 : Mm := i_X1_init (n + 1) μ1 (n + 0)
  let μ3 : Mm := sR μ2 a0 0 (some (n + 0))
  let μ4 : Mm := nwM μ3 (n + 3)
  let μ5 : Mm := sR μ4 a0 1 (some (n + 3))
  let μ6 : Mm := nwM μ5 (n + 4)
  let μ7 : Mm := i_X3_init (n + 5) μ6 (n + 4)
  let μ8 : Mm := nwM μ7 (n + 8)
  let μ9 : Mm := i_X5_init (n + 9) μ8 (n + 8) (n + 4)
  let μ10 : Mm := sR μ9 a0 3 (some (n + 8))
  let μ11 : Mm := nwM μ10 (n + 34)
  let μ12 : Mm := i_X5_init (n + 35) μ11 (n + 34) (n + 4)
  let μ13 : Mm := sR μ12 (n + 3) (ix 0) (some (n + 34))
  let μ14 : Mm := nwM μ13 (n + 60)
  let μ15 : Mm := i_X5_init (n + 61) μ14 (n + 60) (n + 4)
  let μ16 : Mm := sR μ15 (n + 3) (ix 1) (some (n + 60))
  let μ17 : Mm := nwM μ16 (n + 86)
  let μ18 : Mm := i_X5_init (n + 87) μ17 (n + 86) (n + 4)
  let μ19 : Mm := sR μ18 (n + 3) (ix 2) (some (n + 86))
  let μ20 : Mm := nwM μ19 (n + 112)
  let μ21 : Mm := i_X5_init (n + 113) μ20 (n + 112) (n + 4)
  let μ22 : Mm := sR μ21 (n + 3) (ix 3) (some (n + 112))
  μ22
set_option maxRecDepth 100000 in
set_option maxHeartbeats 8000000 in
theorem ct_X7_init {l : Launch} {Z : ZZ} {μ : Mm} {a0 : Nat} (k0 : (zk Z a0).1 = 5) (h1000 : zn Z + 138 ≤ 1000) : CtM l Z true yX7_init cX7_init 3 none 3 138 1270 [.ref (za Z a0)] μ none (zx Z [(0, 0), (7, 150), (8, 3), (11, 4), (2, 0), (8, 24), (8, 24), (8, 24), (4, 0), (2, 0), (8, 24), (8, 24), (8, 24), (8, 7), (10, 6), (9, 6), (3, 0), (8, 6), (3, 0), (8, 6), (3, 0), (8, 6), (3, 0), (8, 6), (3, 0), (8, 6), (3, 0), (8, 6), (1, 0), (1, 0), (1, 0), (1, 0), (1, 0), (1, 0), (4, 0), (2, 0), (8, 24), (8, 24), (8, 24), (8, 7), (10, 6), (9, 6), (3, 0), (8, 6), (3, 0), (8, 6), (3, 0), (8, 6), (3, 0), (8, 6), (3, 0), (8, 6), (3, 0), (8, 6), (1, 0), (1, 0), (1, 0), (1, 0), (1, 0), (1, 0), (4, 0), (2, 0), (8, 24), (8, 24), (8, 24), (8, 7), (10, 6), (9, 6), (3, 0), (8, 6), (3, 0), (8, 6), (3, 0), (8, 6), (3, 0), (8, 6), (3, 0), (8, 6), (3, 0), (8, 6), (1, 0), (1, 0), (1, 0), (1, 0), (1, 0), (1, 0), (4, 0), (2, 0), (8, 24), (8, 24), (8, 24), (8, 7), (10, 6), (9, 6), (3, 0), (8, 6), (3, 0), (8, 6), (3, 0), (8, 6), (3, 0), (8, 6), (3, 0), (8, 6), (3, 0), (8, 6), (1, 0), (1, 0), (1, 0), (1, 0), (1, 0), (1, 0), (4, 0), (2, 0), (8, 24), (8, 24), (8, 24), (8, 7), (10, 6), (9, 6), (3, 0), (8, 6), (3, 0), (8, 6), (3, 0), (8, 6), (3, 0), (8, 6), (3, 0), (8, 6), (3, 0), (8, 6), (1, 0), (1, 0), (1, 0), (1, 0), (1, 0), (1, 0)]) (i_X7_init (zn Z) μ a0) := by
  refine ct_ofI rfl rfl (Nat.le_of_ble_eq_true rfl) (fun X C E hini => ?_)
  have hs0 := C.2.2.2.2.2.2 rfl
  have hlt0 : a0 < zn Z := zk_lt C.ok k0 (by decide)
  have hn0 : ∀ i, a0 ≠ zn Z + i := fun i => by omega
  have hn1 : a0 ≠ zn Z := by omega
  have hn4 : ∀ i, a0 < zn Z + i := fun i => by omega
  have hn2 : ∀ i, zn Z + i ≠ a0 := fun i => by omega
  have hn3 : zn Z ≠ a0 := by omega
  have C0 := cx_zx (L := []) C (by show zn Z + 0 ≤ 1000; omega)
  have E2 := E.2
  show G Z X 3 0 0 0 [(0, .ref (za Z a0))] [] μ
  refine g_zin C.ok ?_
  refine g_aload_n C0 (i := 0) 0 rfl rfl (dk kX7_init 0 rfl) ?_
  refine g_objI C0 E2 wd_1_29 wd_1_30 wd_1_31 (by decide) (Nat.le_of_ble_eq_true rfl) (dk kX7_init 1 rfl) ?_
  refine g_aload_n C0 (i := 0) 0 rfl rfl (dk kX7_init 2 rfl) ?_
  refine g_new C0 E2 (by show (xs X).heap.size + _ = zb Z + (zn Z + 0); omega) (by show zn Z + 0 < 1000; omega) (c := 0) inTX1 tyX1_ok rfl (by decide) wd_1_32 wd_1_33 wd_1_2 ob_0 ⟨Nat.le_of_ble_eq_true rfl, Nat.le_of_ble_eq_true rfl⟩ (dk kX7_init 3 rfl) ?_
  obtain ⟨μ1, eμ1⟩ : ∃ x : Mm, x = nwM μ (zn Z + 0) := ⟨_, rfl⟩
  refine g_eq eμ1 ?_
  refine g_zeq (show _ = zx Z [(0, 0)] from zx_zx) ?_
  have C1 := cx_zx (L := [(0, 0)]) C (by show zn Z + 1 ≤ 1000; omega)
  refine g_dup C1 rfl (dk kX7_init 4 rfl) ?_
  refine g_callIN C1 E2 (by show (xs X).heap.size + _ = zb Z + (zn Z + 1); omega) (rest := [.ref (za Z (zn Z + 0)), .ref (za Z a0)]) (host := "WornDots") 0 (ct_X1_init (zx_k1 (L := [(0, 0)]) 0 rfl) (by show zn Z + 1 + 2 ≤ 1000; omega)) (C1.nw.2.1 ("WornDots", 9, yX1_init, "WornDots") (List.mem_of_getElem? (i := 0) rfl)) wd_1_35 wd_1_2 wd_1_36 rfl ⟨by decide, by decide, by decide⟩ rfl (by decide) rfl (Nat.le_of_ble_eq_true rfl) ⟨Nat.le_of_ble_eq_true rfl, Nat.le_of_ble_eq_true rfl⟩ (dk kX7_init 5 rfl) ?_
  obtain ⟨μ2, eμ2⟩ : ∃ x : Mm, x = i_X1_init (zn Z + 1) μ1 (zn Z + 0) := ⟨_, rfl⟩
  refine g_eq eμ2 ?_
  refine g_zeq (show _ = zx Z [(0, 0), (7, 150), (8, 3)] from zx_zx) ?_
  have C3 := cx_zx (L := [(0, 0), (7, 150), (8, 3)]) C (by show zn Z + 3 ≤ 1000; omega)
  obtain ⟨μ3, eμ3⟩ : ∃ x : Mm, x = sR μ2 a0 0 (some (zn Z + 0)) := ⟨_, rfl⟩
  refine pF_5_0 C3 (zx_o1 C.ok k0 (by decide)) (C3.w wd_1_200) hini rfl eμ3 (dk kX7_init 6 rfl) ?_
  refine g_aload_n C3 (i := 0) 0 rfl rfl (dk kX7_init 7 rfl) ?_
  refine g_iconst C3 (v := 4) (by decide) (dk kX7_init 8 rfl) ?_
  refine g_newR C3 E2 (by show (xs X).heap.size + _ = zb Z + (zn Z + 3); omega) (by show zn Z + 3 < 1000; omega) 4 (CN := "WornDots$State") 11 4 rfl (by decide) (by decide) rfl wd_1_64 (C3.nw.2.2.2.2.2.2 "WornDots$State" (List.mem_of_getElem? (i := 0) rfl)) (by decide) (by decide) (by decide) ⟨Nat.le_of_ble_eq_true rfl, Nat.le_of_ble_eq_true rfl⟩ (dk kX7_init 9 rfl) ?_
  obtain ⟨μ4, eμ4⟩ : ∃ x : Mm, x = nwM μ3 (zn Z + 3) := ⟨_, rfl⟩
  refine g_eq eμ4 ?_
  refine g_zeq (show _ = zx Z [(0, 0), (7, 150), (8, 3), (11, 4)] from zx_zx) ?_
  have C4 := cx_zx (L := [(0, 0), (7, 150), (8, 3), (11, 4)]) C (by show zn Z + 4 ≤ 1000; omega)
  obtain ⟨μ5, eμ5⟩ : ∃ x : Mm, x = sR μ4 a0 1 (some (zn Z + 3)) := ⟨_, rfl⟩
  refine pF_5_1 C4 (zx_o1 C.ok k0 (by decide)) (C4.w wd_1_201) hini rfl eμ5 (dk kX7_init 10 rfl) ?_
  refine g_new C4 E2 (by show (xs X).heap.size + _ = zb Z + (zn Z + 4); omega) (by show zn Z + 4 < 1000; omega) (c := 2) inTX3 tyX3_ok rfl (by decide) wd_1_66 wd_1_67 wd_1_5 ob_2 ⟨Nat.le_of_ble_eq_true rfl, Nat.le_of_ble_eq_true rfl⟩ (dk kX7_init 11 rfl) ?_
  obtain ⟨μ6, eμ6⟩ : ∃ x : Mm, x = nwM μ5 (zn Z + 4) := ⟨_, rfl⟩
  refine g_eq eμ6 ?_
  refine g_zeq (show _ = zx Z [(0, 0), (7, 150), (8, 3), (11, 4), (2, 0)] from zx_zx) ?_
  have C5 := cx_zx (L := [(0, 0), (7, 150), (8, 3), (11, 4), (2, 0)]) C (by show zn Z + 5 ≤ 1000; omega)
  refine g_dup C5 rfl (dk kX7_init 12 rfl) ?_
  refine g_callIN C5 E2 (by show (xs X).heap.size + _ = zb Z + (zn Z + 5); omega) (rest := [.ref (za Z (zn Z + 4))]) (host := "WornDots") 0 (ct_X3_init (zx_k1 (L := [(0, 0), (7, 150), (8, 3), (11, 4), (2, 0)]) 4 rfl) (by show zn Z + 5 + 3 ≤ 1000; omega)) (C5.nw.2.1 ("WornDots", 24, yX3_init, "WornDots") (List.mem_of_getElem? (i := 1) rfl)) wd_1_69 wd_1_5 wd_1_70 rfl ⟨by decide, by decide, by decide⟩ rfl (by decide) rfl (Nat.le_of_ble_eq_true rfl) ⟨Nat.le_of_ble_eq_true rfl, Nat.le_of_ble_eq_true rfl⟩ (dk kX7_init 13 rfl) ?_
  obtain ⟨μ7, eμ7⟩ : ∃ x : Mm, x = i_X3_init (zn Z + 5) μ6 (zn Z + 4) := ⟨_, rfl⟩
  refine g_eq eμ7 ?_
  refine g_zeq (show _ = zx Z [(0, 0), (7, 150), (8, 3), (11, 4), (2, 0), (8, 24), (8, 24), (8, 24)] from zx_zx) ?_
  have C8 := cx_zx (L := [(0, 0), (7, 150), (8, 3), (11, 4), (2, 0), (8, 24), (8, 24), (8, 24)]) C (by show zn Z + 8 ≤ 1000; omega)
  refine g_astore_n C8 (i := 1) (lv' := [(1, .ref (za Z (zn Z + 4))), (0, .ref (za Z a0))]) (dk kX7_init 14 rfl) rfl (by decide) rfl ?_
  refine g_aload_n C8 (i := 0) 1 rfl rfl (dk kX7_init 15 rfl) ?_
  refine g_new C8 E2 (by show (xs X).heap.size + _ = zb Z + (zn Z + 8); omega) (by show zn Z + 8 < 1000; omega) (c := 4) inTX5 tyX5_ok rfl (by decide) wd_1_64 wd_1_94 wd_1_6 ob_4 ⟨Nat.le_of_ble_eq_true rfl, Nat.le_of_ble_eq_true rfl⟩ (dk kX7_init 16 rfl) ?_
  obtain ⟨μ8, eμ8⟩ : ∃ x : Mm, x = nwM μ7 (zn Z + 8) := ⟨_, rfl⟩
  refine g_eq eμ8 ?_
  refine g_zeq (show _ = zx Z [(0, 0), (7, 150), (8, 3), (11, 4), (2, 0), (8, 24), (8, 24), (8, 24), (4, 0)] from zx_zx) ?_
  have C9 := cx_zx (L := [(0, 0), (7, 150), (8, 3), (11, 4), (2, 0), (8, 24), (8, 24), (8, 24), (4, 0)]) C (by show zn Z + 9 ≤ 1000; omega)
  refine g_dup C9 rfl (dk kX7_init 17 rfl) ?_
  refine g_aload_n C9 (i := 1) 0 rfl rfl (dk kX7_init 18 rfl) ?_
  refine g_callI C9 E2 (by show (xs X).heap.size + _ = zb Z + (zn Z + 9); omega) (rest := [.ref (za Z (zn Z + 8)), .ref (za Z a0)]) 1 (ct_X5_init (zx_k1 (L := [(0, 0), (7, 150), (8, 3), (11, 4), (2, 0), (8, 24), (8, 24), (8, 24), (4, 0)]) 8 rfl) (zx_k1 (L := [(0, 0), (7, 150), (8, 3), (11, 4), (2, 0), (8, 24), (8, 24), (8, 24), (4, 0)]) 4 rfl) (by show zn Z + 9 + 25 ≤ 1000; omega)) wd_1_95 wd_1_96 wd_1_6 wd_1_97 rfl ⟨by decide, by decide, by decide⟩ rfl (by decide) rfl (Nat.le_of_ble_eq_true rfl) ⟨Nat.le_of_ble_eq_true rfl, Nat.le_of_ble_eq_true rfl⟩ (dk kX7_init 19 rfl) ?_
  obtain ⟨μ9, eμ9⟩ : ∃ x : Mm, x = i_X5_init (zn Z + 9) μ8 (zn Z + 8) (zn Z + 4) := ⟨_, rfl⟩
  refine g_eq eμ9 ?_
  refine g_zeq (show _ = zx Z [(0, 0), (7, 150), (8, 3), (11, 4), (2, 0), (8, 24), (8, 24), (8, 24), (4, 0), (2, 0), (8, 24), (8, 24), (8, 24), (8, 7), (10, 6), (9, 6), (3, 0), (8, 6), (3, 0), (8, 6), (3, 0), (8, 6), (3, 0), (8, 6), (3, 0), (8, 6), (3, 0), (8, 6), (1, 0), (1, 0), (1, 0), (1, 0), (1, 0), (1, 0)] from zx_zx) ?_
  have C34 := cx_zx (L := [(0, 0), (7, 150), (8, 3), (11, 4), (2, 0), (8, 24), (8, 24), (8, 24), (4, 0), (2, 0), (8, 24), (8, 24), (8, 24), (8, 7), (10, 6), (9, 6), (3, 0), (8, 6), (3, 0), (8, 6), (3, 0), (8, 6), (3, 0), (8, 6), (3, 0), (8, 6), (3, 0), (8, 6), (1, 0), (1, 0), (1, 0), (1, 0), (1, 0), (1, 0)]) C (by show zn Z + 34 ≤ 1000; omega)
  obtain ⟨μ10, eμ10⟩ : ∃ x : Mm, x = sR μ9 a0 3 (some (zn Z + 8)) := ⟨_, rfl⟩
  refine pF_5_3 C34 (zx_o1 C.ok k0 (by decide)) (C34.w wd_1_203) hini rfl eμ10 (dk kX7_init 20 rfl) ?_
  refine g_iconst C34 (v := 0) (by decide) (dk kX7_init 21 rfl) ?_
  refine g_istore_n C34 (i := 2) (lv' := [(2, .int 0), (1, .ref (za Z (zn Z + 4))), (0, .ref (za Z a0))]) (dk kX7_init 22 rfl) rfl (by decide) rfl ?_
  refine g_iload_n C34 (i := 2) 0 rfl rfl (dk kX7_init 23 rfl) ?_
  refine g_iconst C34 (v := 4) (by decide) (dk kX7_init 24 rfl) ?_
  refine g_icmp_ge C34 (tgt := 70) (dk kX7_init 25 rfl) (by decide) (fun c => absurd c (by decide)) (fun _ => ?_)
  refine g_aload_n C34 (i := 0) 2 rfl rfl (dk kX7_init 26 rfl) ?_
  refine gR_5_1 C34 (zx_o1 C.ok k0 (by decide)) (C34.w wd_1_201) (r := (zn Z + 3)) (by simp [eμ10, eμ9, eμ8, eμ7, eμ6, eμ5, eμ4, eμ3, eμ2, eμ1, sR, sI, sIr, nwM, up2, upR, hn0, hn1, hn2, hn3, hn4, hlt0, fr_X2_init, fr_X3_init, fr_X4_init, fr_X1_init, fr_X5_init]) (dk kX7_init 27 rfl) ?_
  refine g_iload_n C34 (i := 2) 0 rfl rfl (dk kX7_init 28 rfl) ?_
  refine g_new C34 E2 (by show (xs X).heap.size + _ = zb Z + (zn Z + 34); omega) (by show zn Z + 34 < 1000; omega) (c := 4) inTX5 tyX5_ok rfl (by decide) wd_1_64 wd_1_94 wd_1_6 ob_4 ⟨Nat.le_of_ble_eq_true rfl, Nat.le_of_ble_eq_true rfl⟩ (dk kX7_init 29 rfl) ?_
  obtain ⟨μ11, eμ11⟩ : ∃ x : Mm, x = nwM μ10 (zn Z + 34) := ⟨_, rfl⟩
  refine g_eq eμ11 ?_
  refine g_zeq (show _ = zx Z [(0, 0), (7, 150), (8, 3), (11, 4), (2, 0), (8, 24), (8, 24), (8, 24), (4, 0), (2, 0), (8, 24), (8, 24), (8, 24), (8, 7), (10, 6), (9, 6), (3, 0), (8, 6), (3, 0), (8, 6), (3, 0), (8, 6), (3, 0), (8, 6), (3, 0), (8, 6), (3, 0), (8, 6), (1, 0), (1, 0), (1, 0), (1, 0), (1, 0), (1, 0), (4, 0)] from zx_zx) ?_
  have C35 := cx_zx (L := [(0, 0), (7, 150), (8, 3), (11, 4), (2, 0), (8, 24), (8, 24), (8, 24), (4, 0), (2, 0), (8, 24), (8, 24), (8, 24), (8, 7), (10, 6), (9, 6), (3, 0), (8, 6), (3, 0), (8, 6), (3, 0), (8, 6), (3, 0), (8, 6), (3, 0), (8, 6), (3, 0), (8, 6), (1, 0), (1, 0), (1, 0), (1, 0), (1, 0), (1, 0), (4, 0)]) C (by show zn Z + 35 ≤ 1000; omega)
  refine g_dup C35 rfl (dk kX7_init 30 rfl) ?_
  refine g_aload_n C35 (i := 1) 1 rfl rfl (dk kX7_init 31 rfl) ?_
  refine g_callI C35 E2 (by show (xs X).heap.size + _ = zb Z + (zn Z + 35); omega) (rest := [.ref (za Z (zn Z + 34)), .int 0, .ref (za Z (zn Z + 3))]) 1 (ct_X5_init (zx_k1 (L := [(0, 0), (7, 150), (8, 3), (11, 4), (2, 0), (8, 24), (8, 24), (8, 24), (4, 0), (2, 0), (8, 24), (8, 24), (8, 24), (8, 7), (10, 6), (9, 6), (3, 0), (8, 6), (3, 0), (8, 6), (3, 0), (8, 6), (3, 0), (8, 6), (3, 0), (8, 6), (3, 0), (8, 6), (1, 0), (1, 0), (1, 0), (1, 0), (1, 0), (1, 0), (4, 0)]) 34 rfl) (zx_k1 (L := [(0, 0), (7, 150), (8, 3), (11, 4), (2, 0), (8, 24), (8, 24), (8, 24), (4, 0), (2, 0), (8, 24), (8, 24), (8, 24), (8, 7), (10, 6), (9, 6), (3, 0), (8, 6), (3, 0), (8, 6), (3, 0), (8, 6), (3, 0), (8, 6), (3, 0), (8, 6), (3, 0), (8, 6), (1, 0), (1, 0), (1, 0), (1, 0), (1, 0), (1, 0), (4, 0)]) 4 rfl) (by show zn Z + 35 + 25 ≤ 1000; omega)) wd_1_95 wd_1_96 wd_1_6 wd_1_97 rfl ⟨by decide, by decide, by decide⟩ rfl (by decide) rfl (Nat.le_of_ble_eq_true rfl) ⟨Nat.le_of_ble_eq_true rfl, Nat.le_of_ble_eq_true rfl⟩ (dk kX7_init 32 rfl) ?_
  obtain ⟨μ12, eμ12⟩ : ∃ x : Mm, x = i_X5_init (zn Z + 35) μ11 (zn Z + 34) (zn Z + 4) := ⟨_, rfl⟩
  refine g_eq eμ12 ?_
  refine g_zeq (show _ = zx Z [(0, 0), (7, 150), (8, 3), (11, 4), (2, 0), (8, 24), (8, 24), (8, 24), (4, 0), (2, 0), (8, 24), (8, 24), (8, 24), (8, 7), (10, 6), (9, 6), (3, 0), (8, 6), (3, 0), (8, 6), (3, 0), (8, 6), (3, 0), (8, 6), (3, 0), (8, 6), (3, 0), (8, 6), (1, 0), (1, 0), (1, 0), (1, 0), (1, 0), (1, 0), (4, 0), (2, 0), (8, 24), (8, 24), (8, 24), (8, 7), (10, 6), (9, 6), (3, 0), (8, 6), (3, 0), (8, 6), (3, 0), (8, 6), (3, 0), (8, 6), (3, 0), (8, 6), (3, 0), (8, 6), (1, 0), (1, 0), (1, 0), (1, 0), (1, 0), (1, 0)] from zx_zx) ?_
  have C60 := cx_zx (L := [(0, 0), (7, 150), (8, 3), (11, 4), (2, 0), (8, 24), (8, 24), (8, 24), (4, 0), (2, 0), (8, 24), (8, 24), (8, 24), (8, 7), (10, 6), (9, 6), (3, 0), (8, 6), (3, 0), (8, 6), (3, 0), (8, 6), (3, 0), (8, 6), (3, 0), (8, 6), (3, 0), (8, 6), (1, 0), (1, 0), (1, 0), (1, 0), (1, 0), (1, 0), (4, 0), (2, 0), (8, 24), (8, 24), (8, 24), (8, 7), (10, 6), (9, 6), (3, 0), (8, 6), (3, 0), (8, 6), (3, 0), (8, 6), (3, 0), (8, 6), (3, 0), (8, 6), (3, 0), (8, 6), (1, 0), (1, 0), (1, 0), (1, 0), (1, 0), (1, 0)]) C (by show zn Z + 60 ≤ 1000; omega)
  obtain ⟨μ13, eμ13⟩ : ∃ x : Mm, x = sR μ12 (zn Z + 3) (ix 0) (some (zn Z + 34)) := ⟨_, rfl⟩
  refine pA_11 C60 (zx_k1 (L := [(0, 0), (7, 150), (8, 3), (11, 4), (2, 0), (8, 24), (8, 24), (8, 24), (4, 0), (2, 0), (8, 24), (8, 24), (8, 24), (8, 7), (10, 6), (9, 6), (3, 0), (8, 6), (3, 0), (8, 6), (3, 0), (8, 6), (3, 0), (8, 6), (3, 0), (8, 6), (3, 0), (8, 6), (1, 0), (1, 0), (1, 0), (1, 0), (1, 0), (1, 0), (4, 0), (2, 0), (8, 24), (8, 24), (8, 24), (8, 7), (10, 6), (9, 6), (3, 0), (8, 6), (3, 0), (8, 6), (3, 0), (8, 6), (3, 0), (8, 6), (3, 0), (8, 6), (3, 0), (8, 6), (1, 0), (1, 0), (1, 0), (1, 0), (1, 0), (1, 0)]) 3 rfl) (by rw [(zx_k (L := [(0, 0), (7, 150), (8, 3), (11, 4), (2, 0), (8, 24), (8, 24), (8, 24), (4, 0), (2, 0), (8, 24), (8, 24), (8, 24), (8, 7), (10, 6), (9, 6), (3, 0), (8, 6), (3, 0), (8, 6), (3, 0), (8, 6), (3, 0), (8, 6), (3, 0), (8, 6), (3, 0), (8, 6), (1, 0), (1, 0), (1, 0), (1, 0), (1, 0), (1, 0), (4, 0), (2, 0), (8, 24), (8, 24), (8, 24), (8, 7), (10, 6), (9, 6), (3, 0), (8, 6), (3, 0), (8, 6), (3, 0), (8, 6), (3, 0), (8, 6), (3, 0), (8, 6), (3, 0), (8, 6), (1, 0), (1, 0), (1, 0), (1, 0), (1, 0), (1, 0)]) 3 rfl)]; decide) (zx_k1 (L := [(0, 0), (7, 150), (8, 3), (11, 4), (2, 0), (8, 24), (8, 24), (8, 24), (4, 0), (2, 0), (8, 24), (8, 24), (8, 24), (8, 7), (10, 6), (9, 6), (3, 0), (8, 6), (3, 0), (8, 6), (3, 0), (8, 6), (3, 0), (8, 6), (3, 0), (8, 6), (3, 0), (8, 6), (1, 0), (1, 0), (1, 0), (1, 0), (1, 0), (1, 0), (4, 0), (2, 0), (8, 24), (8, 24), (8, 24), (8, 7), (10, 6), (9, 6), (3, 0), (8, 6), (3, 0), (8, 6), (3, 0), (8, 6), (3, 0), (8, 6), (3, 0), (8, 6), (3, 0), (8, 6), (1, 0), (1, 0), (1, 0), (1, 0), (1, 0), (1, 0)]) 34 rfl) eμ13 (dk kX7_init 33 rfl) ?_
  refine g_iinc C60 (i := 2) (v := 1) (lv' := [(2, .int 1), (1, .ref (za Z (zn Z + 4))), (0, .ref (za Z a0))]) 0 (dk kX7_init 34 rfl) rfl (by decide) (by decide) rfl ?_
  refine g_goto C60 (tgt := 45) (dk kX7_init 35 rfl) (by decide) ?_
  refine g_iload_n C60 (i := 2) 0 rfl rfl (dk kX7_init 23 rfl) ?_
  refine g_iconst C60 (v := 4) (by decide) (dk kX7_init 24 rfl) ?_
  refine g_icmp_ge C60 (tgt := 70) (dk kX7_init 25 rfl) (by decide) (fun c => absurd c (by decide)) (fun _ => ?_)
  refine g_aload_n C60 (i := 0) 2 rfl rfl (dk kX7_init 26 rfl) ?_
  refine gR_5_1 C60 (zx_o1 C.ok k0 (by decide)) (C60.w wd_1_201) (r := (zn Z + 3)) (by simp [eμ13, eμ12, eμ11, eμ10, eμ9, eμ8, eμ7, eμ6, eμ5, eμ4, eμ3, eμ2, eμ1, sR, sI, sIr, nwM, up2, upR, hn0, hn1, hn2, hn3, hn4, hlt0, fr_X2_init, fr_X3_init, fr_X4_init, fr_X1_init, fr_X5_init]) (dk kX7_init 27 rfl) ?_
  refine g_iload_n C60 (i := 2) 0 rfl rfl (dk kX7_init 28 rfl) ?_
  refine g_new C60 E2 (by show (xs X).heap.size + _ = zb Z + (zn Z + 60); omega) (by show zn Z + 60 < 1000; omega) (c := 4) inTX5 tyX5_ok rfl (by decide) wd_1_64 wd_1_94 wd_1_6 ob_4 ⟨Nat.le_of_ble_eq_true rfl, Nat.le_of_ble_eq_true rfl⟩ (dk kX7_init 29 rfl) ?_
  obtain ⟨μ14, eμ14⟩ : ∃ x : Mm, x = nwM μ13 (zn Z + 60) := ⟨_, rfl⟩
  refine g_eq eμ14 ?_
  refine g_zeq (show _ = zx Z [(0, 0), (7, 150), (8, 3), (11, 4), (2, 0), (8, 24), (8, 24), (8, 24), (4, 0), (2, 0), (8, 24), (8, 24), (8, 24), (8, 7), (10, 6), (9, 6), (3, 0), (8, 6), (3, 0), (8, 6), (3, 0), (8, 6), (3, 0), (8, 6), (3, 0), (8, 6), (3, 0), (8, 6), (1, 0), (1, 0), (1, 0), (1, 0), (1, 0), (1, 0), (4, 0), (2, 0), (8, 24), (8, 24), (8, 24), (8, 7), (10, 6), (9, 6), (3, 0), (8, 6), (3, 0), (8, 6), (3, 0), (8, 6), (3, 0), (8, 6), (3, 0), (8, 6), (3, 0), (8, 6), (1, 0), (1, 0), (1, 0), (1, 0), (1, 0), (1, 0), (4, 0)] from zx_zx) ?_
  have C61 := cx_zx (L := [(0, 0), (7, 150), (8, 3), (11, 4), (2, 0), (8, 24), (8, 24), (8, 24), (4, 0), (2, 0), (8, 24), (8, 24), (8, 24), (8, 7), (10, 6), (9, 6), (3, 0), (8, 6), (3, 0), (8, 6), (3, 0), (8, 6), (3, 0), (8, 6), (3, 0), (8, 6), (3, 0), (8, 6), (1, 0), (1, 0), (1, 0), (1, 0), (1, 0), (1, 0), (4, 0), (2, 0), (8, 24), (8, 24), (8, 24), (8, 7), (10, 6), (9, 6), (3, 0), (8, 6), (3, 0), (8, 6), (3, 0), (8, 6), (3, 0), (8, 6), (3, 0), (8, 6), (3, 0), (8, 6), (1, 0), (1, 0), (1, 0), (1, 0), (1, 0), (1, 0), (4, 0)]) C (by show zn Z + 61 ≤ 1000; omega)
  refine g_dup C61 rfl (dk kX7_init 30 rfl) ?_
  refine g_aload_n C61 (i := 1) 1 rfl rfl (dk kX7_init 31 rfl) ?_
  refine g_callI C61 E2 (by show (xs X).heap.size + _ = zb Z + (zn Z + 61); omega) (rest := [.ref (za Z (zn Z + 60)), .int 1, .ref (za Z (zn Z + 3))]) 1 (ct_X5_init (zx_k1 (L := [(0, 0), (7, 150), (8, 3), (11, 4), (2, 0), (8, 24), (8, 24), (8, 24), (4, 0), (2, 0), (8, 24), (8, 24), (8, 24), (8, 7), (10, 6), (9, 6), (3, 0), (8, 6), (3, 0), (8, 6), (3, 0), (8, 6), (3, 0), (8, 6), (3, 0), (8, 6), (3, 0), (8, 6), (1, 0), (1, 0), (1, 0), (1, 0), (1, 0), (1, 0), (4, 0), (2, 0), (8, 24), (8, 24), (8, 24), (8, 7), (10, 6), (9, 6), (3, 0), (8, 6), (3, 0), (8, 6), (3, 0), (8, 6), (3, 0), (8, 6), (3, 0), (8, 6), (3, 0), (8, 6), (1, 0), (1, 0), (1, 0), (1, 0), (1, 0), (1, 0), (4, 0)]) 60 rfl) (zx_k1 (L := [(0, 0), (7, 150), (8, 3), (11, 4), (2, 0), (8, 24), (8, 24), (8, 24), (4, 0), (2, 0), (8, 24), (8, 24), (8, 24), (8, 7), (10, 6), (9, 6), (3, 0), (8, 6), (3, 0), (8, 6), (3, 0), (8, 6), (3, 0), (8, 6), (3, 0), (8, 6), (3, 0), (8, 6), (1, 0), (1, 0), (1, 0), (1, 0), (1, 0), (1, 0), (4, 0), (2, 0), (8, 24), (8, 24), (8, 24), (8, 7), (10, 6), (9, 6), (3, 0), (8, 6), (3, 0), (8, 6), (3, 0), (8, 6), (3, 0), (8, 6), (3, 0), (8, 6), (3, 0), (8, 6), (1, 0), (1, 0), (1, 0), (1, 0), (1, 0), (1, 0), (4, 0)]) 4 rfl) (by show zn Z + 61 + 25 ≤ 1000; omega)) wd_1_95 wd_1_96 wd_1_6 wd_1_97 rfl ⟨by decide, by decide, by decide⟩ rfl (by decide) rfl (Nat.le_of_ble_eq_true rfl) ⟨Nat.le_of_ble_eq_true rfl, Nat.le_of_ble_eq_true rfl⟩ (dk kX7_init 32 rfl) ?_
  obtain ⟨μ15, eμ15⟩ : ∃ x : Mm, x = i_X5_init (zn Z + 61) μ14 (zn Z + 60) (zn Z + 4) := ⟨_, rfl⟩
  refine g_eq eμ15 ?_
  refine g_zeq (show _ = zx Z [(0, 0), (7, 150), (8, 3), (11, 4), (2, 0), (8, 24), (8, 24), (8, 24), (4, 0), (2, 0), (8, 24), (8, 24), (8, 24), (8, 7), (10, 6), (9, 6), (3, 0), (8, 6), (3, 0), (8, 6), (3, 0), (8, 6), (3, 0), (8, 6), (3, 0), (8, 6), (3, 0), (8, 6), (1, 0), (1, 0), (1, 0), (1, 0), (1, 0), (1, 0), (4, 0), (2, 0), (8, 24), (8, 24), (8, 24), (8, 7), (10, 6), (9, 6), (3, 0), (8, 6), (3, 0), (8, 6), (3, 0), (8, 6), (3, 0), (8, 6), (3, 0), (8, 6), (3, 0), (8, 6), (1, 0), (1, 0), (1, 0), (1, 0), (1, 0), (1, 0), (4, 0), (2, 0), (8, 24), (8, 24), (8, 24), (8, 7), (10, 6), (9, 6), (3, 0), (8, 6), (3, 0), (8, 6), (3, 0), (8, 6), (3, 0), (8, 6), (3, 0), (8, 6), (3, 0), (8, 6), (1, 0), (1, 0), (1, 0), (1, 0), (1, 0), (1, 0)] from zx_zx) ?_
  have C86 := cx_zx (L := [(0, 0), (7, 150), (8, 3), (11, 4), (2, 0), (8, 24), (8, 24), (8, 24), (4, 0), (2, 0), (8, 24), (8, 24), (8, 24), (8, 7), (10, 6), (9, 6), (3, 0), (8, 6), (3, 0), (8, 6), (3, 0), (8, 6), (3, 0), (8, 6), (3, 0), (8, 6), (3, 0), (8, 6), (1, 0), (1, 0), (1, 0), (1, 0), (1, 0), (1, 0), (4, 0), (2, 0), (8, 24), (8, 24), (8, 24), (8, 7), (10, 6), (9, 6), (3, 0), (8, 6), (3, 0), (8, 6), (3, 0), (8, 6), (3, 0), (8, 6), (3, 0), (8, 6), (3, 0), (8, 6), (1, 0), (1, 0), (1, 0), (1, 0), (1, 0), (1, 0), (4, 0), (2, 0), (8, 24), (8, 24), (8, 24), (8, 7), (10, 6), (9, 6), (3, 0), (8, 6), (3, 0), (8, 6), (3, 0), (8, 6), (3, 0), (8, 6), (3, 0), (8, 6), (3, 0), (8, 6), (1, 0), (1, 0), (1, 0), (1, 0), (1, 0), (1, 0)]) C (by show zn Z + 86 ≤ 1000; omega)
  obtain ⟨μ16, eμ16⟩ : ∃ x : Mm, x = sR μ15 (zn Z + 3) (ix 1) (some (zn Z + 60)) := ⟨_, rfl⟩
  refine pA_11 C86 (zx_k1 (L := [(0, 0), (7, 150), (8, 3), (11, 4), (2, 0), (8, 24), (8, 24), (8, 24), (4, 0), (2, 0), (8, 24), (8, 24), (8, 24), (8, 7), (10, 6), (9, 6), (3, 0), (8, 6), (3, 0), (8, 6), (3, 0), (8, 6), (3, 0), (8, 6), (3, 0), (8, 6), (3, 0), (8, 6), (1, 0), (1, 0), (1, 0), (1, 0), (1, 0), (1, 0), (4, 0), (2, 0), (8, 24), (8, 24), (8, 24), (8, 7), (10, 6), (9, 6), (3, 0), (8, 6), (3, 0), (8, 6), (3, 0), (8, 6), (3, 0), (8, 6), (3, 0), (8, 6), (3, 0), (8, 6), (1, 0), (1, 0), (1, 0), (1, 0), (1, 0), (1, 0), (4, 0), (2, 0), (8, 24), (8, 24), (8, 24), (8, 7), (10, 6), (9, 6), (3, 0), (8, 6), (3, 0), (8, 6), (3, 0), (8, 6), (3, 0), (8, 6), (3, 0), (8, 6), (3, 0), (8, 6), (1, 0), (1, 0), (1, 0), (1, 0), (1, 0), (1, 0)]) 3 rfl) (by rw [(zx_k (L := [(0, 0), (7, 150), (8, 3), (11, 4), (2, 0), (8, 24), (8, 24), (8, 24), (4, 0), (2, 0), (8, 24), (8, 24), (8, 24), (8, 7), (10, 6), (9, 6), (3, 0), (8, 6), (3, 0), (8, 6), (3, 0), (8, 6), (3, 0), (8, 6), (3, 0), (8, 6), (3, 0), (8, 6), (1, 0), (1, 0), (1, 0), (1, 0), (1, 0), (1, 0), (4, 0), (2, 0), (8, 24), (8, 24), (8, 24), (8, 7), (10, 6), (9, 6), (3, 0), (8, 6), (3, 0), (8, 6), (3, 0), (8, 6), (3, 0), (8, 6), (3, 0), (8, 6), (3, 0), (8, 6), (1, 0), (1, 0), (1, 0), (1, 0), (1, 0), (1, 0), (4, 0), (2, 0), (8, 24), (8, 24), (8, 24), (8, 7), (10, 6), (9, 6), (3, 0), (8, 6), (3, 0), (8, 6), (3, 0), (8, 6), (3, 0), (8, 6), (3, 0), (8, 6), (3, 0), (8, 6), (1, 0), (1, 0), (1, 0), (1, 0), (1, 0), (1, 0)]) 3 rfl)]; decide) (zx_k1 (L := [(0, 0), (7, 150), (8, 3), (11, 4), (2, 0), (8, 24), (8, 24), (8, 24), (4, 0), (2, 0), (8, 24), (8, 24), (8, 24), (8, 7), (10, 6), (9, 6), (3, 0), (8, 6), (3, 0), (8, 6), (3, 0), (8, 6), (3, 0), (8, 6), (3, 0), (8, 6), (3, 0), (8, 6), (1, 0), (1, 0), (1, 0), (1, 0), (1, 0), (1, 0), (4, 0), (2, 0), (8, 24), (8, 24), (8, 24), (8, 7), (10, 6), (9, 6), (3, 0), (8, 6), (3, 0), (8, 6), (3, 0), (8, 6), (3, 0), (8, 6), (3, 0), (8, 6), (3, 0), (8, 6), (1, 0), (1, 0), (1, 0), (1, 0), (1, 0), (1, 0), (4, 0), (2, 0), (8, 24), (8, 24), (8, 24), (8, 7), (10, 6), (9, 6), (3, 0), (8, 6), (3, 0), (8, 6), (3, 0), (8, 6), (3, 0), (8, 6), (3, 0), (8, 6), (3, 0), (8, 6), (1, 0), (1, 0), (1, 0), (1, 0), (1, 0), (1, 0)]) 60 rfl) eμ16 (dk kX7_init 33 rfl) ?_
  refine g_iinc C86 (i := 2) (v := 2) (lv' := [(2, .int 2), (1, .ref (za Z (zn Z + 4))), (0, .ref (za Z a0))]) 0 (dk kX7_init 34 rfl) rfl (by decide) (by decide) rfl ?_
  refine g_goto C86 (tgt := 45) (dk kX7_init 35 rfl) (by decide) ?_
  refine g_iload_n C86 (i := 2) 0 rfl rfl (dk kX7_init 23 rfl) ?_
  refine g_iconst C86 (v := 4) (by decide) (dk kX7_init 24 rfl) ?_
  refine g_icmp_ge C86 (tgt := 70) (dk kX7_init 25 rfl) (by decide) (fun c => absurd c (by decide)) (fun _ => ?_)
  refine g_aload_n C86 (i := 0) 2 rfl rfl (dk kX7_init 26 rfl) ?_
  refine gR_5_1 C86 (zx_o1 C.ok k0 (by decide)) (C86.w wd_1_201) (r := (zn Z + 3)) (by simp [eμ16, eμ15, eμ14, eμ13, eμ12, eμ11, eμ10, eμ9, eμ8, eμ7, eμ6, eμ5, eμ4, eμ3, eμ2, eμ1, sR, sI, sIr, nwM, up2, upR, hn0, hn1, hn2, hn3, hn4, hlt0, fr_X2_init, fr_X3_init, fr_X4_init, fr_X1_init, fr_X5_init]) (dk kX7_init 27 rfl) ?_
  refine g_iload_n C86 (i := 2) 0 rfl rfl (dk kX7_init 28 rfl) ?_
  refine g_new C86 E2 (by show (xs X).heap.size + _ = zb Z + (zn Z + 86); omega) (by show zn Z + 86 < 1000; omega) (c := 4) inTX5 tyX5_ok rfl (by decide) wd_1_64 wd_1_94 wd_1_6 ob_4 ⟨Nat.le_of_ble_eq_true rfl, Nat.le_of_ble_eq_true rfl⟩ (dk kX7_init 29 rfl) ?_
  obtain ⟨μ17, eμ17⟩ : ∃ x : Mm, x = nwM μ16 (zn Z + 86) := ⟨_, rfl⟩
  refine g_eq eμ17 ?_
  refine g_zeq (show _ = zx Z [(0, 0), (7, 150), (8, 3), (11, 4), (2, 0), (8, 24), (8, 24), (8, 24), (4, 0), (2, 0), (8, 24), (8, 24), (8, 24), (8, 7), (10, 6), (9, 6), (3, 0), (8, 6), (3, 0), (8, 6), (3, 0), (8, 6), (3, 0), (8, 6), (3, 0), (8, 6), (3, 0), (8, 6), (1, 0), (1, 0), (1, 0), (1, 0), (1, 0), (1, 0), (4, 0), (2, 0), (8, 24), (8, 24), (8, 24), (8, 7), (10, 6), (9, 6), (3, 0), (8, 6), (3, 0), (8, 6), (3, 0), (8, 6), (3, 0), (8, 6), (3, 0), (8, 6), (3, 0), (8, 6), (1, 0), (1, 0), (1, 0), (1, 0), (1, 0), (1, 0), (4, 0), (2, 0), (8, 24), (8, 24), (8, 24), (8, 7), (10, 6), (9, 6), (3, 0), (8, 6), (3, 0), (8, 6), (3, 0), (8, 6), (3, 0), (8, 6), (3, 0), (8, 6), (3, 0), (8, 6), (1, 0), (1, 0), (1, 0), (1, 0), (1, 0), (1, 0), (4, 0)] from zx_zx) ?_
  have C87 := cx_zx (L := [(0, 0), (7, 150), (8, 3), (11, 4), (2, 0), (8, 24), (8, 24), (8, 24), (4, 0), (2, 0), (8, 24), (8, 24), (8, 24), (8, 7), (10, 6), (9, 6), (3, 0), (8, 6), (3, 0), (8, 6), (3, 0), (8, 6), (3, 0), (8, 6), (3, 0), (8, 6), (3, 0), (8, 6), (1, 0), (1, 0), (1, 0), (1, 0), (1, 0), (1, 0), (4, 0), (2, 0), (8, 24), (8, 24), (8, 24), (8, 7), (10, 6), (9, 6), (3, 0), (8, 6), (3, 0), (8, 6), (3, 0), (8, 6), (3, 0), (8, 6), (3, 0), (8, 6), (3, 0), (8, 6), (1, 0), (1, 0), (1, 0), (1, 0), (1, 0), (1, 0), (4, 0), (2, 0), (8, 24), (8, 24), (8, 24), (8, 7), (10, 6), (9, 6), (3, 0), (8, 6), (3, 0), (8, 6), (3, 0), (8, 6), (3, 0), (8, 6), (3, 0), (8, 6), (3, 0), (8, 6), (1, 0), (1, 0), (1, 0), (1, 0), (1, 0), (1, 0), (4, 0)]) C (by show zn Z + 87 ≤ 1000; omega)
  refine g_dup C87 rfl (dk kX7_init 30 rfl) ?_
  refine g_aload_n C87 (i := 1) 1 rfl rfl (dk kX7_init 31 rfl) ?_
  refine g_callI C87 E2 (by show (xs X).heap.size + _ = zb Z + (zn Z + 87); omega) (rest := [.ref (za Z (zn Z + 86)), .int 2, .ref (za Z (zn Z + 3))]) 1 (ct_X5_init (zx_k1 (L := [(0, 0), (7, 150), (8, 3), (11, 4), (2, 0), (8, 24), (8, 24), (8, 24), (4, 0), (2, 0), (8, 24), (8, 24), (8, 24), (8, 7), (10, 6), (9, 6), (3, 0), (8, 6), (3, 0), (8, 6), (3, 0), (8, 6), (3, 0), (8, 6), (3, 0), (8, 6), (3, 0), (8, 6), (1, 0), (1, 0), (1, 0), (1, 0), (1, 0), (1, 0), (4, 0), (2, 0), (8, 24), (8, 24), (8, 24), (8, 7), (10, 6), (9, 6), (3, 0), (8, 6), (3, 0), (8, 6), (3, 0), (8, 6), (3, 0), (8, 6), (3, 0), (8, 6), (3, 0), (8, 6), (1, 0), (1, 0), (1, 0), (1, 0), (1, 0), (1, 0), (4, 0), (2, 0), (8, 24), (8, 24), (8, 24), (8, 7), (10, 6), (9, 6), (3, 0), (8, 6), (3, 0), (8, 6), (3, 0), (8, 6), (3, 0), (8, 6), (3, 0), (8, 6), (3, 0), (8, 6), (1, 0), (1, 0), (1, 0), (1, 0), (1, 0), (1, 0), (4, 0)]) 86 rfl) (zx_k1 (L := [(0, 0), (7, 150), (8, 3), (11, 4), (2, 0), (8, 24), (8, 24), (8, 24), (4, 0), (2, 0), (8, 24), (8, 24), (8, 24), (8, 7), (10, 6), (9, 6), (3, 0), (8, 6), (3, 0), (8, 6), (3, 0), (8, 6), (3, 0), (8, 6), (3, 0), (8, 6), (3, 0), (8, 6), (1, 0), (1, 0), (1, 0), (1, 0), (1, 0), (1, 0), (4, 0), (2, 0), (8, 24), (8, 24), (8, 24), (8, 7), (10, 6), (9, 6), (3, 0), (8, 6), (3, 0), (8, 6), (3, 0), (8, 6), (3, 0), (8, 6), (3, 0), (8, 6), (3, 0), (8, 6), (1, 0), (1, 0), (1, 0), (1, 0), (1, 0), (1, 0), (4, 0), (2, 0), (8, 24), (8, 24), (8, 24), (8, 7), (10, 6), (9, 6), (3, 0), (8, 6), (3, 0), (8, 6), (3, 0), (8, 6), (3, 0), (8, 6), (3, 0), (8, 6), (3, 0), (8, 6), (1, 0), (1, 0), (1, 0), (1, 0), (1, 0), (1, 0), (4, 0)]) 4 rfl) (by show zn Z + 87 + 25 ≤ 1000; omega)) wd_1_95 wd_1_96 wd_1_6 wd_1_97 rfl ⟨by decide, by decide, by decide⟩ rfl (by decide) rfl (Nat.le_of_ble_eq_true rfl) ⟨Nat.le_of_ble_eq_true rfl, Nat.le_of_ble_eq_true rfl⟩ (dk kX7_init 32 rfl) ?_
  obtain ⟨μ18, eμ18⟩ : ∃ x : Mm, x = i_X5_init (zn Z + 87) μ17 (zn Z + 86) (zn Z + 4) := ⟨_, rfl⟩
  refine g_eq eμ18 ?_
  refine g_zeq (show _ = zx Z [(0, 0), (7, 150), (8, 3), (11, 4), (2, 0), (8, 24), (8, 24), (8, 24), (4, 0), (2, 0), (8, 24), (8, 24), (8, 24), (8, 7), (10, 6), (9, 6), (3, 0), (8, 6), (3, 0), (8, 6), (3, 0), (8, 6), (3, 0), (8, 6), (3, 0), (8, 6), (3, 0), (8, 6), (1, 0), (1, 0), (1, 0), (1, 0), (1, 0), (1, 0), (4, 0), (2, 0), (8, 24), (8, 24), (8, 24), (8, 7), (10, 6), (9, 6), (3, 0), (8, 6), (3, 0), (8, 6), (3, 0), (8, 6), (3, 0), (8, 6), (3, 0), (8, 6), (3, 0), (8, 6), (1, 0), (1, 0), (1, 0), (1, 0), (1, 0), (1, 0), (4, 0), (2, 0), (8, 24), (8, 24), (8, 24), (8, 7), (10, 6), (9, 6), (3, 0), (8, 6), (3, 0), (8, 6), (3, 0), (8, 6), (3, 0), (8, 6), (3, 0), (8, 6), (3, 0), (8, 6), (1, 0), (1, 0), (1, 0), (1, 0), (1, 0), (1, 0), (4, 0), (2, 0), (8, 24), (8, 24), (8, 24), (8, 7), (10, 6), (9, 6), (3, 0), (8, 6), (3, 0), (8, 6), (3, 0), (8, 6), (3, 0), (8, 6), (3, 0), (8, 6), (3, 0), (8, 6), (1, 0), (1, 0), (1, 0), (1, 0), (1, 0), (1, 0)] from zx_zx) ?_
  have C112 := cx_zx (L := [(0, 0), (7, 150), (8, 3), (11, 4), (2, 0), (8, 24), (8, 24), (8, 24), (4, 0), (2, 0), (8, 24), (8, 24), (8, 24), (8, 7), (10, 6), (9, 6), (3, 0), (8, 6), (3, 0), (8, 6), (3, 0), (8, 6), (3, 0), (8, 6), (3, 0), (8, 6), (3, 0), (8, 6), (1, 0), (1, 0), (1, 0), (1, 0), (1, 0), (1, 0), (4, 0), (2, 0), (8, 24), (8, 24), (8, 24), (8, 7), (10, 6), (9, 6), (3, 0), (8, 6), (3, 0), (8, 6), (3, 0), (8, 6), (3, 0), (8, 6), (3, 0), (8, 6), (3, 0), (8, 6), (1, 0), (1, 0), (1, 0), (1, 0), (1, 0), (1, 0), (4, 0), (2, 0), (8, 24), (8, 24), (8, 24), (8, 7), (10, 6), (9, 6), (3, 0), (8, 6), (3, 0), (8, 6), (3, 0), (8, 6), (3, 0), (8, 6), (3, 0), (8, 6), (3, 0), (8, 6), (1, 0), (1, 0), (1, 0), (1, 0), (1, 0), (1, 0), (4, 0), (2, 0), (8, 24), (8, 24), (8, 24), (8, 7), (10, 6), (9, 6), (3, 0), (8, 6), (3, 0), (8, 6), (3, 0), (8, 6), (3, 0), (8, 6), (3, 0), (8, 6), (3, 0), (8, 6), (1, 0), (1, 0), (1, 0), (1, 0), (1, 0), (1, 0)]) C (by show zn Z + 112 ≤ 1000; omega)
  obtain ⟨μ19, eμ19⟩ : ∃ x : Mm, x = sR μ18 (zn Z + 3) (ix 2) (some (zn Z + 86)) := ⟨_, rfl⟩
  refine pA_11 C112 (zx_k1 (L := [(0, 0), (7, 150), (8, 3), (11, 4), (2, 0), (8, 24), (8, 24), (8, 24), (4, 0), (2, 0), (8, 24), (8, 24), (8, 24), (8, 7), (10, 6), (9, 6), (3, 0), (8, 6), (3, 0), (8, 6), (3, 0), (8, 6), (3, 0), (8, 6), (3, 0), (8, 6), (3, 0), (8, 6), (1, 0), (1, 0), (1, 0), (1, 0), (1, 0), (1, 0), (4, 0), (2, 0), (8, 24), (8, 24), (8, 24), (8, 7), (10, 6), (9, 6), (3, 0), (8, 6), (3, 0), (8, 6), (3, 0), (8, 6), (3, 0), (8, 6), (3, 0), (8, 6), (3, 0), (8, 6), (1, 0), (1, 0), (1, 0), (1, 0), (1, 0), (1, 0), (4, 0), (2, 0), (8, 24), (8, 24), (8, 24), (8, 7), (10, 6), (9, 6), (3, 0), (8, 6), (3, 0), (8, 6), (3, 0), (8, 6), (3, 0), (8, 6), (3, 0), (8, 6), (3, 0), (8, 6), (1, 0), (1, 0), (1, 0), (1, 0), (1, 0), (1, 0), (4, 0), (2, 0), (8, 24), (8, 24), (8, 24), (8, 7), (10, 6), (9, 6), (3, 0), (8, 6), (3, 0), (8, 6), (3, 0), (8, 6), (3, 0), (8, 6), (3, 0), (8, 6), (3, 0), (8, 6), (1, 0), (1, 0), (1, 0), (1, 0), (1, 0), (1, 0)]) 3 rfl) (by rw [(zx_k (L := [(0, 0), (7, 150), (8, 3), (11, 4), (2, 0), (8, 24), (8, 24), (8, 24), (4, 0), (2, 0), (8, 24), (8, 24), (8, 24), (8, 7), (10, 6), (9, 6), (3, 0), (8, 6), (3, 0), (8, 6), (3, 0), (8, 6), (3, 0), (8, 6), (3, 0), (8, 6), (3, 0), (8, 6), (1, 0), (1, 0), (1, 0), (1, 0), (1, 0), (1, 0), (4, 0), (2, 0), (8, 24), (8, 24), (8, 24), (8, 7), (10, 6), (9, 6), (3, 0), (8, 6), (3, 0), (8, 6), (3, 0), (8, 6), (3, 0), (8, 6), (3, 0), (8, 6), (3, 0), (8, 6), (1, 0), (1, 0), (1, 0), (1, 0), (1, 0), (1, 0), (4, 0), (2, 0), (8, 24), (8, 24), (8, 24), (8, 7), (10, 6), (9, 6), (3, 0), (8, 6), (3, 0), (8, 6), (3, 0), (8, 6), (3, 0), (8, 6), (3, 0), (8, 6), (3, 0), (8, 6), (1, 0), (1, 0), (1, 0), (1, 0), (1, 0), (1, 0), (4, 0), (2, 0), (8, 24), (8, 24), (8, 24), (8, 7), (10, 6), (9, 6), (3, 0), (8, 6), (3, 0), (8, 6), (3, 0), (8, 6), (3, 0), (8, 6), (3, 0), (8, 6), (3, 0), (8, 6), (1, 0), (1, 0), (1, 0), (1, 0), (1, 0), (1, 0)]) 3 rfl)]; decide) (zx_k1 (L := [(0, 0), (7, 150), (8, 3), (11, 4), (2, 0), (8, 24), (8, 24), (8, 24), (4, 0), (2, 0), (8, 24), (8, 24), (8, 24), (8, 7), (10, 6), (9, 6), (3, 0), (8, 6), (3, 0), (8, 6), (3, 0), (8, 6), (3, 0), (8, 6), (3, 0), (8, 6), (3, 0), (8, 6), (1, 0), (1, 0), (1, 0), (1, 0), (1, 0), (1, 0), (4, 0), (2, 0), (8, 24), (8, 24), (8, 24), (8, 7), (10, 6), (9, 6), (3, 0), (8, 6), (3, 0), (8, 6), (3, 0), (8, 6), (3, 0), (8, 6), (3, 0), (8, 6), (3, 0), (8, 6), (1, 0), (1, 0), (1, 0), (1, 0), (1, 0), (1, 0), (4, 0), (2, 0), (8, 24), (8, 24), (8, 24), (8, 7), (10, 6), (9, 6), (3, 0), (8, 6), (3, 0), (8, 6), (3, 0), (8, 6), (3, 0), (8, 6), (3, 0), (8, 6), (3, 0), (8, 6), (1, 0), (1, 0), (1, 0), (1, 0), (1, 0), (1, 0), (4, 0), (2, 0), (8, 24), (8, 24), (8, 24), (8, 7), (10, 6), (9, 6), (3, 0), (8, 6), (3, 0), (8, 6), (3, 0), (8, 6), (3, 0), (8, 6), (3, 0), (8, 6), (3, 0), (8, 6), (1, 0), (1, 0), (1, 0), (1, 0), (1, 0), (1, 0)]) 86 rfl) eμ19 (dk kX7_init 33 rfl) ?_
  refine g_iinc C112 (i := 2) (v := 3) (lv' := [(2, .int 3), (1, .ref (za Z (zn Z + 4))), (0, .ref (za Z a0))]) 0 (dk kX7_init 34 rfl) rfl (by decide) (by decide) rfl ?_
  refine g_goto C112 (tgt := 45) (dk kX7_init 35 rfl) (by decide) ?_
  refine g_iload_n C112 (i := 2) 0 rfl rfl (dk kX7_init 23 rfl) ?_
  refine g_iconst C112 (v := 4) (by decide) (dk kX7_init 24 rfl) ?_
  refine g_icmp_ge C112 (tgt := 70) (dk kX7_init 25 rfl) (by decide) (fun c => absurd c (by decide)) (fun _ => ?_)
  refine g_aload_n C112 (i := 0) 2 rfl rfl (dk kX7_init 26 rfl) ?_
  refine gR_5_1 C112 (zx_o1 C.ok k0 (by decide)) (C112.w wd_1_201) (r := (zn Z + 3)) (by simp [eμ19, eμ18, eμ17, eμ16, eμ15, eμ14, eμ13, eμ12, eμ11, eμ10, eμ9, eμ8, eμ7, eμ6, eμ5, eμ4, eμ3, eμ2, eμ1, sR, sI, sIr, nwM, up2, upR, hn0, hn1, hn2, hn3, hn4, hlt0, fr_X2_init, fr_X3_init, fr_X4_init, fr_X1_init, fr_X5_init]) (dk kX7_init 27 rfl) ?_
  refine g_iload_n C112 (i := 2) 0 rfl rfl (dk kX7_init 28 rfl) ?_
  refine g_new C112 E2 (by show (xs X).heap.size + _ = zb Z + (zn Z + 112); omega) (by show zn Z + 112 < 1000; omega) (c := 4) inTX5 tyX5_ok rfl (by decide) wd_1_64 wd_1_94 wd_1_6 ob_4 ⟨Nat.le_of_ble_eq_true rfl, Nat.le_of_ble_eq_true rfl⟩ (dk kX7_init 29 rfl) ?_
  obtain ⟨μ20, eμ20⟩ : ∃ x : Mm, x = nwM μ19 (zn Z + 112) := ⟨_, rfl⟩
  refine g_eq eμ20 ?_
  refine g_zeq (show _ = zx Z [(0, 0), (7, 150), (8, 3), (11, 4), (2, 0), (8, 24), (8, 24), (8, 24), (4, 0), (2, 0), (8, 24), (8, 24), (8, 24), (8, 7), (10, 6), (9, 6), (3, 0), (8, 6), (3, 0), (8, 6), (3, 0), (8, 6), (3, 0), (8, 6), (3, 0), (8, 6), (3, 0), (8, 6), (1, 0), (1, 0), (1, 0), (1, 0), (1, 0), (1, 0), (4, 0), (2, 0), (8, 24), (8, 24), (8, 24), (8, 7), (10, 6), (9, 6), (3, 0), (8, 6), (3, 0), (8, 6), (3, 0), (8, 6), (3, 0), (8, 6), (3, 0), (8, 6), (3, 0), (8, 6), (1, 0), (1, 0), (1, 0), (1, 0), (1, 0), (1, 0), (4, 0), (2, 0), (8, 24), (8, 24), (8, 24), (8, 7), (10, 6), (9, 6), (3, 0), (8, 6), (3, 0), (8, 6), (3, 0), (8, 6), (3, 0), (8, 6), (3, 0), (8, 6), (3, 0), (8, 6), (1, 0), (1, 0), (1, 0), (1, 0), (1, 0), (1, 0), (4, 0), (2, 0), (8, 24), (8, 24), (8, 24), (8, 7), (10, 6), (9, 6), (3, 0), (8, 6), (3, 0), (8, 6), (3, 0), (8, 6), (3, 0), (8, 6), (3, 0), (8, 6), (3, 0), (8, 6), (1, 0), (1, 0), (1, 0), (1, 0), (1, 0), (1, 0), (4, 0)] from zx_zx) ?_
  have C113 := cx_zx (L := [(0, 0), (7, 150), (8, 3), (11, 4), (2, 0), (8, 24), (8, 24), (8, 24), (4, 0), (2, 0), (8, 24), (8, 24), (8, 24), (8, 7), (10, 6), (9, 6), (3, 0), (8, 6), (3, 0), (8, 6), (3, 0), (8, 6), (3, 0), (8, 6), (3, 0), (8, 6), (3, 0), (8, 6), (1, 0), (1, 0), (1, 0), (1, 0), (1, 0), (1, 0), (4, 0), (2, 0), (8, 24), (8, 24), (8, 24), (8, 7), (10, 6), (9, 6), (3, 0), (8, 6), (3, 0), (8, 6), (3, 0), (8, 6), (3, 0), (8, 6), (3, 0), (8, 6), (3, 0), (8, 6), (1, 0), (1, 0), (1, 0), (1, 0), (1, 0), (1, 0), (4, 0), (2, 0), (8, 24), (8, 24), (8, 24), (8, 7), (10, 6), (9, 6), (3, 0), (8, 6), (3, 0), (8, 6), (3, 0), (8, 6), (3, 0), (8, 6), (3, 0), (8, 6), (3, 0), (8, 6), (1, 0), (1, 0), (1, 0), (1, 0), (1, 0), (1, 0), (4, 0), (2, 0), (8, 24), (8, 24), (8, 24), (8, 7), (10, 6), (9, 6), (3, 0), (8, 6), (3, 0), (8, 6), (3, 0), (8, 6), (3, 0), (8, 6), (3, 0), (8, 6), (3, 0), (8, 6), (1, 0), (1, 0), (1, 0), (1, 0), (1, 0), (1, 0), (4, 0)]) C (by show zn Z + 113 ≤ 1000; omega)
  refine g_dup C113 rfl (dk kX7_init 30 rfl) ?_
  refine g_aload_n C113 (i := 1) 1 rfl rfl (dk kX7_init 31 rfl) ?_
  refine g_callI C113 E2 (by show (xs X).heap.size + _ = zb Z + (zn Z + 113); omega) (rest := [.ref (za Z (zn Z + 112)), .int 3, .ref (za Z (zn Z + 3))]) 1 (ct_X5_init (zx_k1 (L := [(0, 0), (7, 150), (8, 3), (11, 4), (2, 0), (8, 24), (8, 24), (8, 24), (4, 0), (2, 0), (8, 24), (8, 24), (8, 24), (8, 7), (10, 6), (9, 6), (3, 0), (8, 6), (3, 0), (8, 6), (3, 0), (8, 6), (3, 0), (8, 6), (3, 0), (8, 6), (3, 0), (8, 6), (1, 0), (1, 0), (1, 0), (1, 0), (1, 0), (1, 0), (4, 0), (2, 0), (8, 24), (8, 24), (8, 24), (8, 7), (10, 6), (9, 6), (3, 0), (8, 6), (3, 0), (8, 6), (3, 0), (8, 6), (3, 0), (8, 6), (3, 0), (8, 6), (3, 0), (8, 6), (1, 0), (1, 0), (1, 0), (1, 0), (1, 0), (1, 0), (4, 0), (2, 0), (8, 24), (8, 24), (8, 24), (8, 7), (10, 6), (9, 6), (3, 0), (8, 6), (3, 0), (8, 6), (3, 0), (8, 6), (3, 0), (8, 6), (3, 0), (8, 6), (3, 0), (8, 6), (1, 0), (1, 0), (1, 0), (1, 0), (1, 0), (1, 0), (4, 0), (2, 0), (8, 24), (8, 24), (8, 24), (8, 7), (10, 6), (9, 6), (3, 0), (8, 6), (3, 0), (8, 6), (3, 0), (8, 6), (3, 0), (8, 6), (3, 0), (8, 6), (3, 0), (8, 6), (1, 0), (1, 0), (1, 0), (1, 0), (1, 0), (1, 0), (4, 0)]) 112 rfl) (zx_k1 (L := [(0, 0), (7, 150), (8, 3), (11, 4), (2, 0), (8, 24), (8, 24), (8, 24), (4, 0), (2, 0), (8, 24), (8, 24), (8, 24), (8, 7), (10, 6), (9, 6), (3, 0), (8, 6), (3, 0), (8, 6), (3, 0), (8, 6), (3, 0), (8, 6), (3, 0), (8, 6), (3, 0), (8, 6), (1, 0), (1, 0), (1, 0), (1, 0), (1, 0), (1, 0), (4, 0), (2, 0), (8, 24), (8, 24), (8, 24), (8, 7), (10, 6), (9, 6), (3, 0), (8, 6), (3, 0), (8, 6), (3, 0), (8, 6), (3, 0), (8, 6), (3, 0), (8, 6), (3, 0), (8, 6), (1, 0), (1, 0), (1, 0), (1, 0), (1, 0), (1, 0), (4, 0), (2, 0), (8, 24), (8, 24), (8, 24), (8, 7), (10, 6), (9, 6), (3, 0), (8, 6), (3, 0), (8, 6), (3, 0), (8, 6), (3, 0), (8, 6), (3, 0), (8, 6), (3, 0), (8, 6), (1, 0), (1, 0), (1, 0), (1, 0), (1, 0), (1, 0), (4, 0), (2, 0), (8, 24), (8, 24), (8, 24), (8, 7), (10, 6), (9, 6), (3, 0), (8, 6), (3, 0), (8, 6), (3, 0), (8, 6), (3, 0), (8, 6), (3, 0), (8, 6), (3, 0), (8, 6), (1, 0), (1, 0), (1, 0), (1, 0), (1, 0), (1, 0), (4, 0)]) 4 rfl) (by show zn Z + 113 + 25 ≤ 1000; omega)) wd_1_95 wd_1_96 wd_1_6 wd_1_97 rfl ⟨by decide, by decide, by decide⟩ rfl (by decide) rfl (Nat.le_of_ble_eq_true rfl) ⟨Nat.le_of_ble_eq_true rfl, Nat.le_of_ble_eq_true rfl⟩ (dk kX7_init 32 rfl) ?_
  obtain ⟨μ21, eμ21⟩ : ∃ x : Mm, x = i_X5_init (zn Z + 113) μ20 (zn Z + 112) (zn Z + 4) := ⟨_, rfl⟩
  refine g_eq eμ21 ?_
  refine g_zeq (show _ = zx Z [(0, 0), (7, 150), (8, 3), (11, 4), (2, 0), (8, 24), (8, 24), (8, 24), (4, 0), (2, 0), (8, 24), (8, 24), (8, 24), (8, 7), (10, 6), (9, 6), (3, 0), (8, 6), (3, 0), (8, 6), (3, 0), (8, 6), (3, 0), (8, 6), (3, 0), (8, 6), (3, 0), (8, 6), (1, 0), (1, 0), (1, 0), (1, 0), (1, 0), (1, 0), (4, 0), (2, 0), (8, 24), (8, 24), (8, 24), (8, 7), (10, 6), (9, 6), (3, 0), (8, 6), (3, 0), (8, 6), (3, 0), (8, 6), (3, 0), (8, 6), (3, 0), (8, 6), (3, 0), (8, 6), (1, 0), (1, 0), (1, 0), (1, 0), (1, 0), (1, 0), (4, 0), (2, 0), (8, 24), (8, 24), (8, 24), (8, 7), (10, 6), (9, 6), (3, 0), (8, 6), (3, 0), (8, 6), (3, 0), (8, 6), (3, 0), (8, 6), (3, 0), (8, 6), (3, 0), (8, 6), (1, 0), (1, 0), (1, 0), (1, 0), (1, 0), (1, 0), (4, 0), (2, 0), (8, 24), (8, 24), (8, 24), (8, 7), (10, 6), (9, 6), (3, 0), (8, 6), (3, 0), (8, 6), (3, 0), (8, 6), (3, 0), (8, 6), (3, 0), (8, 6), (3, 0), (8, 6), (1, 0), (1, 0), (1, 0), (1, 0), (1, 0), (1, 0), (4, 0), (2, 0), (8, 24), (8, 24), (8, 24), (8, 7), (10, 6), (9, 6), (3, 0), (8, 6), (3, 0), (8, 6), (3, 0), (8, 6), (3, 0), (8, 6), (3, 0), (8, 6), (3, 0), (8, 6), (1, 0), (1, 0), (1, 0), (1, 0), (1, 0), (1, 0)] from zx_zx) ?_
  have C138 := cx_zx (L := [(0, 0), (7, 150), (8, 3), (11, 4), (2, 0), (8, 24), (8, 24), (8, 24), (4, 0), (2, 0), (8, 24), (8, 24), (8, 24), (8, 7), (10, 6), (9, 6), (3, 0), (8, 6), (3, 0), (8, 6), (3, 0), (8, 6), (3, 0), (8, 6), (3, 0), (8, 6), (3, 0), (8, 6), (1, 0), (1, 0), (1, 0), (1, 0), (1, 0), (1, 0), (4, 0), (2, 0), (8, 24), (8, 24), (8, 24), (8, 7), (10, 6), (9, 6), (3, 0), (8, 6), (3, 0), (8, 6), (3, 0), (8, 6), (3, 0), (8, 6), (3, 0), (8, 6), (3, 0), (8, 6), (1, 0), (1, 0), (1, 0), (1, 0), (1, 0), (1, 0), (4, 0), (2, 0), (8, 24), (8, 24), (8, 24), (8, 7), (10, 6), (9, 6), (3, 0), (8, 6), (3, 0), (8, 6), (3, 0), (8, 6), (3, 0), (8, 6), (3, 0), (8, 6), (3, 0), (8, 6), (1, 0), (1, 0), (1, 0), (1, 0), (1, 0), (1, 0), (4, 0), (2, 0), (8, 24), (8, 24), (8, 24), (8, 7), (10, 6), (9, 6), (3, 0), (8, 6), (3, 0), (8, 6), (3, 0), (8, 6), (3, 0), (8, 6), (3, 0), (8, 6), (3, 0), (8, 6), (1, 0), (1, 0), (1, 0), (1, 0), (1, 0), (1, 0), (4, 0), (2, 0), (8, 24), (8, 24), (8, 24), (8, 7), (10, 6), (9, 6), (3, 0), (8, 6), (3, 0), (8, 6), (3, 0), (8, 6), (3, 0), (8, 6), (3, 0), (8, 6), (3, 0), (8, 6), (1, 0), (1, 0), (1, 0), (1, 0), (1, 0), (1, 0)]) C (by show zn Z + 138 ≤ 1000; omega)
  obtain ⟨μ22, eμ22⟩ : ∃ x : Mm, x = sR μ21 (zn Z + 3) (ix 3) (some (zn Z + 112)) := ⟨_, rfl⟩
  refine pA_11 C138 (zx_k1 (L := [(0, 0), (7, 150), (8, 3), (11, 4), (2, 0), (8, 24), (8, 24), (8, 24), (4, 0), (2, 0), (8, 24), (8, 24), (8, 24), (8, 7), (10, 6), (9, 6), (3, 0), (8, 6), (3, 0), (8, 6), (3, 0), (8, 6), (3, 0), (8, 6), (3, 0), (8, 6), (3, 0), (8, 6), (1, 0), (1, 0), (1, 0), (1, 0), (1, 0), (1, 0), (4, 0), (2, 0), (8, 24), (8, 24), (8, 24), (8, 7), (10, 6), (9, 6), (3, 0), (8, 6), (3, 0), (8, 6), (3, 0), (8, 6), (3, 0), (8, 6), (3, 0), (8, 6), (3, 0), (8, 6), (1, 0), (1, 0), (1, 0), (1, 0), (1, 0), (1, 0), (4, 0), (2, 0), (8, 24), (8, 24), (8, 24), (8, 7), (10, 6), (9, 6), (3, 0), (8, 6), (3, 0), (8, 6), (3, 0), (8, 6), (3, 0), (8, 6), (3, 0), (8, 6), (3, 0), (8, 6), (1, 0), (1, 0), (1, 0), (1, 0), (1, 0), (1, 0), (4, 0), (2, 0), (8, 24), (8, 24), (8, 24), (8, 7), (10, 6), (9, 6), (3, 0), (8, 6), (3, 0), (8, 6), (3, 0), (8, 6), (3, 0), (8, 6), (3, 0), (8, 6), (3, 0), (8, 6), (1, 0), (1, 0), (1, 0), (1, 0), (1, 0), (1, 0), (4, 0), (2, 0), (8, 24), (8, 24), (8, 24), (8, 7), (10, 6), (9, 6), (3, 0), (8, 6), (3, 0), (8, 6), (3, 0), (8, 6), (3, 0), (8, 6), (3, 0), (8, 6), (3, 0), (8, 6), (1, 0), (1, 0), (1, 0), (1, 0), (1, 0), (1, 0)]) 3 rfl) (by rw [(zx_k (L := [(0, 0), (7, 150), (8, 3), (11, 4), (2, 0), (8, 24), (8, 24), (8, 24), (4, 0), (2, 0), (8, 24), (8, 24), (8, 24), (8, 7), (10, 6), (9, 6), (3, 0), (8, 6), (3, 0), (8, 6), (3, 0), (8, 6), (3, 0), (8, 6), (3, 0), (8, 6), (3, 0), (8, 6), (1, 0), (1, 0), (1, 0), (1, 0), (1, 0), (1, 0), (4, 0), (2, 0), (8, 24), (8, 24), (8, 24), (8, 7), (10, 6), (9, 6), (3, 0), (8, 6), (3, 0), (8, 6), (3, 0), (8, 6), (3, 0), (8, 6), (3, 0), (8, 6), (3, 0), (8, 6), (1, 0), (1, 0), (1, 0), (1, 0), (1, 0), (1, 0), (4, 0), (2, 0), (8, 24), (8, 24), (8, 24), (8, 7), (10, 6), (9, 6), (3, 0), (8, 6), (3, 0), (8, 6), (3, 0), (8, 6), (3, 0), (8, 6), (3, 0), (8, 6), (3, 0), (8, 6), (1, 0), (1, 0), (1, 0), (1, 0), (1, 0), (1, 0), (4, 0), (2, 0), (8, 24), (8, 24), (8, 24), (8, 7), (10, 6), (9, 6), (3, 0), (8, 6), (3, 0), (8, 6), (3, 0), (8, 6), (3, 0), (8, 6), (3, 0), (8, 6), (3, 0), (8, 6), (1, 0), (1, 0), (1, 0), (1, 0), (1, 0), (1, 0), (4, 0), (2, 0), (8, 24), (8, 24), (8, 24), (8, 7), (10, 6), (9, 6), (3, 0), (8, 6), (3, 0), (8, 6), (3, 0), (8, 6), (3, 0), (8, 6), (3, 0), (8, 6), (3, 0), (8, 6), (1, 0), (1, 0), (1, 0), (1, 0), (1, 0), (1, 0)]) 3 rfl)]; decide) (zx_k1 (L := [(0, 0), (7, 150), (8, 3), (11, 4), (2, 0), (8, 24), (8, 24), (8, 24), (4, 0), (2, 0), (8, 24), (8, 24), (8, 24), (8, 7), (10, 6), (9, 6), (3, 0), (8, 6), (3, 0), (8, 6), (3, 0), (8, 6), (3, 0), (8, 6), (3, 0), (8, 6), (3, 0), (8, 6), (1, 0), (1, 0), (1, 0), (1, 0), (1, 0), (1, 0), (4, 0), (2, 0), (8, 24), (8, 24), (8, 24), (8, 7), (10, 6), (9, 6), (3, 0), (8, 6), (3, 0), (8, 6), (3, 0), (8, 6), (3, 0), (8, 6), (3, 0), (8, 6), (3, 0), (8, 6), (1, 0), (1, 0), (1, 0), (1, 0), (1, 0), (1, 0), (4, 0), (2, 0), (8, 24), (8, 24), (8, 24), (8, 7), (10, 6), (9, 6), (3, 0), (8, 6), (3, 0), (8, 6), (3, 0), (8, 6), (3, 0), (8, 6), (3, 0), (8, 6), (3, 0), (8, 6), (1, 0), (1, 0), (1, 0), (1, 0), (1, 0), (1, 0), (4, 0), (2, 0), (8, 24), (8, 24), (8, 24), (8, 7), (10, 6), (9, 6), (3, 0), (8, 6), (3, 0), (8, 6), (3, 0), (8, 6), (3, 0), (8, 6), (3, 0), (8, 6), (3, 0), (8, 6), (1, 0), (1, 0), (1, 0), (1, 0), (1, 0), (1, 0), (4, 0), (2, 0), (8, 24), (8, 24), (8, 24), (8, 7), (10, 6), (9, 6), (3, 0), (8, 6), (3, 0), (8, 6), (3, 0), (8, 6), (3, 0), (8, 6), (3, 0), (8, 6), (3, 0), (8, 6), (1, 0), (1, 0), (1, 0), (1, 0), (1, 0), (1, 0)]) 112 rfl) eμ22 (dk kX7_init 33 rfl) ?_
  refine g_iinc C138 (i := 2) (v := 4) (lv' := [(2, .int 4), (1, .ref (za Z (zn Z + 4))), (0, .ref (za Z a0))]) 0 (dk kX7_init 34 rfl) rfl (by decide) (by decide) rfl ?_
  refine g_goto C138 (tgt := 45) (dk kX7_init 35 rfl) (by decide) ?_
  refine g_iload_n C138 (i := 2) 0 rfl rfl (dk kX7_init 23 rfl) ?_
  refine g_iconst C138 (v := 4) (by decide) (dk kX7_init 24 rfl) ?_
  refine g_icmp_ge C138 (tgt := 70) (dk kX7_init 25 rfl) (by decide) (fun _ => ?_) (fun c => absurd (by decide) c)
  subst_vars
  exact g_vretZ C E (Nat.le_of_ble_eq_true rfl) (Nat.le_of_ble_eq_true rfl) (dk kX7_init 36 rfl)

def qX8_init : List (Nat × Instr × Nat) := [(0, .aload_n 0, 1), (1, .invokespecial 1, 3), (4, .aload_n 0, 1), (5, .sipush 182, 3), (8, .newarray .int, 2), (10, .putfield 7, 3), (13, .aload_n 0, 1), (14, .sipush 182, 3), (17, .newarray .int, 2), (19, .putfield 13, 3), (22, .aload_n 0, 1), (23, .sipush 728, 3), (26, .newarray .int, 2), (28, .putfield 16, 3), (31, .aload_n 0, 1), (32, .sipush 150, 3), (35, .newarray .int, 2), (37, .putfield 19, 3), (40, .aload_n 0, 1), (41, .iconst 3, 1), (42, .newarray .int, 2), (44, .putfield 22, 3), (47, .aload_n 0, 1), (48, .getfield 7, 3), (51, .iconst 0, 1), (52, .bipush 12, 2), (54, .iastore, 1), (55, .aload_n 0, 1), (56, .getfield 7, 3), (59, .iconst 1, 1), (60, .bipush 8, 2), (62, .iastore, 1), (63, .aload_n 0, 1), (64, .getfield 7, 3), (67, .iconst 2, 1), (68, .bipush 60, 2), (70, .iastore, 1), (71, .aload_n 0, 1), (72, .getfield 7, 3), (75, .iconst 3, 1), (76, .bipush 100, 2), (78, .iastore, 1), (79, .aload_n 0, 1), (80, .getfield 7, 3), (83, .iconst 4, 1), (84, .bipush 20, 2), (86, .iastore, 1), (87, .aload_n 0, 1), (88, .getfield 7, 3), (91, .iconst 5, 1), (92, .iconst 1, 1), (93, .iastore, 1), (94, .aload_n 0, 1), (95, .getfield 7, 3), (98, .bipush 6, 2), (100, .iconst 2, 1), (101, .iastore, 1), (102, .aload_n 0, 1), (103, .getfield 7, 3), (106, .bipush 7, 2), (108, .iconst 5, 1), (109, .iastore, 1), (110, .return_, 1)]
theorem kX8_init : ∀ q ∈ qX8_init, decode cX8_init q.1 = .ok q.2 := by decide +kernel
def i_X8_init (n : Nat) (μ : Mm) (a0 : Nat) : Mm :=
  let μ1 : Mm := nwM μ (n + 0)
  let μ2 : Mm := sR μ1 a0 0 (some (n + 0))
  let μ3 : Mm := nwM μ2 (n + 1)
  let μ4 : Mm := sR μ3 a0 1 (some (n + 1))
  let μ5 : Mm := nwM μ4 (n + 2)
  let μ6 : Mm := sR μ5 a0 2 (some (n + 2))
  let μ7 : Mm := nwM μ6 (n + 3)
  let μ8 : Mm := sR μ7 a0 5 (some (n + 3))
  let μ9 : Mm := nwM μ8 (n + 4)
  let μ10 : Mm := sR μ9 a0 10 (some (n + 4))
  let μ11 : Mm := sI μ10 (n + 0) (ix 0) 12
  let μ12 : Mm := sI μ11 (n + 0) (ix 1) 8
  let μ13 : Mm := sI μ12 (n + 0) (ix 2) 60
  let μ14 : Mm := sI μ13 (n + 0) (ix 3) 100
  let μ15 : Mm := sI μ14 (n + 0) (ix 4) 20
  let μ16 : Mm := sI μ15 (n + 0) (ix 5) 1
  let μ17 : Mm := sI μ16 (n + 0) (ix 6) 2
  let μ18 : Mm := sI μ17 (n + 0) (ix 7) 5
  μ18
set_option maxRecDepth 100000 in
set_option maxHeartbeats 8000000 in
theorem ct_X8_init {l : Launch} {Z : ZZ} {μ : Mm} {a0 : Nat} (k0 : (zk Z a0).1 = 6) (h1000 : zn Z + 5 ≤ 1000) : CtM l Z true yX8_init cX8_init 1 none 1 5 1245 [.ref (za Z a0)] μ none (zx Z [(8, 182), (8, 182), (8, 728), (8, 150), (8, 3)]) (i_X8_init (zn Z) μ a0) := by
  refine ct_ofI rfl rfl (Nat.le_of_ble_eq_true rfl) (fun X C E hini => ?_)
  have hs0 := C.2.2.2.2.2.2 rfl
  have hlt0 : a0 < zn Z := zk_lt C.ok k0 (by decide)
  have hn0 : ∀ i, a0 ≠ zn Z + i := fun i => by omega
  have hn1 : a0 ≠ zn Z := by omega
  have hn4 : ∀ i, a0 < zn Z + i := fun i => by omega
  have hn2 : ∀ i, zn Z + i ≠ a0 := fun i => by omega
  have hn3 : zn Z ≠ a0 := by omega
  have C0 := cx_zx (L := []) C (by show zn Z + 0 ≤ 1000; omega)
  have E2 := E.2
  show G Z X 1 0 0 0 [(0, .ref (za Z a0))] [] μ
  refine g_zin C.ok ?_
  refine g_aload_n C0 (i := 0) 0 rfl rfl (dk kX8_init 0 rfl) ?_
  refine g_objI C0 E2 wd_5_2 wd_1_30 wd_1_31 (by decide) (Nat.le_of_ble_eq_true rfl) (dk kX8_init 1 rfl) ?_
  refine g_aload_n C0 (i := 0) 0 rfl rfl (dk kX8_init 2 rfl) ?_
  refine g_sipush C0 (v := 182) (by decide) (dk kX8_init 3 rfl) ?_
  refine g_newI C0 E2 (by show (xs X).heap.size + _ = zb Z + (zn Z + 0); omega) (by show zn Z + 0 < 1000; omega) 182 wd_1_63 (by decide) (by decide) (by decide) ⟨Nat.le_of_ble_eq_true rfl, Nat.le_of_ble_eq_true rfl⟩ (dk kX8_init 4 rfl) ?_
  obtain ⟨μ1, eμ1⟩ : ∃ x : Mm, x = nwM μ (zn Z + 0) := ⟨_, rfl⟩
  refine g_eq eμ1 ?_
  refine g_zeq (show _ = zx Z [(8, 182)] from zx_zx) ?_
  have C1 := cx_zx (L := [(8, 182)]) C (by show zn Z + 1 ≤ 1000; omega)
  obtain ⟨μ2, eμ2⟩ : ∃ x : Mm, x = sR μ1 a0 0 (some (zn Z + 0)) := ⟨_, rfl⟩
  refine pF_6_0 C1 (zx_o1 C.ok k0 (by decide)) (C1.w wd_5_3) hini rfl eμ2 (dk kX8_init 5 rfl) ?_
  refine g_aload_n C1 (i := 0) 0 rfl rfl (dk kX8_init 6 rfl) ?_
  refine g_sipush C1 (v := 182) (by decide) (dk kX8_init 7 rfl) ?_
  refine g_newI C1 E2 (by show (xs X).heap.size + _ = zb Z + (zn Z + 1); omega) (by show zn Z + 1 < 1000; omega) 182 wd_1_63 (by decide) (by decide) (by decide) ⟨Nat.le_of_ble_eq_true rfl, Nat.le_of_ble_eq_true rfl⟩ (dk kX8_init 8 rfl) ?_
  obtain ⟨μ3, eμ3⟩ : ∃ x : Mm, x = nwM μ2 (zn Z + 1) := ⟨_, rfl⟩
  refine g_eq eμ3 ?_
  refine g_zeq (show _ = zx Z [(8, 182), (8, 182)] from zx_zx) ?_
  have C2 := cx_zx (L := [(8, 182), (8, 182)]) C (by show zn Z + 2 ≤ 1000; omega)
  obtain ⟨μ4, eμ4⟩ : ∃ x : Mm, x = sR μ3 a0 1 (some (zn Z + 1)) := ⟨_, rfl⟩
  refine pF_6_1 C2 (zx_o1 C.ok k0 (by decide)) (C2.w wd_5_4) hini rfl eμ4 (dk kX8_init 9 rfl) ?_
  refine g_aload_n C2 (i := 0) 0 rfl rfl (dk kX8_init 10 rfl) ?_
  refine g_sipush C2 (v := 728) (by decide) (dk kX8_init 11 rfl) ?_
  refine g_newI C2 E2 (by show (xs X).heap.size + _ = zb Z + (zn Z + 2); omega) (by show zn Z + 2 < 1000; omega) 728 wd_1_63 (by decide) (by decide) (by decide) ⟨Nat.le_of_ble_eq_true rfl, Nat.le_of_ble_eq_true rfl⟩ (dk kX8_init 12 rfl) ?_
  obtain ⟨μ5, eμ5⟩ : ∃ x : Mm, x = nwM μ4 (zn Z + 2) := ⟨_, rfl⟩
  refine g_eq eμ5 ?_
  refine g_zeq (show _ = zx Z [(8, 182), (8, 182), (8, 728)] from zx_zx) ?_
  have C3 := cx_zx (L := [(8, 182), (8, 182), (8, 728)]) C (by show zn Z + 3 ≤ 1000; omega)
  obtain ⟨μ6, eμ6⟩ : ∃ x : Mm, x = sR μ5 a0 2 (some (zn Z + 2)) := ⟨_, rfl⟩
  refine pF_6_2 C3 (zx_o1 C.ok k0 (by decide)) (C3.w wd_5_5) hini rfl eμ6 (dk kX8_init 13 rfl) ?_
  refine g_aload_n C3 (i := 0) 0 rfl rfl (dk kX8_init 14 rfl) ?_
  refine g_sipush C3 (v := 150) (by decide) (dk kX8_init 15 rfl) ?_
  refine g_newI C3 E2 (by show (xs X).heap.size + _ = zb Z + (zn Z + 3); omega) (by show zn Z + 3 < 1000; omega) 150 wd_1_63 (by decide) (by decide) (by decide) ⟨Nat.le_of_ble_eq_true rfl, Nat.le_of_ble_eq_true rfl⟩ (dk kX8_init 16 rfl) ?_
  obtain ⟨μ7, eμ7⟩ : ∃ x : Mm, x = nwM μ6 (zn Z + 3) := ⟨_, rfl⟩
  refine g_eq eμ7 ?_
  refine g_zeq (show _ = zx Z [(8, 182), (8, 182), (8, 728), (8, 150)] from zx_zx) ?_
  have C4 := cx_zx (L := [(8, 182), (8, 182), (8, 728), (8, 150)]) C (by show zn Z + 4 ≤ 1000; omega)
  obtain ⟨μ8, eμ8⟩ : ∃ x : Mm, x = sR μ7 a0 5 (some (zn Z + 3)) := ⟨_, rfl⟩
  refine pF_6_5 C4 (zx_o1 C.ok k0 (by decide)) (C4.w wd_5_8) hini rfl eμ8 (dk kX8_init 17 rfl) ?_
  refine g_aload_n C4 (i := 0) 0 rfl rfl (dk kX8_init 18 rfl) ?_
  refine g_iconst C4 (v := 3) (by decide) (dk kX8_init 19 rfl) ?_
  refine g_newI C4 E2 (by show (xs X).heap.size + _ = zb Z + (zn Z + 4); omega) (by show zn Z + 4 < 1000; omega) 3 wd_1_63 (by decide) (by decide) (by decide) ⟨Nat.le_of_ble_eq_true rfl, Nat.le_of_ble_eq_true rfl⟩ (dk kX8_init 20 rfl) ?_
  obtain ⟨μ9, eμ9⟩ : ∃ x : Mm, x = nwM μ8 (zn Z + 4) := ⟨_, rfl⟩
  refine g_eq eμ9 ?_
  refine g_zeq (show _ = zx Z [(8, 182), (8, 182), (8, 728), (8, 150), (8, 3)] from zx_zx) ?_
  have C5 := cx_zx (L := [(8, 182), (8, 182), (8, 728), (8, 150), (8, 3)]) C (by show zn Z + 5 ≤ 1000; omega)
  obtain ⟨μ10, eμ10⟩ : ∃ x : Mm, x = sR μ9 a0 10 (some (zn Z + 4)) := ⟨_, rfl⟩
  refine pF_6_10 C5 (zx_o1 C.ok k0 (by decide)) (C5.w wd_5_13) hini rfl eμ10 (dk kX8_init 21 rfl) ?_
  refine g_aload_n C5 (i := 0) 0 rfl rfl (dk kX8_init 22 rfl) ?_
  refine gR_6_0 C5 (zx_o1 C.ok k0 (by decide)) (C5.w wd_5_3) (r := (zn Z + 0)) (by simp [eμ10, eμ9, eμ8, eμ7, eμ6, eμ5, eμ4, eμ3, eμ2, eμ1, sR, sI, sIr, nwM, up2, upR, hn0, hn1, hn2, hn3, hn4, hlt0, fr_X2_init, fr_X3_init, fr_X4_init, fr_X1_init, fr_X5_init]) (dk kX8_init 23 rfl) ?_
  refine g_iconst C5 (v := 0) (by decide) (dk kX8_init 24 rfl) ?_
  refine g_bipush C5 (v := 12) (by decide) (dk kX8_init 25 rfl) ?_
  obtain ⟨μ11, eμ11⟩ : ∃ x : Mm, x = sI μ10 (zn Z + 0) (ix 0) 12 := ⟨_, rfl⟩
  refine g_iast C5 (zx_k1 (L := [(8, 182), (8, 182), (8, 728), (8, 150), (8, 3)]) 0 rfl) (by rw [(zx_k (L := [(8, 182), (8, 182), (8, 728), (8, 150), (8, 3)]) 0 rfl)]; decide) eμ11 (dk kX8_init 26 rfl) ?_
  refine g_aload_n C5 (i := 0) 0 rfl rfl (dk kX8_init 27 rfl) ?_
  refine gR_6_0 C5 (zx_o1 C.ok k0 (by decide)) (C5.w wd_5_3) (r := (zn Z + 0)) (by simp [eμ11, eμ10, eμ9, eμ8, eμ7, eμ6, eμ5, eμ4, eμ3, eμ2, eμ1, sR, sI, sIr, nwM, up2, upR, hn0, hn1, hn2, hn3, hn4, hlt0, fr_X2_init, fr_X3_init, fr_X4_init, fr_X1_init, fr_X5_init]) (dk kX8_init 28 rfl) ?_
  refine g_iconst C5 (v := 1) (by decide) (dk kX8_init 29 rfl) ?_
  refine g_bipush C5 (v := 8) (by decide) (dk kX8_init 30 rfl) ?_
  obtain ⟨μ12, eμ12⟩ : ∃ x : Mm, x = sI μ11 (zn Z + 0) (ix 1) 8 := ⟨_, rfl⟩
  refine g_iast C5 (zx_k1 (L := [(8, 182), (8, 182), (8, 728), (8, 150), (8, 3)]) 0 rfl) (by rw [(zx_k (L := [(8, 182), (8, 182), (8, 728), (8, 150), (8, 3)]) 0 rfl)]; decide) eμ12 (dk kX8_init 31 rfl) ?_
  refine g_aload_n C5 (i := 0) 0 rfl rfl (dk kX8_init 32 rfl) ?_
  refine gR_6_0 C5 (zx_o1 C.ok k0 (by decide)) (C5.w wd_5_3) (r := (zn Z + 0)) (by simp [eμ12, eμ11, eμ10, eμ9, eμ8, eμ7, eμ6, eμ5, eμ4, eμ3, eμ2, eμ1, sR, sI, sIr, nwM, up2, upR, hn0, hn1, hn2, hn3, hn4, hlt0, fr_X2_init, fr_X3_init, fr_X4_init, fr_X1_init, fr_X5_init]) (dk kX8_init 33 rfl) ?_
  refine g_iconst C5 (v := 2) (by decide) (dk kX8_init 34 rfl) ?_
  refine g_bipush C5 (v := 60) (by decide) (dk kX8_init 35 rfl) ?_
  obtain ⟨μ13, eμ13⟩ : ∃ x : Mm, x = sI μ12 (zn Z + 0) (ix 2) 60 := ⟨_, rfl⟩
  refine g_iast C5 (zx_k1 (L := [(8, 182), (8, 182), (8, 728), (8, 150), (8, 3)]) 0 rfl) (by rw [(zx_k (L := [(8, 182), (8, 182), (8, 728), (8, 150), (8, 3)]) 0 rfl)]; decide) eμ13 (dk kX8_init 36 rfl) ?_
  refine g_aload_n C5 (i := 0) 0 rfl rfl (dk kX8_init 37 rfl) ?_
  refine gR_6_0 C5 (zx_o1 C.ok k0 (by decide)) (C5.w wd_5_3) (r := (zn Z + 0)) (by simp [eμ13, eμ12, eμ11, eμ10, eμ9, eμ8, eμ7, eμ6, eμ5, eμ4, eμ3, eμ2, eμ1, sR, sI, sIr, nwM, up2, upR, hn0, hn1, hn2, hn3, hn4, hlt0, fr_X2_init, fr_X3_init, fr_X4_init, fr_X1_init, fr_X5_init]) (dk kX8_init 38 rfl) ?_
  refine g_iconst C5 (v := 3) (by decide) (dk kX8_init 39 rfl) ?_
  refine g_bipush C5 (v := 100) (by decide) (dk kX8_init 40 rfl) ?_
  obtain ⟨μ14, eμ14⟩ : ∃ x : Mm, x = sI μ13 (zn Z + 0) (ix 3) 100 := ⟨_, rfl⟩
  refine g_iast C5 (zx_k1 (L := [(8, 182), (8, 182), (8, 728), (8, 150), (8, 3)]) 0 rfl) (by rw [(zx_k (L := [(8, 182), (8, 182), (8, 728), (8, 150), (8, 3)]) 0 rfl)]; decide) eμ14 (dk kX8_init 41 rfl) ?_
  refine g_aload_n C5 (i := 0) 0 rfl rfl (dk kX8_init 42 rfl) ?_
  refine gR_6_0 C5 (zx_o1 C.ok k0 (by decide)) (C5.w wd_5_3) (r := (zn Z + 0)) (by simp [eμ14, eμ13, eμ12, eμ11, eμ10, eμ9, eμ8, eμ7, eμ6, eμ5, eμ4, eμ3, eμ2, eμ1, sR, sI, sIr, nwM, up2, upR, hn0, hn1, hn2, hn3, hn4, hlt0, fr_X2_init, fr_X3_init, fr_X4_init, fr_X1_init, fr_X5_init]) (dk kX8_init 43 rfl) ?_
  refine g_iconst C5 (v := 4) (by decide) (dk kX8_init 44 rfl) ?_
  refine g_bipush C5 (v := 20) (by decide) (dk kX8_init 45 rfl) ?_
  obtain ⟨μ15, eμ15⟩ : ∃ x : Mm, x = sI μ14 (zn Z + 0) (ix 4) 20 := ⟨_, rfl⟩
  refine g_iast C5 (zx_k1 (L := [(8, 182), (8, 182), (8, 728), (8, 150), (8, 3)]) 0 rfl) (by rw [(zx_k (L := [(8, 182), (8, 182), (8, 728), (8, 150), (8, 3)]) 0 rfl)]; decide) eμ15 (dk kX8_init 46 rfl) ?_
  refine g_aload_n C5 (i := 0) 0 rfl rfl (dk kX8_init 47 rfl) ?_
  refine gR_6_0 C5 (zx_o1 C.ok k0 (by decide)) (C5.w wd_5_3) (r := (zn Z + 0)) (by simp [eμ15, eμ14, eμ13, eμ12, eμ11, eμ10, eμ9, eμ8, eμ7, eμ6, eμ5, eμ4, eμ3, eμ2, eμ1, sR, sI, sIr, nwM, up2, upR, hn0, hn1, hn2, hn3, hn4, hlt0, fr_X2_init, fr_X3_init, fr_X4_init, fr_X1_init, fr_X5_init]) (dk kX8_init 48 rfl) ?_
  refine g_iconst C5 (v := 5) (by decide) (dk kX8_init 49 rfl) ?_
  refine g_iconst C5 (v := 1) (by decide) (dk kX8_init 50 rfl) ?_
  obtain ⟨μ16, eμ16⟩ : ∃ x : Mm, x = sI μ15 (zn Z + 0) (ix 5) 1 := ⟨_, rfl⟩
  refine g_iast C5 (zx_k1 (L := [(8, 182), (8, 182), (8, 728), (8, 150), (8, 3)]) 0 rfl) (by rw [(zx_k (L := [(8, 182), (8, 182), (8, 728), (8, 150), (8, 3)]) 0 rfl)]; decide) eμ16 (dk kX8_init 51 rfl) ?_
  refine g_aload_n C5 (i := 0) 0 rfl rfl (dk kX8_init 52 rfl) ?_
  refine gR_6_0 C5 (zx_o1 C.ok k0 (by decide)) (C5.w wd_5_3) (r := (zn Z + 0)) (by simp [eμ16, eμ15, eμ14, eμ13, eμ12, eμ11, eμ10, eμ9, eμ8, eμ7, eμ6, eμ5, eμ4, eμ3, eμ2, eμ1, sR, sI, sIr, nwM, up2, upR, hn0, hn1, hn2, hn3, hn4, hlt0, fr_X2_init, fr_X3_init, fr_X4_init, fr_X1_init, fr_X5_init]) (dk kX8_init 53 rfl) ?_
  refine g_bipush C5 (v := 6) (by decide) (dk kX8_init 54 rfl) ?_
  refine g_iconst C5 (v := 2) (by decide) (dk kX8_init 55 rfl) ?_
  obtain ⟨μ17, eμ17⟩ : ∃ x : Mm, x = sI μ16 (zn Z + 0) (ix 6) 2 := ⟨_, rfl⟩
  refine g_iast C5 (zx_k1 (L := [(8, 182), (8, 182), (8, 728), (8, 150), (8, 3)]) 0 rfl) (by rw [(zx_k (L := [(8, 182), (8, 182), (8, 728), (8, 150), (8, 3)]) 0 rfl)]; decide) eμ17 (dk kX8_init 56 rfl) ?_
  refine g_aload_n C5 (i := 0) 0 rfl rfl (dk kX8_init 57 rfl) ?_
  refine gR_6_0 C5 (zx_o1 C.ok k0 (by decide)) (C5.w wd_5_3) (r := (zn Z + 0)) (by simp [eμ17, eμ16, eμ15, eμ14, eμ13, eμ12, eμ11, eμ10, eμ9, eμ8, eμ7, eμ6, eμ5, eμ4, eμ3, eμ2, eμ1, sR, sI, sIr, nwM, up2, upR, hn0, hn1, hn2, hn3, hn4, hlt0, fr_X2_init, fr_X3_init, fr_X4_init, fr_X1_init, fr_X5_init]) (dk kX8_init 58 rfl) ?_
  refine g_bipush C5 (v := 7) (by decide) (dk kX8_init 59 rfl) ?_
  refine g_iconst C5 (v := 5) (by decide) (dk kX8_init 60 rfl) ?_
  obtain ⟨μ18, eμ18⟩ : ∃ x : Mm, x = sI μ17 (zn Z + 0) (ix 7) 5 := ⟨_, rfl⟩
  refine g_iast C5 (zx_k1 (L := [(8, 182), (8, 182), (8, 728), (8, 150), (8, 3)]) 0 rfl) (by rw [(zx_k (L := [(8, 182), (8, 182), (8, 728), (8, 150), (8, 3)]) 0 rfl)]; decide) eμ18 (dk kX8_init 61 rfl) ?_
  subst_vars
  exact g_vretZ C E (Nat.le_of_ble_eq_true rfl) (Nat.le_of_ble_eq_true rfl) (dk kX8_init 62 rfl)
end
section
/-! EXCEPTIONS: a method that throws for sure (its memory stays), what a caller makes of it -/
section Exc
def XC0 (Z : ZZ) (E : String) (μ : Mm) : String → State → State → Prop := fun E' st t => E' = E ∧ Wd Z μ t t.heap ∧ va_F (AA Z) st t
def NoQ : Array Value → State → Outcome → State → Prop := fun _ _ _ _ => False
def CtX (l : Launch) (Z : ZZ) (y : MethodName) (bytes : ByteArray) (maxL : Nat) (rt : Option FieldType) (d mc ms : Nat) (av : List Value) (μ : Mm) (E : String) : Prop :=
  vx_Met l y (Cond.code y bytes maxL rt :: TB) (rmm d mc ms) (va_Pc av (Pc0 Z false μ)) NoQ (XC0 Z E μ) mc ms (AA Z)
/-- the end of a body that throws -/
def EX (Z : ZZ) (X : XX) (d mc ms : Nat) (E : String) (μ : Mm) : Prop := xQ X = vx_MQ (xb X) NoQ (XC0 Z E μ) (xa X) (xs X) mc ms (AA Z) ∧ xR X = rmm d mc ms ∧ ∀ x ∈ (xc X).exceptionTable.toList, False
variable {l : Launch} {Z Z' : ZZ} {ex : Bool} {X : XX} {cc : ByteArray} {own : String} {nL : Nat} {ret : Option FieldType} {d mc ms : Nat} {o : Option Value} {μ μ' : Mm} {cells slots pc : Nat} {lv lv' : List (Nat × Value)} {rest : List Value} {E : String}
theorem ctx_of {y : MethodName} {av : List Value} (hy : plainName y.cls = true) (ho : y.cls = own) (hlen : (lg_sl av).length ≤ nL)
    (body : ∀ X : XX, Cx l Z false X cc own nL ret → EX Z X d mc ms E μ → G Z X nL 0 0 0 (lv_args 0 av) [] μ) : CtX l Z y cc nL ret d mc ms av μ E := by
  refine vx_ofW (cc := cc) (maxL := nL) (ret := ret) (ws' := TB) hy rfl ?_
  intro p e s m args below meth c s₁ B hml hno hv
  obtain ⟨rfl, hW, ⟨hK, hN⟩, hZ, hb, hx⟩ := hv
  have hts := atoms_spec (ws := Cond.code y cc nL ret :: TB) B.pre
  have hown : s.vm.findClass own = some m.cls := by rw [← ho]; exact findClass_of_methodNamed B.named
  have hg := body (p, l, e, rmm d mc ms, s, m, av.toArray, below, meth, c, vx_MQ below NoQ (XC0 Z E μ) av.toArray s mc ms (AA Z))
    ⟨⟨B.exec, B.bytes, hml⟩, ⟨hown, fun w h => hts w (List.mem_cons_of_mem _ h), hN⟩, ⟨B.notSynchronized, B.returns⟩, ⟨hK, hZ⟩, rfl, hb, hx⟩ ⟨rfl, rfl, hno⟩
    s.heap [] _ hW va_S.rf (lv_entry av hlen)
  rw [lg_entry_eq]
  exact hg
theorem xc_at (C : Cx l Z ex X cc own nL ret) {H : Heap} {locs : List Loc} (hW : Wd Z μ (xs X) H) (hS : va_S (AA Z) (xs X).heap H locs) (t : State) (hA : (xs X).vm.Alike t.vm) (h1 : H.size ≤ t.heap.size) (h2 : ∀ q : Nat, q < H.size → t.heap[q]? = H[q]?) : XC0 Z E μ E (xs X) t :=
  ⟨rfl, ⟨va_P.kept hW.1 (fun k q hq => h2 q.1 ((hW.1 k q hq).lt)), ST.moved hA (ST.kept hW.2 (fun a ha _ => h2 a ha))⟩, Nat.le_trans hS.1 h1, fun q hq hn => (h2 q (Nat.lt_of_lt_of_le hq hS.1)).trans (hS.2.1 q hq hn)⟩
theorem hat_of (C : Cx l Z ex X cc own nL ret) (L B : List Cond) (h1 : L.all (fun w => !goodWord w || decide (w ∈ lw_tbl)) = true) (h2 : L.all (fun w => goodWord w || decide (w ∈ B)) = true) (hB : ∀ w ∈ B, w.before (xa X) (xs X) = true) : ∀ w ∈ L, w.before (xa X) (xs X) = true := by
  intro w hw
  have a1 := List.all_eq_true.mp h1 w hw
  have a2 := List.all_eq_true.mp h2 w hw
  by_cases hg : goodWord w = true
  · rw [hg] at a1
    have hm : w ∈ lw_tbl := by simpa using a1
    exact C.ts w (List.mem_filter.mpr ⟨hm, hg⟩)
  · have hg : goodWord w = false := by simpa using hg
    rw [hg] at a2
    have hm : w ∈ B := by simpa using a2
    exact hB w hm
def XB (c : String) : List Cond := [.castable c c, .declares ⟨"java/lang/RuntimeException", "<init>", "(Ljava/lang/String;)V"⟩, .declares ⟨"java/lang/Exception", "<init>", "(Ljava/lang/String;)V"⟩, .declares ⟨"java/lang/Throwable", "<init>", "(Ljava/lang/String;)V"⟩]
theorem xb_ok (C : Cx l Z ex X cc own nL ret) {c : String} (hc : (c, c) ∈ NC) : ∀ w ∈ XB c, w.before (xa X) (xs X) = true := by
  intro w hw
  simp only [XB, List.mem_cons, List.not_mem_nil, or_false] at hw
  rcases hw with rfl | rfl | rfl | rfl
  · exact va_Nw.use rfl (C.nw.2.2.1 (c, c) hc)
  · exact va_Nw.use rfl (C.nw.2.2.2.1 _ (List.mem_of_getElem? (i := 0) rfl))
  · exact va_Nw.use rfl (C.nw.2.2.2.1 _ (List.mem_of_getElem? (i := 1) rfl))
  · exact va_Nw.use rfl (C.nw.2.2.2.1 _ (List.mem_of_getElem? (i := 2) rfl))
def XNs : List String := ["java/lang/RuntimeException", "java/lang/Exception"]
theorem xns_fit : ∀ n ∈ XNs, Bundle.fit n = true := by decide +kernel
theorem gx_throwS (C : Cx l Z false X cc RX7 nL ret) (hl : l.stackTraces = false) (EE : EX Z X d mc ms E μ) {text : String} {ik is ic : Nat} (hfit : Bundle.fit E = true) (w1 : Cond.classLink RX7 ik E ∈ TB) (w2 : Cond.initialized E ∈ TB) (hsr : (is, text) ∈ SR) (hc : (E, E) ∈ NC)
    (h1 : (vx_atS RX7 ic E XNs).all (fun w => !goodWord w || decide (w ∈ lw_tbl)) = true) (h2 : (vx_atS RX7 ic E XNs).all (fun w => goodWord w || decide (w ∈ XB E)) = true) (h3 : (Cond.classLink RX7 ik E :: Cond.initialized E :: vx_atS RX7 ic E XNs).all vx_ot = true)
    (d0 : decode cc pc = .ok (.new ik, 3)) (d3 : decode cc (pc + 3) = .ok (.dup, 1)) (d4 : decode cc (pc + 4) = .ok (.ldc is, 2)) (d6 : decode cc (pc + 6) = .ok (.invokespecial ic, 3)) (d9 : decode cc (pc + 9) = .ok (.athrow, 1)) (hd : 6 ≤ d) (hro : (rest.map fun v => v.category).sum ≤ 8) (hcs : cells + 1 ≤ mc ∧ slots + 6 ≤ ms) : G Z X nL cells slots pc lv rest μ := fun H locs ls hW hS h => by
  obtain ⟨sa, hsa⟩ := C.nw.2.2.2.2.2.1 _ hsr
  have hst := st0 C hW hS
  rw [EE.1]
  exact vx_throwS C.exec C.code (by rw [C.ln]; exact hl) C.ow hfit xns_fit (C.w w1) (C.w w2) hsa (hat_of C _ _ h1 h2 (xb_ok C hc)) (fun w hw => List.all_eq_true.mp h3 w hw) hst.2.2.2.2.2.2.1 hst.2.2.2.2.2.2.2 hS (h.1.trans C.ml.symm) d0 d3 d4 d6 d9 (fun x hx => (EE.2.2 x hx).elim)
    (by rw [EE.2.1]; show 2 + 3 < d; omega) (by rw [EE.2.1]; show _ + 82 ≤ 37 * d; omega) (by rw [EE.2.1]; exact hcs.1) (by rw [EE.2.1]; exact hcs.2) C.locks (fun t a b c => xc_at C hW hS t a b c) hS.2.2 hcs.1 hcs.2
theorem gx_throwSW (C : Cx l Z false X cc RX7 nL ret) (hl : l.stackTraces = false) (EE : EX Z X d mc ms E μ) {text : String} {ik is ic : Nat} (hfit : Bundle.fit E = true) (w1 : Cond.classLink RX7 ik E ∈ TB) (w2 : Cond.initialized E ∈ TB) (hsr : (is, text) ∈ SR) (hc : (E, E) ∈ NC)
    (h1 : (vx_atS RX7 ic E XNs).all (fun w => !goodWord w || decide (w ∈ lw_tbl)) = true) (h2 : (vx_atS RX7 ic E XNs).all (fun w => goodWord w || decide (w ∈ XB E)) = true) (h3 : (Cond.classLink RX7 ik E :: Cond.initialized E :: vx_atS RX7 ic E XNs).all vx_ot = true)
    (d0 : decode cc pc = .ok (.new ik, 3)) (d3 : decode cc (pc + 3) = .ok (.dup, 1)) (d4 : decode cc (pc + 4) = .ok (.ldc_w is, 3)) (d7 : decode cc (pc + 7) = .ok (.invokespecial ic, 3)) (d10 : decode cc (pc + 10) = .ok (.athrow, 1)) (hd : 6 ≤ d) (hro : (rest.map fun v => v.category).sum ≤ 8) (hcs : cells + 1 ≤ mc ∧ slots + 6 ≤ ms) : G Z X nL cells slots pc lv rest μ := fun H locs ls hW hS h => by
  obtain ⟨sa, hsa⟩ := C.nw.2.2.2.2.2.1 _ hsr
  have hst := st0 C hW hS
  rw [EE.1]
  exact vx_throwSW C.exec C.code (by rw [C.ln]; exact hl) C.ow hfit xns_fit (C.w w1) (C.w w2) hsa (hat_of C _ _ h1 h2 (xb_ok C hc)) (fun w hw => List.all_eq_true.mp h3 w hw) hst.2.2.2.2.2.2.1 hst.2.2.2.2.2.2.2 hS (h.1.trans C.ml.symm) d0 d3 d4 d7 d10 (fun x hx => (EE.2.2 x hx).elim)
    (by rw [EE.2.1]; show 2 + 3 < d; omega) (by rw [EE.2.1]; show _ + 82 ≤ 37 * d; omega) (by rw [EE.2.1]; exact hcs.1) (by rw [EE.2.1]; exact hcs.2) C.locks (fun t a b c => xc_at C hW hS t a b c) hS.2.2 hcs.1 hcs.2
/-- a static callee that throws: it goes on to the caller -/
theorem gx_callS (C : Cx l Z false X cc own nL ret) (EE : EX Z X d mc ms E μ) {y : MethodName} {bytes : ByteArray} {maxL d1 mc1 ms1 index : Nat} {rt : Option FieldType} {As st0 : List Value} (n : Nat) (hM : CtX l Z y bytes maxL rt d1 mc1 ms1 As μ E) (m1 : Cond.methodLink own index y ∈ TB) (mm : Cond.static y ∈ TB ∧ Cond.initialized y.cls ∈ TB ∧ Cond.code y bytes maxL rt ∈ TB)
    (hd1 : y.cls ≠ "java/lang/invoke/MethodHandle" ∧ y.cls ≠ "java/lang/invoke/VarHandle" ∧ (parseMethodDescriptor y.desc).map (fun d => d.parameters.length) = some n) (hn : As.length = n) (hR : d1 + 1 ≤ d ∧ maxL + 19 + 37 * d1 ≤ 37 * d) (hst : st0 = As.reverse ++ rest)
    (hro : (rest.map fun v => v.category).sum ≤ 8) (hcs : cells + mc1 ≤ mc ∧ slots + ms1 ≤ ms) (hdg : decode cc pc = .ok (.invokestatic index, 3)) : G Z X nL cells slots pc lv st0 μ := by
  subst hst
  intro H locs ls hW hS h
  have hM' : vx_Met (xl X) y (Cond.code y bytes maxL rt :: TB) (rmm d1 mc1 ms1) (va_Pc As (Pc0 Z false μ)) NoQ (XC0 Z E μ) mc1 ms1 (AA Z) := by rw [C.ln]; exact hM
  have hr : vx_Run (xp X) (xl X) (xe X) (xR X) (xs X) (xm X) (xa X) (xb X) (xh X) (xc X) H locs cells slots mc1 ms1 (F0 (xm X) pc ls (As.reverse ++ rest)) rest (NoQ As.toArray) (XC0 Z E μ) (AA Z) := vx_runS (As := As) (rest := rest) C.fix hM' (va_cwS n C.ts (goodS m1 mm.1 mm.2.1 mm.2.2) rfl rfl rfl hd1 (by rw [EE.2.1]; exact ⟨hR.1, by show 8 + (maxL + 11) + 37 * d1 ≤ 37 * d; omega⟩)) ⟨pc0_blind, pc0_at C hW hS⟩ rfl hn h.1 rfl (lv_room hro) hdg (by rw [EE.2.1]; exact hcs)
  rw [EE.1]
  intro T hT X1
  rcases hr T hT X1 with ⟨v, st₀, t, T', L, h0, X', hL, e1, e2, hq, st⟩ | ⟨q, st₀, t, T', L, E9, ce, h0, X', hL, e1, e2, ⟨hE, hb, hF⟩, hce, hcv, hcl, st⟩
  · exact hq.elim
  · subst hE
    obtain ⟨k1, k2, k3⟩ := vx_keep h0 e1 hS (fun q _ h => h) (fun q h => h) hL hF
    have hW1 : Wd Z μ (xs X) T'.heap := by
      rw [e1]
      exact ⟨hb.1, ST.moved (Vm.Alike.symm (by rw [← e2]; exact X'.warmed.alike)) hb.2⟩
    obtain ⟨t2, a1, b1⟩ := vx_out (pc := pc) (rest := rest) (ls := ls) (Qc := NoQ) (XC := XC0 Z E9 μ) (free := AA Z) (mc := mc) (ms := ms) (cells := cells + mc1) (slots := slots + ms1) (H := T'.heap) (fun x hx => (EE.2.2 x hx).elim) C.locks (by rw [e1]; exact hce) hcv hcl (fun t9 ht9 hA9 => xc_at C hW1 k3 t9 hA9 (by rw [ht9]; exact Nat.le_refl _) (fun q _ => by rw [ht9])) k3.2.2 hcs.1 hcs.2 T' rfl X'
    exact ⟨t2, st.trans a1, b1⟩
/-- a method with a table of its own -/
def CtW (l : Launch) (Z : ZZ) (y : MethodName) (bytes : ByteArray) (maxL : Nat) (rt : Option FieldType) (hh : List (Nat × Nat × Nat × Nat)) (d mc ms : Nat) (av : List Value) (μ : Mm) (o : Option Value) (Z' : ZZ) (μ' : Mm) : Prop :=
  Met l y (Cond.codeWith y bytes maxL rt hh :: TB) (rmm d mc ms) (va_Pc av (Pc0 Z false μ)) (Qc0 Z' o μ') mc ms (AA Z)
def tabOf (hh : List (Nat × Nat × Nat × Nat)) : List ExceptionTableEntry := hh.map (fun q => ⟨q.1, q.2.1, q.2.2.1, q.2.2.2⟩)
theorem tab_eq {L : List ExceptionTableEntry} {hh : List (Nat × Nat × Nat × Nat)} (h : L.map (fun h => (h.startPc, h.endPc, h.handlerPc, h.catchType)) = hh) : L = tabOf hh := by
  subst hh
  simp [tabOf, Function.comp_def]
theorem ctw_of {y : MethodName} {av : List Value} {hh : List (Nat × Nat × Nat × Nat)} (hy : plainName y.cls = true) (ho : y.cls = own) (hlen : (lg_sl av).length ≤ nL)
    (body : ∀ X : XX, Cx l Z false X cc own nL ret → Ex Z X d mc ms o Z' μ' → (xc X).exceptionTable.toList = tabOf hh → G Z X nL 0 0 0 (lv_args 0 av) [] μ) : CtW l Z y cc nL ret hh d mc ms av μ o Z' μ' := by
  unfold CtW Met
  refine MetFree.of_bodyS (code := cc) (maxLocals := nL) (ret := ret) hy ?_ ?_
  · intro args s m h hn
    obtain ⟨m9, meth, c, hn9, h1, h2, h3, h4, -, h5, h6, -⟩ := Cond.codeWith_spec (atoms_spec (ws := Cond.codeWith y cc nL ret hh :: TB) h _ List.mem_cons_self)
    cases hn.symm.trans hn9
    exact ⟨meth, c, h1, h2, h3, h4, h5, h6⟩
  · intro p e s m args below meth c s₁ B hml0 hv _
    obtain ⟨rfl, hW, ⟨hK, hN⟩, hZ, hb, hx⟩ := hv
    have hts := atoms_spec (ws := Cond.codeWith y cc nL ret hh :: TB) B.pre
    obtain ⟨m9, meth9, c9, hn9, g1, g2, g3, g4, g5, g6, g7, g8⟩ := Cond.codeWith_spec (hts _ List.mem_cons_self)
    have em : m9 = m := Option.some.inj (hn9.symm.trans B.named)
    subst em
    have X₀ : Stand p l e (rmm d mc ms) s m9 av.toArray below meth c s₁ [] 0 0 := Stand.of_body B
    have emeth : meth9 = meth := Option.some.inj (g1.symm.trans X₀.method)
    subst emeth
    have ec : c9 = c := Option.some.inj (g2.symm.trans X₀.code)
    subst ec
    have hown : s.vm.findClass own = some m9.cls := by rw [← ho]; exact findClass_of_methodNamed B.named
    have hg := body (p, l, e, rmm d mc ms, s, m9, av.toArray, below, meth9, c9, MQ below (Qc0 Z' o μ') av.toArray s mc ms (AA Z))
      ⟨⟨B.exec, B.bytes, g4⟩, ⟨hown, fun w h => hts w (List.mem_cons_of_mem _ h), hN⟩, ⟨B.notSynchronized, B.returns⟩, ⟨hK, hZ⟩, rfl, hb, hx⟩ ⟨rfl, rfl⟩ (tab_eq g5)
      s.heap [] _ hW va_S.rf (lv_entry av hlen)
    have hh0 : s₁.heap = s.heap := by rw [B.state]; rfl
    rw [← lg_entry_eq] at hg
    obtain ⟨t, a1, o9, b1, b2, b3⟩ := hg s₁ hh0 X₀
    exact ⟨t, o9, a1, b1, b2, ⟨b3.1, b3.2⟩⟩
/-- a callee that throws, and the handler that takes it -/
theorem gx_catchV (C : Cx l Z false X cc own nL ret) (ER : xR X = rmm d mc ms) {y : MethodName} {bytes : ByteArray} {maxL N d1 mc1 ms1 index b ci : Nat} {rt : Option FieldType} {CN : String} {T : u_T} {As st0 : List Value} (n : Nat) (hM : CtX l Z y bytes maxL rt d1 mc1 ms1 (.ref (za Z b) :: As) μ E) (m1 : Cond.methodLink own index y ∈ TB) (mm : Cond.instanceMethod y ∈ TB ∧ Cond.selects CN y y ∈ TB ∧ Cond.initialized CN ∈ TB ∧ Cond.code y bytes maxL rt ∈ TB)
    (hd1 : y.cls = CN ∧ y.cls ≠ "java/lang/invoke/MethodHandle" ∧ y.cls ≠ "java/lang/invoke/VarHandle" ∧ (parseMethodDescriptor y.desc).map (fun d => d.parameters.length) = some n) (hn : As.length = n) (hR : d1 + 1 ≤ d ∧ maxL + 19 + 37 * d1 ≤ 37 * d) (hb : (zk Z b).1 = ci) (hci : ci < 7) (hcl : vwCl[ci]? = some (CN, T, N)) (hst : st0 = As.reverse ++ .ref (za Z b) :: rest)
    (hro : (rest.map fun v => v.category).sum ≤ 8) (hcs : cells + mc1 ≤ mc ∧ slots + ms1 ≤ ms) (hdg : decode cc pc = .ok (.invokevirtual index, 3))
    {hh : List (Nat × Nat × Nat × Nat)} (htab : (xc X).exceptionTable.toList = tabOf hh) (pre suf : List ExceptionTableEntry) (x : ExceptionTableEntry) (hsplit : tabOf hh = pre ++ x :: suf) (hpass : ∀ z ∈ pre, z.catchType ≠ 0 ∧ ∃ nm : String, Cond.classLink own z.catchType nm ∈ TB ∧ (E, nm) ∈ NN) (hx : covers x pc = true) (h0 : x.catchType ≠ 0) (wl9 : Cond.classLink own x.catchType E ∈ TB) (hc : (E, E) ∈ NC)
    (k : ∀ q : Nat, G Z X nL (cells + mc1) (slots + ms1) x.handlerPc lv [.ref q] μ) : G Z X nL cells slots pc lv st0 μ := by
  subst hst
  intro H locs ls hW hS h
  have hM' : vx_Met (xl X) y (Cond.code y bytes maxL rt :: TB) (rmm d1 mc1 ms1) (va_Pc (.ref (za Z b) :: As) (Pc0 Z false μ)) NoQ (XC0 Z E μ) mc1 ms1 (AA Z) := by rw [C.ln]; exact hM
  have hr : vx_Run (xp X) (xl X) (xe X) (xR X) (xs X) (xm X) (xa X) (xb X) (xh X) (xc X) H locs cells slots mc1 ms1 (F0 (xm X) pc ls (As.reverse ++ .ref (za Z b) :: rest)) rest (NoQ (Value.ref (za Z b) :: As).toArray) (XC0 Z E μ) (AA Z) := vx_runV (C := CN) (b := za Z b) (As := As) (rest := rest) C.fix hM' (cwV n C.ts (goodV m1 mm.1 mm.2.1 mm.2.2.1 mm.2.2.2) rfl rfl rfl hd1 (by rw [ER]; exact ⟨hR.1, by show 8 + (maxL + 11) + 37 * d1 ≤ 37 * d; omega⟩)) ⟨pc0_blind, va_recv (q := (CN, T, N)) C.K hW.1 hcl (wl_get (zk_lt C.ok hb (by omega)) |>.trans (by rw [ce_obj hb hci])), pc0_at C hW hS⟩ rfl hn h.1 rfl (lv_room hro) hdg (by rw [ER]; exact hcs)
  intro T0 hT X1
  rcases hr T0 hT X1 with ⟨v, st₀, t, T', L, h00, X', hL, e1, e2, hq, st⟩ | ⟨q, st₀, t, T', L, E9, ce, h00, X', hL, e1, e2, ⟨hE, hb9, hF⟩, hce, hcv, hcl9, st⟩
  · exact hq.elim
  · subst hE
    obtain ⟨k1, k2, k3⟩ := vx_keep h00 e1 hS (fun q _ h => h) (fun q h => h) hL hF
    have hW1 : Wd Z μ (xs X) T'.heap := by
      rw [e1]
      exact ⟨hb9.1, ST.moved (Vm.Alike.symm (by rw [← e2]; exact X'.warmed.alike)) hb9.2⟩
    have hcat := vx_catch (pc := pc) (rest := rest) (ls := ls) (H := T'.heap) (locs := locs ++ L) (cells := cells + mc1) (slots := slots + ms1) (Q := xQ X) (p := xp X) (l := xl X) (e := xe X) (R := xR X) (below := xb X) (meth := xh X) (c := xc X) C.ow pre x suf (htab.trans hsplit) (fun z hz => Or.inr ⟨(hpass z hz).1, by
      obtain ⟨nm, a, b⟩ := (hpass z hz).2
      exact ⟨nm, C.w a, C.nw.2.2.2.2.1 _ b⟩⟩) hx h0 (C.w wl9) (va_Nw.use rfl (C.nw.2.2.1 _ hc)) (by rw [e1]; exact hce) hcv hcl9 (k q T'.heap (locs ++ L) ls hW1 k3 h)
    obtain ⟨t2, a1, b1⟩ := hcat T' rfl X'
    exact ⟨t2, st.trans a1, b1⟩
end Exc
end
